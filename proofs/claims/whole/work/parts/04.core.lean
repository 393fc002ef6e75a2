/-! THE CORE: a universe of cells at places 0, 1 .. n-1 (addresses ad), its numbers in a memory M; walks over it -/
def zI (M : zMem) (k j : Nat) (v : Int32) : zMem := (fun a => if a = k then upd (M.1 k) j v else M.1 a, M.2)
def zL (M : zMem) (k j : Nat) (v : Int64) : zMem := (M.1, fun a => if a = k then vp_updL (M.2.1 k) j v else M.2.1 a, M.2.2)
def zR (M : zMem) (k j : Nat) (v : Nat) : zMem := (M.1, M.2.1, fun a => if a = k then (fun i => if i = j then v else M.2.2 k i) else M.2.2 a)
/-- a row of ints copied -/
def zCI (M : zMem) (src sp dst dp m : Nat) : zMem := (fun a => if a = dst then va_cpy (M.1 src) (M.1 dst) sp dp m else M.1 a, M.2)
def zCL (M : zMem) (src sp dst dp m : Nat) : zMem := (M.1, fun a => if a = dst then va_cpy (M.2.1 src) (M.2.1 dst) sp dp m else M.2.1 a, M.2.2)
def zws (G : zG) (sh ad : Nat → Nat) (n : Nat) (M : zMem) : va_W := (List.range n).map fun k => (ad k, zE G ad k (M.1 k) (M.2.1 k) (M.2.2 k) (sh k))
def zHP (G : zG) (sh ad : Nat → Nat) (n : Nat) (M : zMem) (H : Heap) : Prop := va_P G.1 vwCl (zws G sh ad n M) H
def zT (sh : Nat → Nat) (n k cd : Nat) : Prop := sh k = cd ∧ k < n ∧ k + zB cd ≤ n
def zAd (ad : Nat → Nat) (n : Nat) (A : Nat → Prop) : Prop := (∀ i j, i < n → j < n → ad i = ad j → i = j) ∧ ∀ k, k < n → A (ad k)
def zInj (ad : Nat → Nat) (n : Nat) : Prop := ∀ i j, i < n → j < n → ad i = ad j → i = j
def zA (ad : Nat → Nat) (n sz : Nat) : Nat → Prop := fun q => (∃ k, k < n ∧ q = ad k) ∨ sz ≤ q
def zTys (G : zG) : List (ClassId × FieldType) := [(G.2.1 0, .int), (G.2.1 1, .long), (G.2.1 2, .object "SunnyPans$Pans"), (G.2.1 3, .object "SunnyPans$Stand"), (G.2.1 4, .array .int), (G.2.1 5, .array .long)]
theorem zws_at {G : zG} {sh ad : Nat → Nat} {n k : Nat} {M : zMem} (h : k < n) : (zws G sh ad n M)[k]? = some (ad k, zE G ad k (M.1 k) (M.2.1 k) (M.2.2 k) (sh k)) := by
  unfold zws
  rw [List.getElem?_map, List.getElem?_range h]
  rfl
theorem zws_len {G : zG} {sh ad : Nat → Nat} {n : Nat} {M : zMem} : (zws G sh ad n M).length = n := by simp [zws]
theorem zws_set {G : zG} {sh ad : Nat → Nat} {n k : Nat} {M M' : zMem} {e : va_E} (hk : k < n) (h : ∀ a, a ≠ k → M'.1 a = M.1 a ∧ M'.2.1 a = M.2.1 a ∧ M'.2.2 a = M.2.2 a)
    (he : zE G ad k (M'.1 k) (M'.2.1 k) (M'.2.2 k) (sh k) = e) : (zws G sh ad n M).set k (ad k, e) = zws G sh ad n M' := by
  apply List.ext_getElem?
  intro i
  by_cases hi : i < n
  · rw [zws_at hi]
    by_cases hik : i = k
    · subst hik
      rw [List.getElem?_set_self (by rw [zws_len]; exact hk), ← he]
    · rw [List.getElem?_set_ne (Ne.symm hik), zws_at hi]
      obtain ⟨h1, h2, h3⟩ := h i hik
      rw [h1, h2, h3]
  · rw [List.getElem?_eq_none (by rw [List.length_set, zws_len]; omega), List.getElem?_eq_none (by rw [zws_len]; omega)]
theorem zws_dom {G : zG} {sh ad : Nat → Nat} {n k : Nat} {M : zMem} {q : Nat × va_E} (h : (zws G sh ad n M)[k]? = some q) : k < n ∧ q = (ad k, zE G ad k (M.1 k) (M.2.1 k) (M.2.2 k) (sh k)) := by
  have hk : k < n := by
    have := (List.getElem?_eq_some_iff.mp h).1
    rwa [zws_len] at this
  rw [zws_at hk] at h
  exact ⟨hk, (Option.some.inj h).symm⟩
theorem zD {G : zG} {sh ad : Nat → Nat} {n : Nat} {M : zMem} {A : Nat → Prop} (h : zAd ad n A) : va_D A (zws G sh ad n M) := by
  refine ⟨fun i j p q hi hj hpq => ?_, fun k q hk => ?_⟩
  · obtain ⟨h1, rfl⟩ := zws_dom hi
    obtain ⟨h2, rfl⟩ := zws_dom hj
    exact h.1 i j h1 h2 hpq
  · obtain ⟨h1, rfl⟩ := zws_dom hk
    exact h.2 k h1
/-- the words that aren't good: nest mates' links -/
def zNW (w : Cond) : Bool := match w with
  | .methodLinkNest .. => true
  | .fieldLinkNest .. => true
  | .castable .. => true
  | .declares .. => true
  | _ => false
def tbN : List Cond := lw_tbl.filter zNW
theorem twn {w : Cond} (i : Nat) (h : lw_tbl[i]? = some w) (hg : zNW w = true) : w ∈ tbN := List.mem_filter.mpr ⟨List.mem_of_getElem? h, hg⟩
theorem zNW_warm {w : Cond} (hw : zNW w = true) {s U : State} (hW : s.WarmedH U.vm) (h : va_Nw w s) : va_Nw w U := by
  cases w <;> first | exact va_Nw.warmM hW h | exact va_Nw.warmF hW h | exact va_Nw.warmC hW h | exact va_Nw.warmD hW h | (exact absurd hw (by simp [zNW]))
/-- EAST and SOUTH, as they stand in the class -/
def zEast : Nat → Int32 := fun j => [0, 1, 1, 1, 0, -1, -1, -1].getD j 0
def zSouth : Nat → Int32 := fun j => [-1, -1, 0, 1, 1, 1, 0, -1].getD j 0
/-! the String constants: their texts, and where each is named -/
def zTxt : List String := ["no such argument", "size", "hour", "pan", "heap", "least", "most", "brine", "salt", "reach", "side", "day", "col", "row", "let", "rake", "cart", "rain", "again", "no such place, hour or row"]
def zTx (i : Nat) : String := zTxt.getD i ""
def zRefs : List (String × Nat × Nat) := [("SunnyPans", 418, 0), ("SunnyPans$Plan", 61, 1), ("SunnyPans$Plan", 75, 2), ("SunnyPans$Plan", 81, 3), ("SunnyPans$Plan", 86, 4), ("SunnyPans$Law", 79, 5), ("SunnyPans$Law", 88, 6), ("SunnyPans$Law", 97, 7), ("SunnyPans$Law", 99, 8), ("SunnyPans$Law", 101, 9), ("SunnyPans$Law", 103, 10), ("SunnyPans$Law", 105, 2), ("SunnyPans$Law", 107, 11), ("SunnyPans$Law", 109, 12), ("SunnyPans$Law", 111, 13), ("SunnyPans$Job", 64, 14), ("SunnyPans$Job", 88, 15), ("SunnyPans$Job", 90, 16), ("SunnyPans$Job", 92, 17), ("SunnyPans$Job", 94, 2), ("SunnyPans$Job", 96, 18), ("SunnyPans", 431, 19)]
def zLen : List Nat := [16, 4, 4, 3, 4, 5, 4, 5, 4, 5, 4, 3, 3, 3, 3, 4, 4, 4, 5, 26]
def zByt : List (List Int32) := [[110, 111, 32, 115, 117, 99, 104, 32, 97, 114, 103, 117, 109, 101, 110, 116], [115, 105, 122, 101], [104, 111, 117, 114], [112, 97, 110], [104, 101, 97, 112], [108, 101, 97, 115, 116], [109, 111, 115, 116], [98, 114, 105, 110, 101], [115, 97, 108, 116], [114, 101, 97, 99, 104], [115, 105, 100, 101], [100, 97, 121], [99, 111, 108], [114, 111, 119], [108, 101, 116], [114, 97, 107, 101], [99, 97, 114, 116], [114, 97, 105, 110], [97, 103, 97, 105, 110], [110, 111, 32, 115, 117, 99, 104, 32, 112, 108, 97, 99, 101, 44, 32, 104, 111, 117, 114, 32, 111, 114, 32, 114, 111, 119]]
def zSK (G : zG) (i : Nat) : Nat := G.2.2 (2 + i)
def zSV (G : zG) (i : Nat) : Nat := G.2.2 (22 + i)
def zStr (G : zG) (A : Nat → Prop) (U : State) (H : Heap) : Prop := vk_S 20 zLen zByt (zSK G) (zSV G) A U H ∧ (∀ r ∈ zRefs, vk_R r.1 r.2.1 (zTx r.2.2) (zSK G r.2.2) U) ∧ va_Z "java/lang/String" "COMPACT_STRINGS" "Z" (.int 1) A U H ∧ va_Zq "jdk/internal/util/Preconditions" "SIOOBE_FORMATTER" "Ljava/util/function/BiFunction;" A U H
theorem zStr.moved {G : zG} {A : Nat → Prop} {u U : State} {H : Heap} (hW : u.WarmedH U.vm) (h : zStr G A u H) : zStr G A U H := ⟨vk_S.moved hW.alike h.1, fun r hr => vk_R.warm hW (h.2.1 r hr), va_Z.moved hW.alike h.2.2.1, va_Zq.moved hW.alike h.2.2.2⟩
theorem zStr.kept {G : zG} {A : Nat → Prop} {U : State} {H H1 : Heap} (h : zStr G A U H) (hq : ∀ a : Nat, a < H.size → ¬ A a → H1[a]? = H[a]?) : zStr G A U H1 := ⟨vk_S.kept h.1 hq, h.2.1, va_Z.kept h.2.2.1 hq, va_Zq.kept h.2.2.2 hq⟩
theorem zStr.narrow {G : zG} {A B : Nat → Prop} {U : State} {H : Heap} (h : zStr G A U H) (hAB : ∀ q, B q → A q) : zStr G B U H := ⟨vk_S.narrow h.1 hAB, h.2.1, va_Z.narrow h.2.2.1 hAB, va_Zq.narrow h.2.2.2 hAB⟩
/-- the arrays over things -/
def zAO (U : State) : Prop := ∀ ty ∈ ([.object "SunnyPans$Pans", .object "SunnyPans$Stand", .array .int, .array .long] : List FieldType), (Cond.arrayOver ty).before #[] U = true
theorem zAO.moved {u U : State} (hW : u.vm.Alike U.vm) (h : zAO u) : zAO U := fun ty hty => by
  have h1 := h ty hty
  rw [← Cond.arrayOver_setVmC hW] at h1
  exact h1
/-- what no method changes: the tables, the statics, outside A -/
def zK (G : zG) (A : Nat → Prop) (U : State) (H : Heap) : Prop :=
  va_K G.1 vwCl (zTys G) U ∧ (∀ w ∈ tbN, va_Nw w U) ∧
  (va_Z "SunnyPans" "EAST" "[I" (.ref (G.2.2 0)) A U H ∧ va_T .int (G.2.2 0) 8 (fun j => .int (zEast j)) A U H ∧ va_Z "SunnyPans" "SOUTH" "[I" (.ref (G.2.2 1)) A U H ∧ va_T .int (G.2.2 1) 8 (fun j => .int (zSouth j)) A U H) ∧
  vx_Zq Bundle.tN "UNASSIGNED_STACK" Bundle.steD A U H ∧ vx_Zq Bundle.tN "SUPPRESSED_SENTINEL" Bundle.listD A U H ∧ zStr G A U H ∧ zAO U
theorem zK.moved {G : zG} {A : Nat → Prop} {u U : State} {H : Heap} (hW : u.WarmedH U.vm) (h : zK G A u H) : zK G A U H := by
  obtain ⟨h1, h2, ⟨h3, h4, h5, h6⟩, h7, h8, h9, h10⟩ := h
  have a := hW.alike
  exact ⟨va_K.moved a h1, fun w hw => zNW_warm (List.mem_filter.mp hw).2 hW (h2 w hw), ⟨va_Z.moved a h3, va_T.moved a h4, va_Z.moved a h5, va_T.moved a h6⟩, vx_Zq.moved a h7, vx_Zq.moved a h8, zStr.moved hW h9, zAO.moved hW.alike h10⟩
theorem zK.kept {G : zG} {A : Nat → Prop} {U : State} {H H1 : Heap} (h : zK G A U H) (hq : ∀ a : Nat, a < H.size → ¬ A a → H1[a]? = H[a]?) : zK G A U H1 := by
  obtain ⟨h1, h2, ⟨h3, h4, h5, h6⟩, h7, h8, h9, h10⟩ := h
  exact ⟨h1, h2, ⟨va_Z.kept h3 hq, va_T.kept h4 hq, va_Z.kept h5 hq, va_T.kept h6 hq⟩, vx_Zq.kept h7 hq, vx_Zq.kept h8 hq, zStr.kept h9 hq, h10⟩
theorem zK.narrow {G : zG} {A B : Nat → Prop} {U : State} {H : Heap} (h : zK G A U H) (hAB : ∀ q, B q → A q) : zK G B U H := by
  obtain ⟨h1, h2, ⟨h3, h4, h5, h6⟩, h7, h8, h9, h10⟩ := h
  exact ⟨h1, h2, ⟨va_Z.narrow h3 hAB, va_T.narrow h4 hAB, va_Z.narrow h5 hAB, va_T.narrow h6 hAB⟩, vx_Zq.narrow h7 hAB, vx_Zq.narrow h8 hAB, zStr.narrow h9 hAB, h10⟩
/-! a method's start and end -/
def zP (G : zG) (sh ad : Nat → Nat) (n : Nat) (M : zMem) (sz : Nat) (avs : List Value) : Array Value → State → Prop := va_Pc avs (fun U => U.heap.size = sz ∧ zHP G sh ad n M U.heap ∧ zK G (zA ad n sz) U U.heap)
def zQ (G : zG) (sh ad : Nat → Nat) (n : Nat) (M' : zMem) (out : Option Value) (A : Nat → Prop) : Array Value → State → Outcome → State → Prop := fun _ st o t => (o = .returned out ∧ zHP G sh ad n M' t.heap) ∧ va_F A st t
def zM (l : Launch) (y : MethodName) (b : ByteArray) (maxL : Nat) (ret : Option FieldType) (rm : Room) (G : zG) (sh ad : Nat → Nat) (n : Nat) (M : zMem) (avs : List Value) (out : Option Value) (M' : zMem) : Prop :=
  ∀ sz, Met l y (.code y b maxL ret :: tbG) rm (zP G sh ad n M sz avs) (zQ G sh ad n M' out (zA ad n sz)) 0 0 (zA ad n sz)
/-- a contract of a method that may throw: k = 0 it returns out, 1 and 2 by class -/
def zEx (k : Nat) : String := if k = 1 then "java/lang/IllegalArgumentException" else "java/util/NoSuchElementException"
def zQX (G : zG) (sh ad : Nat → Nat) (n : Nat) (M' : zMem) (k : Nat) (out : Option Value) (A : Nat → Prop) : Array Value → State → Outcome → State → Prop := fun a st o t => k = 0 ∧ zQ G sh ad n M' out A a st o t
def zXC (G : zG) (sh ad : Nat → Nat) (n : Nat) (M' : zMem) (k : Nat) (A : Nat → Prop) : String → State → State → Prop := fun E st t => ¬ k = 0 ∧ E = zEx k ∧ zHP G sh ad n M' t.heap ∧ va_F A st t
def zMX (l : Launch) (y : MethodName) (b : ByteArray) (maxL : Nat) (ret : Option FieldType) (rm : Room) (mc ms : Nat) (G : zG) (sh ad : Nat → Nat) (n : Nat) (M : zMem) (avs : List Value) (k : Nat) (out : Option Value) (M' : zMem) : Prop :=
  ∀ sz, vx_Met l y (.code y b maxL ret :: tbG) rm (zP G sh ad n M sz avs) (zQX G sh ad n M' k out (zA ad n sz)) (zXC G sh ad n M' k (zA ad n sz)) mc ms (zA ad n sz)
def zbx {α : Type} (o : Option (Nat × Int32 × zMem)) (f : Int32 → zMem → Option α) (g : Nat → zMem → Option α) : Option α := match o with
  | none => none
  | some r => if r.1 = 0 then f r.2.1 r.2.2 else g r.1 r.2.2
theorem zbx_inv {α : Type} {o : Option (Nat × Int32 × zMem)} {f : Int32 → zMem → Option α} {g : Nat → zMem → Option α} {r : α} (h : zbx o f g = some r) : ∃ k v M', o = some (k, v, M') ∧ (k = 0 → f v M' = some r) ∧ (¬ k = 0 → g k M' = some r) := by
  unfold zbx at h
  cases o with
  | none => cases h
  | some x =>
    refine ⟨x.1, x.2.1, x.2.2, rfl, fun q => ?_, fun q => ?_⟩
    · simpa only [if_pos q] using h
    · simpa only [if_neg q] using h
/-- what a propagated throw leaves -/
def zxp (k : Nat) (M : zMem) : Option (Nat × Int32 × zMem) := some (k, 0, M)
theorem zP_blind {G : zG} {sh ad : Nat → Nat} {n : Nat} {M : zMem} {sz : Nat} {avs : List Value} : FrameBlind (zP G sh ad n M sz avs) := by
  intro a U g mk h
  obtain ⟨h1, h2, h3, h4⟩ := h
  refine ⟨h1, h2, h3, ?_⟩
  obtain ⟨k1, k2, ⟨k3, k4, k5, k6⟩, k7, k8, k9, k10⟩ := h4
  have a : U.vm.Alike (U.calling g mk a).vm := Vm.Alike.refl U.vm
  exact ⟨va_K.moved a k1, fun w hw => va_Nw.same (by
    have := (List.mem_filter.mp hw).2
    cases w <;> first | rfl | exact absurd this (by simp [zNW])) (u := U) (U := U.calling g mk _) rfl (k2 w hw), ⟨va_Z.moved a k3, va_T.moved a k4, va_Z.moved a k5, va_T.moved a k6⟩, vx_Zq.moved a k7, vx_Zq.moved a k8, ⟨vk_S.moved a k9.1, fun r hr => vk_R.same (u := U) (U := U.calling g mk _) rfl (k9.2.1 r hr), va_Z.moved a k9.2.2.1, va_Zq.moved a k9.2.2.2⟩, zAO.moved a k10⟩
/-- what stands at every row of a method's walk -/
def zX (p : Program) (l : Launch) (s : State) (m : MethodId) (args : Array Value) (meth : Method) (c : Code) (G : zG) (sh ad : Nat → Nat) (n : Nat) (A : Nat → Prop) (own : String) (cc : ByteArray) (nL : Nat) : Prop :=
  CallFix p m c cc nL s args tbG own ∧ meth.locks = false ∧ zK G A s s.heap ∧ zAd ad n A ∧ (∀ q, s.heap.size ≤ q → A q) ∧ (∀ q, zA ad n s.heap.size q → A q)
/-- the walk's goal: from the frame at pc, memory M, the method comes to its end -/
def zJ (p : Program) (l : Launch) (e : Env) (R : Room) (s : State) (m : MethodId) (args : Array Value) (below : List Frame) (meth : Method) (c : Code) (G : zG) (sh ad : Nat → Nat) (n : Nat) (A : Nat → Prop) (nL : Nat) (Q : State → Prop) (cells slots : Nat) (M : zMem) (pc : Nat) (lv : List (Nat × Value)) (st : List Value) : Prop :=
  ∀ (H : Heap) (locs : List Loc) (ls : Array Slot), zHP G sh ad n M H → va_S A s.heap H locs → lv_has ls nL lv → W p l e R s m args below meth c H locs cells slots Q (F0 m pc ls st)
/-! the programs' own words -/
def zl {α β : Type} (a : α) (k : α → β) : β := k a
def gd {α : Type} (c : Bool) (x : Option α) : Option α := if c = true then x else none
def gin {α : Type} (i : Int32) (n : Nat) (x : Option α) : Option α := if 0 ≤ i ∧ i.toNatClampNeg < n then x else none
def zb {α β : Type} (o : Option (α × zMem)) (k : α → zMem → Option β) : Option β := match o with
  | none => none
  | some r => k r.1 r.2
def zbv {β : Type} (o : Option zMem) (k : zMem → Option β) : Option β := match o with
  | none => none
  | some M => k M
def itF {α : Type} (z : α) (F : α → α) : Nat → α
  | 0 => z
  | n + 1 => F (itF z F n)
theorem gd_inv {α : Type} {c : Bool} {x : Option α} {r : α} (h : gd c x = some r) : c = true ∧ x = some r := by
  unfold gd at h
  split at h
  · rename_i q
    exact ⟨q, h⟩
  · cases h
theorem gin_inv {α : Type} {i : Int32} {n : Nat} {x : Option α} {r : α} (h : gin i n x = some r) : vp_in i n ∧ x = some r := by
  unfold gin at h
  split at h
  · rename_i q
    refine ⟨fun z => ?_, h⟩
    rcases z with z | z
    · exact absurd q.1 (Int32.not_le.mpr z)
    · omega
  · cases h
theorem zb_inv {α β : Type} {o : Option (α × zMem)} {k : α → zMem → Option β} {r : β} (h : zb o k = some r) : ∃ a M', o = some (a, M') ∧ k a M' = some r := by
  unfold zb at h
  cases o with
  | none => cases h
  | some x => exact ⟨x.1, x.2, rfl, h⟩
theorem zbv_inv {β : Type} {o : Option zMem} {k : zMem → Option β} {r : β} (h : zbv o k = some r) : ∃ x, o = some x ∧ k x = some r := by
  unfold zbv at h
  cases o with
  | none => cases h
  | some x => exact ⟨x, rfl, h⟩
/-! fields and arrays, by class -/
def zGetI (own : String) (idx ci cd j : Nat) : Prop := ∃ (C : String) (T : u_T) (N : Nat), vwCl[ci]? = some (C, T, N) ∧ j < N ∧ (∀ w ∈ u_ws C T N, w ∈ tbG) ∧ Cond.fieldLink own idx (T j).1 (T j).2.1 (T j).2.2.1 ∈ tbG ∧ ∀ G ad k fi fl fr, ∃ fs, zE G ad k fi fl fr cd = .inr (ci, fs) ∧ fs[j]? = some (.int (fi j))
def zGetL (own : String) (idx ci cd j : Nat) : Prop := ∃ (C : String) (T : u_T) (N : Nat), vwCl[ci]? = some (C, T, N) ∧ j < N ∧ (∀ w ∈ u_ws C T N, w ∈ tbG) ∧ Cond.fieldLink own idx (T j).1 (T j).2.1 (T j).2.2.1 ∈ tbG ∧ ∀ G ad k fi fl fr, ∃ fs, zE G ad k fi fl fr cd = .inr (ci, fs) ∧ fs[j]? = some (.long (fl j))
/-- a reference that stays: its place is off above the object's -/
def zGetR (own : String) (idx ci cd j off : Nat) : Prop := ∃ (C : String) (T : u_T) (N : Nat), vwCl[ci]? = some (C, T, N) ∧ j < N ∧ (∀ w ∈ u_ws C T N, w ∈ tbG) ∧ Cond.fieldLink own idx (T j).1 (T j).2.1 (T j).2.2.1 ∈ tbG ∧ ∀ G ad k fi fl fr, ∃ fs, zE G ad k fi fl fr cd = .inr (ci, fs) ∧ fs[j]? = some (.ref (ad (k + off)))
def zGetD (own : String) (idx ci cd j : Nat) : Prop := ∃ (C : String) (T : u_T) (N : Nat), vwCl[ci]? = some (C, T, N) ∧ j < N ∧ (∀ w ∈ u_ws C T N, w ∈ tbG) ∧ Cond.fieldLink own idx (T j).1 (T j).2.1 (T j).2.2.1 ∈ tbG ∧ ∀ G ad k fi fl fr, ∃ fs, zE G ad k fi fl fr cd = .inr (ci, fs) ∧ fs[j]? = some (.ref (ad (fr j)))
/-- a class' fields: their types, their names apart -/
def zCls (ci : Nat) : Prop := ∃ (C : String) (T : u_T) (N : Nat) (ty : Nat → FieldType), vwCl[ci]? = some (C, T, N) ∧ (∀ k, k < N → parseFieldDescriptor (T k).2.2.1 = some (ty k)) ∧ (∀ a, a < N → ∀ b, b < N → a ≠ b → (T a).2.1 ≠ (T b).2.1)
def zPutI (own : String) (idx ci cd j : Nat) : Prop := zCls ci ∧ zGetI own idx ci cd j ∧ (∃ (C : String) (T : u_T) (N : Nat), vwCl[ci]? = some (C, T, N) ∧ (T j).2.2.2 = false ∧ parseFieldDescriptor (T j).2.2.1 = some .int) ∧ ∀ G ad k fi fl fr v, ∃ fs, zE G ad k fi fl fr cd = .inr (ci, fs) ∧ j < fs.length ∧ zE G ad k (upd fi j v) fl fr cd = .inr (ci, fs.set j (.int v))
def zPutL (own : String) (idx ci cd j : Nat) : Prop := zCls ci ∧ zGetL own idx ci cd j ∧ (∃ (C : String) (T : u_T) (N : Nat), vwCl[ci]? = some (C, T, N) ∧ (T j).2.2.2 = false ∧ parseFieldDescriptor (T j).2.2.1 = some .long) ∧ ∀ G ad k fi fl fr v, ∃ fs, zE G ad k fi fl fr cd = .inr (ci, fs) ∧ j < fs.length ∧ zE G ad k fi (vp_updL fl j v) fr cd = .inr (ci, fs.set j (.long v))
def zPutD (own : String) (idx ci cd j : Nat) : Prop := zCls ci ∧ zGetD own idx ci cd j ∧ (∃ (C : String) (T : u_T) (N : Nat) (cn : String), vwCl[ci]? = some (C, T, N) ∧ (T j).2.2.2 = false ∧ parseFieldDescriptor (T j).2.2.1 = some (.object cn)) ∧ ∀ G ad k fi fl fr v, ∃ fs, zE G ad k fi fl fr cd = .inr (ci, fs) ∧ j < fs.length ∧ zE G ad k fi fl (fun i => if i = j then v else fr i) cd = .inr (ci, fs.set j (.ref (ad v)))
def zArrI (cd len : Nat) : Prop := ∀ G ad k fi fl fr, zE G ad k fi fl fr cd = .inl (G.2.1 0, len, .inl fi)
def zArrL (cd len : Nat) : Prop := ∀ G ad k fi fl fr, zE G ad k fi fl fr cd = .inl (G.2.1 1, len, .inr (.inl fl))
def zArrR (cd len kd o t : Nat) : Prop := (kd = 2 ∨ kd = 3 ∨ kd = 4 ∨ kd = 5) ∧ ∀ G ad k fi fl fr, zE G ad k fi fl fr cd = .inl (G.2.1 kd, len, .inr (.inr (.inr (.inr (fun j => some (ad (k + (o + t * j))))))))
/-- an object of the class C -/
def zObj (C : String) (cd : Nat) : Prop := ∃ (ci : Nat) (q : vw_C), vwCl[ci]? = some q ∧ q.1 = C ∧ ∀ G ad k fi fl fr, ∃ fs, zE G ad k fi fl fr cd = .inr (ci, fs)
theorem zbp_dummy : True := trivial
theorem zT_off {sh : Nat → Nat} {n k cd o d : Nat} (h : zT sh n k cd) (hs : ∀ k, sh k = cd → sh (k + o) = d) (hb : o + zB d ≤ zB cd) (h1 : 0 < zB d) : zT sh n (k + o) d := by
  obtain ⟨a, b, c⟩ := h
  exact ⟨hs k a, by omega, by omega⟩
