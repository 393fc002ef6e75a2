/-! constructors: a universe that grows, its cells one behind another from b0 on -/
def zad (b0 : Nat) : Nat → Nat := fun k => b0 + k
def zsh (sh : Nat → Nat) (n cd : Nat) : Nat → Nat := fun a => if a = n then cd else sh a
/-- k cells from n on, blank -/
def zNew (M : zMem) (n k : Nat) : zMem := (fun a => if n ≤ a ∧ a < n + k then fun _ => 0 else M.1 a, fun a => if n ≤ a ∧ a < n + k then fun _ => 0 else M.2.1 a, fun a => if n ≤ a ∧ a < n + k then fun _ => 0 else M.2.2 a)
def zMC (l : Launch) (y : MethodName) (b : ByteArray) (maxL : Nat) (rm : Room) (mc ms : Nat) (G : zG) (b0 : Nat) (sh : Nat → Nat) (n : Nat) (M : zMem) (avs : List Value) (sh' : Nat → Nat) (n' : Nat) (M' : zMem) : Prop :=
  Met l y (.code y b maxL none :: tbG) rm (zP G sh (zad b0) n M (b0 + n) avs) (zQ G sh' (zad b0) n' M' none (zA (zad b0) n (b0 + n))) mc ms (zA (zad b0) n (b0 + n))
theorem zsh_new {sh : Nat → Nat} {n cd : Nat} : zsh sh n cd n = cd := if_pos rfl
theorem zsh_old {sh : Nat → Nat} {n cd a : Nat} (h : ¬ a = n) : zsh sh n cd a = sh a := if_neg h
theorem zT_sh {sh : Nat → Nat} {n t cd c k : Nat} (h : zT sh n k c) (hk : ¬ k = t) : zT (zsh sh t cd) n k c := ⟨(zsh_old hk).trans h.1, h.2⟩
theorem zT_self {sh : Nat → Nat} {n t cd : Nat} (h : t + zB cd ≤ n) (h1 : t < n) : zT (zsh sh t cd) n t cd := ⟨zsh_new, h1, h⟩
theorem zT_le {sh : Nat → Nat} {n n2 k c : Nat} (h : zT sh n k c) (hn : n ≤ n2) : zT sh n2 k c := ⟨h.1, Nat.lt_of_lt_of_le h.2.1 hn, Nat.le_trans h.2.2 hn⟩
theorem zws_succ {G : zG} {sh ad : Nat → Nat} {n : Nat} {M : zMem} : zws G sh ad (n + 1) M = zws G sh ad n M ++ [(ad n, zE G ad n (M.1 n) (M.2.1 n) (M.2.2 n) (sh n))] := by
  unfold zws
  rw [List.range_succ, List.map_append]
  rfl
theorem zws_congr {G : zG} {sh sh' ad : Nat → Nat} {n : Nat} {M M' : zMem} (h : ∀ k, k < n → sh k = sh' k ∧ M.1 k = M'.1 k ∧ M.2.1 k = M'.2.1 k ∧ M.2.2 k = M'.2.2 k) : zws G sh ad n M = zws G sh' ad n M' := by
  unfold zws
  apply List.map_congr_left
  intro k hk
  obtain ⟨h1, h2, h3, h4⟩ := h k (List.mem_range.mp hk)
  rw [h1, h2, h3, h4]
theorem zHP_grow {G : zG} {sh ad : Nat → Nat} {n : Nat} {M : zMem} {H H1 : Heap} (h : zHP G sh ad n M H) (hq : ∀ q : Nat, q < H.size → H1[q]? = H[q]?) (ha : va_at G.1 vwCl (ad n, zE G ad n (M.1 n) (M.2.1 n) (M.2.2 n) (sh n)) H1) : zHP G sh ad (n + 1) M H1 := by
  unfold zHP
  rw [zws_succ]
  refine va_P.app (zHP_kept h hq) (fun k x hx => ?_)
  have h0 : k < 1 := (List.getElem?_eq_some_iff.mp hx).1
  rw [show k = 0 by omega] at hx
  cases hx
  exact ha
theorem zNew_off {M : zMem} {n k a : Nat} (h : ¬ (n ≤ a ∧ a < n + k)) : (zNew M n k).1 a = M.1 a ∧ (zNew M n k).2.1 a = M.2.1 a ∧ (zNew M n k).2.2 a = M.2.2 a := ⟨if_neg h, if_neg h, if_neg h⟩
theorem zNew_on {M : zMem} {n k a : Nat} (h : n ≤ a ∧ a < n + k) : (zNew M n k).1 a = (fun _ => 0) ∧ (zNew M n k).2.1 a = (fun _ => 0) ∧ (zNew M n k).2.2 a = (fun _ => 0) := ⟨if_pos h, if_pos h, if_pos h⟩
theorem arrV_same {c : ClassId} {N : Nat} {f g : Nat → Value} (h : ∀ j, j < N → f j = g j) : arrV c N f = arrV c N g := by
  unfold arrV
  congr 1
  apply Array.ext
  · simp
  · intro i h1 h2
    simp only [Array.getElem_ofFn]
    exact h i (by simpa using h1)
theorem zcellR {c : ClassId} {N : Nat} {f g : Nat → Option Nat} (h : ∀ j, j < N → f j = g j) : vp_cell c (N, .inr (.inr (.inr (.inr f)))) = vp_cell c (N, .inr (.inr (.inr (.inr g)))) := by
  show arrV c N (fun j => va_rf (f j)) = arrV c N (fun j => va_rf (g j))
  exact arrV_same (fun j hj => congrArg va_rf (h j hj))
theorem zro_eq {b0 a b : Nat} (h : ¬ a = 0) (h2 : a = b) : zro (zad b0) a = some (zad b0 b) := by
  subst h2
  exact if_neg h
theorem zall_succ {P : Nat → Prop} {n : Nat} (h : ∀ j, j < n → P j) (hn : P n) : ∀ j, j < n + 1 → P j := fun j hj => by
  by_cases e : j = n
  · subst e; exact hn
  · exact h j (by omega)
section ZCT
variable {p : Program} {l : Launch} {e : Env} {R : Room} {s : State} {m : MethodId} {args : Array Value} {below : List Frame} {meth : Method} {c : Code} {Q : State → Prop}
variable {G : zG} {sh : Nat → Nat} {b0 n : Nat} {M : zMem} {A : Nat → Prop} {own : String} {cc : ByteArray} {nL : Nat} {cells slots : Nat} {pc : Nat} {lv : List (Nat × Value)} {st : List Value}
theorem zX_to {sh2 : Nat → Nat} {n2 : Nat} (hb : ∀ q, b0 ≤ q → A q) (cx : zX p l s m args meth c G sh (zad b0) n A own cc nL) : zX p l s m args meth c G sh2 (zad b0) n2 A own cc nL := by
  obtain ⟨h1, h2, h3, h4, h5, h6⟩ := cx
  refine ⟨h1, h2, h3, ⟨fun i j _ _ h => ?_, fun k _ => hb _ (Nat.le_add_right _ _)⟩, h5, fun q hq => ?_⟩
  · exact Nat.add_left_cancel h
  · rcases hq with ⟨k, -, rfl⟩ | hq
    · exact hb _ (Nat.le_add_right _ _)
    · exact h5 q hq
/-- how large the heap is when something is made -/
theorem zsz {H : Heap} {locs : List Loc} {T : State} (hT : T.heap = H) (X : Stand p l e R s m args below meth c T locs cells slots) (hP : zHP G sh (zad b0) n M H) (hS : va_S A s.heap H locs) (hz : s.heap.size + cells = b0 + n) (hn : 0 < n ∨ cells = 0) : H.size = b0 + n := by
  have h1 : T.heap.size ≤ s.heap.size + cells := X.same.2.2.1
  rw [hT] at h1
  have h2 : b0 + n ≤ H.size := by
    rcases hn with hn | hn
    · have h3 := (hP (n - 1) _ (zws_at (show n - 1 < n by omega))).lt
      have h4 : zad b0 (n - 1) = b0 + (n - 1) := rfl
      have h5 : b0 + (n - 1) < H.size := h3
      omega
    · have := hS.1
      omega
  omega
theorem zWsz {H : Heap} {locs : List Loc} {g : JFrame} (hP : zHP G sh (zad b0) n M H) (hS : va_S A s.heap H locs) (hz : s.heap.size + cells = b0 + n) (hn : 0 < n ∨ cells = 0) (k : H.size = b0 + n → W p l e R s m args below meth c H locs cells slots Q g) : W p l e R s m args below meth c H locs cells slots Q g :=
  fun T0 hT X => k (zsz hT X hP hS hz hn) T0 hT X
theorem z_newObj (cx : zX p l s m args meth c G sh (zad b0) n A own cc nL) (hz : s.heap.size + cells = b0 + n) (hn : 0 < n ∨ cells = 0) {ci cd idx : Nat} {C : String} {T : u_T} {N : Nat} (hc : vwCl[ci]? = some (C, T, N)) (ty : Nat → FieldType) (hty : ∀ k, k < N → parseFieldDescriptor (T k).2.2.1 = some (ty k)) (huw : ∀ w ∈ u_ws C T N, w ∈ tbG) (hcl : Cond.classLink own idx C ∈ tbG) (hinst : Cond.instantiable C N ∈ tbG) (hini : Cond.initialized C ∈ tbG) {fs : List Value} (hfs : ∀ j, j < N → defaultValue (ty j) = vp_V fs j) (hE : zE G (zad b0) n (fun _ => 0) (fun _ => 0) (fun _ => 0) cd = .inr (ci, fs)) (hR : cells + 1 ≤ R.cells ∧ slots + N ≤ R.slots) (hd : decode cc pc = .ok (.new idx, 3))
    (kk : zJ p l e R s m args below meth c G (zsh sh n cd) (zad b0) (n + 1) A nL Q (cells + 1) (slots + N) (zNew M n 1) (pc + 3) lv (.ref (zad b0 n) :: st)) : zJ p l e R s m args below meth c G sh (zad b0) n A nL Q cells slots M pc lv st := by
  intro H locs ls hP hS hl
  refine zWsz hP hS hz hn fun hsz => ?_
  have hKn := cx.2.2.1.1.1 ci _ hc
  refine W.newcK cx.1.1 cx.1.2.1 cx.1.2.2.2.1 (cx.1.2.2.2.2 _ hcl) (cx.1.2.2.2.2 _ hinst) (cx.1.2.2.2.2 _ hini) rfl hd hR.1 hR.2 hKn.2.1 hsz (fun H1 kC hkC e1 z1 o1 => ?_)
  refine kk H1 locs ls (zHP_grow ?_ (fun q hq => o1 q (by omega)) ?_) ⟨Nat.le_trans hS.1 (by omega), fun x h1 h2 => (o1 x (by have := hS.1; omega)).trans (hS.2.1 x h1 h2), hS.2.2⟩ hl
  · unfold zHP
    rw [← zws_congr (sh := sh) (M := M) (fun k hk => ⟨(zsh_old (by omega)).symm, (zNew_off (by omega)).1.symm, (zNew_off (by omega)).2.1.symm, (zNew_off (by omega)).2.2.symm⟩)]
    exact hP
  · obtain ⟨g1, g2, g3⟩ := zNew_on (M := M) (n := n) (k := 1) (a := n) ⟨Nat.le_refl _, by omega⟩
    rw [zsh_new, g1, g2, g3, hE]
    exact ⟨_, hc, (u_born ty cx.1.2.2.2.2 huw hKn hkC e1 hty).to hfs⟩
theorem z_newArrI (cx : zX p l s m args meth c G sh (zad b0) n A own cc nL) (hz : s.heap.size + cells = b0 + n) (hn : 0 < n ∨ cells = 0) {len : Nat} {x : Int32} {cd9 : Nat} (hsh : sh n = cd9) (ha : zArrI cd9 len) (hw : Cond.arrayClass .int ∈ tbG) (hx : ¬ x < 0) (hlen : x.toNatClampNeg = len) (hby : len * 4 ≤ 536870912) (hR : cells + 1 ≤ R.cells ∧ slots + len ≤ R.slots) (hd : decode cc pc = .ok (.newarray .int, 2))
    (kk : zJ p l e R s m args below meth c G sh (zad b0) (n + 1) A nL Q (cells + 1) (slots + len) (zNew M n 1) (pc + 2) lv (.ref (zad b0 n) :: st)) : zJ p l e R s m args below meth c G sh (zad b0) n A nL Q cells slots M pc lv (.int x :: st) := by
  intro H locs ls hP hS hl
  refine zWsz hP hS hz hn fun hsz => ?_
  refine va_newaK (atype := .int) cx.1.1 cx.1.2.1 (cx.1.2.2.2.2 _ hw) rfl hd rfl hx hlen hby hR.1 hR.2 hsz (fun H1 cA e1 z1 o1 hAr hNm => ?_)
  have hcA : cA = G.2.1 0 := Option.some.inj (hNm.symm.trans (cx.2.2.1.1.2 0 _ rfl).2)
  refine kk H1 locs ls (zHP_grow ?_ (fun q hq => o1 q (by omega)) ?_) ⟨Nat.le_trans hS.1 (by omega), fun x h1 h2 => (o1 x (by have := hS.1; omega)).trans (hS.2.1 x h1 h2), hS.2.2⟩ hl
  · unfold zHP
    rw [← zws_congr (sh := sh) (M := M) (fun k hk => ⟨rfl, (zNew_off (by omega)).1.symm, (zNew_off (by omega)).2.1.symm, (zNew_off (by omega)).2.2.symm⟩)]
    exact hP
  · obtain ⟨g1, g2, g3⟩ := zNew_on (M := M) (n := n) (k := 1) (a := n) ⟨Nat.le_refl _, by omega⟩
    rw [hsh, g1, g2, g3, ha]
    show H1[b0 + n]? = some (vp_cell _ _)
    rw [e1, hcA]
    rfl
theorem z_newArrL (cx : zX p l s m args meth c G sh (zad b0) n A own cc nL) (hz : s.heap.size + cells = b0 + n) (hn : 0 < n ∨ cells = 0) {len : Nat} {x : Int32} {cd9 : Nat} (hsh : sh n = cd9) (ha : zArrL cd9 len) (hw : Cond.arrayClass .long ∈ tbG) (hx : ¬ x < 0) (hlen : x.toNatClampNeg = len) (hby : len * 8 ≤ 536870912) (hR : cells + 1 ≤ R.cells ∧ slots + len ≤ R.slots) (hd : decode cc pc = .ok (.newarray .long, 2))
    (kk : zJ p l e R s m args below meth c G sh (zad b0) (n + 1) A nL Q (cells + 1) (slots + len) (zNew M n 1) (pc + 2) lv (.ref (zad b0 n) :: st)) : zJ p l e R s m args below meth c G sh (zad b0) n A nL Q cells slots M pc lv (.int x :: st) := by
  intro H locs ls hP hS hl
  refine zWsz hP hS hz hn fun hsz => ?_
  refine va_newaK (atype := .long) cx.1.1 cx.1.2.1 (cx.1.2.2.2.2 _ hw) rfl hd rfl hx hlen hby hR.1 hR.2 hsz (fun H1 cA e1 z1 o1 hAr hNm => ?_)
  have hcA : cA = G.2.1 1 := Option.some.inj (hNm.symm.trans (cx.2.2.1.1.2 1 _ rfl).2)
  refine kk H1 locs ls (zHP_grow ?_ (fun q hq => o1 q (by omega)) ?_) ⟨Nat.le_trans hS.1 (by omega), fun x h1 h2 => (o1 x (by have := hS.1; omega)).trans (hS.2.1 x h1 h2), hS.2.2⟩ hl
  · unfold zHP
    rw [← zws_congr (sh := sh) (M := M) (fun k hk => ⟨rfl, (zNew_off (by omega)).1.symm, (zNew_off (by omega)).2.1.symm, (zNew_off (by omega)).2.2.symm⟩)]
    exact hP
  · obtain ⟨g1, g2, g3⟩ := zNew_on (M := M) (n := n) (k := 1) (a := n) ⟨Nat.le_refl _, by omega⟩
    rw [hsh, g1, g2, g3, ha]
    show H1[b0 + n]? = some (vp_cell _ _)
    rw [e1, hcA]
    rfl
end ZCT
section ZCU
variable {p : Program} {l : Launch} {e : Env} {R : Room} {s : State} {m : MethodId} {args : Array Value} {below : List Frame} {meth : Method} {c : Code} {Q : State → Prop}
variable {G : zG} {sh : Nat → Nat} {b0 n : Nat} {M : zMem} {A : Nat → Prop} {own : String} {cc : ByteArray} {nL : Nat} {cells slots : Nat} {pc : Nat} {lv : List (Nat × Value)} {st : List Value}
theorem z_objInit (cx : zX p l s m args meth c G sh (zad b0) n A own cc nL) {idx k : Nat} (hw : Cond.methodLink own idx objectInit ∈ tbG ∧ Cond.instanceMethod objectInit ∈ tbG ∧ Cond.code objectInit ⟨#[0xb1]⟩ 1 none ∈ tbG) (hd : decode cc pc = .ok (.invokespecial idx, 3)) (hR : 1 ≤ R.frames ∧ 0 + (st.map fun v => v.category).sum + 12 ≤ R.locals)
    (kk : zJ p l e R s m args below meth c G sh (zad b0) n A nL Q cells slots M (pc + 3) lv st) : zJ p l e R s m args below meth c G sh (zad b0) n A nL Q cells slots M pc lv (.ref (zad b0 k) :: st) := fun H locs ls hP hS hl =>
  W.objInit cx.1.1 cx.1.2.1 cx.1.2.2.2.1 (cx.1.2.2.2.2 _ hw.1) (cx.1.2.2.2.2 _ hw.2.1) (cx.1.2.2.2.2 _ hw.2.2) rfl (by rw [cx.1.2.2.1]; exact hl.1) rfl hd hR.1 (by show 2 * 0 + _ + 12 ≤ _; omega) (kk H locs ls hP hS hl)
/-- a fixed reference of a thing whose block isn't whole yet -/
theorem z_getR0 (cx : zX p l s m args meth c G sh (zad b0) n A own cc nL) {ci cd j idx k off : Nat} (h8 : sh k = cd) (h9 : k < n) (hf : zGetR own idx ci cd j off) (k2 : Nat) (hk2 : k + off = k2) (hd : decode cc pc = .ok (.getfield idx, 3)) (kk : zJ p l e R s m args below meth c G sh (zad b0) n A nL Q cells slots M (pc + 3) lv (.ref (zad b0 k2) :: st)) : zJ p l e R s m args below meth c G sh (zad b0) n A nL Q cells slots M pc lv (.ref (zad b0 k) :: st) := by
  subst hk2
  obtain ⟨C, T, N, hc, hj, hu, hw, h5⟩ := hf
  obtain ⟨fs, he, hv⟩ := h5 G (zad b0) k (M.1 k) (M.2.1 k) (M.2.2 k)
  intro H locs ls hP hS hl
  have hat := zws_at (G := G) (sh := sh) (ad := zad b0) (M := M) h9
  rw [h8, he] at hat
  exact va_get cx.1.1 cx.1.2.1 cx.1.2.2.2.2 hu cx.1.2.2.2.1 cx.2.2.1.1 hP k hat hc j hj (cx.1.2.2.2.2 _ hw) (fun _ h => h) hv hd (kk H locs ls hP hS hl)
theorem zadI {b0 n : Nat} : ∀ i j, i < n → j < n → zad b0 i = zad b0 j → i = j := fun _ _ _ _ h => Nat.add_left_cancel h
/-- a final field of a thing that is being made -/
def zPutF (own : String) (idx ci cd j : Nat) : Prop := zCls ci ∧ (∃ (C : String) (T : u_T) (N : Nat) (ty : FieldType), vwCl[ci]? = some (C, T, N) ∧ j < N ∧ (∀ w ∈ u_ws C T N, w ∈ tbG) ∧ Cond.fieldLink own idx (T j).1 (T j).2.1 (T j).2.2.1 ∈ tbG ∧ (T j).2.2.2 = true ∧ (T j).1 = own ∧ parseFieldDescriptor (T j).2.2.1 = some ty ∧ ∀ a : Nat, fits ty (.ref a) = true ∧ narrow ty (.ref a) = .ref a) ∧ ∀ G ad k fi fl fr v, ¬ v = 0 → ∃ fs, zE G ad k fi fl fr cd = .inr (ci, fs) ∧ j < fs.length ∧ zE G ad k fi fl (fun i => if i = j then v else fr i) cd = .inr (ci, fs.set j (.ref (ad v)))
theorem z_putF (cx : zX p l s m args meth c G sh (zad b0) n A own cc nL) (hin : meth.name = "<init>") {ci cd j idx k v : Nat} (hv : ¬ v = 0) (hT : zT sh n k cd) (hf : zPutF own idx ci cd j) (hd : decode cc pc = .ok (.putfield idx, 3)) (kk : zJ p l e R s m args below meth c G sh (zad b0) n A nL Q cells slots (zR M k j v) (pc + 3) lv st) : zJ p l e R s m args below meth c G sh (zad b0) n A nL Q cells slots M pc lv (.ref (zad b0 v) :: .ref (zad b0 k) :: st) := by
  intro H locs ls hP hS hl
  obtain ⟨⟨C1, T1, N1, ty0, hc1, hty, hnm⟩, ⟨C, T, N, ty, hc, hj, hu, hw, hfin, hdecl, hpd, hfit⟩, hz⟩ := hf
  cases Option.some.inj (hc1.symm.trans hc)
  obtain ⟨fs, he, hl2, he2⟩ := hz G (zad b0) k (M.1 k) (M.2.1 k) (M.2.2 k) v hv
  have hat := zws_at (G := G) (sh := sh) (ad := zad b0) (M := M) hT.2.1
  rw [hT.1, he] at hat
  refine va_putF cx.1.1 cx.1.2.1 cx.1.2.2.2.2 hu ty0 hty hnm cx.1.2.2.2.1 cx.2.2.1.1 hP (zD cx.2.2.2.1) hS k hat hc j hj (cx.1.2.2.2.2 _ hw) (fun _ h => h) hfin hin hdecl hpd (hfit _).2 (hfit _).1 hl2 hd (fun H1 locs1 hP1 _ hS1 => kk H1 locs1 ls ?_ hS1 hl)
  rw [zws_set (M' := zR M k j v) hT.2.1 zR_off (by rw [hT.1]; rw [← he2]; simp [zR])] at hP1
  exact hP1
/-- a reference field that isn't final, of a thing that is being made -/
def zPutV (own : String) (idx ci cd j : Nat) : Prop := zCls ci ∧ (∃ (C : String) (T : u_T) (N : Nat) (cn : String), vwCl[ci]? = some (C, T, N) ∧ j < N ∧ (∀ w ∈ u_ws C T N, w ∈ tbG) ∧ Cond.fieldLink own idx (T j).1 (T j).2.1 (T j).2.2.1 ∈ tbG ∧ (T j).2.2.2 = false ∧ parseFieldDescriptor (T j).2.2.1 = some (.object cn)) ∧ ∀ G ad k fi fl fr v, ¬ v = 0 → ∃ fs, zE G ad k fi fl fr cd = .inr (ci, fs) ∧ j < fs.length ∧ zE G ad k fi fl (fun i => if i = j then v else fr i) cd = .inr (ci, fs.set j (.ref (ad v)))
theorem z_putV (cx : zX p l s m args meth c G sh (zad b0) n A own cc nL) {ci cd j idx k v : Nat} (hv : ¬ v = 0) (hT : zT sh n k cd) (hf : zPutV own idx ci cd j) (hd : decode cc pc = .ok (.putfield idx, 3)) (kk : zJ p l e R s m args below meth c G sh (zad b0) n A nL Q cells slots (zR M k j v) (pc + 3) lv st) : zJ p l e R s m args below meth c G sh (zad b0) n A nL Q cells slots M pc lv (.ref (zad b0 v) :: .ref (zad b0 k) :: st) := by
  intro H locs ls hP hS hl
  obtain ⟨⟨C1, T1, N1, ty0, hc1, hty, hnm⟩, ⟨C, T, N, cn, hc, hj, hu, hw, hfin, hpd⟩, hz⟩ := hf
  cases Option.some.inj (hc1.symm.trans hc)
  obtain ⟨fs, he, hl2, he2⟩ := hz G (zad b0) k (M.1 k) (M.2.1 k) (M.2.2 k) v hv
  have hat := zws_at (G := G) (sh := sh) (ad := zad b0) (M := M) hT.2.1
  rw [hT.1, he] at hat
  refine va_put cx.1.1 cx.1.2.1 cx.1.2.2.2.2 hu ty0 hty hnm cx.1.2.2.2.1 cx.2.2.1.1 hP (zD cx.2.2.2.1) hS k hat hc j hj (cx.1.2.2.2.2 _ hw) (fun _ h => h) hfin hpd rfl rfl hl2 hd (fun H1 locs1 hP1 _ hS1 => kk H1 locs1 ls ?_ hS1 hl)
  rw [zws_set (M' := zR M k j v) hT.2.1 zR_off (by rw [hT.1]; rw [← he2]; simp [zR])] at hP1
  exact hP1
/-- the shape of what is whole by now -/
theorem z_shape {sh2 : Nat → Nat} (h : ∀ H, zHP G sh (zad b0) n M H → zHP G sh2 (zad b0) n M H) (kk : zJ p l e R s m args below meth c G sh2 (zad b0) n A nL Q cells slots M pc lv st) : zJ p l e R s m args below meth c G sh (zad b0) n A nL Q cells slots M pc lv st := fun H locs ls hP hS hl => kk H locs ls (h H hP) hS hl
theorem zHP_seal {t cd : Nat} (h : ∀ H, va_at G.1 vwCl (zad b0 t, zE G (zad b0) t (M.1 t) (M.2.1 t) (M.2.2 t) cd) H → va_at G.1 vwCl (zad b0 t, zE G (zad b0) t (M.1 t) (M.2.1 t) (M.2.2 t) (sh t)) H) : ∀ H, zHP G (zsh sh t cd) (zad b0) n M H → zHP G sh (zad b0) n M H := by
  intro H hP k q hk
  obtain ⟨hkn, rfl⟩ := zws_dom hk
  have h1 := hP k _ (zws_at hkn)
  by_cases hkt : k = t
  · subst hkt
    rw [zsh_new] at h1
    exact h H h1
  · rw [zsh_old hkt] at h1
    exact h1
theorem zHP_sealE {t cd : Nat} (h : zE G (zad b0) t (M.1 t) (M.2.1 t) (M.2.2 t) cd = zE G (zad b0) t (M.1 t) (M.2.1 t) (M.2.2 t) (sh t)) : ∀ H, zHP G (zsh sh t cd) (zad b0) n M H → zHP G sh (zad b0) n M H := zHP_seal (fun H q => by rw [← h]; exact q)
/-- a call of a constructor of ours, a nest mate's -/
theorem zcallC {H : Heap} {locs : List Loc} {ls : Array Slot} {A1 : Nat → Prop} {a : Array Value} {st0 rest : List Value} {M' : zMem} {sh' : Nat → Nat} {n' mc ms : Nat} (hr : va_Run p l e R s m args below meth c H locs cells slots mc ms (F0 m pc ls st0) rest (zQ G sh' (zad b0) n' M' none A1 a) A1) (hS : va_S A s.heap H locs) (hA : ∀ q, A1 q → A q) (hl : lv_has ls nL lv) (kk : zJ p l e R s m args below meth c G sh' (zad b0) n' A nL Q (cells + mc) (slots + ms) M' (pc + 3) lv rest) : W p l e R s m args below meth c H locs cells slots Q (F0 m pc ls st0) := by
  intro T hT X
  obtain ⟨v, st₀, t, T', L, h0, X', hL, e1, e2, ⟨⟨hv, hP⟩, hz, hk⟩, st⟩ := hr T hT X
  have hv2 : v = none := by injection hv
  subst hv2
  rw [h0] at hz hk
  obtain ⟨t2, a1, b1⟩ := kk T'.heap (locs ++ L) ls (by rw [e1]; exact hP) ⟨Nat.le_trans hS.1 (by rw [e1]; exact hz), fun q h1 h2 => by rw [e1, hk q (Nat.lt_of_lt_of_le h1 hS.1) (fun z => h2 (hA q z))]; exact hS.2.1 q h1 h2, fun q hq => by
      rcases List.mem_append.mp hq with h | h
      · exact hS.2.2 q h
      · exact hA _ (hL q h)⟩ hl T' rfl X'
  exact ⟨t2, st t2 a1, b1⟩
theorem z_callCN (cx : zX p l s m args meth c G sh (zad b0) n A own cc nL) (hz : s.heap.size + cells = b0 + n) (hn : 0 < n ∨ cells = 0) {y : MethodName} {b : ByteArray} {maxL idx k mc ms n' : Nat} {rm : Room} {M' : zMem} {sh' : Nat → Nat} (hM : zMC l y b maxL rm mc ms G b0 sh n M [.ref (zad b0 k)] sh' n' M') (hw : zCN own idx y b maxL none 0) (hy1 : y.name = "<init>") (hi : Cond.instanceMethod y ∈ tbG) (hR : zRmX rm R maxL mc ms) (hc : cells + mc ≤ R.cells ∧ slots + ms ≤ R.slots) (hrest : (st.map fun v => v.category).sum ≤ 8) (hd : decode cc pc = .ok (.invokespecial idx, 3))
    (kk : zJ p l e R s m args below meth c G sh' (zad b0) n' A nL Q (cells + mc) (slots + ms) M' (pc + 3) lv st) : zJ p l e R s m args below meth c G sh (zad b0) n A nL Q cells slots M pc lv (.ref (zad b0 k) :: st) := by
  intro H locs ls hP hS hl
  refine zWsz hP hS hz hn fun hsz => ?_
  have hA : ∀ q, zA (zad b0) n (b0 + n) q → A q := by rw [← hsz]; exact zAin cx hS
  exact zcallC (va_runIN (As := []) (rest := st) cx.1 hM ⟨va_cnB 0 cx.1.2.2.2.2 (zGood hw.2.2.1) rfl hR.1 hR.2.1 (cx.2.2.1.2.1 _ hw.1) (cx.1.2.2.2.2 _ hw.2.1) hw.2.2.2 hR.2.2, hy1, cx.1.2.2.2.2 _ hi⟩ ⟨zP_blind, fun U hU hW => ⟨rfl, by rw [hU]; exact hsz, by rw [hU]; exact hP, by rw [← hsz]; exact zKat cx hS hU hW⟩⟩ rfl rfl hl.1 rfl (lv_room hrest) hd hc) hS hA hl kk
def zCJ (own : String) (idx : Nat) (y : MethodName) (b : ByteArray) (maxL : Nat) : Prop := Cond.methodLink own idx y ∈ tbG ∧ Cond.initialized y.cls ∈ tbG ∧ Cond.code y b maxL none ∈ tbG ∧ Cond.instanceMethod y ∈ tbG ∧ y.name = "<init>" ∧ (y.cls ≠ "java/lang/invoke/MethodHandle" ∧ y.cls ≠ "java/lang/invoke/VarHandle" ∧ (parseMethodDescriptor y.desc).map (fun d => d.parameters.length) = some 0)
theorem z_callCI (cx : zX p l s m args meth c G sh (zad b0) n A own cc nL) (hz : s.heap.size + cells = b0 + n) (hn : 0 < n ∨ cells = 0) {y : MethodName} {b : ByteArray} {maxL idx k mc ms n' : Nat} {rm : Room} {M' : zMem} {sh' : Nat → Nat} (hM : zMC l y b maxL rm mc ms G b0 sh n M [.ref (zad b0 k)] sh' n' M') (hw : zCJ own idx y b maxL) (hR : zRmX rm R maxL mc ms) (hc : cells + mc ≤ R.cells ∧ slots + ms ≤ R.slots) (hrest : (st.map fun v => v.category).sum ≤ 8) (hd : decode cc pc = .ok (.invokespecial idx, 3))
    (kk : zJ p l e R s m args below meth c G sh' (zad b0) n' A nL Q (cells + mc) (slots + ms) M' (pc + 3) lv st) : zJ p l e R s m args below meth c G sh (zad b0) n A nL Q cells slots M pc lv (.ref (zad b0 k) :: st) := by
  intro H locs ls hP hS hl
  refine zWsz hP hS hz hn fun hsz => ?_
  have hA : ∀ q, zA (zad b0) n (b0 + n) q → A q := by rw [← hsz]; exact zAin cx hS
  obtain ⟨w1, w2, w3, w4, w5, w6⟩ := hw
  exact zcallC (va_runI (As := []) (rest := st) cx.1 hM (cwI 0 cx.1.2.2.2.2 (zGood w3) rfl hR.1 hR.2.1 (cx.1.2.2.2.2 _ w2) (cx.1.2.2.2.2 _ w1) (cx.1.2.2.2.2 _ w4) w5 w6 hR.2.2) ⟨zP_blind, fun U hU hW => ⟨rfl, by rw [hU]; exact hsz, by rw [hU]; exact hP, by rw [← hsz]; exact zKat cx hS hU hW⟩⟩ rfl rfl hl.1 rfl (lv_room hrest) hd hc) hS hA hl kk
theorem z_shapeE {sh2 : Nat → Nat} (h : sh = sh2) (kk : zJ p l e R s m args below meth c G sh2 (zad b0) n A nL Q cells slots M pc lv st) : zJ p l e R s m args below meth c G sh (zad b0) n A nL Q cells slots M pc lv st := by
  subst h
  exact kk
theorem zsh_comm {a b x y : Nat} (h : ¬ a = b) : zsh (zsh sh a x) b y = zsh (zsh sh b y) a x := by
  funext k
  unfold zsh
  by_cases h1 : k = a
  · by_cases h2 : k = b
    · exact absurd (h1.symm.trans h2) h
    · simp [h1, h]
  · by_cases h2 : k = b
    · simp [h2, Ne.symm h]
    · simp [h1, h2]
theorem z_nmE {al : Type} {v : zMem} {k : zMem → Option al} {res : al} (hF : zl v k = some res) (kk : ∀ x, x = v → k x = some res → zJ p l e R s m args below meth c G sh (zad b0) n A nL Q cells slots x pc lv st) : zJ p l e R s m args below meth c G sh (zad b0) n A nL Q cells slots v pc lv st := kk v rfl hF
theorem zl_inv {α β : Type} {a : α} {k : α → β} {r : β} (h : zl a k = r) : ∃ x, x = a ∧ k x = r := ⟨a, rfl, h⟩
theorem zNew22 {M : zMem} {n k a : Nat} (h : ¬ (n ≤ a ∧ a < n + k)) : (zNew M n k).2.2 a = M.2.2 a := if_neg h
theorem zR22e {M : zMem} {k j v : Nat} : (zR M k j v).2.2 k j = v := by simp [zR]
theorem zR22j {M : zMem} {k j v i : Nat} (h : ¬ i = j) : (zR M k j v).2.2 k i = M.2.2 k i := by simp [zR, h]
theorem zR22n {M : zMem} {k j v a : Nat} (h : ¬ a = k) : (zR M k j v).2.2 a = M.2.2 a := by simp [zR, h]
theorem zMC_of {y : MethodName} {b : ByteArray} {maxL mc ms n' : Nat} {rm : Room} {avs : List Value} {M' : zMem} {sh' : Nat → Nat} (hy : plainName y.cls = true) (hy1 : y.name = "<init>") (hlen : (lg_sl avs).length ≤ maxL) (hlv : lv_args 0 avs = lv)
    (body : ∀ (p : Program) (e : Env) (s : State) (m : MethodId) (args : Array Value) (below : List Frame) (meth : Method) (c : Code) (A : Nat → Prop), zX p l s m args meth c G sh (zad b0) n A y.cls b maxL → meth.sig.returnType = none → meth.name = "<init>" → s.heap.size = b0 + n → (∀ q, b0 ≤ q → A q) → zJ p l e rm s m args below meth c G sh (zad b0) n A maxL (MQ below (zQ G sh' (zad b0) n' M' none A) args s mc ms A) 0 0 M 0 lv []) : zMC l y b maxL rm mc ms G b0 sh n M avs sh' n' M' := by
  refine Met.ofW (cc := b) (maxL := maxL) (ret := none) hy rfl ?_
  intro p e s m args below meth c s₁ B hml hv
  obtain ⟨rfl, hsz, hP, hK⟩ := hv
  have hts := atoms_spec (ws := .code y b maxL none :: tbG) B.pre
  have hown : s.vm.findClass y.cls = some m.cls := findClass_of_methodNamed B.named
  have hb : ∀ q, b0 ≤ q → zA (zad b0) n (b0 + n) q := fun q hq => by
    by_cases h : q < b0 + n
    · exact Or.inl ⟨q - b0, by omega, by show q = b0 + (q - b0); omega⟩
    · exact Or.inr (by omega)
  have hx : zX p l s m avs.toArray meth c G sh (zad b0) n (zA (zad b0) n (b0 + n)) y.cls b maxL := ⟨⟨B.exec, B.bytes, hml, hown, fun w hw => hts w (List.mem_cons_of_mem _ hw)⟩, B.notSynchronized, hK, ⟨fun i j _ _ h => Nat.add_left_cancel h, fun k hk => Or.inl ⟨k, hk, rfl⟩⟩, fun q h => Or.inr (by omega), fun q h => by rw [hsz] at h; exact h⟩
  have hl := lv_entry avs (n := maxL) hlen
  rw [lg_entry_eq]
  rw [hlv] at hl
  exact body p e s m avs.toArray below meth c _ hx B.returns (by rw [(name_of_methodNamed B.named B.method).1]; exact hy1) hsz hb s.heap [] _ hP va_S.rf hl
theorem z_vretC (cx : zX p l s m args meth c G sh (zad b0) n A own cc nL) (hr : meth.sig.returnType = none) (hd : decode cc pc = .ok (.return_, 1)) : zJ p l e R s m args below meth c G sh (zad b0) n A nL (MQ below (zQ G sh (zad b0) n M none A) args s cells slots A) cells slots M pc lv [] := by
  intro H locs ls hP hS hl
  exact W.vret cx.1.1 cx.1.2.1 hr (fun t ht hW => ⟨⟨rfl, by rw [ht]; exact hP⟩, hS.F ht⟩) hS.2.2 hd cx.2.1
end ZCU

section ZCV
variable {p : Program} {l : Launch} {e : Env} {R : Room} {s : State} {m : MethodId} {args : Array Value} {below : List Frame} {meth : Method} {c : Code} {Q : State → Prop}
variable {G : zG} {sh : Nat → Nat} {b0 n : Nat} {M : zMem} {A : Nat → Prop} {own : String} {cc : ByteArray} {nL : Nat} {cells slots : Nat} {pc : Nat} {lv : List (Nat × Value)} {st : List Value}
theorem z_newArrR (cx : zX p l s m args meth c G sh (zad b0) n A own cc nL) (hz : s.heap.size + cells = b0 + n) (hn : 0 < n ∨ cells = 0) {C : String} {kd len idx cg : Nat} {x : Int32} (hkd : (zTys G)[kd]? = some (G.2.1 kd, .object C)) (hmem : FieldType.object C ∈ ([.object "SunnyPans$Pans", .object "SunnyPans$Stand", .array .int, .array .long] : List FieldType)) (hcl : Cond.classLink own idx C ∈ tbG) (hx : ¬ x < 0) (hlen : x.toNatClampNeg = len) (hby : len * 4 ≤ 536870912) (hE : ∀ k fi fl fr, zE G (zad b0) k fi fl fr cg = .inl (G.2.1 kd, len, .inr (.inr (.inr (.inr (fun j => zro (zad b0) (fr j))))))) (hR : cells + 1 ≤ R.cells ∧ slots + len ≤ R.slots) (hd : decode cc pc = .ok (.anewarray idx, 3))
    (kk : zJ p l e R s m args below meth c G (zsh sh n cg) (zad b0) (n + 1) A nL Q (cells + 1) (slots + len) (zNew M n 1) (pc + 3) lv (.ref (zad b0 n) :: st)) : zJ p l e R s m args below meth c G sh (zad b0) n A nL Q cells slots M pc lv (.int x :: st) := by
  subst hlen
  intro H locs ls hP hS hl
  refine zWsz hP hS hz hn fun hsz => ?_
  have hov : (Cond.arrayOver (.object C)).before args s = true := va_AO.use (cx.2.2.1.2.2.2.2.2.2 _ hmem)
  refine W.anew cx.1.1 cx.1.2.1 cx.1.2.2.2.1 (cx.1.2.2.2.2 _ hcl) hov rfl hd rfl hx hby hR.1 hR.2 (fun cA kA comp f1 f2 f3 f4 => ?_)
  obtain ⟨kA2, comp2, g1, g2, g3, g4⟩ := (cx.2.2.1.1.2 kd _ hkd).2
  have hcA : cA = G.2.1 kd := Option.some.inj (f1.symm.trans g4)
  subst hcA
  rw [hsz]
  have o1 : ∀ q : Nat, q < H.size → (H.push ({ cls := G.2.1 kd, slots := Array.replicate x.toNatClampNeg .null, vm := .none } : Cell))[q]? = H[q]? := fun q hq => by rw [Array.getElem?_push, if_neg (Nat.ne_of_lt hq)]
  refine kk _ locs ls (zHP_grow ?_ o1 ?_) ⟨by rw [Array.size_push]; exact Nat.le_succ_of_le hS.1, fun q h1 h2 => (o1 q (Nat.lt_of_lt_of_le h1 hS.1)).trans (hS.2.1 q h1 h2), hS.2.2⟩ hl
  · unfold zHP
    rw [← zws_congr (sh := sh) (M := M) (fun k hk => ⟨(zsh_old (by omega)).symm, (zNew_off (by omega)).1.symm, (zNew_off (by omega)).2.1.symm, (zNew_off (by omega)).2.2.symm⟩)]
    exact hP
  · obtain ⟨-, -, h3⟩ := zNew_on (M := M) (n := n) (k := 1) (a := n) ⟨Nat.le_refl _, by omega⟩
    rw [zsh_new, hE, h3]
    show (H.push _)[b0 + n]? = some (vp_cell _ _)
    rw [← hsz, Array.getElem?_push_size, arrV_new]
    rfl
theorem z_aastG (cx : zX p l s m args meth c G sh (zad b0) n A own cc nL) {kd len cg cv k v ci j : Nat} {i : Int32} {r : vw_C} (hkd : (zTys G)[kd]? = some (G.2.1 kd, .object r.1)) (hT : zT sh n k cg) (hE : ∀ k fi fl fr, zE G (zad b0) k fi fl fr cg = .inl (G.2.1 kd, len, .inr (.inr (.inr (.inr (fun j => zro (zad b0) (fr j))))))) (hV : zT sh n v cv) (hc : vwCl[ci]? = some r) (hEv : ∀ k fi fl fr, ∃ fs, zE G (zad b0) k fi fl fr cv = .inr (ci, fs)) (hv0 : ¬ v = 0) (hi : vp_in i len) (hj : i.toNatClampNeg = j) (hd : decode cc pc = .ok (.aastore, 1))
    (kk : zJ p l e R s m args below meth c G sh (zad b0) n A nL Q cells slots (zR M k j v) (pc + 1) lv st) : zJ p l e R s m args below meth c G sh (zad b0) n A nL Q cells slots M pc lv (.ref (zad b0 v) :: .int i :: .ref (zad b0 k) :: st) := by
  subst hj
  intro H locs ls hP hS hl
  obtain ⟨fs, hfs⟩ := hEv v (M.1 v) (M.2.1 v) (M.2.2 v)
  have hat := zws_at (G := G) (sh := sh) (ad := zad b0) (M := M) hT.2.1
  rw [hT.1, hE] at hat
  have hav := zws_at (G := G) (sh := sh) (ad := zad b0) (M := M) hV.2.1
  rw [hV.1, hfs] at hav
  refine va_astq cx.1.1 cx.1.2.1 cx.2.2.1.1 hP (zD cx.2.2.2.1) hS k kd v ci hat hkd hav hc hi hd (fun H1 locs1 hP1 _ hS1 => kk H1 locs1 ls ?_ hS1 hl)
  rw [zws_set (M' := zR M k i.toNatClampNeg v) hT.2.1 zR_off (by
    rw [hT.1, hE]
    congr 7
    funext j
    by_cases hji : j = i.toNatClampNeg
    · subst hji
      simp [zR, zro, va_up, hv0]
    · simp [zR, va_up, hji])] at hP1
  exact hP1
theorem zouter (cA : ClassId) (N h0 : Nat) : Jvm.Free.Multi.outerC cA N h0 N = arrV cA N (fun j => va_rf (some (h0 + (1 + 1 * j)))) := by
  have key : ∀ i : Nat, Jvm.Free.Multi.outerC cA N h0 i = arrV cA N (fun j => va_rf (if j < i then some (h0 + (1 + 1 * j)) else none)) := by
    intro i
    induction i with
    | zero =>
      show ({ cls := cA, slots := Array.replicate N .null, vm := .none } : Cell) = _
      rw [arrV_new]
      refine arrV_same (fun j _ => ?_)
      simp [va_rf]
    | succ i ih =>
      show (Jvm.Free.Multi.outerC cA N h0 i).setSlot i (.ref (h0 + 1 + i)) = _
      rw [ih, arrV_store]
      refine arrV_same (fun j _ => ?_)
      by_cases e : j = i
      · subst e
        simp [updV, va_rf]
        exact Nat.add_assoc _ _ _
      · by_cases h : j < i
        · simp [updV, e, h, Nat.lt_succ_of_lt h]
        · simp [updV, e, h, show ¬ j < i + 1 by omega]
  rw [key N]
  exact arrV_same (fun j hj => by rw [if_pos hj])
theorem z_newMulti (cx : zX p l s m args meth c G sh (zad b0) n A own cc nL) (hz : s.heap.size + cells = b0 + n) (hn : 0 < n ∨ cells = 0) {ty : FieldType} {kd ke N K idx co ce : Nat} {x y : Int32} {z : vp_A} (hkd : (zTys G)[kd]? = some (G.2.1 kd, .array ty)) (hke : (zTys G)[ke]? = some (G.2.1 ke, ty)) (hnm : ∀ U : State, va_RA U (G.2.1 ke) ty → U.vm.findClass ("[" ++ ty.toString) = some (G.2.1 ke)) (hnk : ∀ U : State, va_RA U (G.2.1 kd) (.array ty) → U.vm.findClass ("[" ++ (FieldType.array ty).toString) = some (G.2.1 kd)) (hes : (FieldType.array ty).toString = "[" ++ ty.toString) (hmem : FieldType.array ty ∈ ([.object "SunnyPans$Pans", .object "SunnyPans$Stand", .array .int, .array .long] : List FieldType)) (hw : Cond.arrayClass ty ∈ tbG) (hcl : Cond.classLink own idx ("[" ++ (FieldType.array ty).toString) ∈ tbG) (hx : ¬ x < 0) (hy : ¬ y < 0) (hN : x.toNatClampNeg = N) (hK : y.toNatClampNeg = K) (hb1 : N * 4 ≤ 536870912) (hb2 : K * componentBytes ty ≤ 536870912) (hb3 : K ≤ 536870912) (hdf : fits ty (defaultValue ty) = true) (hdd : (defaultValue ty).isDefault = true)
    (hzc : ∀ c : ClassId, Jvm.Free.Multi.innerC c K (defaultValue ty) = vp_cell c z) (hEo : ∀ k fi fl fr, zE G (zad b0) k fi fl fr co = .inl (G.2.1 kd, N, .inr (.inr (.inr (.inr (fun j => some (zad b0 (k + (1 + 1 * j))))))))) (hEe : ∀ k, zE G (zad b0) k (fun _ => 0) (fun _ => 0) (fun _ => 0) ce = .inl (G.2.1 ke, z)) (hso : sh n = co) (hse : ∀ j, j < N → sh (n + 1 + j) = ce) (hR : cells + (1 + N) ≤ R.cells ∧ slots + (N + N * K) ≤ R.slots) (hd : decode cc pc = .ok (.multianewarray idx 2, 4))
    (kk : zJ p l e R s m args below meth c G sh (zad b0) (n + (1 + N)) A nL Q (cells + (1 + N)) (slots + (N + N * K)) (zNew M n (1 + N)) (pc + 4) lv (.ref (zad b0 n) :: st)) : zJ p l e R s m args below meth c G sh (zad b0) n A nL Q cells slots M pc lv (.int y :: .int x :: st) := by
  subst hN
  subst hK
  intro H locs ls hP hS hl T hT X
  have hsz := zsz hT X hP hS hz hn
  have hov : (Cond.arrayOver (.array ty)).before args s = true := (cx.2.2.1.2.2.2.2.2.2 _ hmem)
  obtain ⟨vm₁, cA, comp, -, fA, fC, hO, -, X', step⟩ := X.multianewarray2F cx.1.1 cx.1.2.2.2.1 (cx.1.2.2.2.2 _ hcl) hov (cx.1.2.2.2.2 _ hw) (g := F0 m pc ls (.int y :: .int x :: st)) rfl (by rw [cx.1.2.1]; exact hd) rfl hx hy hb1 hb2 hb3 hdf hdd hR.1 hR.2
  have ecA : cA = G.2.1 kd := Option.some.inj (fA.symm.trans (hnk s (cx.2.2.1.1.2 kd _ hkd).2))
  have ecC : comp = G.2.1 ke := Option.some.inj (fC.symm.trans (by rw [hes]; exact hnm s (cx.2.2.1.1.2 ke _ hke).2))
  subst ecA
  subst ecC
  have hTh : (T.setVm vm₁).heap = H := hT
  obtain ⟨f1, f2, -, -⟩ := Jvm.Free.Multi.fill_facts (T.setVm vm₁) (G.2.1 kd) (G.2.1 ke) x.toNatClampNeg y.toNatClampNeg (defaultValue ty) x.toNatClampNeg
  have hold : ∀ q : Nat, q < H.size → (Jvm.Free.Multi.fill (T.setVm vm₁) (G.2.1 kd) (G.2.1 ke) x.toNatClampNeg y.toNatClampNeg (defaultValue ty) x.toNatClampNeg).heap[q]? = H[q]? := fun q hq => by
    have := Jvm.Free.Multi.fill_old (T.setVm vm₁) (G.2.1 kd) (G.2.1 ke) x.toNatClampNeg y.toNatClampNeg (defaultValue ty) (a := q) (by rw [hTh]; exact hq) x.toNatClampNeg
    rw [hTh] at this
    exact this
  have hrow : ∀ j : Nat, j < x.toNatClampNeg → (Jvm.Free.Multi.fill (T.setVm vm₁) (G.2.1 kd) (G.2.1 ke) x.toNatClampNeg y.toNatClampNeg (defaultValue ty) x.toNatClampNeg).heap[H.size + 1 + j]? = some (vp_cell (G.2.1 ke) z) := fun j hj => by
    have := Jvm.Free.Multi.fill_inner (T.setVm vm₁) (G.2.1 kd) (G.2.1 ke) x.toNatClampNeg y.toNatClampNeg (defaultValue ty) x.toNatClampNeg j hj
    rw [hTh, hzc] at this
    exact this
  rw [hTh] at f1 f2
  generalize Jvm.Free.Multi.fill (T.setVm vm₁) (G.2.1 kd) (G.2.1 ke) x.toNatClampNeg y.toNatClampNeg (defaultValue ty) x.toNatClampNeg = F at X' step f1 f2 hold hrow
  have hP1 : zHP G sh (zad b0) (n + (1 + x.toNatClampNeg)) (zNew M n (1 + x.toNatClampNeg)) F.heap := by
    intro k q hk
    obtain ⟨hkn, rfl⟩ := zws_dom hk
    by_cases h1 : k < n
    · obtain ⟨g1, g2, g3⟩ := zNew_off (M := M) (n := n) (k := 1 + x.toNatClampNeg) (a := k) (by omega)
      rw [g1, g2, g3]
      exact (hP k _ (zws_at h1)).kept (hold _ (by rw [hsz]; show b0 + k < b0 + n; omega))
    · obtain ⟨g1, g2, g3⟩ := zNew_on (M := M) (n := n) (k := 1 + x.toNatClampNeg) (a := k) (by omega)
      rw [g1, g2, g3]
      by_cases h2 : k = n
      · subst h2
        rw [hso, hEo]
        show F.heap[b0 + k]? = some (vp_cell _ _)
        rw [← hsz, f2, zouter]
        show some (arrV (G.2.1 kd) x.toNatClampNeg (fun j => va_rf (some (H.size + (1 + 1 * j))))) = some (arrV (G.2.1 kd) x.toNatClampNeg (fun j => va_rf (some (b0 + (k + (1 + 1 * j))))))
        refine congrArg some (arrV_same (fun j _ => ?_))
        rw [hsz, Nat.add_assoc]
      · obtain ⟨j, rfl⟩ : ∃ j, k = n + 1 + j := ⟨k - n - 1, by omega⟩
        rw [hse j (by omega), hEe]
        show F.heap[b0 + (n + 1 + j)]? = some (vp_cell _ _)
        have e1 : b0 + (n + 1 + j) = H.size + 1 + j := by omega
        rw [e1]
        exact hrow j (by omega)
  have hS1 : va_S A s.heap F.heap locs := ⟨by rw [f1]; have := hS.1; omega, fun q h1 h2 => (hold q (Nat.lt_of_lt_of_le h1 hS.1)).trans (hS.2.1 q h1 h2), hS.2.2⟩
  have X2 : Stand p l e R s m args below meth c F locs (cells + (1 + x.toNatClampNeg)) (slots + (x.toNatClampNeg + x.toNatClampNeg * y.toNatClampNeg)) := by
    have := X'
    rw [Nat.add_assoc, Nat.add_assoc slots] at this
    exact this
  obtain ⟨t2, a1, b1⟩ := kk F.heap locs ls hP1 hS1 hl F rfl X2
  rw [hT, hsz] at step
  exact ⟨t2, step t2 a1, b1⟩
end ZCV
