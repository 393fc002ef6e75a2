/-! THE LAW: what stands at its start -/
def tmS (i : Nat) : Term := .string (([("SunnyPans", 418), ("SunnyPans$Plan", 61), ("SunnyPans$Plan", 75), ("SunnyPans$Plan", 81), ("SunnyPans$Plan", 86), ("SunnyPans$Law", 79), ("SunnyPans$Law", 88), ("SunnyPans$Law", 97), ("SunnyPans$Law", 99), ("SunnyPans$Law", 101), ("SunnyPans$Law", 103), ("SunnyPans$Law", 107), ("SunnyPans$Law", 109), ("SunnyPans$Law", 111), ("SunnyPans$Job", 64), ("SunnyPans$Job", 88), ("SunnyPans$Job", 90), ("SunnyPans$Job", 92), ("SunnyPans$Job", 96), ("SunnyPans", 431)] : List (String × Nat)).getD i ("", 0)).1 (([("SunnyPans", 418), ("SunnyPans$Plan", 61), ("SunnyPans$Plan", 75), ("SunnyPans$Plan", 81), ("SunnyPans$Plan", 86), ("SunnyPans$Law", 79), ("SunnyPans$Law", 88), ("SunnyPans$Law", 97), ("SunnyPans$Law", 99), ("SunnyPans$Law", 101), ("SunnyPans$Law", 103), ("SunnyPans$Law", 107), ("SunnyPans$Law", 109), ("SunnyPans$Law", 111), ("SunnyPans$Job", 64), ("SunnyPans$Job", 88), ("SunnyPans$Job", 90), ("SunnyPans$Job", 92), ("SunnyPans$Job", 96), ("SunnyPans", 431)] : List (String × Nat)).getD i ("", 0)).2
def pick11 {α : Type} (a0 a1 a2 a3 a4 a5 a6 a7 a8 a9 a10 : α) : Nat → α := fun k => match k with
  | 0 => a0 | 1 => a1 | 2 => a2 | 3 => a3 | 4 => a4 | 5 => a5 | 6 => a6 | 7 => a7 | 8 => a8 | 9 => a9 | _ => a10
def pick6 {α : Type} (a0 a1 a2 a3 a4 a5 : α) : Nat → α := fun k => match k with
  | 0 => a0 | 1 => a1 | 2 => a2 | 3 => a3 | 4 => a4 | _ => a5
def adRef (tE tS : Nat) (adK adV : Nat → Nat) : Nat → Nat := fun k => if k = 0 then tE else if k = 1 then tS else if k < 22 then adK (k - 2) else adV (k - 22)
theorem ar_prim {s : State} {args : Array Value} {ty : FieldType} (hp : ∀ C, ty ≠ .object C) (h : (Cond.arrayClass ty).before args s = true) : ∃ a, ArrOfT s a ty ∧ s.vm.findClass ("[" ++ ty.toString) = some a := by
  obtain ⟨a, ka, co, f, g, h⟩ := Cond.arrayClass_spec h
  exact ⟨a, fun N z => ⟨fun k h => (by cases h), ka, g, co, h⟩, f⟩
theorem ar_obj {s : State} {args : Array Value} {C : String} (h : (Cond.arrayOver (.object C)).before args s = true) : ∃ a, ArrOfT s a (.object C) ∧ va_RA s a (.object C) := by
  obtain ⟨co, a, ka, f, -, g, h, n⟩ := Cond.arrayOver_spec h
  exact ⟨a, fun N z => ⟨fun k h => (by cases h), ka, g, co, h⟩, ka, co, g, h, f, n⟩
theorem ar_arr {s : State} {args : Array Value} {ty : FieldType} (h : (Cond.arrayOver (.array ty)).before args s = true) : ∃ a, ArrOfT s a (.array ty) ∧ va_RA s a (.array ty) := by
  obtain ⟨co, a, ka, f, -, g, h, n⟩ := arrayOverA_spec h
  exact ⟨a, fun N z => ⟨fun k h => (by cases h), ka, g, co, h⟩, n⟩
theorem law_ne1 : ∀ i, i < 1 → (flatC (Jvm.Cond.and given_1 narrow_1))[([113] : List Nat).getD i 0]? = some (Jvm.Cond.not (.eq (tmS i) (tmS 1))) := by decide +kernel
theorem law_ne2 : ∀ i, i < 2 → (flatC (Jvm.Cond.and given_1 narrow_1))[([122, 123] : List Nat).getD i 0]? = some (Jvm.Cond.not (.eq (tmS i) (tmS 2))) := by decide +kernel
theorem law_ne3 : ∀ i, i < 3 → (flatC (Jvm.Cond.and given_1 narrow_1))[([131, 132, 133] : List Nat).getD i 0]? = some (Jvm.Cond.not (.eq (tmS i) (tmS 3))) := by decide +kernel
theorem law_ne4 : ∀ i, i < 4 → (flatC (Jvm.Cond.and given_1 narrow_1))[([142, 143, 144, 145] : List Nat).getD i 0]? = some (Jvm.Cond.not (.eq (tmS i) (tmS 4))) := by decide +kernel
theorem law_ne5 : ∀ i, i < 5 → (flatC (Jvm.Cond.and given_1 narrow_1))[([155, 156, 157, 158, 159] : List Nat).getD i 0]? = some (Jvm.Cond.not (.eq (tmS i) (tmS 5))) := by decide +kernel
theorem law_ne6 : ∀ i, i < 6 → (flatC (Jvm.Cond.and given_1 narrow_1))[([168, 169, 170, 171, 172, 173] : List Nat).getD i 0]? = some (Jvm.Cond.not (.eq (tmS i) (tmS 6))) := by decide +kernel
theorem law_ne7 : ∀ i, i < 7 → (flatC (Jvm.Cond.and given_1 narrow_1))[([183, 184, 185, 186, 187, 188, 189] : List Nat).getD i 0]? = some (Jvm.Cond.not (.eq (tmS i) (tmS 7))) := by decide +kernel
theorem law_ne8 : ∀ i, i < 8 → (flatC (Jvm.Cond.and given_1 narrow_1))[([198, 199, 200, 201, 202, 203, 204, 205] : List Nat).getD i 0]? = some (Jvm.Cond.not (.eq (tmS i) (tmS 8))) := by decide +kernel
theorem law_ne9 : ∀ i, i < 9 → (flatC (Jvm.Cond.and given_1 narrow_1))[([215, 216, 217, 218, 219, 220, 221, 222, 223] : List Nat).getD i 0]? = some (Jvm.Cond.not (.eq (tmS i) (tmS 9))) := by decide +kernel
theorem law_ne10 : ∀ i, i < 10 → (flatC (Jvm.Cond.and given_1 narrow_1))[([232, 233, 234, 235, 236, 237, 238, 239, 240, 241] : List Nat).getD i 0]? = some (Jvm.Cond.not (.eq (tmS i) (tmS 10))) := by decide +kernel
theorem law_ne11 : ∀ i, i < 11 → (flatC (Jvm.Cond.and given_1 narrow_1))[([268, 269, 270, 271, 272, 273, 274, 275, 276, 277, 278] : List Nat).getD i 0]? = some (Jvm.Cond.not (.eq (tmS i) (tmS 11))) := by decide +kernel
theorem law_ne12 : ∀ i, i < 12 → (flatC (Jvm.Cond.and given_1 narrow_1))[([287, 288, 289, 290, 291, 292, 293, 294, 295, 296, 297, 299] : List Nat).getD i 0]? = some (Jvm.Cond.not (.eq (tmS i) (tmS 12))) := by decide +kernel
theorem law_ne13 : ∀ i, i < 13 → (flatC (Jvm.Cond.and given_1 narrow_1))[([307, 308, 309, 310, 311, 312, 313, 314, 315, 316, 317, 319, 320] : List Nat).getD i 0]? = some (Jvm.Cond.not (.eq (tmS i) (tmS 13))) := by decide +kernel
theorem law_ne14 : ∀ i, i < 14 → (flatC (Jvm.Cond.and given_1 narrow_1))[([328, 329, 330, 331, 332, 333, 334, 335, 336, 337, 338, 340, 341, 342] : List Nat).getD i 0]? = some (Jvm.Cond.not (.eq (tmS i) (tmS 14))) := by decide +kernel
theorem law_ne15 : ∀ i, i < 15 → (flatC (Jvm.Cond.and given_1 narrow_1))[([351, 352, 353, 354, 355, 356, 357, 358, 359, 360, 361, 363, 364, 365, 366] : List Nat).getD i 0]? = some (Jvm.Cond.not (.eq (tmS i) (tmS 15))) := by decide +kernel
theorem law_ne16 : ∀ i, i < 16 → (flatC (Jvm.Cond.and given_1 narrow_1))[([375, 376, 377, 378, 379, 380, 381, 382, 383, 384, 385, 387, 388, 389, 390, 391] : List Nat).getD i 0]? = some (Jvm.Cond.not (.eq (tmS i) (tmS 16))) := by decide +kernel
theorem law_ne17 : ∀ i, i < 17 → (flatC (Jvm.Cond.and given_1 narrow_1))[([400, 401, 402, 403, 404, 405, 406, 407, 408, 409, 410, 412, 413, 414, 415, 416, 417] : List Nat).getD i 0]? = some (Jvm.Cond.not (.eq (tmS i) (tmS 17))) := by decide +kernel
theorem law_ne18 : ∀ i, i < 18 → (flatC (Jvm.Cond.and given_1 narrow_1))[([454, 455, 456, 457, 458, 459, 460, 461, 462, 463, 464, 466, 467, 468, 469, 470, 471, 472] : List Nat).getD i 0]? = some (Jvm.Cond.not (.eq (tmS i) (tmS 18))) := by decide +kernel
theorem law_ne19 : ∀ i, i < 19 → (flatC (Jvm.Cond.and given_1 narrow_1))[([504, 505, 506, 507, 508, 509, 510, 511, 512, 513, 514, 516, 517, 518, 519, 520, 521, 522, 524] : List Nat).getD i 0]? = some (Jvm.Cond.not (.eq (tmS i) (tmS 19))) := by decide +kernel
theorem law_ne : ∀ i j, i < j → j < 20 → Jvm.Cond.not (.eq (tmS i) (tmS j)) ∈ flatC (Jvm.Cond.and given_1 narrow_1) := fun i j h hj => match j, hj, h with
  | 0, _, h => absurd h (Nat.not_lt_zero _)
  | 1, _, h => List.mem_of_getElem? (law_ne1 i h)
  | 2, _, h => List.mem_of_getElem? (law_ne2 i h)
  | 3, _, h => List.mem_of_getElem? (law_ne3 i h)
  | 4, _, h => List.mem_of_getElem? (law_ne4 i h)
  | 5, _, h => List.mem_of_getElem? (law_ne5 i h)
  | 6, _, h => List.mem_of_getElem? (law_ne6 i h)
  | 7, _, h => List.mem_of_getElem? (law_ne7 i h)
  | 8, _, h => List.mem_of_getElem? (law_ne8 i h)
  | 9, _, h => List.mem_of_getElem? (law_ne9 i h)
  | 10, _, h => List.mem_of_getElem? (law_ne10 i h)
  | 11, _, h => List.mem_of_getElem? (law_ne11 i h)
  | 12, _, h => List.mem_of_getElem? (law_ne12 i h)
  | 13, _, h => List.mem_of_getElem? (law_ne13 i h)
  | 14, _, h => List.mem_of_getElem? (law_ne14 i h)
  | 15, _, h => List.mem_of_getElem? (law_ne15 i h)
  | 16, _, h => List.mem_of_getElem? (law_ne16 i h)
  | 17, _, h => List.mem_of_getElem? (law_ne17 i h)
  | 18, _, h => List.mem_of_getElem? (law_ne18 i h)
  | 19, _, h => List.mem_of_getElem? (law_ne19 i h)
  | j + 20, hj, _ => absurd hj (by omega)
/-- the String constants -/
theorem law_S {s : State} {b : Nat} (hs : ∀ c ∈ flatC (Jvm.Cond.and given_1 narrow_1), c.before #[Value.ref b] s = true) : ∃ adK adV : Nat → Nat, vk_S 20 zLen zByt adK adV (fun q => s.heap.size ≤ q) s s.heap ∧ ∀ i : Nat, i < 20 → (tmS i).eval #[Value.ref b] s none [] s = some (.ref (adK i)) :=
  vk_Sof (A := (fun q => s.heap.size ≤ q)) (tm := tmS) (len := zLen) (byt := zByt) (N := 20) (fun i hi => by revert i hi; decide) (fun i hi => hs _ (by revert i hi; decide +kernel)) (fun i hi => hs _ (by revert i hi; decide +kernel)) (fun i hi => hs _ (by revert i hi; decide +kernel)) (fun i hi => hs _ (by revert i hi; decide +kernel)) (fun i hi j hj => hs _ (by revert j hj; revert i hi; decide +kernel)) (fun i j hi hj hij => by
    by_cases c : i < j
    · exact Or.inl (hs _ (law_ne i j c hj))
    · exact Or.inr (hs _ (law_ne j i (by omega) hi))) (fun a h => Nat.not_le.mpr h)
theorem zRefs_w : ∀ r ∈ zRefs, Cond.stringRef r.1 r.2.1 (zTx r.2.2) ∈ lw_tbl := by decide +kernel
theorem zRefs_t : ∀ r ∈ zRefs, r.2.2 < 20 ∧ (Term.string r.1 r.2.1 = tmS r.2.2 ∨ Cond.eq (tmS r.2.2) (Term.string r.1 r.2.1) ∈ flatC (Jvm.Cond.and given_1 narrow_1)) := by decide +kernel
theorem law_R {s : State} {b : Nat} {adK : Nat → Nat} (hts : ∀ w ∈ lw_tbl, w.before #[Value.ref b] s = true) (hs : ∀ c ∈ flatC (Jvm.Cond.and given_1 narrow_1), c.before #[Value.ref b] s = true) (hE : ∀ i : Nat, i < 20 → (tmS i).eval #[Value.ref b] s none [] s = some (.ref (adK i))) : ∀ r ∈ zRefs, vk_R r.1 r.2.1 (zTx r.2.2) (adK r.2.2) s := fun r hr => by
  obtain ⟨h1, h2⟩ := zRefs_t r hr
  refine vk_R.of (hts _ (zRefs_w r hr)) ?_
  rcases h2 with h2 | h2
  · rw [h2]; exact hE _ h1
  · exact va_eqR (hs _ h2) (hE _ h1)
/-- the two statics -/
theorem law_E {s : State} {b : Nat} (hts : ∀ w ∈ lw_tbl, w.before #[Value.ref b] s = true) (hs : ∀ c ∈ flatC (Jvm.Cond.and given_1 narrow_1), c.before #[Value.ref b] s = true) : ∃ t : Nat, va_Z "SunnyPans" "EAST" "[I" (.ref t) (fun q => s.heap.size ≤ q) s s.heap ∧ va_T .int t 8 (fun j => .int (zEast j)) (fun q => s.heap.size ≤ q) s s.heap := by
  obtain ⟨t, h1, h2⟩ := va_Tof (tm := .static "SunnyPans" "EAST" "[I") (ty := .int) (N := 8) (f := fun j => .int (zEast j)) (A := (fun q => s.heap.size ≤ q)) (by decide) (hs _ (by decide +kernel)) (va_eqt (hs _ (by decide +kernel))) (fun j hj => va_eqt (hs _ (by revert j hj; decide +kernel))) (fun a h => Nat.not_le.mpr h)
  exact ⟨t, va_Zref (hts (.laysStatic "SunnyPans" "EAST" "[I") (by decide +kernel)) (hts (.initialized "SunnyPans") (by decide +kernel)) h1 (fun a h => Nat.not_le.mpr h), h2⟩
theorem law_O {s : State} {b : Nat} (hts : ∀ w ∈ lw_tbl, w.before #[Value.ref b] s = true) (hs : ∀ c ∈ flatC (Jvm.Cond.and given_1 narrow_1), c.before #[Value.ref b] s = true) : ∃ t : Nat, va_Z "SunnyPans" "SOUTH" "[I" (.ref t) (fun q => s.heap.size ≤ q) s s.heap ∧ va_T .int t 8 (fun j => .int (zSouth j)) (fun q => s.heap.size ≤ q) s s.heap := by
  obtain ⟨t, h1, h2⟩ := va_Tof (tm := .static "SunnyPans" "SOUTH" "[I") (ty := .int) (N := 8) (f := fun j => .int (zSouth j)) (A := (fun q => s.heap.size ≤ q)) (by decide) (hs _ (by decide +kernel)) (va_eqt (hs _ (by decide +kernel))) (fun j hj => va_eqt (hs _ (by revert j hj; decide +kernel))) (fun a h => Nat.not_le.mpr h)
  exact ⟨t, va_Zref (hts (.laysStatic "SunnyPans" "SOUTH" "[I") (by decide +kernel)) (hts (.initialized "SunnyPans") (by decide +kernel)) h1 (fun a h => Nat.not_le.mpr h), h2⟩
theorem vkS_congr {N : Nat} {len : List Nat} {byt : List (List Int32)} {k v k' v' : Nat → Nat} {A : Nat → Prop} {U : State} {H : Heap} (h : vk_S N len byt k v A U H) (e1 : ∀ i, i < N → k' i = k i) (e2 : ∀ i, i < N → v' i = v i) : vk_S N len byt k' v' A U H := by
  refine ⟨fun i hi => ?_, fun i j hi hj e => ?_⟩
  · rw [e1 i hi, e2 i hi]; exact h.1 i hi
  · rw [e1 i hi, e1 j hj] at e; exact h.2 i j hi hj e
/-- the classes -/
theorem law_C {s : State} {b : Nat} (hts : ∀ w ∈ lw_tbl, w.before #[Value.ref b] s = true) : ∃ (dC : Nat → ClassId) (dI : Nat → Nat → Nat), ∀ (k : Nat) (q : vw_C), vwCl[k]? = some q → u_Kn s q.1 q.2.1 q.2.2 (dC k) (dI k) := by
  have g : ∀ {C : String} {T : u_T} {N : Nat}, (∀ w ∈ u_ws C T N, w ∈ tbG) → ∀ w ∈ u_ws C T N, w ∈ lw_tbl := fun h w hw => (List.mem_filter.mp (h w hw)).1
  obtain ⟨c0, i0, k0⟩ := u_known (C := RX0) (T := TX0) (N := 2) (n := 2) hts (g uw_0) (hts (.instantiable RX0 2) (by decide +kernel))
  obtain ⟨c1, i1, k1⟩ := u_known (C := RX1) (T := TX1) (N := 4) (n := 4) hts (g uw_1) (hts (.instantiable RX1 4) (by decide +kernel))
  obtain ⟨c2, i2, k2⟩ := u_known (C := RX2) (T := TX2) (N := 9) (n := 9) hts (g uw_2) (hts (.instantiable RX2 9) (by decide +kernel))
  obtain ⟨c3, i3, k3⟩ := u_known (C := RX3) (T := TX3) (N := 4) (n := 4) hts (g uw_3) (hts (.instantiable RX3 4) (by decide +kernel))
  obtain ⟨c4, i4, k4⟩ := u_known (C := RX4) (T := TX4) (N := 7) (n := 7) hts (g uw_4) (hts (.instantiable RX4 7) (by decide +kernel))
  obtain ⟨c5, i5, k5⟩ := u_known (C := RX5) (T := TX5) (N := 9) (n := 9) hts (g uw_5) (hts (.instantiable RX5 9) (by decide +kernel))
  obtain ⟨c6, i6, k6⟩ := u_known (C := RX6) (T := TX6) (N := 3) (n := 3) hts (g uw_6) (hts (.instantiable RX6 3) (by decide +kernel))
  obtain ⟨c7, i7, k7⟩ := u_known (C := RX7) (T := TX7) (N := 3) (n := 3) hts (g uw_7) (hts (.instantiable RX7 3) (by decide +kernel))
  obtain ⟨c8, i8, k8⟩ := u_known (C := RX8) (T := TX8) (N := 8) (n := 8) hts (g uw_8) (hts (.instantiable RX8 8) (by decide +kernel))
  obtain ⟨c9, i9, k9⟩ := u_known (C := RX9) (T := TX9) (N := 19) (n := 19) hts (g uw_9) (hts (.instantiable RX9 19) (by decide +kernel))
  obtain ⟨c10, i10, k10⟩ := u_known (C := RX10) (T := TX10) (N := 40) (n := 40) hts (g uw_10) (hts (.instantiable RX10 40) (by decide +kernel))
  refine ⟨pick11 c0 c1 c2 c3 c4 c5 c6 c7 c8 c9 c10, pick11 i0 i1 i2 i3 i4 i5 i6 i7 i8 i9 i10, fun k q hq => ?_⟩
  match k, hq with
  | 0, hq => cases hq; exact k0
  | 1, hq => cases hq; exact k1
  | 2, hq => cases hq; exact k2
  | 3, hq => cases hq; exact k3
  | 4, hq => cases hq; exact k4
  | 5, hq => cases hq; exact k5
  | 6, hq => cases hq; exact k6
  | 7, hq => cases hq; exact k7
  | 8, hq => cases hq; exact k8
  | 9, hq => cases hq; exact k9
  | 10, hq => cases hq; exact k10
  | k + 11, hq => simp [vwCl] at hq
/-- all that no method changes -/
theorem law_K {s : State} {b : Nat} (hts : ∀ w ∈ lw_tbl, w.before #[Value.ref b] s = true) (hgv : (Jvm.Cond.and given_1 narrow_1).before #[Value.ref b] s = true) : (∃ G, zK G (fun q => s.heap.size ≤ q) s s.heap) ∧ lwN s := by
  have hs := flat_of_before _ hgv
  have hA : ∀ a : Nat, a < s.heap.size → ¬ (fun q => s.heap.size ≤ q) a := fun a h => Nat.not_le.mpr h
  obtain ⟨dC, dI, hC⟩ := law_C hts
  obtain ⟨a0, r0, n0⟩ := ar_prim (fun C h => by cases h) (hts (.arrayClass .int) (by decide +kernel))
  obtain ⟨a1, r1, n1⟩ := ar_prim (fun C h => by cases h) (hts (.arrayClass .long) (by decide +kernel))
  have o2 := hts (.arrayOver (.object "SunnyPans$Pans")) (by decide +kernel)
  have o3 := hts (.arrayOver (.object "SunnyPans$Stand")) (by decide +kernel)
  have o4 := hts (.arrayOver (.array .int)) (by decide +kernel)
  have o5 := hts (.arrayOver (.array .long)) (by decide +kernel)
  obtain ⟨a2, r2, n2⟩ := ar_obj o2
  obtain ⟨a3, r3, n3⟩ := ar_obj o3
  obtain ⟨a4, r4, n4⟩ := ar_arr o4
  obtain ⟨a5, r5, n5⟩ := ar_arr o5
  obtain ⟨adK, adV, hS, hEv⟩ := law_S hs
  obtain ⟨tE, e1, e2⟩ := law_E hts hs
  obtain ⟨tS, s1, s2⟩ := law_O hts hs
  have eK : ∀ i, i < 20 → adRef tE tS adK adV (2 + i) = adK i := fun i hi => by
    unfold adRef
    rw [if_neg (by omega), if_neg (by omega), if_pos (by omega), show 2 + i - 2 = i by omega]
  have eV : ∀ i, i < 20 → adRef tE tS adK adV (22 + i) = adV i := fun i hi => by
    unfold adRef
    rw [if_neg (by omega), if_neg (by omega), if_neg (by omega), show 22 + i - 22 = i by omega]
  refine ⟨⟨((dC, dI), pick6 a0 a1 a2 a3 a4 a5, adRef tE tS adK adV), ⟨hC, fun k q hk => ?_⟩, fun w hw => va_Nw.of (by
    have := (List.mem_filter.mp hw).2
    cases w <;> first | rfl | exact absurd this (by simp [zNW])) (hts w (List.mem_filter.mp hw).1), ⟨e1, e2, s1, s2⟩, vx_Zqof (hts (.laysStatic Bundle.tN "UNASSIGNED_STACK" Bundle.steD) (by decide +kernel)) (hts (.initialized Bundle.tN) (by decide +kernel)) (hs _ (by decide +kernel)) hA, vx_Zqof (hts (.laysStatic Bundle.tN "SUPPRESSED_SENTINEL" Bundle.listD) (by decide +kernel)) (hts (.initialized Bundle.tN) (by decide +kernel)) (hs _ (by decide +kernel)) hA, ⟨vkS_congr hS eK eV, fun r hr => ?_, va_Zof (hts (.laysStatic "java/lang/String" "COMPACT_STRINGS" "Z") (by decide +kernel)) (hts (.initialized "java/lang/String") (by decide +kernel)) (va_eqt (hs _ (by decide +kernel))) hA, va_Zqof (hts (.laysStatic "jdk/internal/util/Preconditions" "SIOOBE_FORMATTER" "Ljava/util/function/BiFunction;") (by decide +kernel)) (hts (.initialized "jdk/internal/util/Preconditions") (by decide +kernel)) (hs _ (by decide +kernel)) hA⟩, ?_⟩, va_Nc.of (hs (Cond.not (.castable "java/lang/IllegalArgumentException" "java/util/NoSuchElementException")) (by decide +kernel))⟩
  · match k, hk with
    | 0, hk => cases hk; exact ⟨r0, n0⟩
    | 1, hk => cases hk; exact ⟨r1, n1⟩
    | 2, hk => cases hk; exact ⟨r2, n2⟩
    | 3, hk => cases hk; exact ⟨r3, n3⟩
    | 4, hk => cases hk; exact ⟨r4, n4⟩
    | 5, hk => cases hk; exact ⟨r5, n5⟩
    | k + 6, hk => simp [zTys] at hk
  · have h := law_R hts hs hEv r hr
    have e := eK r.2.2 (zRefs_t r hr).1
    show vk_R r.1 r.2.1 (zTx r.2.2) (adRef tE tS adK adV (2 + r.2.2)) s
    rw [e]; exact h
  · exact List.forall_mem_cons.mpr ⟨o2, List.forall_mem_cons.mpr ⟨o3, List.forall_mem_cons.mpr ⟨o4, List.forall_mem_cons.mpr ⟨o5, fun _ h => absurd h List.not_mem_nil⟩⟩⟩⟩
