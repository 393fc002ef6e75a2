/-! THE LAW: its wrappers -/
theorem lT0 : zT shX 461 0 10 := ⟨rfl, by decide, by decide⟩
set_option maxRecDepth 100000 in
theorem lwCI : Cond.castable "java/lang/IllegalArgumentException" "java/lang/IllegalArgumentException" ∈ tbN := twn2 192 rfl rfl
set_option maxRecDepth 100000 in
theorem lwCN : Cond.castable "java/util/NoSuchElementException" "java/util/NoSuchElementException" ∈ tbN := twn4 211 rfl rfl
set_option maxRecDepth 100000 in
theorem lwd_517 : Cond.classLink "SunnyPansLaw" 13 "java/lang/IllegalArgumentException" ∈ tbG := tw2 177 rfl rfl
set_option maxRecDepth 100000 in
theorem lwd_1015 : Cond.classLink "SunnyPansLaw" 31 "java/util/NoSuchElementException" ∈ tbG := tw4 195 rfl rfl
set_option maxRecDepth 100000 in
theorem lwd_518 : Cond.methodLink "SunnyPansLaw" 7 yX9_works ∈ tbG := tw2 178 rfl rfl
set_option maxRecDepth 100000 in
theorem lwd_519 : Cond.instanceMethod yX9_works ∈ tbG := tw2 179 rfl rfl
set_option maxRecDepth 100000 in
theorem lwd_520 : Cond.selects "SunnyPans" yX9_works yX9_works ∈ tbG := tw2 180 rfl rfl
set_option maxRecDepth 100000 in
theorem lwd_101 : Cond.initialized "SunnyPans" ∈ tbG := tw1 1 rfl rfl
set_option maxRecDepth 100000 in
theorem lwd_521 : Cond.code yX9_works cX9_works 3 (some .int) ∈ tbG := tw2 181 rfl rfl
theorem lcv_works : zCV "SunnyPansLaw" 7 "SunnyPans" yX9_works cX9_works 3 (some .int) 1 := zCV_of lwd_518 lwd_519 lwd_520 lwd_101 lwd_521 (by decide +kernel)
theorem dL_works_0 : decode cL_works 0 = .ok (.aload_n 2, 1) := by decide +kernel
theorem dL_works_1 : decode cL_works 1 = .ok (.iconst 0, 1) := by decide +kernel
theorem dL_works_2 : decode cL_works 2 = .ok (.aload_n 0, 1) := by decide +kernel
theorem dL_works_3 : decode cL_works 3 = .ok (.iload_n 1, 1) := by decide +kernel
theorem dL_works_4 : decode cL_works 4 = .ok (.invokevirtual 7, 3) := by decide +kernel
theorem dL_works_7 : decode cL_works 7 = .ok (.i2l, 1) := by decide +kernel
theorem dL_works_8 : decode cL_works 8 = .ok (.lastore, 1) := by decide +kernel
theorem dL_works_9 : decode cL_works 9 = .ok (.goto 6, 3) := by decide +kernel
theorem dL_works_12 : decode cL_works 12 = .ok (.astore_n 3, 1) := by decide +kernel
theorem dL_works_13 : decode cL_works 13 = .ok (.iconst 1, 1) := by decide +kernel
theorem dL_works_14 : decode cL_works 14 = .ok (.ireturn, 1) := by decide +kernel
theorem dL_works_15 : decode cL_works 15 = .ok (.iconst 0, 1) := by decide +kernel
theorem dL_works_16 : decode cL_works 16 = .ok (.ireturn, 1) := by decide +kernel
def rmw_works : Room := { frames := 12, cells := 1, slots := 6, locals := 350 }
set_option maxHeartbeats 4000000 in
theorem cw_works (l : Launch) {G : zG} {ad : Nat → Nat} {ao : Nat} (hin : wIn ad ao) (M : zMem) (v : Int64) (p0 : Int32) (hl : l.stackTraces = false) {k9 : Nat} {r9 : Int32} {M9 : zMem} (hF : F_X9_works M p0 = some (k9, r9, M9)) {kk : Int32} {v' : Int64} (hk : (k9 = 0 ∧ kk = 0 ∧ v' = r9.toInt64) ∨ (k9 = 1 ∧ kk = 1 ∧ v' = v)) : lwM l yL_works cL_works 4 [(0, 9, 12, 13)] rmw_works 1 6 G ad ao M v [.ref (ad 0), .int p0, .ref ao] kk M9 v' := by
  refine lwM_of (by decide +kernel) (lv := [(0, .ref (ad 0)), (1, .int p0), (2, .ref ao)]) (Nat.le_of_ble_eq_true rfl) rfl (fun p e s m args below meth c A cx hr ht hA ho hN hsub => ?_)
  refine l_aload_n cx dL_works_0 2 rfl ?_
  refine l_iconst cx dL_works_1 ki_0 ?_
  refine l_aload_n cx dL_works_2 0 rfl ?_
  refine l_iload_n cx dL_works_3 1 rfl ?_
  refine l_callXC (As := [.int p0]) (rest := [.int 0, .ref ao]) cx (c_X9_works l hin.1 M p0 hl lT0 hF) lT0 zo_10 lcv_works ⟨rfl, rfl, Nat.le_of_ble_eq_true rfl, Nat.le_of_ble_eq_true rfl⟩ rfl rfl ⟨Nat.le_of_ble_eq_true rfl, Nat.le_of_ble_eq_true rfl⟩ (Nat.le_of_ble_eq_true rfl) dL_works_4 hin hA (fun hk0 => ?_) (fun hk0 => ?_)
  · rcases hk with ⟨h1, h2, h3⟩ | ⟨h1, h2, h3⟩
    · exact absurd h1 hk0
    subst h1
    refine ⟨12, "java/lang/IllegalArgumentException", [], ⟨0, 9, 12, 13⟩, [], ht, fun z hz => absurd hz List.not_mem_nil, rfl, by decide, cx.1.2.2.2.2 _ lwd_517, va_Nw.use rfl (cx.2.2.1.2.1 _ lwCI), rfl, fun q => ?_⟩
    refine l_astore_n cx 3 [(3, .ref q), (0, .ref (ad 0)), (1, .int p0), (2, .ref ao)] dL_works_12 rfl (by decide) rfl ?_
    refine l_iconst cx dL_works_13 ki_1 ?_
    exact l_iret cx hr ⟨Nat.le_of_ble_eq_true rfl, Nat.le_of_ble_eq_true rfl⟩ dL_works_14 (fun H locs hP hS t ht => ⟨⟨by rw [h2], by rw [ht, h3]; exact hP⟩, hS.F ht⟩)
  · have hz : kk = 0 ∧ v' = r9.toInt64 := by
      rcases hk with ⟨h1, h2, h3⟩ | ⟨h1, h2, h3⟩
      · exact ⟨h2, h3⟩
      · omega
    refine l_i2l cx dL_works_7 ?_
    refine l_last cx hin hA ho dL_works_8 ?_
    refine l_goto cx 15 dL_works_9 (by decide) ?_
    refine l_iconst cx dL_works_15 ki_0 ?_
    exact l_iret cx hr ⟨Nat.le_of_ble_eq_true rfl, Nat.le_of_ble_eq_true rfl⟩ dL_works_16 (fun H locs hP hS t ht => ⟨⟨by rw [hz.1], by rw [ht, hz.2]; exact hP⟩, hS.F ht⟩)
set_option maxRecDepth 100000 in
theorem lwd_773 : Cond.methodLink "SunnyPansLaw" 15 yX9_law ∈ tbG := tw3 193 rfl rfl
set_option maxRecDepth 100000 in
theorem lwd_774 : Cond.instanceMethod yX9_law ∈ tbG := tw3 194 rfl rfl
set_option maxRecDepth 100000 in
theorem lwd_775 : Cond.selects "SunnyPans" yX9_law yX9_law ∈ tbG := tw3 195 rfl rfl
set_option maxRecDepth 100000 in
theorem lwd_776 : Cond.code yX9_law cX9_law 3 (some .int) ∈ tbG := tw3 196 rfl rfl
theorem lcv_law : zCV "SunnyPansLaw" 15 "SunnyPans" yX9_law cX9_law 3 (some .int) 1 := zCV_of lwd_773 lwd_774 lwd_775 lwd_101 lwd_776 (by decide +kernel)
theorem dL_law_0 : decode cL_law 0 = .ok (.aload_n 2, 1) := by decide +kernel
theorem dL_law_1 : decode cL_law 1 = .ok (.iconst 0, 1) := by decide +kernel
theorem dL_law_2 : decode cL_law 2 = .ok (.aload_n 0, 1) := by decide +kernel
theorem dL_law_3 : decode cL_law 3 = .ok (.iload_n 1, 1) := by decide +kernel
theorem dL_law_4 : decode cL_law 4 = .ok (.invokevirtual 15, 3) := by decide +kernel
theorem dL_law_7 : decode cL_law 7 = .ok (.i2l, 1) := by decide +kernel
theorem dL_law_8 : decode cL_law 8 = .ok (.lastore, 1) := by decide +kernel
theorem dL_law_9 : decode cL_law 9 = .ok (.goto 6, 3) := by decide +kernel
theorem dL_law_12 : decode cL_law 12 = .ok (.astore_n 3, 1) := by decide +kernel
theorem dL_law_13 : decode cL_law 13 = .ok (.iconst 1, 1) := by decide +kernel
theorem dL_law_14 : decode cL_law 14 = .ok (.ireturn, 1) := by decide +kernel
theorem dL_law_15 : decode cL_law 15 = .ok (.iconst 0, 1) := by decide +kernel
theorem dL_law_16 : decode cL_law 16 = .ok (.ireturn, 1) := by decide +kernel
def rmw_law : Room := { frames := 963, cells := 1, slots := 6, locals := 24067 }
set_option maxHeartbeats 4000000 in
theorem cw_law (l : Launch) {G : zG} {ad : Nat → Nat} {ao : Nat} (hin : wIn ad ao) (M : zMem) (v : Int64) (p0 : Int32) (hl : l.stackTraces = false) {k9 : Nat} {r9 : Int32} {M9 : zMem} (hF : F_X9_law M p0 = some (k9, r9, M9)) {kk : Int32} {v' : Int64} (hk : (k9 = 0 ∧ kk = 0 ∧ v' = r9.toInt64) ∨ (k9 = 1 ∧ kk = 1 ∧ v' = v)) : lwM l yL_law cL_law 4 [(0, 9, 12, 13)] rmw_law 1 6 G ad ao M v [.ref (ad 0), .int p0, .ref ao] kk M9 v' := by
  refine lwM_of (by decide +kernel) (lv := [(0, .ref (ad 0)), (1, .int p0), (2, .ref ao)]) (Nat.le_of_ble_eq_true rfl) rfl (fun p e s m args below meth c A cx hr ht hA ho hN hsub => ?_)
  refine l_aload_n cx dL_law_0 2 rfl ?_
  refine l_iconst cx dL_law_1 ki_0 ?_
  refine l_aload_n cx dL_law_2 0 rfl ?_
  refine l_iload_n cx dL_law_3 1 rfl ?_
  refine l_callXC (As := [.int p0]) (rest := [.int 0, .ref ao]) cx (c_X9_law l hin.1 M p0 hl lT0 hF) lT0 zo_10 lcv_law ⟨rfl, rfl, Nat.le_of_ble_eq_true rfl, Nat.le_of_ble_eq_true rfl⟩ rfl rfl ⟨Nat.le_of_ble_eq_true rfl, Nat.le_of_ble_eq_true rfl⟩ (Nat.le_of_ble_eq_true rfl) dL_law_4 hin hA (fun hk0 => ?_) (fun hk0 => ?_)
  · rcases hk with ⟨h1, h2, h3⟩ | ⟨h1, h2, h3⟩
    · exact absurd h1 hk0
    subst h1
    refine ⟨12, "java/lang/IllegalArgumentException", [], ⟨0, 9, 12, 13⟩, [], ht, fun z hz => absurd hz List.not_mem_nil, rfl, by decide, cx.1.2.2.2.2 _ lwd_517, va_Nw.use rfl (cx.2.2.1.2.1 _ lwCI), rfl, fun q => ?_⟩
    refine l_astore_n cx 3 [(3, .ref q), (0, .ref (ad 0)), (1, .int p0), (2, .ref ao)] dL_law_12 rfl (by decide) rfl ?_
    refine l_iconst cx dL_law_13 ki_1 ?_
    exact l_iret cx hr ⟨Nat.le_of_ble_eq_true rfl, Nat.le_of_ble_eq_true rfl⟩ dL_law_14 (fun H locs hP hS t ht => ⟨⟨by rw [h2], by rw [ht, h3]; exact hP⟩, hS.F ht⟩)
  · have hz : kk = 0 ∧ v' = r9.toInt64 := by
      rcases hk with ⟨h1, h2, h3⟩ | ⟨h1, h2, h3⟩
      · exact ⟨h2, h3⟩
      · omega
    refine l_i2l cx dL_law_7 ?_
    refine l_last cx hin hA ho dL_law_8 ?_
    refine l_goto cx 15 dL_law_9 (by decide) ?_
    refine l_iconst cx dL_law_15 ki_0 ?_
    exact l_iret cx hr ⟨Nat.le_of_ble_eq_true rfl, Nat.le_of_ble_eq_true rfl⟩ dL_law_16 (fun H locs hP hS t ht => ⟨⟨by rw [hz.1], by rw [ht, hz.2]; exact hP⟩, hS.F ht⟩)
set_option maxRecDepth 100000 in
theorem lwd_833 : Cond.methodLink "SunnyPansLaw" 18 yX9_work ∈ tbG := tw4 13 rfl rfl
set_option maxRecDepth 100000 in
theorem lwd_834 : Cond.instanceMethod yX9_work ∈ tbG := tw4 14 rfl rfl
set_option maxRecDepth 100000 in
theorem lwd_835 : Cond.selects "SunnyPans" yX9_work yX9_work ∈ tbG := tw4 15 rfl rfl
set_option maxRecDepth 100000 in
theorem lwd_836 : Cond.code yX9_work cX9_work 2 (some .int) ∈ tbG := tw4 16 rfl rfl
theorem lcv_work : zCV "SunnyPansLaw" 18 "SunnyPans" yX9_work cX9_work 2 (some .int) 1 := zCV_of lwd_833 lwd_834 lwd_835 lwd_101 lwd_836 (by decide +kernel)
theorem dL_work_0 : decode cL_work 0 = .ok (.aload_n 2, 1) := by decide +kernel
theorem dL_work_1 : decode cL_work 1 = .ok (.iconst 0, 1) := by decide +kernel
theorem dL_work_2 : decode cL_work 2 = .ok (.aload_n 0, 1) := by decide +kernel
theorem dL_work_3 : decode cL_work 3 = .ok (.iload_n 1, 1) := by decide +kernel
theorem dL_work_4 : decode cL_work 4 = .ok (.invokevirtual 18, 3) := by decide +kernel
theorem dL_work_7 : decode cL_work 7 = .ok (.i2l, 1) := by decide +kernel
theorem dL_work_8 : decode cL_work 8 = .ok (.lastore, 1) := by decide +kernel
theorem dL_work_9 : decode cL_work 9 = .ok (.goto 6, 3) := by decide +kernel
theorem dL_work_12 : decode cL_work 12 = .ok (.astore_n 3, 1) := by decide +kernel
theorem dL_work_13 : decode cL_work 13 = .ok (.iconst 1, 1) := by decide +kernel
theorem dL_work_14 : decode cL_work 14 = .ok (.ireturn, 1) := by decide +kernel
theorem dL_work_15 : decode cL_work 15 = .ok (.iconst 0, 1) := by decide +kernel
theorem dL_work_16 : decode cL_work 16 = .ok (.ireturn, 1) := by decide +kernel
def rmw_work : Room := { frames := 12, cells := 1, slots := 6, locals := 350 }
set_option maxHeartbeats 4000000 in
theorem cw_work (l : Launch) {G : zG} {ad : Nat → Nat} {ao : Nat} (hin : wIn ad ao) (M : zMem) (v : Int64) (p0 : Int32) (hl : l.stackTraces = false) {k9 : Nat} {r9 : Int32} {M9 : zMem} (hF : F_X9_work M p0 = some (k9, r9, M9)) {kk : Int32} {v' : Int64} (hk : (k9 = 0 ∧ kk = 0 ∧ v' = r9.toInt64) ∨ (k9 = 1 ∧ kk = 1 ∧ v' = v)) : lwM l yL_work cL_work 4 [(0, 9, 12, 13)] rmw_work 1 6 G ad ao M v [.ref (ad 0), .int p0, .ref ao] kk M9 v' := by
  refine lwM_of (by decide +kernel) (lv := [(0, .ref (ad 0)), (1, .int p0), (2, .ref ao)]) (Nat.le_of_ble_eq_true rfl) rfl (fun p e s m args below meth c A cx hr ht hA ho hN hsub => ?_)
  refine l_aload_n cx dL_work_0 2 rfl ?_
  refine l_iconst cx dL_work_1 ki_0 ?_
  refine l_aload_n cx dL_work_2 0 rfl ?_
  refine l_iload_n cx dL_work_3 1 rfl ?_
  refine l_callXC (As := [.int p0]) (rest := [.int 0, .ref ao]) cx (c_X9_work l hin.1 M p0 hl lT0 hF) lT0 zo_10 lcv_work ⟨rfl, rfl, Nat.le_of_ble_eq_true rfl, Nat.le_of_ble_eq_true rfl⟩ rfl rfl ⟨Nat.le_of_ble_eq_true rfl, Nat.le_of_ble_eq_true rfl⟩ (Nat.le_of_ble_eq_true rfl) dL_work_4 hin hA (fun hk0 => ?_) (fun hk0 => ?_)
  · rcases hk with ⟨h1, h2, h3⟩ | ⟨h1, h2, h3⟩
    · exact absurd h1 hk0
    subst h1
    refine ⟨12, "java/lang/IllegalArgumentException", [], ⟨0, 9, 12, 13⟩, [], ht, fun z hz => absurd hz List.not_mem_nil, rfl, by decide, cx.1.2.2.2.2 _ lwd_517, va_Nw.use rfl (cx.2.2.1.2.1 _ lwCI), rfl, fun q => ?_⟩
    refine l_astore_n cx 3 [(3, .ref q), (0, .ref (ad 0)), (1, .int p0), (2, .ref ao)] dL_work_12 rfl (by decide) rfl ?_
    refine l_iconst cx dL_work_13 ki_1 ?_
    exact l_iret cx hr ⟨Nat.le_of_ble_eq_true rfl, Nat.le_of_ble_eq_true rfl⟩ dL_work_14 (fun H locs hP hS t ht => ⟨⟨by rw [h2], by rw [ht, h3]; exact hP⟩, hS.F ht⟩)
  · have hz : kk = 0 ∧ v' = r9.toInt64 := by
      rcases hk with ⟨h1, h2, h3⟩ | ⟨h1, h2, h3⟩
      · exact ⟨h2, h3⟩
      · omega
    refine l_i2l cx dL_work_7 ?_
    refine l_last cx hin hA ho dL_work_8 ?_
    refine l_goto cx 15 dL_work_9 (by decide) ?_
    refine l_iconst cx dL_work_15 ki_0 ?_
    exact l_iret cx hr ⟨Nat.le_of_ble_eq_true rfl, Nat.le_of_ble_eq_true rfl⟩ dL_work_16 (fun H locs hP hS t ht => ⟨⟨by rw [hz.1], by rw [ht, hz.2]; exact hP⟩, hS.F ht⟩)
set_option maxRecDepth 100000 in
theorem lwd_954 : Cond.methodLink "SunnyPansLaw" 21 yX9_book ∈ tbG := tw4 134 rfl rfl
set_option maxRecDepth 100000 in
theorem lwd_955 : Cond.instanceMethod yX9_book ∈ tbG := tw4 135 rfl rfl
set_option maxRecDepth 100000 in
theorem lwd_956 : Cond.selects "SunnyPans" yX9_book yX9_book ∈ tbG := tw4 136 rfl rfl
set_option maxRecDepth 100000 in
theorem lwd_957 : Cond.code yX9_book cX9_book 3 (some .int) ∈ tbG := tw4 137 rfl rfl
theorem lcv_book : zCV "SunnyPansLaw" 21 "SunnyPans" yX9_book cX9_book 3 (some .int) 1 := zCV_of lwd_954 lwd_955 lwd_956 lwd_101 lwd_957 (by decide +kernel)
theorem dL_book_0 : decode cL_book 0 = .ok (.aload_n 2, 1) := by decide +kernel
theorem dL_book_1 : decode cL_book 1 = .ok (.iconst 0, 1) := by decide +kernel
theorem dL_book_2 : decode cL_book 2 = .ok (.aload_n 0, 1) := by decide +kernel
theorem dL_book_3 : decode cL_book 3 = .ok (.iload_n 1, 1) := by decide +kernel
theorem dL_book_4 : decode cL_book 4 = .ok (.invokevirtual 21, 3) := by decide +kernel
theorem dL_book_7 : decode cL_book 7 = .ok (.i2l, 1) := by decide +kernel
theorem dL_book_8 : decode cL_book 8 = .ok (.lastore, 1) := by decide +kernel
theorem dL_book_9 : decode cL_book 9 = .ok (.goto 6, 3) := by decide +kernel
theorem dL_book_12 : decode cL_book 12 = .ok (.astore_n 3, 1) := by decide +kernel
theorem dL_book_13 : decode cL_book 13 = .ok (.iconst 1, 1) := by decide +kernel
theorem dL_book_14 : decode cL_book 14 = .ok (.ireturn, 1) := by decide +kernel
theorem dL_book_15 : decode cL_book 15 = .ok (.iconst 0, 1) := by decide +kernel
theorem dL_book_16 : decode cL_book 16 = .ok (.ireturn, 1) := by decide +kernel
def rmw_book : Room := { frames := 12, cells := 1, slots := 6, locals := 214 }
set_option maxHeartbeats 4000000 in
theorem cw_book (l : Launch) {G : zG} {ad : Nat → Nat} {ao : Nat} (hin : wIn ad ao) (M : zMem) (v : Int64) (p0 : Int32) (hl : l.stackTraces = false) {k9 : Nat} {r9 : Int32} {M9 : zMem} (hF : F_X9_book M p0 = some (k9, r9, M9)) {kk : Int32} {v' : Int64} (hk : (k9 = 0 ∧ kk = 0 ∧ v' = r9.toInt64) ∨ (k9 = 1 ∧ kk = 1 ∧ v' = v)) : lwM l yL_book cL_book 4 [(0, 9, 12, 13)] rmw_book 1 6 G ad ao M v [.ref (ad 0), .int p0, .ref ao] kk M9 v' := by
  refine lwM_of (by decide +kernel) (lv := [(0, .ref (ad 0)), (1, .int p0), (2, .ref ao)]) (Nat.le_of_ble_eq_true rfl) rfl (fun p e s m args below meth c A cx hr ht hA ho hN hsub => ?_)
  refine l_aload_n cx dL_book_0 2 rfl ?_
  refine l_iconst cx dL_book_1 ki_0 ?_
  refine l_aload_n cx dL_book_2 0 rfl ?_
  refine l_iload_n cx dL_book_3 1 rfl ?_
  refine l_callXC (As := [.int p0]) (rest := [.int 0, .ref ao]) cx (c_X9_book l hin.1 M p0 hl lT0 hF) lT0 zo_10 lcv_book ⟨rfl, rfl, Nat.le_of_ble_eq_true rfl, Nat.le_of_ble_eq_true rfl⟩ rfl rfl ⟨Nat.le_of_ble_eq_true rfl, Nat.le_of_ble_eq_true rfl⟩ (Nat.le_of_ble_eq_true rfl) dL_book_4 hin hA (fun hk0 => ?_) (fun hk0 => ?_)
  · rcases hk with ⟨h1, h2, h3⟩ | ⟨h1, h2, h3⟩
    · exact absurd h1 hk0
    subst h1
    refine ⟨12, "java/lang/IllegalArgumentException", [], ⟨0, 9, 12, 13⟩, [], ht, fun z hz => absurd hz List.not_mem_nil, rfl, by decide, cx.1.2.2.2.2 _ lwd_517, va_Nw.use rfl (cx.2.2.1.2.1 _ lwCI), rfl, fun q => ?_⟩
    refine l_astore_n cx 3 [(3, .ref q), (0, .ref (ad 0)), (1, .int p0), (2, .ref ao)] dL_book_12 rfl (by decide) rfl ?_
    refine l_iconst cx dL_book_13 ki_1 ?_
    exact l_iret cx hr ⟨Nat.le_of_ble_eq_true rfl, Nat.le_of_ble_eq_true rfl⟩ dL_book_14 (fun H locs hP hS t ht => ⟨⟨by rw [h2], by rw [ht, h3]; exact hP⟩, hS.F ht⟩)
  · have hz : kk = 0 ∧ v' = r9.toInt64 := by
      rcases hk with ⟨h1, h2, h3⟩ | ⟨h1, h2, h3⟩
      · exact ⟨h2, h3⟩
      · omega
    refine l_i2l cx dL_book_7 ?_
    refine l_last cx hin hA ho dL_book_8 ?_
    refine l_goto cx 15 dL_book_9 (by decide) ?_
    refine l_iconst cx dL_book_15 ki_0 ?_
    exact l_iret cx hr ⟨Nat.le_of_ble_eq_true rfl, Nat.le_of_ble_eq_true rfl⟩ dL_book_16 (fun H locs hP hS t ht => ⟨⟨by rw [hz.1], by rw [ht, hz.2]; exact hP⟩, hS.F ht⟩)
set_option maxRecDepth 100000 in
theorem lwd_977 : Cond.methodLink "SunnyPansLaw" 24 yX9_told ∈ tbG := tw4 157 rfl rfl
set_option maxRecDepth 100000 in
theorem lwd_978 : Cond.instanceMethod yX9_told ∈ tbG := tw4 158 rfl rfl
set_option maxRecDepth 100000 in
theorem lwd_979 : Cond.selects "SunnyPans" yX9_told yX9_told ∈ tbG := tw4 159 rfl rfl
set_option maxRecDepth 100000 in
theorem lwd_980 : Cond.code yX9_told cX9_told 3 (some .int) ∈ tbG := tw4 160 rfl rfl
theorem lcv_told : zCV "SunnyPansLaw" 24 "SunnyPans" yX9_told cX9_told 3 (some .int) 1 := zCV_of lwd_977 lwd_978 lwd_979 lwd_101 lwd_980 (by decide +kernel)
theorem dL_told_0 : decode cL_told 0 = .ok (.aload_n 2, 1) := by decide +kernel
theorem dL_told_1 : decode cL_told 1 = .ok (.iconst 0, 1) := by decide +kernel
theorem dL_told_2 : decode cL_told 2 = .ok (.aload_n 0, 1) := by decide +kernel
theorem dL_told_3 : decode cL_told 3 = .ok (.iload_n 1, 1) := by decide +kernel
theorem dL_told_4 : decode cL_told 4 = .ok (.invokevirtual 24, 3) := by decide +kernel
theorem dL_told_7 : decode cL_told 7 = .ok (.i2l, 1) := by decide +kernel
theorem dL_told_8 : decode cL_told 8 = .ok (.lastore, 1) := by decide +kernel
theorem dL_told_9 : decode cL_told 9 = .ok (.goto 6, 3) := by decide +kernel
theorem dL_told_12 : decode cL_told 12 = .ok (.astore_n 3, 1) := by decide +kernel
theorem dL_told_13 : decode cL_told 13 = .ok (.iconst 1, 1) := by decide +kernel
theorem dL_told_14 : decode cL_told 14 = .ok (.ireturn, 1) := by decide +kernel
theorem dL_told_15 : decode cL_told 15 = .ok (.iconst 0, 1) := by decide +kernel
theorem dL_told_16 : decode cL_told 16 = .ok (.ireturn, 1) := by decide +kernel
def rmw_told : Room := { frames := 11, cells := 1, slots := 6, locals := 185 }
set_option maxHeartbeats 4000000 in
theorem cw_told (l : Launch) {G : zG} {ad : Nat → Nat} {ao : Nat} (hin : wIn ad ao) (M : zMem) (v : Int64) (p0 : Int32) (hl : l.stackTraces = false) {k9 : Nat} {r9 : Int32} {M9 : zMem} (hF : F_X9_told M p0 = some (k9, r9, M9)) {kk : Int32} {v' : Int64} (hk : (k9 = 0 ∧ kk = 0 ∧ v' = r9.toInt64) ∨ (k9 = 1 ∧ kk = 1 ∧ v' = v)) : lwM l yL_told cL_told 4 [(0, 9, 12, 13)] rmw_told 1 6 G ad ao M v [.ref (ad 0), .int p0, .ref ao] kk M9 v' := by
  refine lwM_of (by decide +kernel) (lv := [(0, .ref (ad 0)), (1, .int p0), (2, .ref ao)]) (Nat.le_of_ble_eq_true rfl) rfl (fun p e s m args below meth c A cx hr ht hA ho hN hsub => ?_)
  refine l_aload_n cx dL_told_0 2 rfl ?_
  refine l_iconst cx dL_told_1 ki_0 ?_
  refine l_aload_n cx dL_told_2 0 rfl ?_
  refine l_iload_n cx dL_told_3 1 rfl ?_
  refine l_callXC (As := [.int p0]) (rest := [.int 0, .ref ao]) cx (c_X9_told l hin.1 M p0 hl lT0 hF) lT0 zo_10 lcv_told ⟨rfl, rfl, Nat.le_of_ble_eq_true rfl, Nat.le_of_ble_eq_true rfl⟩ rfl rfl ⟨Nat.le_of_ble_eq_true rfl, Nat.le_of_ble_eq_true rfl⟩ (Nat.le_of_ble_eq_true rfl) dL_told_4 hin hA (fun hk0 => ?_) (fun hk0 => ?_)
  · rcases hk with ⟨h1, h2, h3⟩ | ⟨h1, h2, h3⟩
    · exact absurd h1 hk0
    subst h1
    refine ⟨12, "java/lang/IllegalArgumentException", [], ⟨0, 9, 12, 13⟩, [], ht, fun z hz => absurd hz List.not_mem_nil, rfl, by decide, cx.1.2.2.2.2 _ lwd_517, va_Nw.use rfl (cx.2.2.1.2.1 _ lwCI), rfl, fun q => ?_⟩
    refine l_astore_n cx 3 [(3, .ref q), (0, .ref (ad 0)), (1, .int p0), (2, .ref ao)] dL_told_12 rfl (by decide) rfl ?_
    refine l_iconst cx dL_told_13 ki_1 ?_
    exact l_iret cx hr ⟨Nat.le_of_ble_eq_true rfl, Nat.le_of_ble_eq_true rfl⟩ dL_told_14 (fun H locs hP hS t ht => ⟨⟨by rw [h2], by rw [ht, h3]; exact hP⟩, hS.F ht⟩)
  · have hz : kk = 0 ∧ v' = r9.toInt64 := by
      rcases hk with ⟨h1, h2, h3⟩ | ⟨h1, h2, h3⟩
      · exact ⟨h2, h3⟩
      · omega
    refine l_i2l cx dL_told_7 ?_
    refine l_last cx hin hA ho dL_told_8 ?_
    refine l_goto cx 15 dL_told_9 (by decide) ?_
    refine l_iconst cx dL_told_15 ki_0 ?_
    exact l_iret cx hr ⟨Nat.le_of_ble_eq_true rfl, Nat.le_of_ble_eq_true rfl⟩ dL_told_16 (fun H locs hP hS t ht => ⟨⟨by rw [hz.1], by rw [ht, hz.2]; exact hP⟩, hS.F ht⟩)
set_option maxRecDepth 100000 in
theorem lwd_1016 : Cond.methodLink "SunnyPansLaw" 27 yX9_pan ∈ tbG := tw4 196 rfl rfl
set_option maxRecDepth 100000 in
theorem lwd_1017 : Cond.instanceMethod yX9_pan ∈ tbG := tw4 197 rfl rfl
set_option maxRecDepth 100000 in
theorem lwd_1018 : Cond.selects "SunnyPans" yX9_pan yX9_pan ∈ tbG := tw4 198 rfl rfl
set_option maxRecDepth 100000 in
theorem lwd_1019 : Cond.code yX9_pan cX9_pan 6 (some .int) ∈ tbG := tw4 199 rfl rfl
theorem lcv_pan : zCV "SunnyPansLaw" 27 "SunnyPans" yX9_pan cX9_pan 6 (some .int) 3 := zCV_of lwd_1016 lwd_1017 lwd_1018 lwd_101 lwd_1019 (by decide +kernel)
theorem dL_pan_0 : decode cL_pan 0 = .ok (.aload 4, 2) := by decide +kernel
theorem dL_pan_2 : decode cL_pan 2 = .ok (.iconst 0, 1) := by decide +kernel
theorem dL_pan_3 : decode cL_pan 3 = .ok (.aload_n 0, 1) := by decide +kernel
theorem dL_pan_4 : decode cL_pan 4 = .ok (.iload_n 1, 1) := by decide +kernel
theorem dL_pan_5 : decode cL_pan 5 = .ok (.iload_n 2, 1) := by decide +kernel
theorem dL_pan_6 : decode cL_pan 6 = .ok (.iload_n 3, 1) := by decide +kernel
theorem dL_pan_7 : decode cL_pan 7 = .ok (.invokevirtual 27, 3) := by decide +kernel
theorem dL_pan_10 : decode cL_pan 10 = .ok (.i2l, 1) := by decide +kernel
theorem dL_pan_11 : decode cL_pan 11 = .ok (.lastore, 1) := by decide +kernel
theorem dL_pan_12 : decode cL_pan 12 = .ok (.goto 11, 3) := by decide +kernel
theorem dL_pan_15 : decode cL_pan 15 = .ok (.astore 5, 2) := by decide +kernel
theorem dL_pan_17 : decode cL_pan 17 = .ok (.iconst 1, 1) := by decide +kernel
theorem dL_pan_18 : decode cL_pan 18 = .ok (.ireturn, 1) := by decide +kernel
theorem dL_pan_19 : decode cL_pan 19 = .ok (.astore 5, 2) := by decide +kernel
theorem dL_pan_21 : decode cL_pan 21 = .ok (.iconst 2, 1) := by decide +kernel
theorem dL_pan_22 : decode cL_pan 22 = .ok (.ireturn, 1) := by decide +kernel
theorem dL_pan_23 : decode cL_pan 23 = .ok (.iconst 0, 1) := by decide +kernel
theorem dL_pan_24 : decode cL_pan 24 = .ok (.ireturn, 1) := by decide +kernel
def rmw_pan : Room := { frames := 12, cells := 2, slots := 12, locals := 208 }
set_option maxHeartbeats 4000000 in
theorem cw_pan (l : Launch) {G : zG} {ad : Nat → Nat} {ao : Nat} (hin : wIn ad ao) (M : zMem) (v : Int64) (p0 : Int32) (p1 : Int32) (p2 : Int32) (hl : l.stackTraces = false) {k9 : Nat} {r9 : Int32} {M9 : zMem} (hF : F_X9_pan M p0 p1 p2 = some (k9, r9, M9)) {kk : Int32} {v' : Int64} (hk : (k9 = 0 ∧ kk = 0 ∧ v' = r9.toInt64) ∨ (k9 = 2 ∧ kk = 1 ∧ v' = v) ∨ (k9 = 1 ∧ kk = 2 ∧ v' = v)) : lwM l yL_pan cL_pan 6 [(0, 12, 15, 31), (0, 12, 19, 13)] rmw_pan 2 12 G ad ao M v [.ref (ad 0), .int p0, .int p1, .int p2, .ref ao] kk M9 v' := by
  refine lwM_of (by decide +kernel) (lv := [(0, .ref (ad 0)), (1, .int p0), (2, .int p1), (3, .int p2), (4, .ref ao)]) (Nat.le_of_ble_eq_true rfl) rfl (fun p e s m args below meth c A cx hr ht hA ho hN hsub => ?_)
  refine l_aload cx dL_pan_0 4 rfl ?_
  refine l_iconst cx dL_pan_2 ki_0 ?_
  refine l_aload_n cx dL_pan_3 0 rfl ?_
  refine l_iload_n cx dL_pan_4 1 rfl ?_
  refine l_iload_n cx dL_pan_5 2 rfl ?_
  refine l_iload_n cx dL_pan_6 3 rfl ?_
  refine l_callXC (As := [.int p0, .int p1, .int p2]) (rest := [.int 0, .ref ao]) cx (c_X9_pan l hin.1 M p0 p1 p2 hl lT0 hF) lT0 zo_10 lcv_pan ⟨rfl, rfl, Nat.le_of_ble_eq_true rfl, Nat.le_of_ble_eq_true rfl⟩ rfl rfl ⟨Nat.le_of_ble_eq_true rfl, Nat.le_of_ble_eq_true rfl⟩ (Nat.le_of_ble_eq_true rfl) dL_pan_7 hin hA (fun hk0 => ?_) (fun hk0 => ?_)
  · rcases hk with ⟨h1, h2, h3⟩ | ⟨h1, h2, h3⟩ | ⟨h1, h2, h3⟩
    · exact absurd h1 hk0
    · subst h1
      refine ⟨15, "java/util/NoSuchElementException", [], ⟨0, 12, 15, 31⟩, [⟨0, 12, 19, 13⟩], ht, fun z hz => absurd hz List.not_mem_nil, rfl, by decide, cx.1.2.2.2.2 _ lwd_1015, va_Nw.use rfl (cx.2.2.1.2.1 _ lwCN), rfl, fun q => ?_⟩
      refine l_astore cx 5 [(5, .ref q), (0, .ref (ad 0)), (1, .int p0), (2, .int p1), (3, .int p2), (4, .ref ao)] dL_pan_15 (by decide) rfl ?_
      refine l_iconst cx dL_pan_17 ki_1 ?_
      exact l_iret cx hr ⟨Nat.le_of_ble_eq_true rfl, Nat.le_of_ble_eq_true rfl⟩ dL_pan_18 (fun H locs hP hS t ht => ⟨⟨by rw [h2], by rw [ht, h3]; exact hP⟩, hS.F ht⟩)
    · subst h1
      refine ⟨19, "java/lang/IllegalArgumentException", [⟨0, 12, 15, 31⟩], ⟨0, 12, 19, 13⟩, [], ht, fun z hz => by
        cases List.mem_singleton.mp hz
        exact Or.inr ⟨by decide, _, cx.1.2.2.2.2 _ lwd_1015, hN⟩, rfl, by decide, cx.1.2.2.2.2 _ lwd_517, va_Nw.use rfl (cx.2.2.1.2.1 _ lwCI), rfl, fun q => ?_⟩
      refine l_astore cx 5 [(5, .ref q), (0, .ref (ad 0)), (1, .int p0), (2, .int p1), (3, .int p2), (4, .ref ao)] dL_pan_19 (by decide) rfl ?_
      refine l_iconst cx dL_pan_21 ki_2 ?_
      exact l_iret cx hr ⟨Nat.le_of_ble_eq_true rfl, Nat.le_of_ble_eq_true rfl⟩ dL_pan_22 (fun H locs hP hS t ht => ⟨⟨by rw [h2], by rw [ht, h3]; exact hP⟩, hS.F ht⟩)
  · have hz : kk = 0 ∧ v' = r9.toInt64 := by
      rcases hk with ⟨h1, h2, h3⟩ | ⟨h1, h2, h3⟩ | ⟨h1, h2, h3⟩
      · exact ⟨h2, h3⟩
      · omega
      · omega
    refine l_i2l cx dL_pan_10 ?_
    refine l_last cx hin hA ho dL_pan_11 ?_
    refine l_goto cx 23 dL_pan_12 (by decide) ?_
    refine l_iconst cx dL_pan_23 ki_0 ?_
    exact l_iret cx hr ⟨Nat.le_of_ble_eq_true rfl, Nat.le_of_ble_eq_true rfl⟩ dL_pan_24 (fun H locs hP hS t ht => ⟨⟨by rw [hz.1], by rw [ht, hz.2]; exact hP⟩, hS.F ht⟩)
set_option maxRecDepth 100000 in
theorem lwd_1061 : Cond.methodLink "SunnyPansLaw" 33 yX9_hour ∈ tbG := tw5 1 rfl rfl
set_option maxRecDepth 100000 in
theorem lwd_1062 : Cond.instanceMethod yX9_hour ∈ tbG := tw5 2 rfl rfl
set_option maxRecDepth 100000 in
theorem lwd_1063 : Cond.selects "SunnyPans" yX9_hour yX9_hour ∈ tbG := tw5 3 rfl rfl
set_option maxRecDepth 100000 in
theorem lwd_1064 : Cond.code yX9_hour cX9_hour 3 (some .int) ∈ tbG := tw5 4 rfl rfl
theorem lcv_hour : zCV "SunnyPansLaw" 33 "SunnyPans" yX9_hour cX9_hour 3 (some .int) 2 := zCV_of lwd_1061 lwd_1062 lwd_1063 lwd_101 lwd_1064 (by decide +kernel)
theorem dL_hour_0 : decode cL_hour 0 = .ok (.aload_n 3, 1) := by decide +kernel
theorem dL_hour_1 : decode cL_hour 1 = .ok (.iconst 0, 1) := by decide +kernel
theorem dL_hour_2 : decode cL_hour 2 = .ok (.aload_n 0, 1) := by decide +kernel
theorem dL_hour_3 : decode cL_hour 3 = .ok (.iload_n 1, 1) := by decide +kernel
theorem dL_hour_4 : decode cL_hour 4 = .ok (.iload_n 2, 1) := by decide +kernel
theorem dL_hour_5 : decode cL_hour 5 = .ok (.invokevirtual 33, 3) := by decide +kernel
theorem dL_hour_8 : decode cL_hour 8 = .ok (.i2l, 1) := by decide +kernel
theorem dL_hour_9 : decode cL_hour 9 = .ok (.lastore, 1) := by decide +kernel
theorem dL_hour_10 : decode cL_hour 10 = .ok (.goto 11, 3) := by decide +kernel
theorem dL_hour_13 : decode cL_hour 13 = .ok (.astore 4, 2) := by decide +kernel
theorem dL_hour_15 : decode cL_hour 15 = .ok (.iconst 1, 1) := by decide +kernel
theorem dL_hour_16 : decode cL_hour 16 = .ok (.ireturn, 1) := by decide +kernel
theorem dL_hour_17 : decode cL_hour 17 = .ok (.astore 4, 2) := by decide +kernel
theorem dL_hour_19 : decode cL_hour 19 = .ok (.iconst 2, 1) := by decide +kernel
theorem dL_hour_20 : decode cL_hour 20 = .ok (.ireturn, 1) := by decide +kernel
theorem dL_hour_21 : decode cL_hour 21 = .ok (.iconst 0, 1) := by decide +kernel
theorem dL_hour_22 : decode cL_hour 22 = .ok (.ireturn, 1) := by decide +kernel
def rmw_hour : Room := { frames := 12, cells := 2, slots := 12, locals := 204 }
set_option maxHeartbeats 4000000 in
theorem cw_hour (l : Launch) {G : zG} {ad : Nat → Nat} {ao : Nat} (hin : wIn ad ao) (M : zMem) (v : Int64) (p0 : Int32) (p1 : Int32) (hl : l.stackTraces = false) {k9 : Nat} {r9 : Int32} {M9 : zMem} (hF : F_X9_hour M p0 p1 = some (k9, r9, M9)) {kk : Int32} {v' : Int64} (hk : (k9 = 0 ∧ kk = 0 ∧ v' = r9.toInt64) ∨ (k9 = 2 ∧ kk = 1 ∧ v' = v) ∨ (k9 = 1 ∧ kk = 2 ∧ v' = v)) : lwM l yL_hour cL_hour 5 [(0, 10, 13, 31), (0, 10, 17, 13)] rmw_hour 2 12 G ad ao M v [.ref (ad 0), .int p0, .int p1, .ref ao] kk M9 v' := by
  refine lwM_of (by decide +kernel) (lv := [(0, .ref (ad 0)), (1, .int p0), (2, .int p1), (3, .ref ao)]) (Nat.le_of_ble_eq_true rfl) rfl (fun p e s m args below meth c A cx hr ht hA ho hN hsub => ?_)
  refine l_aload_n cx dL_hour_0 3 rfl ?_
  refine l_iconst cx dL_hour_1 ki_0 ?_
  refine l_aload_n cx dL_hour_2 0 rfl ?_
  refine l_iload_n cx dL_hour_3 1 rfl ?_
  refine l_iload_n cx dL_hour_4 2 rfl ?_
  refine l_callXC (As := [.int p0, .int p1]) (rest := [.int 0, .ref ao]) cx (c_X9_hour l hin.1 M p0 p1 hl lT0 hF) lT0 zo_10 lcv_hour ⟨rfl, rfl, Nat.le_of_ble_eq_true rfl, Nat.le_of_ble_eq_true rfl⟩ rfl rfl ⟨Nat.le_of_ble_eq_true rfl, Nat.le_of_ble_eq_true rfl⟩ (Nat.le_of_ble_eq_true rfl) dL_hour_5 hin hA (fun hk0 => ?_) (fun hk0 => ?_)
  · rcases hk with ⟨h1, h2, h3⟩ | ⟨h1, h2, h3⟩ | ⟨h1, h2, h3⟩
    · exact absurd h1 hk0
    · subst h1
      refine ⟨13, "java/util/NoSuchElementException", [], ⟨0, 10, 13, 31⟩, [⟨0, 10, 17, 13⟩], ht, fun z hz => absurd hz List.not_mem_nil, rfl, by decide, cx.1.2.2.2.2 _ lwd_1015, va_Nw.use rfl (cx.2.2.1.2.1 _ lwCN), rfl, fun q => ?_⟩
      refine l_astore cx 4 [(4, .ref q), (0, .ref (ad 0)), (1, .int p0), (2, .int p1), (3, .ref ao)] dL_hour_13 (by decide) rfl ?_
      refine l_iconst cx dL_hour_15 ki_1 ?_
      exact l_iret cx hr ⟨Nat.le_of_ble_eq_true rfl, Nat.le_of_ble_eq_true rfl⟩ dL_hour_16 (fun H locs hP hS t ht => ⟨⟨by rw [h2], by rw [ht, h3]; exact hP⟩, hS.F ht⟩)
    · subst h1
      refine ⟨17, "java/lang/IllegalArgumentException", [⟨0, 10, 13, 31⟩], ⟨0, 10, 17, 13⟩, [], ht, fun z hz => by
        cases List.mem_singleton.mp hz
        exact Or.inr ⟨by decide, _, cx.1.2.2.2.2 _ lwd_1015, hN⟩, rfl, by decide, cx.1.2.2.2.2 _ lwd_517, va_Nw.use rfl (cx.2.2.1.2.1 _ lwCI), rfl, fun q => ?_⟩
      refine l_astore cx 4 [(4, .ref q), (0, .ref (ad 0)), (1, .int p0), (2, .int p1), (3, .ref ao)] dL_hour_17 (by decide) rfl ?_
      refine l_iconst cx dL_hour_19 ki_2 ?_
      exact l_iret cx hr ⟨Nat.le_of_ble_eq_true rfl, Nat.le_of_ble_eq_true rfl⟩ dL_hour_20 (fun H locs hP hS t ht => ⟨⟨by rw [h2], by rw [ht, h3]; exact hP⟩, hS.F ht⟩)
  · have hz : kk = 0 ∧ v' = r9.toInt64 := by
      rcases hk with ⟨h1, h2, h3⟩ | ⟨h1, h2, h3⟩ | ⟨h1, h2, h3⟩
      · exact ⟨h2, h3⟩
      · omega
      · omega
    refine l_i2l cx dL_hour_8 ?_
    refine l_last cx hin hA ho dL_hour_9 ?_
    refine l_goto cx 21 dL_hour_10 (by decide) ?_
    refine l_iconst cx dL_hour_21 ki_0 ?_
    exact l_iret cx hr ⟨Nat.le_of_ble_eq_true rfl, Nat.le_of_ble_eq_true rfl⟩ dL_hour_22 (fun H locs hP hS t ht => ⟨⟨by rw [hz.1], by rw [ht, hz.2]; exact hP⟩, hS.F ht⟩)
set_option maxRecDepth 100000 in
theorem lwd_1073 : Cond.methodLink "SunnyPansLaw" 37 yX9_shade ∈ tbG := tw5 13 rfl rfl
set_option maxRecDepth 100000 in
theorem lwd_1074 : Cond.instanceMethod yX9_shade ∈ tbG := tw5 14 rfl rfl
set_option maxRecDepth 100000 in
theorem lwd_1075 : Cond.selects "SunnyPans" yX9_shade yX9_shade ∈ tbG := tw5 15 rfl rfl
set_option maxRecDepth 100000 in
theorem lwd_1076 : Cond.code yX9_shade cX9_shade 3 (some .int) ∈ tbG := tw5 16 rfl rfl
theorem lcv_shade : zCV "SunnyPansLaw" 37 "SunnyPans" yX9_shade cX9_shade 3 (some .int) 2 := zCV_of lwd_1073 lwd_1074 lwd_1075 lwd_101 lwd_1076 (by decide +kernel)
theorem dL_shade_0 : decode cL_shade 0 = .ok (.aload_n 3, 1) := by decide +kernel
theorem dL_shade_1 : decode cL_shade 1 = .ok (.iconst 0, 1) := by decide +kernel
theorem dL_shade_2 : decode cL_shade 2 = .ok (.aload_n 0, 1) := by decide +kernel
theorem dL_shade_3 : decode cL_shade 3 = .ok (.iload_n 1, 1) := by decide +kernel
theorem dL_shade_4 : decode cL_shade 4 = .ok (.iload_n 2, 1) := by decide +kernel
theorem dL_shade_5 : decode cL_shade 5 = .ok (.invokevirtual 37, 3) := by decide +kernel
theorem dL_shade_8 : decode cL_shade 8 = .ok (.i2l, 1) := by decide +kernel
theorem dL_shade_9 : decode cL_shade 9 = .ok (.lastore, 1) := by decide +kernel
theorem dL_shade_10 : decode cL_shade 10 = .ok (.goto 7, 3) := by decide +kernel
theorem dL_shade_13 : decode cL_shade 13 = .ok (.astore 4, 2) := by decide +kernel
theorem dL_shade_15 : decode cL_shade 15 = .ok (.iconst 1, 1) := by decide +kernel
theorem dL_shade_16 : decode cL_shade 16 = .ok (.ireturn, 1) := by decide +kernel
theorem dL_shade_17 : decode cL_shade 17 = .ok (.iconst 0, 1) := by decide +kernel
theorem dL_shade_18 : decode cL_shade 18 = .ok (.ireturn, 1) := by decide +kernel
def rmw_shade : Room := { frames := 12, cells := 2, slots := 12, locals := 204 }
set_option maxHeartbeats 4000000 in
theorem cw_shade (l : Launch) {G : zG} {ad : Nat → Nat} {ao : Nat} (hin : wIn ad ao) (M : zMem) (v : Int64) (p0 : Int32) (p1 : Int32) (hl : l.stackTraces = false) {k9 : Nat} {r9 : Int32} {M9 : zMem} (hF : F_X9_shade M p0 p1 = some (k9, r9, M9)) {kk : Int32} {v' : Int64} (hk : (k9 = 0 ∧ kk = 0 ∧ v' = r9.toInt64) ∨ (k9 = 2 ∧ kk = 1 ∧ v' = v)) : lwM l yL_shade cL_shade 5 [(0, 10, 13, 31)] rmw_shade 2 12 G ad ao M v [.ref (ad 0), .int p0, .int p1, .ref ao] kk M9 v' := by
  refine lwM_of (by decide +kernel) (lv := [(0, .ref (ad 0)), (1, .int p0), (2, .int p1), (3, .ref ao)]) (Nat.le_of_ble_eq_true rfl) rfl (fun p e s m args below meth c A cx hr ht hA ho hN hsub => ?_)
  refine l_aload_n cx dL_shade_0 3 rfl ?_
  refine l_iconst cx dL_shade_1 ki_0 ?_
  refine l_aload_n cx dL_shade_2 0 rfl ?_
  refine l_iload_n cx dL_shade_3 1 rfl ?_
  refine l_iload_n cx dL_shade_4 2 rfl ?_
  refine l_callXC (As := [.int p0, .int p1]) (rest := [.int 0, .ref ao]) cx (c_X9_shade l hin.1 M p0 p1 hl lT0 hF) lT0 zo_10 lcv_shade ⟨rfl, rfl, Nat.le_of_ble_eq_true rfl, Nat.le_of_ble_eq_true rfl⟩ rfl rfl ⟨Nat.le_of_ble_eq_true rfl, Nat.le_of_ble_eq_true rfl⟩ (Nat.le_of_ble_eq_true rfl) dL_shade_5 hin hA (fun hk0 => ?_) (fun hk0 => ?_)
  · rcases hk with ⟨h1, h2, h3⟩ | ⟨h1, h2, h3⟩
    · exact absurd h1 hk0
    subst h1
    refine ⟨13, "java/util/NoSuchElementException", [], ⟨0, 10, 13, 31⟩, [], ht, fun z hz => absurd hz List.not_mem_nil, rfl, by decide, cx.1.2.2.2.2 _ lwd_1015, va_Nw.use rfl (cx.2.2.1.2.1 _ lwCN), rfl, fun q => ?_⟩
    refine l_astore cx 4 [(4, .ref q), (0, .ref (ad 0)), (1, .int p0), (2, .int p1), (3, .ref ao)] dL_shade_13 (by decide) rfl ?_
    refine l_iconst cx dL_shade_15 ki_1 ?_
    exact l_iret cx hr ⟨Nat.le_of_ble_eq_true rfl, Nat.le_of_ble_eq_true rfl⟩ dL_shade_16 (fun H locs hP hS t ht => ⟨⟨by rw [h2], by rw [ht, h3]; exact hP⟩, hS.F ht⟩)
  · have hz : kk = 0 ∧ v' = r9.toInt64 := by
      rcases hk with ⟨h1, h2, h3⟩ | ⟨h1, h2, h3⟩
      · exact ⟨h2, h3⟩
      · omega
    refine l_i2l cx dL_shade_8 ?_
    refine l_last cx hin hA ho dL_shade_9 ?_
    refine l_goto cx 17 dL_shade_10 (by decide) ?_
    refine l_iconst cx dL_shade_17 ki_0 ?_
    exact l_iret cx hr ⟨Nat.le_of_ble_eq_true rfl, Nat.le_of_ble_eq_true rfl⟩ dL_shade_18 (fun H locs hP hS t ht => ⟨⟨by rw [hz.1], by rw [ht, hz.2]; exact hP⟩, hS.F ht⟩)
set_option maxRecDepth 100000 in
theorem lwd_1088 : Cond.methodLink "SunnyPansLaw" 40 yX9_dries ∈ tbG := tw5 28 rfl rfl
set_option maxRecDepth 100000 in
theorem lwd_1089 : Cond.instanceMethod yX9_dries ∈ tbG := tw5 29 rfl rfl
set_option maxRecDepth 100000 in
theorem lwd_1090 : Cond.selects "SunnyPans" yX9_dries yX9_dries ∈ tbG := tw5 30 rfl rfl
set_option maxRecDepth 100000 in
theorem lwd_1091 : Cond.code yX9_dries cX9_dries 7 (some .int) ∈ tbG := tw5 31 rfl rfl
theorem lcv_dries : zCV "SunnyPansLaw" 40 "SunnyPans" yX9_dries cX9_dries 7 (some .int) 3 := zCV_of lwd_1088 lwd_1089 lwd_1090 lwd_101 lwd_1091 (by decide +kernel)
theorem dL_dries_0 : decode cL_dries 0 = .ok (.aload 4, 2) := by decide +kernel
theorem dL_dries_2 : decode cL_dries 2 = .ok (.iconst 0, 1) := by decide +kernel
theorem dL_dries_3 : decode cL_dries 3 = .ok (.aload_n 0, 1) := by decide +kernel
theorem dL_dries_4 : decode cL_dries 4 = .ok (.iload_n 1, 1) := by decide +kernel
theorem dL_dries_5 : decode cL_dries 5 = .ok (.iload_n 2, 1) := by decide +kernel
theorem dL_dries_6 : decode cL_dries 6 = .ok (.iload_n 3, 1) := by decide +kernel
theorem dL_dries_7 : decode cL_dries 7 = .ok (.invokevirtual 40, 3) := by decide +kernel
theorem dL_dries_10 : decode cL_dries 10 = .ok (.i2l, 1) := by decide +kernel
theorem dL_dries_11 : decode cL_dries 11 = .ok (.lastore, 1) := by decide +kernel
theorem dL_dries_12 : decode cL_dries 12 = .ok (.goto 7, 3) := by decide +kernel
theorem dL_dries_15 : decode cL_dries 15 = .ok (.astore 5, 2) := by decide +kernel
theorem dL_dries_17 : decode cL_dries 17 = .ok (.iconst 1, 1) := by decide +kernel
theorem dL_dries_18 : decode cL_dries 18 = .ok (.ireturn, 1) := by decide +kernel
theorem dL_dries_19 : decode cL_dries 19 = .ok (.iconst 0, 1) := by decide +kernel
theorem dL_dries_20 : decode cL_dries 20 = .ok (.ireturn, 1) := by decide +kernel
def rmw_dries : Room := { frames := 12, cells := 2, slots := 12, locals := 209 }
set_option maxHeartbeats 4000000 in
theorem cw_dries (l : Launch) {G : zG} {ad : Nat → Nat} {ao : Nat} (hin : wIn ad ao) (M : zMem) (v : Int64) (p0 : Int32) (p1 : Int32) (p2 : Int32) (hl : l.stackTraces = false) {k9 : Nat} {r9 : Int32} {M9 : zMem} (hF : F_X9_dries M p0 p1 p2 = some (k9, r9, M9)) {kk : Int32} {v' : Int64} (hk : (k9 = 0 ∧ kk = 0 ∧ v' = r9.toInt64) ∨ (k9 = 2 ∧ kk = 1 ∧ v' = v)) : lwM l yL_dries cL_dries 6 [(0, 12, 15, 31)] rmw_dries 2 12 G ad ao M v [.ref (ad 0), .int p0, .int p1, .int p2, .ref ao] kk M9 v' := by
  refine lwM_of (by decide +kernel) (lv := [(0, .ref (ad 0)), (1, .int p0), (2, .int p1), (3, .int p2), (4, .ref ao)]) (Nat.le_of_ble_eq_true rfl) rfl (fun p e s m args below meth c A cx hr ht hA ho hN hsub => ?_)
  refine l_aload cx dL_dries_0 4 rfl ?_
  refine l_iconst cx dL_dries_2 ki_0 ?_
  refine l_aload_n cx dL_dries_3 0 rfl ?_
  refine l_iload_n cx dL_dries_4 1 rfl ?_
  refine l_iload_n cx dL_dries_5 2 rfl ?_
  refine l_iload_n cx dL_dries_6 3 rfl ?_
  refine l_callXC (As := [.int p0, .int p1, .int p2]) (rest := [.int 0, .ref ao]) cx (c_X9_dries l hin.1 M p0 p1 p2 hl lT0 hF) lT0 zo_10 lcv_dries ⟨rfl, rfl, Nat.le_of_ble_eq_true rfl, Nat.le_of_ble_eq_true rfl⟩ rfl rfl ⟨Nat.le_of_ble_eq_true rfl, Nat.le_of_ble_eq_true rfl⟩ (Nat.le_of_ble_eq_true rfl) dL_dries_7 hin hA (fun hk0 => ?_) (fun hk0 => ?_)
  · rcases hk with ⟨h1, h2, h3⟩ | ⟨h1, h2, h3⟩
    · exact absurd h1 hk0
    subst h1
    refine ⟨15, "java/util/NoSuchElementException", [], ⟨0, 12, 15, 31⟩, [], ht, fun z hz => absurd hz List.not_mem_nil, rfl, by decide, cx.1.2.2.2.2 _ lwd_1015, va_Nw.use rfl (cx.2.2.1.2.1 _ lwCN), rfl, fun q => ?_⟩
    refine l_astore cx 5 [(5, .ref q), (0, .ref (ad 0)), (1, .int p0), (2, .int p1), (3, .int p2), (4, .ref ao)] dL_dries_15 (by decide) rfl ?_
    refine l_iconst cx dL_dries_17 ki_1 ?_
    exact l_iret cx hr ⟨Nat.le_of_ble_eq_true rfl, Nat.le_of_ble_eq_true rfl⟩ dL_dries_18 (fun H locs hP hS t ht => ⟨⟨by rw [h2], by rw [ht, h3]; exact hP⟩, hS.F ht⟩)
  · have hz : kk = 0 ∧ v' = r9.toInt64 := by
      rcases hk with ⟨h1, h2, h3⟩ | ⟨h1, h2, h3⟩
      · exact ⟨h2, h3⟩
      · omega
    refine l_i2l cx dL_dries_10 ?_
    refine l_last cx hin hA ho dL_dries_11 ?_
    refine l_goto cx 19 dL_dries_12 (by decide) ?_
    refine l_iconst cx dL_dries_19 ki_0 ?_
    exact l_iret cx hr ⟨Nat.le_of_ble_eq_true rfl, Nat.le_of_ble_eq_true rfl⟩ dL_dries_20 (fun H locs hP hS t ht => ⟨⟨by rw [hz.1], by rw [ht, hz.2]; exact hP⟩, hS.F ht⟩)
set_option maxRecDepth 100000 in
theorem lwd_1095 : Cond.methodLink "SunnyPansLaw" 43 yX9_would ∈ tbG := tw5 35 rfl rfl
set_option maxRecDepth 100000 in
theorem lwd_1096 : Cond.instanceMethod yX9_would ∈ tbG := tw5 36 rfl rfl
set_option maxRecDepth 100000 in
theorem lwd_1097 : Cond.selects "SunnyPans" yX9_would yX9_would ∈ tbG := tw5 37 rfl rfl
set_option maxRecDepth 100000 in
theorem lwd_1098 : Cond.code yX9_would cX9_would 9 (some .int) ∈ tbG := tw5 38 rfl rfl
theorem lcv_would : zCV "SunnyPansLaw" 43 "SunnyPans" yX9_would cX9_would 9 (some .int) 8 := zCV_of lwd_1095 lwd_1096 lwd_1097 lwd_101 lwd_1098 (by decide +kernel)
theorem dL_would_0 : decode cL_would 0 = .ok (.aload 9, 2) := by decide +kernel
theorem dL_would_2 : decode cL_would 2 = .ok (.iconst 0, 1) := by decide +kernel
theorem dL_would_3 : decode cL_would 3 = .ok (.aload_n 0, 1) := by decide +kernel
theorem dL_would_4 : decode cL_would 4 = .ok (.iload_n 1, 1) := by decide +kernel
theorem dL_would_5 : decode cL_would 5 = .ok (.iload_n 2, 1) := by decide +kernel
theorem dL_would_6 : decode cL_would 6 = .ok (.iload_n 3, 1) := by decide +kernel
theorem dL_would_7 : decode cL_would 7 = .ok (.iload 4, 2) := by decide +kernel
theorem dL_would_9 : decode cL_would 9 = .ok (.iload 5, 2) := by decide +kernel
theorem dL_would_11 : decode cL_would 11 = .ok (.iload 6, 2) := by decide +kernel
theorem dL_would_13 : decode cL_would 13 = .ok (.iload 7, 2) := by decide +kernel
theorem dL_would_15 : decode cL_would 15 = .ok (.iload 8, 2) := by decide +kernel
theorem dL_would_17 : decode cL_would 17 = .ok (.invokevirtual 43, 3) := by decide +kernel
theorem dL_would_20 : decode cL_would 20 = .ok (.i2l, 1) := by decide +kernel
theorem dL_would_21 : decode cL_would 21 = .ok (.lastore, 1) := by decide +kernel
theorem dL_would_22 : decode cL_would 22 = .ok (.goto 7, 3) := by decide +kernel
theorem dL_would_25 : decode cL_would 25 = .ok (.astore 10, 2) := by decide +kernel
theorem dL_would_27 : decode cL_would 27 = .ok (.iconst 1, 1) := by decide +kernel
theorem dL_would_28 : decode cL_would 28 = .ok (.ireturn, 1) := by decide +kernel
theorem dL_would_29 : decode cL_would 29 = .ok (.iconst 0, 1) := by decide +kernel
theorem dL_would_30 : decode cL_would 30 = .ok (.ireturn, 1) := by decide +kernel
def rmw_would : Room := { frames := 11, cells := 4, slots := 24, locals := 189 }
set_option maxHeartbeats 4000000 in
theorem cw_would (l : Launch) {G : zG} {ad : Nat → Nat} {ao : Nat} (hin : wIn ad ao) (M : zMem) (v : Int64) (p0 : Int32) (p1 : Int32) (p2 : Int32) (p3 : Int32) (p4 : Int32) (p5 : Int32) (p6 : Int32) (p7 : Int32) (hl : l.stackTraces = false) {k9 : Nat} {r9 : Int32} {M9 : zMem} (hF : F_X9_would M p0 p1 p2 p3 p4 p5 p6 p7 = some (k9, r9, M9)) {kk : Int32} {v' : Int64} (hk : (k9 = 0 ∧ kk = 0 ∧ v' = r9.toInt64) ∨ (k9 = 1 ∧ kk = 1 ∧ v' = v)) : lwM l yL_would cL_would 11 [(0, 22, 25, 13)] rmw_would 4 24 G ad ao M v [.ref (ad 0), .int p0, .int p1, .int p2, .int p3, .int p4, .int p5, .int p6, .int p7, .ref ao] kk M9 v' := by
  refine lwM_of (by decide +kernel) (lv := [(0, .ref (ad 0)), (1, .int p0), (2, .int p1), (3, .int p2), (4, .int p3), (5, .int p4), (6, .int p5), (7, .int p6), (8, .int p7), (9, .ref ao)]) (Nat.le_of_ble_eq_true rfl) rfl (fun p e s m args below meth c A cx hr ht hA ho hN hsub => ?_)
  refine l_aload cx dL_would_0 9 rfl ?_
  refine l_iconst cx dL_would_2 ki_0 ?_
  refine l_aload_n cx dL_would_3 0 rfl ?_
  refine l_iload_n cx dL_would_4 1 rfl ?_
  refine l_iload_n cx dL_would_5 2 rfl ?_
  refine l_iload_n cx dL_would_6 3 rfl ?_
  refine l_iload cx dL_would_7 4 rfl ?_
  refine l_iload cx dL_would_9 5 rfl ?_
  refine l_iload cx dL_would_11 6 rfl ?_
  refine l_iload cx dL_would_13 7 rfl ?_
  refine l_iload cx dL_would_15 8 rfl ?_
  refine l_callXC (As := [.int p0, .int p1, .int p2, .int p3, .int p4, .int p5, .int p6, .int p7]) (rest := [.int 0, .ref ao]) cx (c_X9_would l hin.1 M p0 p1 p2 p3 p4 p5 p6 p7 hl lT0 hF) lT0 zo_10 lcv_would ⟨rfl, rfl, Nat.le_of_ble_eq_true rfl, Nat.le_of_ble_eq_true rfl⟩ rfl rfl ⟨Nat.le_of_ble_eq_true rfl, Nat.le_of_ble_eq_true rfl⟩ (Nat.le_of_ble_eq_true rfl) dL_would_17 hin hA (fun hk0 => ?_) (fun hk0 => ?_)
  · rcases hk with ⟨h1, h2, h3⟩ | ⟨h1, h2, h3⟩
    · exact absurd h1 hk0
    subst h1
    refine ⟨25, "java/lang/IllegalArgumentException", [], ⟨0, 22, 25, 13⟩, [], ht, fun z hz => absurd hz List.not_mem_nil, rfl, by decide, cx.1.2.2.2.2 _ lwd_517, va_Nw.use rfl (cx.2.2.1.2.1 _ lwCI), rfl, fun q => ?_⟩
    refine l_astore cx 10 [(10, .ref q), (0, .ref (ad 0)), (1, .int p0), (2, .int p1), (3, .int p2), (4, .int p3), (5, .int p4), (6, .int p5), (7, .int p6), (8, .int p7), (9, .ref ao)] dL_would_25 (by decide) rfl ?_
    refine l_iconst cx dL_would_27 ki_1 ?_
    exact l_iret cx hr ⟨Nat.le_of_ble_eq_true rfl, Nat.le_of_ble_eq_true rfl⟩ dL_would_28 (fun H locs hP hS t ht => ⟨⟨by rw [h2], by rw [ht, h3]; exact hP⟩, hS.F ht⟩)
  · have hz : kk = 0 ∧ v' = r9.toInt64 := by
      rcases hk with ⟨h1, h2, h3⟩ | ⟨h1, h2, h3⟩
      · exact ⟨h2, h3⟩
      · omega
    refine l_i2l cx dL_would_20 ?_
    refine l_last cx hin hA ho dL_would_21 ?_
    refine l_goto cx 29 dL_would_22 (by decide) ?_
    refine l_iconst cx dL_would_29 ki_0 ?_
    exact l_iret cx hr ⟨Nat.le_of_ble_eq_true rfl, Nat.le_of_ble_eq_true rfl⟩ dL_would_30 (fun H locs hP hS t ht => ⟨⟨by rw [hz.1], by rw [ht, hz.2]; exact hP⟩, hS.F ht⟩)
set_option maxRecDepth 100000 in
theorem lwd_1102 : Cond.methodLink "SunnyPansLaw" 47 yX9_ahead ∈ tbG := tw5 42 rfl rfl
set_option maxRecDepth 100000 in
theorem lwd_1103 : Cond.instanceMethod yX9_ahead ∈ tbG := tw5 43 rfl rfl
set_option maxRecDepth 100000 in
theorem lwd_1104 : Cond.selects "SunnyPans" yX9_ahead yX9_ahead ∈ tbG := tw5 44 rfl rfl
set_option maxRecDepth 100000 in
theorem lwd_1105 : Cond.code yX9_ahead cX9_ahead 4 (some .int) ∈ tbG := tw5 45 rfl rfl
theorem lcv_ahead : zCV "SunnyPansLaw" 47 "SunnyPans" yX9_ahead cX9_ahead 4 (some .int) 2 := zCV_of lwd_1102 lwd_1103 lwd_1104 lwd_101 lwd_1105 (by decide +kernel)
theorem dL_ahead_0 : decode cL_ahead 0 = .ok (.aload_n 3, 1) := by decide +kernel
theorem dL_ahead_1 : decode cL_ahead 1 = .ok (.iconst 0, 1) := by decide +kernel
theorem dL_ahead_2 : decode cL_ahead 2 = .ok (.aload_n 0, 1) := by decide +kernel
theorem dL_ahead_3 : decode cL_ahead 3 = .ok (.iload_n 1, 1) := by decide +kernel
theorem dL_ahead_4 : decode cL_ahead 4 = .ok (.iload_n 2, 1) := by decide +kernel
theorem dL_ahead_5 : decode cL_ahead 5 = .ok (.invokevirtual 47, 3) := by decide +kernel
theorem dL_ahead_8 : decode cL_ahead 8 = .ok (.i2l, 1) := by decide +kernel
theorem dL_ahead_9 : decode cL_ahead 9 = .ok (.lastore, 1) := by decide +kernel
theorem dL_ahead_10 : decode cL_ahead 10 = .ok (.goto 7, 3) := by decide +kernel
theorem dL_ahead_13 : decode cL_ahead 13 = .ok (.astore 4, 2) := by decide +kernel
theorem dL_ahead_15 : decode cL_ahead 15 = .ok (.iconst 1, 1) := by decide +kernel
theorem dL_ahead_16 : decode cL_ahead 16 = .ok (.ireturn, 1) := by decide +kernel
theorem dL_ahead_17 : decode cL_ahead 17 = .ok (.iconst 0, 1) := by decide +kernel
theorem dL_ahead_18 : decode cL_ahead 18 = .ok (.ireturn, 1) := by decide +kernel
def rmw_ahead : Room := { frames := 11, cells := 1, slots := 6, locals := 203 }
set_option maxHeartbeats 4000000 in
theorem cw_ahead (l : Launch) {G : zG} {ad : Nat → Nat} {ao : Nat} (hin : wIn ad ao) (M : zMem) (v : Int64) (p0 : Int32) (p1 : Int32) (hl : l.stackTraces = false) {k9 : Nat} {r9 : Int32} {M9 : zMem} (hF : F_X9_ahead M p0 p1 = some (k9, r9, M9)) {kk : Int32} {v' : Int64} (hk : (k9 = 0 ∧ kk = 0 ∧ v' = r9.toInt64) ∨ (k9 = 1 ∧ kk = 1 ∧ v' = v)) : lwM l yL_ahead cL_ahead 5 [(0, 10, 13, 13)] rmw_ahead 1 6 G ad ao M v [.ref (ad 0), .int p0, .int p1, .ref ao] kk M9 v' := by
  refine lwM_of (by decide +kernel) (lv := [(0, .ref (ad 0)), (1, .int p0), (2, .int p1), (3, .ref ao)]) (Nat.le_of_ble_eq_true rfl) rfl (fun p e s m args below meth c A cx hr ht hA ho hN hsub => ?_)
  refine l_aload_n cx dL_ahead_0 3 rfl ?_
  refine l_iconst cx dL_ahead_1 ki_0 ?_
  refine l_aload_n cx dL_ahead_2 0 rfl ?_
  refine l_iload_n cx dL_ahead_3 1 rfl ?_
  refine l_iload_n cx dL_ahead_4 2 rfl ?_
  refine l_callXC (As := [.int p0, .int p1]) (rest := [.int 0, .ref ao]) cx (c_X9_ahead l hin.1 M p0 p1 hl lT0 hF) lT0 zo_10 lcv_ahead ⟨rfl, rfl, Nat.le_of_ble_eq_true rfl, Nat.le_of_ble_eq_true rfl⟩ rfl rfl ⟨Nat.le_of_ble_eq_true rfl, Nat.le_of_ble_eq_true rfl⟩ (Nat.le_of_ble_eq_true rfl) dL_ahead_5 hin hA (fun hk0 => ?_) (fun hk0 => ?_)
  · rcases hk with ⟨h1, h2, h3⟩ | ⟨h1, h2, h3⟩
    · exact absurd h1 hk0
    subst h1
    refine ⟨13, "java/lang/IllegalArgumentException", [], ⟨0, 10, 13, 13⟩, [], ht, fun z hz => absurd hz List.not_mem_nil, rfl, by decide, cx.1.2.2.2.2 _ lwd_517, va_Nw.use rfl (cx.2.2.1.2.1 _ lwCI), rfl, fun q => ?_⟩
    refine l_astore cx 4 [(4, .ref q), (0, .ref (ad 0)), (1, .int p0), (2, .int p1), (3, .ref ao)] dL_ahead_13 (by decide) rfl ?_
    refine l_iconst cx dL_ahead_15 ki_1 ?_
    exact l_iret cx hr ⟨Nat.le_of_ble_eq_true rfl, Nat.le_of_ble_eq_true rfl⟩ dL_ahead_16 (fun H locs hP hS t ht => ⟨⟨by rw [h2], by rw [ht, h3]; exact hP⟩, hS.F ht⟩)
  · have hz : kk = 0 ∧ v' = r9.toInt64 := by
      rcases hk with ⟨h1, h2, h3⟩ | ⟨h1, h2, h3⟩
      · exact ⟨h2, h3⟩
      · omega
    refine l_i2l cx dL_ahead_8 ?_
    refine l_last cx hin hA ho dL_ahead_9 ?_
    refine l_goto cx 17 dL_ahead_10 (by decide) ?_
    refine l_iconst cx dL_ahead_17 ki_0 ?_
    exact l_iret cx hr ⟨Nat.le_of_ble_eq_true rfl, Nat.le_of_ble_eq_true rfl⟩ dL_ahead_18 (fun H locs hP hS t ht => ⟨⟨by rw [hz.1], by rw [ht, hz.2]; exact hP⟩, hS.F ht⟩)
set_option maxRecDepth 100000 in
theorem lwd_1110 : Cond.methodLink "SunnyPansLaw" 50 yX9_drying ∈ tbG := tw5 50 rfl rfl
set_option maxRecDepth 100000 in
theorem lwd_1111 : Cond.instanceMethod yX9_drying ∈ tbG := tw5 51 rfl rfl
set_option maxRecDepth 100000 in
theorem lwd_1112 : Cond.selects "SunnyPans" yX9_drying yX9_drying ∈ tbG := tw5 52 rfl rfl
set_option maxRecDepth 100000 in
theorem lwd_1113 : Cond.code yX9_drying cX9_drying 3 (some .int) ∈ tbG := tw5 53 rfl rfl
theorem lcv_drying : zCV "SunnyPansLaw" 50 "SunnyPans" yX9_drying cX9_drying 3 (some .int) 2 := zCV_of lwd_1110 lwd_1111 lwd_1112 lwd_101 lwd_1113 (by decide +kernel)
theorem dL_drying_0 : decode cL_drying 0 = .ok (.aload_n 3, 1) := by decide +kernel
theorem dL_drying_1 : decode cL_drying 1 = .ok (.iconst 0, 1) := by decide +kernel
theorem dL_drying_2 : decode cL_drying 2 = .ok (.aload_n 0, 1) := by decide +kernel
theorem dL_drying_3 : decode cL_drying 3 = .ok (.iload_n 1, 1) := by decide +kernel
theorem dL_drying_4 : decode cL_drying 4 = .ok (.iload_n 2, 1) := by decide +kernel
theorem dL_drying_5 : decode cL_drying 5 = .ok (.invokevirtual 50, 3) := by decide +kernel
theorem dL_drying_8 : decode cL_drying 8 = .ok (.i2l, 1) := by decide +kernel
theorem dL_drying_9 : decode cL_drying 9 = .ok (.lastore, 1) := by decide +kernel
theorem dL_drying_10 : decode cL_drying 10 = .ok (.goto 7, 3) := by decide +kernel
theorem dL_drying_13 : decode cL_drying 13 = .ok (.astore 4, 2) := by decide +kernel
theorem dL_drying_15 : decode cL_drying 15 = .ok (.iconst 1, 1) := by decide +kernel
theorem dL_drying_16 : decode cL_drying 16 = .ok (.ireturn, 1) := by decide +kernel
theorem dL_drying_17 : decode cL_drying 17 = .ok (.iconst 0, 1) := by decide +kernel
theorem dL_drying_18 : decode cL_drying 18 = .ok (.ireturn, 1) := by decide +kernel
def rmw_drying : Room := { frames := 12, cells := 1, slots := 6, locals := 207 }
set_option maxHeartbeats 4000000 in
theorem cw_drying (l : Launch) {G : zG} {ad : Nat → Nat} {ao : Nat} (hin : wIn ad ao) (M : zMem) (v : Int64) (p0 : Int32) (p1 : Int32) (hl : l.stackTraces = false) {k9 : Nat} {r9 : Int32} {M9 : zMem} (hF : F_X9_drying M p0 p1 = some (k9, r9, M9)) {kk : Int32} {v' : Int64} (hk : (k9 = 0 ∧ kk = 0 ∧ v' = r9.toInt64) ∨ (k9 = 2 ∧ kk = 1 ∧ v' = v)) : lwM l yL_drying cL_drying 5 [(0, 10, 13, 31)] rmw_drying 1 6 G ad ao M v [.ref (ad 0), .int p0, .int p1, .ref ao] kk M9 v' := by
  refine lwM_of (by decide +kernel) (lv := [(0, .ref (ad 0)), (1, .int p0), (2, .int p1), (3, .ref ao)]) (Nat.le_of_ble_eq_true rfl) rfl (fun p e s m args below meth c A cx hr ht hA ho hN hsub => ?_)
  refine l_aload_n cx dL_drying_0 3 rfl ?_
  refine l_iconst cx dL_drying_1 ki_0 ?_
  refine l_aload_n cx dL_drying_2 0 rfl ?_
  refine l_iload_n cx dL_drying_3 1 rfl ?_
  refine l_iload_n cx dL_drying_4 2 rfl ?_
  refine l_callXC (As := [.int p0, .int p1]) (rest := [.int 0, .ref ao]) cx (c_X9_drying l hin.1 M p0 p1 hl lT0 hF) lT0 zo_10 lcv_drying ⟨rfl, rfl, Nat.le_of_ble_eq_true rfl, Nat.le_of_ble_eq_true rfl⟩ rfl rfl ⟨Nat.le_of_ble_eq_true rfl, Nat.le_of_ble_eq_true rfl⟩ (Nat.le_of_ble_eq_true rfl) dL_drying_5 hin hA (fun hk0 => ?_) (fun hk0 => ?_)
  · rcases hk with ⟨h1, h2, h3⟩ | ⟨h1, h2, h3⟩
    · exact absurd h1 hk0
    subst h1
    refine ⟨13, "java/util/NoSuchElementException", [], ⟨0, 10, 13, 31⟩, [], ht, fun z hz => absurd hz List.not_mem_nil, rfl, by decide, cx.1.2.2.2.2 _ lwd_1015, va_Nw.use rfl (cx.2.2.1.2.1 _ lwCN), rfl, fun q => ?_⟩
    refine l_astore cx 4 [(4, .ref q), (0, .ref (ad 0)), (1, .int p0), (2, .int p1), (3, .ref ao)] dL_drying_13 (by decide) rfl ?_
    refine l_iconst cx dL_drying_15 ki_1 ?_
    exact l_iret cx hr ⟨Nat.le_of_ble_eq_true rfl, Nat.le_of_ble_eq_true rfl⟩ dL_drying_16 (fun H locs hP hS t ht => ⟨⟨by rw [h2], by rw [ht, h3]; exact hP⟩, hS.F ht⟩)
  · have hz : kk = 0 ∧ v' = r9.toInt64 := by
      rcases hk with ⟨h1, h2, h3⟩ | ⟨h1, h2, h3⟩
      · exact ⟨h2, h3⟩
      · omega
    refine l_i2l cx dL_drying_8 ?_
    refine l_last cx hin hA ho dL_drying_9 ?_
    refine l_goto cx 17 dL_drying_10 (by decide) ?_
    refine l_iconst cx dL_drying_17 ki_0 ?_
    exact l_iret cx hr ⟨Nat.le_of_ble_eq_true rfl, Nat.le_of_ble_eq_true rfl⟩ dL_drying_18 (fun H locs hP hS t ht => ⟨⟨by rw [hz.1], by rw [ht, hz.2]; exact hP⟩, hS.F ht⟩)
set_option maxRecDepth 100000 in
theorem lwd_1121 : Cond.methodLink "SunnyPansLaw" 53 yX9_first ∈ tbG := tw5 61 rfl rfl
set_option maxRecDepth 100000 in
theorem lwd_1122 : Cond.instanceMethod yX9_first ∈ tbG := tw5 62 rfl rfl
set_option maxRecDepth 100000 in
theorem lwd_1123 : Cond.selects "SunnyPans" yX9_first yX9_first ∈ tbG := tw5 63 rfl rfl
set_option maxRecDepth 100000 in
theorem lwd_1124 : Cond.code yX9_first cX9_first 5 (some .int) ∈ tbG := tw5 64 rfl rfl
theorem lcv_first : zCV "SunnyPansLaw" 53 "SunnyPans" yX9_first cX9_first 5 (some .int) 1 := zCV_of lwd_1121 lwd_1122 lwd_1123 lwd_101 lwd_1124 (by decide +kernel)
theorem dL_first_0 : decode cL_first 0 = .ok (.aload_n 2, 1) := by decide +kernel
theorem dL_first_1 : decode cL_first 1 = .ok (.iconst 0, 1) := by decide +kernel
theorem dL_first_2 : decode cL_first 2 = .ok (.aload_n 0, 1) := by decide +kernel
theorem dL_first_3 : decode cL_first 3 = .ok (.iload_n 1, 1) := by decide +kernel
theorem dL_first_4 : decode cL_first 4 = .ok (.invokevirtual 53, 3) := by decide +kernel
theorem dL_first_7 : decode cL_first 7 = .ok (.i2l, 1) := by decide +kernel
theorem dL_first_8 : decode cL_first 8 = .ok (.lastore, 1) := by decide +kernel
theorem dL_first_9 : decode cL_first 9 = .ok (.goto 6, 3) := by decide +kernel
theorem dL_first_12 : decode cL_first 12 = .ok (.astore_n 3, 1) := by decide +kernel
theorem dL_first_13 : decode cL_first 13 = .ok (.iconst 1, 1) := by decide +kernel
theorem dL_first_14 : decode cL_first 14 = .ok (.ireturn, 1) := by decide +kernel
theorem dL_first_15 : decode cL_first 15 = .ok (.iconst 0, 1) := by decide +kernel
theorem dL_first_16 : decode cL_first 16 = .ok (.ireturn, 1) := by decide +kernel
def rmw_first : Room := { frames := 11, cells := 1, slots := 6, locals := 209 }
set_option maxHeartbeats 4000000 in
theorem cw_first (l : Launch) {G : zG} {ad : Nat → Nat} {ao : Nat} (hin : wIn ad ao) (M : zMem) (v : Int64) (p0 : Int32) (hl : l.stackTraces = false) {k9 : Nat} {r9 : Int32} {M9 : zMem} (hF : F_X9_first M p0 = some (k9, r9, M9)) {kk : Int32} {v' : Int64} (hk : (k9 = 0 ∧ kk = 0 ∧ v' = r9.toInt64) ∨ (k9 = 1 ∧ kk = 1 ∧ v' = v)) : lwM l yL_first cL_first 4 [(0, 9, 12, 13)] rmw_first 1 6 G ad ao M v [.ref (ad 0), .int p0, .ref ao] kk M9 v' := by
  refine lwM_of (by decide +kernel) (lv := [(0, .ref (ad 0)), (1, .int p0), (2, .ref ao)]) (Nat.le_of_ble_eq_true rfl) rfl (fun p e s m args below meth c A cx hr ht hA ho hN hsub => ?_)
  refine l_aload_n cx dL_first_0 2 rfl ?_
  refine l_iconst cx dL_first_1 ki_0 ?_
  refine l_aload_n cx dL_first_2 0 rfl ?_
  refine l_iload_n cx dL_first_3 1 rfl ?_
  refine l_callXC (As := [.int p0]) (rest := [.int 0, .ref ao]) cx (c_X9_first l hin.1 M p0 hl lT0 hF) lT0 zo_10 lcv_first ⟨rfl, rfl, Nat.le_of_ble_eq_true rfl, Nat.le_of_ble_eq_true rfl⟩ rfl rfl ⟨Nat.le_of_ble_eq_true rfl, Nat.le_of_ble_eq_true rfl⟩ (Nat.le_of_ble_eq_true rfl) dL_first_4 hin hA (fun hk0 => ?_) (fun hk0 => ?_)
  · rcases hk with ⟨h1, h2, h3⟩ | ⟨h1, h2, h3⟩
    · exact absurd h1 hk0
    subst h1
    refine ⟨12, "java/lang/IllegalArgumentException", [], ⟨0, 9, 12, 13⟩, [], ht, fun z hz => absurd hz List.not_mem_nil, rfl, by decide, cx.1.2.2.2.2 _ lwd_517, va_Nw.use rfl (cx.2.2.1.2.1 _ lwCI), rfl, fun q => ?_⟩
    refine l_astore_n cx 3 [(3, .ref q), (0, .ref (ad 0)), (1, .int p0), (2, .ref ao)] dL_first_12 rfl (by decide) rfl ?_
    refine l_iconst cx dL_first_13 ki_1 ?_
    exact l_iret cx hr ⟨Nat.le_of_ble_eq_true rfl, Nat.le_of_ble_eq_true rfl⟩ dL_first_14 (fun H locs hP hS t ht => ⟨⟨by rw [h2], by rw [ht, h3]; exact hP⟩, hS.F ht⟩)
  · have hz : kk = 0 ∧ v' = r9.toInt64 := by
      rcases hk with ⟨h1, h2, h3⟩ | ⟨h1, h2, h3⟩
      · exact ⟨h2, h3⟩
      · omega
    refine l_i2l cx dL_first_7 ?_
    refine l_last cx hin hA ho dL_first_8 ?_
    refine l_goto cx 15 dL_first_9 (by decide) ?_
    refine l_iconst cx dL_first_15 ki_0 ?_
    exact l_iret cx hr ⟨Nat.le_of_ble_eq_true rfl, Nat.le_of_ble_eq_true rfl⟩ dL_first_16 (fun H locs hP hS t ht => ⟨⟨by rw [hz.1], by rw [ht, hz.2]; exact hP⟩, hS.F ht⟩)
set_option maxRecDepth 100000 in
theorem lwd_1143 : Cond.methodLink "SunnyPansLaw" 56 yX9_site ∈ tbG := tw5 83 rfl rfl
set_option maxRecDepth 100000 in
theorem lwd_1144 : Cond.instanceMethod yX9_site ∈ tbG := tw5 84 rfl rfl
set_option maxRecDepth 100000 in
theorem lwd_1145 : Cond.selects "SunnyPans" yX9_site yX9_site ∈ tbG := tw5 85 rfl rfl
set_option maxRecDepth 100000 in
theorem lwd_1146 : Cond.code yX9_site cX9_site 6 (some .int) ∈ tbG := tw5 86 rfl rfl
theorem lcv_site : zCV "SunnyPansLaw" 56 "SunnyPans" yX9_site cX9_site 6 (some .int) 2 := zCV_of lwd_1143 lwd_1144 lwd_1145 lwd_101 lwd_1146 (by decide +kernel)
theorem dL_site_0 : decode cL_site 0 = .ok (.aload_n 3, 1) := by decide +kernel
theorem dL_site_1 : decode cL_site 1 = .ok (.iconst 0, 1) := by decide +kernel
theorem dL_site_2 : decode cL_site 2 = .ok (.aload_n 0, 1) := by decide +kernel
theorem dL_site_3 : decode cL_site 3 = .ok (.iload_n 1, 1) := by decide +kernel
theorem dL_site_4 : decode cL_site 4 = .ok (.iload_n 2, 1) := by decide +kernel
theorem dL_site_5 : decode cL_site 5 = .ok (.invokevirtual 56, 3) := by decide +kernel
theorem dL_site_8 : decode cL_site 8 = .ok (.i2l, 1) := by decide +kernel
theorem dL_site_9 : decode cL_site 9 = .ok (.lastore, 1) := by decide +kernel
theorem dL_site_10 : decode cL_site 10 = .ok (.goto 7, 3) := by decide +kernel
theorem dL_site_13 : decode cL_site 13 = .ok (.astore 4, 2) := by decide +kernel
theorem dL_site_15 : decode cL_site 15 = .ok (.iconst 1, 1) := by decide +kernel
theorem dL_site_16 : decode cL_site 16 = .ok (.ireturn, 1) := by decide +kernel
theorem dL_site_17 : decode cL_site 17 = .ok (.iconst 0, 1) := by decide +kernel
theorem dL_site_18 : decode cL_site 18 = .ok (.ireturn, 1) := by decide +kernel
def rmw_site : Room := { frames := 11, cells := 1, slots := 6, locals := 211 }
set_option maxHeartbeats 4000000 in
theorem cw_site (l : Launch) {G : zG} {ad : Nat → Nat} {ao : Nat} (hin : wIn ad ao) (M : zMem) (v : Int64) (p0 : Int32) (p1 : Int32) (hl : l.stackTraces = false) {k9 : Nat} {r9 : Int32} {M9 : zMem} (hF : F_X9_site M p0 p1 = some (k9, r9, M9)) {kk : Int32} {v' : Int64} (hk : (k9 = 0 ∧ kk = 0 ∧ v' = r9.toInt64) ∨ (k9 = 1 ∧ kk = 1 ∧ v' = v)) : lwM l yL_site cL_site 5 [(0, 10, 13, 13)] rmw_site 1 6 G ad ao M v [.ref (ad 0), .int p0, .int p1, .ref ao] kk M9 v' := by
  refine lwM_of (by decide +kernel) (lv := [(0, .ref (ad 0)), (1, .int p0), (2, .int p1), (3, .ref ao)]) (Nat.le_of_ble_eq_true rfl) rfl (fun p e s m args below meth c A cx hr ht hA ho hN hsub => ?_)
  refine l_aload_n cx dL_site_0 3 rfl ?_
  refine l_iconst cx dL_site_1 ki_0 ?_
  refine l_aload_n cx dL_site_2 0 rfl ?_
  refine l_iload_n cx dL_site_3 1 rfl ?_
  refine l_iload_n cx dL_site_4 2 rfl ?_
  refine l_callXC (As := [.int p0, .int p1]) (rest := [.int 0, .ref ao]) cx (c_X9_site l hin.1 M p0 p1 hl lT0 hF) lT0 zo_10 lcv_site ⟨rfl, rfl, Nat.le_of_ble_eq_true rfl, Nat.le_of_ble_eq_true rfl⟩ rfl rfl ⟨Nat.le_of_ble_eq_true rfl, Nat.le_of_ble_eq_true rfl⟩ (Nat.le_of_ble_eq_true rfl) dL_site_5 hin hA (fun hk0 => ?_) (fun hk0 => ?_)
  · rcases hk with ⟨h1, h2, h3⟩ | ⟨h1, h2, h3⟩
    · exact absurd h1 hk0
    subst h1
    refine ⟨13, "java/lang/IllegalArgumentException", [], ⟨0, 10, 13, 13⟩, [], ht, fun z hz => absurd hz List.not_mem_nil, rfl, by decide, cx.1.2.2.2.2 _ lwd_517, va_Nw.use rfl (cx.2.2.1.2.1 _ lwCI), rfl, fun q => ?_⟩
    refine l_astore cx 4 [(4, .ref q), (0, .ref (ad 0)), (1, .int p0), (2, .int p1), (3, .ref ao)] dL_site_13 (by decide) rfl ?_
    refine l_iconst cx dL_site_15 ki_1 ?_
    exact l_iret cx hr ⟨Nat.le_of_ble_eq_true rfl, Nat.le_of_ble_eq_true rfl⟩ dL_site_16 (fun H locs hP hS t ht => ⟨⟨by rw [h2], by rw [ht, h3]; exact hP⟩, hS.F ht⟩)
  · have hz : kk = 0 ∧ v' = r9.toInt64 := by
      rcases hk with ⟨h1, h2, h3⟩ | ⟨h1, h2, h3⟩
      · exact ⟨h2, h3⟩
      · omega
    refine l_i2l cx dL_site_8 ?_
    refine l_last cx hin hA ho dL_site_9 ?_
    refine l_goto cx 17 dL_site_10 (by decide) ?_
    refine l_iconst cx dL_site_17 ki_0 ?_
    exact l_iret cx hr ⟨Nat.le_of_ble_eq_true rfl, Nat.le_of_ble_eq_true rfl⟩ dL_site_18 (fun H locs hP hS t ht => ⟨⟨by rw [hz.1], by rw [ht, hz.2]; exact hP⟩, hS.F ht⟩)
set_option maxRecDepth 100000 in
theorem lwd_1177 : Cond.methodLink "SunnyPansLaw" 59 yX9_pair ∈ tbG := tw5 117 rfl rfl
set_option maxRecDepth 100000 in
theorem lwd_1178 : Cond.instanceMethod yX9_pair ∈ tbG := tw5 118 rfl rfl
set_option maxRecDepth 100000 in
theorem lwd_1179 : Cond.selects "SunnyPans" yX9_pair yX9_pair ∈ tbG := tw5 119 rfl rfl
set_option maxRecDepth 100000 in
theorem lwd_1180 : Cond.code yX9_pair cX9_pair 7 (some .int) ∈ tbG := tw5 120 rfl rfl
theorem lcv_pair : zCV "SunnyPansLaw" 59 "SunnyPans" yX9_pair cX9_pair 7 (some .int) 2 := zCV_of lwd_1177 lwd_1178 lwd_1179 lwd_101 lwd_1180 (by decide +kernel)
theorem dL_pair_0 : decode cL_pair 0 = .ok (.aload_n 3, 1) := by decide +kernel
theorem dL_pair_1 : decode cL_pair 1 = .ok (.iconst 0, 1) := by decide +kernel
theorem dL_pair_2 : decode cL_pair 2 = .ok (.aload_n 0, 1) := by decide +kernel
theorem dL_pair_3 : decode cL_pair 3 = .ok (.iload_n 1, 1) := by decide +kernel
theorem dL_pair_4 : decode cL_pair 4 = .ok (.iload_n 2, 1) := by decide +kernel
theorem dL_pair_5 : decode cL_pair 5 = .ok (.invokevirtual 59, 3) := by decide +kernel
theorem dL_pair_8 : decode cL_pair 8 = .ok (.i2l, 1) := by decide +kernel
theorem dL_pair_9 : decode cL_pair 9 = .ok (.lastore, 1) := by decide +kernel
theorem dL_pair_10 : decode cL_pair 10 = .ok (.goto 7, 3) := by decide +kernel
theorem dL_pair_13 : decode cL_pair 13 = .ok (.astore 4, 2) := by decide +kernel
theorem dL_pair_15 : decode cL_pair 15 = .ok (.iconst 1, 1) := by decide +kernel
theorem dL_pair_16 : decode cL_pair 16 = .ok (.ireturn, 1) := by decide +kernel
theorem dL_pair_17 : decode cL_pair 17 = .ok (.iconst 0, 1) := by decide +kernel
theorem dL_pair_18 : decode cL_pair 18 = .ok (.ireturn, 1) := by decide +kernel
def rmw_pair : Room := { frames := 11, cells := 1, slots := 6, locals := 212 }
set_option maxHeartbeats 4000000 in
theorem cw_pair (l : Launch) {G : zG} {ad : Nat → Nat} {ao : Nat} (hin : wIn ad ao) (M : zMem) (v : Int64) (p0 : Int32) (p1 : Int32) (hl : l.stackTraces = false) {k9 : Nat} {r9 : Int32} {M9 : zMem} (hF : F_X9_pair M p0 p1 = some (k9, r9, M9)) {kk : Int32} {v' : Int64} (hk : (k9 = 0 ∧ kk = 0 ∧ v' = r9.toInt64) ∨ (k9 = 1 ∧ kk = 1 ∧ v' = v)) : lwM l yL_pair cL_pair 5 [(0, 10, 13, 13)] rmw_pair 1 6 G ad ao M v [.ref (ad 0), .int p0, .int p1, .ref ao] kk M9 v' := by
  refine lwM_of (by decide +kernel) (lv := [(0, .ref (ad 0)), (1, .int p0), (2, .int p1), (3, .ref ao)]) (Nat.le_of_ble_eq_true rfl) rfl (fun p e s m args below meth c A cx hr ht hA ho hN hsub => ?_)
  refine l_aload_n cx dL_pair_0 3 rfl ?_
  refine l_iconst cx dL_pair_1 ki_0 ?_
  refine l_aload_n cx dL_pair_2 0 rfl ?_
  refine l_iload_n cx dL_pair_3 1 rfl ?_
  refine l_iload_n cx dL_pair_4 2 rfl ?_
  refine l_callXC (As := [.int p0, .int p1]) (rest := [.int 0, .ref ao]) cx (c_X9_pair l hin.1 M p0 p1 hl lT0 hF) lT0 zo_10 lcv_pair ⟨rfl, rfl, Nat.le_of_ble_eq_true rfl, Nat.le_of_ble_eq_true rfl⟩ rfl rfl ⟨Nat.le_of_ble_eq_true rfl, Nat.le_of_ble_eq_true rfl⟩ (Nat.le_of_ble_eq_true rfl) dL_pair_5 hin hA (fun hk0 => ?_) (fun hk0 => ?_)
  · rcases hk with ⟨h1, h2, h3⟩ | ⟨h1, h2, h3⟩
    · exact absurd h1 hk0
    subst h1
    refine ⟨13, "java/lang/IllegalArgumentException", [], ⟨0, 10, 13, 13⟩, [], ht, fun z hz => absurd hz List.not_mem_nil, rfl, by decide, cx.1.2.2.2.2 _ lwd_517, va_Nw.use rfl (cx.2.2.1.2.1 _ lwCI), rfl, fun q => ?_⟩
    refine l_astore cx 4 [(4, .ref q), (0, .ref (ad 0)), (1, .int p0), (2, .int p1), (3, .ref ao)] dL_pair_13 (by decide) rfl ?_
    refine l_iconst cx dL_pair_15 ki_1 ?_
    exact l_iret cx hr ⟨Nat.le_of_ble_eq_true rfl, Nat.le_of_ble_eq_true rfl⟩ dL_pair_16 (fun H locs hP hS t ht => ⟨⟨by rw [h2], by rw [ht, h3]; exact hP⟩, hS.F ht⟩)
  · have hz : kk = 0 ∧ v' = r9.toInt64 := by
      rcases hk with ⟨h1, h2, h3⟩ | ⟨h1, h2, h3⟩
      · exact ⟨h2, h3⟩
      · omega
    refine l_i2l cx dL_pair_8 ?_
    refine l_last cx hin hA ho dL_pair_9 ?_
    refine l_goto cx 17 dL_pair_10 (by decide) ?_
    refine l_iconst cx dL_pair_17 ki_0 ?_
    exact l_iret cx hr ⟨Nat.le_of_ble_eq_true rfl, Nat.le_of_ble_eq_true rfl⟩ dL_pair_18 (fun H locs hP hS t ht => ⟨⟨by rw [hz.1], by rw [ht, hz.2]; exact hP⟩, hS.F ht⟩)
set_option maxRecDepth 100000 in
theorem lwd_1185 : Cond.methodLink "SunnyPansLaw" 62 yX9_relief ∈ tbG := tw5 125 rfl rfl
set_option maxRecDepth 100000 in
theorem lwd_1186 : Cond.instanceMethod yX9_relief ∈ tbG := tw5 126 rfl rfl
set_option maxRecDepth 100000 in
theorem lwd_1187 : Cond.selects "SunnyPans" yX9_relief yX9_relief ∈ tbG := tw5 127 rfl rfl
set_option maxRecDepth 100000 in
theorem lwd_1188 : Cond.code yX9_relief cX9_relief 4 (some .int) ∈ tbG := tw5 128 rfl rfl
theorem lcv_relief : zCV "SunnyPansLaw" 62 "SunnyPans" yX9_relief cX9_relief 4 (some .int) 1 := zCV_of lwd_1185 lwd_1186 lwd_1187 lwd_101 lwd_1188 (by decide +kernel)
theorem dL_relief_0 : decode cL_relief 0 = .ok (.aload_n 2, 1) := by decide +kernel
theorem dL_relief_1 : decode cL_relief 1 = .ok (.iconst 0, 1) := by decide +kernel
theorem dL_relief_2 : decode cL_relief 2 = .ok (.aload_n 0, 1) := by decide +kernel
theorem dL_relief_3 : decode cL_relief 3 = .ok (.iload_n 1, 1) := by decide +kernel
theorem dL_relief_4 : decode cL_relief 4 = .ok (.invokevirtual 62, 3) := by decide +kernel
theorem dL_relief_7 : decode cL_relief 7 = .ok (.i2l, 1) := by decide +kernel
theorem dL_relief_8 : decode cL_relief 8 = .ok (.lastore, 1) := by decide +kernel
theorem dL_relief_9 : decode cL_relief 9 = .ok (.goto 6, 3) := by decide +kernel
theorem dL_relief_12 : decode cL_relief 12 = .ok (.astore_n 3, 1) := by decide +kernel
theorem dL_relief_13 : decode cL_relief 13 = .ok (.iconst 1, 1) := by decide +kernel
theorem dL_relief_14 : decode cL_relief 14 = .ok (.ireturn, 1) := by decide +kernel
theorem dL_relief_15 : decode cL_relief 15 = .ok (.iconst 0, 1) := by decide +kernel
theorem dL_relief_16 : decode cL_relief 16 = .ok (.ireturn, 1) := by decide +kernel
def rmw_relief : Room := { frames := 11, cells := 1, slots := 6, locals := 184 }
set_option maxHeartbeats 4000000 in
theorem cw_relief (l : Launch) {G : zG} {ad : Nat → Nat} {ao : Nat} (hin : wIn ad ao) (M : zMem) (v : Int64) (p0 : Int32) (hl : l.stackTraces = false) {k9 : Nat} {r9 : Int32} {M9 : zMem} (hF : F_X9_relief M p0 = some (k9, r9, M9)) {kk : Int32} {v' : Int64} (hk : (k9 = 0 ∧ kk = 0 ∧ v' = r9.toInt64) ∨ (k9 = 1 ∧ kk = 1 ∧ v' = v)) : lwM l yL_relief cL_relief 4 [(0, 9, 12, 13)] rmw_relief 1 6 G ad ao M v [.ref (ad 0), .int p0, .ref ao] kk M9 v' := by
  refine lwM_of (by decide +kernel) (lv := [(0, .ref (ad 0)), (1, .int p0), (2, .ref ao)]) (Nat.le_of_ble_eq_true rfl) rfl (fun p e s m args below meth c A cx hr ht hA ho hN hsub => ?_)
  refine l_aload_n cx dL_relief_0 2 rfl ?_
  refine l_iconst cx dL_relief_1 ki_0 ?_
  refine l_aload_n cx dL_relief_2 0 rfl ?_
  refine l_iload_n cx dL_relief_3 1 rfl ?_
  refine l_callXC (As := [.int p0]) (rest := [.int 0, .ref ao]) cx (c_X9_relief l hin.1 M p0 hl lT0 hF) lT0 zo_10 lcv_relief ⟨rfl, rfl, Nat.le_of_ble_eq_true rfl, Nat.le_of_ble_eq_true rfl⟩ rfl rfl ⟨Nat.le_of_ble_eq_true rfl, Nat.le_of_ble_eq_true rfl⟩ (Nat.le_of_ble_eq_true rfl) dL_relief_4 hin hA (fun hk0 => ?_) (fun hk0 => ?_)
  · rcases hk with ⟨h1, h2, h3⟩ | ⟨h1, h2, h3⟩
    · exact absurd h1 hk0
    subst h1
    refine ⟨12, "java/lang/IllegalArgumentException", [], ⟨0, 9, 12, 13⟩, [], ht, fun z hz => absurd hz List.not_mem_nil, rfl, by decide, cx.1.2.2.2.2 _ lwd_517, va_Nw.use rfl (cx.2.2.1.2.1 _ lwCI), rfl, fun q => ?_⟩
    refine l_astore_n cx 3 [(3, .ref q), (0, .ref (ad 0)), (1, .int p0), (2, .ref ao)] dL_relief_12 rfl (by decide) rfl ?_
    refine l_iconst cx dL_relief_13 ki_1 ?_
    exact l_iret cx hr ⟨Nat.le_of_ble_eq_true rfl, Nat.le_of_ble_eq_true rfl⟩ dL_relief_14 (fun H locs hP hS t ht => ⟨⟨by rw [h2], by rw [ht, h3]; exact hP⟩, hS.F ht⟩)
  · have hz : kk = 0 ∧ v' = r9.toInt64 := by
      rcases hk with ⟨h1, h2, h3⟩ | ⟨h1, h2, h3⟩
      · exact ⟨h2, h3⟩
      · omega
    refine l_i2l cx dL_relief_7 ?_
    refine l_last cx hin hA ho dL_relief_8 ?_
    refine l_goto cx 15 dL_relief_9 (by decide) ?_
    refine l_iconst cx dL_relief_15 ki_0 ?_
    exact l_iret cx hr ⟨Nat.le_of_ble_eq_true rfl, Nat.le_of_ble_eq_true rfl⟩ dL_relief_16 (fun H locs hP hS t ht => ⟨⟨by rw [hz.1], by rw [ht, hz.2]; exact hP⟩, hS.F ht⟩)
set_option maxRecDepth 100000 in
theorem lwd_1204 : Cond.methodLink "SunnyPansLaw" 65 yX9_way ∈ tbG := tw5 144 rfl rfl
set_option maxRecDepth 100000 in
theorem lwd_1205 : Cond.instanceMethod yX9_way ∈ tbG := tw5 145 rfl rfl
set_option maxRecDepth 100000 in
theorem lwd_1206 : Cond.selects "SunnyPans" yX9_way yX9_way ∈ tbG := tw5 146 rfl rfl
set_option maxRecDepth 100000 in
theorem lwd_1207 : Cond.code yX9_way cX9_way 10 (some .int) ∈ tbG := tw5 147 rfl rfl
theorem lcv_way : zCV "SunnyPansLaw" 65 "SunnyPans" yX9_way cX9_way 10 (some .int) 4 := zCV_of lwd_1204 lwd_1205 lwd_1206 lwd_101 lwd_1207 (by decide +kernel)
theorem dL_way_0 : decode cL_way 0 = .ok (.aload 5, 2) := by decide +kernel
theorem dL_way_2 : decode cL_way 2 = .ok (.iconst 0, 1) := by decide +kernel
theorem dL_way_3 : decode cL_way 3 = .ok (.aload_n 0, 1) := by decide +kernel
theorem dL_way_4 : decode cL_way 4 = .ok (.iload_n 1, 1) := by decide +kernel
theorem dL_way_5 : decode cL_way 5 = .ok (.iload_n 2, 1) := by decide +kernel
theorem dL_way_6 : decode cL_way 6 = .ok (.iload_n 3, 1) := by decide +kernel
theorem dL_way_7 : decode cL_way 7 = .ok (.iload 4, 2) := by decide +kernel
theorem dL_way_9 : decode cL_way 9 = .ok (.invokevirtual 65, 3) := by decide +kernel
theorem dL_way_12 : decode cL_way 12 = .ok (.i2l, 1) := by decide +kernel
theorem dL_way_13 : decode cL_way 13 = .ok (.lastore, 1) := by decide +kernel
theorem dL_way_14 : decode cL_way 14 = .ok (.goto 7, 3) := by decide +kernel
theorem dL_way_17 : decode cL_way 17 = .ok (.astore 6, 2) := by decide +kernel
theorem dL_way_19 : decode cL_way 19 = .ok (.iconst 1, 1) := by decide +kernel
theorem dL_way_20 : decode cL_way 20 = .ok (.ireturn, 1) := by decide +kernel
theorem dL_way_21 : decode cL_way 21 = .ok (.iconst 0, 1) := by decide +kernel
theorem dL_way_22 : decode cL_way 22 = .ok (.ireturn, 1) := by decide +kernel
def rmw_way : Room := { frames := 12, cells := 2, slots := 12, locals := 212 }
set_option maxHeartbeats 4000000 in
theorem cw_way (l : Launch) {G : zG} {ad : Nat → Nat} {ao : Nat} (hin : wIn ad ao) (M : zMem) (v : Int64) (p0 : Int32) (p1 : Int32) (p2 : Int32) (p3 : Int32) (hl : l.stackTraces = false) {k9 : Nat} {r9 : Int32} {M9 : zMem} (hF : F_X9_way M p0 p1 p2 p3 = some (k9, r9, M9)) {kk : Int32} {v' : Int64} (hk : (k9 = 0 ∧ kk = 0 ∧ v' = r9.toInt64) ∨ (k9 = 2 ∧ kk = 1 ∧ v' = v)) : lwM l yL_way cL_way 7 [(0, 14, 17, 31)] rmw_way 2 12 G ad ao M v [.ref (ad 0), .int p0, .int p1, .int p2, .int p3, .ref ao] kk M9 v' := by
  refine lwM_of (by decide +kernel) (lv := [(0, .ref (ad 0)), (1, .int p0), (2, .int p1), (3, .int p2), (4, .int p3), (5, .ref ao)]) (Nat.le_of_ble_eq_true rfl) rfl (fun p e s m args below meth c A cx hr ht hA ho hN hsub => ?_)
  refine l_aload cx dL_way_0 5 rfl ?_
  refine l_iconst cx dL_way_2 ki_0 ?_
  refine l_aload_n cx dL_way_3 0 rfl ?_
  refine l_iload_n cx dL_way_4 1 rfl ?_
  refine l_iload_n cx dL_way_5 2 rfl ?_
  refine l_iload_n cx dL_way_6 3 rfl ?_
  refine l_iload cx dL_way_7 4 rfl ?_
  refine l_callXC (As := [.int p0, .int p1, .int p2, .int p3]) (rest := [.int 0, .ref ao]) cx (c_X9_way l hin.1 M p0 p1 p2 p3 hl lT0 hF) lT0 zo_10 lcv_way ⟨rfl, rfl, Nat.le_of_ble_eq_true rfl, Nat.le_of_ble_eq_true rfl⟩ rfl rfl ⟨Nat.le_of_ble_eq_true rfl, Nat.le_of_ble_eq_true rfl⟩ (Nat.le_of_ble_eq_true rfl) dL_way_9 hin hA (fun hk0 => ?_) (fun hk0 => ?_)
  · rcases hk with ⟨h1, h2, h3⟩ | ⟨h1, h2, h3⟩
    · exact absurd h1 hk0
    subst h1
    refine ⟨17, "java/util/NoSuchElementException", [], ⟨0, 14, 17, 31⟩, [], ht, fun z hz => absurd hz List.not_mem_nil, rfl, by decide, cx.1.2.2.2.2 _ lwd_1015, va_Nw.use rfl (cx.2.2.1.2.1 _ lwCN), rfl, fun q => ?_⟩
    refine l_astore cx 6 [(6, .ref q), (0, .ref (ad 0)), (1, .int p0), (2, .int p1), (3, .int p2), (4, .int p3), (5, .ref ao)] dL_way_17 (by decide) rfl ?_
    refine l_iconst cx dL_way_19 ki_1 ?_
    exact l_iret cx hr ⟨Nat.le_of_ble_eq_true rfl, Nat.le_of_ble_eq_true rfl⟩ dL_way_20 (fun H locs hP hS t ht => ⟨⟨by rw [h2], by rw [ht, h3]; exact hP⟩, hS.F ht⟩)
  · have hz : kk = 0 ∧ v' = r9.toInt64 := by
      rcases hk with ⟨h1, h2, h3⟩ | ⟨h1, h2, h3⟩
      · exact ⟨h2, h3⟩
      · omega
    refine l_i2l cx dL_way_12 ?_
    refine l_last cx hin hA ho dL_way_13 ?_
    refine l_goto cx 21 dL_way_14 (by decide) ?_
    refine l_iconst cx dL_way_21 ki_0 ?_
    exact l_iret cx hr ⟨Nat.le_of_ble_eq_true rfl, Nat.le_of_ble_eq_true rfl⟩ dL_way_22 (fun H locs hP hS t ht => ⟨⟨by rw [hz.1], by rw [ht, hz.2]; exact hP⟩, hS.F ht⟩)
set_option maxRecDepth 100000 in
theorem lwd_1217 : Cond.methodLink "SunnyPansLaw" 69 yX9_fits ∈ tbG := tw5 157 rfl rfl
set_option maxRecDepth 100000 in
theorem lwd_1218 : Cond.instanceMethod yX9_fits ∈ tbG := tw5 158 rfl rfl
set_option maxRecDepth 100000 in
theorem lwd_1219 : Cond.selects "SunnyPans" yX9_fits yX9_fits ∈ tbG := tw5 159 rfl rfl
set_option maxRecDepth 100000 in
theorem lwd_1220 : Cond.code yX9_fits cX9_fits 6 (some .int) ∈ tbG := tw5 160 rfl rfl
theorem lcv_fits : zCV "SunnyPansLaw" 69 "SunnyPans" yX9_fits cX9_fits 6 (some .int) 2 := zCV_of lwd_1217 lwd_1218 lwd_1219 lwd_101 lwd_1220 (by decide +kernel)
theorem dL_fits_0 : decode cL_fits 0 = .ok (.aload_n 3, 1) := by decide +kernel
theorem dL_fits_1 : decode cL_fits 1 = .ok (.iconst 0, 1) := by decide +kernel
theorem dL_fits_2 : decode cL_fits 2 = .ok (.aload_n 0, 1) := by decide +kernel
theorem dL_fits_3 : decode cL_fits 3 = .ok (.iload_n 1, 1) := by decide +kernel
theorem dL_fits_4 : decode cL_fits 4 = .ok (.iload_n 2, 1) := by decide +kernel
theorem dL_fits_5 : decode cL_fits 5 = .ok (.invokevirtual 69, 3) := by decide +kernel
theorem dL_fits_8 : decode cL_fits 8 = .ok (.i2l, 1) := by decide +kernel
theorem dL_fits_9 : decode cL_fits 9 = .ok (.lastore, 1) := by decide +kernel
theorem dL_fits_10 : decode cL_fits 10 = .ok (.goto 7, 3) := by decide +kernel
theorem dL_fits_13 : decode cL_fits 13 = .ok (.astore 4, 2) := by decide +kernel
theorem dL_fits_15 : decode cL_fits 15 = .ok (.iconst 1, 1) := by decide +kernel
theorem dL_fits_16 : decode cL_fits 16 = .ok (.ireturn, 1) := by decide +kernel
theorem dL_fits_17 : decode cL_fits 17 = .ok (.iconst 0, 1) := by decide +kernel
theorem dL_fits_18 : decode cL_fits 18 = .ok (.ireturn, 1) := by decide +kernel
def rmw_fits : Room := { frames := 11, cells := 1, slots := 6, locals := 258 }
set_option maxHeartbeats 4000000 in
theorem cw_fits (l : Launch) {G : zG} {ad : Nat → Nat} {ao : Nat} (hin : wIn ad ao) (M : zMem) (v : Int64) (p0 : Int32) (p1 : Int32) (hl : l.stackTraces = false) {k9 : Nat} {r9 : Int32} {M9 : zMem} (hF : F_X9_fits M p0 p1 = some (k9, r9, M9)) {kk : Int32} {v' : Int64} (hk : (k9 = 0 ∧ kk = 0 ∧ v' = r9.toInt64) ∨ (k9 = 1 ∧ kk = 1 ∧ v' = v)) : lwM l yL_fits cL_fits 5 [(0, 10, 13, 13)] rmw_fits 1 6 G ad ao M v [.ref (ad 0), .int p0, .int p1, .ref ao] kk M9 v' := by
  refine lwM_of (by decide +kernel) (lv := [(0, .ref (ad 0)), (1, .int p0), (2, .int p1), (3, .ref ao)]) (Nat.le_of_ble_eq_true rfl) rfl (fun p e s m args below meth c A cx hr ht hA ho hN hsub => ?_)
  refine l_aload_n cx dL_fits_0 3 rfl ?_
  refine l_iconst cx dL_fits_1 ki_0 ?_
  refine l_aload_n cx dL_fits_2 0 rfl ?_
  refine l_iload_n cx dL_fits_3 1 rfl ?_
  refine l_iload_n cx dL_fits_4 2 rfl ?_
  refine l_callXC (As := [.int p0, .int p1]) (rest := [.int 0, .ref ao]) cx (c_X9_fits l hin.1 M p0 p1 hl lT0 hF) lT0 zo_10 lcv_fits ⟨rfl, rfl, Nat.le_of_ble_eq_true rfl, Nat.le_of_ble_eq_true rfl⟩ rfl rfl ⟨Nat.le_of_ble_eq_true rfl, Nat.le_of_ble_eq_true rfl⟩ (Nat.le_of_ble_eq_true rfl) dL_fits_5 hin hA (fun hk0 => ?_) (fun hk0 => ?_)
  · rcases hk with ⟨h1, h2, h3⟩ | ⟨h1, h2, h3⟩
    · exact absurd h1 hk0
    subst h1
    refine ⟨13, "java/lang/IllegalArgumentException", [], ⟨0, 10, 13, 13⟩, [], ht, fun z hz => absurd hz List.not_mem_nil, rfl, by decide, cx.1.2.2.2.2 _ lwd_517, va_Nw.use rfl (cx.2.2.1.2.1 _ lwCI), rfl, fun q => ?_⟩
    refine l_astore cx 4 [(4, .ref q), (0, .ref (ad 0)), (1, .int p0), (2, .int p1), (3, .ref ao)] dL_fits_13 (by decide) rfl ?_
    refine l_iconst cx dL_fits_15 ki_1 ?_
    exact l_iret cx hr ⟨Nat.le_of_ble_eq_true rfl, Nat.le_of_ble_eq_true rfl⟩ dL_fits_16 (fun H locs hP hS t ht => ⟨⟨by rw [h2], by rw [ht, h3]; exact hP⟩, hS.F ht⟩)
  · have hz : kk = 0 ∧ v' = r9.toInt64 := by
      rcases hk with ⟨h1, h2, h3⟩ | ⟨h1, h2, h3⟩
      · exact ⟨h2, h3⟩
      · omega
    refine l_i2l cx dL_fits_8 ?_
    refine l_last cx hin hA ho dL_fits_9 ?_
    refine l_goto cx 17 dL_fits_10 (by decide) ?_
    refine l_iconst cx dL_fits_17 ki_0 ?_
    exact l_iret cx hr ⟨Nat.le_of_ble_eq_true rfl, Nat.le_of_ble_eq_true rfl⟩ dL_fits_18 (fun H locs hP hS t ht => ⟨⟨by rw [hz.1], by rw [ht, hz.2]; exact hP⟩, hS.F ht⟩)
set_option maxRecDepth 100000 in
theorem lwd_1237 : Cond.methodLink "SunnyPansLaw" 72 yX9_look ∈ tbG := tw5 177 rfl rfl
set_option maxRecDepth 100000 in
theorem lwd_1238 : Cond.instanceMethod yX9_look ∈ tbG := tw5 178 rfl rfl
set_option maxRecDepth 100000 in
theorem lwd_1239 : Cond.selects "SunnyPans" yX9_look yX9_look ∈ tbG := tw5 179 rfl rfl
set_option maxRecDepth 100000 in
theorem lwd_1240 : Cond.code yX9_look cX9_look 8 (some .int) ∈ tbG := tw5 180 rfl rfl
theorem lcv_look : zCV "SunnyPansLaw" 72 "SunnyPans" yX9_look cX9_look 8 (some .int) 2 := zCV_of lwd_1237 lwd_1238 lwd_1239 lwd_101 lwd_1240 (by decide +kernel)
theorem dL_look_0 : decode cL_look 0 = .ok (.aload_n 3, 1) := by decide +kernel
theorem dL_look_1 : decode cL_look 1 = .ok (.iconst 0, 1) := by decide +kernel
theorem dL_look_2 : decode cL_look 2 = .ok (.aload_n 0, 1) := by decide +kernel
theorem dL_look_3 : decode cL_look 3 = .ok (.iload_n 1, 1) := by decide +kernel
theorem dL_look_4 : decode cL_look 4 = .ok (.iload_n 2, 1) := by decide +kernel
theorem dL_look_5 : decode cL_look 5 = .ok (.invokevirtual 72, 3) := by decide +kernel
theorem dL_look_8 : decode cL_look 8 = .ok (.i2l, 1) := by decide +kernel
theorem dL_look_9 : decode cL_look 9 = .ok (.lastore, 1) := by decide +kernel
theorem dL_look_10 : decode cL_look 10 = .ok (.goto 7, 3) := by decide +kernel
theorem dL_look_13 : decode cL_look 13 = .ok (.astore 4, 2) := by decide +kernel
theorem dL_look_15 : decode cL_look 15 = .ok (.iconst 1, 1) := by decide +kernel
theorem dL_look_16 : decode cL_look 16 = .ok (.ireturn, 1) := by decide +kernel
theorem dL_look_17 : decode cL_look 17 = .ok (.iconst 0, 1) := by decide +kernel
theorem dL_look_18 : decode cL_look 18 = .ok (.ireturn, 1) := by decide +kernel
def rmw_look : Room := { frames := 11, cells := 1, slots := 6, locals := 260 }
set_option maxHeartbeats 4000000 in
theorem cw_look (l : Launch) {G : zG} {ad : Nat → Nat} {ao : Nat} (hin : wIn ad ao) (M : zMem) (v : Int64) (p0 : Int32) (p1 : Int32) (hl : l.stackTraces = false) {k9 : Nat} {r9 : Int32} {M9 : zMem} (hF : F_X9_look M p0 p1 = some (k9, r9, M9)) {kk : Int32} {v' : Int64} (hk : (k9 = 0 ∧ kk = 0 ∧ v' = r9.toInt64) ∨ (k9 = 1 ∧ kk = 1 ∧ v' = v)) : lwM l yL_look cL_look 5 [(0, 10, 13, 13)] rmw_look 1 6 G ad ao M v [.ref (ad 0), .int p0, .int p1, .ref ao] kk M9 v' := by
  refine lwM_of (by decide +kernel) (lv := [(0, .ref (ad 0)), (1, .int p0), (2, .int p1), (3, .ref ao)]) (Nat.le_of_ble_eq_true rfl) rfl (fun p e s m args below meth c A cx hr ht hA ho hN hsub => ?_)
  refine l_aload_n cx dL_look_0 3 rfl ?_
  refine l_iconst cx dL_look_1 ki_0 ?_
  refine l_aload_n cx dL_look_2 0 rfl ?_
  refine l_iload_n cx dL_look_3 1 rfl ?_
  refine l_iload_n cx dL_look_4 2 rfl ?_
  refine l_callXC (As := [.int p0, .int p1]) (rest := [.int 0, .ref ao]) cx (c_X9_look l hin.1 M p0 p1 hl lT0 hF) lT0 zo_10 lcv_look ⟨rfl, rfl, Nat.le_of_ble_eq_true rfl, Nat.le_of_ble_eq_true rfl⟩ rfl rfl ⟨Nat.le_of_ble_eq_true rfl, Nat.le_of_ble_eq_true rfl⟩ (Nat.le_of_ble_eq_true rfl) dL_look_5 hin hA (fun hk0 => ?_) (fun hk0 => ?_)
  · rcases hk with ⟨h1, h2, h3⟩ | ⟨h1, h2, h3⟩
    · exact absurd h1 hk0
    subst h1
    refine ⟨13, "java/lang/IllegalArgumentException", [], ⟨0, 10, 13, 13⟩, [], ht, fun z hz => absurd hz List.not_mem_nil, rfl, by decide, cx.1.2.2.2.2 _ lwd_517, va_Nw.use rfl (cx.2.2.1.2.1 _ lwCI), rfl, fun q => ?_⟩
    refine l_astore cx 4 [(4, .ref q), (0, .ref (ad 0)), (1, .int p0), (2, .int p1), (3, .ref ao)] dL_look_13 (by decide) rfl ?_
    refine l_iconst cx dL_look_15 ki_1 ?_
    exact l_iret cx hr ⟨Nat.le_of_ble_eq_true rfl, Nat.le_of_ble_eq_true rfl⟩ dL_look_16 (fun H locs hP hS t ht => ⟨⟨by rw [h2], by rw [ht, h3]; exact hP⟩, hS.F ht⟩)
  · have hz : kk = 0 ∧ v' = r9.toInt64 := by
      rcases hk with ⟨h1, h2, h3⟩ | ⟨h1, h2, h3⟩
      · exact ⟨h2, h3⟩
      · omega
    refine l_i2l cx dL_look_8 ?_
    refine l_last cx hin hA ho dL_look_9 ?_
    refine l_goto cx 17 dL_look_10 (by decide) ?_
    refine l_iconst cx dL_look_17 ki_0 ?_
    exact l_iret cx hr ⟨Nat.le_of_ble_eq_true rfl, Nat.le_of_ble_eq_true rfl⟩ dL_look_18 (fun H locs hP hS t ht => ⟨⟨by rw [hz.1], by rw [ht, hz.2]; exact hP⟩, hS.F ht⟩)
set_option maxRecDepth 100000 in
theorem lwd_1257 : Cond.methodLink "SunnyPansLaw" 75 yX9_water ∈ tbG := tw5 197 rfl rfl
set_option maxRecDepth 100000 in
theorem lwd_1258 : Cond.instanceMethod yX9_water ∈ tbG := tw5 198 rfl rfl
set_option maxRecDepth 100000 in
theorem lwd_1259 : Cond.selects "SunnyPans" yX9_water yX9_water ∈ tbG := tw5 199 rfl rfl
set_option maxRecDepth 100000 in
theorem lwd_1260 : Cond.code yX9_water cX9_water 7 (some .int) ∈ tbG := tw5 200 rfl rfl
theorem lcv_water : zCV "SunnyPansLaw" 75 "SunnyPans" yX9_water cX9_water 7 (some .int) 4 := zCV_of lwd_1257 lwd_1258 lwd_1259 lwd_101 lwd_1260 (by decide +kernel)
theorem dL_water_0 : decode cL_water 0 = .ok (.aload 5, 2) := by decide +kernel
theorem dL_water_2 : decode cL_water 2 = .ok (.iconst 0, 1) := by decide +kernel
theorem dL_water_3 : decode cL_water 3 = .ok (.aload_n 0, 1) := by decide +kernel
theorem dL_water_4 : decode cL_water 4 = .ok (.iload_n 1, 1) := by decide +kernel
theorem dL_water_5 : decode cL_water 5 = .ok (.iload_n 2, 1) := by decide +kernel
theorem dL_water_6 : decode cL_water 6 = .ok (.iload_n 3, 1) := by decide +kernel
theorem dL_water_7 : decode cL_water 7 = .ok (.iload 4, 2) := by decide +kernel
theorem dL_water_9 : decode cL_water 9 = .ok (.invokevirtual 75, 3) := by decide +kernel
theorem dL_water_12 : decode cL_water 12 = .ok (.i2l, 1) := by decide +kernel
theorem dL_water_13 : decode cL_water 13 = .ok (.lastore, 1) := by decide +kernel
theorem dL_water_14 : decode cL_water 14 = .ok (.goto 11, 3) := by decide +kernel
theorem dL_water_17 : decode cL_water 17 = .ok (.astore 6, 2) := by decide +kernel
theorem dL_water_19 : decode cL_water 19 = .ok (.iconst 1, 1) := by decide +kernel
theorem dL_water_20 : decode cL_water 20 = .ok (.ireturn, 1) := by decide +kernel
theorem dL_water_21 : decode cL_water 21 = .ok (.astore 6, 2) := by decide +kernel
theorem dL_water_23 : decode cL_water 23 = .ok (.iconst 2, 1) := by decide +kernel
theorem dL_water_24 : decode cL_water 24 = .ok (.ireturn, 1) := by decide +kernel
theorem dL_water_25 : decode cL_water 25 = .ok (.iconst 0, 1) := by decide +kernel
theorem dL_water_26 : decode cL_water 26 = .ok (.ireturn, 1) := by decide +kernel
def rmw_water : Room := { frames := 12, cells := 2, slots := 12, locals := 209 }
set_option maxHeartbeats 4000000 in
theorem cw_water (l : Launch) {G : zG} {ad : Nat → Nat} {ao : Nat} (hin : wIn ad ao) (M : zMem) (v : Int64) (p0 : Int32) (p1 : Int32) (p2 : Int32) (p3 : Int32) (hl : l.stackTraces = false) {k9 : Nat} {r9 : Int32} {M9 : zMem} (hF : F_X9_water M p0 p1 p2 p3 = some (k9, r9, M9)) {kk : Int32} {v' : Int64} (hk : (k9 = 0 ∧ kk = 0 ∧ v' = r9.toInt64) ∨ (k9 = 2 ∧ kk = 1 ∧ v' = v) ∨ (k9 = 1 ∧ kk = 2 ∧ v' = v)) : lwM l yL_water cL_water 7 [(0, 14, 17, 31), (0, 14, 21, 13)] rmw_water 2 12 G ad ao M v [.ref (ad 0), .int p0, .int p1, .int p2, .int p3, .ref ao] kk M9 v' := by
  refine lwM_of (by decide +kernel) (lv := [(0, .ref (ad 0)), (1, .int p0), (2, .int p1), (3, .int p2), (4, .int p3), (5, .ref ao)]) (Nat.le_of_ble_eq_true rfl) rfl (fun p e s m args below meth c A cx hr ht hA ho hN hsub => ?_)
  refine l_aload cx dL_water_0 5 rfl ?_
  refine l_iconst cx dL_water_2 ki_0 ?_
  refine l_aload_n cx dL_water_3 0 rfl ?_
  refine l_iload_n cx dL_water_4 1 rfl ?_
  refine l_iload_n cx dL_water_5 2 rfl ?_
  refine l_iload_n cx dL_water_6 3 rfl ?_
  refine l_iload cx dL_water_7 4 rfl ?_
  refine l_callXC (As := [.int p0, .int p1, .int p2, .int p3]) (rest := [.int 0, .ref ao]) cx (c_X9_water l hin.1 M p0 p1 p2 p3 hl lT0 hF) lT0 zo_10 lcv_water ⟨rfl, rfl, Nat.le_of_ble_eq_true rfl, Nat.le_of_ble_eq_true rfl⟩ rfl rfl ⟨Nat.le_of_ble_eq_true rfl, Nat.le_of_ble_eq_true rfl⟩ (Nat.le_of_ble_eq_true rfl) dL_water_9 hin hA (fun hk0 => ?_) (fun hk0 => ?_)
  · rcases hk with ⟨h1, h2, h3⟩ | ⟨h1, h2, h3⟩ | ⟨h1, h2, h3⟩
    · exact absurd h1 hk0
    · subst h1
      refine ⟨17, "java/util/NoSuchElementException", [], ⟨0, 14, 17, 31⟩, [⟨0, 14, 21, 13⟩], ht, fun z hz => absurd hz List.not_mem_nil, rfl, by decide, cx.1.2.2.2.2 _ lwd_1015, va_Nw.use rfl (cx.2.2.1.2.1 _ lwCN), rfl, fun q => ?_⟩
      refine l_astore cx 6 [(6, .ref q), (0, .ref (ad 0)), (1, .int p0), (2, .int p1), (3, .int p2), (4, .int p3), (5, .ref ao)] dL_water_17 (by decide) rfl ?_
      refine l_iconst cx dL_water_19 ki_1 ?_
      exact l_iret cx hr ⟨Nat.le_of_ble_eq_true rfl, Nat.le_of_ble_eq_true rfl⟩ dL_water_20 (fun H locs hP hS t ht => ⟨⟨by rw [h2], by rw [ht, h3]; exact hP⟩, hS.F ht⟩)
    · subst h1
      refine ⟨21, "java/lang/IllegalArgumentException", [⟨0, 14, 17, 31⟩], ⟨0, 14, 21, 13⟩, [], ht, fun z hz => by
        cases List.mem_singleton.mp hz
        exact Or.inr ⟨by decide, _, cx.1.2.2.2.2 _ lwd_1015, hN⟩, rfl, by decide, cx.1.2.2.2.2 _ lwd_517, va_Nw.use rfl (cx.2.2.1.2.1 _ lwCI), rfl, fun q => ?_⟩
      refine l_astore cx 6 [(6, .ref q), (0, .ref (ad 0)), (1, .int p0), (2, .int p1), (3, .int p2), (4, .int p3), (5, .ref ao)] dL_water_21 (by decide) rfl ?_
      refine l_iconst cx dL_water_23 ki_2 ?_
      exact l_iret cx hr ⟨Nat.le_of_ble_eq_true rfl, Nat.le_of_ble_eq_true rfl⟩ dL_water_24 (fun H locs hP hS t ht => ⟨⟨by rw [h2], by rw [ht, h3]; exact hP⟩, hS.F ht⟩)
  · have hz : kk = 0 ∧ v' = r9.toInt64 := by
      rcases hk with ⟨h1, h2, h3⟩ | ⟨h1, h2, h3⟩ | ⟨h1, h2, h3⟩
      · exact ⟨h2, h3⟩
      · omega
      · omega
    refine l_i2l cx dL_water_12 ?_
    refine l_last cx hin hA ho dL_water_13 ?_
    refine l_goto cx 25 dL_water_14 (by decide) ?_
    refine l_iconst cx dL_water_25 ki_0 ?_
    exact l_iret cx hr ⟨Nat.le_of_ble_eq_true rfl, Nat.le_of_ble_eq_true rfl⟩ dL_water_26 (fun H locs hP hS t ht => ⟨⟨by rw [hz.1], by rw [ht, hz.2]; exact hP⟩, hS.F ht⟩)
set_option maxRecDepth 100000 in
theorem lwd_1269 : Cond.methodLink "SunnyPansLaw" 78 yX9_strongest ∈ tbG := tw5 209 rfl rfl
set_option maxRecDepth 100000 in
theorem lwd_1270 : Cond.instanceMethod yX9_strongest ∈ tbG := tw5 210 rfl rfl
set_option maxRecDepth 100000 in
theorem lwd_1271 : Cond.selects "SunnyPans" yX9_strongest yX9_strongest ∈ tbG := tw5 211 rfl rfl
set_option maxRecDepth 100000 in
theorem lwd_1272 : Cond.code yX9_strongest cX9_strongest 4 (some .int) ∈ tbG := tw5 212 rfl rfl
theorem lcv_strongest : zCV "SunnyPansLaw" 78 "SunnyPans" yX9_strongest cX9_strongest 4 (some .int) 1 := zCV_of lwd_1269 lwd_1270 lwd_1271 lwd_101 lwd_1272 (by decide +kernel)
theorem dL_strongest_0 : decode cL_strongest 0 = .ok (.aload_n 2, 1) := by decide +kernel
theorem dL_strongest_1 : decode cL_strongest 1 = .ok (.iconst 0, 1) := by decide +kernel
theorem dL_strongest_2 : decode cL_strongest 2 = .ok (.aload_n 0, 1) := by decide +kernel
theorem dL_strongest_3 : decode cL_strongest 3 = .ok (.iload_n 1, 1) := by decide +kernel
theorem dL_strongest_4 : decode cL_strongest 4 = .ok (.invokevirtual 78, 3) := by decide +kernel
theorem dL_strongest_7 : decode cL_strongest 7 = .ok (.i2l, 1) := by decide +kernel
theorem dL_strongest_8 : decode cL_strongest 8 = .ok (.lastore, 1) := by decide +kernel
theorem dL_strongest_9 : decode cL_strongest 9 = .ok (.goto 6, 3) := by decide +kernel
theorem dL_strongest_12 : decode cL_strongest 12 = .ok (.astore_n 3, 1) := by decide +kernel
theorem dL_strongest_13 : decode cL_strongest 13 = .ok (.iconst 1, 1) := by decide +kernel
theorem dL_strongest_14 : decode cL_strongest 14 = .ok (.ireturn, 1) := by decide +kernel
theorem dL_strongest_15 : decode cL_strongest 15 = .ok (.iconst 0, 1) := by decide +kernel
theorem dL_strongest_16 : decode cL_strongest 16 = .ok (.ireturn, 1) := by decide +kernel
def rmw_strongest : Room := { frames := 11, cells := 1, slots := 6, locals := 184 }
set_option maxHeartbeats 4000000 in
theorem cw_strongest (l : Launch) {G : zG} {ad : Nat → Nat} {ao : Nat} (hin : wIn ad ao) (M : zMem) (v : Int64) (p0 : Int32) (hl : l.stackTraces = false) {k9 : Nat} {r9 : Int32} {M9 : zMem} (hF : F_X9_strongest M p0 = some (k9, r9, M9)) {kk : Int32} {v' : Int64} (hk : (k9 = 0 ∧ kk = 0 ∧ v' = r9.toInt64) ∨ (k9 = 1 ∧ kk = 1 ∧ v' = v)) : lwM l yL_strongest cL_strongest 4 [(0, 9, 12, 13)] rmw_strongest 1 6 G ad ao M v [.ref (ad 0), .int p0, .ref ao] kk M9 v' := by
  refine lwM_of (by decide +kernel) (lv := [(0, .ref (ad 0)), (1, .int p0), (2, .ref ao)]) (Nat.le_of_ble_eq_true rfl) rfl (fun p e s m args below meth c A cx hr ht hA ho hN hsub => ?_)
  refine l_aload_n cx dL_strongest_0 2 rfl ?_
  refine l_iconst cx dL_strongest_1 ki_0 ?_
  refine l_aload_n cx dL_strongest_2 0 rfl ?_
  refine l_iload_n cx dL_strongest_3 1 rfl ?_
  refine l_callXC (As := [.int p0]) (rest := [.int 0, .ref ao]) cx (c_X9_strongest l hin.1 M p0 hl lT0 hF) lT0 zo_10 lcv_strongest ⟨rfl, rfl, Nat.le_of_ble_eq_true rfl, Nat.le_of_ble_eq_true rfl⟩ rfl rfl ⟨Nat.le_of_ble_eq_true rfl, Nat.le_of_ble_eq_true rfl⟩ (Nat.le_of_ble_eq_true rfl) dL_strongest_4 hin hA (fun hk0 => ?_) (fun hk0 => ?_)
  · rcases hk with ⟨h1, h2, h3⟩ | ⟨h1, h2, h3⟩
    · exact absurd h1 hk0
    subst h1
    refine ⟨12, "java/lang/IllegalArgumentException", [], ⟨0, 9, 12, 13⟩, [], ht, fun z hz => absurd hz List.not_mem_nil, rfl, by decide, cx.1.2.2.2.2 _ lwd_517, va_Nw.use rfl (cx.2.2.1.2.1 _ lwCI), rfl, fun q => ?_⟩
    refine l_astore_n cx 3 [(3, .ref q), (0, .ref (ad 0)), (1, .int p0), (2, .ref ao)] dL_strongest_12 rfl (by decide) rfl ?_
    refine l_iconst cx dL_strongest_13 ki_1 ?_
    exact l_iret cx hr ⟨Nat.le_of_ble_eq_true rfl, Nat.le_of_ble_eq_true rfl⟩ dL_strongest_14 (fun H locs hP hS t ht => ⟨⟨by rw [h2], by rw [ht, h3]; exact hP⟩, hS.F ht⟩)
  · have hz : kk = 0 ∧ v' = r9.toInt64 := by
      rcases hk with ⟨h1, h2, h3⟩ | ⟨h1, h2, h3⟩
      · exact ⟨h2, h3⟩
      · omega
    refine l_i2l cx dL_strongest_7 ?_
    refine l_last cx hin hA ho dL_strongest_8 ?_
    refine l_goto cx 15 dL_strongest_9 (by decide) ?_
    refine l_iconst cx dL_strongest_15 ki_0 ?_
    exact l_iret cx hr ⟨Nat.le_of_ble_eq_true rfl, Nat.le_of_ble_eq_true rfl⟩ dL_strongest_16 (fun H locs hP hS t ht => ⟨⟨by rw [hz.1], by rw [ht, hz.2]; exact hP⟩, hS.F ht⟩)
set_option maxRecDepth 100000 in
theorem lwd_1276 : Cond.methodLink "SunnyPansLaw" 81 yX9_greatest ∈ tbG := tw5 216 rfl rfl
set_option maxRecDepth 100000 in
theorem lwd_1277 : Cond.instanceMethod yX9_greatest ∈ tbG := tw5 217 rfl rfl
set_option maxRecDepth 100000 in
theorem lwd_1278 : Cond.selects "SunnyPans" yX9_greatest yX9_greatest ∈ tbG := tw5 218 rfl rfl
set_option maxRecDepth 100000 in
theorem lwd_1279 : Cond.code yX9_greatest cX9_greatest 3 (some .int) ∈ tbG := tw5 219 rfl rfl
theorem lcv_greatest : zCV "SunnyPansLaw" 81 "SunnyPans" yX9_greatest cX9_greatest 3 (some .int) 1 := zCV_of lwd_1276 lwd_1277 lwd_1278 lwd_101 lwd_1279 (by decide +kernel)
theorem dL_greatest_0 : decode cL_greatest 0 = .ok (.aload_n 2, 1) := by decide +kernel
theorem dL_greatest_1 : decode cL_greatest 1 = .ok (.iconst 0, 1) := by decide +kernel
theorem dL_greatest_2 : decode cL_greatest 2 = .ok (.aload_n 0, 1) := by decide +kernel
theorem dL_greatest_3 : decode cL_greatest 3 = .ok (.iload_n 1, 1) := by decide +kernel
theorem dL_greatest_4 : decode cL_greatest 4 = .ok (.invokevirtual 81, 3) := by decide +kernel
theorem dL_greatest_7 : decode cL_greatest 7 = .ok (.i2l, 1) := by decide +kernel
theorem dL_greatest_8 : decode cL_greatest 8 = .ok (.lastore, 1) := by decide +kernel
theorem dL_greatest_9 : decode cL_greatest 9 = .ok (.goto 6, 3) := by decide +kernel
theorem dL_greatest_12 : decode cL_greatest 12 = .ok (.astore_n 3, 1) := by decide +kernel
theorem dL_greatest_13 : decode cL_greatest 13 = .ok (.iconst 1, 1) := by decide +kernel
theorem dL_greatest_14 : decode cL_greatest 14 = .ok (.ireturn, 1) := by decide +kernel
theorem dL_greatest_15 : decode cL_greatest 15 = .ok (.iconst 0, 1) := by decide +kernel
theorem dL_greatest_16 : decode cL_greatest 16 = .ok (.ireturn, 1) := by decide +kernel
def rmw_greatest : Room := { frames := 11, cells := 1, slots := 6, locals := 183 }
set_option maxHeartbeats 4000000 in
theorem cw_greatest (l : Launch) {G : zG} {ad : Nat → Nat} {ao : Nat} (hin : wIn ad ao) (M : zMem) (v : Int64) (p0 : Int32) (hl : l.stackTraces = false) {k9 : Nat} {r9 : Int32} {M9 : zMem} (hF : F_X9_greatest M p0 = some (k9, r9, M9)) {kk : Int32} {v' : Int64} (hk : (k9 = 0 ∧ kk = 0 ∧ v' = r9.toInt64) ∨ (k9 = 1 ∧ kk = 1 ∧ v' = v)) : lwM l yL_greatest cL_greatest 4 [(0, 9, 12, 13)] rmw_greatest 1 6 G ad ao M v [.ref (ad 0), .int p0, .ref ao] kk M9 v' := by
  refine lwM_of (by decide +kernel) (lv := [(0, .ref (ad 0)), (1, .int p0), (2, .ref ao)]) (Nat.le_of_ble_eq_true rfl) rfl (fun p e s m args below meth c A cx hr ht hA ho hN hsub => ?_)
  refine l_aload_n cx dL_greatest_0 2 rfl ?_
  refine l_iconst cx dL_greatest_1 ki_0 ?_
  refine l_aload_n cx dL_greatest_2 0 rfl ?_
  refine l_iload_n cx dL_greatest_3 1 rfl ?_
  refine l_callXC (As := [.int p0]) (rest := [.int 0, .ref ao]) cx (c_X9_greatest l hin.1 M p0 hl lT0 hF) lT0 zo_10 lcv_greatest ⟨rfl, rfl, Nat.le_of_ble_eq_true rfl, Nat.le_of_ble_eq_true rfl⟩ rfl rfl ⟨Nat.le_of_ble_eq_true rfl, Nat.le_of_ble_eq_true rfl⟩ (Nat.le_of_ble_eq_true rfl) dL_greatest_4 hin hA (fun hk0 => ?_) (fun hk0 => ?_)
  · rcases hk with ⟨h1, h2, h3⟩ | ⟨h1, h2, h3⟩
    · exact absurd h1 hk0
    subst h1
    refine ⟨12, "java/lang/IllegalArgumentException", [], ⟨0, 9, 12, 13⟩, [], ht, fun z hz => absurd hz List.not_mem_nil, rfl, by decide, cx.1.2.2.2.2 _ lwd_517, va_Nw.use rfl (cx.2.2.1.2.1 _ lwCI), rfl, fun q => ?_⟩
    refine l_astore_n cx 3 [(3, .ref q), (0, .ref (ad 0)), (1, .int p0), (2, .ref ao)] dL_greatest_12 rfl (by decide) rfl ?_
    refine l_iconst cx dL_greatest_13 ki_1 ?_
    exact l_iret cx hr ⟨Nat.le_of_ble_eq_true rfl, Nat.le_of_ble_eq_true rfl⟩ dL_greatest_14 (fun H locs hP hS t ht => ⟨⟨by rw [h2], by rw [ht, h3]; exact hP⟩, hS.F ht⟩)
  · have hz : kk = 0 ∧ v' = r9.toInt64 := by
      rcases hk with ⟨h1, h2, h3⟩ | ⟨h1, h2, h3⟩
      · exact ⟨h2, h3⟩
      · omega
    refine l_i2l cx dL_greatest_7 ?_
    refine l_last cx hin hA ho dL_greatest_8 ?_
    refine l_goto cx 15 dL_greatest_9 (by decide) ?_
    refine l_iconst cx dL_greatest_15 ki_0 ?_
    exact l_iret cx hr ⟨Nat.le_of_ble_eq_true rfl, Nat.le_of_ble_eq_true rfl⟩ dL_greatest_16 (fun H locs hP hS t ht => ⟨⟨by rw [hz.1], by rw [ht, hz.2]; exact hP⟩, hS.F ht⟩)
set_option maxRecDepth 100000 in
theorem lwd_1283 : Cond.methodLink "SunnyPansLaw" 84 yX9_cast ∈ tbG := tw5 223 rfl rfl
set_option maxRecDepth 100000 in
theorem lwd_1284 : Cond.instanceMethod yX9_cast ∈ tbG := tw5 224 rfl rfl
set_option maxRecDepth 100000 in
theorem lwd_1285 : Cond.selects "SunnyPans" yX9_cast yX9_cast ∈ tbG := tw5 225 rfl rfl
set_option maxRecDepth 100000 in
theorem lwd_1286 : Cond.code yX9_cast cX9_cast 6 (some .int) ∈ tbG := tw5 226 rfl rfl
theorem lcv_cast : zCV "SunnyPansLaw" 84 "SunnyPans" yX9_cast cX9_cast 6 (some .int) 3 := zCV_of lwd_1283 lwd_1284 lwd_1285 lwd_101 lwd_1286 (by decide +kernel)
theorem dL_cast_0 : decode cL_cast 0 = .ok (.aload 4, 2) := by decide +kernel
theorem dL_cast_2 : decode cL_cast 2 = .ok (.iconst 0, 1) := by decide +kernel
theorem dL_cast_3 : decode cL_cast 3 = .ok (.aload_n 0, 1) := by decide +kernel
theorem dL_cast_4 : decode cL_cast 4 = .ok (.iload_n 1, 1) := by decide +kernel
theorem dL_cast_5 : decode cL_cast 5 = .ok (.iload_n 2, 1) := by decide +kernel
theorem dL_cast_6 : decode cL_cast 6 = .ok (.iload_n 3, 1) := by decide +kernel
theorem dL_cast_7 : decode cL_cast 7 = .ok (.invokevirtual 84, 3) := by decide +kernel
theorem dL_cast_10 : decode cL_cast 10 = .ok (.i2l, 1) := by decide +kernel
theorem dL_cast_11 : decode cL_cast 11 = .ok (.lastore, 1) := by decide +kernel
theorem dL_cast_12 : decode cL_cast 12 = .ok (.goto 7, 3) := by decide +kernel
theorem dL_cast_15 : decode cL_cast 15 = .ok (.astore 5, 2) := by decide +kernel
theorem dL_cast_17 : decode cL_cast 17 = .ok (.iconst 1, 1) := by decide +kernel
theorem dL_cast_18 : decode cL_cast 18 = .ok (.ireturn, 1) := by decide +kernel
theorem dL_cast_19 : decode cL_cast 19 = .ok (.iconst 0, 1) := by decide +kernel
theorem dL_cast_20 : decode cL_cast 20 = .ok (.ireturn, 1) := by decide +kernel
def rmw_cast : Room := { frames := 12, cells := 2, slots := 12, locals := 208 }
set_option maxHeartbeats 4000000 in
theorem cw_cast (l : Launch) {G : zG} {ad : Nat → Nat} {ao : Nat} (hin : wIn ad ao) (M : zMem) (v : Int64) (p0 : Int32) (p1 : Int32) (p2 : Int32) (hl : l.stackTraces = false) {k9 : Nat} {r9 : Int32} {M9 : zMem} (hF : F_X9_cast M p0 p1 p2 = some (k9, r9, M9)) {kk : Int32} {v' : Int64} (hk : (k9 = 0 ∧ kk = 0 ∧ v' = r9.toInt64) ∨ (k9 = 2 ∧ kk = 1 ∧ v' = v)) : lwM l yL_cast cL_cast 6 [(0, 12, 15, 31)] rmw_cast 2 12 G ad ao M v [.ref (ad 0), .int p0, .int p1, .int p2, .ref ao] kk M9 v' := by
  refine lwM_of (by decide +kernel) (lv := [(0, .ref (ad 0)), (1, .int p0), (2, .int p1), (3, .int p2), (4, .ref ao)]) (Nat.le_of_ble_eq_true rfl) rfl (fun p e s m args below meth c A cx hr ht hA ho hN hsub => ?_)
  refine l_aload cx dL_cast_0 4 rfl ?_
  refine l_iconst cx dL_cast_2 ki_0 ?_
  refine l_aload_n cx dL_cast_3 0 rfl ?_
  refine l_iload_n cx dL_cast_4 1 rfl ?_
  refine l_iload_n cx dL_cast_5 2 rfl ?_
  refine l_iload_n cx dL_cast_6 3 rfl ?_
  refine l_callXC (As := [.int p0, .int p1, .int p2]) (rest := [.int 0, .ref ao]) cx (c_X9_cast l hin.1 M p0 p1 p2 hl lT0 hF) lT0 zo_10 lcv_cast ⟨rfl, rfl, Nat.le_of_ble_eq_true rfl, Nat.le_of_ble_eq_true rfl⟩ rfl rfl ⟨Nat.le_of_ble_eq_true rfl, Nat.le_of_ble_eq_true rfl⟩ (Nat.le_of_ble_eq_true rfl) dL_cast_7 hin hA (fun hk0 => ?_) (fun hk0 => ?_)
  · rcases hk with ⟨h1, h2, h3⟩ | ⟨h1, h2, h3⟩
    · exact absurd h1 hk0
    subst h1
    refine ⟨15, "java/util/NoSuchElementException", [], ⟨0, 12, 15, 31⟩, [], ht, fun z hz => absurd hz List.not_mem_nil, rfl, by decide, cx.1.2.2.2.2 _ lwd_1015, va_Nw.use rfl (cx.2.2.1.2.1 _ lwCN), rfl, fun q => ?_⟩
    refine l_astore cx 5 [(5, .ref q), (0, .ref (ad 0)), (1, .int p0), (2, .int p1), (3, .int p2), (4, .ref ao)] dL_cast_15 (by decide) rfl ?_
    refine l_iconst cx dL_cast_17 ki_1 ?_
    exact l_iret cx hr ⟨Nat.le_of_ble_eq_true rfl, Nat.le_of_ble_eq_true rfl⟩ dL_cast_18 (fun H locs hP hS t ht => ⟨⟨by rw [h2], by rw [ht, h3]; exact hP⟩, hS.F ht⟩)
  · have hz : kk = 0 ∧ v' = r9.toInt64 := by
      rcases hk with ⟨h1, h2, h3⟩ | ⟨h1, h2, h3⟩
      · exact ⟨h2, h3⟩
      · omega
    refine l_i2l cx dL_cast_10 ?_
    refine l_last cx hin hA ho dL_cast_11 ?_
    refine l_goto cx 19 dL_cast_12 (by decide) ?_
    refine l_iconst cx dL_cast_19 ki_0 ?_
    exact l_iret cx hr ⟨Nat.le_of_ble_eq_true rfl, Nat.le_of_ble_eq_true rfl⟩ dL_cast_20 (fun H locs hP hS t ht => ⟨⟨by rw [hz.1], by rw [ht, hz.2]; exact hP⟩, hS.F ht⟩)
set_option maxRecDepth 100000 in
theorem lwd_1291 : Cond.methodLink "SunnyPansLaw" 87 yX9_ready ∈ tbG := tw5 231 rfl rfl
set_option maxRecDepth 100000 in
theorem lwd_1292 : Cond.instanceMethod yX9_ready ∈ tbG := tw5 232 rfl rfl
set_option maxRecDepth 100000 in
theorem lwd_1293 : Cond.selects "SunnyPans" yX9_ready yX9_ready ∈ tbG := tw5 233 rfl rfl
set_option maxRecDepth 100000 in
theorem lwd_1294 : Cond.code yX9_ready cX9_ready 6 (some .int) ∈ tbG := tw5 234 rfl rfl
theorem lcv_ready : zCV "SunnyPansLaw" 87 "SunnyPans" yX9_ready cX9_ready 6 (some .int) 3 := zCV_of lwd_1291 lwd_1292 lwd_1293 lwd_101 lwd_1294 (by decide +kernel)
theorem dL_ready_0 : decode cL_ready 0 = .ok (.aload 4, 2) := by decide +kernel
theorem dL_ready_2 : decode cL_ready 2 = .ok (.iconst 0, 1) := by decide +kernel
theorem dL_ready_3 : decode cL_ready 3 = .ok (.aload_n 0, 1) := by decide +kernel
theorem dL_ready_4 : decode cL_ready 4 = .ok (.iload_n 1, 1) := by decide +kernel
theorem dL_ready_5 : decode cL_ready 5 = .ok (.iload_n 2, 1) := by decide +kernel
theorem dL_ready_6 : decode cL_ready 6 = .ok (.iload_n 3, 1) := by decide +kernel
theorem dL_ready_7 : decode cL_ready 7 = .ok (.invokevirtual 87, 3) := by decide +kernel
theorem dL_ready_10 : decode cL_ready 10 = .ok (.i2l, 1) := by decide +kernel
theorem dL_ready_11 : decode cL_ready 11 = .ok (.lastore, 1) := by decide +kernel
theorem dL_ready_12 : decode cL_ready 12 = .ok (.goto 7, 3) := by decide +kernel
theorem dL_ready_15 : decode cL_ready 15 = .ok (.astore 5, 2) := by decide +kernel
theorem dL_ready_17 : decode cL_ready 17 = .ok (.iconst 1, 1) := by decide +kernel
theorem dL_ready_18 : decode cL_ready 18 = .ok (.ireturn, 1) := by decide +kernel
theorem dL_ready_19 : decode cL_ready 19 = .ok (.iconst 0, 1) := by decide +kernel
theorem dL_ready_20 : decode cL_ready 20 = .ok (.ireturn, 1) := by decide +kernel
def rmw_ready : Room := { frames := 12, cells := 2, slots := 12, locals := 208 }
set_option maxHeartbeats 4000000 in
theorem cw_ready (l : Launch) {G : zG} {ad : Nat → Nat} {ao : Nat} (hin : wIn ad ao) (M : zMem) (v : Int64) (p0 : Int32) (p1 : Int32) (p2 : Int32) (hl : l.stackTraces = false) {k9 : Nat} {r9 : Int32} {M9 : zMem} (hF : F_X9_ready M p0 p1 p2 = some (k9, r9, M9)) {kk : Int32} {v' : Int64} (hk : (k9 = 0 ∧ kk = 0 ∧ v' = r9.toInt64) ∨ (k9 = 2 ∧ kk = 1 ∧ v' = v)) : lwM l yL_ready cL_ready 6 [(0, 12, 15, 31)] rmw_ready 2 12 G ad ao M v [.ref (ad 0), .int p0, .int p1, .int p2, .ref ao] kk M9 v' := by
  refine lwM_of (by decide +kernel) (lv := [(0, .ref (ad 0)), (1, .int p0), (2, .int p1), (3, .int p2), (4, .ref ao)]) (Nat.le_of_ble_eq_true rfl) rfl (fun p e s m args below meth c A cx hr ht hA ho hN hsub => ?_)
  refine l_aload cx dL_ready_0 4 rfl ?_
  refine l_iconst cx dL_ready_2 ki_0 ?_
  refine l_aload_n cx dL_ready_3 0 rfl ?_
  refine l_iload_n cx dL_ready_4 1 rfl ?_
  refine l_iload_n cx dL_ready_5 2 rfl ?_
  refine l_iload_n cx dL_ready_6 3 rfl ?_
  refine l_callXC (As := [.int p0, .int p1, .int p2]) (rest := [.int 0, .ref ao]) cx (c_X9_ready l hin.1 M p0 p1 p2 hl lT0 hF) lT0 zo_10 lcv_ready ⟨rfl, rfl, Nat.le_of_ble_eq_true rfl, Nat.le_of_ble_eq_true rfl⟩ rfl rfl ⟨Nat.le_of_ble_eq_true rfl, Nat.le_of_ble_eq_true rfl⟩ (Nat.le_of_ble_eq_true rfl) dL_ready_7 hin hA (fun hk0 => ?_) (fun hk0 => ?_)
  · rcases hk with ⟨h1, h2, h3⟩ | ⟨h1, h2, h3⟩
    · exact absurd h1 hk0
    subst h1
    refine ⟨15, "java/util/NoSuchElementException", [], ⟨0, 12, 15, 31⟩, [], ht, fun z hz => absurd hz List.not_mem_nil, rfl, by decide, cx.1.2.2.2.2 _ lwd_1015, va_Nw.use rfl (cx.2.2.1.2.1 _ lwCN), rfl, fun q => ?_⟩
    refine l_astore cx 5 [(5, .ref q), (0, .ref (ad 0)), (1, .int p0), (2, .int p1), (3, .int p2), (4, .ref ao)] dL_ready_15 (by decide) rfl ?_
    refine l_iconst cx dL_ready_17 ki_1 ?_
    exact l_iret cx hr ⟨Nat.le_of_ble_eq_true rfl, Nat.le_of_ble_eq_true rfl⟩ dL_ready_18 (fun H locs hP hS t ht => ⟨⟨by rw [h2], by rw [ht, h3]; exact hP⟩, hS.F ht⟩)
  · have hz : kk = 0 ∧ v' = r9.toInt64 := by
      rcases hk with ⟨h1, h2, h3⟩ | ⟨h1, h2, h3⟩
      · exact ⟨h2, h3⟩
      · omega
    refine l_i2l cx dL_ready_10 ?_
    refine l_last cx hin hA ho dL_ready_11 ?_
    refine l_goto cx 19 dL_ready_12 (by decide) ?_
    refine l_iconst cx dL_ready_19 ki_0 ?_
    exact l_iret cx hr ⟨Nat.le_of_ble_eq_true rfl, Nat.le_of_ble_eq_true rfl⟩ dL_ready_20 (fun H locs hP hS t ht => ⟨⟨by rw [hz.1], by rw [ht, hz.2]; exact hP⟩, hS.F ht⟩)
set_option maxRecDepth 100000 in
theorem lwd_1299 : Cond.methodLink "SunnyPansLaw" 90 yX9_line ∈ tbG := tw5 239 rfl rfl
set_option maxRecDepth 100000 in
theorem lwd_1300 : Cond.instanceMethod yX9_line ∈ tbG := tw6 0 rfl rfl
set_option maxRecDepth 100000 in
theorem lwd_1301 : Cond.selects "SunnyPans" yX9_line yX9_line ∈ tbG := tw6 1 rfl rfl
set_option maxRecDepth 100000 in
theorem lwd_1302 : Cond.code yX9_line cX9_line 7 (some .int) ∈ tbG := tw6 2 rfl rfl
theorem lcv_line : zCV "SunnyPansLaw" 90 "SunnyPans" yX9_line cX9_line 7 (some .int) 2 := zCV_of lwd_1299 lwd_1300 lwd_1301 lwd_101 lwd_1302 (by decide +kernel)
theorem dL_line_0 : decode cL_line 0 = .ok (.aload_n 3, 1) := by decide +kernel
theorem dL_line_1 : decode cL_line 1 = .ok (.iconst 0, 1) := by decide +kernel
theorem dL_line_2 : decode cL_line 2 = .ok (.aload_n 0, 1) := by decide +kernel
theorem dL_line_3 : decode cL_line 3 = .ok (.iload_n 1, 1) := by decide +kernel
theorem dL_line_4 : decode cL_line 4 = .ok (.iload_n 2, 1) := by decide +kernel
theorem dL_line_5 : decode cL_line 5 = .ok (.invokevirtual 90, 3) := by decide +kernel
theorem dL_line_8 : decode cL_line 8 = .ok (.i2l, 1) := by decide +kernel
theorem dL_line_9 : decode cL_line 9 = .ok (.lastore, 1) := by decide +kernel
theorem dL_line_10 : decode cL_line 10 = .ok (.goto 7, 3) := by decide +kernel
theorem dL_line_13 : decode cL_line 13 = .ok (.astore 4, 2) := by decide +kernel
theorem dL_line_15 : decode cL_line 15 = .ok (.iconst 1, 1) := by decide +kernel
theorem dL_line_16 : decode cL_line 16 = .ok (.ireturn, 1) := by decide +kernel
theorem dL_line_17 : decode cL_line 17 = .ok (.iconst 0, 1) := by decide +kernel
theorem dL_line_18 : decode cL_line 18 = .ok (.ireturn, 1) := by decide +kernel
def rmw_line : Room := { frames := 11, cells := 2, slots := 12, locals := 187 }
set_option maxHeartbeats 4000000 in
theorem cw_line (l : Launch) {G : zG} {ad : Nat → Nat} {ao : Nat} (hin : wIn ad ao) (M : zMem) (v : Int64) (p0 : Int32) (p1 : Int32) (hl : l.stackTraces = false) {k9 : Nat} {r9 : Int32} {M9 : zMem} (hF : F_X9_line M p0 p1 = some (k9, r9, M9)) {kk : Int32} {v' : Int64} (hk : (k9 = 0 ∧ kk = 0 ∧ v' = r9.toInt64) ∨ (k9 = 1 ∧ kk = 1 ∧ v' = v)) : lwM l yL_line cL_line 5 [(0, 10, 13, 13)] rmw_line 2 12 G ad ao M v [.ref (ad 0), .int p0, .int p1, .ref ao] kk M9 v' := by
  refine lwM_of (by decide +kernel) (lv := [(0, .ref (ad 0)), (1, .int p0), (2, .int p1), (3, .ref ao)]) (Nat.le_of_ble_eq_true rfl) rfl (fun p e s m args below meth c A cx hr ht hA ho hN hsub => ?_)
  refine l_aload_n cx dL_line_0 3 rfl ?_
  refine l_iconst cx dL_line_1 ki_0 ?_
  refine l_aload_n cx dL_line_2 0 rfl ?_
  refine l_iload_n cx dL_line_3 1 rfl ?_
  refine l_iload_n cx dL_line_4 2 rfl ?_
  refine l_callXC (As := [.int p0, .int p1]) (rest := [.int 0, .ref ao]) cx (c_X9_line l hin.1 M p0 p1 hl lT0 hF) lT0 zo_10 lcv_line ⟨rfl, rfl, Nat.le_of_ble_eq_true rfl, Nat.le_of_ble_eq_true rfl⟩ rfl rfl ⟨Nat.le_of_ble_eq_true rfl, Nat.le_of_ble_eq_true rfl⟩ (Nat.le_of_ble_eq_true rfl) dL_line_5 hin hA (fun hk0 => ?_) (fun hk0 => ?_)
  · rcases hk with ⟨h1, h2, h3⟩ | ⟨h1, h2, h3⟩
    · exact absurd h1 hk0
    subst h1
    refine ⟨13, "java/lang/IllegalArgumentException", [], ⟨0, 10, 13, 13⟩, [], ht, fun z hz => absurd hz List.not_mem_nil, rfl, by decide, cx.1.2.2.2.2 _ lwd_517, va_Nw.use rfl (cx.2.2.1.2.1 _ lwCI), rfl, fun q => ?_⟩
    refine l_astore cx 4 [(4, .ref q), (0, .ref (ad 0)), (1, .int p0), (2, .int p1), (3, .ref ao)] dL_line_13 (by decide) rfl ?_
    refine l_iconst cx dL_line_15 ki_1 ?_
    exact l_iret cx hr ⟨Nat.le_of_ble_eq_true rfl, Nat.le_of_ble_eq_true rfl⟩ dL_line_16 (fun H locs hP hS t ht => ⟨⟨by rw [h2], by rw [ht, h3]; exact hP⟩, hS.F ht⟩)
  · have hz : kk = 0 ∧ v' = r9.toInt64 := by
      rcases hk with ⟨h1, h2, h3⟩ | ⟨h1, h2, h3⟩
      · exact ⟨h2, h3⟩
      · omega
    refine l_i2l cx dL_line_8 ?_
    refine l_last cx hin hA ho dL_line_9 ?_
    refine l_goto cx 17 dL_line_10 (by decide) ?_
    refine l_iconst cx dL_line_17 ki_0 ?_
    exact l_iret cx hr ⟨Nat.le_of_ble_eq_true rfl, Nat.le_of_ble_eq_true rfl⟩ dL_line_18 (fun H locs hP hS t ht => ⟨⟨by rw [hz.1], by rw [ht, hz.2]; exact hP⟩, hS.F ht⟩)
set_option maxRecDepth 100000 in
theorem lwd_1306 : Cond.methodLink "SunnyPansLaw" 93 yX9_dryland ∈ tbG := tw6 6 rfl rfl
set_option maxRecDepth 100000 in
theorem lwd_1307 : Cond.instanceMethod yX9_dryland ∈ tbG := tw6 7 rfl rfl
set_option maxRecDepth 100000 in
theorem lwd_1308 : Cond.selects "SunnyPans" yX9_dryland yX9_dryland ∈ tbG := tw6 8 rfl rfl
set_option maxRecDepth 100000 in
theorem lwd_1309 : Cond.code yX9_dryland cX9_dryland 8 (some .int) ∈ tbG := tw6 9 rfl rfl
theorem lcv_dryland : zCV "SunnyPansLaw" 93 "SunnyPans" yX9_dryland cX9_dryland 8 (some .int) 2 := zCV_of lwd_1306 lwd_1307 lwd_1308 lwd_101 lwd_1309 (by decide +kernel)
theorem dL_dryland_0 : decode cL_dryland 0 = .ok (.aload_n 3, 1) := by decide +kernel
theorem dL_dryland_1 : decode cL_dryland 1 = .ok (.iconst 0, 1) := by decide +kernel
theorem dL_dryland_2 : decode cL_dryland 2 = .ok (.aload_n 0, 1) := by decide +kernel
theorem dL_dryland_3 : decode cL_dryland 3 = .ok (.iload_n 1, 1) := by decide +kernel
theorem dL_dryland_4 : decode cL_dryland 4 = .ok (.iload_n 2, 1) := by decide +kernel
theorem dL_dryland_5 : decode cL_dryland 5 = .ok (.invokevirtual 93, 3) := by decide +kernel
theorem dL_dryland_8 : decode cL_dryland 8 = .ok (.i2l, 1) := by decide +kernel
theorem dL_dryland_9 : decode cL_dryland 9 = .ok (.lastore, 1) := by decide +kernel
theorem dL_dryland_10 : decode cL_dryland 10 = .ok (.goto 7, 3) := by decide +kernel
theorem dL_dryland_13 : decode cL_dryland 13 = .ok (.astore 4, 2) := by decide +kernel
theorem dL_dryland_15 : decode cL_dryland 15 = .ok (.iconst 1, 1) := by decide +kernel
theorem dL_dryland_16 : decode cL_dryland 16 = .ok (.ireturn, 1) := by decide +kernel
theorem dL_dryland_17 : decode cL_dryland 17 = .ok (.iconst 0, 1) := by decide +kernel
theorem dL_dryland_18 : decode cL_dryland 18 = .ok (.ireturn, 1) := by decide +kernel
def rmw_dryland : Room := { frames := 12, cells := 1, slots := 6, locals := 210 }
set_option maxHeartbeats 4000000 in
theorem cw_dryland (l : Launch) {G : zG} {ad : Nat → Nat} {ao : Nat} (hin : wIn ad ao) (M : zMem) (v : Int64) (p0 : Int32) (p1 : Int32) (hl : l.stackTraces = false) {k9 : Nat} {r9 : Int32} {M9 : zMem} (hF : F_X9_dryland M p0 p1 = some (k9, r9, M9)) {kk : Int32} {v' : Int64} (hk : (k9 = 0 ∧ kk = 0 ∧ v' = r9.toInt64) ∨ (k9 = 2 ∧ kk = 1 ∧ v' = v)) : lwM l yL_dryland cL_dryland 5 [(0, 10, 13, 31)] rmw_dryland 1 6 G ad ao M v [.ref (ad 0), .int p0, .int p1, .ref ao] kk M9 v' := by
  refine lwM_of (by decide +kernel) (lv := [(0, .ref (ad 0)), (1, .int p0), (2, .int p1), (3, .ref ao)]) (Nat.le_of_ble_eq_true rfl) rfl (fun p e s m args below meth c A cx hr ht hA ho hN hsub => ?_)
  refine l_aload_n cx dL_dryland_0 3 rfl ?_
  refine l_iconst cx dL_dryland_1 ki_0 ?_
  refine l_aload_n cx dL_dryland_2 0 rfl ?_
  refine l_iload_n cx dL_dryland_3 1 rfl ?_
  refine l_iload_n cx dL_dryland_4 2 rfl ?_
  refine l_callXC (As := [.int p0, .int p1]) (rest := [.int 0, .ref ao]) cx (c_X9_dryland l hin.1 M p0 p1 hl lT0 hF) lT0 zo_10 lcv_dryland ⟨rfl, rfl, Nat.le_of_ble_eq_true rfl, Nat.le_of_ble_eq_true rfl⟩ rfl rfl ⟨Nat.le_of_ble_eq_true rfl, Nat.le_of_ble_eq_true rfl⟩ (Nat.le_of_ble_eq_true rfl) dL_dryland_5 hin hA (fun hk0 => ?_) (fun hk0 => ?_)
  · rcases hk with ⟨h1, h2, h3⟩ | ⟨h1, h2, h3⟩
    · exact absurd h1 hk0
    subst h1
    refine ⟨13, "java/util/NoSuchElementException", [], ⟨0, 10, 13, 31⟩, [], ht, fun z hz => absurd hz List.not_mem_nil, rfl, by decide, cx.1.2.2.2.2 _ lwd_1015, va_Nw.use rfl (cx.2.2.1.2.1 _ lwCN), rfl, fun q => ?_⟩
    refine l_astore cx 4 [(4, .ref q), (0, .ref (ad 0)), (1, .int p0), (2, .int p1), (3, .ref ao)] dL_dryland_13 (by decide) rfl ?_
    refine l_iconst cx dL_dryland_15 ki_1 ?_
    exact l_iret cx hr ⟨Nat.le_of_ble_eq_true rfl, Nat.le_of_ble_eq_true rfl⟩ dL_dryland_16 (fun H locs hP hS t ht => ⟨⟨by rw [h2], by rw [ht, h3]; exact hP⟩, hS.F ht⟩)
  · have hz : kk = 0 ∧ v' = r9.toInt64 := by
      rcases hk with ⟨h1, h2, h3⟩ | ⟨h1, h2, h3⟩
      · exact ⟨h2, h3⟩
      · omega
    refine l_i2l cx dL_dryland_8 ?_
    refine l_last cx hin hA ho dL_dryland_9 ?_
    refine l_goto cx 17 dL_dryland_10 (by decide) ?_
    refine l_iconst cx dL_dryland_17 ki_0 ?_
    exact l_iret cx hr ⟨Nat.le_of_ble_eq_true rfl, Nat.le_of_ble_eq_true rfl⟩ dL_dryland_18 (fun H locs hP hS t ht => ⟨⟨by rw [hz.1], by rw [ht, hz.2]; exact hP⟩, hS.F ht⟩)
set_option maxRecDepth 100000 in
theorem lwd_1313 : Cond.methodLink "SunnyPansLaw" 96 yX9_mounds ∈ tbG := tw6 13 rfl rfl
set_option maxRecDepth 100000 in
theorem lwd_1314 : Cond.instanceMethod yX9_mounds ∈ tbG := tw6 14 rfl rfl
set_option maxRecDepth 100000 in
theorem lwd_1315 : Cond.selects "SunnyPans" yX9_mounds yX9_mounds ∈ tbG := tw6 15 rfl rfl
set_option maxRecDepth 100000 in
theorem lwd_1316 : Cond.code yX9_mounds cX9_mounds 2 (some .int) ∈ tbG := tw6 16 rfl rfl
theorem lcv_mounds : zCV "SunnyPansLaw" 96 "SunnyPans" yX9_mounds cX9_mounds 2 (some .int) 1 := zCV_of lwd_1313 lwd_1314 lwd_1315 lwd_101 lwd_1316 (by decide +kernel)
theorem dL_mounds_0 : decode cL_mounds 0 = .ok (.aload_n 2, 1) := by decide +kernel
theorem dL_mounds_1 : decode cL_mounds 1 = .ok (.iconst 0, 1) := by decide +kernel
theorem dL_mounds_2 : decode cL_mounds 2 = .ok (.aload_n 0, 1) := by decide +kernel
theorem dL_mounds_3 : decode cL_mounds 3 = .ok (.iload_n 1, 1) := by decide +kernel
theorem dL_mounds_4 : decode cL_mounds 4 = .ok (.invokevirtual 96, 3) := by decide +kernel
theorem dL_mounds_7 : decode cL_mounds 7 = .ok (.i2l, 1) := by decide +kernel
theorem dL_mounds_8 : decode cL_mounds 8 = .ok (.lastore, 1) := by decide +kernel
theorem dL_mounds_9 : decode cL_mounds 9 = .ok (.goto 6, 3) := by decide +kernel
theorem dL_mounds_12 : decode cL_mounds 12 = .ok (.astore_n 3, 1) := by decide +kernel
theorem dL_mounds_13 : decode cL_mounds 13 = .ok (.iconst 1, 1) := by decide +kernel
theorem dL_mounds_14 : decode cL_mounds 14 = .ok (.ireturn, 1) := by decide +kernel
theorem dL_mounds_15 : decode cL_mounds 15 = .ok (.iconst 0, 1) := by decide +kernel
theorem dL_mounds_16 : decode cL_mounds 16 = .ok (.ireturn, 1) := by decide +kernel
def rmw_mounds : Room := { frames := 12, cells := 1, slots := 6, locals := 203 }
set_option maxHeartbeats 4000000 in
theorem cw_mounds (l : Launch) {G : zG} {ad : Nat → Nat} {ao : Nat} (hin : wIn ad ao) (M : zMem) (v : Int64) (p0 : Int32) (hl : l.stackTraces = false) {k9 : Nat} {r9 : Int32} {M9 : zMem} (hF : F_X9_mounds M p0 = some (k9, r9, M9)) {kk : Int32} {v' : Int64} (hk : (k9 = 0 ∧ kk = 0 ∧ v' = r9.toInt64) ∨ (k9 = 2 ∧ kk = 1 ∧ v' = v)) : lwM l yL_mounds cL_mounds 4 [(0, 9, 12, 31)] rmw_mounds 1 6 G ad ao M v [.ref (ad 0), .int p0, .ref ao] kk M9 v' := by
  refine lwM_of (by decide +kernel) (lv := [(0, .ref (ad 0)), (1, .int p0), (2, .ref ao)]) (Nat.le_of_ble_eq_true rfl) rfl (fun p e s m args below meth c A cx hr ht hA ho hN hsub => ?_)
  refine l_aload_n cx dL_mounds_0 2 rfl ?_
  refine l_iconst cx dL_mounds_1 ki_0 ?_
  refine l_aload_n cx dL_mounds_2 0 rfl ?_
  refine l_iload_n cx dL_mounds_3 1 rfl ?_
  refine l_callXC (As := [.int p0]) (rest := [.int 0, .ref ao]) cx (c_X9_mounds l hin.1 M p0 hl lT0 hF) lT0 zo_10 lcv_mounds ⟨rfl, rfl, Nat.le_of_ble_eq_true rfl, Nat.le_of_ble_eq_true rfl⟩ rfl rfl ⟨Nat.le_of_ble_eq_true rfl, Nat.le_of_ble_eq_true rfl⟩ (Nat.le_of_ble_eq_true rfl) dL_mounds_4 hin hA (fun hk0 => ?_) (fun hk0 => ?_)
  · rcases hk with ⟨h1, h2, h3⟩ | ⟨h1, h2, h3⟩
    · exact absurd h1 hk0
    subst h1
    refine ⟨12, "java/util/NoSuchElementException", [], ⟨0, 9, 12, 31⟩, [], ht, fun z hz => absurd hz List.not_mem_nil, rfl, by decide, cx.1.2.2.2.2 _ lwd_1015, va_Nw.use rfl (cx.2.2.1.2.1 _ lwCN), rfl, fun q => ?_⟩
    refine l_astore_n cx 3 [(3, .ref q), (0, .ref (ad 0)), (1, .int p0), (2, .ref ao)] dL_mounds_12 rfl (by decide) rfl ?_
    refine l_iconst cx dL_mounds_13 ki_1 ?_
    exact l_iret cx hr ⟨Nat.le_of_ble_eq_true rfl, Nat.le_of_ble_eq_true rfl⟩ dL_mounds_14 (fun H locs hP hS t ht => ⟨⟨by rw [h2], by rw [ht, h3]; exact hP⟩, hS.F ht⟩)
  · have hz : kk = 0 ∧ v' = r9.toInt64 := by
      rcases hk with ⟨h1, h2, h3⟩ | ⟨h1, h2, h3⟩
      · exact ⟨h2, h3⟩
      · omega
    refine l_i2l cx dL_mounds_7 ?_
    refine l_last cx hin hA ho dL_mounds_8 ?_
    refine l_goto cx 15 dL_mounds_9 (by decide) ?_
    refine l_iconst cx dL_mounds_15 ki_0 ?_
    exact l_iret cx hr ⟨Nat.le_of_ble_eq_true rfl, Nat.le_of_ble_eq_true rfl⟩ dL_mounds_16 (fun H locs hP hS t ht => ⟨⟨by rw [hz.1], by rw [ht, hz.2]; exact hP⟩, hS.F ht⟩)
set_option maxRecDepth 100000 in
theorem lwd_1320 : Cond.methodLink "SunnyPansLaw" 99 yX9_loss ∈ tbG := tw6 20 rfl rfl
set_option maxRecDepth 100000 in
theorem lwd_1321 : Cond.instanceMethod yX9_loss ∈ tbG := tw6 21 rfl rfl
set_option maxRecDepth 100000 in
theorem lwd_1322 : Cond.selects "SunnyPans" yX9_loss yX9_loss ∈ tbG := tw6 22 rfl rfl
set_option maxRecDepth 100000 in
theorem lwd_1323 : Cond.code yX9_loss cX9_loss 2 (some .int) ∈ tbG := tw6 23 rfl rfl
theorem lcv_loss : zCV "SunnyPansLaw" 99 "SunnyPans" yX9_loss cX9_loss 2 (some .int) 1 := zCV_of lwd_1320 lwd_1321 lwd_1322 lwd_101 lwd_1323 (by decide +kernel)
theorem dL_loss_0 : decode cL_loss 0 = .ok (.aload_n 2, 1) := by decide +kernel
theorem dL_loss_1 : decode cL_loss 1 = .ok (.iconst 0, 1) := by decide +kernel
theorem dL_loss_2 : decode cL_loss 2 = .ok (.aload_n 0, 1) := by decide +kernel
theorem dL_loss_3 : decode cL_loss 3 = .ok (.iload_n 1, 1) := by decide +kernel
theorem dL_loss_4 : decode cL_loss 4 = .ok (.invokevirtual 99, 3) := by decide +kernel
theorem dL_loss_7 : decode cL_loss 7 = .ok (.i2l, 1) := by decide +kernel
theorem dL_loss_8 : decode cL_loss 8 = .ok (.lastore, 1) := by decide +kernel
theorem dL_loss_9 : decode cL_loss 9 = .ok (.goto 6, 3) := by decide +kernel
theorem dL_loss_12 : decode cL_loss 12 = .ok (.astore_n 3, 1) := by decide +kernel
theorem dL_loss_13 : decode cL_loss 13 = .ok (.iconst 1, 1) := by decide +kernel
theorem dL_loss_14 : decode cL_loss 14 = .ok (.ireturn, 1) := by decide +kernel
theorem dL_loss_15 : decode cL_loss 15 = .ok (.iconst 0, 1) := by decide +kernel
theorem dL_loss_16 : decode cL_loss 16 = .ok (.ireturn, 1) := by decide +kernel
def rmw_loss : Room := { frames := 12, cells := 1, slots := 6, locals := 203 }
set_option maxHeartbeats 4000000 in
theorem cw_loss (l : Launch) {G : zG} {ad : Nat → Nat} {ao : Nat} (hin : wIn ad ao) (M : zMem) (v : Int64) (p0 : Int32) (hl : l.stackTraces = false) {k9 : Nat} {r9 : Int32} {M9 : zMem} (hF : F_X9_loss M p0 = some (k9, r9, M9)) {kk : Int32} {v' : Int64} (hk : (k9 = 0 ∧ kk = 0 ∧ v' = r9.toInt64) ∨ (k9 = 2 ∧ kk = 1 ∧ v' = v)) : lwM l yL_loss cL_loss 4 [(0, 9, 12, 31)] rmw_loss 1 6 G ad ao M v [.ref (ad 0), .int p0, .ref ao] kk M9 v' := by
  refine lwM_of (by decide +kernel) (lv := [(0, .ref (ad 0)), (1, .int p0), (2, .ref ao)]) (Nat.le_of_ble_eq_true rfl) rfl (fun p e s m args below meth c A cx hr ht hA ho hN hsub => ?_)
  refine l_aload_n cx dL_loss_0 2 rfl ?_
  refine l_iconst cx dL_loss_1 ki_0 ?_
  refine l_aload_n cx dL_loss_2 0 rfl ?_
  refine l_iload_n cx dL_loss_3 1 rfl ?_
  refine l_callXC (As := [.int p0]) (rest := [.int 0, .ref ao]) cx (c_X9_loss l hin.1 M p0 hl lT0 hF) lT0 zo_10 lcv_loss ⟨rfl, rfl, Nat.le_of_ble_eq_true rfl, Nat.le_of_ble_eq_true rfl⟩ rfl rfl ⟨Nat.le_of_ble_eq_true rfl, Nat.le_of_ble_eq_true rfl⟩ (Nat.le_of_ble_eq_true rfl) dL_loss_4 hin hA (fun hk0 => ?_) (fun hk0 => ?_)
  · rcases hk with ⟨h1, h2, h3⟩ | ⟨h1, h2, h3⟩
    · exact absurd h1 hk0
    subst h1
    refine ⟨12, "java/util/NoSuchElementException", [], ⟨0, 9, 12, 31⟩, [], ht, fun z hz => absurd hz List.not_mem_nil, rfl, by decide, cx.1.2.2.2.2 _ lwd_1015, va_Nw.use rfl (cx.2.2.1.2.1 _ lwCN), rfl, fun q => ?_⟩
    refine l_astore_n cx 3 [(3, .ref q), (0, .ref (ad 0)), (1, .int p0), (2, .ref ao)] dL_loss_12 rfl (by decide) rfl ?_
    refine l_iconst cx dL_loss_13 ki_1 ?_
    exact l_iret cx hr ⟨Nat.le_of_ble_eq_true rfl, Nat.le_of_ble_eq_true rfl⟩ dL_loss_14 (fun H locs hP hS t ht => ⟨⟨by rw [h2], by rw [ht, h3]; exact hP⟩, hS.F ht⟩)
  · have hz : kk = 0 ∧ v' = r9.toInt64 := by
      rcases hk with ⟨h1, h2, h3⟩ | ⟨h1, h2, h3⟩
      · exact ⟨h2, h3⟩
      · omega
    refine l_i2l cx dL_loss_7 ?_
    refine l_last cx hin hA ho dL_loss_8 ?_
    refine l_goto cx 15 dL_loss_9 (by decide) ?_
    refine l_iconst cx dL_loss_15 ki_0 ?_
    exact l_iret cx hr ⟨Nat.le_of_ble_eq_true rfl, Nat.le_of_ble_eq_true rfl⟩ dL_loss_16 (fun H locs hP hS t ht => ⟨⟨by rw [hz.1], by rw [ht, hz.2]; exact hP⟩, hS.F ht⟩)
set_option maxRecDepth 100000 in
theorem lwd_1331 : Cond.methodLink "SunnyPansLaw" 102 yX9_nearest ∈ tbG := tw6 31 rfl rfl
set_option maxRecDepth 100000 in
theorem lwd_1332 : Cond.instanceMethod yX9_nearest ∈ tbG := tw6 32 rfl rfl
set_option maxRecDepth 100000 in
theorem lwd_1333 : Cond.selects "SunnyPans" yX9_nearest yX9_nearest ∈ tbG := tw6 33 rfl rfl
set_option maxRecDepth 100000 in
theorem lwd_1334 : Cond.code yX9_nearest cX9_nearest 4 (some .int) ∈ tbG := tw6 34 rfl rfl
theorem lcv_nearest : zCV "SunnyPansLaw" 102 "SunnyPans" yX9_nearest cX9_nearest 4 (some .int) 2 := zCV_of lwd_1331 lwd_1332 lwd_1333 lwd_101 lwd_1334 (by decide +kernel)
theorem dL_nearest_0 : decode cL_nearest 0 = .ok (.aload_n 3, 1) := by decide +kernel
theorem dL_nearest_1 : decode cL_nearest 1 = .ok (.iconst 0, 1) := by decide +kernel
theorem dL_nearest_2 : decode cL_nearest 2 = .ok (.aload_n 0, 1) := by decide +kernel
theorem dL_nearest_3 : decode cL_nearest 3 = .ok (.iload_n 1, 1) := by decide +kernel
theorem dL_nearest_4 : decode cL_nearest 4 = .ok (.iload_n 2, 1) := by decide +kernel
theorem dL_nearest_5 : decode cL_nearest 5 = .ok (.invokevirtual 102, 3) := by decide +kernel
theorem dL_nearest_8 : decode cL_nearest 8 = .ok (.i2l, 1) := by decide +kernel
theorem dL_nearest_9 : decode cL_nearest 9 = .ok (.lastore, 1) := by decide +kernel
theorem dL_nearest_10 : decode cL_nearest 10 = .ok (.goto 7, 3) := by decide +kernel
theorem dL_nearest_13 : decode cL_nearest 13 = .ok (.astore 4, 2) := by decide +kernel
theorem dL_nearest_15 : decode cL_nearest 15 = .ok (.iconst 1, 1) := by decide +kernel
theorem dL_nearest_16 : decode cL_nearest 16 = .ok (.ireturn, 1) := by decide +kernel
theorem dL_nearest_17 : decode cL_nearest 17 = .ok (.iconst 0, 1) := by decide +kernel
theorem dL_nearest_18 : decode cL_nearest 18 = .ok (.ireturn, 1) := by decide +kernel
def rmw_nearest : Room := { frames := 12, cells := 1, slots := 6, locals := 206 }
set_option maxHeartbeats 4000000 in
theorem cw_nearest (l : Launch) {G : zG} {ad : Nat → Nat} {ao : Nat} (hin : wIn ad ao) (M : zMem) (v : Int64) (p0 : Int32) (p1 : Int32) (hl : l.stackTraces = false) {k9 : Nat} {r9 : Int32} {M9 : zMem} (hF : F_X9_nearest M p0 p1 = some (k9, r9, M9)) {kk : Int32} {v' : Int64} (hk : (k9 = 0 ∧ kk = 0 ∧ v' = r9.toInt64) ∨ (k9 = 2 ∧ kk = 1 ∧ v' = v)) : lwM l yL_nearest cL_nearest 5 [(0, 10, 13, 31)] rmw_nearest 1 6 G ad ao M v [.ref (ad 0), .int p0, .int p1, .ref ao] kk M9 v' := by
  refine lwM_of (by decide +kernel) (lv := [(0, .ref (ad 0)), (1, .int p0), (2, .int p1), (3, .ref ao)]) (Nat.le_of_ble_eq_true rfl) rfl (fun p e s m args below meth c A cx hr ht hA ho hN hsub => ?_)
  refine l_aload_n cx dL_nearest_0 3 rfl ?_
  refine l_iconst cx dL_nearest_1 ki_0 ?_
  refine l_aload_n cx dL_nearest_2 0 rfl ?_
  refine l_iload_n cx dL_nearest_3 1 rfl ?_
  refine l_iload_n cx dL_nearest_4 2 rfl ?_
  refine l_callXC (As := [.int p0, .int p1]) (rest := [.int 0, .ref ao]) cx (c_X9_nearest l hin.1 M p0 p1 hl lT0 hF) lT0 zo_10 lcv_nearest ⟨rfl, rfl, Nat.le_of_ble_eq_true rfl, Nat.le_of_ble_eq_true rfl⟩ rfl rfl ⟨Nat.le_of_ble_eq_true rfl, Nat.le_of_ble_eq_true rfl⟩ (Nat.le_of_ble_eq_true rfl) dL_nearest_5 hin hA (fun hk0 => ?_) (fun hk0 => ?_)
  · rcases hk with ⟨h1, h2, h3⟩ | ⟨h1, h2, h3⟩
    · exact absurd h1 hk0
    subst h1
    refine ⟨13, "java/util/NoSuchElementException", [], ⟨0, 10, 13, 31⟩, [], ht, fun z hz => absurd hz List.not_mem_nil, rfl, by decide, cx.1.2.2.2.2 _ lwd_1015, va_Nw.use rfl (cx.2.2.1.2.1 _ lwCN), rfl, fun q => ?_⟩
    refine l_astore cx 4 [(4, .ref q), (0, .ref (ad 0)), (1, .int p0), (2, .int p1), (3, .ref ao)] dL_nearest_13 (by decide) rfl ?_
    refine l_iconst cx dL_nearest_15 ki_1 ?_
    exact l_iret cx hr ⟨Nat.le_of_ble_eq_true rfl, Nat.le_of_ble_eq_true rfl⟩ dL_nearest_16 (fun H locs hP hS t ht => ⟨⟨by rw [h2], by rw [ht, h3]; exact hP⟩, hS.F ht⟩)
  · have hz : kk = 0 ∧ v' = r9.toInt64 := by
      rcases hk with ⟨h1, h2, h3⟩ | ⟨h1, h2, h3⟩
      · exact ⟨h2, h3⟩
      · omega
    refine l_i2l cx dL_nearest_8 ?_
    refine l_last cx hin hA ho dL_nearest_9 ?_
    refine l_goto cx 17 dL_nearest_10 (by decide) ?_
    refine l_iconst cx dL_nearest_17 ki_0 ?_
    exact l_iret cx hr ⟨Nat.le_of_ble_eq_true rfl, Nat.le_of_ble_eq_true rfl⟩ dL_nearest_18 (fun H locs hP hS t ht => ⟨⟨by rw [hz.1], by rw [ht, hz.2]; exact hP⟩, hS.F ht⟩)
set_option maxRecDepth 100000 in
theorem lwd_1341 : Cond.methodLink "SunnyPansLaw" 105 yX9_poured ∈ tbG := tw6 41 rfl rfl
set_option maxRecDepth 100000 in
theorem lwd_1342 : Cond.instanceMethod yX9_poured ∈ tbG := tw6 42 rfl rfl
set_option maxRecDepth 100000 in
theorem lwd_1343 : Cond.selects "SunnyPans" yX9_poured yX9_poured ∈ tbG := tw6 43 rfl rfl
set_option maxRecDepth 100000 in
theorem lwd_1344 : Cond.code yX9_poured cX9_poured 6 (some .int) ∈ tbG := tw6 44 rfl rfl
theorem lcv_poured : zCV "SunnyPansLaw" 105 "SunnyPans" yX9_poured cX9_poured 6 (some .int) 3 := zCV_of lwd_1341 lwd_1342 lwd_1343 lwd_101 lwd_1344 (by decide +kernel)
theorem dL_poured_0 : decode cL_poured 0 = .ok (.aload 4, 2) := by decide +kernel
theorem dL_poured_2 : decode cL_poured 2 = .ok (.iconst 0, 1) := by decide +kernel
theorem dL_poured_3 : decode cL_poured 3 = .ok (.aload_n 0, 1) := by decide +kernel
theorem dL_poured_4 : decode cL_poured 4 = .ok (.iload_n 1, 1) := by decide +kernel
theorem dL_poured_5 : decode cL_poured 5 = .ok (.iload_n 2, 1) := by decide +kernel
theorem dL_poured_6 : decode cL_poured 6 = .ok (.iload_n 3, 1) := by decide +kernel
theorem dL_poured_7 : decode cL_poured 7 = .ok (.invokevirtual 105, 3) := by decide +kernel
theorem dL_poured_10 : decode cL_poured 10 = .ok (.i2l, 1) := by decide +kernel
theorem dL_poured_11 : decode cL_poured 11 = .ok (.lastore, 1) := by decide +kernel
theorem dL_poured_12 : decode cL_poured 12 = .ok (.goto 11, 3) := by decide +kernel
theorem dL_poured_15 : decode cL_poured 15 = .ok (.astore 5, 2) := by decide +kernel
theorem dL_poured_17 : decode cL_poured 17 = .ok (.iconst 1, 1) := by decide +kernel
theorem dL_poured_18 : decode cL_poured 18 = .ok (.ireturn, 1) := by decide +kernel
theorem dL_poured_19 : decode cL_poured 19 = .ok (.astore 5, 2) := by decide +kernel
theorem dL_poured_21 : decode cL_poured 21 = .ok (.iconst 2, 1) := by decide +kernel
theorem dL_poured_22 : decode cL_poured 22 = .ok (.ireturn, 1) := by decide +kernel
theorem dL_poured_23 : decode cL_poured 23 = .ok (.iconst 0, 1) := by decide +kernel
theorem dL_poured_24 : decode cL_poured 24 = .ok (.ireturn, 1) := by decide +kernel
def rmw_poured : Room := { frames := 12, cells := 2, slots := 12, locals := 208 }
set_option maxHeartbeats 4000000 in
theorem cw_poured (l : Launch) {G : zG} {ad : Nat → Nat} {ao : Nat} (hin : wIn ad ao) (M : zMem) (v : Int64) (p0 : Int32) (p1 : Int32) (p2 : Int32) (hl : l.stackTraces = false) {k9 : Nat} {r9 : Int32} {M9 : zMem} (hF : F_X9_poured M p0 p1 p2 = some (k9, r9, M9)) {kk : Int32} {v' : Int64} (hk : (k9 = 0 ∧ kk = 0 ∧ v' = r9.toInt64) ∨ (k9 = 2 ∧ kk = 1 ∧ v' = v) ∨ (k9 = 1 ∧ kk = 2 ∧ v' = v)) : lwM l yL_poured cL_poured 6 [(0, 12, 15, 31), (0, 12, 19, 13)] rmw_poured 2 12 G ad ao M v [.ref (ad 0), .int p0, .int p1, .int p2, .ref ao] kk M9 v' := by
  refine lwM_of (by decide +kernel) (lv := [(0, .ref (ad 0)), (1, .int p0), (2, .int p1), (3, .int p2), (4, .ref ao)]) (Nat.le_of_ble_eq_true rfl) rfl (fun p e s m args below meth c A cx hr ht hA ho hN hsub => ?_)
  refine l_aload cx dL_poured_0 4 rfl ?_
  refine l_iconst cx dL_poured_2 ki_0 ?_
  refine l_aload_n cx dL_poured_3 0 rfl ?_
  refine l_iload_n cx dL_poured_4 1 rfl ?_
  refine l_iload_n cx dL_poured_5 2 rfl ?_
  refine l_iload_n cx dL_poured_6 3 rfl ?_
  refine l_callXC (As := [.int p0, .int p1, .int p2]) (rest := [.int 0, .ref ao]) cx (c_X9_poured l hin.1 M p0 p1 p2 hl lT0 hF) lT0 zo_10 lcv_poured ⟨rfl, rfl, Nat.le_of_ble_eq_true rfl, Nat.le_of_ble_eq_true rfl⟩ rfl rfl ⟨Nat.le_of_ble_eq_true rfl, Nat.le_of_ble_eq_true rfl⟩ (Nat.le_of_ble_eq_true rfl) dL_poured_7 hin hA (fun hk0 => ?_) (fun hk0 => ?_)
  · rcases hk with ⟨h1, h2, h3⟩ | ⟨h1, h2, h3⟩ | ⟨h1, h2, h3⟩
    · exact absurd h1 hk0
    · subst h1
      refine ⟨15, "java/util/NoSuchElementException", [], ⟨0, 12, 15, 31⟩, [⟨0, 12, 19, 13⟩], ht, fun z hz => absurd hz List.not_mem_nil, rfl, by decide, cx.1.2.2.2.2 _ lwd_1015, va_Nw.use rfl (cx.2.2.1.2.1 _ lwCN), rfl, fun q => ?_⟩
      refine l_astore cx 5 [(5, .ref q), (0, .ref (ad 0)), (1, .int p0), (2, .int p1), (3, .int p2), (4, .ref ao)] dL_poured_15 (by decide) rfl ?_
      refine l_iconst cx dL_poured_17 ki_1 ?_
      exact l_iret cx hr ⟨Nat.le_of_ble_eq_true rfl, Nat.le_of_ble_eq_true rfl⟩ dL_poured_18 (fun H locs hP hS t ht => ⟨⟨by rw [h2], by rw [ht, h3]; exact hP⟩, hS.F ht⟩)
    · subst h1
      refine ⟨19, "java/lang/IllegalArgumentException", [⟨0, 12, 15, 31⟩], ⟨0, 12, 19, 13⟩, [], ht, fun z hz => by
        cases List.mem_singleton.mp hz
        exact Or.inr ⟨by decide, _, cx.1.2.2.2.2 _ lwd_1015, hN⟩, rfl, by decide, cx.1.2.2.2.2 _ lwd_517, va_Nw.use rfl (cx.2.2.1.2.1 _ lwCI), rfl, fun q => ?_⟩
      refine l_astore cx 5 [(5, .ref q), (0, .ref (ad 0)), (1, .int p0), (2, .int p1), (3, .int p2), (4, .ref ao)] dL_poured_19 (by decide) rfl ?_
      refine l_iconst cx dL_poured_21 ki_2 ?_
      exact l_iret cx hr ⟨Nat.le_of_ble_eq_true rfl, Nat.le_of_ble_eq_true rfl⟩ dL_poured_22 (fun H locs hP hS t ht => ⟨⟨by rw [h2], by rw [ht, h3]; exact hP⟩, hS.F ht⟩)
  · have hz : kk = 0 ∧ v' = r9.toInt64 := by
      rcases hk with ⟨h1, h2, h3⟩ | ⟨h1, h2, h3⟩ | ⟨h1, h2, h3⟩
      · exact ⟨h2, h3⟩
      · omega
      · omega
    refine l_i2l cx dL_poured_10 ?_
    refine l_last cx hin hA ho dL_poured_11 ?_
    refine l_goto cx 23 dL_poured_12 (by decide) ?_
    refine l_iconst cx dL_poured_23 ki_0 ?_
    exact l_iret cx hr ⟨Nat.le_of_ble_eq_true rfl, Nat.le_of_ble_eq_true rfl⟩ dL_poured_24 (fun H locs hP hS t ht => ⟨⟨by rw [hz.1], by rw [ht, hz.2]; exact hP⟩, hS.F ht⟩)
set_option maxRecDepth 100000 in
theorem lwd_1349 : Cond.methodLink "SunnyPansLaw" 108 yX9_noon ∈ tbG := tw6 49 rfl rfl
set_option maxRecDepth 100000 in
theorem lwd_1350 : Cond.instanceMethod yX9_noon ∈ tbG := tw6 50 rfl rfl
set_option maxRecDepth 100000 in
theorem lwd_1351 : Cond.selects "SunnyPans" yX9_noon yX9_noon ∈ tbG := tw6 51 rfl rfl
set_option maxRecDepth 100000 in
theorem lwd_1352 : Cond.code yX9_noon cX9_noon 3 (some .int) ∈ tbG := tw6 52 rfl rfl
theorem lcv_noon : zCV "SunnyPansLaw" 108 "SunnyPans" yX9_noon cX9_noon 3 (some .int) 1 := zCV_of lwd_1349 lwd_1350 lwd_1351 lwd_101 lwd_1352 (by decide +kernel)
theorem dL_noon_0 : decode cL_noon 0 = .ok (.aload_n 2, 1) := by decide +kernel
theorem dL_noon_1 : decode cL_noon 1 = .ok (.iconst 0, 1) := by decide +kernel
theorem dL_noon_2 : decode cL_noon 2 = .ok (.aload_n 0, 1) := by decide +kernel
theorem dL_noon_3 : decode cL_noon 3 = .ok (.iload_n 1, 1) := by decide +kernel
theorem dL_noon_4 : decode cL_noon 4 = .ok (.invokevirtual 108, 3) := by decide +kernel
theorem dL_noon_7 : decode cL_noon 7 = .ok (.i2l, 1) := by decide +kernel
theorem dL_noon_8 : decode cL_noon 8 = .ok (.lastore, 1) := by decide +kernel
theorem dL_noon_9 : decode cL_noon 9 = .ok (.goto 6, 3) := by decide +kernel
theorem dL_noon_12 : decode cL_noon 12 = .ok (.astore_n 3, 1) := by decide +kernel
theorem dL_noon_13 : decode cL_noon 13 = .ok (.iconst 1, 1) := by decide +kernel
theorem dL_noon_14 : decode cL_noon 14 = .ok (.ireturn, 1) := by decide +kernel
theorem dL_noon_15 : decode cL_noon 15 = .ok (.iconst 0, 1) := by decide +kernel
theorem dL_noon_16 : decode cL_noon 16 = .ok (.ireturn, 1) := by decide +kernel
def rmw_noon : Room := { frames := 11, cells := 1, slots := 6, locals := 204 }
set_option maxHeartbeats 4000000 in
theorem cw_noon (l : Launch) {G : zG} {ad : Nat → Nat} {ao : Nat} (hin : wIn ad ao) (M : zMem) (v : Int64) (p0 : Int32) (hl : l.stackTraces = false) {k9 : Nat} {r9 : Int32} {M9 : zMem} (hF : F_X9_noon M p0 = some (k9, r9, M9)) {kk : Int32} {v' : Int64} (hk : (k9 = 0 ∧ kk = 0 ∧ v' = r9.toInt64) ∨ (k9 = 1 ∧ kk = 1 ∧ v' = v)) : lwM l yL_noon cL_noon 4 [(0, 9, 12, 13)] rmw_noon 1 6 G ad ao M v [.ref (ad 0), .int p0, .ref ao] kk M9 v' := by
  refine lwM_of (by decide +kernel) (lv := [(0, .ref (ad 0)), (1, .int p0), (2, .ref ao)]) (Nat.le_of_ble_eq_true rfl) rfl (fun p e s m args below meth c A cx hr ht hA ho hN hsub => ?_)
  refine l_aload_n cx dL_noon_0 2 rfl ?_
  refine l_iconst cx dL_noon_1 ki_0 ?_
  refine l_aload_n cx dL_noon_2 0 rfl ?_
  refine l_iload_n cx dL_noon_3 1 rfl ?_
  refine l_callXC (As := [.int p0]) (rest := [.int 0, .ref ao]) cx (c_X9_noon l hin.1 M p0 hl lT0 hF) lT0 zo_10 lcv_noon ⟨rfl, rfl, Nat.le_of_ble_eq_true rfl, Nat.le_of_ble_eq_true rfl⟩ rfl rfl ⟨Nat.le_of_ble_eq_true rfl, Nat.le_of_ble_eq_true rfl⟩ (Nat.le_of_ble_eq_true rfl) dL_noon_4 hin hA (fun hk0 => ?_) (fun hk0 => ?_)
  · rcases hk with ⟨h1, h2, h3⟩ | ⟨h1, h2, h3⟩
    · exact absurd h1 hk0
    subst h1
    refine ⟨12, "java/lang/IllegalArgumentException", [], ⟨0, 9, 12, 13⟩, [], ht, fun z hz => absurd hz List.not_mem_nil, rfl, by decide, cx.1.2.2.2.2 _ lwd_517, va_Nw.use rfl (cx.2.2.1.2.1 _ lwCI), rfl, fun q => ?_⟩
    refine l_astore_n cx 3 [(3, .ref q), (0, .ref (ad 0)), (1, .int p0), (2, .ref ao)] dL_noon_12 rfl (by decide) rfl ?_
    refine l_iconst cx dL_noon_13 ki_1 ?_
    exact l_iret cx hr ⟨Nat.le_of_ble_eq_true rfl, Nat.le_of_ble_eq_true rfl⟩ dL_noon_14 (fun H locs hP hS t ht => ⟨⟨by rw [h2], by rw [ht, h3]; exact hP⟩, hS.F ht⟩)
  · have hz : kk = 0 ∧ v' = r9.toInt64 := by
      rcases hk with ⟨h1, h2, h3⟩ | ⟨h1, h2, h3⟩
      · exact ⟨h2, h3⟩
      · omega
    refine l_i2l cx dL_noon_7 ?_
    refine l_last cx hin hA ho dL_noon_8 ?_
    refine l_goto cx 15 dL_noon_9 (by decide) ?_
    refine l_iconst cx dL_noon_15 ki_0 ?_
    exact l_iret cx hr ⟨Nat.le_of_ble_eq_true rfl, Nat.le_of_ble_eq_true rfl⟩ dL_noon_16 (fun H locs hP hS t ht => ⟨⟨by rw [hz.1], by rw [ht, hz.2]; exact hP⟩, hS.F ht⟩)
set_option maxRecDepth 100000 in
theorem lwd_1356 : Cond.methodLink "SunnyPansLaw" 111 yX9_summer ∈ tbG := tw6 56 rfl rfl
set_option maxRecDepth 100000 in
theorem lwd_1357 : Cond.instanceMethod yX9_summer ∈ tbG := tw6 57 rfl rfl
set_option maxRecDepth 100000 in
theorem lwd_1358 : Cond.selects "SunnyPans" yX9_summer yX9_summer ∈ tbG := tw6 58 rfl rfl
set_option maxRecDepth 100000 in
theorem lwd_1359 : Cond.code yX9_summer cX9_summer 5 (some .int) ∈ tbG := tw6 59 rfl rfl
theorem lcv_summer : zCV "SunnyPansLaw" 111 "SunnyPans" yX9_summer cX9_summer 5 (some .int) 4 := zCV_of lwd_1356 lwd_1357 lwd_1358 lwd_101 lwd_1359 (by decide +kernel)
theorem dL_summer_0 : decode cL_summer 0 = .ok (.aload 5, 2) := by decide +kernel
theorem dL_summer_2 : decode cL_summer 2 = .ok (.iconst 0, 1) := by decide +kernel
theorem dL_summer_3 : decode cL_summer 3 = .ok (.aload_n 0, 1) := by decide +kernel
theorem dL_summer_4 : decode cL_summer 4 = .ok (.iload_n 1, 1) := by decide +kernel
theorem dL_summer_5 : decode cL_summer 5 = .ok (.iload_n 2, 1) := by decide +kernel
theorem dL_summer_6 : decode cL_summer 6 = .ok (.iload_n 3, 1) := by decide +kernel
theorem dL_summer_7 : decode cL_summer 7 = .ok (.iload 4, 2) := by decide +kernel
theorem dL_summer_9 : decode cL_summer 9 = .ok (.invokevirtual 111, 3) := by decide +kernel
theorem dL_summer_12 : decode cL_summer 12 = .ok (.i2l, 1) := by decide +kernel
theorem dL_summer_13 : decode cL_summer 13 = .ok (.lastore, 1) := by decide +kernel
theorem dL_summer_14 : decode cL_summer 14 = .ok (.goto 7, 3) := by decide +kernel
theorem dL_summer_17 : decode cL_summer 17 = .ok (.astore 6, 2) := by decide +kernel
theorem dL_summer_19 : decode cL_summer 19 = .ok (.iconst 1, 1) := by decide +kernel
theorem dL_summer_20 : decode cL_summer 20 = .ok (.ireturn, 1) := by decide +kernel
theorem dL_summer_21 : decode cL_summer 21 = .ok (.iconst 0, 1) := by decide +kernel
theorem dL_summer_22 : decode cL_summer 22 = .ok (.ireturn, 1) := by decide +kernel
def rmw_summer : Room := { frames := 11, cells := 1, slots := 6, locals := 230 }
set_option maxHeartbeats 4000000 in
theorem cw_summer (l : Launch) {G : zG} {ad : Nat → Nat} {ao : Nat} (hin : wIn ad ao) (M : zMem) (v : Int64) (p0 : Int32) (p1 : Int32) (p2 : Int32) (p3 : Int32) (hl : l.stackTraces = false) {k9 : Nat} {r9 : Int32} {M9 : zMem} (hF : F_X9_summer M p0 p1 p2 p3 = some (k9, r9, M9)) {kk : Int32} {v' : Int64} (hk : (k9 = 0 ∧ kk = 0 ∧ v' = r9.toInt64) ∨ (k9 = 1 ∧ kk = 1 ∧ v' = v)) : lwM l yL_summer cL_summer 7 [(0, 14, 17, 13)] rmw_summer 1 6 G ad ao M v [.ref (ad 0), .int p0, .int p1, .int p2, .int p3, .ref ao] kk M9 v' := by
  refine lwM_of (by decide +kernel) (lv := [(0, .ref (ad 0)), (1, .int p0), (2, .int p1), (3, .int p2), (4, .int p3), (5, .ref ao)]) (Nat.le_of_ble_eq_true rfl) rfl (fun p e s m args below meth c A cx hr ht hA ho hN hsub => ?_)
  refine l_aload cx dL_summer_0 5 rfl ?_
  refine l_iconst cx dL_summer_2 ki_0 ?_
  refine l_aload_n cx dL_summer_3 0 rfl ?_
  refine l_iload_n cx dL_summer_4 1 rfl ?_
  refine l_iload_n cx dL_summer_5 2 rfl ?_
  refine l_iload_n cx dL_summer_6 3 rfl ?_
  refine l_iload cx dL_summer_7 4 rfl ?_
  refine l_callXC (As := [.int p0, .int p1, .int p2, .int p3]) (rest := [.int 0, .ref ao]) cx (c_X9_summer l hin.1 M p0 p1 p2 p3 hl lT0 hF) lT0 zo_10 lcv_summer ⟨rfl, rfl, Nat.le_of_ble_eq_true rfl, Nat.le_of_ble_eq_true rfl⟩ rfl rfl ⟨Nat.le_of_ble_eq_true rfl, Nat.le_of_ble_eq_true rfl⟩ (Nat.le_of_ble_eq_true rfl) dL_summer_9 hin hA (fun hk0 => ?_) (fun hk0 => ?_)
  · rcases hk with ⟨h1, h2, h3⟩ | ⟨h1, h2, h3⟩
    · exact absurd h1 hk0
    subst h1
    refine ⟨17, "java/lang/IllegalArgumentException", [], ⟨0, 14, 17, 13⟩, [], ht, fun z hz => absurd hz List.not_mem_nil, rfl, by decide, cx.1.2.2.2.2 _ lwd_517, va_Nw.use rfl (cx.2.2.1.2.1 _ lwCI), rfl, fun q => ?_⟩
    refine l_astore cx 6 [(6, .ref q), (0, .ref (ad 0)), (1, .int p0), (2, .int p1), (3, .int p2), (4, .int p3), (5, .ref ao)] dL_summer_17 (by decide) rfl ?_
    refine l_iconst cx dL_summer_19 ki_1 ?_
    exact l_iret cx hr ⟨Nat.le_of_ble_eq_true rfl, Nat.le_of_ble_eq_true rfl⟩ dL_summer_20 (fun H locs hP hS t ht => ⟨⟨by rw [h2], by rw [ht, h3]; exact hP⟩, hS.F ht⟩)
  · have hz : kk = 0 ∧ v' = r9.toInt64 := by
      rcases hk with ⟨h1, h2, h3⟩ | ⟨h1, h2, h3⟩
      · exact ⟨h2, h3⟩
      · omega
    refine l_i2l cx dL_summer_12 ?_
    refine l_last cx hin hA ho dL_summer_13 ?_
    refine l_goto cx 21 dL_summer_14 (by decide) ?_
    refine l_iconst cx dL_summer_21 ki_0 ?_
    exact l_iret cx hr ⟨Nat.le_of_ble_eq_true rfl, Nat.le_of_ble_eq_true rfl⟩ dL_summer_22 (fun H locs hP hS t ht => ⟨⟨by rw [hz.1], by rw [ht, hz.2]; exact hP⟩, hS.F ht⟩)
set_option maxRecDepth 100000 in
theorem lwd_1372 : Cond.methodLink "SunnyPansLaw" 114 yX9_span ∈ tbG := tw6 72 rfl rfl
set_option maxRecDepth 100000 in
theorem lwd_1373 : Cond.instanceMethod yX9_span ∈ tbG := tw6 73 rfl rfl
set_option maxRecDepth 100000 in
theorem lwd_1374 : Cond.selects "SunnyPans" yX9_span yX9_span ∈ tbG := tw6 74 rfl rfl
set_option maxRecDepth 100000 in
theorem lwd_1375 : Cond.code yX9_span cX9_span 10 (some .int) ∈ tbG := tw6 75 rfl rfl
theorem lcv_span : zCV "SunnyPansLaw" 114 "SunnyPans" yX9_span cX9_span 10 (some .int) 7 := zCV_of lwd_1372 lwd_1373 lwd_1374 lwd_101 lwd_1375 (by decide +kernel)
theorem dL_span_0 : decode cL_span 0 = .ok (.aload 8, 2) := by decide +kernel
theorem dL_span_2 : decode cL_span 2 = .ok (.iconst 0, 1) := by decide +kernel
theorem dL_span_3 : decode cL_span 3 = .ok (.aload_n 0, 1) := by decide +kernel
theorem dL_span_4 : decode cL_span 4 = .ok (.iload_n 1, 1) := by decide +kernel
theorem dL_span_5 : decode cL_span 5 = .ok (.iload_n 2, 1) := by decide +kernel
theorem dL_span_6 : decode cL_span 6 = .ok (.iload_n 3, 1) := by decide +kernel
theorem dL_span_7 : decode cL_span 7 = .ok (.iload 4, 2) := by decide +kernel
theorem dL_span_9 : decode cL_span 9 = .ok (.iload 5, 2) := by decide +kernel
theorem dL_span_11 : decode cL_span 11 = .ok (.iload 6, 2) := by decide +kernel
theorem dL_span_13 : decode cL_span 13 = .ok (.iload 7, 2) := by decide +kernel
theorem dL_span_15 : decode cL_span 15 = .ok (.invokevirtual 114, 3) := by decide +kernel
theorem dL_span_18 : decode cL_span 18 = .ok (.i2l, 1) := by decide +kernel
theorem dL_span_19 : decode cL_span 19 = .ok (.lastore, 1) := by decide +kernel
theorem dL_span_20 : decode cL_span 20 = .ok (.goto 11, 3) := by decide +kernel
theorem dL_span_23 : decode cL_span 23 = .ok (.astore 9, 2) := by decide +kernel
theorem dL_span_25 : decode cL_span 25 = .ok (.iconst 1, 1) := by decide +kernel
theorem dL_span_26 : decode cL_span 26 = .ok (.ireturn, 1) := by decide +kernel
theorem dL_span_27 : decode cL_span 27 = .ok (.astore 9, 2) := by decide +kernel
theorem dL_span_29 : decode cL_span 29 = .ok (.iconst 2, 1) := by decide +kernel
theorem dL_span_30 : decode cL_span 30 = .ok (.ireturn, 1) := by decide +kernel
theorem dL_span_31 : decode cL_span 31 = .ok (.iconst 0, 1) := by decide +kernel
theorem dL_span_32 : decode cL_span 32 = .ok (.ireturn, 1) := by decide +kernel
def rmw_span : Room := { frames := 12, cells := 3, slots := 18, locals := 235 }
set_option maxHeartbeats 4000000 in
theorem cw_span (l : Launch) {G : zG} {ad : Nat → Nat} {ao : Nat} (hin : wIn ad ao) (M : zMem) (v : Int64) (p0 : Int32) (p1 : Int32) (p2 : Int32) (p3 : Int32) (p4 : Int32) (p5 : Int32) (p6 : Int32) (hl : l.stackTraces = false) {k9 : Nat} {r9 : Int32} {M9 : zMem} (hF : F_X9_span M p0 p1 p2 p3 p4 p5 p6 = some (k9, r9, M9)) {kk : Int32} {v' : Int64} (hk : (k9 = 0 ∧ kk = 0 ∧ v' = r9.toInt64) ∨ (k9 = 2 ∧ kk = 1 ∧ v' = v) ∨ (k9 = 1 ∧ kk = 2 ∧ v' = v)) : lwM l yL_span cL_span 10 [(0, 20, 23, 31), (0, 20, 27, 13)] rmw_span 3 18 G ad ao M v [.ref (ad 0), .int p0, .int p1, .int p2, .int p3, .int p4, .int p5, .int p6, .ref ao] kk M9 v' := by
  refine lwM_of (by decide +kernel) (lv := [(0, .ref (ad 0)), (1, .int p0), (2, .int p1), (3, .int p2), (4, .int p3), (5, .int p4), (6, .int p5), (7, .int p6), (8, .ref ao)]) (Nat.le_of_ble_eq_true rfl) rfl (fun p e s m args below meth c A cx hr ht hA ho hN hsub => ?_)
  refine l_aload cx dL_span_0 8 rfl ?_
  refine l_iconst cx dL_span_2 ki_0 ?_
  refine l_aload_n cx dL_span_3 0 rfl ?_
  refine l_iload_n cx dL_span_4 1 rfl ?_
  refine l_iload_n cx dL_span_5 2 rfl ?_
  refine l_iload_n cx dL_span_6 3 rfl ?_
  refine l_iload cx dL_span_7 4 rfl ?_
  refine l_iload cx dL_span_9 5 rfl ?_
  refine l_iload cx dL_span_11 6 rfl ?_
  refine l_iload cx dL_span_13 7 rfl ?_
  refine l_callXC (As := [.int p0, .int p1, .int p2, .int p3, .int p4, .int p5, .int p6]) (rest := [.int 0, .ref ao]) cx (c_X9_span l hin.1 M p0 p1 p2 p3 p4 p5 p6 hl lT0 hF) lT0 zo_10 lcv_span ⟨rfl, rfl, Nat.le_of_ble_eq_true rfl, Nat.le_of_ble_eq_true rfl⟩ rfl rfl ⟨Nat.le_of_ble_eq_true rfl, Nat.le_of_ble_eq_true rfl⟩ (Nat.le_of_ble_eq_true rfl) dL_span_15 hin hA (fun hk0 => ?_) (fun hk0 => ?_)
  · rcases hk with ⟨h1, h2, h3⟩ | ⟨h1, h2, h3⟩ | ⟨h1, h2, h3⟩
    · exact absurd h1 hk0
    · subst h1
      refine ⟨23, "java/util/NoSuchElementException", [], ⟨0, 20, 23, 31⟩, [⟨0, 20, 27, 13⟩], ht, fun z hz => absurd hz List.not_mem_nil, rfl, by decide, cx.1.2.2.2.2 _ lwd_1015, va_Nw.use rfl (cx.2.2.1.2.1 _ lwCN), rfl, fun q => ?_⟩
      refine l_astore cx 9 [(9, .ref q), (0, .ref (ad 0)), (1, .int p0), (2, .int p1), (3, .int p2), (4, .int p3), (5, .int p4), (6, .int p5), (7, .int p6), (8, .ref ao)] dL_span_23 (by decide) rfl ?_
      refine l_iconst cx dL_span_25 ki_1 ?_
      exact l_iret cx hr ⟨Nat.le_of_ble_eq_true rfl, Nat.le_of_ble_eq_true rfl⟩ dL_span_26 (fun H locs hP hS t ht => ⟨⟨by rw [h2], by rw [ht, h3]; exact hP⟩, hS.F ht⟩)
    · subst h1
      refine ⟨27, "java/lang/IllegalArgumentException", [⟨0, 20, 23, 31⟩], ⟨0, 20, 27, 13⟩, [], ht, fun z hz => by
        cases List.mem_singleton.mp hz
        exact Or.inr ⟨by decide, _, cx.1.2.2.2.2 _ lwd_1015, hN⟩, rfl, by decide, cx.1.2.2.2.2 _ lwd_517, va_Nw.use rfl (cx.2.2.1.2.1 _ lwCI), rfl, fun q => ?_⟩
      refine l_astore cx 9 [(9, .ref q), (0, .ref (ad 0)), (1, .int p0), (2, .int p1), (3, .int p2), (4, .int p3), (5, .int p4), (6, .int p5), (7, .int p6), (8, .ref ao)] dL_span_27 (by decide) rfl ?_
      refine l_iconst cx dL_span_29 ki_2 ?_
      exact l_iret cx hr ⟨Nat.le_of_ble_eq_true rfl, Nat.le_of_ble_eq_true rfl⟩ dL_span_30 (fun H locs hP hS t ht => ⟨⟨by rw [h2], by rw [ht, h3]; exact hP⟩, hS.F ht⟩)
  · have hz : kk = 0 ∧ v' = r9.toInt64 := by
      rcases hk with ⟨h1, h2, h3⟩ | ⟨h1, h2, h3⟩ | ⟨h1, h2, h3⟩
      · exact ⟨h2, h3⟩
      · omega
      · omega
    refine l_i2l cx dL_span_18 ?_
    refine l_last cx hin hA ho dL_span_19 ?_
    refine l_goto cx 31 dL_span_20 (by decide) ?_
    refine l_iconst cx dL_span_31 ki_0 ?_
    exact l_iret cx hr ⟨Nat.le_of_ble_eq_true rfl, Nat.le_of_ble_eq_true rfl⟩ dL_span_32 (fun H locs hP hS t ht => ⟨⟨by rw [hz.1], by rw [ht, hz.2]; exact hP⟩, hS.F ht⟩)
