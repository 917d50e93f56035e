/-! WHAT STANDS AT THE LAW'S ENTRY -/
theorem rm_mono {s : State} {pl : Platform} {R R' : Room} (h : s.hasRoom pl R = true) (h1 : R'.frames ≤ R.frames) (h2 : R'.cells ≤ R.cells) (h3 : R'.slots ≤ R.slots) (h4 : R'.locals ≤ R.locals) : s.hasRoom pl R' = true := by
  simp only [State.hasRoom, Bool.and_eq_true, decide_eq_true_eq] at h ⊢
  obtain ⟨⟨⟨⟨a1, a2, a3, a4, a5, a6⟩, a7⟩, a8⟩, a9⟩ := h
  exact ⟨⟨⟨⟨by omega, by omega, by omega, by omega, by omega, a6⟩, by omega⟩, by omega⟩, a9⟩
theorem st_room {p : Program} {l : Launch} {e : Env} {R R' : Room} {s : State} {m : MethodId} {args : Array Value} {below : List Frame} {meth : Method} {c : Code} {T : State} {locs : List Loc} {cells slots : Nat} (X : Stand p l e R s m args below meth c T locs cells slots) (h : s.hasRoom e.platform R' = true) : Stand p l e R' s m args below meth c T locs cells slots :=
  ⟨X.admits, X.cas, X.clock, X.frames, h, X.hears, X.method, X.code, X.here, X.tail, X.warmed, X.limits, X.bytes, X.same⟩
theorem sbn_drop {s s' : State} {L : List Loc} {c n : Nat} (h : s.sameButNew s' L c n) (hL : ∀ q ∈ L, s.heap.size ≤ q.base) : s.sameButNew s' [] c n := by
  obtain ⟨h1, h2, h3, h4, h5, h6⟩ := h
  refine ⟨h1, h2, h3, h4, h5, fun a cl hc => ?_⟩
  obtain ⟨c', e1, e2, e3, e4⟩ := h6 a cl hc
  have hlt : a < s.heap.size := (Array.getElem?_eq_some_iff.mp hc).1
  exact ⟨c', e1, e2, e3, fun i _ => e4 i (fun hm => absurd (hL _ hm) (Nat.not_le.mpr hlt))⟩
theorem sbn_mono {s s' : State} {L : List Loc} {c n c' n' : Nat} (h : s.sameButNew s' L c n) (hc : c ≤ c') (hn : n ≤ n') : s.sameButNew s' L c' n' := by
  obtain ⟨h1, h2, h3, h4, h5, h6⟩ := h
  exact ⟨h1, h2, Nat.le_trans h3 (Nat.add_le_add_left hc _), h4, Nat.le_trans h5 hn, h6⟩
theorem ra_prim {s : State} {A : Array Value} {ty : FieldType} (hp : ∀ C, ty ≠ .object C) (h : (Cond.arrayClass ty).before A s = true) : ∃ cA, ArrOfT s cA ty ∧ va_RA s cA ty := by
  obtain ⟨c, k, comp, h1, h2, h3⟩ := Cond.arrayClass_spec h
  refine ⟨c, fun n z => ⟨fun k h => (by cases h), k, h2, comp, h3⟩, ?_⟩
  cases ty with
  | object C => exact absurd rfl (hp C)
  | _ => exact h1
theorem ra_obj {s : State} {A : Array Value} {n : String} (h : (Cond.arrayOver (.object n)).before A s = true) : ∃ cA, ArrOfT s cA (.object n) ∧ va_RA s cA (.object n) := by
  obtain ⟨comp, c, k, h1, h2, h3, h4, h5⟩ := Cond.arrayOver_spec h
  exact ⟨c, fun n z => ⟨fun k h => (by cases h), k, h3, comp, h4⟩, k, comp, h3, h4, h1, h5⟩
theorem str_of {s : State} {A : Array Value} {own : String} {k : Nat} (h : (Cond.exactly (.string own k) "java/lang/String").before A s = true) : ∃ a, (Term.string own k).eval A s none [] s = some (.ref a) := by
  obtain ⟨a, c, cell, k, h1, -⟩ := Cond.exactly_spec h
  exact ⟨a, h1⟩
theorem str_eq {s : State} {A : Array Value} {o1 o2 : String} {k1 k2 a : Nat} (h1 : (Term.string o1 k1).eval A s none [] s = some (.ref a)) (h : (Cond.eq (.string o1 k1) (.string o2 k2)).before A s = true) (h2 : (Cond.exactly (.string o2 k2) "java/lang/String").before A s = true) : (Term.string o2 k2).eval A s none [] s = some (.ref a) := by
  obtain ⟨b, hb⟩ := str_of h2
  rw [hb]
  simp only [Cond.before, Cond.holds, Cond.value, h1, hb] at h
  simp at h
  rw [h]
theorem xs_self {s : State} {N : String} {c : ClassId} (h : s.vm.findClass N = some c) : xs_cast N N s := by
  refine ⟨c, c, h, h, ?_⟩
  show s.vm.assignableAux (255 + 1) c c = true
  rw [Vm.assignableAux]
  simp only [beq_self_eq_true, Bool.true_or]
theorem zq_rf {C n d : String} {A : Nat → Prop} {U : State} {H : Heap} (h : va_Zq C n d A U H) : ∃ r : Option Nat, va_Z C n d (va_rf r) A U H := by
  rcases h with h | ⟨t, h⟩
  · exact ⟨none, h⟩
  · exact ⟨some t, h⟩
def hts0 (A : Array Value) (s : State) : Prop := ∀ w ∈ lw_tbl, w.before A s = true
section SFX
variable {A : Array Value} {s : State}
theorem gw_tbl {w : Cond} (h : w ∈ gW) : w ∈ lw_tbl := (List.mem_filter.mp h).1
theorem sf_g (h : hts0 A s) : ∀ w ∈ gW, ∀ A' : Array Value, w.before A' s = true := fun w hw A' =>
  word_at (State.WarmedH.refl s) (good_of_word (List.mem_filter.mp hw).2) (h w (gw_tbl hw))
theorem sf_n (h : hts0 A s) : ∀ w ∈ nW, va_Nw w s := fun w hw => by
  obtain ⟨h1, h2⟩ := List.mem_filter.mp hw
  have h3 := h w h1
  cases w with
  | fieldLinkNest a i b n d k => exact va_Nw.of rfl h3
  | methodLinkNest a i x k => exact va_Nw.of rfl h3
  | _ => cases h2
theorem kn_of {ci : Nat} {r : vw_C} {n : Nat} (h : hts0 A s) (hc : clOK ci r) (hi : Cond.instantiable r.1 n ∈ lw_tbl) : ∃ q : ClassId × (Nat → Nat), ∀ r', vwCl[ci]? = some r' → u_Kn s r'.1 r'.2.1 r'.2.2 q.1 q.2 := by
  obtain ⟨h1, h2, -⟩ := hc
  obtain ⟨c, i, hk⟩ := u_known (ws := gW) (args := A) (fun w hw => h w (gw_tbl hw)) h2 (h _ hi)
  refine ⟨(c, i), fun r' hr' => ?_⟩
  cases h1.symm.trans hr'
  exact hk
theorem kn_all (h : hts0 A s) : ∀ ci : Nat, ∃ q : ClassId × (Nat → Nat), ∀ r', vwCl[ci]? = some r' → u_Kn s r'.1 r'.2.1 r'.2.2 q.1 q.2 := by
  intro ci
  match ci with
  | 0 => exact kn_of (n := 3) h cl0 (tw2 (i := 73) rfl)
  | 1 => exact kn_of (n := 5) h cl1 (tw1 (i := 114) rfl)
  | 2 => exact kn_of (n := 11) h cl2 (tw2 (i := 67) rfl)
  | 3 => exact kn_of (n := 2) h cl3 (tw1 (i := 139) rfl)
  | 4 => exact kn_of (n := 3) h cl4 (tw3 (i := 186) rfl)
  | 5 => exact kn_of (n := 4) h cl5 (tw1 (i := 95) rfl)
  | 6 => exact kn_of (n := 7) h cl6 (tw1 (i := 44) rfl)
  | 7 => exact kn_of (n := 2) h cl7 (tw5 (i := 66) rfl)
  | 8 => exact kn_of (n := 2) h cl8 (tw3 (i := 220) rfl)
  | 9 => exact kn_of (n := 8) h cl9 (tw4 (i := 12) rfl)
  | 10 => exact kn_of (n := 9) h cl10 (tw4 (i := 88) rfl)
  | 11 => exact kn_of (n := 3) h cl11 (tw1 (i := 79) rfl)
  | 12 => exact kn_of (n := 10) h cl12 (tw1 (i := 36) rfl)
  | 13 => exact kn_of (n := 12) h cl13 (tw6 (i := 176) rfl)
  | 14 => exact kn_of (n := 14) h cl14 (tw6 (i := 114) rfl)
  | 15 => exact kn_of (n := 8) h cl15 (tw6 (i := 85) rfl)
  | 16 => exact kn_of (n := 37) h cl16 (tw6 (i := 79) rfl)
  | k + 17 => exact ⟨(0, fun _ => 0), fun r' hr' => by simp [vwCl] at hr'⟩
theorem ar_all (h : hts0 A s) : ∃ a0 a1 a2 a3 a4 a5 : ClassId, (ArrOfT s a0 .byte ∧ va_RA s a0 .byte) ∧ (ArrOfT s a1 .int ∧ va_RA s a1 .int) ∧ (ArrOfT s a2 .long ∧ va_RA s a2 .long) ∧ (ArrOfT s a3 (.object "java/lang/Object") ∧ va_RA s a3 (.object "java/lang/Object")) ∧ (ArrOfT s a4 (.object "PathHouse$Node") ∧ va_RA s a4 (.object "PathHouse$Node")) ∧ (ArrOfT s a5 (.object "PathHouse$Row") ∧ va_RA s a5 (.object "PathHouse$Row")) := by
  obtain ⟨a0, h0⟩ := ra_prim (fun C => by simp) (h (.arrayClass .byte) (tw1 (i := 76) rfl))
  obtain ⟨a1, h1⟩ := ra_prim (fun C => by simp) (h (.arrayClass .int) (tw1 (i := 77) rfl))
  obtain ⟨a2, h2⟩ := ra_prim (fun C => by simp) (h (.arrayClass .long) (tw6 (i := 174) rfl))
  obtain ⟨a3, h3⟩ := ra_obj (h (.arrayOver (.object "java/lang/Object")) (tw3 (i := 133) rfl))
  obtain ⟨a4, h4⟩ := ra_obj (h (.arrayOver (.object "PathHouse$Node")) (tw5 (i := 72) rfl))
  obtain ⟨a5, h5⟩ := ra_obj (h (.arrayOver (.object "PathHouse$Row")) (tw1 (i := 120) rfl))
  exact ⟨a0, a1, a2, a3, a4, a5, h0, h1, h2, h3, h4, h5⟩
theorem sf_cast (h : hts0 A s) : ∀ q ∈ cWl, xs_cast q.1 q.2 s := by
  have hr : xs_cast "PathHouse$Row" "PathHouse$Row" s := by
    obtain ⟨a, b, ha, -, -⟩ := Cond.castable_spec (h (.castable "PathHouse$Row" "java/lang/Object") (tw9 (i := 46) rfl))
    exact xs_self ha
  exact fa_c (Cond.castable_spec (h (.castable "java/lang/IllegalArgumentException" "java/lang/IllegalArgumentException") (tw2 (i := 0) rfl))) (fa_c (Cond.castable_spec (h (.castable "java/lang/IllegalStateException" "java/lang/IllegalStateException") (tw5 (i := 52) rfl))) (fa_c (Cond.castable_spec (h (.castable "java/util/NoSuchElementException" "java/util/NoSuchElementException") (tw6 (i := 59) rfl))) (fa_c (Cond.castable_spec (h (.castable "PathHouseModel$Stop" "PathHouseModel$Stop") (tw6 (i := 86) rfl))) (fa_c (Cond.castable_spec (h (.castable "PathHouse$Node" "PathHouse$Node") (tw9 (i := 24) rfl))) (fa_c (Cond.castable_spec (h (.castable "PathHouse$Segment" "PathHouse$Segment") (tw9 (i := 26) rfl))) (fa_c (Cond.castable_spec (h (.castable "PathHouse$Selector" "PathHouse$Selector") (tw9 (i := 27) rfl))) (fa_c (Cond.castable_spec (h (.castable "PathHouse$Term" "PathHouse$Term") (tw9 (i := 25) rfl))) (fa_c (Cond.castable_spec (h (.castable "PathHouse$Node" "java/lang/Object") (tw9 (i := 41) rfl))) (fa_c (Cond.castable_spec (h (.castable "PathHouse$Segment" "java/lang/Object") (tw9 (i := 43) rfl))) (fa_c (Cond.castable_spec (h (.castable "PathHouse$Selector" "java/lang/Object") (tw9 (i := 44) rfl))) (fa_c (Cond.castable_spec (h (.castable "PathHouse$Term" "java/lang/Object") (tw9 (i := 45) rfl))) (fa_c (hr) fa_0))))))))))))
theorem sf_ao (h : hts0 A s) : ∀ q ∈ aOl, va_AO q s := fa_c (va_AO.of (h (.arrayOver (.object "java/lang/Object")) (tw3 (i := 133) rfl))) (fa_c (va_AO.of (h (.arrayOver (.object "PathHouse$Node")) (tw5 (i := 72) rfl))) (fa_c (va_AO.of (h (.arrayOver (.object "PathHouse$Row")) (tw1 (i := 120) rfl))) fa_0))
def nrl : List Cond := [.isRef (.static "java/lang/Throwable" "UNASSIGNED_STACK" "[Ljava/lang/StackTraceElement;"), .isRef (.static "java/lang/Throwable" "SUPPRESSED_SENTINEL" "Ljava/util/List;"), .isRef (.static "java/util/ArrayList" "DEFAULTCAPACITY_EMPTY_ELEMENTDATA" "[Ljava/lang/Object;"), .exactly (.string "PathHouse$Reader" 40) "java/lang/String", .exactly (.string "PathHouse$ValueReader" 73) "java/lang/String", .exactly (.string "PathHouse$ValueReader" 79) "java/lang/String", .exactly (.string "PathHouse$ValueReader" 81) "java/lang/String", .exactly (.string "PathHouse$QueryReader" 304) "java/lang/String", .exactly (.string "PathHouse$QueryReader" 306) "java/lang/String", .exactly (.string "PathHouse$QueryReader" 308) "java/lang/String", .exactly (.string "PathHouse$QueryReader" 283) "java/lang/String", .eq (.string "PathHouse$ValueReader" 73) (.string "PathHouse$QueryReader" 283), .exactly (.string "PathHouse$QueryReader" 289) "java/lang/String", .eq (.string "PathHouse$ValueReader" 79) (.string "PathHouse$QueryReader" 289), .exactly (.string "PathHouse$QueryReader" 291) "java/lang/String", .eq (.string "PathHouse$ValueReader" 81) (.string "PathHouse$QueryReader" 291), .exactly (.string "PathHouse$Finder" 49) "java/lang/String", .exactly (.string "PathHouse$Out" 53) "java/lang/String", .exactly (.string "PathHouse$Out" 88) "java/lang/String", .eq (.string "PathHouse$ValueReader" 73) (.string "PathHouse$Out" 88), .exactly (.string "PathHouse$Out" 90) "java/lang/String", .eq (.string "PathHouse$ValueReader" 79) (.string "PathHouse$Out" 90), .exactly (.string "PathHouse$Out" 92) "java/lang/String", .eq (.string "PathHouse$ValueReader" 81) (.string "PathHouse$Out" 92), .exactly (.string "PathHouse" 141) "java/lang/String", .exactly (.string "PathHouseModel" 204) "java/lang/String", .eq (.string "PathHouse$ValueReader" 73) (.string "PathHouseModel" 204), .exactly (.string "PathHouseModel" 212) "java/lang/String", .eq (.string "PathHouse$ValueReader" 79) (.string "PathHouseModel" 212), .exactly (.string "PathHouseModel" 214) "java/lang/String", .eq (.string "PathHouse$ValueReader" 81) (.string "PathHouseModel" 214), .exactly (.string "PathHouseModel" 390) "java/lang/String", .eq (.string "PathHouse$QueryReader" 304) (.string "PathHouseModel" 390), .exactly (.string "PathHouseModel" 391) "java/lang/String", .eq (.string "PathHouse$QueryReader" 306) (.string "PathHouseModel" 391), .exactly (.string "PathHouseModel" 393) "java/lang/String", .eq (.string "PathHouse$QueryReader" 308) (.string "PathHouseModel" 393)]
def nrF : List Cond := flatC (Jvm.Cond.and given_1 narrow_1)
set_option maxRecDepth 100000 in
theorem nrl_in : ∀ w ∈ nrl, w ∈ nrF := by decide +kernel
def nar (A : Array Value) (s : State) : Prop := ∀ w ∈ nrl, w.before A s = true
theorem nar_of (h : (Jvm.Cond.and given_1 narrow_1).before A s = true) : nar A s := fun w hw => flat_of_before _ h w (nrl_in w hw)
theorem nx {w : Cond} {i : Nat} (hn : nar A s) (h : nrl[i]? = some w) : w.before A s = true := hn w (List.mem_of_getElem? h)
theorem sf_st (h : hts0 A s) (hn : nar A s) : ∃ g : Nat → Option Nat, ∀ q ∈ stL, va_Z q.1 q.2.1 q.2.2.1 (va_rf (g q.2.2.2)) (fun z => s.heap.size ≤ z) s s.heap := by
  have hA : ∀ a : Nat, a < s.heap.size → ¬ s.heap.size ≤ a := fun a ha => Nat.not_le.mpr ha
  obtain ⟨r0, h0⟩ := zq_rf (va_Zqof (A := fun z => s.heap.size ≤ z) (h (.laysStatic "java/lang/Throwable" "UNASSIGNED_STACK" "[Ljava/lang/StackTraceElement;") (tw2 (i := 25) rfl)) (h (.initialized "java/lang/Throwable") (tw1 (i := 8) rfl)) (nx (i := 0) hn rfl) hA)
  obtain ⟨r1, h1⟩ := zq_rf (va_Zqof (A := fun z => s.heap.size ≤ z) (h (.laysStatic "java/lang/Throwable" "SUPPRESSED_SENTINEL" "Ljava/util/List;") (tw2 (i := 27) rfl)) (h (.initialized "java/lang/Throwable") (tw1 (i := 8) rfl)) (nx (i := 1) hn rfl) hA)
  obtain ⟨r2, h2⟩ := zq_rf (va_Zqof (A := fun z => s.heap.size ≤ z) (h (.laysStatic "java/util/ArrayList" "DEFAULTCAPACITY_EMPTY_ELEMENTDATA" "[Ljava/lang/Object;") (tw2 (i := 85) rfl)) (h (.initialized "java/util/ArrayList") (tw1 (i := 19) rfl)) (nx (i := 2) hn rfl) hA)
  exact ⟨fun n => [r0, r1, r2].getD n none, fa_c (h0) (fa_c (h1) (fa_c (h2) fa_0))⟩
theorem sf_ex (h : hts0 A s) (hn : nar A s) : vx_Zq Bundle.tN "UNASSIGNED_STACK" Bundle.steD (fun q => s.heap.size ≤ q) s s.heap ∧ vx_Zq Bundle.tN "SUPPRESSED_SENTINEL" Bundle.listD (fun q => s.heap.size ≤ q) s s.heap := by
  have hA : ∀ a : Nat, a < s.heap.size → ¬ s.heap.size ≤ a := fun a ha => Nat.not_le.mpr ha
  exact ⟨vx_Zqof (h (.laysStatic "java/lang/Throwable" "UNASSIGNED_STACK" "[Ljava/lang/StackTraceElement;") (tw2 (i := 25) rfl)) (h (.initialized "java/lang/Throwable") (tw1 (i := 8) rfl)) (nx (i := 0) hn rfl) hA, vx_Zqof (h (.laysStatic "java/lang/Throwable" "SUPPRESSED_SENTINEL" "Ljava/util/List;") (tw2 (i := 27) rfl)) (h (.initialized "java/lang/Throwable") (tw1 (i := 8) rfl)) (nx (i := 1) hn rfl) hA⟩
theorem sf_str (h : hts0 A s) (hn : nar A s) : ∃ g : Nat → Nat, ∀ q ∈ strL, vk_R q.1 q.2.1 q.2.2.1 (g q.2.2.2) s := by
  obtain ⟨a6, h6⟩ := str_of (nx (i := 3) hn rfl)
  obtain ⟨a4, h4⟩ := str_of (nx (i := 4) hn rfl)
  obtain ⟨a2, h2⟩ := str_of (nx (i := 5) hn rfl)
  obtain ⟨a7, h7⟩ := str_of (nx (i := 6) hn rfl)
  obtain ⟨a3, h3⟩ := str_of (nx (i := 7) hn rfl)
  obtain ⟨a1, h1⟩ := str_of (nx (i := 8) hn rfl)
  obtain ⟨a9, h9⟩ := str_of (nx (i := 9) hn rfl)
  obtain ⟨a5, h5⟩ := str_of (nx (i := 16) hn rfl)
  obtain ⟨a8, h8⟩ := str_of (nx (i := 17) hn rfl)
  obtain ⟨a0, h0⟩ := str_of (nx (i := 24) hn rfl)
  exact ⟨fun n => [a0, a1, a2, a3, a4, a5, a6, a7, a8, a9].getD n 0, fa_c (vk_R.of (h (.stringRef "PathHouse$Reader" 40 "the text has a fault") (tw2 (i := 40) rfl)) h6) (fa_c (vk_R.of (h (.stringRef "PathHouse$ValueReader" 73 "null") (tw2 (i := 162) rfl)) h4) (fa_c (vk_R.of (h (.stringRef "PathHouse$ValueReader" 79 "false") (tw2 (i := 220) rfl)) h2) (fa_c (vk_R.of (h (.stringRef "PathHouse$ValueReader" 81 "true") (tw2 (i := 221) rfl)) h7) (fa_c (vk_R.of (h (.stringRef "PathHouse$QueryReader" 304 "length") (tw4 (i := 170) rfl)) h3) (fa_c (vk_R.of (h (.stringRef "PathHouse$QueryReader" 306 "count") (tw4 (i := 175) rfl)) h1) (fa_c (vk_R.of (h (.stringRef "PathHouse$QueryReader" 308 "value") (tw4 (i := 176) rfl)) h9) (fa_c (vk_R.of (h (.stringRef "PathHouse$QueryReader" 283 "null") (tw4 (i := 205) rfl)) (str_eq h4 (nx (i := 11) hn rfl) (nx (i := 10) hn rfl))) (fa_c (vk_R.of (h (.stringRef "PathHouse$QueryReader" 289 "false") (tw4 (i := 209) rfl)) (str_eq h2 (nx (i := 13) hn rfl) (nx (i := 12) hn rfl))) (fa_c (vk_R.of (h (.stringRef "PathHouse$QueryReader" 291 "true") (tw4 (i := 210) rfl)) (str_eq h7 (nx (i := 15) hn rfl) (nx (i := 14) hn rfl))) (fa_c (vk_R.of (h (.stringRef "PathHouse$Finder" 49 "the find ends here") (tw5 (i := 59) rfl)) h5) (fa_c (vk_R.of (h (.stringRef "PathHouse$Out" 53 "u00") (tw5 (i := 235) rfl)) h8) (fa_c (vk_R.of (h (.stringRef "PathHouse$Out" 88 "null") (tw6 (i := 24) rfl)) (str_eq h4 (nx (i := 19) hn rfl) (nx (i := 18) hn rfl))) (fa_c (vk_R.of (h (.stringRef "PathHouse$Out" 90 "false") (tw6 (i := 25) rfl)) (str_eq h2 (nx (i := 21) hn rfl) (nx (i := 20) hn rfl))) (fa_c (vk_R.of (h (.stringRef "PathHouse$Out" 92 "true") (tw6 (i := 26) rfl)) (str_eq h7 (nx (i := 23) hn rfl) (nx (i := 22) hn rfl))) (fa_c (vk_R.of (h (.stringRef "PathHouse" 141 "OUT has no such byte") (tw6 (i := 66) rfl)) h0) (fa_c (vk_R.of (h (.stringRef "PathHouseModel" 204 "null") (tw7 (i := 146) rfl)) (str_eq h4 (nx (i := 26) hn rfl) (nx (i := 25) hn rfl))) (fa_c (vk_R.of (h (.stringRef "PathHouseModel" 212 "false") (tw7 (i := 157) rfl)) (str_eq h2 (nx (i := 28) hn rfl) (nx (i := 27) hn rfl))) (fa_c (vk_R.of (h (.stringRef "PathHouseModel" 214 "true") (tw7 (i := 158) rfl)) (str_eq h7 (nx (i := 30) hn rfl) (nx (i := 29) hn rfl))) (fa_c (vk_R.of (h (.stringRef "PathHouseModel" 390 "length") (tw8 (i := 66) rfl)) (str_eq h3 (nx (i := 32) hn rfl) (nx (i := 31) hn rfl))) (fa_c (vk_R.of (h (.stringRef "PathHouseModel" 391 "count") (tw8 (i := 71) rfl)) (str_eq h1 (nx (i := 34) hn rfl) (nx (i := 33) hn rfl))) (fa_c (vk_R.of (h (.stringRef "PathHouseModel" 393 "value") (tw8 (i := 72) rfl)) (str_eq h9 (nx (i := 36) hn rfl) (nx (i := 35) hn rfl))) fa_0)))))))))))))))))))))⟩
theorem sf_d (h : hts0 A s) : ∀ w ∈ dWx, va_Nw w s := by
  exact fa_c (va_Nw.of rfl (h (.declares (Bundle.initS "java/lang/RuntimeException")) (tw2 (i := 2) rfl))) (fa_c (va_Nw.of rfl (h (.declares (Bundle.initS "java/lang/Exception")) (tw2 (i := 4) rfl))) (fa_c (va_Nw.of rfl (h (.declares (Bundle.initS "java/lang/Throwable")) (tw2 (i := 6) rfl))) fa_0))
/-- all of it -/
theorem sf_all (l : Launch) {b L : Nat} {xs : Nat → Int32} (hl : l.stackTraces = false) (h : hts0 A s) (hn : nar A s) (hb : b < s.heap.size) (hX : va_X b L xs s s.heap) : ∃ C : Cx, cL C = l ∧ cB C = s.heap.size ∧ cH C = s.heap ∧ cX C = (b, L, xs) ∧ SF C s := by
  obtain ⟨D, hD⟩ := Classical.axiomOfChoice (kn_all h)
  obtain ⟨a0, a1, a2, a3, a4, a5, h0, h1, h2, h3, h4, h5⟩ := ar_all h
  obtain ⟨g, hg⟩ := sf_st h hn
  obtain ⟨z, hz⟩ := sf_str h hn
  refine ⟨(l, s.heap.size, s.heap, fun c => (D c).1, fun c => (D c).2, fun k => [a0, a1, a2, a3, a4, a5].getD k 0, z, g, b, L, xs), rfl, rfl, rfl, rfl, sf_g h, sf_n h, ⟨fun c q hq => hD c q hq, ?_⟩, sf_cast h, sf_ao h, ⟨hl, sf_ex h hn⟩, hz, hg, sf_d h, hb, hX⟩
  intro k q hk
  match k with
  | 0 => cases hk; exact h0
  | 1 => cases hk; exact h1
  | 2 => cases hk; exact h2
  | 3 => cases hk; exact h3
  | 4 => cases hk; exact h4
  | 5 => cases hk; exact h5
  | k + 6 => simp [cTys] at hk
end SFX
/-- a walk of the law's body, from its weakest precondition -/
theorem law_W {C : Cx} {p : Program} {e : Env} {s : State} {m : MethodId} {below : List Frame} {meth : Method} {c : Code} {b d nc ns : Nat} {R : Room} (hC : Ctx C ML p s m meth c) (hB : cB C = s.heap.size) (hH : cH C = s.heap) (hb : (cX C).1 = b)
    (hR1 : frD d ≤ R.frames) (hR2 : nc ≤ R.cells) (hR3 : ns ≤ R.slots) (hR4 : loD d ≤ R.locals)
    (hw : ∀ t0 : Ht, tN t0 = s.heap.size → tU t0 = 0 → WG C ML d t0 (fun o t => o = .inl (some (svI 1)) ∧ tN t ≤ tN t0 + nc ∧ tU t ≤ tU t0 + ns) 0 [(0, svR (some (cX C).1))] [] t0) :
    W p (cL C) e R s m #[Value.ref b] below meth c s.heap [] 0 0 (fun t => ∃ o, t.status = .running ∧ Ended t below o ∧ o = .returned (some (.int 1)) ∧ Framed s o t [] nc ns) (entryFrame m ([Value.ref b] : List Value).toArray 7) := by
  subst hb
  obtain ⟨o, t', ⟨ho, hn, hu⟩, hn0, hu0, g⟩ := hw (s.heap.size, 0, fun _ => 0, fun _ => 0, fun _ _ => 0, fun _ _ => 0, fun _ _ => none) rfl rfl
  subst ho
  have hl := lv_entry [Value.ref (cX C).1] (n := 7) (by decide)
  rw [lg_entry_eq]
  generalize (lg_sl [Value.ref (cX C).1] ++ List.replicate (7 - (lg_sl [Value.ref (cX C).1]).length) Slot.unset).toArray = ls at hl ⊢
  have hR : Rel C (tv (s.heap.size, 0, fun _ => 0, fun _ => 0, fun _ _ => 0, fun _ _ => 0, fun _ _ => none)) s.heap := ⟨rfl, by rw [hB]; exact Nat.le_refl _, fun q _ => by rw [hH], fun a ha => absurd rfl ha⟩
  have k := g p e s m #[Value.ref (cX C).1] below meth c s.heap [] ls hC hR hR (Nat.le_refl _) (Nat.le_refl _) (fun _ hz => by cases hz) hl
  rw [Nat.sub_self, Nat.sub_self] at k
  intro T hT X
  have hn1 : tN t' ≤ s.heap.size + nc := hn
  have hu1 : tU t' ≤ 0 + ns := hu
  obtain ⟨tt, st, oc, r1, r2, ⟨r3, r3'⟩, r4, Ls, r5, r6⟩ := k T hT (st_room X (rm_mono X.room hR1 (by show tN t' - s.heap.size ≤ _; omega) (by show tU t' - 0 ≤ _; omega) hR4))
  have r3'' : oc = .returned (some (.int 1)) := r3'
  refine ⟨tt, st, oc, r1, r2, r3'', ⟨_, r3''⟩, r4, sbn_mono (sbn_drop r5 (fun q hq => by rw [← hB]; exact r6 q hq)) (by show tN t' - s.heap.size ≤ _; omega) (by show tU t' - 0 ≤ _; omega)⟩
