/-! WHAT STANDS AT THE LAW'S ENTRY -/
theorem rm_mono {s : State} {pl : Platform} {R R' : Room} (h : s.hasRoom pl R = true) (h1 : R'.frames ≤ R.frames) (h2 : R'.cells ≤ R.cells) (h3 : R'.slots ≤ R.slots) (h4 : R'.locals ≤ R.locals) : s.hasRoom pl R' = true := by
  simp only [State.hasRoom, Bool.and_eq_true, decide_eq_true_eq] at h ⊢
  obtain ⟨⟨⟨⟨a1, a2, a3, a4, a5, a6⟩, a7⟩, a8⟩, a9⟩ := h
  exact ⟨⟨⟨⟨by omega, by omega, by omega, by omega, by omega, a6⟩, by omega⟩, by omega⟩, a9⟩
theorem st_room {p : Program} {l : Launch} {e : Env} {R R' : Room} {s : State} {m : MethodId} {args : Array Value} {below : List Frame} {meth : Method} {c : Code} {T : State} {locs : List Loc} {cells slots : Nat} (X : Stand p l e R s m args below meth c T locs cells slots) (h : s.hasRoom e.platform R' = true) : Stand p l e R' s m args below meth c T locs cells slots :=
  ⟨X.admits, X.cas, X.clock, X.frames, h, X.hears, X.method, X.code, X.here, X.tail, X.warmed, X.limits, X.bytes, X.same⟩
theorem sbn_drop {s s' : State} {L : List Loc} {c n : Nat} (h : s.sameButNew s' L c n) (hL : ∀ q ∈ L, s.heap.size ≤ q.base) : s.sameButNew s' [] c n := by
  obtain ⟨h1, h2, h3, h4, h5, h6⟩ := h
  refine ⟨h1, h2, h3, h4, h5, fun a cl hc => ?_⟩
  obtain ⟨c', e1, e2, e3, e4⟩ := h6 a cl hc
  have hlt : a < s.heap.size := (Array.getElem?_eq_some_iff.mp hc).1
  exact ⟨c', e1, e2, e3, fun i _ => e4 i (fun hm => absurd (hL _ hm) (Nat.not_le.mpr hlt))⟩
theorem sbn_mono {s s' : State} {L : List Loc} {c n c' n' : Nat} (h : s.sameButNew s' L c n) (hc : c ≤ c') (hn : n ≤ n') : s.sameButNew s' L c' n' := by
  obtain ⟨h1, h2, h3, h4, h5, h6⟩ := h
  exact ⟨h1, h2, Nat.le_trans h3 (Nat.add_le_add_left hc _), h4, Nat.le_trans h5 hn, h6⟩
theorem ra_prim {s : State} {A : Array Value} {ty : FieldType} (hp : ∀ C, ty ≠ .object C) (h : (Cond.arrayClass ty).before A s = true) : ∃ cA, ArrOfT s cA ty ∧ va_RA s cA ty := by
  obtain ⟨c, k, comp, h1, h2, h3⟩ := Cond.arrayClass_spec h
  refine ⟨c, fun n z => ⟨fun k h => (by cases h), k, h2, comp, h3⟩, ?_⟩
  cases ty with
  | object C => exact absurd rfl (hp C)
  | _ => exact h1
theorem ra_obj {s : State} {A : Array Value} {n : String} (h : (Cond.arrayOver (.object n)).before A s = true) : ∃ cA, ArrOfT s cA (.object n) ∧ va_RA s cA (.object n) := by
  obtain ⟨comp, c, k, h1, h2, h3, h4, h5⟩ := Cond.arrayOver_spec h
  exact ⟨c, fun n z => ⟨fun k h => (by cases h), k, h3, comp, h4⟩, k, comp, h3, h4, h1, h5⟩
theorem str_of {s : State} {A : Array Value} {own : String} {k : Nat} (h : (Cond.exactly (.string own k) "java/lang/String").before A s = true) : ∃ a, (Term.string own k).eval A s none [] s = some (.ref a) := by
  obtain ⟨a, c, cell, k, h1, -⟩ := Cond.exactly_spec h
  exact ⟨a, h1⟩
theorem str_eq {s : State} {A : Array Value} {o1 o2 : String} {k1 k2 a : Nat} (h1 : (Term.string o1 k1).eval A s none [] s = some (.ref a)) (h : (Cond.eq (.string o1 k1) (.string o2 k2)).before A s = true) (h2 : (Cond.exactly (.string o2 k2) "java/lang/String").before A s = true) : (Term.string o2 k2).eval A s none [] s = some (.ref a) := by
  obtain ⟨b, hb⟩ := str_of h2
  rw [hb]
  simp only [Cond.before, Cond.holds, Cond.value, h1, hb] at h
  simp at h
  rw [h]
theorem xs_self {s : State} {N : String} {c : ClassId} (h : s.vm.findClass N = some c) : xs_cast N N s := by
  refine ⟨c, c, h, h, ?_⟩
  show s.vm.assignableAux (255 + 1) c c = true
  rw [Vm.assignableAux]
  simp only [beq_self_eq_true, Bool.true_or]
theorem zq_rf {C n d : String} {A : Nat → Prop} {U : State} {H : Heap} (h : va_Zq C n d A U H) : ∃ r : Option Nat, va_Z C n d (va_rf r) A U H := by
  rcases h with h | ⟨t, h⟩
  · exact ⟨none, h⟩
  · exact ⟨some t, h⟩
def hts0 (A : Array Value) (s : State) : Prop := ∀ w ∈ lw_tbl, w.before A s = true
section SFX
variable {A : Array Value} {s : State}
theorem gw_tbl {w : Cond} (h : w ∈ gW) : w ∈ lw_tbl := (List.mem_filter.mp h).1
theorem sf_g (h : hts0 A s) : ∀ w ∈ gW, ∀ A' : Array Value, w.before A' s = true := fun w hw A' =>
  word_at (State.WarmedH.refl s) (good_of_word (List.mem_filter.mp hw).2) (h w (gw_tbl hw))
theorem sf_n (h : hts0 A s) : ∀ w ∈ nW, va_Nw w s := fun w hw => by
  obtain ⟨h1, h2⟩ := List.mem_filter.mp hw
  have h3 := h w h1
  cases w with
  | fieldLinkNest a i b n d k => exact va_Nw.of rfl h3
  | methodLinkNest a i x k => exact va_Nw.of rfl h3
  | _ => cases h2
theorem kn_of {ci : Nat} {r : vw_C} {n : Nat} (h : hts0 A s) (hc : clOK ci r) (hi : Cond.instantiable r.1 n ∈ lw_tbl) : ∃ q : ClassId × (Nat → Nat), ∀ r', vwCl[ci]? = some r' → u_Kn s r'.1 r'.2.1 r'.2.2 q.1 q.2 := by
  obtain ⟨h1, h2, -⟩ := hc
  obtain ⟨c, i, hk⟩ := u_known (ws := gW) (args := A) (fun w hw => h w (gw_tbl hw)) h2 (h _ hi)
  refine ⟨(c, i), fun r' hr' => ?_⟩
  cases h1.symm.trans hr'
  exact hk
theorem kn_all (h : hts0 A s) : ∀ ci : Nat, ∃ q : ClassId × (Nat → Nat), ∀ r', vwCl[ci]? = some r' → u_Kn s r'.1 r'.2.1 r'.2.2 q.1 q.2 := by
  intro ci
  match ci with
  | 0 => exact kn_of (n := 3) h cl0 (tw2 (i := 73) rfl)
  | 1 => exact kn_of (n := 5) h cl1 (tw1 (i := 114) rfl)
  | 2 => exact kn_of (n := 11) h cl2 (tw2 (i := 67) rfl)
  | 3 => exact kn_of (n := 2) h cl3 (tw1 (i := 139) rfl)
  | 4 => exact kn_of (n := 3) h cl4 (tw3 (i := 186) rfl)
  | 5 => exact kn_of (n := 4) h cl5 (tw1 (i := 95) rfl)
  | 6 => exact kn_of (n := 7) h cl6 (tw1 (i := 44) rfl)
  | 7 => exact kn_of (n := 2) h cl7 (tw5 (i := 66) rfl)
  | 8 => exact kn_of (n := 2) h cl8 (tw3 (i := 220) rfl)
  | 9 => exact kn_of (n := 8) h cl9 (tw4 (i := 12) rfl)
  | 10 => exact kn_of (n := 9) h cl10 (tw4 (i := 88) rfl)
  | 11 => exact kn_of (n := 3) h cl11 (tw1 (i := 79) rfl)
  | 12 => exact kn_of (n := 10) h cl12 (tw1 (i := 36) rfl)
  | 13 => exact kn_of (n := 12) h cl13 (tw6 (i := 176) rfl)
  | 14 => exact kn_of (n := 14) h cl14 (tw6 (i := 114) rfl)
  | 15 => exact kn_of (n := 8) h cl15 (tw6 (i := 85) rfl)
  | 16 => exact kn_of (n := 37) h cl16 (tw6 (i := 79) rfl)
  | k + 17 => exact ⟨(0, fun _ => 0), fun r' hr' => by simp [vwCl] at hr'⟩
theorem ar_all (h : hts0 A s) : ∃ a0 a1 a2 a3 a4 a5 : ClassId, (ArrOfT s a0 .byte ∧ va_RA s a0 .byte) ∧ (ArrOfT s a1 .int ∧ va_RA s a1 .int) ∧ (ArrOfT s a2 .long ∧ va_RA s a2 .long) ∧ (ArrOfT s a3 (.object "java/lang/Object") ∧ va_RA s a3 (.object "java/lang/Object")) ∧ (ArrOfT s a4 (.object "PathHouse$Node") ∧ va_RA s a4 (.object "PathHouse$Node")) ∧ (ArrOfT s a5 (.object "PathHouse$Row") ∧ va_RA s a5 (.object "PathHouse$Row")) := by
  obtain ⟨a0, h0⟩ := ra_prim (fun C => by simp) (h (.arrayClass .byte) (tw1 (i := 76) rfl))
  obtain ⟨a1, h1⟩ := ra_prim (fun C => by simp) (h (.arrayClass .int) (tw1 (i := 77) rfl))
  obtain ⟨a2, h2⟩ := ra_prim (fun C => by simp) (h (.arrayClass .long) (tw6 (i := 174) rfl))
  obtain ⟨a3, h3⟩ := ra_obj (h (.arrayOver (.object "java/lang/Object")) (tw3 (i := 133) rfl))
  obtain ⟨a4, h4⟩ := ra_obj (h (.arrayOver (.object "PathHouse$Node")) (tw5 (i := 72) rfl))
  obtain ⟨a5, h5⟩ := ra_obj (h (.arrayOver (.object "PathHouse$Row")) (tw1 (i := 120) rfl))
  exact ⟨a0, a1, a2, a3, a4, a5, h0, h1, h2, h3, h4, h5⟩
theorem sf_cast (h : hts0 A s) : ∀ q ∈ cWl, xs_cast q.1 q.2 s := by
  have hr : xs_cast "PathHouse$Row" "PathHouse$Row" s := by
    obtain ⟨a, b, ha, -, -⟩ := Cond.castable_spec (h (.castable "PathHouse$Row" "java/lang/Object") (tw9 (i := 42) rfl))
    exact xs_self ha
  exact fa_c (Cond.castable_spec (h (.castable "java/lang/IllegalArgumentException" "java/lang/IllegalArgumentException") (tw2 (i := 0) rfl))) (fa_c (Cond.castable_spec (h (.castable "java/lang/IllegalStateException" "java/lang/IllegalStateException") (tw5 (i := 52) rfl))) (fa_c (Cond.castable_spec (h (.castable "java/util/NoSuchElementException" "java/util/NoSuchElementException") (tw6 (i := 59) rfl))) (fa_c (Cond.castable_spec (h (.castable "PathHouseModel$Stop" "PathHouseModel$Stop") (tw6 (i := 86) rfl))) (fa_c (Cond.castable_spec (h (.castable "PathHouse$Node" "PathHouse$Node") (tw9 (i := 20) rfl))) (fa_c (Cond.castable_spec (h (.castable "PathHouse$Segment" "PathHouse$Segment") (tw9 (i := 22) rfl))) (fa_c (Cond.castable_spec (h (.castable "PathHouse$Selector" "PathHouse$Selector") (tw9 (i := 23) rfl))) (fa_c (Cond.castable_spec (h (.castable "PathHouse$Term" "PathHouse$Term") (tw9 (i := 21) rfl))) (fa_c (Cond.castable_spec (h (.castable "PathHouse$Node" "java/lang/Object") (tw9 (i := 37) rfl))) (fa_c (Cond.castable_spec (h (.castable "PathHouse$Segment" "java/lang/Object") (tw9 (i := 39) rfl))) (fa_c (Cond.castable_spec (h (.castable "PathHouse$Selector" "java/lang/Object") (tw9 (i := 40) rfl))) (fa_c (Cond.castable_spec (h (.castable "PathHouse$Term" "java/lang/Object") (tw9 (i := 41) rfl))) (fa_c (hr) fa_0))))))))))))
theorem sf_ao (h : hts0 A s) : ∀ q ∈ aOl, va_AO q s := fa_c (va_AO.of (h (.arrayOver (.object "java/lang/Object")) (tw3 (i := 133) rfl))) (fa_c (va_AO.of (h (.arrayOver (.object "PathHouse$Node")) (tw5 (i := 72) rfl))) (fa_c (va_AO.of (h (.arrayOver (.object "PathHouse$Row")) (tw1 (i := 120) rfl))) fa_0))
def nrl : List Cond := [.isRef (.static "java/lang/Throwable" "UNASSIGNED_STACK" "[Ljava/lang/StackTraceElement;"), .isRef (.static "java/lang/Throwable" "SUPPRESSED_SENTINEL" "Ljava/util/List;"), .isRef (.static "java/util/ArrayList" "DEFAULTCAPACITY_EMPTY_ELEMENTDATA" "[Ljava/lang/Object;"), .arrayOf (.static "java/util/ArrayList" "DEFAULTCAPACITY_EMPTY_ELEMENTDATA" "[Ljava/lang/Object;") (.object "java/lang/Object"), .eq (.length (.static "java/util/ArrayList" "DEFAULTCAPACITY_EMPTY_ELEMENTDATA" "[Ljava/lang/Object;")) (.int 0), .eq (.static "java/lang/String" "COMPACT_STRINGS" "Z") (.int 1), .isRef (.static "jdk/internal/util/Preconditions" "SIOOBE_FORMATTER" "Ljava/util/function/BiFunction;"), .isRef (.mirror "[Ljava/lang/Object;"), .exactly (.string "PathHouse$Reader" 40) "java/lang/String", .eq (.field (.string "PathHouse$Reader" 40) "java/lang/String" "coder" "B") (.int 0), .arrayOf (.field (.string "PathHouse$Reader" 40) "java/lang/String" "value" "[B") .byte, .eq (.length (.field (.string "PathHouse$Reader" 40) "java/lang/String" "value" "[B")) (.int 20), .eq (.elem (.field (.string "PathHouse$Reader" 40) "java/lang/String" "value" "[B") (.int 0)) (.int 116), .eq (.elem (.field (.string "PathHouse$Reader" 40) "java/lang/String" "value" "[B") (.int 1)) (.int 104), .eq (.elem (.field (.string "PathHouse$Reader" 40) "java/lang/String" "value" "[B") (.int 2)) (.int 101), .eq (.elem (.field (.string "PathHouse$Reader" 40) "java/lang/String" "value" "[B") (.int 3)) (.int 32), .eq (.elem (.field (.string "PathHouse$Reader" 40) "java/lang/String" "value" "[B") (.int 4)) (.int 116), .eq (.elem (.field (.string "PathHouse$Reader" 40) "java/lang/String" "value" "[B") (.int 5)) (.int 101), .eq (.elem (.field (.string "PathHouse$Reader" 40) "java/lang/String" "value" "[B") (.int 6)) (.int 120), .eq (.elem (.field (.string "PathHouse$Reader" 40) "java/lang/String" "value" "[B") (.int 7)) (.int 116), .eq (.elem (.field (.string "PathHouse$Reader" 40) "java/lang/String" "value" "[B") (.int 8)) (.int 32), .eq (.elem (.field (.string "PathHouse$Reader" 40) "java/lang/String" "value" "[B") (.int 9)) (.int 104), .eq (.elem (.field (.string "PathHouse$Reader" 40) "java/lang/String" "value" "[B") (.int 10)) (.int 97), .eq (.elem (.field (.string "PathHouse$Reader" 40) "java/lang/String" "value" "[B") (.int 11)) (.int 115), .eq (.elem (.field (.string "PathHouse$Reader" 40) "java/lang/String" "value" "[B") (.int 12)) (.int 32), .eq (.elem (.field (.string "PathHouse$Reader" 40) "java/lang/String" "value" "[B") (.int 13)) (.int 97), .eq (.elem (.field (.string "PathHouse$Reader" 40) "java/lang/String" "value" "[B") (.int 14)) (.int 32), .eq (.elem (.field (.string "PathHouse$Reader" 40) "java/lang/String" "value" "[B") (.int 15)) (.int 102), .eq (.elem (.field (.string "PathHouse$Reader" 40) "java/lang/String" "value" "[B") (.int 16)) (.int 97), .eq (.elem (.field (.string "PathHouse$Reader" 40) "java/lang/String" "value" "[B") (.int 17)) (.int 117), .eq (.elem (.field (.string "PathHouse$Reader" 40) "java/lang/String" "value" "[B") (.int 18)) (.int 108), .eq (.elem (.field (.string "PathHouse$Reader" 40) "java/lang/String" "value" "[B") (.int 19)) (.int 116), .exactly (.string "PathHouse$ValueReader" 73) "java/lang/String", .eq (.field (.string "PathHouse$ValueReader" 73) "java/lang/String" "coder" "B") (.int 0), .arrayOf (.field (.string "PathHouse$ValueReader" 73) "java/lang/String" "value" "[B") .byte, .eq (.length (.field (.string "PathHouse$ValueReader" 73) "java/lang/String" "value" "[B")) (.int 4), .eq (.elem (.field (.string "PathHouse$ValueReader" 73) "java/lang/String" "value" "[B") (.int 0)) (.int 110), .eq (.elem (.field (.string "PathHouse$ValueReader" 73) "java/lang/String" "value" "[B") (.int 1)) (.int 117), .eq (.elem (.field (.string "PathHouse$ValueReader" 73) "java/lang/String" "value" "[B") (.int 2)) (.int 108), .eq (.elem (.field (.string "PathHouse$ValueReader" 73) "java/lang/String" "value" "[B") (.int 3)) (.int 108), .not (.eq (.string "PathHouse$Reader" 40) (.string "PathHouse$ValueReader" 73)), .exactly (.string "PathHouse$ValueReader" 79) "java/lang/String", .eq (.field (.string "PathHouse$ValueReader" 79) "java/lang/String" "coder" "B") (.int 0), .arrayOf (.field (.string "PathHouse$ValueReader" 79) "java/lang/String" "value" "[B") .byte, .eq (.length (.field (.string "PathHouse$ValueReader" 79) "java/lang/String" "value" "[B")) (.int 5), .eq (.elem (.field (.string "PathHouse$ValueReader" 79) "java/lang/String" "value" "[B") (.int 0)) (.int 102), .eq (.elem (.field (.string "PathHouse$ValueReader" 79) "java/lang/String" "value" "[B") (.int 1)) (.int 97), .eq (.elem (.field (.string "PathHouse$ValueReader" 79) "java/lang/String" "value" "[B") (.int 2)) (.int 108), .eq (.elem (.field (.string "PathHouse$ValueReader" 79) "java/lang/String" "value" "[B") (.int 3)) (.int 115), .eq (.elem (.field (.string "PathHouse$ValueReader" 79) "java/lang/String" "value" "[B") (.int 4)) (.int 101), .not (.eq (.string "PathHouse$Reader" 40) (.string "PathHouse$ValueReader" 79)), .not (.eq (.string "PathHouse$ValueReader" 73) (.string "PathHouse$ValueReader" 79)), .exactly (.string "PathHouse$ValueReader" 81) "java/lang/String", .eq (.field (.string "PathHouse$ValueReader" 81) "java/lang/String" "coder" "B") (.int 0), .arrayOf (.field (.string "PathHouse$ValueReader" 81) "java/lang/String" "value" "[B") .byte, .eq (.length (.field (.string "PathHouse$ValueReader" 81) "java/lang/String" "value" "[B")) (.int 4), .eq (.elem (.field (.string "PathHouse$ValueReader" 81) "java/lang/String" "value" "[B") (.int 0)) (.int 116), .eq (.elem (.field (.string "PathHouse$ValueReader" 81) "java/lang/String" "value" "[B") (.int 1)) (.int 114), .eq (.elem (.field (.string "PathHouse$ValueReader" 81) "java/lang/String" "value" "[B") (.int 2)) (.int 117), .eq (.elem (.field (.string "PathHouse$ValueReader" 81) "java/lang/String" "value" "[B") (.int 3)) (.int 101), .not (.eq (.string "PathHouse$Reader" 40) (.string "PathHouse$ValueReader" 81)), .not (.eq (.string "PathHouse$ValueReader" 73) (.string "PathHouse$ValueReader" 81)), .not (.eq (.string "PathHouse$ValueReader" 79) (.string "PathHouse$ValueReader" 81)), .exactly (.string "PathHouse$QueryReader" 304) "java/lang/String", .eq (.field (.string "PathHouse$QueryReader" 304) "java/lang/String" "coder" "B") (.int 0), .arrayOf (.field (.string "PathHouse$QueryReader" 304) "java/lang/String" "value" "[B") .byte, .eq (.length (.field (.string "PathHouse$QueryReader" 304) "java/lang/String" "value" "[B")) (.int 6), .eq (.elem (.field (.string "PathHouse$QueryReader" 304) "java/lang/String" "value" "[B") (.int 0)) (.int 108), .eq (.elem (.field (.string "PathHouse$QueryReader" 304) "java/lang/String" "value" "[B") (.int 1)) (.int 101), .eq (.elem (.field (.string "PathHouse$QueryReader" 304) "java/lang/String" "value" "[B") (.int 2)) (.int 110), .eq (.elem (.field (.string "PathHouse$QueryReader" 304) "java/lang/String" "value" "[B") (.int 3)) (.int 103), .eq (.elem (.field (.string "PathHouse$QueryReader" 304) "java/lang/String" "value" "[B") (.int 4)) (.int 116), .eq (.elem (.field (.string "PathHouse$QueryReader" 304) "java/lang/String" "value" "[B") (.int 5)) (.int 104), .not (.eq (.string "PathHouse$Reader" 40) (.string "PathHouse$QueryReader" 304)), .not (.eq (.string "PathHouse$ValueReader" 73) (.string "PathHouse$QueryReader" 304)), .not (.eq (.string "PathHouse$ValueReader" 79) (.string "PathHouse$QueryReader" 304)), .not (.eq (.string "PathHouse$ValueReader" 81) (.string "PathHouse$QueryReader" 304)), .exactly (.string "PathHouse$QueryReader" 306) "java/lang/String", .eq (.field (.string "PathHouse$QueryReader" 306) "java/lang/String" "coder" "B") (.int 0), .arrayOf (.field (.string "PathHouse$QueryReader" 306) "java/lang/String" "value" "[B") .byte, .eq (.length (.field (.string "PathHouse$QueryReader" 306) "java/lang/String" "value" "[B")) (.int 5), .eq (.elem (.field (.string "PathHouse$QueryReader" 306) "java/lang/String" "value" "[B") (.int 0)) (.int 99), .eq (.elem (.field (.string "PathHouse$QueryReader" 306) "java/lang/String" "value" "[B") (.int 1)) (.int 111), .eq (.elem (.field (.string "PathHouse$QueryReader" 306) "java/lang/String" "value" "[B") (.int 2)) (.int 117), .eq (.elem (.field (.string "PathHouse$QueryReader" 306) "java/lang/String" "value" "[B") (.int 3)) (.int 110), .eq (.elem (.field (.string "PathHouse$QueryReader" 306) "java/lang/String" "value" "[B") (.int 4)) (.int 116), .not (.eq (.string "PathHouse$Reader" 40) (.string "PathHouse$QueryReader" 306)), .not (.eq (.string "PathHouse$ValueReader" 73) (.string "PathHouse$QueryReader" 306)), .not (.eq (.string "PathHouse$ValueReader" 79) (.string "PathHouse$QueryReader" 306)), .not (.eq (.string "PathHouse$ValueReader" 81) (.string "PathHouse$QueryReader" 306)), .not (.eq (.string "PathHouse$QueryReader" 304) (.string "PathHouse$QueryReader" 306)), .exactly (.string "PathHouse$QueryReader" 308) "java/lang/String", .eq (.field (.string "PathHouse$QueryReader" 308) "java/lang/String" "coder" "B") (.int 0), .arrayOf (.field (.string "PathHouse$QueryReader" 308) "java/lang/String" "value" "[B") .byte, .eq (.length (.field (.string "PathHouse$QueryReader" 308) "java/lang/String" "value" "[B")) (.int 5), .eq (.elem (.field (.string "PathHouse$QueryReader" 308) "java/lang/String" "value" "[B") (.int 0)) (.int 118), .eq (.elem (.field (.string "PathHouse$QueryReader" 308) "java/lang/String" "value" "[B") (.int 1)) (.int 97), .eq (.elem (.field (.string "PathHouse$QueryReader" 308) "java/lang/String" "value" "[B") (.int 2)) (.int 108), .eq (.elem (.field (.string "PathHouse$QueryReader" 308) "java/lang/String" "value" "[B") (.int 3)) (.int 117), .eq (.elem (.field (.string "PathHouse$QueryReader" 308) "java/lang/String" "value" "[B") (.int 4)) (.int 101), .not (.eq (.string "PathHouse$Reader" 40) (.string "PathHouse$QueryReader" 308)), .not (.eq (.string "PathHouse$ValueReader" 73) (.string "PathHouse$QueryReader" 308)), .not (.eq (.string "PathHouse$ValueReader" 79) (.string "PathHouse$QueryReader" 308)), .not (.eq (.string "PathHouse$ValueReader" 81) (.string "PathHouse$QueryReader" 308)), .not (.eq (.string "PathHouse$QueryReader" 304) (.string "PathHouse$QueryReader" 308)), .not (.eq (.string "PathHouse$QueryReader" 306) (.string "PathHouse$QueryReader" 308)), .exactly (.string "PathHouse$QueryReader" 283) "java/lang/String", .eq (.string "PathHouse$ValueReader" 73) (.string "PathHouse$QueryReader" 283), .exactly (.string "PathHouse$QueryReader" 289) "java/lang/String", .eq (.string "PathHouse$ValueReader" 79) (.string "PathHouse$QueryReader" 289), .exactly (.string "PathHouse$QueryReader" 291) "java/lang/String", .eq (.string "PathHouse$ValueReader" 81) (.string "PathHouse$QueryReader" 291), .exactly (.string "PathHouse$Finder" 49) "java/lang/String", .eq (.field (.string "PathHouse$Finder" 49) "java/lang/String" "coder" "B") (.int 0), .arrayOf (.field (.string "PathHouse$Finder" 49) "java/lang/String" "value" "[B") .byte, .eq (.length (.field (.string "PathHouse$Finder" 49) "java/lang/String" "value" "[B")) (.int 18), .eq (.elem (.field (.string "PathHouse$Finder" 49) "java/lang/String" "value" "[B") (.int 0)) (.int 116), .eq (.elem (.field (.string "PathHouse$Finder" 49) "java/lang/String" "value" "[B") (.int 1)) (.int 104), .eq (.elem (.field (.string "PathHouse$Finder" 49) "java/lang/String" "value" "[B") (.int 2)) (.int 101), .eq (.elem (.field (.string "PathHouse$Finder" 49) "java/lang/String" "value" "[B") (.int 3)) (.int 32), .eq (.elem (.field (.string "PathHouse$Finder" 49) "java/lang/String" "value" "[B") (.int 4)) (.int 102), .eq (.elem (.field (.string "PathHouse$Finder" 49) "java/lang/String" "value" "[B") (.int 5)) (.int 105), .eq (.elem (.field (.string "PathHouse$Finder" 49) "java/lang/String" "value" "[B") (.int 6)) (.int 110), .eq (.elem (.field (.string "PathHouse$Finder" 49) "java/lang/String" "value" "[B") (.int 7)) (.int 100), .eq (.elem (.field (.string "PathHouse$Finder" 49) "java/lang/String" "value" "[B") (.int 8)) (.int 32), .eq (.elem (.field (.string "PathHouse$Finder" 49) "java/lang/String" "value" "[B") (.int 9)) (.int 101), .eq (.elem (.field (.string "PathHouse$Finder" 49) "java/lang/String" "value" "[B") (.int 10)) (.int 110), .eq (.elem (.field (.string "PathHouse$Finder" 49) "java/lang/String" "value" "[B") (.int 11)) (.int 100), .eq (.elem (.field (.string "PathHouse$Finder" 49) "java/lang/String" "value" "[B") (.int 12)) (.int 115), .eq (.elem (.field (.string "PathHouse$Finder" 49) "java/lang/String" "value" "[B") (.int 13)) (.int 32), .eq (.elem (.field (.string "PathHouse$Finder" 49) "java/lang/String" "value" "[B") (.int 14)) (.int 104), .eq (.elem (.field (.string "PathHouse$Finder" 49) "java/lang/String" "value" "[B") (.int 15)) (.int 101), .eq (.elem (.field (.string "PathHouse$Finder" 49) "java/lang/String" "value" "[B") (.int 16)) (.int 114), .eq (.elem (.field (.string "PathHouse$Finder" 49) "java/lang/String" "value" "[B") (.int 17)) (.int 101), .not (.eq (.string "PathHouse$Reader" 40) (.string "PathHouse$Finder" 49)), .not (.eq (.string "PathHouse$ValueReader" 73) (.string "PathHouse$Finder" 49)), .not (.eq (.string "PathHouse$ValueReader" 79) (.string "PathHouse$Finder" 49)), .not (.eq (.string "PathHouse$ValueReader" 81) (.string "PathHouse$Finder" 49)), .not (.eq (.string "PathHouse$QueryReader" 304) (.string "PathHouse$Finder" 49)), .not (.eq (.string "PathHouse$QueryReader" 306) (.string "PathHouse$Finder" 49)), .not (.eq (.string "PathHouse$QueryReader" 308) (.string "PathHouse$Finder" 49)), .exactly (.string "PathHouse$Out" 53) "java/lang/String", .eq (.field (.string "PathHouse$Out" 53) "java/lang/String" "coder" "B") (.int 0), .arrayOf (.field (.string "PathHouse$Out" 53) "java/lang/String" "value" "[B") .byte, .eq (.length (.field (.string "PathHouse$Out" 53) "java/lang/String" "value" "[B")) (.int 3), .eq (.elem (.field (.string "PathHouse$Out" 53) "java/lang/String" "value" "[B") (.int 0)) (.int 117), .eq (.elem (.field (.string "PathHouse$Out" 53) "java/lang/String" "value" "[B") (.int 1)) (.int 48), .eq (.elem (.field (.string "PathHouse$Out" 53) "java/lang/String" "value" "[B") (.int 2)) (.int 48), .not (.eq (.string "PathHouse$Reader" 40) (.string "PathHouse$Out" 53)), .not (.eq (.string "PathHouse$ValueReader" 73) (.string "PathHouse$Out" 53)), .not (.eq (.string "PathHouse$ValueReader" 79) (.string "PathHouse$Out" 53)), .not (.eq (.string "PathHouse$ValueReader" 81) (.string "PathHouse$Out" 53)), .not (.eq (.string "PathHouse$QueryReader" 304) (.string "PathHouse$Out" 53)), .not (.eq (.string "PathHouse$QueryReader" 306) (.string "PathHouse$Out" 53)), .not (.eq (.string "PathHouse$QueryReader" 308) (.string "PathHouse$Out" 53)), .not (.eq (.string "PathHouse$Finder" 49) (.string "PathHouse$Out" 53)), .exactly (.string "PathHouse$Out" 88) "java/lang/String", .eq (.string "PathHouse$ValueReader" 73) (.string "PathHouse$Out" 88), .exactly (.string "PathHouse$Out" 90) "java/lang/String", .eq (.string "PathHouse$ValueReader" 79) (.string "PathHouse$Out" 90), .exactly (.string "PathHouse$Out" 92) "java/lang/String", .eq (.string "PathHouse$ValueReader" 81) (.string "PathHouse$Out" 92), .exactly (.string "PathHouse" 141) "java/lang/String", .eq (.field (.string "PathHouse" 141) "java/lang/String" "coder" "B") (.int 0), .arrayOf (.field (.string "PathHouse" 141) "java/lang/String" "value" "[B") .byte, .eq (.length (.field (.string "PathHouse" 141) "java/lang/String" "value" "[B")) (.int 20), .eq (.elem (.field (.string "PathHouse" 141) "java/lang/String" "value" "[B") (.int 0)) (.int 79), .eq (.elem (.field (.string "PathHouse" 141) "java/lang/String" "value" "[B") (.int 1)) (.int 85), .eq (.elem (.field (.string "PathHouse" 141) "java/lang/String" "value" "[B") (.int 2)) (.int 84), .eq (.elem (.field (.string "PathHouse" 141) "java/lang/String" "value" "[B") (.int 3)) (.int 32), .eq (.elem (.field (.string "PathHouse" 141) "java/lang/String" "value" "[B") (.int 4)) (.int 104), .eq (.elem (.field (.string "PathHouse" 141) "java/lang/String" "value" "[B") (.int 5)) (.int 97), .eq (.elem (.field (.string "PathHouse" 141) "java/lang/String" "value" "[B") (.int 6)) (.int 115), .eq (.elem (.field (.string "PathHouse" 141) "java/lang/String" "value" "[B") (.int 7)) (.int 32), .eq (.elem (.field (.string "PathHouse" 141) "java/lang/String" "value" "[B") (.int 8)) (.int 110), .eq (.elem (.field (.string "PathHouse" 141) "java/lang/String" "value" "[B") (.int 9)) (.int 111), .eq (.elem (.field (.string "PathHouse" 141) "java/lang/String" "value" "[B") (.int 10)) (.int 32), .eq (.elem (.field (.string "PathHouse" 141) "java/lang/String" "value" "[B") (.int 11)) (.int 115), .eq (.elem (.field (.string "PathHouse" 141) "java/lang/String" "value" "[B") (.int 12)) (.int 117), .eq (.elem (.field (.string "PathHouse" 141) "java/lang/String" "value" "[B") (.int 13)) (.int 99), .eq (.elem (.field (.string "PathHouse" 141) "java/lang/String" "value" "[B") (.int 14)) (.int 104), .eq (.elem (.field (.string "PathHouse" 141) "java/lang/String" "value" "[B") (.int 15)) (.int 32), .eq (.elem (.field (.string "PathHouse" 141) "java/lang/String" "value" "[B") (.int 16)) (.int 98), .eq (.elem (.field (.string "PathHouse" 141) "java/lang/String" "value" "[B") (.int 17)) (.int 121), .eq (.elem (.field (.string "PathHouse" 141) "java/lang/String" "value" "[B") (.int 18)) (.int 116), .eq (.elem (.field (.string "PathHouse" 141) "java/lang/String" "value" "[B") (.int 19)) (.int 101), .not (.eq (.string "PathHouse$Reader" 40) (.string "PathHouse" 141)), .not (.eq (.string "PathHouse$ValueReader" 73) (.string "PathHouse" 141)), .not (.eq (.string "PathHouse$ValueReader" 79) (.string "PathHouse" 141)), .not (.eq (.string "PathHouse$ValueReader" 81) (.string "PathHouse" 141)), .not (.eq (.string "PathHouse$QueryReader" 304) (.string "PathHouse" 141)), .not (.eq (.string "PathHouse$QueryReader" 306) (.string "PathHouse" 141)), .not (.eq (.string "PathHouse$QueryReader" 308) (.string "PathHouse" 141)), .not (.eq (.string "PathHouse$Finder" 49) (.string "PathHouse" 141)), .not (.eq (.string "PathHouse$Out" 53) (.string "PathHouse" 141)), .exactly (.string "PathHouseModel" 204) "java/lang/String", .eq (.string "PathHouse$ValueReader" 73) (.string "PathHouseModel" 204), .exactly (.string "PathHouseModel" 212) "java/lang/String", .eq (.string "PathHouse$ValueReader" 79) (.string "PathHouseModel" 212), .exactly (.string "PathHouseModel" 214) "java/lang/String", .eq (.string "PathHouse$ValueReader" 81) (.string "PathHouseModel" 214), .exactly (.string "PathHouseModel" 390) "java/lang/String", .eq (.string "PathHouse$QueryReader" 304) (.string "PathHouseModel" 390), .exactly (.string "PathHouseModel" 391) "java/lang/String", .eq (.string "PathHouse$QueryReader" 306) (.string "PathHouseModel" 391), .exactly (.string "PathHouseModel" 393) "java/lang/String", .eq (.string "PathHouse$QueryReader" 308) (.string "PathHouseModel" 393)]
def nrF : List Cond := flatC (Jvm.Cond.and given_1 narrow_1)
set_option maxRecDepth 100000 in
theorem nrl_sub : nrl.isSublist nrF = true := by decide +kernel
theorem nrl_in : ∀ w ∈ nrl, w ∈ nrF := fun w hw => (List.isSublist_iff_sublist.mp nrl_sub).subset hw
def nar (A : Array Value) (s : State) : Prop := ∀ w ∈ nrl, w.before A s = true
theorem nar_of (h : (Jvm.Cond.and given_1 narrow_1).before A s = true) : nar A s := fun w hw => flat_of_before _ h w (nrl_in w hw)
theorem nx {w : Cond} {i : Nat} (hn : nar A s) (h : nrl[i]? = some w) : w.before A s = true := hn w (List.mem_of_getElem? h)
theorem sf_st (h : hts0 A s) (hn : nar A s) : ∃ g : Nat → Option Nat, ∀ q ∈ stL, va_Z q.1 q.2.1 q.2.2.1 (va_rf (g q.2.2.2)) (fun z => s.heap.size ≤ z) s s.heap := by
  have hA : ∀ a : Nat, a < s.heap.size → ¬ s.heap.size ≤ a := fun a ha => Nat.not_le.mpr ha
  obtain ⟨r0, h0⟩ := zq_rf (va_Zqof (A := fun z => s.heap.size ≤ z) (h (.laysStatic "java/lang/Throwable" "UNASSIGNED_STACK" "[Ljava/lang/StackTraceElement;") (tw2 (i := 25) rfl)) (h (.initialized "java/lang/Throwable") (tw1 (i := 8) rfl)) (nx (i := 0) hn rfl) hA)
  obtain ⟨r1, h1⟩ := zq_rf (va_Zqof (A := fun z => s.heap.size ≤ z) (h (.laysStatic "java/lang/Throwable" "SUPPRESSED_SENTINEL" "Ljava/util/List;") (tw2 (i := 27) rfl)) (h (.initialized "java/lang/Throwable") (tw1 (i := 8) rfl)) (nx (i := 1) hn rfl) hA)
  obtain ⟨r2, h2⟩ := zq_rf (va_Zqof (A := fun z => s.heap.size ≤ z) (h (.laysStatic "java/util/ArrayList" "DEFAULTCAPACITY_EMPTY_ELEMENTDATA" "[Ljava/lang/Object;") (tw2 (i := 85) rfl)) (h (.initialized "java/util/ArrayList") (tw1 (i := 19) rfl)) (nx (i := 2) hn rfl) hA)
  obtain ⟨r3, h3⟩ := zq_rf (va_Zqof (A := fun z => s.heap.size ≤ z) (h (.laysStatic "jdk/internal/util/Preconditions" "SIOOBE_FORMATTER" "Ljava/util/function/BiFunction;") (tw2 (i := 192) rfl)) (h (.initialized "jdk/internal/util/Preconditions") (tw1 (i := 22) rfl)) (nx (i := 6) hn rfl) hA)
  exact ⟨fun n => [r0, r1, r2, r3].getD n none, fa_c (h0) (fa_c (h1) (fa_c (h2) (fa_c (h3) fa_0)))⟩
theorem sf_ex (h : hts0 A s) (hn : nar A s) : vx_Zq Bundle.tN "UNASSIGNED_STACK" Bundle.steD (fun q => s.heap.size ≤ q) s s.heap ∧ vx_Zq Bundle.tN "SUPPRESSED_SENTINEL" Bundle.listD (fun q => s.heap.size ≤ q) s s.heap := by
  have hA : ∀ a : Nat, a < s.heap.size → ¬ s.heap.size ≤ a := fun a ha => Nat.not_le.mpr ha
  exact ⟨vx_Zqof (h (.laysStatic "java/lang/Throwable" "UNASSIGNED_STACK" "[Ljava/lang/StackTraceElement;") (tw2 (i := 25) rfl)) (h (.initialized "java/lang/Throwable") (tw1 (i := 8) rfl)) (nx (i := 0) hn rfl) hA, vx_Zqof (h (.laysStatic "java/lang/Throwable" "SUPPRESSED_SENTINEL" "Ljava/util/List;") (tw2 (i := 27) rfl)) (h (.initialized "java/lang/Throwable") (tw1 (i := 8) rfl)) (nx (i := 1) hn rfl) hA⟩
def tmT (i : Nat) : Term := [(.string "PathHouse" 141), (.string "PathHouse$QueryReader" 306), (.string "PathHouse$ValueReader" 79), (.string "PathHouse$QueryReader" 304), (.string "PathHouse$ValueReader" 73), (.string "PathHouse$Finder" 49), (.string "PathHouse$Reader" 40), (.string "PathHouse$ValueReader" 81), (.string "PathHouse$Out" 53), (.string "PathHouse$QueryReader" 308)].getD i (.string "" 0)
theorem tm_ex (hn : nar A s) : ∀ i : Nat, i < 10 → (Cond.exactly (tmT i) "java/lang/String").before A s = true := fun i hi => match i, hi with
  | 0, _ => (nx (i := 162) hn rfl)
  | 1, _ => (nx (i := 77) hn rfl)
  | 2, _ => (nx (i := 41) hn rfl)
  | 3, _ => (nx (i := 63) hn rfl)
  | 4, _ => (nx (i := 32) hn rfl)
  | 5, _ => (nx (i := 112) hn rfl)
  | 6, _ => (nx (i := 8) hn rfl)
  | 7, _ => (nx (i := 52) hn rfl)
  | 8, _ => (nx (i := 141) hn rfl)
  | 9, _ => (nx (i := 91) hn rfl)
  | k + 10, h => absurd h (by omega)
theorem tm_co (hn : nar A s) : ∀ i : Nat, i < 10 → (Cond.eq (.field (tmT i) "java/lang/String" "coder" "B") (.int 0)).before A s = true := fun i hi => match i, hi with
  | 0, _ => (nx (i := 163) hn rfl)
  | 1, _ => (nx (i := 78) hn rfl)
  | 2, _ => (nx (i := 42) hn rfl)
  | 3, _ => (nx (i := 64) hn rfl)
  | 4, _ => (nx (i := 33) hn rfl)
  | 5, _ => (nx (i := 113) hn rfl)
  | 6, _ => (nx (i := 9) hn rfl)
  | 7, _ => (nx (i := 53) hn rfl)
  | 8, _ => (nx (i := 142) hn rfl)
  | 9, _ => (nx (i := 92) hn rfl)
  | k + 10, h => absurd h (by omega)
theorem tm_ar (hn : nar A s) : ∀ i : Nat, i < 10 → (Cond.arrayOf (.field (tmT i) "java/lang/String" "value" "[B") .byte).before A s = true := fun i hi => match i, hi with
  | 0, _ => (nx (i := 164) hn rfl)
  | 1, _ => (nx (i := 79) hn rfl)
  | 2, _ => (nx (i := 43) hn rfl)
  | 3, _ => (nx (i := 65) hn rfl)
  | 4, _ => (nx (i := 34) hn rfl)
  | 5, _ => (nx (i := 114) hn rfl)
  | 6, _ => (nx (i := 10) hn rfl)
  | 7, _ => (nx (i := 54) hn rfl)
  | 8, _ => (nx (i := 143) hn rfl)
  | 9, _ => (nx (i := 93) hn rfl)
  | k + 10, h => absurd h (by omega)
theorem tm_le (hn : nar A s) : ∀ i : Nat, i < 10 → (Cond.eq (.length (.field (tmT i) "java/lang/String" "value" "[B")) (.int (Int32.ofNat (lenTx.getD i 0)))).before A s = true := fun i hi => match i, hi with
  | 0, _ => (nx (i := 165) hn rfl)
  | 1, _ => (nx (i := 80) hn rfl)
  | 2, _ => (nx (i := 44) hn rfl)
  | 3, _ => (nx (i := 66) hn rfl)
  | 4, _ => (nx (i := 35) hn rfl)
  | 5, _ => (nx (i := 115) hn rfl)
  | 6, _ => (nx (i := 11) hn rfl)
  | 7, _ => (nx (i := 55) hn rfl)
  | 8, _ => (nx (i := 144) hn rfl)
  | 9, _ => (nx (i := 94) hn rfl)
  | k + 10, h => absurd h (by omega)
theorem tm_el0 (hn : nar A s) : ∀ j : Nat, j < 20 → (Cond.eq (.elem (.field (tmT 0) "java/lang/String" "value" "[B") (.int (Int32.ofNat j))) (.int ((bytTx.getD 0 []).getD j 0))).before A s = true := fun j hj => match j, hj with
  | 0, _ => (nx (i := 166) hn rfl)
  | 1, _ => (nx (i := 167) hn rfl)
  | 2, _ => (nx (i := 168) hn rfl)
  | 3, _ => (nx (i := 169) hn rfl)
  | 4, _ => (nx (i := 170) hn rfl)
  | 5, _ => (nx (i := 171) hn rfl)
  | 6, _ => (nx (i := 172) hn rfl)
  | 7, _ => (nx (i := 173) hn rfl)
  | 8, _ => (nx (i := 174) hn rfl)
  | 9, _ => (nx (i := 175) hn rfl)
  | 10, _ => (nx (i := 176) hn rfl)
  | 11, _ => (nx (i := 177) hn rfl)
  | 12, _ => (nx (i := 178) hn rfl)
  | 13, _ => (nx (i := 179) hn rfl)
  | 14, _ => (nx (i := 180) hn rfl)
  | 15, _ => (nx (i := 181) hn rfl)
  | 16, _ => (nx (i := 182) hn rfl)
  | 17, _ => (nx (i := 183) hn rfl)
  | 18, _ => (nx (i := 184) hn rfl)
  | 19, _ => (nx (i := 185) hn rfl)
  | k + 20, h => absurd h (by omega)
theorem tm_el1 (hn : nar A s) : ∀ j : Nat, j < 5 → (Cond.eq (.elem (.field (tmT 1) "java/lang/String" "value" "[B") (.int (Int32.ofNat j))) (.int ((bytTx.getD 1 []).getD j 0))).before A s = true := fun j hj => match j, hj with
  | 0, _ => (nx (i := 81) hn rfl)
  | 1, _ => (nx (i := 82) hn rfl)
  | 2, _ => (nx (i := 83) hn rfl)
  | 3, _ => (nx (i := 84) hn rfl)
  | 4, _ => (nx (i := 85) hn rfl)
  | k + 5, h => absurd h (by omega)
theorem tm_el2 (hn : nar A s) : ∀ j : Nat, j < 5 → (Cond.eq (.elem (.field (tmT 2) "java/lang/String" "value" "[B") (.int (Int32.ofNat j))) (.int ((bytTx.getD 2 []).getD j 0))).before A s = true := fun j hj => match j, hj with
  | 0, _ => (nx (i := 45) hn rfl)
  | 1, _ => (nx (i := 46) hn rfl)
  | 2, _ => (nx (i := 47) hn rfl)
  | 3, _ => (nx (i := 48) hn rfl)
  | 4, _ => (nx (i := 49) hn rfl)
  | k + 5, h => absurd h (by omega)
theorem tm_el3 (hn : nar A s) : ∀ j : Nat, j < 6 → (Cond.eq (.elem (.field (tmT 3) "java/lang/String" "value" "[B") (.int (Int32.ofNat j))) (.int ((bytTx.getD 3 []).getD j 0))).before A s = true := fun j hj => match j, hj with
  | 0, _ => (nx (i := 67) hn rfl)
  | 1, _ => (nx (i := 68) hn rfl)
  | 2, _ => (nx (i := 69) hn rfl)
  | 3, _ => (nx (i := 70) hn rfl)
  | 4, _ => (nx (i := 71) hn rfl)
  | 5, _ => (nx (i := 72) hn rfl)
  | k + 6, h => absurd h (by omega)
theorem tm_el4 (hn : nar A s) : ∀ j : Nat, j < 4 → (Cond.eq (.elem (.field (tmT 4) "java/lang/String" "value" "[B") (.int (Int32.ofNat j))) (.int ((bytTx.getD 4 []).getD j 0))).before A s = true := fun j hj => match j, hj with
  | 0, _ => (nx (i := 36) hn rfl)
  | 1, _ => (nx (i := 37) hn rfl)
  | 2, _ => (nx (i := 38) hn rfl)
  | 3, _ => (nx (i := 39) hn rfl)
  | k + 4, h => absurd h (by omega)
theorem tm_el5 (hn : nar A s) : ∀ j : Nat, j < 18 → (Cond.eq (.elem (.field (tmT 5) "java/lang/String" "value" "[B") (.int (Int32.ofNat j))) (.int ((bytTx.getD 5 []).getD j 0))).before A s = true := fun j hj => match j, hj with
  | 0, _ => (nx (i := 116) hn rfl)
  | 1, _ => (nx (i := 117) hn rfl)
  | 2, _ => (nx (i := 118) hn rfl)
  | 3, _ => (nx (i := 119) hn rfl)
  | 4, _ => (nx (i := 120) hn rfl)
  | 5, _ => (nx (i := 121) hn rfl)
  | 6, _ => (nx (i := 122) hn rfl)
  | 7, _ => (nx (i := 123) hn rfl)
  | 8, _ => (nx (i := 124) hn rfl)
  | 9, _ => (nx (i := 125) hn rfl)
  | 10, _ => (nx (i := 126) hn rfl)
  | 11, _ => (nx (i := 127) hn rfl)
  | 12, _ => (nx (i := 128) hn rfl)
  | 13, _ => (nx (i := 129) hn rfl)
  | 14, _ => (nx (i := 130) hn rfl)
  | 15, _ => (nx (i := 131) hn rfl)
  | 16, _ => (nx (i := 132) hn rfl)
  | 17, _ => (nx (i := 133) hn rfl)
  | k + 18, h => absurd h (by omega)
theorem tm_el6 (hn : nar A s) : ∀ j : Nat, j < 20 → (Cond.eq (.elem (.field (tmT 6) "java/lang/String" "value" "[B") (.int (Int32.ofNat j))) (.int ((bytTx.getD 6 []).getD j 0))).before A s = true := fun j hj => match j, hj with
  | 0, _ => (nx (i := 12) hn rfl)
  | 1, _ => (nx (i := 13) hn rfl)
  | 2, _ => (nx (i := 14) hn rfl)
  | 3, _ => (nx (i := 15) hn rfl)
  | 4, _ => (nx (i := 16) hn rfl)
  | 5, _ => (nx (i := 17) hn rfl)
  | 6, _ => (nx (i := 18) hn rfl)
  | 7, _ => (nx (i := 19) hn rfl)
  | 8, _ => (nx (i := 20) hn rfl)
  | 9, _ => (nx (i := 21) hn rfl)
  | 10, _ => (nx (i := 22) hn rfl)
  | 11, _ => (nx (i := 23) hn rfl)
  | 12, _ => (nx (i := 24) hn rfl)
  | 13, _ => (nx (i := 25) hn rfl)
  | 14, _ => (nx (i := 26) hn rfl)
  | 15, _ => (nx (i := 27) hn rfl)
  | 16, _ => (nx (i := 28) hn rfl)
  | 17, _ => (nx (i := 29) hn rfl)
  | 18, _ => (nx (i := 30) hn rfl)
  | 19, _ => (nx (i := 31) hn rfl)
  | k + 20, h => absurd h (by omega)
theorem tm_el7 (hn : nar A s) : ∀ j : Nat, j < 4 → (Cond.eq (.elem (.field (tmT 7) "java/lang/String" "value" "[B") (.int (Int32.ofNat j))) (.int ((bytTx.getD 7 []).getD j 0))).before A s = true := fun j hj => match j, hj with
  | 0, _ => (nx (i := 56) hn rfl)
  | 1, _ => (nx (i := 57) hn rfl)
  | 2, _ => (nx (i := 58) hn rfl)
  | 3, _ => (nx (i := 59) hn rfl)
  | k + 4, h => absurd h (by omega)
theorem tm_el8 (hn : nar A s) : ∀ j : Nat, j < 3 → (Cond.eq (.elem (.field (tmT 8) "java/lang/String" "value" "[B") (.int (Int32.ofNat j))) (.int ((bytTx.getD 8 []).getD j 0))).before A s = true := fun j hj => match j, hj with
  | 0, _ => (nx (i := 145) hn rfl)
  | 1, _ => (nx (i := 146) hn rfl)
  | 2, _ => (nx (i := 147) hn rfl)
  | k + 3, h => absurd h (by omega)
theorem tm_el9 (hn : nar A s) : ∀ j : Nat, j < 5 → (Cond.eq (.elem (.field (tmT 9) "java/lang/String" "value" "[B") (.int (Int32.ofNat j))) (.int ((bytTx.getD 9 []).getD j 0))).before A s = true := fun j hj => match j, hj with
  | 0, _ => (nx (i := 95) hn rfl)
  | 1, _ => (nx (i := 96) hn rfl)
  | 2, _ => (nx (i := 97) hn rfl)
  | 3, _ => (nx (i := 98) hn rfl)
  | 4, _ => (nx (i := 99) hn rfl)
  | k + 5, h => absurd h (by omega)
theorem tm_el (hn : nar A s) : ∀ i : Nat, i < 10 → ∀ j : Nat, j < lenTx.getD i 0 → (Cond.eq (.elem (.field (tmT i) "java/lang/String" "value" "[B") (.int (Int32.ofNat j))) (.int ((bytTx.getD i []).getD j 0))).before A s = true := fun i hi => match i, hi with
  | 0, _ => tm_el0 hn
  | 1, _ => tm_el1 hn
  | 2, _ => tm_el2 hn
  | 3, _ => tm_el3 hn
  | 4, _ => tm_el4 hn
  | 5, _ => tm_el5 hn
  | 6, _ => tm_el6 hn
  | 7, _ => tm_el7 hn
  | 8, _ => tm_el8 hn
  | 9, _ => tm_el9 hn
  | k + 10, h => absurd h (by omega)
def neT (A : Array Value) (s : State) (i j : Nat) : Prop := (Cond.not (Cond.eq (tmT i) (tmT j))).before A s = true ∨ (Cond.not (Cond.eq (tmT j) (tmT i))).before A s = true
theorem tm_ne0 (hn : nar A s) : ∀ j : Nat, j < 10 → 0 ≠ j → neT A s 0 j := fun j hj h => match j, hj, h with
  | 0, _, h => absurd rfl h
  | 1, _, _ => Or.inr (nx (i := 191) hn rfl)
  | 2, _, _ => Or.inr (nx (i := 188) hn rfl)
  | 3, _, _ => Or.inr (nx (i := 190) hn rfl)
  | 4, _, _ => Or.inr (nx (i := 187) hn rfl)
  | 5, _, _ => Or.inr (nx (i := 193) hn rfl)
  | 6, _, _ => Or.inr (nx (i := 186) hn rfl)
  | 7, _, _ => Or.inr (nx (i := 189) hn rfl)
  | 8, _, _ => Or.inr (nx (i := 194) hn rfl)
  | 9, _, _ => Or.inr (nx (i := 192) hn rfl)
  | k + 10, h, _ => absurd h (by omega)
theorem tm_ne1 (hn : nar A s) : ∀ j : Nat, j < 10 → 1 ≠ j → neT A s 1 j := fun j hj h => match j, hj, h with
  | 0, _, _ => Or.inl (nx (i := 191) hn rfl)
  | 1, _, h => absurd rfl h
  | 2, _, _ => Or.inr (nx (i := 88) hn rfl)
  | 3, _, _ => Or.inr (nx (i := 90) hn rfl)
  | 4, _, _ => Or.inr (nx (i := 87) hn rfl)
  | 5, _, _ => Or.inl (nx (i := 139) hn rfl)
  | 6, _, _ => Or.inr (nx (i := 86) hn rfl)
  | 7, _, _ => Or.inr (nx (i := 89) hn rfl)
  | 8, _, _ => Or.inl (nx (i := 153) hn rfl)
  | 9, _, _ => Or.inl (nx (i := 105) hn rfl)
  | k + 10, h, _ => absurd h (by omega)
theorem tm_ne2 (hn : nar A s) : ∀ j : Nat, j < 10 → 2 ≠ j → neT A s 2 j := fun j hj h => match j, hj, h with
  | 0, _, _ => Or.inl (nx (i := 188) hn rfl)
  | 1, _, _ => Or.inl (nx (i := 88) hn rfl)
  | 2, _, h => absurd rfl h
  | 3, _, _ => Or.inl (nx (i := 75) hn rfl)
  | 4, _, _ => Or.inr (nx (i := 51) hn rfl)
  | 5, _, _ => Or.inl (nx (i := 136) hn rfl)
  | 6, _, _ => Or.inr (nx (i := 50) hn rfl)
  | 7, _, _ => Or.inl (nx (i := 62) hn rfl)
  | 8, _, _ => Or.inl (nx (i := 150) hn rfl)
  | 9, _, _ => Or.inl (nx (i := 102) hn rfl)
  | k + 10, h, _ => absurd h (by omega)
theorem tm_ne3 (hn : nar A s) : ∀ j : Nat, j < 10 → 3 ≠ j → neT A s 3 j := fun j hj h => match j, hj, h with
  | 0, _, _ => Or.inl (nx (i := 190) hn rfl)
  | 1, _, _ => Or.inl (nx (i := 90) hn rfl)
  | 2, _, _ => Or.inr (nx (i := 75) hn rfl)
  | 3, _, h => absurd rfl h
  | 4, _, _ => Or.inr (nx (i := 74) hn rfl)
  | 5, _, _ => Or.inl (nx (i := 138) hn rfl)
  | 6, _, _ => Or.inr (nx (i := 73) hn rfl)
  | 7, _, _ => Or.inr (nx (i := 76) hn rfl)
  | 8, _, _ => Or.inl (nx (i := 152) hn rfl)
  | 9, _, _ => Or.inl (nx (i := 104) hn rfl)
  | k + 10, h, _ => absurd h (by omega)
theorem tm_ne4 (hn : nar A s) : ∀ j : Nat, j < 10 → 4 ≠ j → neT A s 4 j := fun j hj h => match j, hj, h with
  | 0, _, _ => Or.inl (nx (i := 187) hn rfl)
  | 1, _, _ => Or.inl (nx (i := 87) hn rfl)
  | 2, _, _ => Or.inl (nx (i := 51) hn rfl)
  | 3, _, _ => Or.inl (nx (i := 74) hn rfl)
  | 4, _, h => absurd rfl h
  | 5, _, _ => Or.inl (nx (i := 135) hn rfl)
  | 6, _, _ => Or.inr (nx (i := 40) hn rfl)
  | 7, _, _ => Or.inl (nx (i := 61) hn rfl)
  | 8, _, _ => Or.inl (nx (i := 149) hn rfl)
  | 9, _, _ => Or.inl (nx (i := 101) hn rfl)
  | k + 10, h, _ => absurd h (by omega)
theorem tm_ne5 (hn : nar A s) : ∀ j : Nat, j < 10 → 5 ≠ j → neT A s 5 j := fun j hj h => match j, hj, h with
  | 0, _, _ => Or.inl (nx (i := 193) hn rfl)
  | 1, _, _ => Or.inr (nx (i := 139) hn rfl)
  | 2, _, _ => Or.inr (nx (i := 136) hn rfl)
  | 3, _, _ => Or.inr (nx (i := 138) hn rfl)
  | 4, _, _ => Or.inr (nx (i := 135) hn rfl)
  | 5, _, h => absurd rfl h
  | 6, _, _ => Or.inr (nx (i := 134) hn rfl)
  | 7, _, _ => Or.inr (nx (i := 137) hn rfl)
  | 8, _, _ => Or.inl (nx (i := 155) hn rfl)
  | 9, _, _ => Or.inr (nx (i := 140) hn rfl)
  | k + 10, h, _ => absurd h (by omega)
theorem tm_ne6 (hn : nar A s) : ∀ j : Nat, j < 10 → 6 ≠ j → neT A s 6 j := fun j hj h => match j, hj, h with
  | 0, _, _ => Or.inl (nx (i := 186) hn rfl)
  | 1, _, _ => Or.inl (nx (i := 86) hn rfl)
  | 2, _, _ => Or.inl (nx (i := 50) hn rfl)
  | 3, _, _ => Or.inl (nx (i := 73) hn rfl)
  | 4, _, _ => Or.inl (nx (i := 40) hn rfl)
  | 5, _, _ => Or.inl (nx (i := 134) hn rfl)
  | 6, _, h => absurd rfl h
  | 7, _, _ => Or.inl (nx (i := 60) hn rfl)
  | 8, _, _ => Or.inl (nx (i := 148) hn rfl)
  | 9, _, _ => Or.inl (nx (i := 100) hn rfl)
  | k + 10, h, _ => absurd h (by omega)
theorem tm_ne7 (hn : nar A s) : ∀ j : Nat, j < 10 → 7 ≠ j → neT A s 7 j := fun j hj h => match j, hj, h with
  | 0, _, _ => Or.inl (nx (i := 189) hn rfl)
  | 1, _, _ => Or.inl (nx (i := 89) hn rfl)
  | 2, _, _ => Or.inr (nx (i := 62) hn rfl)
  | 3, _, _ => Or.inl (nx (i := 76) hn rfl)
  | 4, _, _ => Or.inr (nx (i := 61) hn rfl)
  | 5, _, _ => Or.inl (nx (i := 137) hn rfl)
  | 6, _, _ => Or.inr (nx (i := 60) hn rfl)
  | 7, _, h => absurd rfl h
  | 8, _, _ => Or.inl (nx (i := 151) hn rfl)
  | 9, _, _ => Or.inl (nx (i := 103) hn rfl)
  | k + 10, h, _ => absurd h (by omega)
theorem tm_ne8 (hn : nar A s) : ∀ j : Nat, j < 10 → 8 ≠ j → neT A s 8 j := fun j hj h => match j, hj, h with
  | 0, _, _ => Or.inl (nx (i := 194) hn rfl)
  | 1, _, _ => Or.inr (nx (i := 153) hn rfl)
  | 2, _, _ => Or.inr (nx (i := 150) hn rfl)
  | 3, _, _ => Or.inr (nx (i := 152) hn rfl)
  | 4, _, _ => Or.inr (nx (i := 149) hn rfl)
  | 5, _, _ => Or.inr (nx (i := 155) hn rfl)
  | 6, _, _ => Or.inr (nx (i := 148) hn rfl)
  | 7, _, _ => Or.inr (nx (i := 151) hn rfl)
  | 8, _, h => absurd rfl h
  | 9, _, _ => Or.inr (nx (i := 154) hn rfl)
  | k + 10, h, _ => absurd h (by omega)
theorem tm_ne9 (hn : nar A s) : ∀ j : Nat, j < 10 → 9 ≠ j → neT A s 9 j := fun j hj h => match j, hj, h with
  | 0, _, _ => Or.inl (nx (i := 192) hn rfl)
  | 1, _, _ => Or.inr (nx (i := 105) hn rfl)
  | 2, _, _ => Or.inr (nx (i := 102) hn rfl)
  | 3, _, _ => Or.inr (nx (i := 104) hn rfl)
  | 4, _, _ => Or.inr (nx (i := 101) hn rfl)
  | 5, _, _ => Or.inl (nx (i := 140) hn rfl)
  | 6, _, _ => Or.inr (nx (i := 100) hn rfl)
  | 7, _, _ => Or.inr (nx (i := 103) hn rfl)
  | 8, _, _ => Or.inl (nx (i := 154) hn rfl)
  | 9, _, h => absurd rfl h
  | k + 10, h, _ => absurd h (by omega)
theorem tm_ne (hn : nar A s) : ∀ i j : Nat, i < 10 → j < 10 → i ≠ j → neT A s i j := fun i j hi hj h => match i, hi, h with
  | 0, _, h => tm_ne0 hn j hj h
  | 1, _, h => tm_ne1 hn j hj h
  | 2, _, h => tm_ne2 hn j hj h
  | 3, _, h => tm_ne3 hn j hj h
  | 4, _, h => tm_ne4 hn j hj h
  | 5, _, h => tm_ne5 hn j hj h
  | 6, _, h => tm_ne6 hn j hj h
  | 7, _, h => tm_ne7 hn j hj h
  | 8, _, h => tm_ne8 hn j hj h
  | 9, _, h => tm_ne9 hn j hj h
  | k + 10, h, _ => absurd h (by omega)
theorem sf_str (h : hts0 A s) (hn : nar A s) : ∃ g : Nat → Nat → Nat, ∀ mi : Nat, (∀ q ∈ strL, vk_R q.1 q.2.1 q.2.2.1 (g mi q.2.2.2) s) ∧ vk_S 10 lenTx bytTx (g mi) (fun n => g mi (n + 10)) (fun z => s.heap.size ≤ z) s s.heap ∧ g mi 20 = mi := by
  obtain ⟨adK, adV, hS, hev⟩ := vk_Sof (A := fun z => s.heap.size ≤ z) (len := lenTx) (byt := bytTx) (N := 10) (tm := tmT) (fun i hi => by match i, hi with | 0, _ => decide | 1, _ => decide | 2, _ => decide | 3, _ => decide | 4, _ => decide | 5, _ => decide | 6, _ => decide | 7, _ => decide | 8, _ => decide | 9, _ => decide | k + 10, h => exact absurd h (by omega)) (tm_ex hn) (tm_co hn) (tm_ar hn) (tm_le hn) (tm_el hn) (tm_ne hn) (fun a ha => Nat.not_le.mpr ha)
  refine ⟨fun mi n => if n < 10 then adK n else if n < 20 then adV (n - 10) else mi, fun mi => ⟨fa_c (vk_R.of (h (.stringRef "PathHouse$Reader" 40 "the text has a fault") (tw2 (i := 40) rfl)) (hev 6 (by omega))) (fa_c (vk_R.of (h (.stringRef "PathHouse$ValueReader" 73 "null") (tw2 (i := 162) rfl)) (hev 4 (by omega))) (fa_c (vk_R.of (h (.stringRef "PathHouse$ValueReader" 79 "false") (tw2 (i := 220) rfl)) (hev 2 (by omega))) (fa_c (vk_R.of (h (.stringRef "PathHouse$ValueReader" 81 "true") (tw2 (i := 221) rfl)) (hev 7 (by omega))) (fa_c (vk_R.of (h (.stringRef "PathHouse$QueryReader" 304 "length") (tw4 (i := 170) rfl)) (hev 3 (by omega))) (fa_c (vk_R.of (h (.stringRef "PathHouse$QueryReader" 306 "count") (tw4 (i := 175) rfl)) (hev 1 (by omega))) (fa_c (vk_R.of (h (.stringRef "PathHouse$QueryReader" 308 "value") (tw4 (i := 176) rfl)) (hev 9 (by omega))) (fa_c (vk_R.of (h (.stringRef "PathHouse$QueryReader" 283 "null") (tw4 (i := 205) rfl)) (str_eq (hev 4 (by omega)) (nx (i := 107) hn rfl) (nx (i := 106) hn rfl))) (fa_c (vk_R.of (h (.stringRef "PathHouse$QueryReader" 289 "false") (tw4 (i := 209) rfl)) (str_eq (hev 2 (by omega)) (nx (i := 109) hn rfl) (nx (i := 108) hn rfl))) (fa_c (vk_R.of (h (.stringRef "PathHouse$QueryReader" 291 "true") (tw4 (i := 210) rfl)) (str_eq (hev 7 (by omega)) (nx (i := 111) hn rfl) (nx (i := 110) hn rfl))) (fa_c (vk_R.of (h (.stringRef "PathHouse$Finder" 49 "the find ends here") (tw5 (i := 59) rfl)) (hev 5 (by omega))) (fa_c (vk_R.of (h (.stringRef "PathHouse$Out" 53 "u00") (tw5 (i := 235) rfl)) (hev 8 (by omega))) (fa_c (vk_R.of (h (.stringRef "PathHouse$Out" 88 "null") (tw6 (i := 24) rfl)) (str_eq (hev 4 (by omega)) (nx (i := 157) hn rfl) (nx (i := 156) hn rfl))) (fa_c (vk_R.of (h (.stringRef "PathHouse$Out" 90 "false") (tw6 (i := 25) rfl)) (str_eq (hev 2 (by omega)) (nx (i := 159) hn rfl) (nx (i := 158) hn rfl))) (fa_c (vk_R.of (h (.stringRef "PathHouse$Out" 92 "true") (tw6 (i := 26) rfl)) (str_eq (hev 7 (by omega)) (nx (i := 161) hn rfl) (nx (i := 160) hn rfl))) (fa_c (vk_R.of (h (.stringRef "PathHouse" 141 "OUT has no such byte") (tw6 (i := 66) rfl)) (hev 0 (by omega))) (fa_c (vk_R.of (h (.stringRef "PathHouseModel" 204 "null") (tw7 (i := 142) rfl)) (str_eq (hev 4 (by omega)) (nx (i := 196) hn rfl) (nx (i := 195) hn rfl))) (fa_c (vk_R.of (h (.stringRef "PathHouseModel" 212 "false") (tw7 (i := 153) rfl)) (str_eq (hev 2 (by omega)) (nx (i := 198) hn rfl) (nx (i := 197) hn rfl))) (fa_c (vk_R.of (h (.stringRef "PathHouseModel" 214 "true") (tw7 (i := 154) rfl)) (str_eq (hev 7 (by omega)) (nx (i := 200) hn rfl) (nx (i := 199) hn rfl))) (fa_c (vk_R.of (h (.stringRef "PathHouseModel" 390 "length") (tw8 (i := 62) rfl)) (str_eq (hev 3 (by omega)) (nx (i := 202) hn rfl) (nx (i := 201) hn rfl))) (fa_c (vk_R.of (h (.stringRef "PathHouseModel" 391 "count") (tw8 (i := 67) rfl)) (str_eq (hev 1 (by omega)) (nx (i := 204) hn rfl) (nx (i := 203) hn rfl))) (fa_c (vk_R.of (h (.stringRef "PathHouseModel" 393 "value") (tw8 (i := 68) rfl)) (str_eq (hev 9 (by omega)) (nx (i := 206) hn rfl) (nx (i := 205) hn rfl))) fa_0))))))))))))))))))))), ⟨fun i hi => ?_, fun i j hi hj e => ?_⟩, rfl⟩⟩
  · have e1 : (if i < 10 then adK i else if i < 20 then adV (i - 10) else mi) = adK i := if_pos hi
    have e2 : (if i + 10 < 10 then adK (i + 10) else if i + 10 < 20 then adV (i + 10 - 10) else mi) = adV i := by rw [if_neg (by omega), if_pos (by omega), Nat.add_sub_cancel]
    dsimp only
    rw [e1, e2]
    exact hS.1 i hi
  · dsimp only at e
    rw [if_pos hi, if_pos hj] at e
    exact hS.2 i j hi hj e
theorem sf_cs (h : hts0 A s) (hn : nar A s) : va_Z "java/lang/String" "COMPACT_STRINGS" "Z" (.int 1) (fun z => s.heap.size ≤ z) s s.heap := va_Zof (h (.laysStatic "java/lang/String" "COMPACT_STRINGS" "Z") (tw2 (i := 176) rfl)) (h (.initialized "java/lang/String") (tw1 (i := 20) rfl)) (va_eqi (nx (i := 5) hn rfl)) (fun a ha => Nat.not_le.mpr ha)
theorem sf_d (h : hts0 A s) : ∀ w ∈ dWx, va_Nw w s := by
  exact fa_c (va_Nw.of rfl (h (.declares (Bundle.initS "java/lang/RuntimeException")) (tw2 (i := 2) rfl))) (fa_c (va_Nw.of rfl (h (.declares (Bundle.initS "java/lang/Exception")) (tw2 (i := 4) rfl))) (fa_c (va_Nw.of rfl (h (.declares (Bundle.initS "java/lang/Throwable")) (tw2 (i := 6) rfl))) fa_0))
theorem sf_more (h : hts0 A s) (hn : nar A s) {g : Nat → Option Nat} (hg : ∀ q ∈ stL, va_Z q.1 q.2.1 q.2.2.1 (va_rf (g q.2.2.2)) (fun z => s.heap.size ≤ z) s s.heap) : (∃ a, g 2 = some a ∧ va_T (.object "java/lang/Object") a 0 (fun _ => .null) (fun z => s.heap.size ≤ z) s s.heap) ∧ (∃ mi, va_Mi "[Ljava/lang/Object;" mi s) ∧ va_Dc s := by
  have hA : ∀ a : Nat, a < s.heap.size → ¬ s.heap.size ≤ a := fun a ha => Nat.not_le.mpr ha
  refine ⟨?_, va_Mi.of (nx (i := 7) hn rfl), va_Dc.of (h (.declares ⟨"java/lang/Object", "getClass", "()Ljava/lang/Class;"⟩) (tw9 (i := 26) rfl))⟩
  obtain ⟨t, ht, hT⟩ := va_Tof (N := 0) (f := fun _ => .null) (A := fun z => s.heap.size ≤ z) (by decide) (nx (i := 3) hn rfl) (va_eqt (nx (i := 4) hn rfl)) (fun j hj => absurd hj (Nat.not_lt_zero j)) hA
  refine ⟨t, ?_, hT⟩
  obtain ⟨cf, kf, fi, f, a, cell, z1, z2, z3, z4, z5, z6, z7, -⟩ := hg _ (List.mem_of_getElem? (l := stL) (i := 2) rfl)
  obtain ⟨-, a', cell', w1, w2, -, w3⟩ := Term.static_spec z1 ht
  cases z4.symm.trans w1
  cases z5.symm.trans w2
  have e := Option.some.inj (z7.symm.trans w3)
  revert e
  show va_rf (g 2) = Value.ref t → g 2 = some t
  cases g 2 with
  | none => exact fun e => by cases e
  | some y => exact fun e => by cases e; rfl
/-- all of it -/
theorem sf_all (l : Launch) {b L : Nat} {xs : Nat → Int32} (hl : l.stackTraces = false) (h : hts0 A s) (hn : nar A s) (hb : b < s.heap.size) (hX : va_X b L xs s s.heap) : ∃ C : Cx, cL C = l ∧ cB C = s.heap.size ∧ cH C = s.heap ∧ cX C = (b, L, xs) ∧ SF C s := by
  obtain ⟨D, hD⟩ := Classical.axiomOfChoice (kn_all h)
  obtain ⟨a0, a1, a2, a3, a4, a5, h0, h1, h2, h3, h4, h5⟩ := ar_all h
  obtain ⟨g, hg⟩ := sf_st h hn
  obtain ⟨z9, hz9⟩ := sf_str h hn
  obtain ⟨q1, ⟨mi, q2⟩, q3⟩ := sf_more h hn hg
  obtain ⟨hz, hV, hmi⟩ := hz9 mi
  refine ⟨(l, s.heap.size, s.heap, fun c => (D c).1, fun c => (D c).2, fun k => [a0, a1, a2, a3, a4, a5].getD k 0, z9 mi, g, b, L, xs), rfl, rfl, rfl, rfl, sf_g h, sf_n h, ⟨fun c q hq => hD c q hq, ?_⟩, sf_cast h, sf_ao h, ⟨hl, sf_ex h hn⟩, hz, hg, sf_d h, hb, hX, hV, sf_cs h hn, q1, (by show va_Mi _ (z9 mi 20) s; rw [hmi]; exact q2), q3⟩
  intro k q hk
  match k with
  | 0 => cases hk; exact h0
  | 1 => cases hk; exact h1
  | 2 => cases hk; exact h2
  | 3 => cases hk; exact h3
  | 4 => cases hk; exact h4
  | 5 => cases hk; exact h5
  | k + 6 => simp [cTys] at hk
end SFX
/-- a walk of the law's body, from its weakest precondition -/
theorem law_W {C : Cx} {p : Program} {e : Env} {s : State} {m : MethodId} {below : List Frame} {meth : Method} {c : Code} {b d nc ns : Nat} {R : Room} (hC : Ctx C MLw p s m meth c) (hB : cB C = s.heap.size) (hH : cH C = s.heap) (hb : (cX C).1 = b)
    (hR1 : frD d ≤ R.frames) (hR2 : nc ≤ R.cells) (hR3 : ns ≤ R.slots) (hR4 : loD d ≤ R.locals)
    (hw : ∀ t0 : Ht, tN t0 = s.heap.size → tU t0 = 0 → WG C MLw d t0 (fun o t => o = .inl (some (svI 1)) ∧ tN t ≤ tN t0 + nc ∧ tU t ≤ tU t0 + ns) 0 [(0, svR (some (cX C).1))] [] t0) :
    W p (cL C) e R s m #[Value.ref b] below meth c s.heap [] 0 0 (fun t => ∃ o, t.status = .running ∧ Ended t below o ∧ o = .returned (some (.int 1)) ∧ Framed s o t [] nc ns) (entryFrame m ([Value.ref b] : List Value).toArray 7) := by
  subst hb
  obtain ⟨o, t', ⟨ho, hn, hu⟩, hn0, hu0, g⟩ := hw (s.heap.size, 0, fun _ => 0, fun _ => 0, fun _ _ => 0, fun _ _ => 0, fun _ _ => none) rfl rfl
  subst ho
  have hl := lv_entry [Value.ref (cX C).1] (n := 7) (by show 1 ≤ 7; decide)
  rw [lg_entry_eq]
  generalize (lg_sl [Value.ref (cX C).1] ++ List.replicate (7 - (lg_sl [Value.ref (cX C).1]).length) Slot.unset).toArray = ls at hl ⊢
  have hR : Rel C (tv (s.heap.size, 0, fun _ => 0, fun _ => 0, fun _ _ => 0, fun _ _ => 0, fun _ _ => none)) s.heap := ⟨rfl, by rw [hB]; exact Nat.le_refl _, fun q _ => by rw [hH], fun a ha => absurd rfl ha⟩
  have k := g p e s m #[Value.ref (cX C).1] below meth c s.heap [] ls hC hR hR (Nat.le_refl _) (Nat.le_refl _) (fun _ hz => by cases hz) hl
  rw [Nat.sub_self, Nat.sub_self] at k
  intro T hT X
  have hn1 : tN t' ≤ s.heap.size + nc := hn
  have hu1 : tU t' ≤ 0 + ns := hu
  obtain ⟨tt, st, oc, r1, r2, ⟨r3, r3'⟩, r4, Ls, r5, r6⟩ := k T hT (st_room X (rm_mono X.room hR1 (by show tN t' - s.heap.size ≤ _; omega) (by show tU t' - 0 ≤ _; omega) hR4))
  have r3'' : oc = .returned (some (.int 1)) := r3'
  refine ⟨tt, st, oc, r1, r2, r3'', ⟨_, r3''⟩, r4, sbn_mono (sbn_drop r5 (fun q hq => by rw [← hB]; exact r6 q hq)) (by show tN t' - s.heap.size ≤ _; omega) (by show tU t' - 0 ≤ _; omega)⟩
