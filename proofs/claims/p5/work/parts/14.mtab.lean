/-! the methods, by number -/
theorem tw0 {w : Cond} (h : w ∈ tables_1) : w ∈ lw_tbl := List.mem_append_right _ h
theorem tw1 {w : Cond} {i : Nat} (h : tables_1_1[i]? = some w) : w ∈ lw_tbl := tw0 (List.mem_append_left _ (List.mem_of_getElem? h))
theorem tw2 {w : Cond} {i : Nat} (h : tables_1_2[i]? = some w) : w ∈ lw_tbl := tw0 (List.mem_append_right _ (List.mem_append_left _ (List.mem_of_getElem? h)))
theorem tw3 {w : Cond} {i : Nat} (h : tables_1_3[i]? = some w) : w ∈ lw_tbl := tw0 (List.mem_append_right _ (List.mem_append_right _ (List.mem_append_left _ (List.mem_of_getElem? h))))
theorem tw4 {w : Cond} {i : Nat} (h : tables_1_4[i]? = some w) : w ∈ lw_tbl := tw0 (List.mem_append_right _ (List.mem_append_right _ (List.mem_append_right _ (List.mem_append_left _ (List.mem_of_getElem? h)))))
theorem tw5 {w : Cond} {i : Nat} (h : tables_1_5[i]? = some w) : w ∈ lw_tbl := tw0 (List.mem_append_right _ (List.mem_append_right _ (List.mem_append_right _ (List.mem_append_right _ (List.mem_append_left _ (List.mem_of_getElem? h))))))
theorem tw6 {w : Cond} {i : Nat} (h : tables_1_6[i]? = some w) : w ∈ lw_tbl := tw0 (List.mem_append_right _ (List.mem_append_right _ (List.mem_append_right _ (List.mem_append_right _ (List.mem_append_right _ (List.mem_append_left _ (List.mem_of_getElem? h)))))))
theorem tw7 {w : Cond} {i : Nat} (h : tables_1_7[i]? = some w) : w ∈ lw_tbl := tw0 (List.mem_append_right _ (List.mem_append_right _ (List.mem_append_right _ (List.mem_append_right _ (List.mem_append_right _ (List.mem_append_right _ (List.mem_append_left _ (List.mem_of_getElem? h))))))))
theorem tw8 {w : Cond} {i : Nat} (h : tables_1_8[i]? = some w) : w ∈ lw_tbl := tw0 (List.mem_append_right _ (List.mem_append_right _ (List.mem_append_right _ (List.mem_append_right _ (List.mem_append_right _ (List.mem_append_right _ (List.mem_append_right _ (List.mem_append_left _ (List.mem_of_getElem? h)))))))))
theorem tw9 {w : Cond} {i : Nat} (h : tables_1_9[i]? = some w) : w ∈ lw_tbl := tw0 (List.mem_append_right _ (List.mem_append_right _ (List.mem_append_right _ (List.mem_append_right _ (List.mem_append_right _ (List.mem_append_right _ (List.mem_append_right _ (List.mem_append_right _ (List.mem_of_getElem? h)))))))))
theorem pw1 {y : MethodName} {n i : Nat} (h : lw_privs_1[i]? = some (y, n)) : Cond.selects y.cls y y ∈ lw_tbl := List.mem_append_left _ (List.mem_map.mpr ⟨(y, n), (List.mem_append_left _ (List.mem_of_getElem? h)), rfl⟩)
theorem pw2 {y : MethodName} {n i : Nat} (h : lw_privs_2[i]? = some (y, n)) : Cond.selects y.cls y y ∈ lw_tbl := List.mem_append_left _ (List.mem_map.mpr ⟨(y, n), (List.mem_append_right _ (List.mem_append_left _ (List.mem_of_getElem? h))), rfl⟩)
theorem pw3 {y : MethodName} {n i : Nat} (h : lw_privs_3[i]? = some (y, n)) : Cond.selects y.cls y y ∈ lw_tbl := List.mem_append_left _ (List.mem_map.mpr ⟨(y, n), (List.mem_append_right _ (List.mem_append_right _ (List.mem_append_left _ (List.mem_of_getElem? h)))), rfl⟩)
theorem pw4 {y : MethodName} {n i : Nat} (h : lw_privs_4[i]? = some (y, n)) : Cond.selects y.cls y y ∈ lw_tbl := List.mem_append_left _ (List.mem_map.mpr ⟨(y, n), (List.mem_append_right _ (List.mem_append_right _ (List.mem_append_right _ (List.mem_append_left _ (List.mem_of_getElem? h))))), rfl⟩)
theorem pw5 {y : MethodName} {n i : Nat} (h : lw_privs_5[i]? = some (y, n)) : Cond.selects y.cls y y ∈ lw_tbl := List.mem_append_left _ (List.mem_map.mpr ⟨(y, n), (List.mem_append_right _ (List.mem_append_right _ (List.mem_append_right _ (List.mem_append_right _ (List.mem_append_left _ (List.mem_of_getElem? h)))))), rfl⟩)
theorem pw6 {y : MethodName} {n i : Nat} (h : lw_privs_6[i]? = some (y, n)) : Cond.selects y.cls y y ∈ lw_tbl := List.mem_append_left _ (List.mem_map.mpr ⟨(y, n), (List.mem_append_right _ (List.mem_append_right _ (List.mem_append_right _ (List.mem_append_right _ (List.mem_append_right _ (List.mem_append_left _ (List.mem_of_getElem? h))))))), rfl⟩)
theorem pw7 {y : MethodName} {n i : Nat} (h : lw_privs_7[i]? = some (y, n)) : Cond.selects y.cls y y ∈ lw_tbl := List.mem_append_left _ (List.mem_map.mpr ⟨(y, n), (List.mem_append_right _ (List.mem_append_right _ (List.mem_append_right _ (List.mem_append_right _ (List.mem_append_right _ (List.mem_append_right _ (List.mem_append_left _ (List.mem_of_getElem? h)))))))), rfl⟩)
theorem pw8 {y : MethodName} {n i : Nat} (h : lw_privs_8[i]? = some (y, n)) : Cond.selects y.cls y y ∈ lw_tbl := List.mem_append_left _ (List.mem_map.mpr ⟨(y, n), (List.mem_append_right _ (List.mem_append_right _ (List.mem_append_right _ (List.mem_append_right _ (List.mem_append_right _ (List.mem_append_right _ (List.mem_append_right _ (List.mem_append_left _ (List.mem_of_getElem? h))))))))), rfl⟩)
theorem pw9 {y : MethodName} {n i : Nat} (h : lw_privs_9[i]? = some (y, n)) : Cond.selects y.cls y y ∈ lw_tbl := List.mem_append_left _ (List.mem_map.mpr ⟨(y, n), (List.mem_append_right _ (List.mem_append_right _ (List.mem_append_right _ (List.mem_append_right _ (List.mem_append_right _ (List.mem_append_right _ (List.mem_append_right _ (List.mem_append_right _ (List.mem_append_left _ (List.mem_of_getElem? h)))))))))), rfl⟩)
theorem pw10 {y : MethodName} {n i : Nat} (h : lw_privs_10[i]? = some (y, n)) : Cond.selects y.cls y y ∈ lw_tbl := List.mem_append_left _ (List.mem_map.mpr ⟨(y, n), (List.mem_append_right _ (List.mem_append_right _ (List.mem_append_right _ (List.mem_append_right _ (List.mem_append_right _ (List.mem_append_right _ (List.mem_append_right _ (List.mem_append_right _ (List.mem_append_right _ (List.mem_append_left _ (List.mem_of_getElem? h))))))))))), rfl⟩)
theorem pw11 {y : MethodName} {n i : Nat} (h : lw_privs_11[i]? = some (y, n)) : Cond.selects y.cls y y ∈ lw_tbl := List.mem_append_left _ (List.mem_map.mpr ⟨(y, n), (List.mem_append_right _ (List.mem_append_right _ (List.mem_append_right _ (List.mem_append_right _ (List.mem_append_right _ (List.mem_append_right _ (List.mem_append_right _ (List.mem_append_right _ (List.mem_append_right _ (List.mem_append_right _ (List.mem_append_left _ (List.mem_of_getElem? h)))))))))))), rfl⟩)
theorem pw12 {y : MethodName} {n i : Nat} (h : lw_privs_12[i]? = some (y, n)) : Cond.selects y.cls y y ∈ lw_tbl := List.mem_append_left _ (List.mem_map.mpr ⟨(y, n), (List.mem_append_right _ (List.mem_append_right _ (List.mem_append_right _ (List.mem_append_right _ (List.mem_append_right _ (List.mem_append_right _ (List.mem_append_right _ (List.mem_append_right _ (List.mem_append_right _ (List.mem_append_right _ (List.mem_append_right _ (List.mem_of_getElem? h)))))))))))), rfl⟩)
theorem gw {w : Cond} (h : w ∈ lw_tbl) (hg : goodWord w = true) : w ∈ gW := List.mem_filter.mpr ⟨h, hg⟩
theorem nw {w : Cond} (h : w ∈ lw_tbl) (hg : isNest w = true) : w ∈ nW := List.mem_filter.mpr ⟨h, hg⟩
theorem len_of {d : String} {na : Nat} (h : (parseMethodDescriptor d).map (fun s => s.parameters.length) = some na) : ∀ sig, parseMethodDescriptor d = some sig → na = sig.parameters.length := fun sig e => by rw [e] at h; exact (Option.some.inj h).symm
theorem eokC {y : MethodName} {bytes : ByteArray} {maxL na : Nat} {ret : Option FieldType} (h1 : Cond.code y bytes maxL ret ∈ lw_tbl) (h2 : Cond.initialized y.cls ∈ lw_tbl) (h3 : y.cls ≠ "java/lang/invoke/MethodHandle" ∧ y.cls ≠ "java/lang/invoke/VarHandle") (h4 : (parseMethodDescriptor y.desc).map (fun s => s.parameters.length) = some na) (h5 : maxL ≤ 26) : EOK (y, .code y bytes maxL ret, bytes, maxL, ret, []) na :=
  ⟨xb_is_code, fun A s h => Cond.code_named h, gw h1 rfl, gw h2 rfl, h3, len_of h4, h5⟩
theorem eokW {y : MethodName} {bytes : ByteArray} {maxL na : Nat} {ret : Option FieldType} {hh : List (Nat × Nat × Nat × Nat)} (h1 : Cond.codeWith y bytes maxL ret hh ∈ lw_tbl) (h2 : Cond.initialized y.cls ∈ lw_tbl) (h3 : y.cls ≠ "java/lang/invoke/MethodHandle" ∧ y.cls ≠ "java/lang/invoke/VarHandle") (h4 : (parseMethodDescriptor y.desc).map (fun s => s.parameters.length) = some na) (h5 : maxL ≤ 26) : EOK (y, .codeWith y bytes maxL ret hh, bytes, maxL, ret, hh) na :=
  ⟨xb_is_codeWith, fun A s h => by obtain ⟨m9, _, _, hn9, _⟩ := Cond.codeWith_spec h; exact ⟨m9, hn9⟩, gw h1 rfl, gw h2 rfl, h3, len_of h4, h5⟩
theorem kokV {q : ME} {ci : Nat} {r : vw_C} (hci : ci < 99) (h1 : Cond.instanceMethod q.1 ∈ lw_tbl) (hr : vwCl[ci]? = some r) (h2 : Cond.selects r.1 q.1 q.1 ∈ lw_tbl) : kindOK q ci :=
  ⟨fun _ => ⟨gw h1 rfl, r, hr, gw h2 rfl⟩, fun e => by omega, fun e => by omega, fun e => by omega⟩
theorem kokS {q : ME} (h1 : Cond.static q.1 ∈ lw_tbl) : kindOK q 1000 := ⟨fun e => by omega, fun _ => gw h1 rfl, fun e => by omega, fun e => by omega⟩
theorem kokI {q : ME} (h1 : Cond.instanceMethod q.1 ∈ lw_tbl) (h2 : q.1.name = "<init>") (h3 : q.2.1 = .code q.1 q.2.2.1 q.2.2.2.1 none) : kindOK q 2000 := ⟨fun e => by omega, fun e => by omega, fun _ => ⟨gw h1 rfl, h2, h3⟩, fun e => by omega⟩
theorem kokN {q : ME} : kindOK q 3000 := ⟨fun e => by omega, fun e => by omega, fun e => by omega, fun e => by omega⟩
theorem kokT {q : ME} (h1 : Cond.instanceMethod q.1 ∈ lw_tbl) (h2 : Cond.selects "java/lang/String" q.1 q.1 ∈ lw_tbl) : kindOK q 4000 := ⟨fun e => by omega, fun e => by omega, fun e => by omega, fun _ => ⟨gw h1 rfl, gw h2 rfl⟩⟩
abbrev cT_rt : ByteArray := prog_25_method_5_code
def yT_rt : MethodName := ⟨"java/lang/RuntimeException", "<init>", "(Ljava/lang/String;Ljava/lang/Throwable;ZZ)V"⟩
abbrev cT_ex : ByteArray := prog_20_method_5_code
def yT_ex : MethodName := ⟨"java/lang/Exception", "<init>", "(Ljava/lang/String;Ljava/lang/Throwable;ZZ)V"⟩
abbrev cT_th : ByteArray := prog_30_method_5_code
def yT_th : MethodName := ⟨"java/lang/Throwable", "<init>", "(Ljava/lang/String;Ljava/lang/Throwable;ZZ)V"⟩
def mE0 : ME := (yX0_init, .code yX0_init cX0_init 1 none, cX0_init, 1, none, [])
theorem cne0 : ("PathHouse$Finder" : String) ≠ "java/lang/invoke/MethodHandle" ∧ ("PathHouse$Finder" : String) ≠ "java/lang/invoke/VarHandle" := ⟨by decide, by decide⟩
theorem dsc0 : (parseMethodDescriptor "()V").map (fun s => s.parameters.length) = some 0 := by decide +kernel
theorem mK0 : EOK mE0 0 ∧ kindOK mE0 2000 := ⟨eokC (tw1 (i := 117) rfl) (tw1 (i := 5) rfl) cne0 dsc0 (by decide), kokI (tw1 (i := 116) rfl) rfl rfl⟩
def mE1 : ME := (yX0_forget, .code yX0_forget cX0_forget 1 none, cX0_forget, 1, none, [])
theorem mK1 : EOK mE1 0 ∧ kindOK mE1 1 := ⟨eokC (tw3 (i := 174) rfl) (tw1 (i := 5) rfl) cne0 dsc0 (by decide), kokV (by decide) (tw3 (i := 173) rfl) rfl (pw3 (i := 0) rfl)⟩
def mE2 : ME := (yX0_result, .code yX0_result cX0_result 2 (some (FieldType.object "PathHouse$Node")), cX0_result, 2, (some (FieldType.object "PathHouse$Node")), [])
theorem dsc1 : (parseMethodDescriptor "(I)LPathHouse$Node;").map (fun s => s.parameters.length) = some 1 := by decide +kernel
theorem mK2 : EOK mE2 1 ∧ kindOK mE2 1 := ⟨eokC (tw5 (i := 204) rfl) (tw1 (i := 5) rfl) cne0 dsc1 (by decide), kokV (by decide) (tw5 (i := 203) rfl) rfl (pw7 (i := 2) rfl)⟩
def mE3 : ME := (yX0_results, .code yX0_results cX0_results 1 (some FieldType.int), cX0_results, 1, (some FieldType.int), [])
theorem dsc2 : (parseMethodDescriptor "()I").map (fun s => s.parameters.length) = some 0 := by decide +kernel
theorem mK3 : EOK mE3 0 ∧ kindOK mE3 1 := ⟨eokC (tw5 (i := 196) rfl) (tw1 (i := 5) rfl) cne0 dsc2 (by decide), kokV (by decide) (tw5 (i := 195) rfl) rfl (pw7 (i := 1) rfl)⟩
def mE4 : ME := (yX0_run, .codeWith yX0_run cX0_run 4 (some FieldType.int) [(15, 26, 29, 40)], cX0_run, 4, (some FieldType.int), [(15, 26, 29, 40)])
theorem dsc3 : (parseMethodDescriptor "(LPathHouse$Path;LPathHouse$Node;)I").map (fun s => s.parameters.length) = some 2 := by decide +kernel
theorem mK4 : EOK mE4 2 ∧ kindOK mE4 1 := ⟨eokW (tw5 (i := 37) rfl) (tw1 (i := 5) rfl) cne0 dsc3 (by decide), kokV (by decide) (tw5 (i := 36) rfl) rfl (pw5 (i := 9) rfl)⟩
def mE5 : ME := (yX0_stop, .code yX0_stop cX0_stop 2 none, cX0_stop, 2, none, [])
theorem dsc4 : (parseMethodDescriptor "(I)V").map (fun s => s.parameters.length) = some 1 := by decide +kernel
theorem mK5 : EOK mE5 1 ∧ kindOK mE5 1 := ⟨eokC (tw5 (i := 50) rfl) (tw1 (i := 5) rfl) cne0 dsc4 (by decide), kokV (by decide) (tw5 (i := 49) rfl) rfl (pw5 (i := 12) rfl)⟩
def mE6 : ME := (yX0_look, .code yX0_look cX0_look 1 none, cX0_look, 1, none, [])
theorem mK6 : EOK mE6 0 ∧ kindOK mE6 1 := ⟨eokC (tw5 (i := 107) rfl) (tw1 (i := 5) rfl) cne0 dsc0 (by decide), kokV (by decide) (tw5 (i := 106) rfl) rfl (pw6 (i := 2) rfl)⟩
def mE7 : ME := (yX0_put, .code yX0_put cX0_put 3 none, cX0_put, 3, none, [])
theorem dsc5 : (parseMethodDescriptor "(LPathHouse$Node;LPathHouse$Row;)V").map (fun s => s.parameters.length) = some 2 := by decide +kernel
theorem mK7 : EOK mE7 2 ∧ kindOK mE7 1 := ⟨eokC (tw5 (i := 84) rfl) (tw1 (i := 5) rfl) cne0 dsc5 (by decide), kokV (by decide) (tw5 (i := 83) rfl) rfl (pw5 (i := 13) rfl)⟩
def mE8 : ME := (yX0_emptyRow, .code yX0_emptyRow cX0_emptyRow 2 (some (FieldType.object "PathHouse$Row")), cX0_emptyRow, 2, (some (FieldType.object "PathHouse$Row")), [])
theorem dsc6 : (parseMethodDescriptor "(I)LPathHouse$Row;").map (fun s => s.parameters.length) = some 1 := by decide +kernel
theorem mK8 : EOK mE8 1 ∧ kindOK mE8 1 := ⟨eokC (tw5 (i := 46) rfl) (tw1 (i := 5) rfl) cne0 dsc6 (by decide), kokV (by decide) (tw5 (i := 45) rfl) rfl (pw5 (i := 11) rfl)⟩
def mE9 : ME := (yX0_select, .code yX0_select cX0_select 9 (some (FieldType.object "PathHouse$Row")), cX0_select, 9, (some (FieldType.object "PathHouse$Row")), [])
theorem dsc7 : (parseMethodDescriptor "(LPathHouse$Path;LPathHouse$Node;I)LPathHouse$Row;").map (fun s => s.parameters.length) = some 3 := by decide +kernel
theorem mK9 : EOK mE9 3 ∧ kindOK mE9 1 := ⟨eokC (tw5 (i := 42) rfl) (tw1 (i := 5) rfl) cne0 dsc7 (by decide), kokV (by decide) (tw5 (i := 41) rfl) rfl (pw5 (i := 10) rfl)⟩
def mE10 : ME := (yX0_walk, .code yX0_walk cX0_walk 6 none, cX0_walk, 6, none, [])
theorem dsc8 : (parseMethodDescriptor "(LPathHouse$Segment;LPathHouse$Node;LPathHouse$Row;I)V").map (fun s => s.parameters.length) = some 4 := by decide +kernel
theorem mK10 : EOK mE10 4 ∧ kindOK mE10 1 := ⟨eokC (tw5 (i := 99) rfl) (tw1 (i := 5) rfl) cne0 dsc8 (by decide), kokV (by decide) (tw5 (i := 98) rfl) rfl (pw6 (i := 0) rfl)⟩
def mE11 : ME := (yX0_ask, .code yX0_ask cX0_ask 6 none, cX0_ask, 6, none, [])
theorem mK11 : EOK mE11 4 ∧ kindOK mE11 1 := ⟨eokC (tw5 (i := 103) rfl) (tw1 (i := 5) rfl) cne0 dsc8 (by decide), kokV (by decide) (tw5 (i := 102) rfl) rfl (pw6 (i := 1) rfl)⟩
def mE12 : ME := (yX0_pick, .code yX0_pick cX0_pick 5 none, cX0_pick, 5, none, [])
theorem dsc9 : (parseMethodDescriptor "(LPathHouse$Selector;LPathHouse$Node;LPathHouse$Row;I)V").map (fun s => s.parameters.length) = some 4 := by decide +kernel
theorem mK12 : EOK mE12 4 ∧ kindOK mE12 1 := ⟨eokC (tw5 (i := 113) rfl) (tw1 (i := 5) rfl) cne0 dsc9 (by decide), kokV (by decide) (tw5 (i := 112) rfl) rfl (pw6 (i := 3) rfl)⟩
def mE13 : ME := (yX0_pickAll, .code yX0_pickAll cX0_pickAll 4 none, cX0_pickAll, 4, none, [])
theorem mK13 : EOK mE13 2 ∧ kindOK mE13 1 := ⟨eokC (tw5 (i := 118) rfl) (tw1 (i := 5) rfl) cne0 dsc5 (by decide), kokV (by decide) (tw5 (i := 117) rfl) rfl (pw6 (i := 4) rfl)⟩
def mE14 : ME := (yX0_pickTrue, .code yX0_pickTrue cX0_pickTrue 6 none, cX0_pickTrue, 6, none, [])
theorem dsc10 : (parseMethodDescriptor "(LPathHouse$Term;LPathHouse$Node;LPathHouse$Row;I)V").map (fun s => s.parameters.length) = some 4 := by decide +kernel
theorem mK14 : EOK mE14 4 ∧ kindOK mE14 1 := ⟨eokC (tw5 (i := 148) rfl) (tw1 (i := 5) rfl) cne0 dsc10 (by decide), kokV (by decide) (tw5 (i := 147) rfl) rfl (pw6 (i := 9) rfl)⟩
def mE15 : ME := (yX0_pickSlice, .code yX0_pickSlice cX0_pickSlice 9 none, cX0_pickSlice, 9, none, [])
theorem dsc11 : (parseMethodDescriptor "(LPathHouse$Selector;LPathHouse$Node;LPathHouse$Row;)V").map (fun s => s.parameters.length) = some 3 := by decide +kernel
theorem mK15 : EOK mE15 3 ∧ kindOK mE15 1 := ⟨eokC (tw5 (i := 136) rfl) (tw1 (i := 5) rfl) cne0 dsc11 (by decide), kokV (by decide) (tw5 (i := 135) rfl) rfl (pw6 (i := 8) rfl)⟩
def mE16 : ME := (yX0_bounded, .code yX0_bounded cX0_bounded 9 (some FieldType.long), cX0_bounded, 9, (some FieldType.long), [])
theorem dsc12 : (parseMethodDescriptor "(JIJJ)J").map (fun s => s.parameters.length) = some 4 := by decide +kernel
theorem mK16 : EOK mE16 4 ∧ kindOK mE16 1000 := ⟨eokC (tw5 (i := 139) rfl) (tw1 (i := 5) rfl) cne0 dsc12 (by decide), kokS (tw5 (i := 138) rfl)⟩
def mE17 : ME := (yX0_holds, .code yX0_holds cX0_holds 7 (some FieldType.boolean), cX0_holds, 7, (some FieldType.boolean), [])
theorem dsc13 : (parseMethodDescriptor "(LPathHouse$Term;LPathHouse$Node;I)Z").map (fun s => s.parameters.length) = some 3 := by decide +kernel
theorem mK17 : EOK mE17 3 ∧ kindOK mE17 1 := ⟨eokC (tw5 (i := 152) rfl) (tw1 (i := 5) rfl) cne0 dsc13 (by decide), kokV (by decide) (tw5 (i := 151) rfl) rfl (pw6 (i := 10) rfl)⟩
def mE18 : ME := (yX0_countOf, .code yX0_countOf cX0_countOf 4 (some FieldType.int), cX0_countOf, 4, (some FieldType.int), [])
theorem dsc14 : (parseMethodDescriptor "(LPathHouse$Term;LPathHouse$Node;I)I").map (fun s => s.parameters.length) = some 3 := by decide +kernel
theorem mK18 : EOK mE18 3 ∧ kindOK mE18 1 := ⟨eokC (tw5 (i := 176) rfl) (tw1 (i := 5) rfl) cne0 dsc14 (by decide), kokV (by decide) (tw5 (i := 175) rfl) rfl (pw6 (i := 14) rfl)⟩
def mE19 : ME := (yX0_onlyOf, .code yX0_onlyOf cX0_onlyOf 5 (some (FieldType.object "PathHouse$Node")), cX0_onlyOf, 5, (some (FieldType.object "PathHouse$Node")), [])
theorem dsc15 : (parseMethodDescriptor "(LPathHouse$Term;LPathHouse$Node;I)LPathHouse$Node;").map (fun s => s.parameters.length) = some 3 := by decide +kernel
theorem mK19 : EOK mE19 3 ∧ kindOK mE19 1 := ⟨eokC (tw5 (i := 162) rfl) (tw1 (i := 5) rfl) cne0 dsc15 (by decide), kokV (by decide) (tw5 (i := 161) rfl) rfl (pw6 (i := 12) rfl)⟩
def mE20 : ME := (yX0_valueOf, .code yX0_valueOf cX0_valueOf 4 (some (FieldType.object "PathHouse$Node")), cX0_valueOf, 4, (some (FieldType.object "PathHouse$Node")), [])
theorem mK20 : EOK mE20 3 ∧ kindOK mE20 1 := ⟨eokC (tw5 (i := 158) rfl) (tw1 (i := 5) rfl) cne0 dsc15 (by decide), kokV (by decide) (tw5 (i := 157) rfl) rfl (pw6 (i := 11) rfl)⟩
def mE21 : ME := (yX0_reckoned, .code yX0_reckoned cX0_reckoned 2 (some (FieldType.object "PathHouse$Node")), cX0_reckoned, 2, (some (FieldType.object "PathHouse$Node")), [])
theorem dsc16 : (parseMethodDescriptor "(ILPathHouse$Node;)LPathHouse$Node;").map (fun s => s.parameters.length) = some 2 := by decide +kernel
theorem mK21 : EOK mE21 2 ∧ kindOK mE21 1000 := ⟨eokC (tw5 (i := 172) rfl) (tw1 (i := 5) rfl) cne0 dsc16 (by decide), kokS (tw5 (i := 171) rfl)⟩
def mE22 : ME := (yX0_lengthOf, .code yX0_lengthOf cX0_lengthOf 2 (some (FieldType.object "PathHouse$Node")), cX0_lengthOf, 2, (some (FieldType.object "PathHouse$Node")), [])
theorem dsc17 : (parseMethodDescriptor "(LPathHouse$Node;LPathHouse$Node;)LPathHouse$Node;").map (fun s => s.parameters.length) = some 2 := by decide +kernel
theorem mK22 : EOK mE22 2 ∧ kindOK mE22 1000 := ⟨eokC (tw5 (i := 165) rfl) (tw1 (i := 5) rfl) cne0 dsc17 (by decide), kokS (tw5 (i := 164) rfl)⟩
def mE23 : ME := (yX0_compares, .code yX0_compares cX0_compares 4 (some FieldType.boolean), cX0_compares, 4, (some FieldType.boolean), [])
theorem dsc18 : (parseMethodDescriptor "(ILPathHouse$Node;LPathHouse$Node;)Z").map (fun s => s.parameters.length) = some 3 := by decide +kernel
theorem mK23 : EOK mE23 3 ∧ kindOK mE23 1 := ⟨eokC (tw5 (i := 180) rfl) (tw1 (i := 5) rfl) cne0 dsc18 (by decide), kokV (by decide) (tw5 (i := 179) rfl) rfl (pw6 (i := 15) rfl)⟩
def mE24 : ME := (yX0_isLess, .code yX0_isLess cX0_isLess 2 (some FieldType.boolean), cX0_isLess, 2, (some FieldType.boolean), [])
theorem dsc19 : (parseMethodDescriptor "(LPathHouse$Node;LPathHouse$Node;)Z").map (fun s => s.parameters.length) = some 2 := by decide +kernel
theorem mK24 : EOK mE24 2 ∧ kindOK mE24 1000 := ⟨eokC (tw5 (i := 188) rfl) (tw1 (i := 5) rfl) cne0 dsc19 (by decide), kokS (tw5 (i := 187) rfl)⟩
def mE25 : ME := (yX0_isEqual, .code yX0_isEqual cX0_isEqual 8 (some FieldType.boolean), cX0_isEqual, 8, (some FieldType.boolean), [])
theorem dsc20 : (parseMethodDescriptor "(LPathHouse$Node;LPathHouse$Node;I)Z").map (fun s => s.parameters.length) = some 3 := by decide +kernel
theorem mK25 : EOK mE25 3 ∧ kindOK mE25 1 := ⟨eokC (tw5 (i := 184) rfl) (tw1 (i := 5) rfl) cne0 dsc20 (by decide), kokV (by decide) (tw5 (i := 183) rfl) rfl (pw7 (i := 0) rfl)⟩
def mE26 : ME := (yX1_init, .code yX1_init cX1_init 5 none, cX1_init, 5, none, [])
theorem cne1 : ("PathHouse$Node" : String) ≠ "java/lang/invoke/MethodHandle" ∧ ("PathHouse$Node" : String) ≠ "java/lang/invoke/VarHandle" := ⟨by decide, by decide⟩
theorem dsc21 : (parseMethodDescriptor "(ILPathHouse$Node;II)V").map (fun s => s.parameters.length) = some 4 := by decide +kernel
theorem mK26 : EOK mE26 4 ∧ kindOK mE26 2000 := ⟨eokC (tw2 (i := 70) rfl) (tw1 (i := 16) rfl) cne1 dsc21 (by decide), kokI (tw2 (i := 69) rfl) rfl rfl⟩
def mE27 : ME := (yX1_kidCount, .code yX1_kidCount cX1_kidCount 1 (some FieldType.int), cX1_kidCount, 1, (some FieldType.int), [])
theorem mK27 : EOK mE27 0 ∧ kindOK mE27 2 := ⟨eokC (tw5 (i := 122) rfl) (tw1 (i := 16) rfl) cne1 dsc2 (by decide), kokV (by decide) (tw5 (i := 121) rfl) rfl (pw6 (i := 5) rfl)⟩
def mE28 : ME := (yX1_kid, .code yX1_kid cX1_kid 3 (some (FieldType.object "PathHouse$Node")), cX1_kid, 3, (some (FieldType.object "PathHouse$Node")), [])
theorem dsc22 : (parseMethodDescriptor "(J)LPathHouse$Node;").map (fun s => s.parameters.length) = some 1 := by decide +kernel
theorem mK28 : EOK mE28 1 ∧ kindOK mE28 2 := ⟨eokC (tw5 (i := 126) rfl) (tw1 (i := 16) rfl) cne1 dsc22 (by decide), kokV (by decide) (tw5 (i := 125) rfl) rfl (pw6 (i := 6) rfl)⟩
def mE29 : ME := (yX1_size, .code yX1_size cX1_size 1 (some FieldType.int), cX1_size, 1, (some FieldType.int), [])
theorem mK29 : EOK mE29 0 ∧ kindOK mE29 2 := ⟨eokC (tw5 (i := 169) rfl) (tw1 (i := 16) rfl) cne1 dsc2 (by decide), kokV (by decide) (tw5 (i := 168) rfl) rfl (pw6 (i := 13) rfl)⟩
def mE30 : ME := (yX1_adopt, .code yX1_adopt cX1_adopt 3 none, cX1_adopt, 3, none, [])
theorem dsc23 : (parseMethodDescriptor "(LPathHouse$Node;[I)V").map (fun s => s.parameters.length) = some 2 := by decide +kernel
theorem mK30 : EOK mE30 2 ∧ kindOK mE30 2 := ⟨eokC (tw3 (i := 71) rfl) (tw1 (i := 16) rfl) cne1 dsc23 (by decide), kokV (by decide) (tw3 (i := 70) rfl) rfl (pw2 (i := 8) rfl)⟩
def mE31 : ME := (yX1_member, .code yX1_member cX1_member 4 (some (FieldType.object "PathHouse$Node")), cX1_member, 4, (some (FieldType.object "PathHouse$Node")), [])
theorem dsc24 : (parseMethodDescriptor "([I)LPathHouse$Node;").map (fun s => s.parameters.length) = some 1 := by decide +kernel
theorem mK31 : EOK mE31 1 ∧ kindOK mE31 2 := ⟨eokC (tw3 (i := 154) rfl) (tw1 (i := 16) rfl) cne1 dsc24 (by decide), kokV (by decide) (tw3 (i := 153) rfl) rfl (pw2 (i := 15) rfl)⟩
def mE32 : ME := (yX1_element, .code yX1_element cX1_element 3 (some (FieldType.object "PathHouse$Node")), cX1_element, 3, (some (FieldType.object "PathHouse$Node")), [])
theorem mK32 : EOK mE32 1 ∧ kindOK mE32 2 := ⟨eokC (tw5 (i := 130) rfl) (tw1 (i := 16) rfl) cne1 dsc22 (by decide), kokV (by decide) (tw5 (i := 129) rfl) rfl (pw6 (i := 7) rfl)⟩
def mE33 : ME := (yX1_deepest, .code yX1_deepest cX1_deepest 3 (some FieldType.int), cX1_deepest, 3, (some FieldType.int), [])
theorem mK33 : EOK mE33 0 ∧ kindOK mE33 2 := ⟨eokC (tw6 (i := 41) rfl) (tw1 (i := 16) rfl) cne1 dsc2 (by decide), kokV (by decide) (tw6 (i := 40) rfl) rfl (pw7 (i := 13) rfl)⟩
def mE34 : ME := (yX2_init, .code yX2_init cX2_init 1 none, cX2_init, 1, none, [])
theorem cne2 : ("PathHouse$Out" : String) ≠ "java/lang/invoke/MethodHandle" ∧ ("PathHouse$Out" : String) ≠ "java/lang/invoke/VarHandle" := ⟨by decide, by decide⟩
theorem mK34 : EOK mE34 0 ∧ kindOK mE34 2000 := ⟨eokC (tw1 (i := 142) rfl) (tw1 (i := 6) rfl) cne2 dsc0 (by decide), kokI (tw1 (i := 141) rfl) rfl rfl⟩
def mE35 : ME := (yX2_clear, .code yX2_clear cX2_clear 1 none, cX2_clear, 1, none, [])
theorem mK35 : EOK mE35 0 ∧ kindOK mE35 3 := ⟨eokC (tw5 (i := 217) rfl) (tw1 (i := 6) rfl) cne2 dsc0 (by decide), kokV (by decide) (tw5 (i := 216) rfl) rfl (pw7 (i := 3) rfl)⟩
def mE36 : ME := (yX2_has, .code yX2_has cX2_has 2 (some FieldType.boolean), cX2_has, 2, (some FieldType.boolean), [])
theorem dsc25 : (parseMethodDescriptor "(I)Z").map (fun s => s.parameters.length) = some 1 := by decide +kernel
theorem mK36 : EOK mE36 1 ∧ kindOK mE36 3 := ⟨eokC (tw6 (i := 56) rfl) (tw1 (i := 6) rfl) cne2 dsc25 (by decide), kokV (by decide) (tw6 (i := 55) rfl) rfl (pw7 (i := 14) rfl)⟩
def mE37 : ME := (yX2_get, .code yX2_get cX2_get 2 (some FieldType.int), cX2_get, 2, (some FieldType.int), [])
theorem dsc26 : (parseMethodDescriptor "(I)I").map (fun s => s.parameters.length) = some 1 := by decide +kernel
theorem mK37 : EOK mE37 1 ∧ kindOK mE37 3 := ⟨eokC (tw6 (i := 76) rfl) (tw1 (i := 6) rfl) cne2 dsc26 (by decide), kokV (by decide) (tw6 (i := 75) rfl) rfl (pw7 (i := 15) rfl)⟩
def mE38 : ME := (yX2_put, .code yX2_put cX2_put 2 none, cX2_put, 2, none, [])
theorem mK38 : EOK mE38 1 ∧ kindOK mE38 3 := ⟨eokC (tw5 (i := 225) rfl) (tw1 (i := 6) rfl) cne2 dsc4 (by decide), kokV (by decide) (tw5 (i := 224) rfl) rfl (pw7 (i := 5) rfl)⟩
def mE39 : ME := (yX2_putWord, .code yX2_putWord cX2_putWord 3 none, cX2_putWord, 3, none, [])
theorem dsc27 : (parseMethodDescriptor "(Ljava/lang/String;)V").map (fun s => s.parameters.length) = some 1 := by decide +kernel
theorem mK39 : EOK mE39 1 ∧ kindOK mE39 3 := ⟨eokC (tw5 (i := 239) rfl) (tw1 (i := 6) rfl) cne2 dsc27 (by decide), kokV (by decide) (tw5 (i := 238) rfl) rfl (pw7 (i := 8) rfl)⟩
def mE40 : ME := (yX2_putWhole, .code yX2_putWhole cX2_putWhole 8 none, cX2_putWhole, 8, none, [])
theorem dsc28 : (parseMethodDescriptor "(J)V").map (fun s => s.parameters.length) = some 1 := by decide +kernel
theorem mK40 : EOK mE40 1 ∧ kindOK mE40 3 := ⟨eokC (tw6 (i := 10) rfl) (tw1 (i := 6) rfl) cne2 dsc28 (by decide), kokV (by decide) (tw6 (i := 9) rfl) rfl (pw7 (i := 10) rfl)⟩
def mE41 : ME := (yX2_putQuoted, .code yX2_putQuoted cX2_putQuoted 5 none, cX2_putQuoted, 5, none, [])
theorem dsc29 : (parseMethodDescriptor "([II)V").map (fun s => s.parameters.length) = some 2 := by decide +kernel
theorem mK41 : EOK mE41 2 ∧ kindOK mE41 3 := ⟨eokC (tw5 (i := 230) rfl) (tw1 (i := 6) rfl) cne2 dsc29 (by decide), kokV (by decide) (tw5 (i := 229) rfl) rfl (pw7 (i := 6) rfl)⟩
def mE42 : ME := (yX2_putControl, .code yX2_putControl cX2_putControl 2 none, cX2_putControl, 2, none, [])
theorem mK42 : EOK mE42 1 ∧ kindOK mE42 3 := ⟨eokC (tw5 (i := 234) rfl) (tw1 (i := 6) rfl) cne2 dsc4 (by decide), kokV (by decide) (tw5 (i := 233) rfl) rfl (pw7 (i := 7) rfl)⟩
def mE43 : ME := (yX2_putCode, .code yX2_putCode cX2_putCode 2 none, cX2_putCode, 2, none, [])
theorem mK43 : EOK mE43 1 ∧ kindOK mE43 3 := ⟨eokC (tw6 (i := 5) rfl) (tw1 (i := 6) rfl) cne2 dsc4 (by decide), kokV (by decide) (tw6 (i := 4) rfl) rfl (pw7 (i := 9) rfl)⟩
def mE44 : ME := (yX2_putSteps, .code yX2_putSteps cX2_putSteps 3 none, cX2_putSteps, 3, none, [])
theorem dsc30 : (parseMethodDescriptor "(LPathHouse$Node;I)V").map (fun s => s.parameters.length) = some 2 := by decide +kernel
theorem mK44 : EOK mE44 2 ∧ kindOK mE44 3 := ⟨eokC (tw5 (i := 221) rfl) (tw1 (i := 6) rfl) cne2 dsc30 (by decide), kokV (by decide) (tw5 (i := 220) rfl) rfl (pw7 (i := 4) rfl)⟩
def mE45 : ME := (yX2_putValue, .code yX2_putValue cX2_putValue 3 none, cX2_putValue, 3, none, [])
theorem mK45 : EOK mE45 2 ∧ kindOK mE45 3 := ⟨eokC (tw6 (i := 23) rfl) (tw1 (i := 6) rfl) cne2 dsc30 (by decide), kokV (by decide) (tw6 (i := 22) rfl) rfl (pw7 (i := 11) rfl)⟩
def mE46 : ME := (yX2_putKids, .code yX2_putKids cX2_putKids 5 none, cX2_putKids, 5, none, [])
theorem mK46 : EOK mE46 2 ∧ kindOK mE46 3 := ⟨eokC (tw6 (i := 30) rfl) (tw1 (i := 6) rfl) cne2 dsc30 (by decide), kokV (by decide) (tw6 (i := 29) rfl) rfl (pw7 (i := 12) rfl)⟩
def mE47 : ME := (yX3_init, .code yX3_init cX3_init 2 none, cX3_init, 2, none, [])
theorem cne3 : ("PathHouse$Path" : String) ≠ "java/lang/invoke/MethodHandle" ∧ ("PathHouse$Path" : String) ≠ "java/lang/invoke/VarHandle" := ⟨by decide, by decide⟩
theorem dsc31 : (parseMethodDescriptor "(Z)V").map (fun s => s.parameters.length) = some 1 := by decide +kernel
theorem mK47 : EOK mE47 1 ∧ kindOK mE47 2000 := ⟨eokC (tw3 (i := 189) rfl) (tw1 (i := 28) rfl) cne3 dsc31 (by decide), kokI (tw3 (i := 188) rfl) rfl rfl⟩
def mE48 : ME := (yX4_init, .code yX4_init cX4_init 2 none, cX4_init, 2, none, [])
theorem cne4 : ("PathHouse$QueryReader" : String) ≠ "java/lang/invoke/MethodHandle" ∧ ("PathHouse$QueryReader" : String) ≠ "java/lang/invoke/VarHandle" := ⟨by decide, by decide⟩
theorem dsc32 : (parseMethodDescriptor "(LPathHouse$Reader;)V").map (fun s => s.parameters.length) = some 1 := by decide +kernel
theorem mK48 : EOK mE48 1 ∧ kindOK mE48 2000 := ⟨eokC (tw1 (i := 98) rfl) (tw1 (i := 4) rfl) cne4 dsc32 (by decide), kokI (tw1 (i := 97) rfl) rfl rfl⟩
def mE49 : ME := (yX4_whole, .code yX4_whole cX4_whole 3 (some (FieldType.object "PathHouse$Path")), cX4_whole, 3, (some (FieldType.object "PathHouse$Path")), [])
theorem dsc33 : (parseMethodDescriptor "()LPathHouse$Path;").map (fun s => s.parameters.length) = some 0 := by decide +kernel
theorem mK49 : EOK mE49 0 ∧ kindOK mE49 5 := ⟨eokC (tw3 (i := 182) rfl) (tw1 (i := 4) rfl) cne4 dsc33 (by decide), kokV (by decide) (tw3 (i := 181) rfl) rfl (pw3 (i := 1) rfl)⟩
def mE50 : ME := (yX4_note, .code yX4_note cX4_note 3 none, cX4_note, 3, none, [])
theorem dsc34 : (parseMethodDescriptor "(II)V").map (fun s => s.parameters.length) = some 2 := by decide +kernel
theorem mK50 : EOK mE50 2 ∧ kindOK mE50 5 := ⟨eokC (tw4 (i := 70) rfl) (tw1 (i := 4) rfl) cne4 dsc34 (by decide), kokV (by decide) (tw4 (i := 69) rfl) rfl (pw3 (i := 10) rfl)⟩
def mE51 : ME := (yX4_enter, .code yX4_enter cX4_enter 1 none, cX4_enter, 1, none, [])
theorem mK51 : EOK mE51 0 ∧ kindOK mE51 5 := ⟨eokC (tw4 (i := 82) rfl) (tw1 (i := 4) rfl) cne4 dsc0 (by decide), kokV (by decide) (tw4 (i := 81) rfl) rfl (pw3 (i := 13) rfl)⟩
def mE52 : ME := (yX4_readInt, .code yX4_readInt cX4_readInt 5 (some FieldType.long), cX4_readInt, 5, (some FieldType.long), [])
theorem dsc35 : (parseMethodDescriptor "(Z)J").map (fun s => s.parameters.length) = some 1 := by decide +kernel
theorem mK52 : EOK mE52 1 ∧ kindOK mE52 5 := ⟨eokC (tw4 (i := 64) rfl) (tw1 (i := 4) rfl) cne4 dsc35 (by decide), kokV (by decide) (tw4 (i := 63) rfl) rfl (pw3 (i := 9) rfl)⟩
def mE53 : ME := (yX4_atInt, .code yX4_atInt cX4_atInt 1 (some FieldType.boolean), cX4_atInt, 1, (some FieldType.boolean), [])
theorem dsc36 : (parseMethodDescriptor "()Z").map (fun s => s.parameters.length) = some 0 := by decide +kernel
theorem mK53 : EOK mE53 0 ∧ kindOK mE53 5 := ⟨eokC (tw4 (i := 55) rfl) (tw1 (i := 4) rfl) cne4 dsc36 (by decide), kokV (by decide) (tw4 (i := 54) rfl) rfl (pw3 (i := 7) rfl)⟩
def mE54 : ME := (yX4_atString, .code yX4_atString cX4_atString 1 (some FieldType.boolean), cX4_atString, 1, (some FieldType.boolean), [])
theorem mK54 : EOK mE54 0 ∧ kindOK mE54 5 := ⟨eokC (tw4 (i := 10) rfl) (tw1 (i := 4) rfl) cne4 dsc36 (by decide), kokV (by decide) (tw4 (i := 9) rfl) rfl (pw3 (i := 6) rfl)⟩
def mE55 : ME := (yX4_readSegments, .code yX4_readSegments cX4_readSegments 5 (some FieldType.int), cX4_readSegments, 5, (some FieldType.int), [])
theorem dsc37 : (parseMethodDescriptor "(LPathHouse$Path;Z)I").map (fun s => s.parameters.length) = some 2 := by decide +kernel
theorem mK55 : EOK mE55 2 ∧ kindOK mE55 5 := ⟨eokC (tw3 (i := 213) rfl) (tw1 (i := 4) rfl) cne4 dsc37 (by decide), kokV (by decide) (tw3 (i := 212) rfl) rfl (pw3 (i := 2) rfl)⟩
def mE56 : ME := (yX4_readSegment, .code yX4_readSegment cX4_readSegment 5 none, cX4_readSegment, 5, none, [])
theorem dsc38 : (parseMethodDescriptor "(LPathHouse$Path;Z)V").map (fun s => s.parameters.length) = some 2 := by decide +kernel
theorem mK56 : EOK mE56 2 ∧ kindOK mE56 5 := ⟨eokC (tw3 (i := 218) rfl) (tw1 (i := 4) rfl) cne4 dsc38 (by decide), kokV (by decide) (tw3 (i := 217) rfl) rfl (pw3 (i := 3) rfl)⟩
def mE57 : ME := (yX4_readDotted, .code yX4_readDotted cX4_readDotted 4 (some FieldType.boolean), cX4_readDotted, 4, (some FieldType.boolean), [])
theorem dsc39 : (parseMethodDescriptor "(LPathHouse$Segment;Z)Z").map (fun s => s.parameters.length) = some 2 := by decide +kernel
theorem mK57 : EOK mE57 2 ∧ kindOK mE57 5 := ⟨eokC (tw5 (i := 14) rfl) (tw1 (i := 4) rfl) cne4 dsc39 (by decide), kokV (by decide) (tw5 (i := 13) rfl) rfl (pw5 (i := 7) rfl)⟩
def mE58 : ME := (yX4_readBrackets, .code yX4_readBrackets cX4_readBrackets 6 (some FieldType.boolean), cX4_readBrackets, 6, (some FieldType.boolean), [])
theorem mK58 : EOK mE58 2 ∧ kindOK mE58 5 := ⟨eokC (tw4 (i := 1) rfl) (tw1 (i := 4) rfl) cne4 dsc39 (by decide), kokV (by decide) (tw4 (i := 0) rfl) rfl (pw3 (i := 4) rfl)⟩
def mE59 : ME := (yX4_readSelector, .code yX4_readSelector cX4_readSelector 3 (some (FieldType.object "PathHouse$Selector")), cX4_readSelector, 3, (some (FieldType.object "PathHouse$Selector")), [])
theorem dsc40 : (parseMethodDescriptor "(Z)LPathHouse$Selector;").map (fun s => s.parameters.length) = some 1 := by decide +kernel
theorem mK59 : EOK mE59 1 ∧ kindOK mE59 5 := ⟨eokC (tw4 (i := 6) rfl) (tw1 (i := 4) rfl) cne4 dsc40 (by decide), kokV (by decide) (tw4 (i := 5) rfl) rfl (pw3 (i := 5) rfl)⟩
def mE60 : ME := (yX4_readIndexed, .code yX4_readIndexed cX4_readIndexed 6 (some (FieldType.object "PathHouse$Selector")), cX4_readIndexed, 6, (some (FieldType.object "PathHouse$Selector")), [])
theorem mK60 : EOK mE60 1 ∧ kindOK mE60 5 := ⟨eokC (tw4 (i := 60) rfl) (tw1 (i := 4) rfl) cne4 dsc40 (by decide), kokV (by decide) (tw4 (i := 59) rfl) rfl (pw3 (i := 8) rfl)⟩
def mE61 : ME := (yX4_readSlice, .code yX4_readSlice cX4_readSlice 5 (some (FieldType.object "PathHouse$Selector")), cX4_readSlice, 5, (some (FieldType.object "PathHouse$Selector")), [])
theorem dsc41 : (parseMethodDescriptor "(ZJ)LPathHouse$Selector;").map (fun s => s.parameters.length) = some 2 := by decide +kernel
theorem mK61 : EOK mE61 2 ∧ kindOK mE61 5 := ⟨eokC (tw4 (i := 74) rfl) (tw1 (i := 4) rfl) cne4 dsc41 (by decide), kokV (by decide) (tw4 (i := 73) rfl) rfl (pw3 (i := 11) rfl)⟩
def mE62 : ME := (yX4_readFilter, .code yX4_readFilter cX4_readFilter 2 (some (FieldType.object "PathHouse$Selector")), cX4_readFilter, 2, (some (FieldType.object "PathHouse$Selector")), [])
theorem dsc42 : (parseMethodDescriptor "()LPathHouse$Selector;").map (fun s => s.parameters.length) = some 0 := by decide +kernel
theorem mK62 : EOK mE62 0 ∧ kindOK mE62 5 := ⟨eokC (tw4 (i := 78) rfl) (tw1 (i := 4) rfl) cne4 dsc42 (by decide), kokV (by decide) (tw4 (i := 77) rfl) rfl (pw3 (i := 12) rfl)⟩
def mE63 : ME := (yX4_readOr, .code yX4_readOr cX4_readOr 4 (some (FieldType.object "PathHouse$Term")), cX4_readOr, 4, (some (FieldType.object "PathHouse$Term")), [])
theorem dsc43 : (parseMethodDescriptor "(LPathHouse$Term;)LPathHouse$Term;").map (fun s => s.parameters.length) = some 1 := by decide +kernel
theorem mK63 : EOK mE63 1 ∧ kindOK mE63 5 := ⟨eokC (tw4 (i := 86) rfl) (tw1 (i := 4) rfl) cne4 dsc43 (by decide), kokV (by decide) (tw4 (i := 85) rfl) rfl (pw3 (i := 14) rfl)⟩
def mE64 : ME := (yX4_readAnd, .code yX4_readAnd cX4_readAnd 4 (some (FieldType.object "PathHouse$Term")), cX4_readAnd, 4, (some (FieldType.object "PathHouse$Term")), [])
theorem mK64 : EOK mE64 1 ∧ kindOK mE64 5 := ⟨eokC (tw4 (i := 137) rfl) (tw1 (i := 4) rfl) cne4 dsc43 (by decide), kokV (by decide) (tw4 (i := 136) rfl) rfl (pw3 (i := 15) rfl)⟩
def mE65 : ME := (yX4_takesTwice, .code yX4_takesTwice cX4_takesTwice 2 (some FieldType.boolean), cX4_takesTwice, 2, (some FieldType.boolean), [])
theorem mK65 : EOK mE65 1 ∧ kindOK mE65 5 := ⟨eokC (tw4 (i := 231) rfl) (tw1 (i := 4) rfl) cne4 dsc25 (by decide), kokV (by decide) (tw4 (i := 230) rfl) rfl (pw5 (i := 2) rfl)⟩
def mE66 : ME := (yX4_readBasic, .code yX4_readBasic cX4_readBasic 2 (some (FieldType.object "PathHouse$Term")), cX4_readBasic, 2, (some (FieldType.object "PathHouse$Term")), [])
theorem dsc44 : (parseMethodDescriptor "()LPathHouse$Term;").map (fun s => s.parameters.length) = some 0 := by decide +kernel
theorem mK66 : EOK mE66 0 ∧ kindOK mE66 5 := ⟨eokC (tw4 (i := 141) rfl) (tw1 (i := 4) rfl) cne4 dsc44 (by decide), kokV (by decide) (tw4 (i := 140) rfl) rfl (pw4 (i := 0) rfl)⟩
def mE67 : ME := (yX4_readGroup, .code yX4_readGroup cX4_readGroup 2 (some (FieldType.object "PathHouse$Term")), cX4_readGroup, 2, (some (FieldType.object "PathHouse$Term")), [])
theorem mK67 : EOK mE67 0 ∧ kindOK mE67 5 := ⟨eokC (tw4 (i := 145) rfl) (tw1 (i := 4) rfl) cne4 dsc44 (by decide), kokV (by decide) (tw4 (i := 144) rfl) rfl (pw4 (i := 1) rfl)⟩
def mE68 : ME := (yX4_readNegatedTest, .code yX4_readNegatedTest cX4_readNegatedTest 1 (some (FieldType.object "PathHouse$Term")), cX4_readNegatedTest, 1, (some (FieldType.object "PathHouse$Term")), [])
theorem mK68 : EOK mE68 0 ∧ kindOK mE68 5 := ⟨eokC (tw4 (i := 150) rfl) (tw1 (i := 4) rfl) cne4 dsc44 (by decide), kokV (by decide) (tw4 (i := 149) rfl) rfl (pw4 (i := 2) rfl)⟩
def mE69 : ME := (yX4_readBasicFrom, .code yX4_readBasicFrom cX4_readBasicFrom 2 (some (FieldType.object "PathHouse$Term")), cX4_readBasicFrom, 2, (some (FieldType.object "PathHouse$Term")), [])
theorem mK69 : EOK mE69 1 ∧ kindOK mE69 5 := ⟨eokC (tw4 (i := 219) rfl) (tw1 (i := 4) rfl) cne4 dsc43 (by decide), kokV (by decide) (tw4 (i := 218) rfl) rfl (pw4 (i := 15) rfl)⟩
def mE70 : ME := (yX4_asTest, .code yX4_asTest cX4_asTest 2 (some (FieldType.object "PathHouse$Term")), cX4_asTest, 2, (some (FieldType.object "PathHouse$Term")), [])
theorem mK70 : EOK mE70 1 ∧ kindOK mE70 5 := ⟨eokC (tw4 (i := 214) rfl) (tw1 (i := 4) rfl) cne4 dsc43 (by decide), kokV (by decide) (tw4 (i := 213) rfl) rfl (pw4 (i := 14) rfl)⟩
def mE71 : ME := (yX4_atOperator, .code yX4_atOperator cX4_atOperator 2 (some FieldType.boolean), cX4_atOperator, 2, (some FieldType.boolean), [])
theorem mK71 : EOK mE71 0 ∧ kindOK mE71 5 := ⟨eokC (tw4 (i := 198) rfl) (tw1 (i := 4) rfl) cne4 dsc36 (by decide), kokV (by decide) (tw4 (i := 197) rfl) rfl (pw4 (i := 12) rfl)⟩
def mE72 : ME := (yX4_readComparison, .code yX4_readComparison cX4_readComparison 3 (some (FieldType.object "PathHouse$Term")), cX4_readComparison, 3, (some (FieldType.object "PathHouse$Term")), [])
theorem mK72 : EOK mE72 1 ∧ kindOK mE72 5 := ⟨eokC (tw4 (i := 223) rfl) (tw1 (i := 4) rfl) cne4 dsc43 (by decide), kokV (by decide) (tw4 (i := 222) rfl) rfl (pw5 (i := 0) rfl)⟩
def mE73 : ME := (yX4_readOperator, .code yX4_readOperator cX4_readOperator 2 (some FieldType.int), cX4_readOperator, 2, (some FieldType.int), [])
theorem mK73 : EOK mE73 0 ∧ kindOK mE73 5 := ⟨eokC (tw4 (i := 227) rfl) (tw1 (i := 4) rfl) cne4 dsc2 (by decide), kokV (by decide) (tw4 (i := 226) rfl) rfl (pw5 (i := 1) rfl)⟩
def mE74 : ME := (yX4_readOperand, .code yX4_readOperand cX4_readOperand 5 (some (FieldType.object "PathHouse$Term")), cX4_readOperand, 5, (some (FieldType.object "PathHouse$Term")), [])
theorem dsc45 : (parseMethodDescriptor "(Z)LPathHouse$Term;").map (fun s => s.parameters.length) = some 1 := by decide +kernel
theorem mK74 : EOK mE74 1 ∧ kindOK mE74 5 := ⟨eokC (tw4 (i := 154) rfl) (tw1 (i := 4) rfl) cne4 dsc45 (by decide), kokV (by decide) (tw4 (i := 153) rfl) rfl (pw4 (i := 3) rfl)⟩
def mE75 : ME := (yX4_literal, .code yX4_literal cX4_literal 3 (some (FieldType.object "PathHouse$Term")), cX4_literal, 3, (some (FieldType.object "PathHouse$Term")), [])
theorem dsc46 : (parseMethodDescriptor "(II)LPathHouse$Term;").map (fun s => s.parameters.length) = some 2 := by decide +kernel
theorem mK75 : EOK mE75 2 ∧ kindOK mE75 1000 := ⟨eokC (tw4 (i := 208) rfl) (tw1 (i := 4) rfl) cne4 dsc46 (by decide), kokS (tw4 (i := 207) rfl)⟩
def mE76 : ME := (yX4_readWord, .code yX4_readWord cX4_readWord 2 (some (FieldType.object "PathHouse$Term")), cX4_readWord, 2, (some (FieldType.object "PathHouse$Term")), [])
theorem mK76 : EOK mE76 0 ∧ kindOK mE76 5 := ⟨eokC (tw4 (i := 161) rfl) (tw1 (i := 4) rfl) cne4 dsc44 (by decide), kokV (by decide) (tw4 (i := 160) rfl) rfl (pw4 (i := 4) rfl)⟩
def mE77 : ME := (yX4_readFunction, .code yX4_readFunction cX4_readFunction 6 (some (FieldType.object "PathHouse$Term")), cX4_readFunction, 6, (some (FieldType.object "PathHouse$Term")), [])
theorem dsc47 : (parseMethodDescriptor "(I)LPathHouse$Term;").map (fun s => s.parameters.length) = some 1 := by decide +kernel
theorem mK77 : EOK mE77 1 ∧ kindOK mE77 5 := ⟨eokC (tw4 (i := 165) rfl) (tw1 (i := 4) rfl) cne4 dsc47 (by decide), kokV (by decide) (tw4 (i := 164) rfl) rfl (pw4 (i := 5) rfl)⟩
def mE78 : ME := (yX4_functionNamed, .code yX4_functionNamed cX4_functionNamed 2 (some FieldType.int), cX4_functionNamed, 2, (some FieldType.int), [])
theorem mK78 : EOK mE78 1 ∧ kindOK mE78 5 := ⟨eokC (tw4 (i := 169) rfl) (tw1 (i := 4) rfl) cne4 dsc26 (by decide), kokV (by decide) (tw4 (i := 168) rfl) rfl (pw4 (i := 6) rfl)⟩
def mE79 : ME := (yX4_readArgument, .code yX4_readArgument cX4_readArgument 3 (some (FieldType.object "PathHouse$Term")), cX4_readArgument, 3, (some (FieldType.object "PathHouse$Term")), [])
theorem mK79 : EOK mE79 0 ∧ kindOK mE79 5 := ⟨eokC (tw4 (i := 182) rfl) (tw1 (i := 4) rfl) cne4 dsc44 (by decide), kokV (by decide) (tw4 (i := 181) rfl) rfl (pw4 (i := 8) rfl)⟩
def mE80 : ME := (yX4_goesOnAsOr, .code yX4_goesOnAsOr cX4_goesOnAsOr 3 (some FieldType.boolean), cX4_goesOnAsOr, 3, (some FieldType.boolean), [])
theorem dsc48 : (parseMethodDescriptor "(LPathHouse$Term;)Z").map (fun s => s.parameters.length) = some 1 := by decide +kernel
theorem mK80 : EOK mE80 1 ∧ kindOK mE80 5 := ⟨eokC (tw4 (i := 186) rfl) (tw1 (i := 4) rfl) cne4 dsc48 (by decide), kokV (by decide) (tw4 (i := 185) rfl) rfl (pw4 (i := 9) rfl)⟩
def mE81 : ME := (yX5_init, .code yX5_init cX5_init 2 none, cX5_init, 2, none, [])
theorem cne5 : ("PathHouse$Reader" : String) ≠ "java/lang/invoke/MethodHandle" ∧ ("PathHouse$Reader" : String) ≠ "java/lang/invoke/VarHandle" := ⟨by decide, by decide⟩
theorem dsc49 : (parseMethodDescriptor "([B)V").map (fun s => s.parameters.length) = some 1 := by decide +kernel
theorem mK81 : EOK mE81 1 ∧ kindOK mE81 2000 := ⟨eokC (tw1 (i := 47) rfl) (tw1 (i := 2) rfl) cne5 dsc49 (by decide), kokI (tw1 (i := 46) rfl) rfl rfl⟩
def mE82 : ME := (yX5_begin, .code yX5_begin cX5_begin 2 none, cX5_begin, 2, none, [])
theorem mK82 : EOK mE82 1 ∧ kindOK mE82 6 := ⟨eokC (tw1 (i := 203) rfl) (tw1 (i := 2) rfl) cne5 dsc4 (by decide), kokV (by decide) (tw1 (i := 202) rfl) rfl (pw1 (i := 2) rfl)⟩
def mE83 : ME := (yX5_fail, .code yX5_fail cX5_fail 3 none, cX5_fail, 3, none, [])
theorem mK83 : EOK mE83 2 ∧ kindOK mE83 6 := ⟨eokC (tw1 (i := 237) rfl) (tw1 (i := 2) rfl) cne5 dsc34 (by decide), kokV (by decide) (tw1 (i := 236) rfl) rfl (pw1 (i := 8) rfl)⟩
def mE84 : ME := (yX5_byteAt, .code yX5_byteAt cX5_byteAt 2 (some FieldType.int), cX5_byteAt, 2, (some FieldType.int), [])
theorem mK84 : EOK mE84 1 ∧ kindOK mE84 6 := ⟨eokC (tw3 (i := 32) rfl) (tw1 (i := 2) rfl) cne5 dsc26 (by decide), kokV (by decide) (tw3 (i := 31) rfl) rfl (pw2 (i := 3) rfl)⟩
def mE85 : ME := (yX5_here, .code yX5_here cX5_here 1 (some FieldType.int), cX5_here, 1, (some FieldType.int), [])
theorem mK85 : EOK mE85 0 ∧ kindOK mE85 6 := ⟨eokC (tw1 (i := 222) rfl) (tw1 (i := 2) rfl) cne5 dsc2 (by decide), kokV (by decide) (tw1 (i := 221) rfl) rfl (pw1 (i := 6) rfl)⟩
def mE86 : ME := (yX5_isBlank, .code yX5_isBlank cX5_isBlank 2 (some FieldType.boolean), cX5_isBlank, 2, (some FieldType.boolean), [])
theorem mK86 : EOK mE86 0 ∧ kindOK mE86 6 := ⟨eokC (tw1 (i := 218) rfl) (tw1 (i := 2) rfl) cne5 dsc36 (by decide), kokV (by decide) (tw1 (i := 217) rfl) rfl (pw1 (i := 5) rfl)⟩
def mE87 : ME := (yX5_skipBlanks, .code yX5_skipBlanks cX5_skipBlanks 1 none, cX5_skipBlanks, 1, none, [])
theorem mK87 : EOK mE87 0 ∧ kindOK mE87 6 := ⟨eokC (tw1 (i := 214) rfl) (tw1 (i := 2) rfl) cne5 dsc0 (by decide), kokV (by decide) (tw1 (i := 213) rfl) rfl (pw1 (i := 4) rfl)⟩
def mE88 : ME := (yX5_expect, .code yX5_expect cX5_expect 2 none, cX5_expect, 2, none, [])
theorem mK88 : EOK mE88 1 ∧ kindOK mE88 6 := ⟨eokC (tw2 (i := 218) rfl) (tw1 (i := 2) rfl) cne5 dsc4 (by decide), kokV (by decide) (tw2 (i := 217) rfl) rfl (pw1 (i := 12) rfl)⟩
def mE89 : ME := (yX5_expectWord, .code yX5_expectWord cX5_expectWord 3 none, cX5_expectWord, 3, none, [])
theorem mK89 : EOK mE89 1 ∧ kindOK mE89 6 := ⟨eokC (tw2 (i := 166) rfl) (tw1 (i := 2) rfl) cne5 dsc27 (by decide), kokV (by decide) (tw2 (i := 165) rfl) rfl (pw1 (i := 11) rfl)⟩
def mE90 : ME := (yX5_isWord, .code yX5_isWord cX5_isWord 5 (some FieldType.boolean), cX5_isWord, 5, (some FieldType.boolean), [])
theorem dsc50 : (parseMethodDescriptor "(IILjava/lang/String;)Z").map (fun s => s.parameters.length) = some 3 := by decide +kernel
theorem mK90 : EOK mE90 3 ∧ kindOK mE90 6 := ⟨eokC (tw4 (i := 174) rfl) (tw1 (i := 2) rfl) cne5 dsc50 (by decide), kokV (by decide) (tw4 (i := 173) rfl) rfl (pw4 (i := 7) rfl)⟩
def mE91 : ME := (yX5_takeComma, .code yX5_takeComma cX5_takeComma 1 (some FieldType.boolean), cX5_takeComma, 1, (some FieldType.boolean), [])
theorem mK91 : EOK mE91 0 ∧ kindOK mE91 6 := ⟨eokC (tw3 (i := 140) rfl) (tw1 (i := 2) rfl) cne5 dsc36 (by decide), kokV (by decide) (tw3 (i := 139) rfl) rfl (pw2 (i := 12) rfl)⟩
def mE92 : ME := (yX5_wholeNumber, .code yX5_wholeNumber cX5_wholeNumber 6 (some FieldType.long), cX5_wholeNumber, 6, (some FieldType.long), [])
theorem mK92 : EOK mE92 1 ∧ kindOK mE92 6 := ⟨eokC (tw2 (i := 229) rfl) (tw1 (i := 2) rfl) cne5 dsc35 (by decide), kokV (by decide) (tw2 (i := 228) rfl) rfl (pw1 (i := 14) rfl)⟩
def mE93 : ME := (yX5_keep, .code yX5_keep cX5_keep 2 none, cX5_keep, 2, none, [])
theorem mK93 : EOK mE93 1 ∧ kindOK mE93 6 := ⟨eokC (tw3 (i := 41) rfl) (tw1 (i := 2) rfl) cne5 dsc4 (by decide), kokV (by decide) (tw3 (i := 40) rfl) rfl (pw2 (i := 4) rfl)⟩
def mE94 : ME := (yX5_kept, .code yX5_kept cX5_kept 1 (some (FieldType.array FieldType.int)), cX5_kept, 1, (some (FieldType.array FieldType.int)), [])
theorem dsc51 : (parseMethodDescriptor "()[I").map (fun s => s.parameters.length) = some 0 := by decide +kernel
theorem mK94 : EOK mE94 0 ∧ kindOK mE94 6 := ⟨eokC (tw3 (i := 45) rfl) (tw1 (i := 2) rfl) cne5 dsc51 (by decide), kokV (by decide) (tw3 (i := 44) rfl) rfl (pw2 (i := 5) rfl)⟩
def mE95 : ME := (yX5_string, .code yX5_string cX5_string 3 (some (FieldType.array FieldType.int)), cX5_string, 3, (some (FieldType.array FieldType.int)), [])
theorem mK95 : EOK mE95 0 ∧ kindOK mE95 6 := ⟨eokC (tw3 (i := 4) rfl) (tw1 (i := 2) rfl) cne5 dsc51 (by decide), kokV (by decide) (tw3 (i := 3) rfl) rfl (pw1 (i := 15) rfl)⟩
def mE96 : ME := (yX5_plainName, .code yX5_plainName cX5_plainName 2 (some (FieldType.array FieldType.int)), cX5_plainName, 2, (some (FieldType.array FieldType.int)), [])
theorem mK96 : EOK mE96 0 ∧ kindOK mE96 6 := ⟨eokC (tw5 (i := 18) rfl) (tw1 (i := 2) rfl) cne5 dsc51 (by decide), kokV (by decide) (tw5 (i := 17) rfl) rfl (pw5 (i := 8) rfl)⟩
def mE97 : ME := (yX5_isNamed, .code yX5_isNamed cX5_isNamed 2 (some FieldType.boolean), cX5_isNamed, 2, (some FieldType.boolean), [])
theorem dsc52 : (parseMethodDescriptor "(IZ)Z").map (fun s => s.parameters.length) = some 2 := by decide +kernel
theorem mK97 : EOK mE97 2 ∧ kindOK mE97 1000 := ⟨eokC (tw5 (i := 21) rfl) (tw1 (i := 2) rfl) cne5 dsc52 (by decide), kokS (tw5 (i := 20) rfl)⟩
def mE98 : ME := (yX5_escaped, .code yX5_escaped cX5_escaped 4 (some FieldType.int), cX5_escaped, 4, (some FieldType.int), [])
theorem mK98 : EOK mE98 1 ∧ kindOK mE98 6 := ⟨eokC (tw3 (i := 8) rfl) (tw1 (i := 2) rfl) cne5 dsc26 (by decide), kokV (by decide) (tw3 (i := 7) rfl) rfl (pw2 (i := 0) rfl)⟩
def mE99 : ME := (yX5_control, .code yX5_control cX5_control 1 (some FieldType.int), cX5_control, 1, (some FieldType.int), [])
theorem mK99 : EOK mE99 1 ∧ kindOK mE99 1000 := ⟨eokC (tw3 (i := 11) rfl) (tw1 (i := 2) rfl) cne5 dsc26 (by decide), kokS (tw3 (i := 10) rfl)⟩
def mE100 : ME := (yX5_hexFour, .code yX5_hexFour cX5_hexFour 6 (some FieldType.int), cX5_hexFour, 6, (some FieldType.int), [])
theorem dsc53 : (parseMethodDescriptor "(Z)I").map (fun s => s.parameters.length) = some 1 := by decide +kernel
theorem mK100 : EOK mE100 1 ∧ kindOK mE100 6 := ⟨eokC (tw3 (i := 15) rfl) (tw1 (i := 2) rfl) cne5 dsc53 (by decide), kokV (by decide) (tw3 (i := 14) rfl) rfl (pw2 (i := 1) rfl)⟩
def mE101 : ME := (yX5_hexValue, .code yX5_hexValue cX5_hexValue 1 (some FieldType.int), cX5_hexValue, 1, (some FieldType.int), [])
theorem mK101 : EOK mE101 1 ∧ kindOK mE101 1000 := ⟨eokC (tw3 (i := 18) rfl) (tw1 (i := 2) rfl) cne5 dsc26 (by decide), kokS (tw3 (i := 17) rfl)⟩
def mE102 : ME := (yX5_codePoint, .code yX5_codePoint cX5_codePoint 7 (some FieldType.int), cX5_codePoint, 7, (some FieldType.int), [])
theorem mK102 : EOK mE102 0 ∧ kindOK mE102 6 := ⟨eokC (tw3 (i := 25) rfl) (tw1 (i := 2) rfl) cne5 dsc2 (by decide), kokV (by decide) (tw3 (i := 24) rfl) rfl (pw2 (i := 2) rfl)⟩
def mE103 : ME := (yX5_followers, .code yX5_followers cX5_followers 1 (some FieldType.int), cX5_followers, 1, (some FieldType.int), [])
theorem mK103 : EOK mE103 1 ∧ kindOK mE103 1000 := ⟨eokC (tw3 (i := 28) rfl) (tw1 (i := 2) rfl) cne5 dsc26 (by decide), kokS (tw3 (i := 27) rfl)⟩
def mE104 : ME := (yX5_isShortest, .code yX5_isShortest cX5_isShortest 2 (some FieldType.boolean), cX5_isShortest, 2, (some FieldType.boolean), [])
theorem dsc54 : (parseMethodDescriptor "(II)Z").map (fun s => s.parameters.length) = some 2 := by decide +kernel
theorem mK104 : EOK mE104 2 ∧ kindOK mE104 1000 := ⟨eokC (tw3 (i := 35) rfl) (tw1 (i := 2) rfl) cne5 dsc54 (by decide), kokS (tw3 (i := 34) rfl)⟩
def mE105 : ME := (yX6_init, .code yX6_init cX6_init 1 none, cX6_init, 1, none, [])
theorem cne6 : ("PathHouse$Row" : String) ≠ "java/lang/invoke/MethodHandle" ∧ ("PathHouse$Row" : String) ≠ "java/lang/invoke/VarHandle" := ⟨by decide, by decide⟩
theorem mK105 : EOK mE105 0 ∧ kindOK mE105 2000 := ⟨eokC (tw5 (i := 69) rfl) (tw1 (i := 33) rfl) cne6 dsc0 (by decide), kokI (tw5 (i := 68) rfl) rfl rfl⟩
def mE106 : ME := (yX6_get, .code yX6_get cX6_get 2 (some (FieldType.object "PathHouse$Node")), cX6_get, 2, (some (FieldType.object "PathHouse$Node")), [])
theorem mK106 : EOK mE106 1 ∧ kindOK mE106 7 := ⟨eokC (tw5 (i := 95) rfl) (tw1 (i := 33) rfl) cne6 dsc1 (by decide), kokV (by decide) (tw5 (i := 94) rfl) rfl (pw5 (i := 15) rfl)⟩
def mE107 : ME := (yX6_add, .code yX6_add cX6_add 2 (some FieldType.boolean), cX6_add, 2, (some FieldType.boolean), [])
theorem dsc55 : (parseMethodDescriptor "(LPathHouse$Node;)Z").map (fun s => s.parameters.length) = some 1 := by decide +kernel
theorem mK107 : EOK mE107 1 ∧ kindOK mE107 7 := ⟨eokC (tw5 (i := 88) rfl) (tw1 (i := 33) rfl) cne6 dsc55 (by decide), kokV (by decide) (tw5 (i := 87) rfl) rfl (pw5 (i := 14) rfl)⟩
def mE108 : ME := (yX7_init, .code yX7_init cX7_init 1 none, cX7_init, 1, none, [])
theorem cne7 : ("PathHouse$Segment" : String) ≠ "java/lang/invoke/MethodHandle" ∧ ("PathHouse$Segment" : String) ≠ "java/lang/invoke/VarHandle" := ⟨by decide, by decide⟩
theorem mK108 : EOK mE108 0 ∧ kindOK mE108 2000 := ⟨eokC (tw3 (i := 223) rfl) (tw1 (i := 29) rfl) cne7 dsc0 (by decide), kokI (tw3 (i := 222) rfl) rfl rfl⟩
def mE109 : ME := (yX8_init, .code yX8_init cX8_init 2 none, cX8_init, 2, none, [])
theorem cne8 : ("PathHouse$Selector" : String) ≠ "java/lang/invoke/MethodHandle" ∧ ("PathHouse$Selector" : String) ≠ "java/lang/invoke/VarHandle" := ⟨by decide, by decide⟩
theorem mK109 : EOK mE109 1 ∧ kindOK mE109 2000 := ⟨eokC (tw4 (i := 15) rfl) (tw1 (i := 30) rfl) cne8 dsc4 (by decide), kokI (tw4 (i := 14) rfl) rfl rfl⟩
def mE110 : ME := (yX8_isSingular, .code yX8_isSingular cX8_isSingular 1 (some FieldType.boolean), cX8_isSingular, 1, (some FieldType.boolean), [])
theorem mK110 : EOK mE110 0 ∧ kindOK mE110 9 := ⟨eokC (tw5 (i := 10) rfl) (tw1 (i := 30) rfl) cne8 dsc36 (by decide), kokV (by decide) (tw5 (i := 9) rfl) rfl (pw5 (i := 6) rfl)⟩
def mE111 : ME := (yX9_init, .code yX9_init cX9_init 3 none, cX9_init, 3, none, [])
theorem cne9 : ("PathHouse$Term" : String) ≠ "java/lang/invoke/MethodHandle" ∧ ("PathHouse$Term" : String) ≠ "java/lang/invoke/VarHandle" := ⟨by decide, by decide⟩
theorem mK111 : EOK mE111 2 ∧ kindOK mE111 2000 := ⟨eokC (tw4 (i := 91) rfl) (tw1 (i := 31) rfl) cne9 dsc34 (by decide), kokI (tw4 (i := 90) rfl) rfl rfl⟩
def mE112 : ME := (yX9_partCount, .code yX9_partCount cX9_partCount 1 (some FieldType.int), cX9_partCount, 1, (some FieldType.int), [])
theorem mK112 : EOK mE112 0 ∧ kindOK mE112 10 := ⟨eokC (tw4 (i := 239) rfl) (tw1 (i := 31) rfl) cne9 dsc2 (by decide), kokV (by decide) (tw4 (i := 238) rfl) rfl (pw5 (i := 4) rfl)⟩
def mE113 : ME := (yX9_part, .code yX9_part cX9_part 2 (some (FieldType.object "PathHouse$Term")), cX9_part, 2, (some (FieldType.object "PathHouse$Term")), [])
theorem mK113 : EOK mE113 1 ∧ kindOK mE113 10 := ⟨eokC (tw5 (i := 4) rfl) (tw1 (i := 31) rfl) cne9 dsc47 (by decide), kokV (by decide) (tw5 (i := 3) rfl) rfl (pw5 (i := 5) rfl)⟩
def mE114 : ME := (yX9_simplest, .code yX9_simplest cX9_simplest 1 (some (FieldType.object "PathHouse$Term")), cX9_simplest, 1, (some (FieldType.object "PathHouse$Term")), [])
theorem mK114 : EOK mE114 0 ∧ kindOK mE114 10 := ⟨eokC (tw4 (i := 235) rfl) (tw1 (i := 31) rfl) cne9 dsc44 (by decide), kokV (by decide) (tw4 (i := 234) rfl) rfl (pw5 (i := 3) rfl)⟩
def mE115 : ME := (yX9_isFunction, .code yX9_isFunction cX9_isFunction 1 (some FieldType.boolean), cX9_isFunction, 1, (some FieldType.boolean), [])
theorem mK115 : EOK mE115 0 ∧ kindOK mE115 10 := ⟨eokC (tw4 (i := 194) rfl) (tw1 (i := 31) rfl) cne9 dsc36 (by decide), kokV (by decide) (tw4 (i := 193) rfl) rfl (pw4 (i := 11) rfl)⟩
def mE116 : ME := (yX9_isComparable, .code yX9_isComparable cX9_isComparable 1 (some FieldType.boolean), cX9_isComparable, 1, (some FieldType.boolean), [])
theorem mK116 : EOK mE116 0 ∧ kindOK mE116 10 := ⟨eokC (tw4 (i := 190) rfl) (tw1 (i := 31) rfl) cne9 dsc36 (by decide), kokV (by decide) (tw4 (i := 189) rfl) rfl (pw4 (i := 10) rfl)⟩
def mE117 : ME := (yX9_wants, .code yX9_wants cX9_wants 2 (some FieldType.boolean), cX9_wants, 2, (some FieldType.boolean), [])
theorem mK117 : EOK mE117 1 ∧ kindOK mE117 10 := ⟨eokC (tw4 (i := 203) rfl) (tw1 (i := 31) rfl) cne9 dsc48 (by decide), kokV (by decide) (tw4 (i := 202) rfl) rfl (pw4 (i := 13) rfl)⟩
def mE118 : ME := (yX10_init, .code yX10_init cX10_init 2 none, cX10_init, 2, none, [])
theorem cne10 : ("PathHouse$ValueReader" : String) ≠ "java/lang/invoke/MethodHandle" ∧ ("PathHouse$ValueReader" : String) ≠ "java/lang/invoke/VarHandle" := ⟨by decide, by decide⟩
theorem mK118 : EOK mE118 1 ∧ kindOK mE118 2000 := ⟨eokC (tw1 (i := 82) rfl) (tw1 (i := 3) rfl) cne10 dsc32 (by decide), kokI (tw1 (i := 81) rfl) rfl rfl⟩
def mE119 : ME := (yX10_whole, .code yX10_whole cX10_whole 2 (some (FieldType.object "PathHouse$Node")), cX10_whole, 2, (some (FieldType.object "PathHouse$Node")), [])
theorem dsc56 : (parseMethodDescriptor "()LPathHouse$Node;").map (fun s => s.parameters.length) = some 0 := by decide +kernel
theorem mK119 : EOK mE119 0 ∧ kindOK mE119 11 := ⟨eokC (tw1 (i := 210) rfl) (tw1 (i := 3) rfl) cne10 dsc56 (by decide), kokV (by decide) (tw1 (i := 209) rfl) rfl (pw1 (i := 3) rfl)⟩
def mE120 : ME := (yX10_readNode, .code yX10_readNode cX10_readNode 5 (some (FieldType.object "PathHouse$Node")), cX10_readNode, 5, (some (FieldType.object "PathHouse$Node")), [])
theorem dsc57 : (parseMethodDescriptor "(LPathHouse$Node;I)LPathHouse$Node;").map (fun s => s.parameters.length) = some 2 := by decide +kernel
theorem mK120 : EOK mE120 2 ∧ kindOK mE120 11 := ⟨eokC (tw1 (i := 226) rfl) (tw1 (i := 3) rfl) cne10 dsc57 (by decide), kokV (by decide) (tw1 (i := 225) rfl) rfl (pw1 (i := 7) rfl)⟩
def mE121 : ME := (yX10_kindBegunBy, .code yX10_kindBegunBy cX10_kindBegunBy 1 (some FieldType.int), cX10_kindBegunBy, 1, (some FieldType.int), [])
theorem mK121 : EOK mE121 1 ∧ kindOK mE121 1000 := ⟨eokC (tw1 (i := 230) rfl) (tw1 (i := 3) rfl) cne10 dsc26 (by decide), kokS (tw1 (i := 229) rfl)⟩
def mE122 : ME := (yX10_readRest, .code yX10_readRest cX10_readRest 2 none, cX10_readRest, 2, none, [])
theorem dsc58 : (parseMethodDescriptor "(LPathHouse$Node;)V").map (fun s => s.parameters.length) = some 1 := by decide +kernel
theorem mK122 : EOK mE122 1 ∧ kindOK mE122 11 := ⟨eokC (tw2 (i := 161) rfl) (tw1 (i := 3) rfl) cne10 dsc58 (by decide), kokV (by decide) (tw2 (i := 160) rfl) rfl (pw1 (i := 10) rfl)⟩
def mE123 : ME := (yX10_readInt, .code yX10_readInt cX10_readInt 4 (some FieldType.long), cX10_readInt, 4, (some FieldType.long), [])
theorem dsc59 : (parseMethodDescriptor "()J").map (fun s => s.parameters.length) = some 0 := by decide +kernel
theorem mK123 : EOK mE123 0 ∧ kindOK mE123 11 := ⟨eokC (tw2 (i := 225) rfl) (tw1 (i := 3) rfl) cne10 dsc59 (by decide), kokV (by decide) (tw2 (i := 224) rfl) rfl (pw1 (i := 13) rfl)⟩
def mE124 : ME := (yX10_takesEmpty, .code yX10_takesEmpty cX10_takesEmpty 2 (some FieldType.boolean), cX10_takesEmpty, 2, (some FieldType.boolean), [])
theorem mK124 : EOK mE124 1 ∧ kindOK mE124 11 := ⟨eokC (tw3 (i := 67) rfl) (tw1 (i := 3) rfl) cne10 dsc25 (by decide), kokV (by decide) (tw3 (i := 66) rfl) rfl (pw2 (i := 7) rfl)⟩
def mE125 : ME := (yX10_readElements, .code yX10_readElements cX10_readElements 4 none, cX10_readElements, 4, none, [])
theorem mK125 : EOK mE125 1 ∧ kindOK mE125 11 := ⟨eokC (tw3 (i := 63) rfl) (tw1 (i := 3) rfl) cne10 dsc58 (by decide), kokV (by decide) (tw3 (i := 62) rfl) rfl (pw2 (i := 6) rfl)⟩
def mE126 : ME := (yX10_readMembers, .code yX10_readMembers cX10_readMembers 4 none, cX10_readMembers, 4, none, [])
theorem mK126 : EOK mE126 1 ∧ kindOK mE126 11 := ⟨eokC (tw3 (i := 146) rfl) (tw1 (i := 3) rfl) cne10 dsc58 (by decide), kokV (by decide) (tw3 (i := 145) rfl) rfl (pw2 (i := 13) rfl)⟩
def mE127 : ME := (yX10_readMember, .code yX10_readMember cX10_readMember 4 none, cX10_readMember, 4, none, [])
theorem mK127 : EOK mE127 1 ∧ kindOK mE127 11 := ⟨eokC (tw3 (i := 150) rfl) (tw1 (i := 3) rfl) cne10 dsc58 (by decide), kokV (by decide) (tw3 (i := 149) rfl) rfl (pw2 (i := 14) rfl)⟩
def mE128 : ME := (yX11_init, .code yX11_init cX11_init 1 none, cX11_init, 1, none, [])
theorem cne11 : ("PathHouse" : String) ≠ "java/lang/invoke/MethodHandle" ∧ ("PathHouse" : String) ≠ "java/lang/invoke/VarHandle" := ⟨by decide, by decide⟩
theorem mK128 : EOK mE128 0 ∧ kindOK mE128 2000 := ⟨eokC (tw1 (i := 39) rfl) (tw1 (i := 1) rfl) cne11 dsc0 (by decide), kokI (tw1 (i := 38) rfl) rfl rfl⟩
def mE129 : ME := (yX11_feed, .code yX11_feed cX11_feed 6 (some FieldType.int), cX11_feed, 6, (some FieldType.int), [])
theorem dsc60 : (parseMethodDescriptor "(IIIII)I").map (fun s => s.parameters.length) = some 5 := by decide +kernel
theorem mK129 : EOK mE129 5 ∧ kindOK mE129 12 := ⟨eokC (tw1 (i := 186) rfl) (tw1 (i := 1) rfl) cne11 dsc60 (by decide), kokV (by decide) (tw1 (i := 184) rfl) rfl (tw1 (i := 185) rfl)⟩
def mE130 : ME := (yX11_json, .codeWith yX11_json cX11_json 3 (some FieldType.int) [(10, 21, 24, 72)], cX11_json, 3, (some FieldType.int), [(10, 21, 24, 72)])
theorem mK130 : EOK mE130 1 ∧ kindOK mE130 12 := ⟨eokW (tw1 (i := 194) rfl) (tw1 (i := 1) rfl) cne11 dsc26 (by decide), kokV (by decide) (tw1 (i := 192) rfl) rfl (tw1 (i := 193) rfl)⟩
def mE131 : ME := (yX11_query, .codeWith yX11_query cX11_query 3 (some FieldType.int) [(10, 21, 24, 72)], cX11_query, 3, (some FieldType.int), [(10, 21, 24, 72)])
theorem mK131 : EOK mE131 1 ∧ kindOK mE131 12 := ⟨eokW (tw3 (i := 178) rfl) (tw1 (i := 1) rfl) cne11 dsc26 (by decide), kokV (by decide) (tw3 (i := 176) rfl) rfl (tw3 (i := 177) rfl)⟩
def mE132 : ME := (yX11_fault, .code yX11_fault cX11_fault 2 (some FieldType.int), cX11_fault, 2, (some FieldType.int), [])
theorem mK132 : EOK mE132 1 ∧ kindOK mE132 12 := ⟨eokC (tw5 (i := 29) rfl) (tw1 (i := 1) rfl) cne11 dsc26 (by decide), kokV (by decide) (tw5 (i := 27) rfl) rfl (tw5 (i := 28) rfl)⟩
def mE133 : ME := (yX11_find, .code yX11_find cX11_find 1 (some FieldType.int), cX11_find, 1, (some FieldType.int), [])
theorem mK133 : EOK mE133 0 ∧ kindOK mE133 12 := ⟨eokC (tw5 (i := 33) rfl) (tw1 (i := 1) rfl) cne11 dsc2 (by decide), kokV (by decide) (tw5 (i := 31) rfl) rfl (tw5 (i := 32) rfl)⟩
def mE134 : ME := (yX11_found, .code yX11_found cX11_found 4 (some FieldType.int), cX11_found, 4, (some FieldType.int), [])
theorem dsc61 : (parseMethodDescriptor "(II)I").map (fun s => s.parameters.length) = some 2 := by decide +kernel
theorem mK134 : EOK mE134 2 ∧ kindOK mE134 12 := ⟨eokC (tw5 (i := 200) rfl) (tw1 (i := 1) rfl) cne11 dsc61 (by decide), kokV (by decide) (tw5 (i := 198) rfl) rfl (tw5 (i := 199) rfl)⟩
def mE135 : ME := (yX11_number, .code yX11_number cX11_number 3 (some FieldType.long), cX11_number, 3, (some FieldType.long), [])
theorem dsc62 : (parseMethodDescriptor "(I)J").map (fun s => s.parameters.length) = some 1 := by decide +kernel
theorem mK135 : EOK mE135 1 ∧ kindOK mE135 12 := ⟨eokC (tw5 (i := 209) rfl) (tw1 (i := 1) rfl) cne11 dsc62 (by decide), kokV (by decide) (tw5 (i := 207) rfl) rfl (tw5 (i := 208) rfl)⟩
def mE136 : ME := (yX11_path, .code yX11_path cX11_path 3 (some FieldType.int), cX11_path, 3, (some FieldType.int), [])
theorem mK136 : EOK mE136 1 ∧ kindOK mE136 12 := ⟨eokC (tw5 (i := 213) rfl) (tw1 (i := 1) rfl) cne11 dsc26 (by decide), kokV (by decide) (tw5 (i := 211) rfl) rfl (tw5 (i := 212) rfl)⟩
def mE137 : ME := (yX11_text, .code yX11_text cX11_text 3 (some FieldType.int), cX11_text, 3, (some FieldType.int), [])
theorem mK137 : EOK mE137 1 ∧ kindOK mE137 12 := ⟨eokC (tw6 (i := 19) rfl) (tw1 (i := 1) rfl) cne11 dsc26 (by decide), kokV (by decide) (tw6 (i := 17) rfl) rfl (tw6 (i := 18) rfl)⟩
def mE138 : ME := (yX11_out, .code yX11_out cX11_out 2 (some FieldType.int), cX11_out, 2, (some FieldType.int), [])
theorem mK138 : EOK mE138 1 ∧ kindOK mE138 12 := ⟨eokC (tw6 (i := 52) rfl) (tw1 (i := 1) rfl) cne11 dsc26 (by decide), kokV (by decide) (tw6 (i := 50) rfl) rfl (tw6 (i := 51) rfl)⟩
def mE139 : ME := (yX11_about, .code yX11_about cX11_about 2 (some FieldType.int), cX11_about, 2, (some FieldType.int), [])
theorem mK139 : EOK mE139 1 ∧ kindOK mE139 12 := ⟨eokC (tw6 (i := 37) rfl) (tw1 (i := 1) rfl) cne11 dsc26 (by decide), kokV (by decide) (tw6 (i := 35) rfl) rfl (tw6 (i := 36) rfl)⟩
def mE140 : ME := (yX11_tapeFour, .code yX11_tapeFour cX11_tapeFour 3 none, cX11_tapeFour, 3, none, [])
theorem mK140 : EOK mE140 1 ∧ kindOK mE140 12 := ⟨eokC (tw1 (i := 190) rfl) (tw1 (i := 1) rfl) cne11 dsc4 (by decide), kokV (by decide) (tw1 (i := 189) rfl) rfl (pw1 (i := 0) rfl)⟩
def mE141 : ME := (yX11_begin, .code yX11_begin cX11_begin 2 (some FieldType.boolean), cX11_begin, 2, (some FieldType.boolean), [])
theorem mK141 : EOK mE141 1 ∧ kindOK mE141 12 := ⟨eokC (tw1 (i := 199) rfl) (tw1 (i := 1) rfl) cne11 dsc25 (by decide), kokV (by decide) (tw1 (i := 198) rfl) rfl (pw1 (i := 1) rfl)⟩
def mE142 : ME := (yX11_isDigit, .code yX11_isDigit cX11_isDigit 1 (some FieldType.boolean), cX11_isDigit, 1, (some FieldType.boolean), [])
theorem mK142 : EOK mE142 1 ∧ kindOK mE142 1000 := ⟨eokC (tw1 (i := 233) rfl) (tw1 (i := 1) rfl) cne11 dsc25 (by decide), kokS (tw1 (i := 232) rfl)⟩
def mE143 : ME := (yX11_isSmall, .code yX11_isSmall cX11_isSmall 1 (some FieldType.boolean), cX11_isSmall, 1, (some FieldType.boolean), [])
theorem mK143 : EOK mE143 1 ∧ kindOK mE143 1000 := ⟨eokC (tw4 (i := 157) rfl) (tw1 (i := 1) rfl) cne11 dsc25 (by decide), kokS (tw4 (i := 156) rfl)⟩
def mE144 : ME := (yX11_isLetter, .code yX11_isLetter cX11_isLetter 1 (some FieldType.boolean), cX11_isLetter, 1, (some FieldType.boolean), [])
theorem mK144 : EOK mE144 1 ∧ kindOK mE144 1000 := ⟨eokC (tw5 (i := 24) rfl) (tw1 (i := 1) rfl) cne11 dsc25 (by decide), kokS (tw5 (i := 23) rfl)⟩
def mE145 : ME := (yX11_isBeyond, .code yX11_isBeyond cX11_isBeyond 2 (some FieldType.boolean), cX11_isBeyond, 2, (some FieldType.boolean), [])
theorem dsc63 : (parseMethodDescriptor "(J)Z").map (fun s => s.parameters.length) = some 1 := by decide +kernel
theorem mK145 : EOK mE145 1 ∧ kindOK mE145 1000 := ⟨eokC (tw2 (i := 238) rfl) (tw1 (i := 1) rfl) cne11 dsc63 (by decide), kokS (tw2 (i := 237) rfl)⟩
def mE146 : ME := (yX11_sameChars, .code yX11_sameChars cX11_sameChars 3 (some FieldType.boolean), cX11_sameChars, 3, (some FieldType.boolean), [])
theorem dsc64 : (parseMethodDescriptor "([I[I)Z").map (fun s => s.parameters.length) = some 2 := by decide +kernel
theorem mK146 : EOK mE146 2 ∧ kindOK mE146 1000 := ⟨eokC (tw3 (i := 170) rfl) (tw1 (i := 1) rfl) cne11 dsc64 (by decide), kokS (tw3 (i := 169) rfl)⟩
def mE147 : ME := (yX11_charsBefore, .code yX11_charsBefore cX11_charsBefore 4 (some FieldType.boolean), cX11_charsBefore, 4, (some FieldType.boolean), [])
theorem mK147 : EOK mE147 2 ∧ kindOK mE147 1000 := ⟨eokC (tw5 (i := 191) rfl) (tw1 (i := 1) rfl) cne11 dsc64 (by decide), kokS (tw5 (i := 190) rfl)⟩
def mE148 : ME := (yX12_init, .code yX12_init cX12_init 1 none, cX12_init, 1, none, [])
theorem cne12 : ("PathHouseModel$Parts" : String) ≠ "java/lang/invoke/MethodHandle" ∧ ("PathHouseModel$Parts" : String) ≠ "java/lang/invoke/VarHandle" := ⟨by decide, by decide⟩
theorem mK148 : EOK mE148 0 ∧ kindOK mE148 2000 := ⟨eokC (tw6 (i := 179) rfl) (tw1 (i := 13) rfl) cne12 dsc0 (by decide), kokI (tw6 (i := 178) rfl) rfl rfl⟩
def mE149 : ME := (yX13_init, .code yX13_init cX13_init 1 none, cX13_init, 1, none, [])
theorem cne13 : ("PathHouseModel$Rows" : String) ≠ "java/lang/invoke/MethodHandle" ∧ ("PathHouseModel$Rows" : String) ≠ "java/lang/invoke/VarHandle" := ⟨by decide, by decide⟩
theorem mK149 : EOK mE149 0 ∧ kindOK mE149 2000 := ⟨eokC (tw6 (i := 117) rfl) (tw1 (i := 12) rfl) cne13 dsc0 (by decide), kokI (tw6 (i := 116) rfl) rfl rfl⟩
def mE150 : ME := (yX14_init, .code yX14_init cX14_init 1 none, cX14_init, 1, none, [])
theorem cne14 : ("PathHouseModel$Stop" : String) ≠ "java/lang/invoke/MethodHandle" ∧ ("PathHouseModel$Stop" : String) ≠ "java/lang/invoke/VarHandle" := ⟨by decide, by decide⟩
theorem mK150 : EOK mE150 0 ∧ kindOK mE150 2000 := ⟨eokC (tw6 (i := 95) rfl) (tw1 (i := 11) rfl) cne14 dsc0 (by decide), kokI (tw6 (i := 94) rfl) rfl rfl⟩
def mE151 : ME := (yX15_init, .code yX15_init cX15_init 1 none, cX15_init, 1, none, [])
theorem cne15 : ("PathHouseModel" : String) ≠ "java/lang/invoke/MethodHandle" ∧ ("PathHouseModel" : String) ≠ "java/lang/invoke/VarHandle" := ⟨by decide, by decide⟩
theorem mK151 : EOK mE151 0 ∧ kindOK mE151 2000 := ⟨eokC (tw6 (i := 82) rfl) (tw1 (i := 7) rfl) cne15 dsc0 (by decide), kokI (tw6 (i := 81) rfl) rfl rfl⟩
def mE152 : ME := (yX15_about, .code yX15_about cX15_about 2 (some FieldType.int), cX15_about, 2, (some FieldType.int), [])
theorem mK152 : EOK mE152 1 ∧ kindOK mE152 16 := ⟨eokC (tw9 (i := 18) rfl) (tw1 (i := 7) rfl) cne15 dsc26 (by decide), kokV (by decide) (tw9 (i := 16) rfl) rfl (tw9 (i := 17) rfl)⟩
def mE153 : ME := (yX15_stop, .code yX15_stop cX15_stop 3 (some (FieldType.object "PathHouseModel$Stop")), cX15_stop, 3, (some (FieldType.object "PathHouseModel$Stop")), [])
theorem dsc65 : (parseMethodDescriptor "(II)LPathHouseModel$Stop;").map (fun s => s.parameters.length) = some 2 := by decide +kernel
theorem mK153 : EOK mE153 2 ∧ kindOK mE153 16 := ⟨eokC (tw7 (i := 140) rfl) (tw1 (i := 7) rfl) cne15 dsc65 (by decide), kokV (by decide) (tw7 (i := 139) rfl) rfl (pw8 (i := 6) rfl)⟩
def mE154 : ME := (yX15_feed, .code yX15_feed cX15_feed 8 (some FieldType.int), cX15_feed, 8, (some FieldType.int), [])
theorem mK154 : EOK mE154 5 ∧ kindOK mE154 16 := ⟨eokC (tw7 (i := 102) rfl) (tw1 (i := 7) rfl) cne15 dsc60 (by decide), kokV (by decide) (tw7 (i := 100) rfl) rfl (tw7 (i := 101) rfl)⟩
def mE155 : ME := (yX15_byteAt, .code yX15_byteAt cX15_byteAt 2 (some FieldType.int), cX15_byteAt, 2, (some FieldType.int), [])
theorem mK155 : EOK mE155 1 ∧ kindOK mE155 16 := ⟨eokC (tw7 (i := 122) rfl) (tw1 (i := 7) rfl) cne15 dsc26 (by decide), kokV (by decide) (tw7 (i := 121) rfl) rfl (pw8 (i := 3) rfl)⟩
def mE156 : ME := (yX15_peek, .code yX15_peek cX15_peek 1 (some FieldType.int), cX15_peek, 1, (some FieldType.int), [])
theorem mK156 : EOK mE156 0 ∧ kindOK mE156 16 := ⟨eokC (tw7 (i := 118) rfl) (tw1 (i := 7) rfl) cne15 dsc2 (by decide), kokV (by decide) (tw7 (i := 117) rfl) rfl (pw8 (i := 2) rfl)⟩
def mE157 : ME := (yX15_is, .code yX15_is cX15_is 2 (some FieldType.boolean), cX15_is, 2, (some FieldType.boolean), [])
theorem mK157 : EOK mE157 1 ∧ kindOK mE157 16 := ⟨eokC (tw7 (i := 114) rfl) (tw1 (i := 7) rfl) cne15 dsc25 (by decide), kokV (by decide) (tw7 (i := 113) rfl) rfl (pw8 (i := 1) rfl)⟩
def mE158 : ME := (yX15_bad, .code yX15_bad cX15_bad 1 (some (FieldType.object "PathHouseModel$Stop")), cX15_bad, 1, (some (FieldType.object "PathHouseModel$Stop")), [])
theorem dsc66 : (parseMethodDescriptor "()LPathHouseModel$Stop;").map (fun s => s.parameters.length) = some 0 := by decide +kernel
theorem mK158 : EOK mE158 0 ∧ kindOK mE158 16 := ⟨eokC (tw7 (i := 136) rfl) (tw1 (i := 7) rfl) cne15 dsc66 (by decide), kokV (by decide) (tw7 (i := 135) rfl) rfl (pw8 (i := 5) rfl)⟩
def mE159 : ME := (yX15_need, .code yX15_need cX15_need 2 none, cX15_need, 2, none, [])
theorem mK159 : EOK mE159 1 ∧ kindOK mE159 16 := ⟨eokC (tw7 (i := 152) rfl) (tw1 (i := 7) rfl) cne15 dsc4 (by decide), kokV (by decide) (tw7 (i := 151) rfl) rfl (pw8 (i := 8) rfl)⟩
def mE160 : ME := (yX15_blanks, .code yX15_blanks cX15_blanks 1 none, cX15_blanks, 1, none, [])
theorem mK160 : EOK mE160 0 ∧ kindOK mE160 16 := ⟨eokC (tw7 (i := 110) rfl) (tw1 (i := 7) rfl) cne15 dsc0 (by decide), kokV (by decide) (tw7 (i := 109) rfl) rfl (pw8 (i := 0) rfl)⟩
def mE161 : ME := (yX15_isDigit, .code yX15_isDigit cX15_isDigit 1 (some FieldType.boolean), cX15_isDigit, 1, (some FieldType.boolean), [])
theorem mK161 : EOK mE161 1 ∧ kindOK mE161 1000 := ⟨eokC (tw7 (i := 132) rfl) (tw1 (i := 7) rfl) cne15 dsc25 (by decide), kokS (tw7 (i := 131) rfl)⟩
def mE162 : ME := (yX15_isSmall, .code yX15_isSmall cX15_isSmall 1 (some FieldType.boolean), cX15_isSmall, 1, (some FieldType.boolean), [])
theorem mK162 : EOK mE162 1 ∧ kindOK mE162 1000 := ⟨eokC (tw8 (i := 53) rfl) (tw1 (i := 7) rfl) cne15 dsc25 (by decide), kokS (tw8 (i := 52) rfl)⟩
def mE163 : ME := (yX15_character, .code yX15_character cX15_character 6 (some FieldType.int), cX15_character, 6, (some FieldType.int), [])
theorem mK163 : EOK mE163 0 ∧ kindOK mE163 16 := ⟨eokC (tw7 (i := 185) rfl) (tw1 (i := 7) rfl) cne15 dsc2 (by decide), kokV (by decide) (tw7 (i := 184) rfl) rfl (pw8 (i := 14) rfl)⟩
def mE164 : ME := (yX15_keep, .code yX15_keep cX15_keep 2 none, cX15_keep, 2, none, [])
theorem mK164 : EOK mE164 1 ∧ kindOK mE164 16 := ⟨eokC (tw7 (i := 181) rfl) (tw1 (i := 7) rfl) cne15 dsc4 (by decide), kokV (by decide) (tw7 (i := 180) rfl) rfl (pw8 (i := 13) rfl)⟩
def mE165 : ME := (yX15_hex, .code yX15_hex cX15_hex 1 (some FieldType.int), cX15_hex, 1, (some FieldType.int), [])
theorem mK165 : EOK mE165 1 ∧ kindOK mE165 1000 := ⟨eokC (tw7 (i := 173) rfl) (tw1 (i := 7) rfl) cne15 dsc26 (by decide), kokS (tw7 (i := 172) rfl)⟩
def mE166 : ME := (yX15_hexDigit, .code yX15_hexDigit cX15_hexDigit 4 (some FieldType.int), cX15_hexDigit, 4, (some FieldType.int), [])
theorem mK166 : EOK mE166 2 ∧ kindOK mE166 16 := ⟨eokC (tw7 (i := 170) rfl) (tw1 (i := 7) rfl) cne15 dsc61 (by decide), kokV (by decide) (tw7 (i := 169) rfl) rfl (pw8 (i := 12) rfl)⟩
def mE167 : ME := (yX15_unit, .code yX15_unit cX15_unit 4 (some FieldType.int), cX15_unit, 4, (some FieldType.int), [])
theorem mK167 : EOK mE167 0 ∧ kindOK mE167 16 := ⟨eokC (tw7 (i := 166) rfl) (tw1 (i := 7) rfl) cne15 dsc2 (by decide), kokV (by decide) (tw7 (i := 165) rfl) rfl (pw8 (i := 11) rfl)⟩
def mE168 : ME := (yX15_escaped, .code yX15_escaped cX15_escaped 3 (some FieldType.int), cX15_escaped, 3, (some FieldType.int), [])
theorem mK168 : EOK mE168 1 ∧ kindOK mE168 16 := ⟨eokC (tw7 (i := 162) rfl) (tw1 (i := 7) rfl) cne15 dsc26 (by decide), kokV (by decide) (tw7 (i := 161) rfl) rfl (pw8 (i := 10) rfl)⟩
def mE169 : ME := (yX15_string, .code yX15_string cX15_string 3 (some FieldType.int), cX15_string, 3, (some FieldType.int), [])
theorem mK169 : EOK mE169 0 ∧ kindOK mE169 16 := ⟨eokC (tw7 (i := 158) rfl) (tw1 (i := 7) rfl) cne15 dsc2 (by decide), kokV (by decide) (tw7 (i := 157) rfl) rfl (pw8 (i := 9) rfl)⟩
def mE170 : ME := (yX15_areSame, .code yX15_areSame cX15_areSame 7 (some FieldType.boolean), cX15_areSame, 7, (some FieldType.boolean), [])
theorem dsc67 : (parseMethodDescriptor "(IIII)Z").map (fun s => s.parameters.length) = some 4 := by decide +kernel
theorem mK170 : EOK mE170 4 ∧ kindOK mE170 16 := ⟨eokC (tw7 (i := 203) rfl) (tw1 (i := 7) rfl) cne15 dsc67 (by decide), kokV (by decide) (tw7 (i := 202) rfl) rfl (pw9 (i := 2) rfl)⟩
def mE171 : ME := (yX15_integer, .code yX15_integer cX15_integer 5 none, cX15_integer, 5, none, [])
theorem mK171 : EOK mE171 1 ∧ kindOK mE171 16 := ⟨eokC (tw7 (i := 207) rfl) (tw1 (i := 7) rfl) cne15 dsc31 (by decide), kokV (by decide) (tw7 (i := 206) rfl) rfl (pw9 (i := 3) rfl)⟩
def mE172 : ME := (yX15_begins, .code yX15_begins cX15_begins 1 (some FieldType.boolean), cX15_begins, 1, (some FieldType.boolean), [])
theorem mK172 : EOK mE172 1 ∧ kindOK mE172 1000 := ⟨eokC (tw7 (i := 129) rfl) (tw1 (i := 7) rfl) cne15 dsc25 (by decide), kokS (tw7 (i := 128) rfl)⟩
def mE173 : ME := (yX15_word, .code yX15_word cX15_word 3 none, cX15_word, 3, none, [])
theorem mK173 : EOK mE173 1 ∧ kindOK mE173 16 := ⟨eokC (tw7 (i := 146) rfl) (tw1 (i := 7) rfl) cne15 dsc27 (by decide), kokV (by decide) (tw7 (i := 145) rfl) rfl (pw8 (i := 7) rfl)⟩
def mE174 : ME := (yX15_value, .code yX15_value cX15_value 6 (some FieldType.int), cX15_value, 6, (some FieldType.int), [])
theorem mK174 : EOK mE174 2 ∧ kindOK mE174 16 := ⟨eokC (tw7 (i := 126) rfl) (tw1 (i := 7) rfl) cne15 dsc61 (by decide), kokV (by decide) (tw7 (i := 125) rfl) rfl (pw8 (i := 4) rfl)⟩
def mE175 : ME := (yX15_hang, .code yX15_hang cX15_hang 3 none, cX15_hang, 3, none, [])
theorem mK175 : EOK mE175 2 ∧ kindOK mE175 16 := ⟨eokC (tw7 (i := 195) rfl) (tw1 (i := 7) rfl) cne15 dsc34 (by decide), kokV (by decide) (tw7 (i := 194) rfl) rfl (pw9 (i := 0) rfl)⟩
def mE176 : ME := (yX15_array, .code yX15_array cX15_array 4 none, cX15_array, 4, none, [])
theorem mK176 : EOK mE176 2 ∧ kindOK mE176 16 := ⟨eokC (tw7 (i := 191) rfl) (tw1 (i := 7) rfl) cne15 dsc34 (by decide), kokV (by decide) (tw7 (i := 190) rfl) rfl (pw8 (i := 15) rfl)⟩
def mE177 : ME := (yX15_object, .code yX15_object cX15_object 8 none, cX15_object, 8, none, [])
theorem mK177 : EOK mE177 2 ∧ kindOK mE177 16 := ⟨eokC (tw7 (i := 199) rfl) (tw1 (i := 7) rfl) cne15 dsc34 (by decide), kokV (by decide) (tw7 (i := 198) rfl) rfl (pw9 (i := 1) rfl)⟩
def mE178 : ME := (yX15_told, .code yX15_told cX15_told 3 (some FieldType.int), cX15_told, 3, (some FieldType.int), [])
theorem mK178 : EOK mE178 2 ∧ kindOK mE178 16 := ⟨eokC (tw7 (i := 214) rfl) (tw1 (i := 7) rfl) cne15 dsc61 (by decide), kokV (by decide) (tw7 (i := 213) rfl) rfl (pw9 (i := 4) rfl)⟩
def mE179 : ME := (yX15_json, .codeWith yX15_json cX15_json 3 (some FieldType.int) [(57, 88, 91, 9)], cX15_json, 3, (some FieldType.int), [(57, 88, 91, 9)])
theorem mK179 : EOK mE179 1 ∧ kindOK mE179 16 := ⟨eokW (tw7 (i := 106) rfl) (tw1 (i := 7) rfl) cne15 dsc26 (by decide), kokV (by decide) (tw7 (i := 104) rfl) rfl (tw7 (i := 105) rfl)⟩
def mE180 : ME := (yX15_fault, .code yX15_fault cX15_fault 2 (some FieldType.int), cX15_fault, 2, (some FieldType.int), [])
theorem mK180 : EOK mE180 1 ∧ kindOK mE180 16 := ⟨eokC (tw7 (i := 218) rfl) (tw1 (i := 7) rfl) cne15 dsc26 (by decide), kokV (by decide) (tw7 (i := 216) rfl) rfl (tw7 (i := 217) rfl)⟩
def mE181 : ME := (yX15_part, .code yX15_part cX15_part 3 (some FieldType.int), cX15_part, 3, (some FieldType.int), [])
theorem mK181 : EOK mE181 1 ∧ kindOK mE181 16 := ⟨eokC (tw7 (i := 230) rfl) (tw1 (i := 7) rfl) cne15 dsc26 (by decide), kokV (by decide) (tw7 (i := 229) rfl) rfl (pw9 (i := 6) rfl)⟩
def mE182 : ME := (yX15_late, .code yX15_late cX15_late 3 none, cX15_late, 3, none, [])
theorem mK182 : EOK mE182 2 ∧ kindOK mE182 16 := ⟨eokC (tw8 (i := 14) rfl) (tw1 (i := 7) rfl) cne15 dsc34 (by decide), kokV (by decide) (tw8 (i := 13) rfl) rfl (pw9 (i := 12) rfl)⟩
def mE183 : ME := (yX15_opens, .code yX15_opens cX15_opens 1 none, cX15_opens, 1, none, [])
theorem mK183 : EOK mE183 0 ∧ kindOK mE183 16 := ⟨eokC (tw8 (i := 22) rfl) (tw1 (i := 7) rfl) cne15 dsc0 (by decide), kokV (by decide) (tw8 (i := 21) rfl) rfl (pw9 (i := 14) rfl)⟩
def mE184 : ME := (yX15_isLetter, .code yX15_isLetter cX15_isLetter 2 (some FieldType.boolean), cX15_isLetter, 2, (some FieldType.boolean), [])
theorem mK184 : EOK mE184 1 ∧ kindOK mE184 16 := ⟨eokC (tw8 (i := 116) rfl) (tw1 (i := 7) rfl) cne15 dsc25 (by decide), kokV (by decide) (tw8 (i := 115) rfl) rfl (pw11 (i := 4) rfl)⟩
def mE185 : ME := (yX15_selected, .code yX15_selected cX15_selected 2 (some FieldType.long), cX15_selected, 2, (some FieldType.long), [])
theorem mK185 : EOK mE185 0 ∧ kindOK mE185 16 := ⟨eokC (tw8 (i := 10) rfl) (tw1 (i := 7) rfl) cne15 dsc59 (by decide), kokV (by decide) (tw8 (i := 9) rfl) rfl (pw9 (i := 11) rfl)⟩
def mE186 : ME := (yX15_isInteger, .code yX15_isInteger cX15_isInteger 1 (some FieldType.boolean), cX15_isInteger, 1, (some FieldType.boolean), [])
theorem mK186 : EOK mE186 0 ∧ kindOK mE186 16 := ⟨eokC (tw8 (i := 6) rfl) (tw1 (i := 7) rfl) cne15 dsc36 (by decide), kokV (by decide) (tw8 (i := 5) rfl) rfl (pw9 (i := 10) rfl)⟩
def mE187 : ME := (yX15_name, .code yX15_name cX15_name 3 (some FieldType.int), cX15_name, 3, (some FieldType.int), [])
theorem mK187 : EOK mE187 1 ∧ kindOK mE187 16 := ⟨eokC (tw8 (i := 2) rfl) (tw1 (i := 7) rfl) cne15 dsc26 (by decide), kokV (by decide) (tw8 (i := 1) rfl) rfl (pw9 (i := 9) rfl)⟩
def mE188 : ME := (yX15_slice, .code yX15_slice cX15_slice 2 (some FieldType.int), cX15_slice, 2, (some FieldType.int), [])
theorem mK188 : EOK mE188 1 ∧ kindOK mE188 16 := ⟨eokC (tw8 (i := 18) rfl) (tw1 (i := 7) rfl) cne15 dsc26 (by decide), kokV (by decide) (tw8 (i := 17) rfl) rfl (pw9 (i := 13) rfl)⟩
def mE189 : ME := (yX15_selector, .code yX15_selector cX15_selector 4 (some FieldType.int), cX15_selector, 4, (some FieldType.int), [])
theorem mK189 : EOK mE189 1 ∧ kindOK mE189 16 := ⟨eokC (tw7 (i := 238) rfl) (tw1 (i := 7) rfl) cne15 dsc53 (by decide), kokV (by decide) (tw7 (i := 237) rfl) rfl (pw9 (i := 8) rfl)⟩
def mE190 : ME := (yX15_bracketed, .code yX15_bracketed cX15_bracketed 6 (some FieldType.int), cX15_bracketed, 6, (some FieldType.int), [])
theorem mK190 : EOK mE190 1 ∧ kindOK mE190 16 := ⟨eokC (tw7 (i := 234) rfl) (tw1 (i := 7) rfl) cne15 dsc53 (by decide), kokV (by decide) (tw7 (i := 233) rfl) rfl (pw9 (i := 7) rfl)⟩
def mE191 : ME := (yX15_member, .code yX15_member cX15_member 2 (some FieldType.int), cX15_member, 2, (some FieldType.int), [])
theorem mK191 : EOK mE191 0 ∧ kindOK mE191 16 := ⟨eokC (tw8 (i := 112) rfl) (tw1 (i := 7) rfl) cne15 dsc2 (by decide), kokV (by decide) (tw8 (i := 111) rfl) rfl (pw11 (i := 3) rfl)⟩
def mE192 : ME := (yX15_segments, .code yX15_segments cX15_segments 10 (some FieldType.int), cX15_segments, 10, (some FieldType.int), [])
theorem dsc68 : (parseMethodDescriptor "(ZZ)I").map (fun s => s.parameters.length) = some 2 := by decide +kernel
theorem mK192 : EOK mE192 2 ∧ kindOK mE192 16 := ⟨eokC (tw7 (i := 226) rfl) (tw1 (i := 7) rfl) cne15 dsc68 (by decide), kokV (by decide) (tw7 (i := 225) rfl) rfl (pw9 (i := 5) rfl)⟩
def mE193 : ME := (yX15_path, .code yX15_path cX15_path 4 (some FieldType.int), cX15_path, 4, (some FieldType.int), [])
theorem mK193 : EOK mE193 1 ∧ kindOK mE193 16 := ⟨eokC (tw8 (i := 46) rfl) (tw1 (i := 7) rfl) cne15 dsc53 (by decide), kokV (by decide) (tw8 (i := 45) rfl) rfl (pw10 (i := 4) rfl)⟩
def mE194 : ME := (yX15_isPath, .code yX15_isPath cX15_isPath 1 (some FieldType.boolean), cX15_isPath, 1, (some FieldType.boolean), [])
theorem mK194 : EOK mE194 0 ∧ kindOK mE194 16 := ⟨eokC (tw8 (i := 42) rfl) (tw1 (i := 7) rfl) cne15 dsc36 (by decide), kokV (by decide) (tw8 (i := 41) rfl) rfl (pw10 (i := 3) rfl)⟩
def mE195 : ME := (yX15_literal, .code yX15_literal cX15_literal 3 (some FieldType.int), cX15_literal, 3, (some FieldType.int), [])
theorem mK195 : EOK mE195 0 ∧ kindOK mE195 16 := ⟨eokC (tw8 (i := 84) rfl) (tw1 (i := 7) rfl) cne15 dsc2 (by decide), kokV (by decide) (tw8 (i := 83) rfl) rfl (pw10 (i := 12) rfl)⟩
def mE196 : ME := (yX15_isLiteral, .code yX15_isLiteral cX15_isLiteral 1 (some FieldType.boolean), cX15_isLiteral, 1, (some FieldType.boolean), [])
theorem mK196 : EOK mE196 0 ∧ kindOK mE196 16 := ⟨eokC (tw8 (i := 80) rfl) (tw1 (i := 7) rfl) cne15 dsc36 (by decide), kokV (by decide) (tw8 (i := 79) rfl) rfl (pw10 (i := 11) rfl)⟩
def mE197 : ME := (yX15_isWord, .code yX15_isWord cX15_isWord 5 (some FieldType.boolean), cX15_isWord, 5, (some FieldType.boolean), [])
theorem dsc69 : (parseMethodDescriptor "(ILjava/lang/String;)Z").map (fun s => s.parameters.length) = some 2 := by decide +kernel
theorem mK197 : EOK mE197 2 ∧ kindOK mE197 16 := ⟨eokC (tw8 (i := 66) rfl) (tw1 (i := 7) rfl) cne15 dsc69 (by decide), kokV (by decide) (tw8 (i := 65) rfl) rfl (pw10 (i := 8) rfl)⟩
def mE198 : ME := (yX15_worded, .code yX15_worded cX15_worded 2 (some FieldType.int), cX15_worded, 2, (some FieldType.int), [])
theorem mK198 : EOK mE198 0 ∧ kindOK mE198 16 := ⟨eokC (tw8 (i := 88) rfl) (tw1 (i := 7) rfl) cne15 dsc2 (by decide), kokV (by decide) (tw8 (i := 87) rfl) rfl (pw10 (i := 13) rfl)⟩
def mE199 : ME := (yX15_isOrdered, .code yX15_isOrdered cX15_isOrdered 1 (some FieldType.boolean), cX15_isOrdered, 1, (some FieldType.boolean), [])
theorem mK199 : EOK mE199 0 ∧ kindOK mE199 16 := ⟨eokC (tw8 (i := 92) rfl) (tw1 (i := 7) rfl) cne15 dsc36 (by decide), kokV (by decide) (tw8 (i := 91) rfl) rfl (pw10 (i := 14) rfl)⟩
def mE200 : ME := (yX15_sign, .code yX15_sign cX15_sign 3 (some FieldType.int), cX15_sign, 3, (some FieldType.int), [])
theorem mK200 : EOK mE200 0 ∧ kindOK mE200 16 := ⟨eokC (tw8 (i := 100) rfl) (tw1 (i := 7) rfl) cne15 dsc2 (by decide), kokV (by decide) (tw8 (i := 99) rfl) rfl (pw11 (i := 0) rfl)⟩
def mE201 : ME := (yX15_comparable, .code yX15_comparable cX15_comparable 1 (some FieldType.int), cX15_comparable, 1, (some FieldType.int), [])
theorem mK201 : EOK mE201 0 ∧ kindOK mE201 16 := ⟨eokC (tw8 (i := 104) rfl) (tw1 (i := 7) rfl) cne15 dsc2 (by decide), kokV (by decide) (tw8 (i := 103) rfl) rfl (pw11 (i := 1) rfl)⟩
def mE202 : ME := (yX15_compared, .code yX15_compared cX15_compared 3 (some FieldType.int), cX15_compared, 3, (some FieldType.int), [])
theorem mK202 : EOK mE202 1 ∧ kindOK mE202 16 := ⟨eokC (tw8 (i := 96) rfl) (tw1 (i := 7) rfl) cne15 dsc26 (by decide), kokV (by decide) (tw8 (i := 95) rfl) rfl (pw10 (i := 15) rfl)⟩
def mE203 : ME := (yX15_tested, .code yX15_tested cX15_tested 4 (some FieldType.int), cX15_tested, 4, (some FieldType.int), [])
theorem mK203 : EOK mE203 2 ∧ kindOK mE203 16 := ⟨eokC (tw8 (i := 50) rfl) (tw1 (i := 7) rfl) cne15 dsc61 (by decide), kokV (by decide) (tw8 (i := 49) rfl) rfl (pw10 (i := 5) rfl)⟩
def mE204 : ME := (yX15_basicOf, .code yX15_basicOf cX15_basicOf 4 (some FieldType.int), cX15_basicOf, 4, (some FieldType.int), [])
theorem mK204 : EOK mE204 2 ∧ kindOK mE204 16 := ⟨eokC (tw8 (i := 108) rfl) (tw1 (i := 7) rfl) cne15 dsc61 (by decide), kokV (by decide) (tw8 (i := 107) rfl) rfl (pw11 (i := 2) rfl)⟩
def mE205 : ME := (yX15_bracket, .code yX15_bracket cX15_bracket 2 (some FieldType.int), cX15_bracket, 2, (some FieldType.int), [])
theorem mK205 : EOK mE205 0 ∧ kindOK mE205 16 := ⟨eokC (tw8 (i := 38) rfl) (tw1 (i := 7) rfl) cne15 dsc2 (by decide), kokV (by decide) (tw8 (i := 37) rfl) rfl (pw10 (i := 2) rfl)⟩
def mE206 : ME := (yX15_basic, .code yX15_basic cX15_basic 3 (some FieldType.int), cX15_basic, 3, (some FieldType.int), [])
theorem mK206 : EOK mE206 0 ∧ kindOK mE206 16 := ⟨eokC (tw8 (i := 34) rfl) (tw1 (i := 7) rfl) cne15 dsc2 (by decide), kokV (by decide) (tw8 (i := 33) rfl) rfl (pw10 (i := 1) rfl)⟩
def mE207 : ME := (yX15_negated, .code yX15_negated cX15_negated 2 (some FieldType.int), cX15_negated, 2, (some FieldType.int), [])
theorem mK207 : EOK mE207 1 ∧ kindOK mE207 16 := ⟨eokC (tw8 (i := 57) rfl) (tw1 (i := 7) rfl) cne15 dsc26 (by decide), kokV (by decide) (tw8 (i := 56) rfl) rfl (pw10 (i := 6) rfl)⟩
def mE208 : ME := (yX15_operand, .code yX15_operand cX15_operand 1 (some FieldType.int), cX15_operand, 1, (some FieldType.int), [])
theorem mK208 : EOK mE208 0 ∧ kindOK mE208 16 := ⟨eokC (tw8 (i := 76) rfl) (tw1 (i := 7) rfl) cne15 dsc2 (by decide), kokV (by decide) (tw8 (i := 75) rfl) rfl (pw10 (i := 10) rfl)⟩
def mE209 : ME := (yX15_all, .code yX15_all cX15_all 6 (some FieldType.int), cX15_all, 6, (some FieldType.int), [])
theorem mK209 : EOK mE209 1 ∧ kindOK mE209 16 := ⟨eokC (tw8 (i := 30) rfl) (tw1 (i := 7) rfl) cne15 dsc26 (by decide), kokV (by decide) (tw8 (i := 29) rfl) rfl (pw10 (i := 0) rfl)⟩
def mE210 : ME := (yX15_any, .code yX15_any cX15_any 6 (some FieldType.int), cX15_any, 6, (some FieldType.int), [])
theorem mK210 : EOK mE210 1 ∧ kindOK mE210 16 := ⟨eokC (tw8 (i := 26) rfl) (tw1 (i := 7) rfl) cne15 dsc26 (by decide), kokV (by decide) (tw8 (i := 25) rfl) rfl (pw9 (i := 15) rfl)⟩
def mE211 : ME := (yX15_argument, .code yX15_argument cX15_argument 6 (some FieldType.int), cX15_argument, 6, (some FieldType.int), [])
theorem mK211 : EOK mE211 0 ∧ kindOK mE211 16 := ⟨eokC (tw8 (i := 72) rfl) (tw1 (i := 7) rfl) cne15 dsc2 (by decide), kokV (by decide) (tw8 (i := 71) rfl) rfl (pw10 (i := 9) rfl)⟩
def mE212 : ME := (yX15_function, .code yX15_function cX15_function 9 (some FieldType.int), cX15_function, 9, (some FieldType.int), [])
theorem mK212 : EOK mE212 1 ∧ kindOK mE212 16 := ⟨eokC (tw8 (i := 61) rfl) (tw1 (i := 7) rfl) cne15 dsc26 (by decide), kokV (by decide) (tw8 (i := 60) rfl) rfl (pw10 (i := 7) rfl)⟩
def mE213 : ME := (yX15_query, .codeWith yX15_query cX15_query 3 (some FieldType.int) [(59, 94, 97, 9)], cX15_query, 3, (some FieldType.int), [(59, 94, 97, 9)])
theorem mK213 : EOK mE213 1 ∧ kindOK mE213 16 := ⟨eokW (tw7 (i := 222) rfl) (tw1 (i := 7) rfl) cne15 dsc26 (by decide), kokV (by decide) (tw7 (i := 220) rfl) rfl (tw7 (i := 221) rfl)⟩
def mE214 : ME := (yX15_look, .code yX15_look cX15_look 1 none, cX15_look, 1, none, [])
theorem mK214 : EOK mE214 0 ∧ kindOK mE214 16 := ⟨eokC (tw8 (i := 132) rfl) (tw1 (i := 7) rfl) cne15 dsc0 (by decide), kokV (by decide) (tw8 (i := 131) rfl) rfl (pw11 (i := 7) rfl)⟩
def mE215 : ME := (yX15_comes, .code yX15_comes cX15_comes 2 none, cX15_comes, 2, none, [])
theorem mK215 : EOK mE215 1 ∧ kindOK mE215 16 := ⟨eokC (tw8 (i := 145) rfl) (tw1 (i := 7) rfl) cne15 dsc4 (by decide), kokV (by decide) (tw8 (i := 144) rfl) rfl (pw11 (i := 10) rfl)⟩
def mE216 : ME := (yX15_nodes, .code yX15_nodes cX15_nodes 10 (some FieldType.int), cX15_nodes, 10, (some FieldType.int), [])
theorem dsc70 : (parseMethodDescriptor "(III)I").map (fun s => s.parameters.length) = some 3 := by decide +kernel
theorem mK216 : EOK mE216 3 ∧ kindOK mE216 16 := ⟨eokC (tw8 (i := 124) rfl) (tw1 (i := 7) rfl) cne15 dsc70 (by decide), kokV (by decide) (tw8 (i := 123) rfl) rfl (pw11 (i := 5) rfl)⟩
def mE217 : ME := (yX15_down, .code yX15_down cX15_down 5 none, cX15_down, 5, none, [])
theorem dsc71 : (parseMethodDescriptor "(III)V").map (fun s => s.parameters.length) = some 3 := by decide +kernel
theorem mK217 : EOK mE217 3 ∧ kindOK mE217 16 := ⟨eokC (tw8 (i := 128) rfl) (tw1 (i := 7) rfl) cne15 dsc71 (by decide), kokV (by decide) (tw8 (i := 127) rfl) rfl (pw11 (i := 6) rfl)⟩
def mE218 : ME := (yX15_asked, .code yX15_asked cX15_asked 7 none, cX15_asked, 7, none, [])
theorem mK218 : EOK mE218 3 ∧ kindOK mE218 16 := ⟨eokC (tw8 (i := 137) rfl) (tw1 (i := 7) rfl) cne15 dsc71 (by decide), kokV (by decide) (tw8 (i := 136) rfl) rfl (pw11 (i := 8) rfl)⟩
def mE219 : ME := (yX15_named, .code yX15_named cX15_named 5 (some FieldType.int), cX15_named, 5, (some FieldType.int), [])
theorem mK219 : EOK mE219 3 ∧ kindOK mE219 16 := ⟨eokC (tw8 (i := 141) rfl) (tw1 (i := 7) rfl) cne15 dsc70 (by decide), kokV (by decide) (tw8 (i := 140) rfl) rfl (pw11 (i := 9) rfl)⟩
def mE220 : ME := (yX15_element, .code yX15_element cX15_element 5 (some FieldType.int), cX15_element, 5, (some FieldType.int), [])
theorem mK220 : EOK mE220 2 ∧ kindOK mE220 16 := ⟨eokC (tw8 (i := 149) rfl) (tw1 (i := 7) rfl) cne15 dsc61 (by decide), kokV (by decide) (tw8 (i := 148) rfl) rfl (pw11 (i := 11) rfl)⟩
def mE221 : ME := (yX15_within, .code yX15_within cX15_within 6 (some FieldType.long), cX15_within, 6, (some FieldType.long), [])
theorem dsc72 : (parseMethodDescriptor "(JJJ)J").map (fun s => s.parameters.length) = some 3 := by decide +kernel
theorem mK221 : EOK mE221 3 ∧ kindOK mE221 1000 := ⟨eokC (tw8 (i := 157) rfl) (tw1 (i := 7) rfl) cne15 dsc72 (by decide), kokS (tw8 (i := 156) rfl)⟩
def mE222 : ME := (yX15_sliced, .code yX15_sliced cX15_sliced 18 none, cX15_sliced, 18, none, [])
theorem mK222 : EOK mE222 2 ∧ kindOK mE222 16 := ⟨eokC (tw8 (i := 153) rfl) (tw1 (i := 7) rfl) cne15 dsc34 (by decide), kokV (by decide) (tw8 (i := 152) rfl) rfl (pw11 (i := 12) rfl)⟩
def mE223 : ME := (yX15_filtered, .code yX15_filtered cX15_filtered 8 none, cX15_filtered, 8, none, [])
theorem mK223 : EOK mE223 3 ∧ kindOK mE223 16 := ⟨eokC (tw8 (i := 161) rfl) (tw1 (i := 7) rfl) cne15 dsc71 (by decide), kokV (by decide) (tw8 (i := 160) rfl) rfl (pw11 (i := 13) rfl)⟩
def mE224 : ME := (yX15_isTrue, .code yX15_isTrue cX15_isTrue 6 (some FieldType.boolean), cX15_isTrue, 6, (some FieldType.boolean), [])
theorem dsc73 : (parseMethodDescriptor "(III)Z").map (fun s => s.parameters.length) = some 3 := by decide +kernel
theorem mK224 : EOK mE224 3 ∧ kindOK mE224 16 := ⟨eokC (tw8 (i := 165) rfl) (tw1 (i := 7) rfl) cne15 dsc73 (by decide), kokV (by decide) (tw8 (i := 164) rfl) rfl (pw11 (i := 14) rfl)⟩
def mE225 : ME := (yX15_pathOf, .code yX15_pathOf cX15_pathOf 4 (some FieldType.int), cX15_pathOf, 4, (some FieldType.int), [])
theorem mK225 : EOK mE225 3 ∧ kindOK mE225 16 := ⟨eokC (tw8 (i := 169) rfl) (tw1 (i := 7) rfl) cne15 dsc70 (by decide), kokV (by decide) (tw8 (i := 168) rfl) rfl (pw11 (i := 15) rfl)⟩
def mE226 : ME := (yX15_ofValue, .code yX15_ofValue cX15_ofValue 2 none, cX15_ofValue, 2, none, [])
theorem mK226 : EOK mE226 1 ∧ kindOK mE226 16 := ⟨eokC (tw8 (i := 185) rfl) (tw1 (i := 7) rfl) cne15 dsc4 (by decide), kokV (by decide) (tw8 (i := 184) rfl) rfl (pw12 (i := 3) rfl)⟩
def mE227 : ME := (yX15_ofNumber, .code yX15_ofNumber cX15_ofNumber 3 none, cX15_ofNumber, 3, none, [])
theorem mK227 : EOK mE227 1 ∧ kindOK mE227 16 := ⟨eokC (tw8 (i := 181) rfl) (tw1 (i := 7) rfl) cne15 dsc28 (by decide), kokV (by decide) (tw8 (i := 180) rfl) rfl (pw12 (i := 2) rfl)⟩
def mE228 : ME := (yX15_comesTo, .code yX15_comesTo cX15_comesTo 6 none, cX15_comesTo, 6, none, [])
theorem mK228 : EOK mE228 3 ∧ kindOK mE228 16 := ⟨eokC (tw8 (i := 177) rfl) (tw1 (i := 7) rfl) cne15 dsc71 (by decide), kokV (by decide) (tw8 (i := 176) rfl) rfl (pw12 (i := 1) rfl)⟩
def mE229 : ME := (yX15_compares, .code yX15_compares cX15_compares 13 (some FieldType.boolean), cX15_compares, 13, (some FieldType.boolean), [])
theorem mK229 : EOK mE229 3 ∧ kindOK mE229 16 := ⟨eokC (tw8 (i := 173) rfl) (tw1 (i := 7) rfl) cne15 dsc73 (by decide), kokV (by decide) (tw8 (i := 172) rfl) rfl (pw12 (i := 0) rfl)⟩
def mE230 : ME := (yX15_isLess, .code yX15_isLess cX15_isLess 12 (some FieldType.boolean), cX15_isLess, 12, (some FieldType.boolean), [])
theorem dsc74 : (parseMethodDescriptor "(IJIIIJII)Z").map (fun s => s.parameters.length) = some 8 := by decide +kernel
theorem mK230 : EOK mE230 8 ∧ kindOK mE230 16 := ⟨eokC (tw8 (i := 201) rfl) (tw1 (i := 7) rfl) cne15 dsc74 (by decide), kokV (by decide) (tw8 (i := 200) rfl) rfl (pw12 (i := 7) rfl)⟩
def mE231 : ME := (yX15_alike, .code yX15_alike cX15_alike 13 (some FieldType.boolean), cX15_alike, 13, (some FieldType.boolean), [])
theorem dsc75 : (parseMethodDescriptor "(IJIIIIJIII)Z").map (fun s => s.parameters.length) = some 10 := by decide +kernel
theorem mK231 : EOK mE231 10 ∧ kindOK mE231 16 := ⟨eokC (tw8 (i := 189) rfl) (tw1 (i := 7) rfl) cne15 dsc75 (by decide), kokV (by decide) (tw8 (i := 188) rfl) rfl (pw12 (i := 4) rfl)⟩
def mE232 : ME := (yX15_areAlike, .code yX15_areAlike cX15_areAlike 6 (some FieldType.boolean), cX15_areAlike, 6, (some FieldType.boolean), [])
theorem mK232 : EOK mE232 2 ∧ kindOK mE232 16 := ⟨eokC (tw8 (i := 193) rfl) (tw1 (i := 7) rfl) cne15 dsc54 (by decide), kokV (by decide) (tw8 (i := 192) rfl) rfl (pw12 (i := 5) rfl)⟩
def mE233 : ME := (yX15_areSameValues, .code yX15_areSameValues cX15_areSameValues 3 (some FieldType.boolean), cX15_areSameValues, 3, (some FieldType.boolean), [])
theorem mK233 : EOK mE233 2 ∧ kindOK mE233 16 := ⟨eokC (tw8 (i := 197) rfl) (tw1 (i := 7) rfl) cne15 dsc54 (by decide), kokV (by decide) (tw8 (i := 196) rfl) rfl (pw12 (i := 6) rfl)⟩
def mE234 : ME := (yX15_find, .codeWith yX15_find cX15_find 3 (some FieldType.int) [(31, 45, 48, 9)], cX15_find, 3, (some FieldType.int), [(31, 45, 48, 9)])
theorem mK234 : EOK mE234 0 ∧ kindOK mE234 16 := ⟨eokW (tw8 (i := 120) rfl) (tw1 (i := 7) rfl) cne15 dsc2 (by decide), kokV (by decide) (tw8 (i := 118) rfl) rfl (tw8 (i := 119) rfl)⟩
def mE235 : ME := (yX15_isFound, .code yX15_isFound cX15_isFound 2 (some FieldType.boolean), cX15_isFound, 2, (some FieldType.boolean), [])
theorem mK235 : EOK mE235 1 ∧ kindOK mE235 16 := ⟨eokC (tw8 (i := 209) rfl) (tw1 (i := 7) rfl) cne15 dsc25 (by decide), kokV (by decide) (tw8 (i := 208) rfl) rfl (pw12 (i := 8) rfl)⟩
def mE236 : ME := (yX15_steps, .code yX15_steps cX15_steps 2 (some FieldType.int), cX15_steps, 2, (some FieldType.int), [])
theorem mK236 : EOK mE236 1 ∧ kindOK mE236 16 := ⟨eokC (tw8 (i := 213) rfl) (tw1 (i := 7) rfl) cne15 dsc26 (by decide), kokV (by decide) (tw8 (i := 212) rfl) rfl (pw12 (i := 9) rfl)⟩
def mE237 : ME := (yX15_found, .code yX15_found cX15_found 5 (some FieldType.int), cX15_found, 5, (some FieldType.int), [])
theorem mK237 : EOK mE237 2 ∧ kindOK mE237 16 := ⟨eokC (tw8 (i := 205) rfl) (tw1 (i := 7) rfl) cne15 dsc61 (by decide), kokV (by decide) (tw8 (i := 203) rfl) rfl (tw8 (i := 204) rfl)⟩
def mE238 : ME := (yX15_number, .code yX15_number cX15_number 2 (some FieldType.long), cX15_number, 2, (some FieldType.long), [])
theorem mK238 : EOK mE238 1 ∧ kindOK mE238 16 := ⟨eokC (tw8 (i := 217) rfl) (tw1 (i := 7) rfl) cne15 dsc62 (by decide), kokV (by decide) (tw8 (i := 215) rfl) rfl (tw8 (i := 216) rfl)⟩
def mE239 : ME := (yX15_put, .code yX15_put cX15_put 2 none, cX15_put, 2, none, [])
theorem mK239 : EOK mE239 1 ∧ kindOK mE239 16 := ⟨eokC (tw8 (i := 225) rfl) (tw1 (i := 7) rfl) cne15 dsc4 (by decide), kokV (by decide) (tw8 (i := 224) rfl) rfl (pw12 (i := 10) rfl)⟩
def mE240 : ME := (yX15_say, .code yX15_say cX15_say 3 none, cX15_say, 3, none, [])
theorem mK240 : EOK mE240 1 ∧ kindOK mE240 16 := ⟨eokC (tw9 (i := 10) rfl) (tw1 (i := 7) rfl) cne15 dsc27 (by decide), kokV (by decide) (tw9 (i := 9) rfl) rfl (pw12 (i := 15) rfl)⟩
def mE241 : ME := (yX15_sayNumber, .code yX15_sayNumber cX15_sayNumber 7 none, cX15_sayNumber, 7, none, [])
theorem mK241 : EOK mE241 1 ∧ kindOK mE241 16 := ⟨eokC (tw8 (i := 229) rfl) (tw1 (i := 7) rfl) cne15 dsc28 (by decide), kokV (by decide) (tw8 (i := 228) rfl) rfl (pw12 (i := 11) rfl)⟩
def mE242 : ME := (yX15_sayCharacter, .code yX15_sayCharacter cX15_sayCharacter 4 none, cX15_sayCharacter, 4, none, [])
theorem mK242 : EOK mE242 2 ∧ kindOK mE242 16 := ⟨eokC (tw8 (i := 238) rfl) (tw1 (i := 7) rfl) cne15 dsc34 (by decide), kokV (by decide) (tw8 (i := 237) rfl) rfl (pw12 (i := 13) rfl)⟩
def mE243 : ME := (yX15_sayText, .code yX15_sayText cX15_sayText 5 none, cX15_sayText, 5, none, [])
theorem mK243 : EOK mE243 3 ∧ kindOK mE243 16 := ⟨eokC (tw8 (i := 234) rfl) (tw1 (i := 7) rfl) cne15 dsc71 (by decide), kokV (by decide) (tw8 (i := 233) rfl) rfl (pw12 (i := 12) rfl)⟩
def mE244 : ME := (yX15_path_, .code yX15_path_ cX15_path_ 4 (some FieldType.int), cX15_path_, 4, (some FieldType.int), [])
theorem mK244 : EOK mE244 1 ∧ kindOK mE244 16 := ⟨eokC (tw8 (i := 221) rfl) (tw1 (i := 7) rfl) cne15 dsc26 (by decide), kokV (by decide) (tw8 (i := 219) rfl) rfl (tw8 (i := 220) rfl)⟩
def mE245 : ME := (yX15_sayValue, .code yX15_sayValue cX15_sayValue 4 none, cX15_sayValue, 4, none, [])
theorem mK245 : EOK mE245 1 ∧ kindOK mE245 16 := ⟨eokC (tw9 (i := 6) rfl) (tw1 (i := 7) rfl) cne15 dsc4 (by decide), kokV (by decide) (tw9 (i := 5) rfl) rfl (pw12 (i := 14) rfl)⟩
def mE246 : ME := (yX15_text, .code yX15_text cX15_text 2 (some FieldType.int), cX15_text, 2, (some FieldType.int), [])
theorem mK246 : EOK mE246 1 ∧ kindOK mE246 16 := ⟨eokC (tw9 (i := 2) rfl) (tw1 (i := 7) rfl) cne15 dsc26 (by decide), kokV (by decide) (tw9 (i := 0) rfl) rfl (tw9 (i := 1) rfl)⟩
def mE247 : ME := (yX15_out, .code yX15_out cX15_out 2 (some FieldType.int), cX15_out, 2, (some FieldType.int), [])
theorem mK247 : EOK mE247 1 ∧ kindOK mE247 16 := ⟨eokC (tw9 (i := 14) rfl) (tw1 (i := 7) rfl) cne15 dsc26 (by decide), kokV (by decide) (tw9 (i := 12) rfl) rfl (tw9 (i := 13) rfl)⟩
def mE248 : ME := (yX15_about, .code yX15_about cX15_about 2 (some FieldType.int), cX15_about, 2, (some FieldType.int), [])
theorem mK248 : EOK mE248 1 ∧ kindOK mE248 16 := ⟨eokC (tw9 (i := 18) rfl) (tw1 (i := 7) rfl) cne15 dsc26 (by decide), kokV (by decide) (tw9 (i := 16) rfl) rfl (tw9 (i := 17) rfl)⟩
def mE249 : ME := (yJ9_abs_067f4, .code yJ9_abs_067f4 cJ9_abs_067f4 2 (some FieldType.long), cJ9_abs_067f4, 2, (some FieldType.long), [])
theorem cne16 : ("java/lang/Math" : String) ≠ "java/lang/invoke/MethodHandle" ∧ ("java/lang/Math" : String) ≠ "java/lang/invoke/VarHandle" := ⟨by decide, by decide⟩
theorem dsc76 : (parseMethodDescriptor "(J)J").map (fun s => s.parameters.length) = some 1 := by decide +kernel
theorem mK249 : EOK mE249 1 ∧ kindOK mE249 1000 := ⟨eokC (tw6 (i := 13) rfl) (tw1 (i := 14) rfl) cne16 dsc76 (by decide), kokS (tw6 (i := 12) rfl)⟩
def mE250 : ME := (yJ9_max_7cf53, .code yJ9_max_7cf53 cJ9_max_7cf53 2 (some FieldType.int), cJ9_max_7cf53, 2, (some FieldType.int), [])
theorem mK250 : EOK mE250 2 ∧ kindOK mE250 1000 := ⟨eokC (tw3 (i := 97) rfl) (tw1 (i := 14) rfl) cne16 dsc61 (by decide), kokS (tw3 (i := 96) rfl)⟩
def mE251 : ME := (yJ9_max_f86c9, .code yJ9_max_f86c9 cJ9_max_f86c9 4 (some FieldType.long), cJ9_max_f86c9, 4, (some FieldType.long), [])
theorem dsc77 : (parseMethodDescriptor "(JJ)J").map (fun s => s.parameters.length) = some 2 := by decide +kernel
theorem mK251 : EOK mE251 2 ∧ kindOK mE251 1000 := ⟨eokC (tw5 (i := 143) rfl) (tw1 (i := 14) rfl) cne16 dsc77 (by decide), kokS (tw5 (i := 142) rfl)⟩
def mE252 : ME := (yJ9_min_7cf53, .code yJ9_min_7cf53 cJ9_min_7cf53 2 (some FieldType.int), cJ9_min_7cf53, 2, (some FieldType.int), [])
theorem mK252 : EOK mE252 2 ∧ kindOK mE252 1000 := ⟨eokC (tw1 (i := 206) rfl) (tw1 (i := 14) rfl) cne16 dsc61 (by decide), kokS (tw1 (i := 205) rfl)⟩
def mE253 : ME := (yJ9_min_f86c9, .code yJ9_min_f86c9 cJ9_min_f86c9 4 (some FieldType.long), cJ9_min_f86c9, 4, (some FieldType.long), [])
theorem mK253 : EOK mE253 2 ∧ kindOK mE253 1000 := ⟨eokC (tw2 (i := 235) rfl) (tw1 (i := 14) rfl) cne16 dsc77 (by decide), kokS (tw2 (i := 234) rfl)⟩
def mE254 : ME := (yJ0_length_8abf5, .code yJ0_length_8abf5 cJ0_length_8abf5 1 (some FieldType.int), cJ0_length_8abf5, 1, (some FieldType.int), [])
theorem cne17 : ("java/lang/String" : String) ≠ "java/lang/invoke/MethodHandle" ∧ ("java/lang/String" : String) ≠ "java/lang/invoke/VarHandle" := ⟨by decide, by decide⟩
theorem mK254 : EOK mE254 0 ∧ kindOK mE254 4000 := ⟨eokC (tw2 (i := 170) rfl) (tw1 (i := 20) rfl) cne17 dsc2 (by decide), kokT (tw2 (i := 168) rfl) (tw2 (i := 169) rfl)⟩
def mE255 : ME := (yJ0_charAt_5068e, .code yJ0_charAt_5068e cJ0_charAt_5068e 2 (some FieldType.char), cJ0_charAt_5068e, 2, (some FieldType.char), [])
theorem dsc78 : (parseMethodDescriptor "(I)C").map (fun s => s.parameters.length) = some 1 := by decide +kernel
theorem mK255 : EOK mE255 1 ∧ kindOK mE255 4000 := ⟨eokC (tw2 (i := 180) rfl) (tw1 (i := 20) rfl) cne17 dsc78 (by decide), kokT (tw2 (i := 178) rfl) (tw2 (i := 179) rfl)⟩
def mE256 : ME := (yJ0_coder_7d493, .code yJ0_coder_7d493 cJ0_coder_7d493 1 (some FieldType.byte), cJ0_coder_7d493, 1, (some FieldType.byte), [])
theorem dsc79 : (parseMethodDescriptor "()B").map (fun s => s.parameters.length) = some 0 := by decide +kernel
theorem mK256 : EOK mE256 0 ∧ kindOK mE256 4000 := ⟨eokC (tw2 (i := 174) rfl) (tw1 (i := 20) rfl) cne17 dsc79 (by decide), kokT (tw2 (i := 172) rfl) (tw2 (i := 173) rfl)⟩
def mE257 : ME := (yJ0_isLatin1_aae02, .code yJ0_isLatin1_aae02 cJ0_isLatin1_aae02 1 (some FieldType.boolean), cJ0_isLatin1_aae02, 1, (some FieldType.boolean), [])
theorem mK257 : EOK mE257 0 ∧ kindOK mE257 4000 := ⟨eokC (tw2 (i := 184) rfl) (tw1 (i := 20) rfl) cne17 dsc36 (by decide), kokT (tw2 (i := 182) rfl) (tw2 (i := 183) rfl)⟩
def mE258 : ME := (yJ0_checkIndex_df160, .code yJ0_checkIndex_df160 cJ0_checkIndex_df160 2 none, cJ0_checkIndex_df160, 2, none, [])
theorem mK258 : EOK mE258 2 ∧ kindOK mE258 1000 := ⟨eokC (tw2 (i := 190) rfl) (tw1 (i := 20) rfl) cne17 dsc34 (by decide), kokS (tw2 (i := 189) rfl)⟩
def mE259 : ME := (yJ1_charAt_3b067, .code yJ1_charAt_3b067 cJ1_charAt_3b067 2 (some FieldType.char), cJ1_charAt_3b067, 2, (some FieldType.char), [])
theorem cne18 : ("java/lang/StringLatin1" : String) ≠ "java/lang/invoke/MethodHandle" ∧ ("java/lang/StringLatin1" : String) ≠ "java/lang/invoke/VarHandle" := ⟨by decide, by decide⟩
theorem dsc80 : (parseMethodDescriptor "([BI)C").map (fun s => s.parameters.length) = some 2 := by decide +kernel
theorem mK259 : EOK mE259 2 ∧ kindOK mE259 1000 := ⟨eokC (tw2 (i := 187) rfl) (tw1 (i := 21) rfl) cne18 dsc80 (by decide), kokS (tw2 (i := 186) rfl)⟩
def mE260 : ME := (yJ2_getChar_3b067, .code yJ2_getChar_3b067 cJ2_getChar_3b067 2 (some FieldType.char), cJ2_getChar_3b067, 2, (some FieldType.char), [])
theorem cne19 : ("java/lang/StringUTF16" : String) ≠ "java/lang/invoke/MethodHandle" ∧ ("java/lang/StringUTF16" : String) ≠ "java/lang/invoke/VarHandle" := ⟨by decide, by decide⟩
theorem mK260 : EOK mE260 2 ∧ kindOK mE260 1000 := ⟨eokC (tw2 (i := 208) rfl) (tw1 (i := 23) rfl) cne19 dsc80 (by decide), kokS (tw2 (i := 207) rfl)⟩
def mE261 : ME := (yJ2_length_9d52b, .code yJ2_length_9d52b cJ2_length_9d52b 1 (some FieldType.int), cJ2_length_9d52b, 1, (some FieldType.int), [])
theorem dsc81 : (parseMethodDescriptor "([B)I").map (fun s => s.parameters.length) = some 1 := by decide +kernel
theorem mK261 : EOK mE261 1 ∧ kindOK mE261 1000 := ⟨eokC (tw2 (i := 204) rfl) (tw1 (i := 23) rfl) cne19 dsc81 (by decide), kokS (tw2 (i := 203) rfl)⟩
def mE262 : ME := (yJ2_charAt_3b067, .code yJ2_charAt_3b067 cJ2_charAt_3b067 2 (some FieldType.char), cJ2_charAt_3b067, 2, (some FieldType.char), [])
theorem mK262 : EOK mE262 2 ∧ kindOK mE262 1000 := ⟨eokC (tw2 (i := 198) rfl) (tw1 (i := 23) rfl) cne19 dsc80 (by decide), kokS (tw2 (i := 197) rfl)⟩
def mE263 : ME := (yJ2_checkIndex_2214a, .code yJ2_checkIndex_2214a cJ2_checkIndex_2214a 2 none, cJ2_checkIndex_2214a, 2, none, [])
theorem dsc82 : (parseMethodDescriptor "(I[B)V").map (fun s => s.parameters.length) = some 2 := by decide +kernel
theorem mK263 : EOK mE263 2 ∧ kindOK mE263 1000 := ⟨eokC (tw2 (i := 201) rfl) (tw1 (i := 23) rfl) cne19 dsc82 (by decide), kokS (tw2 (i := 200) rfl)⟩
def mE264 : ME := (yJxa1e45_init_da8c8, .code yJxa1e45_init_da8c8 cJxa1e45_init_da8c8 1 none, cJxa1e45_init_da8c8, 1, none, [])
theorem cne20 : ("java/util/AbstractCollection" : String) ≠ "java/lang/invoke/MethodHandle" ∧ ("java/util/AbstractCollection" : String) ≠ "java/lang/invoke/VarHandle" := ⟨by decide, by decide⟩
theorem mK264 : EOK mE264 0 ∧ kindOK mE264 2000 := ⟨eokC (tw2 (i := 82) rfl) (tw1 (i := 17) rfl) cne20 dsc0 (by decide), kokI (tw2 (i := 81) rfl) rfl rfl⟩
def mE265 : ME := (yJxc12de_init_da8c8, .code yJxc12de_init_da8c8 cJxc12de_init_da8c8 1 none, cJxc12de_init_da8c8, 1, none, [])
theorem cne21 : ("java/util/AbstractList" : String) ≠ "java/lang/invoke/MethodHandle" ∧ ("java/util/AbstractList" : String) ≠ "java/lang/invoke/VarHandle" := ⟨by decide, by decide⟩
theorem mK265 : EOK mE265 0 ∧ kindOK mE265 2000 := ⟨eokC (tw2 (i := 79) rfl) (tw1 (i := 18) rfl) cne21 dsc0 (by decide), kokI (tw2 (i := 78) rfl) rfl rfl⟩
def mE266 : ME := (yJx4a65c_init_da8c8, .code yJx4a65c_init_da8c8 cJx4a65c_init_da8c8 1 none, cJx4a65c_init_da8c8, 1, none, [])
theorem cne22 : ("java/util/ArrayList" : String) ≠ "java/lang/invoke/MethodHandle" ∧ ("java/util/ArrayList" : String) ≠ "java/lang/invoke/VarHandle" := ⟨by decide, by decide⟩
theorem mK266 : EOK mE266 0 ∧ kindOK mE266 2000 := ⟨eokC (tw2 (i := 76) rfl) (tw1 (i := 19) rfl) cne22 dsc0 (by decide), kokI (tw2 (i := 75) rfl) rfl rfl⟩
def mE267 : ME := (yJx4a65c_grow_92f84, .code yJx4a65c_grow_92f84 cJx4a65c_grow_92f84 4 (some (FieldType.array (FieldType.object "java/lang/Object"))), cJx4a65c_grow_92f84, 4, (some (FieldType.array (FieldType.object "java/lang/Object"))), [])
theorem dsc83 : (parseMethodDescriptor "(I)[Ljava/lang/Object;").map (fun s => s.parameters.length) = some 1 := by decide +kernel
theorem mK267 : EOK mE267 1 ∧ kindOK mE267 0 := ⟨eokC (tw3 (i := 91) rfl) (tw1 (i := 19) rfl) cne22 dsc83 (by decide), kokV (by decide) (tw3 (i := 90) rfl) rfl (pw2 (i := 11) rfl)⟩
def mE268 : ME := (yJx4a65c_grow_d5877, .code yJx4a65c_grow_d5877 cJx4a65c_grow_d5877 1 (some (FieldType.array (FieldType.object "java/lang/Object"))), cJx4a65c_grow_d5877, 1, (some (FieldType.array (FieldType.object "java/lang/Object"))), [])
theorem dsc84 : (parseMethodDescriptor "()[Ljava/lang/Object;").map (fun s => s.parameters.length) = some 0 := by decide +kernel
theorem mK268 : EOK mE268 0 ∧ kindOK mE268 0 := ⟨eokC (tw3 (i := 87) rfl) (tw1 (i := 19) rfl) cne22 dsc84 (by decide), kokV (by decide) (tw3 (i := 86) rfl) rfl (pw2 (i := 10) rfl)⟩
def mE269 : ME := (yJx4a65c_size_8abf5, .code yJx4a65c_size_8abf5 cJx4a65c_size_8abf5 1 (some FieldType.int), cJx4a65c_size_8abf5, 1, (some FieldType.int), [])
theorem mK269 : EOK mE269 0 ∧ kindOK mE269 0 := ⟨eokC (tw3 (i := 75) rfl) (tw1 (i := 19) rfl) cne22 dsc2 (by decide), kokV (by decide) (tw3 (i := 73) rfl) rfl (tw3 (i := 74) rfl)⟩
def mE270 : ME := (yJx4a65c_elementData_915e3, .code yJx4a65c_elementData_915e3 cJx4a65c_elementData_915e3 2 (some (FieldType.object "java/lang/Object")), cJx4a65c_elementData_915e3, 2, (some (FieldType.object "java/lang/Object")), [])
theorem dsc85 : (parseMethodDescriptor "(I)Ljava/lang/Object;").map (fun s => s.parameters.length) = some 1 := by decide +kernel
theorem mK270 : EOK mE270 1 ∧ kindOK mE270 0 := ⟨eokC (tw3 (i := 166) rfl) (tw1 (i := 19) rfl) cne22 dsc85 (by decide), kokV (by decide) (tw3 (i := 164) rfl) rfl (tw3 (i := 165) rfl)⟩
def mE271 : ME := (yJx4a65c_get_915e3, .code yJx4a65c_get_915e3 cJx4a65c_get_915e3 2 (some (FieldType.object "java/lang/Object")), cJx4a65c_get_915e3, 2, (some (FieldType.object "java/lang/Object")), [])
theorem mK271 : EOK mE271 1 ∧ kindOK mE271 0 := ⟨eokC (tw3 (i := 158) rfl) (tw1 (i := 19) rfl) cne22 dsc85 (by decide), kokV (by decide) (tw3 (i := 156) rfl) rfl (tw3 (i := 157) rfl)⟩
def mE272 : ME := (yJx4a65c_add_72be8, .code yJx4a65c_add_72be8 cJx4a65c_add_72be8 4 none, cJx4a65c_add_72be8, 4, none, [])
theorem dsc86 : (parseMethodDescriptor "(Ljava/lang/Object;[Ljava/lang/Object;I)V").map (fun s => s.parameters.length) = some 3 := by decide +kernel
theorem mK272 : EOK mE272 3 ∧ kindOK mE272 0 := ⟨eokC (tw3 (i := 83) rfl) (tw1 (i := 19) rfl) cne22 dsc86 (by decide), kokV (by decide) (tw3 (i := 82) rfl) rfl (pw2 (i := 9) rfl)⟩
def mE273 : ME := (yJx4a65c_add_9ea2d, .code yJx4a65c_add_9ea2d cJx4a65c_add_9ea2d 2 (some FieldType.boolean), cJx4a65c_add_9ea2d, 2, (some FieldType.boolean), [])
theorem dsc87 : (parseMethodDescriptor "(Ljava/lang/Object;)Z").map (fun s => s.parameters.length) = some 1 := by decide +kernel
theorem mK273 : EOK mE273 1 ∧ kindOK mE273 0 := ⟨eokC (tw3 (i := 79) rfl) (tw1 (i := 19) rfl) cne22 dsc87 (by decide), kokV (by decide) (tw3 (i := 77) rfl) rfl (tw3 (i := 78) rfl)⟩
def mE274 : ME := (yJ7_copyOf_1904c, .code yJ7_copyOf_1904c cJ7_copyOf_1904c 2 (some (FieldType.array (FieldType.object "java/lang/Object"))), cJ7_copyOf_1904c, 2, (some (FieldType.array (FieldType.object "java/lang/Object"))), [])
theorem cne23 : ("java/util/Arrays" : String) ≠ "java/lang/invoke/MethodHandle" ∧ ("java/util/Arrays" : String) ≠ "java/lang/invoke/VarHandle" := ⟨by decide, by decide⟩
theorem dsc88 : (parseMethodDescriptor "([Ljava/lang/Object;I)[Ljava/lang/Object;").map (fun s => s.parameters.length) = some 2 := by decide +kernel
theorem mK274 : EOK mE274 2 ∧ kindOK mE274 1000 := ⟨eokC (tw3 (i := 104) rfl) (tw1 (i := 24) rfl) cne23 dsc88 (by decide), kokS (tw3 (i := 103) rfl)⟩
def mE275 : ME := (yJ7_copyOf_6403c, .code yJ7_copyOf_6403c cJ7_copyOf_6403c 4 (some (FieldType.array (FieldType.object "java/lang/Object"))), cJ7_copyOf_6403c, 4, (some (FieldType.array (FieldType.object "java/lang/Object"))), [])
theorem dsc89 : (parseMethodDescriptor "([Ljava/lang/Object;ILjava/lang/Class;)[Ljava/lang/Object;").map (fun s => s.parameters.length) = some 3 := by decide +kernel
theorem mK275 : EOK mE275 3 ∧ kindOK mE275 1000 := ⟨eokC (tw3 (i := 131) rfl) (tw1 (i := 24) rfl) cne23 dsc89 (by decide), kokS (tw3 (i := 130) rfl)⟩
def mE276 : ME := (yJ7_copyOf_59c91, .code yJ7_copyOf_59c91 cJ7_copyOf_59c91 3 (some (FieldType.array FieldType.int)), cJ7_copyOf_59c91, 3, (some (FieldType.array FieldType.int)), [])
theorem dsc90 : (parseMethodDescriptor "([II)[I").map (fun s => s.parameters.length) = some 2 := by decide +kernel
theorem mK276 : EOK mE276 2 ∧ kindOK mE276 1000 := ⟨eokC (tw3 (i := 48) rfl) (tw1 (i := 24) rfl) cne23 dsc90 (by decide), kokS (tw3 (i := 47) rfl)⟩
def mE277 : ME := (yJ15_checkIndex_7cf53, .code yJ15_checkIndex_7cf53 cJ15_checkIndex_7cf53 2 (some FieldType.int), cJ15_checkIndex_7cf53, 2, (some FieldType.int), [])
theorem cne24 : ("java/util/Objects" : String) ≠ "java/lang/invoke/MethodHandle" ∧ ("java/util/Objects" : String) ≠ "java/lang/invoke/VarHandle" := ⟨by decide, by decide⟩
theorem mK277 : EOK mE277 2 ∧ kindOK mE277 1000 := ⟨eokC (tw3 (i := 161) rfl) (tw1 (i := 27) rfl) cne24 dsc61 (by decide), kokS (tw3 (i := 160) rfl)⟩
def mE278 : ME := (yJ8_newLength_cabcc, .code yJ8_newLength_cabcc cJ8_newLength_cabcc 4 (some FieldType.int), cJ8_newLength_cabcc, 4, (some FieldType.int), [])
theorem cne25 : ("jdk/internal/util/ArraysSupport" : String) ≠ "java/lang/invoke/MethodHandle" ∧ ("jdk/internal/util/ArraysSupport" : String) ≠ "java/lang/invoke/VarHandle" := ⟨by decide, by decide⟩
theorem mK278 : EOK mE278 3 ∧ kindOK mE278 1000 := ⟨eokC (tw3 (i := 94) rfl) (tw1 (i := 26) rfl) cne25 dsc70 (by decide), kokS (tw3 (i := 93) rfl)⟩
def mE279 : ME := (yJ8_hugeLength_7cf53, .code yJ8_hugeLength_7cf53 cJ8_hugeLength_7cf53 3 (some FieldType.int), cJ8_hugeLength_7cf53, 3, (some FieldType.int), [])
theorem mK279 : EOK mE279 2 ∧ kindOK mE279 1000 := ⟨eokC (tw3 (i := 101) rfl) (tw1 (i := 26) rfl) cne25 dsc61 (by decide), kokS (tw3 (i := 100) rfl)⟩
def mE280 : ME := (yJ3_checkIndex_8e157, .code yJ3_checkIndex_8e157 cJ3_checkIndex_8e157 3 (some FieldType.int), cJ3_checkIndex_8e157, 3, (some FieldType.int), [])
theorem cne26 : ("jdk/internal/util/Preconditions" : String) ≠ "java/lang/invoke/MethodHandle" ∧ ("jdk/internal/util/Preconditions" : String) ≠ "java/lang/invoke/VarHandle" := ⟨by decide, by decide⟩
theorem dsc91 : (parseMethodDescriptor "(IILjava/util/function/BiFunction;)I").map (fun s => s.parameters.length) = some 3 := by decide +kernel
theorem mK280 : EOK mE280 3 ∧ kindOK mE280 1000 := ⟨eokC (tw2 (i := 195) rfl) (tw1 (i := 22) rfl) cne26 dsc91 (by decide), kokS (tw2 (i := 194) rfl)⟩
def mE281 : ME := (yL_out, .codeWith yL_out cL_out 4 (some FieldType.int) [(0, 9, 12, 13)], cL_out, 4, (some FieldType.int), [(0, 9, 12, 13)])
theorem cne27 : ("PathHouseLaw" : String) ≠ "java/lang/invoke/MethodHandle" ∧ ("PathHouseLaw" : String) ≠ "java/lang/invoke/VarHandle" := ⟨by decide, by decide⟩
theorem dsc92 : (parseMethodDescriptor "(LPathHouse;I[J)I").map (fun s => s.parameters.length) = some 3 := by decide +kernel
theorem mK281 : EOK mE281 3 ∧ kindOK mE281 1000 := ⟨eokW (tw6 (i := 47) rfl) (tw1 (i := 0) rfl) cne27 dsc92 (by decide), kokS (tw6 (i := 46) rfl)⟩
def mE282 : ME := (yT_rt, .code yT_rt cT_rt 5 none, cT_rt, 5, none, [])
theorem cne28 : ("java/lang/RuntimeException" : String) ≠ "java/lang/invoke/MethodHandle" ∧ ("java/lang/RuntimeException" : String) ≠ "java/lang/invoke/VarHandle" := ⟨by decide, by decide⟩
theorem dsc93 : (parseMethodDescriptor "(Ljava/lang/String;Ljava/lang/Throwable;ZZ)V").map (fun s => s.parameters.length) = some 4 := by decide +kernel
theorem mK282 : EOK mE282 4 ∧ kindOK mE282 2000 := ⟨eokC (tw6 (i := 98) rfl) (tw1 (i := 10) rfl) cne28 dsc93 (by decide), kokI (tw6 (i := 97) rfl) rfl rfl⟩
def mE283 : ME := (yT_ex, .code yT_ex cT_ex 5 none, cT_ex, 5, none, [])
theorem cne29 : ("java/lang/Exception" : String) ≠ "java/lang/invoke/MethodHandle" ∧ ("java/lang/Exception" : String) ≠ "java/lang/invoke/VarHandle" := ⟨by decide, by decide⟩
theorem mK283 : EOK mE283 4 ∧ kindOK mE283 2000 := ⟨eokC (tw6 (i := 101) rfl) (tw1 (i := 9) rfl) cne29 dsc93 (by decide), kokI (tw6 (i := 100) rfl) rfl rfl⟩
def mE284 : ME := (yT_th, .code yT_th cT_th 5 none, cT_th, 5, none, [])
theorem cne30 : ("java/lang/Throwable" : String) ≠ "java/lang/invoke/MethodHandle" ∧ ("java/lang/Throwable" : String) ≠ "java/lang/invoke/VarHandle" := ⟨by decide, by decide⟩
theorem mK284 : EOK mE284 4 ∧ kindOK mE284 2000 := ⟨eokC (tw6 (i := 104) rfl) (tw1 (i := 8) rfl) cne30 dsc93 (by decide), kokI (tw6 (i := 103) rfl) rfl rfl⟩
def mtab : List ME := [mE0, mE1, mE2, mE3, mE4, mE5, mE6, mE7, mE8, mE9, mE10, mE11, mE12, mE13, mE14, mE15, mE16, mE17, mE18, mE19, mE20, mE21, mE22, mE23, mE24, mE25, mE26, mE27, mE28, mE29, mE30, mE31, mE32, mE33, mE34, mE35, mE36, mE37, mE38, mE39, mE40, mE41, mE42, mE43, mE44, mE45, mE46, mE47, mE48, mE49, mE50, mE51, mE52, mE53, mE54, mE55, mE56, mE57, mE58, mE59, mE60, mE61, mE62, mE63, mE64, mE65, mE66, mE67, mE68, mE69, mE70, mE71, mE72, mE73, mE74, mE75, mE76, mE77, mE78, mE79, mE80, mE81, mE82, mE83, mE84, mE85, mE86, mE87, mE88, mE89, mE90, mE91, mE92, mE93, mE94, mE95, mE96, mE97, mE98, mE99, mE100, mE101, mE102, mE103, mE104, mE105, mE106, mE107, mE108, mE109, mE110, mE111, mE112, mE113, mE114, mE115, mE116, mE117, mE118, mE119, mE120, mE121, mE122, mE123, mE124, mE125, mE126, mE127, mE128, mE129, mE130, mE131, mE132, mE133, mE134, mE135, mE136, mE137, mE138, mE139, mE140, mE141, mE142, mE143, mE144, mE145, mE146, mE147, mE148, mE149, mE150, mE151, mE152, mE153, mE154, mE155, mE156, mE157, mE158, mE159, mE160, mE161, mE162, mE163, mE164, mE165, mE166, mE167, mE168, mE169, mE170, mE171, mE172, mE173, mE174, mE175, mE176, mE177, mE178, mE179, mE180, mE181, mE182, mE183, mE184, mE185, mE186, mE187, mE188, mE189, mE190, mE191, mE192, mE193, mE194, mE195, mE196, mE197, mE198, mE199, mE200, mE201, mE202, mE203, mE204, mE205, mE206, mE207, mE208, mE209, mE210, mE211, mE212, mE213, mE214, mE215, mE216, mE217, mE218, mE219, mE220, mE221, mE222, mE223, mE224, mE225, mE226, mE227, mE228, mE229, mE230, mE231, mE232, mE233, mE234, mE235, mE236, mE237, mE238, mE239, mE240, mE241, mE242, mE243, mE244, mE245, mE246, mE247, mE248, mE249, mE250, mE251, mE252, mE253, mE254, mE255, mE256, mE257, mE258, mE259, mE260, mE261, mE262, mE263, mE264, mE265, mE266, mE267, mE268, mE269, mE270, mE271, mE272, mE273, mE274, mE275, mE276, mE277, mE278, mE279, mE280, mE281, mE282, mE283, mE284]
def mt : List (Nat × Nat × Nat) := [(0, 2000, 0), (0, 1, 0), (1, 1, 3), (0, 1, 1), (2, 1, 1), (1, 1, 0), (0, 1, 0), (2, 1, 0), (1, 1, 3), (3, 1, 3), (4, 1, 0), (4, 1, 0), (4, 1, 0), (2, 1, 0), (4, 1, 0), (3, 1, 0), (4, 1000, 2), (3, 1, 1), (3, 1, 1), (3, 1, 3), (3, 1, 3), (2, 1000, 3), (2, 1000, 3), (3, 1, 1), (2, 1000, 1), (3, 1, 1), (4, 2000, 0), (0, 2, 1), (1, 2, 3), (0, 2, 1), (2, 2, 0), (1, 2, 3), (1, 2, 3), (0, 2, 1), (0, 2000, 0), (0, 3, 0), (1, 3, 1), (1, 3, 1), (1, 3, 0), (1, 3, 0), (1, 3, 0), (2, 3, 0), (1, 3, 0), (1, 3, 0), (2, 3, 0), (2, 3, 0), (2, 3, 0), (1, 2000, 0), (1, 2000, 0), (0, 5, 3), (2, 5, 0), (0, 5, 0), (1, 5, 2), (0, 5, 1), (0, 5, 1), (2, 5, 1), (2, 5, 0), (2, 5, 1), (2, 5, 1), (1, 5, 3), (1, 5, 3), (2, 5, 3), (0, 5, 3), (1, 5, 3), (1, 5, 3), (1, 5, 1), (0, 5, 3), (0, 5, 3), (0, 5, 3), (1, 5, 3), (1, 5, 3), (0, 5, 1), (1, 5, 3), (0, 5, 1), (1, 5, 3), (2, 1000, 3), (0, 5, 3), (1, 5, 3), (1, 5, 1), (0, 5, 3), (1, 5, 1), (1, 2000, 0), (1, 6, 0), (2, 6, 0), (1, 6, 1), (0, 6, 1), (0, 6, 1), (0, 6, 0), (1, 6, 0), (1, 6, 0), (3, 6, 1), (0, 6, 1), (1, 6, 2), (1, 6, 0), (0, 6, 3), (0, 6, 3), (0, 6, 3), (2, 1000, 1), (1, 6, 1), (1, 1000, 1), (1, 6, 1), (1, 1000, 1), (0, 6, 1), (1, 1000, 1), (2, 1000, 1), (0, 2000, 0), (1, 7, 3), (1, 7, 1), (0, 2000, 0), (1, 2000, 0), (0, 9, 1), (2, 2000, 0), (0, 10, 1), (1, 10, 3), (0, 10, 3), (0, 10, 1), (0, 10, 1), (1, 10, 1), (1, 2000, 0), (0, 11, 3), (2, 11, 3), (1, 1000, 1), (1, 11, 0), (0, 11, 2), (1, 11, 1), (1, 11, 0), (1, 11, 0), (1, 11, 0), (0, 2000, 0), (5, 12, 1), (1, 12, 1), (1, 12, 1), (1, 12, 1), (0, 12, 1), (2, 12, 1), (1, 12, 2), (1, 12, 1), (1, 12, 1), (1, 12, 1), (1, 12, 1), (1, 12, 0), (1, 12, 1), (1, 1000, 1), (1, 1000, 1), (1, 1000, 1), (1, 1000, 1), (2, 1000, 1), (2, 1000, 1), (0, 2000, 0), (0, 2000, 0), (0, 2000, 0), (0, 2000, 0), (1, 16, 1), (2, 16, 3), (5, 16, 1), (1, 16, 1), (0, 16, 1), (1, 16, 1), (0, 16, 3), (1, 16, 0), (0, 16, 0), (1, 1000, 1), (1, 1000, 1), (0, 16, 1), (1, 16, 0), (1, 1000, 1), (2, 16, 1), (0, 16, 1), (1, 16, 1), (0, 16, 1), (4, 16, 1), (1, 16, 0), (1, 1000, 1), (1, 16, 0), (2, 16, 1), (2, 16, 0), (2, 16, 0), (2, 16, 0), (2, 16, 1), (1, 16, 1), (1, 16, 1), (1, 16, 1), (2, 16, 0), (0, 16, 0), (1, 16, 1), (0, 16, 2), (0, 16, 1), (1, 16, 1), (1, 16, 1), (1, 16, 1), (1, 16, 1), (0, 16, 1), (2, 16, 1), (1, 16, 1), (0, 16, 1), (0, 16, 1), (0, 16, 1), (2, 16, 1), (0, 16, 1), (0, 16, 1), (0, 16, 1), (0, 16, 1), (1, 16, 1), (2, 16, 1), (2, 16, 1), (0, 16, 1), (0, 16, 1), (1, 16, 1), (0, 16, 1), (1, 16, 1), (1, 16, 1), (0, 16, 1), (1, 16, 1), (1, 16, 1), (0, 16, 0), (1, 16, 0), (3, 16, 1), (3, 16, 0), (3, 16, 0), (3, 16, 1), (2, 16, 1), (3, 1000, 2), (2, 16, 0), (3, 16, 0), (3, 16, 1), (3, 16, 1), (1, 16, 0), (1, 16, 0), (3, 16, 0), (3, 16, 1), (8, 16, 1), (10, 16, 1), (2, 16, 1), (2, 16, 1), (0, 16, 1), (1, 16, 1), (1, 16, 1), (2, 16, 1), (1, 16, 2), (1, 16, 0), (1, 16, 0), (1, 16, 0), (2, 16, 0), (3, 16, 0), (1, 16, 1), (1, 16, 0), (1, 16, 1), (1, 16, 1), (1, 16, 1), (1, 1000, 2), (2, 1000, 1), (2, 1000, 2), (2, 1000, 1), (2, 1000, 2), (0, 4000, 1), (1, 4000, 1), (0, 4000, 1), (0, 4000, 1), (2, 1000, 0), (2, 1000, 1), (2, 1000, 1), (1, 1000, 1), (2, 1000, 1), (2, 1000, 0), (0, 2000, 0), (0, 2000, 0), (0, 2000, 0), (1, 0, 3), (0, 0, 3), (0, 0, 1), (1, 0, 3), (1, 0, 3), (3, 0, 0), (1, 0, 1), (2, 1000, 3), (3, 1000, 3), (2, 1000, 3), (2, 1000, 1), (3, 1000, 1), (2, 1000, 1), (3, 1000, 1), (3, 1000, 1), (4, 2000, 0), (4, 2000, 0), (4, 2000, 0)]
theorem mt_no : mt[9999]? = none := List.getElem?_eq_none (by decide +kernel)
