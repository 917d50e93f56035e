/-! CALLS -/
/-- the callee's contract, over the abstract heap: from h with the arguments as it ends in o with heap h1 -/
def CM (C : Cx) (fr lo : Nat) (y : MethodName) (cw : Cond) (as : List Value) (h : Hp) (o : Out) (h1 : Hp) : Prop :=
  xb_Met (cL C) y cw (RmOf fr lo h h1) (fun v U => v = as.toArray ∧ SF C U ∧ Rel C h U.heap) (QO C o h1) (hN h1 - hN h) (hU h1 - hU h) (fun q => cB C ≤ q)
/-- what the walk goes on with behind a call -/
def Aft (C : Cx) (M : Mi) (fr lo : Nat) (h0 : Hp) (o' : Out) (h' : Hp) (pc : Nat) (lv : List (Nat × Value)) (rest : List Value) (o : Out) (h1 : Hp) : Prop := match o with
  | .inl v => Gd C M fr lo h0 o' h' (pc + 3) lv (v.toList ++ rest) h1
  | .inr (kd, a) => Gx C M fr lo h0 o' h' pc lv rest h1 kd a
section GC
variable {C : Cx} {M : Mi} {h0 h h' h1 : Hp} {fr lo fr' lo' : Nat} {o o' : Out} {pc pc' : Nat} {lv lv' : List (Nat × Value)} {st st' rest : List Value}
/-- behind the invoking instruction's own part -/
theorem gd_callB {p : Program} {e : Env} {s : State} {m : MethodId} {args : Array Value} {below : List Frame} {meth : Method} {c : Code} {locs : List Loc} {ls : Array Slot} {T : State} {vm₁ : Vm} {mk : MethodId} {ig : Instr} {as : List Value} {y : MethodName} {cw : Cond} {bytes : ByteArray} {maxL : Nat} {ret : Option FieldType} {hh : List (Nat × Nat × Nat × Nat)}
    (hM : CM C fr' lo' y cw as h o h1) (his : xb_Is y cw bytes maxL ret hh) (hcw : cw ∈ gW) (hini : Cond.initialized y.cls ∈ gW) (hfr : fr' + 1 ≤ fr) (hlo : 8 + (maxL + 11) + lo' ≤ lo)
    (hn1 : hN h ≤ hN h1) (hu1 : hU h ≤ hU h1) (hn2 : hN h1 ≤ hN h') (hu2 : hU h1 ≤ hU h')
    (hc : Ctx C M p s m meth c) (hR0 : Rel C h0 s.heap) (hR : Rel C h T.heap) (hn : hN h0 ≤ hN h) (hu : hU h0 ≤ hU h) (hq : ∀ l ∈ locs, cB C ≤ l.base) (hl : lv_has ls M.2.2.2.1 lv)
    (X₁ : Stand p (cL C) e (RmOf fr lo h0 h') s m args below meth c (T.setVm vm₁) locs (hN h - hN h0) (hU h - hU h0)) (hnamed : (T.setVm vm₁).methodNamed? y = some mk)
    (hdg : decode M.2.2.1 pc = .ok (ig, 3)) (hW : (rest.map fun v => v.category).sum ≤ 8)
    (kk : Aft C M fr lo h0 o' h' pc lv rest o h1) {G : State}
    (hstep : ∀ target, (∀ acts, Steps p.tables e below (doInvoke e ((T.setVm vm₁).setTop (F0 m pc ls rest)) acts mk as.toArray).1 target) → Steps p.tables e below G target) :
    ∃ t, Steps p.tables e below G t ∧ xb_MQ below (QO C o' h') args s (hN h' - hN h0) (hU h' - hU h0) (fun q => cB C ≤ q) t := by
  have hSF : SF C (T.setVm vm₁) := SF.warm X₁.warmed hc.2.2.2.2.2.2.2.2
  have hw8 : 2 * (F0 m pc ls rest).monitorRoom + ((F0 m pc ls rest).stack.map fun v => v.category).sum ≤ 8 := lv_room (m := m) (pc := pc) (ls := ls) (rest := rest) hW
  have ec : hN h - hN h0 + (hN h1 - hN h) = hN h1 - hN h0 := by omega
  have es : hU h - hU h0 + (hU h1 - hU h) = hU h1 - hU h0 := by omega
  rcases xb_back (R := RmOf fr lo h0 h') (W9 := 8) (len := 3) (ig := ig) hM his rfl rfl hfr hlo (g := F0 m pc ls rest) X₁ rfl (hl.1.trans hc.2.2.1.symm) (by rw [hc.2.1]; exact hdg) hw8 hnamed (by show hN h - hN h0 + (hN h1 - hN h) ≤ hN h' - hN h0; omega) (by show hU h - hU h0 + (hU h1 - hU h) ≤ hU h' - hU h0; omega) (hSF.1 cw hcw _) (hSF.1 _ hini _) ⟨rfl, SF.warm (s := T.setVm vm₁) (U := (T.setVm vm₁).calling (F0 m pc ls rest) mk as.toArray) (State.WarmedH.refl (T.setVm vm₁)) hSF, hR⟩ with ⟨v, t, U', L, X', hL, e1, e2, hqo, hsteps⟩ | ⟨q, t, U', L, X', hL, e1, e2, hqo, hsteps⟩
  · rw [ec, es] at X'
    obtain ⟨hR1, hm⟩ := hqo
    have hlocs : ∀ z ∈ locs ++ L, cB C ≤ z.base := fun z hz => (List.mem_append.mp hz).elim (hq z) (hL z)
    cases o with
    | inl v0 =>
      cases hm
      obtain ⟨t2, a1, b1⟩ := kk p e s m args below meth c U'.heap (locs ++ L) ls hc hR0 (by rw [e1]; exact hR1) (Nat.le_trans hn hn1) (Nat.le_trans hu hu1) hlocs hl U' rfl X'
      exact ⟨t2, hstep t2 fun acts => by rw [doInvoke_state]; exact hsteps.trans a1, b1⟩
    | inr x =>
      obtain ⟨q, hm, -⟩ := hm
      cases hm
  · rw [ec, es] at X'
    obtain ⟨hR1, hm⟩ := hqo
    have hlocs : ∀ z ∈ locs ++ L, cB C ≤ z.base := fun z hz => (List.mem_append.mp hz).elim (hq z) (hL z)
    cases o with
    | inl v0 => cases hm
    | inr x =>
      obtain ⟨kd, a⟩ := x
      obtain ⟨q9, hm, hx⟩ := hm
      cases hm
      have hx' : XI h1 kd a s U'.heap q := by
        rcases hx with z | ⟨z1, ce, z2, z3, z4⟩
        · exact Or.inl z
        · refine Or.inr ⟨z1, ce, by rw [e1]; exact z2, z3, ?_⟩
          have z5 : (T.setVm vm₁).vm.findClass (exN (kd - 200)) = some ce.cls := z4
          rw [X₁.warmed.alike.findClass] at z5
          exact z5
      obtain ⟨t2, a1, b1⟩ := kk p e s m args below meth c U'.heap (locs ++ L) ls q hc hR0 (by rw [e1]; exact hR1) (Nat.le_trans hn hn1) (Nat.le_trans hu hu1) hlocs hl hx' U' rfl X'
      exact ⟨t2, hstep t2 fun acts => by rw [doInvoke_state]; exact hsteps.trans a1, b1⟩
def ML (M : Mi) (idx : Nat) (y : MethodName) : Prop := Cond.methodLink M.1 idx y ∈ gW ∨ ∃ host, Cond.methodLinkNest M.1 idx y host ∈ nW
theorem gd_callV {b ci idx : Nat} {r : vw_C} {as : List Value} {y : MethodName} {cw : Cond} {bytes : ByteArray} {maxL : Nat} {ret : Option FieldType} {hh : List (Nat × Nat × Nat × Nat)}
    (hM : CM C fr' lo' y cw (.ref b :: as) h o h1) (his : xb_Is y cw bytes maxL ret hh) (hcw : cw ∈ gW) (hini : Cond.initialized y.cls ∈ gW) (hfr : fr' + 1 ≤ fr) (hlo : 8 + (maxL + 11) + lo' ≤ lo)
    (hn1 : hN h ≤ hN h1) (hu1 : hU h ≤ hU h1) (hn2 : hN h1 ≤ hN h') (hu2 : hU h1 ≤ hU h')
    (hr : vwCl[ci]? = some r) (hci : ci < 99) (hk : hK h b = ci + 1) (hlink : ML M idx y) (hinst : Cond.instanceMethod y ∈ gW) (hsel : Cond.selects r.1 y y ∈ gW) (hy : y.cls ≠ "java/lang/invoke/MethodHandle" ∧ y.cls ≠ "java/lang/invoke/VarHandle")
    (hlen : ∀ sig, parseMethodDescriptor y.desc = some sig → as.length = sig.parameters.length) (hdg : decode M.2.2.1 pc = .ok (.invokevirtual idx, 3)) (hW : (rest.map fun v => v.category).sum ≤ 8)
    (kk : Aft C M fr lo h0 o' h' pc lv rest o h1) : Gd C M fr lo h0 o' h' pc lv (as.reverse ++ .ref b :: rest) h := by
  intro p e s m args below meth c H locs ls hc hR0 hR hn hu hq hl T hT X
  have hts : ∀ w ∈ gW, w.before args s = true := fun w hw => hc.2.2.2.2.2.2.2.2.1 w hw args
  obtain ⟨-, -, hcell⟩ := hR.2.2.2 b (by rw [hk]; omega)
  obtain ⟨r9, hr9, cellB, hcB, hclB, hvB, -⟩ := hcell.1 (by rw [hk]; omega)
  rw [hk, Nat.add_sub_cancel] at hclB
  obtain ⟨-, hfc, -⟩ := hc.2.2.2.2.2.2.2.2.2.2.1.1 ci _ hr
  obtain ⟨mk, methM, hnamed, hmethM, hstM, habM⟩ := Cond.instanceMethod_spec (hts _ hinst)
  obtain ⟨methM', cM, hmethM', -, -, -, -, -, -, hsigM⟩ := his args s mk (hts _ hcw) hnamed
  cases hmethM.symm.trans hmethM'
  obtain ⟨c2, r2, m2, q1, q2, q3, q4, kP, hkP, hkPi⟩ := Cond.selects_spec (hts _ hsel)
  cases hfc.symm.trans q1
  cases (State.methodFound?_of_named hnamed hy).symm.trans q2
  cases hnamed.symm.trans q3
  have hselP : selectMethod e.platform s.vm cellB.cls mk = .method mk := by rw [Launch.admits_selectMethod X.admits, hclB]; exact q4
  have hdg' : decode c.code pc = .ok (.invokevirtual idx, 3) := by rw [hc.2.1]; exact hdg
  rcases hlink with h1 | ⟨host, h1⟩
  · obtain ⟨vm₁, X₁, hstep₁⟩ := X.invokevirtual hc.1 hc.2.2.2.2.2.2.1 (hts _ h1) hnamed hmethM hstM hkP hkPi hy (a := b) (cell := cellB) (by rw [hT]; exact hcB)
      (fun z h => by rw [hvB] at h; cases h) hselP hmethM habM hkP hkPi (g := F0 m pc ls (as.reverse ++ .ref b :: rest)) rfl (argsL := as) (rest := rest) (hlen _ hsigM) rfl hdg'
    exact gd_callB hM his hcw hini hfr hlo hn1 hu1 hn2 hu2 hc hR0 (by rw [hT]; exact hR) hn hu hq hl X₁ (X₁.named hnamed) hdg hW kk hstep₁
  · obtain ⟨vm₁, X₁, hstep₁⟩ := X.invokevirtualNest hc.1 hc.2.2.2.2.2.2.1 (va_Nw.use rfl (hc.2.2.2.2.2.2.2.2.2.1 _ h1)) hnamed hmethM hstM hkP hkPi hy (a := b) (cell := cellB) (by rw [hT]; exact hcB)
      (fun z h => by rw [hvB] at h; cases h) hselP hmethM habM hkP hkPi (g := F0 m pc ls (as.reverse ++ .ref b :: rest)) rfl (argsL := as) (rest := rest) (hlen _ hsigM) rfl hdg'
    exact gd_callB hM his hcw hini hfr hlo hn1 hu1 hn2 hu2 hc hR0 (by rw [hT]; exact hR) hn hu hq hl X₁ (X₁.named hnamed) hdg hW kk hstep₁
/-- a call on a String constant -/
theorem gd_callT {n idx : Nat} {as : List Value} {y : MethodName} {cw : Cond} {bytes : ByteArray} {maxL : Nat} {ret : Option FieldType} {hh : List (Nat × Nat × Nat × Nat)}
    (hM : CM C fr' lo' y cw (.ref (cS C n) :: as) h o h1) (his : xb_Is y cw bytes maxL ret hh) (hcw : cw ∈ gW) (hini : Cond.initialized y.cls ∈ gW) (hfr : fr' + 1 ≤ fr) (hlo : 8 + (maxL + 11) + lo' ≤ lo)
    (hn1 : hN h ≤ hN h1) (hu1 : hU h ≤ hU h1) (hn2 : hN h1 ≤ hN h') (hu2 : hU h1 ≤ hU h')
    (hn10 : n < 10) (hlink : ML M idx y) (hinst : Cond.instanceMethod y ∈ gW) (hsel : Cond.selects "java/lang/String" y y ∈ gW) (hy : y.cls ≠ "java/lang/invoke/MethodHandle" ∧ y.cls ≠ "java/lang/invoke/VarHandle")
    (hlen : ∀ sig, parseMethodDescriptor y.desc = some sig → as.length = sig.parameters.length) (hdg : decode M.2.2.1 pc = .ok (.invokevirtual idx, 3)) (hW : (rest.map fun v => v.category).sum ≤ 8)
    (kk : Aft C M fr lo h0 o' h' pc lv rest o h1) : Gd C M fr lo h0 o' h' pc lv (as.reverse ++ .ref (cS C n) :: rest) h := by
  intro p e s m args below meth c H locs ls hc hR0 hR hn hu hq hl T hT X
  have hts : ∀ w ∈ gW, w.before args s = true := fun w hw => hc.2.2.2.2.2.2.2.2.1 w hw args
  obtain ⟨-, -, hS, -⟩ := hc.2.2.2.2.2.2.2.2.2.2.2.2.2.2.2.2.2
  obtain ⟨⟨cellB, hcB0, hvB, hclB, hnA⟩, -⟩ := hS.1 n hn10
  have hcB : H[cS C n]? = some cellB := by rw [hR.2.2.1 _ (Nat.not_le.mp hnA)]; exact hcB0
  obtain ⟨mk, methM, hnamed, hmethM, hstM, habM⟩ := Cond.instanceMethod_spec (hts _ hinst)
  obtain ⟨methM', cM, hmethM', -, -, -, -, -, -, hsigM⟩ := his args s mk (hts _ hcw) hnamed
  cases hmethM.symm.trans hmethM'
  obtain ⟨c2, r2, m2, q1, q2, q3, q4, kP, hkP, hkPi⟩ := Cond.selects_spec (hts _ hsel)
  cases hclB.symm.trans q1
  cases (State.methodFound?_of_named hnamed hy).symm.trans q2
  cases hnamed.symm.trans q3
  have hselP : selectMethod e.platform s.vm cellB.cls mk = .method mk := by rw [Launch.admits_selectMethod X.admits]; exact q4
  have hdg' : decode c.code pc = .ok (.invokevirtual idx, 3) := by rw [hc.2.1]; exact hdg
  rcases hlink with h1 | ⟨host, h1⟩
  · obtain ⟨vm₁, X₁, hstep₁⟩ := X.invokevirtual hc.1 hc.2.2.2.2.2.2.1 (hts _ h1) hnamed hmethM hstM hkP hkPi hy (a := cS C n) (cell := cellB) (by rw [hT]; exact hcB)
      (fun z h => by rw [h] at hvB; exact Bool.noConfusion hvB) hselP hmethM habM hkP hkPi (g := F0 m pc ls (as.reverse ++ .ref (cS C n) :: rest)) rfl (argsL := as) (rest := rest) (hlen _ hsigM) rfl hdg'
    exact gd_callB hM his hcw hini hfr hlo hn1 hu1 hn2 hu2 hc hR0 (by rw [hT]; exact hR) hn hu hq hl X₁ (X₁.named hnamed) hdg hW kk hstep₁
  · obtain ⟨vm₁, X₁, hstep₁⟩ := X.invokevirtualNest hc.1 hc.2.2.2.2.2.2.1 (va_Nw.use rfl (hc.2.2.2.2.2.2.2.2.2.1 _ h1)) hnamed hmethM hstM hkP hkPi hy (a := cS C n) (cell := cellB) (by rw [hT]; exact hcB)
      (fun z h => by rw [h] at hvB; exact Bool.noConfusion hvB) hselP hmethM habM hkP hkPi (g := F0 m pc ls (as.reverse ++ .ref (cS C n) :: rest)) rfl (argsL := as) (rest := rest) (hlen _ hsigM) rfl hdg'
    exact gd_callB hM his hcw hini hfr hlo hn1 hu1 hn2 hu2 hc hR0 (by rw [hT]; exact hR) hn hu hq hl X₁ (X₁.named hnamed) hdg hW kk hstep₁
theorem gd_callS {idx : Nat} {as : List Value} {y : MethodName} {cw : Cond} {bytes : ByteArray} {maxL : Nat} {ret : Option FieldType} {hh : List (Nat × Nat × Nat × Nat)}
    (hM : CM C fr' lo' y cw as h o h1) (his : xb_Is y cw bytes maxL ret hh) (hcn : ∀ (A : Array Value) (s : State), cw.before A s = true → ∃ mk, s.methodNamed? y = some mk) (hcw : cw ∈ gW) (hini : Cond.initialized y.cls ∈ gW) (hfr : fr' + 1 ≤ fr) (hlo : 8 + (maxL + 11) + lo' ≤ lo)
    (hn1 : hN h ≤ hN h1) (hu1 : hU h ≤ hU h1) (hn2 : hN h1 ≤ hN h') (hu2 : hU h1 ≤ hU h')
    (hlink : ML M idx y) (hstat : Cond.static y ∈ gW) (hy : y.cls ≠ "java/lang/invoke/MethodHandle" ∧ y.cls ≠ "java/lang/invoke/VarHandle")
    (hlen : ∀ sig, parseMethodDescriptor y.desc = some sig → as.length = sig.parameters.length) (hdg : decode M.2.2.1 pc = .ok (.invokestatic idx, 3)) (hW : (rest.map fun v => v.category).sum ≤ 8)
    (kk : Aft C M fr lo h0 o' h' pc lv rest o h1) : Gd C M fr lo h0 o' h' pc lv (as.reverse ++ rest) h := by
  intro p e s m args below meth c H locs ls hc hR0 hR hn hu hq hl T hT X
  have hts : ∀ w ∈ gW, w.before args s = true := fun w hw => hc.2.2.2.2.2.2.2.2.1 w hw args
  obtain ⟨mk, hnamed⟩ := hcn args s (hts _ hcw)
  obtain ⟨methM, cM, hmethM, -, -, -, -, -, -, hsigM⟩ := his args s mk (hts _ hcw) hnamed
  have hstatic : methM.isStatic = true := Cond.static_spec hnamed hmethM (hts _ hstat)
  obtain ⟨kP, hkP, -⟩ := className_of_methodNamed hnamed
  have hinitP : kP.init = .initialized := Cond.initialized_spec (findClass_of_methodNamed hnamed) hkP (hts _ hini)
  have hdg' : decode c.code pc = .ok (.invokestatic idx, 3) := by rw [hc.2.1]; exact hdg
  rcases hlink with h1 | ⟨host, h1⟩
  · obtain ⟨vm₁, X₁, hstep₁⟩ := X.invokestatic hc.1 hc.2.2.2.2.2.2.1 (hts _ h1) hnamed hmethM hstatic hkP hinitP hy (g := F0 m pc ls (as.reverse ++ rest)) rfl (argsL := as) (rest := rest) (hlen _ hsigM) rfl hdg'
    exact gd_callB hM his hcw hini hfr hlo hn1 hu1 hn2 hu2 hc hR0 (by rw [hT]; exact hR) hn hu hq hl X₁ (X₁.named hnamed) hdg hW kk hstep₁
  · obtain ⟨vm₁, X₁, hstep₁⟩ := X.invokestaticNest hc.1 hc.2.2.2.2.2.2.1 (va_Nw.use rfl (hc.2.2.2.2.2.2.2.2.2.1 _ h1)) hnamed hmethM hstatic hkP hinitP hy (g := F0 m pc ls (as.reverse ++ rest)) rfl (argsL := as) (rest := rest) (hlen _ hsigM) rfl hdg'
    exact gd_callB hM his hcw hini hfr hlo hn1 hu1 hn2 hu2 hc hR0 (by rw [hT]; exact hR) hn hu hq hl X₁ (X₁.named hnamed) hdg hW kk hstep₁
theorem gd_callI {b idx : Nat} {as : List Value} {y : MethodName} {bytes : ByteArray} {maxL : Nat}
    (hM : CM C fr' lo' y (.code y bytes maxL none) (.ref b :: as) h o h1) (hcw : Cond.code y bytes maxL none ∈ gW) (hini : Cond.initialized y.cls ∈ gW) (hfr : fr' + 1 ≤ fr) (hlo : 8 + (maxL + 11) + lo' ≤ lo)
    (hn1 : hN h ≤ hN h1) (hu1 : hU h ≤ hU h1) (hn2 : hN h1 ≤ hN h') (hu2 : hU h1 ≤ hU h')
    (hlink : ML M idx y) (hname : y.name = "<init>") (hinst : Cond.instanceMethod y ∈ gW) (hy : y.cls ≠ "java/lang/invoke/MethodHandle" ∧ y.cls ≠ "java/lang/invoke/VarHandle")
    (hlen : ∀ sig, parseMethodDescriptor y.desc = some sig → as.length = sig.parameters.length) (hdg : decode M.2.2.1 pc = .ok (.invokespecial idx, 3)) (hW : (rest.map fun v => v.category).sum ≤ 8)
    (kk : Aft C M fr lo h0 o' h' pc lv rest o h1) : Gd C M fr lo h0 o' h' pc lv (as.reverse ++ .ref b :: rest) h := by
  intro p e s m args below meth c H locs ls hc hR0 hR hn hu hq hl T hT X
  have hts : ∀ w ∈ gW, w.before args s = true := fun w hw => hc.2.2.2.2.2.2.2.2.1 w hw args
  have hpl : e.platform.magicAccessors = ({} : Platform).magicAccessors := by rw [X.admits.platform]
  have hdg' : decode c.code pc = .ok (.invokespecial idx, 3) := by rw [hc.2.1]; exact hdg
  rcases hlink with h1 | ⟨host, h1⟩
  · obtain ⟨mk, methM, cM, kP, vm₁, hnamed, -, -, -, -, -, -, -, hW₁, hstep₁⟩ := Steps.initColdArgs (e := e) X.here hc.1 X.warmed hpl hc.2.2.2.2.2.2.1 hname hy (hts _ h1) (hts _ hinst) (hts _ hcw) (f := F0 m pc ls (as.reverse ++ .ref b :: rest)) rfl hlen rfl hdg'
    have X₁ := X.noted hW₁
    exact gd_callB hM xb_is_code hcw hini hfr hlo hn1 hu1 hn2 hu2 hc hR0 (by rw [hT]; exact hR) hn hu hq hl X₁ (X₁.named hnamed) hdg hW kk hstep₁
  · obtain ⟨mk, methM, cM, kP, vm₁, hnamed, -, -, -, -, -, -, -, hW₁, hstep₁⟩ := Steps.initColdArgsNest (e := e) X.here hc.1 X.warmed hpl hc.2.2.2.2.2.2.1 hname hy (va_Nw.use rfl (hc.2.2.2.2.2.2.2.2.2.1 _ h1)) (hts _ hinst) (hts _ hcw) (f := F0 m pc ls (as.reverse ++ .ref b :: rest)) rfl hlen rfl hdg'
    have X₁ := X.noted hW₁
    exact gd_callB hM xb_is_code hcw hini hfr hlo hn1 hu1 hn2 hu2 hc hR0 (by rw [hT]; exact hR) hn hu hq hl X₁ (X₁.named hnamed) hdg hW kk hstep₁
theorem gd_objInit {b idx : Nat} (hlink : Cond.methodLink M.1 idx Lib.objectInit ∈ gW) (hinst : Cond.instanceMethod Lib.objectInit ∈ gW) (hcode : Cond.code Lib.objectInit ⟨#[0xb1]⟩ 1 none ∈ gW) (hfr : 1 ≤ fr) (hlo : 20 ≤ lo) (hW : (rest.map fun v => v.category).sum ≤ 8)
    (hdg : decode M.2.2.1 pc = .ok (.invokespecial idx, 3)) (kk : Gd C M fr lo h0 o' h' (pc + 3) lv rest h) : Gd C M fr lo h0 o' h' pc lv (.ref b :: rest) h := by
  intro p e s m args below meth c H locs ls hc hR0 hR hn hu hq hl
  have hts : ∀ w ∈ gW, w.before args s = true := fun w hw => hc.2.2.2.2.2.2.2.2.1 w hw args
  have hw8 : 2 * (F0 m pc ls rest).monitorRoom + (rest.map fun v => v.category).sum ≤ 8 := lv_room (m := m) (pc := pc) (ls := ls) (rest := rest) hW
  refine W.objInit hc.1 hc.2.1 hc.2.2.2.2.2.2.1 (hts _ hlink) (hts _ hinst) (hts _ hcode) (g := F0 m pc ls (.ref b :: rest)) rfl (hl.1.trans hc.2.2.1.symm) rfl hdg hfr ?_ (kk p e s m args below meth c H locs ls hc hR0 hR hn hu hq hl)
  have h9 : 2 * (F0 m pc ls (.ref b :: rest)).monitorRoom = 2 * (F0 m pc ls rest).monitorRoom := rfl
  show 2 * (F0 m pc ls (.ref b :: rest)).monitorRoom + (rest.map fun v => v.category).sum + 12 ≤ lo
  omega
end GC
/-- a contract out of a walk of the body -/
theorem CM_of {C : Cx} {fr lo : Nat} {y : MethodName} {cw : Cond} {bytes : ByteArray} {maxL : Nat} {ret : Option FieldType} {hh : List (Nat × Nat × Nat × Nat)} {as : List Value} {h : Hp} {o : Out} {h1 : Hp} (hy : plainName y.cls = true) (his : xb_Is y cw bytes maxL ret hh) (hsz : (lg_sl as).length ≤ maxL)
    (k : Gd C (y.cls, y.name, bytes, maxL, ret, hh) fr lo h o h1 0 (lv_args 0 as) [] h) : CM C fr lo y cw as h o h1 := by
  refine xb_ofW hy his ?_
  intro p e s m args below meth c s₁ B hml hht hP
  obtain ⟨rfl, hSF, hR⟩ := hP
  have hl := lv_entry as (n := maxL) hsz
  rw [lg_entry_eq]
  generalize (lg_sl as ++ List.replicate (maxL - (lg_sl as).length) Slot.unset).toArray = ls at hl ⊢
  have k9 := k p e s m as.toArray below meth c s.heap [] ls ⟨B.exec, B.bytes, hml, B.returns, B.notSynchronized, hht, findClass_of_methodNamed B.named, (name_of_methodNamed B.named B.method).1, hSF⟩ hR hR (Nat.le_refl _) (Nat.le_refl _) (fun _ hz => by cases hz) hl
  rw [Nat.sub_self, Nat.sub_self] at k9
  exact k9
