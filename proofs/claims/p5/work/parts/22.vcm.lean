/-! METHODS OF Math: no row of the machine's own stands for them -/
section XBF
theorem xb_ofWF {l : Launch} {y : MethodName} {cw : Cond} {rm : Room} {Pc : Array Value → State → Prop} {Qc : Array Value → State → Outcome → State → Prop} {mc ms : Nat} {free : Addr → Prop} {cc : ByteArray} {maxL : Nat} {ret : Option FieldType} {hh : List (Nat × Nat × Nat × Nat)}
    (hy : plainFor y = true) (his : xb_Is y cw cc maxL ret hh)
    (body : ∀ p e s m args below meth c s₁, BodyLoose p l y (headSpec [cw] rm) cc maxL ret e s m args below meth c s₁ → c.maxLocals = maxL → c.exceptionTable.toList.map xb_hh = hh → Pc args s →
      W p l e rm s m args below meth c s.heap [] 0 0 (xb_MQ below Qc args s mc ms free) (entryFrame m args maxL)) : xb_Met l y cw rm Pc Qc mc ms free := by
  have hcw : ∀ (args : Array Value) (s : State), (headSpec [cw] rm).pre.before args s = true → cw.before args s = true := fun args s h => atoms_spec (ws := [cw]) h _ List.mem_cons_self
  refine MetFree.of_bodySF (code := cc) (maxLocals := maxL) (ret := ret) hy ?_ ?_
  · intro args s m h hn
    obtain ⟨meth, c, h1, h2, h3, h4, h5, h6, -, -⟩ := his args s m (hcw _ _ h) hn
    exact ⟨meth, c, h1, h2, h3, h4, h5, h6⟩
  · intro p e s m args below meth c s₁ B hml hP _
    have hh0 : s₁.heap = s.heap := by rw [B.state]; rfl
    have ht : c.exceptionTable.toList.map xb_hh = hh := by
      obtain ⟨meth9, c9, h1, h2, -, -, -, -, h7, -⟩ := his args s m (hcw _ _ B.pre) B.named
      cases Option.some.inj (h1.symm.trans B.method)
      cases Option.some.inj (h2.symm.trans (Stand.of_body B).code)
      exact h7
    obtain ⟨t, a1, o, b1, b2, b3⟩ := body p e s m args below meth c s₁ B hml ht hP s₁ hh0 (Stand.of_body B)
    exact ⟨t, o, a1, b1, b2, b3⟩
end XBF
theorem CM_ofF {C : Cx} {fr lo : Nat} {y : MethodName} {cw : Cond} {bytes : ByteArray} {maxL : Nat} {ret : Option FieldType} {hh : List (Nat × Nat × Nat × Nat)} {as : List Value} {h : Hp} {o : Out} {h1 : Hp} (hy : plainFor y = true) (his : xb_Is y cw bytes maxL ret hh) (hsz : (lg_sl as).length ≤ maxL)
    (k : Gd C (y.cls, y.name, bytes, maxL, ret, hh) fr lo h o h1 0 (lv_args 0 as) [] h) : CM C fr lo y cw as h o h1 := by
  refine xb_ofWF hy his ?_
  intro p e s m args below meth c s₁ B hml hht hP
  obtain ⟨rfl, hSF, hR⟩ := hP
  have hl := lv_entry as (n := maxL) hsz
  rw [lg_entry_eq]
  generalize (lg_sl as ++ List.replicate (maxL - (lg_sl as).length) Slot.unset).toArray = ls at hl ⊢
  have k9 := k p e s m as.toArray below meth c s.heap [] ls ⟨B.exec, B.bytes, hml, B.returns, B.notSynchronized, hht, findClass_of_methodNamed B.named, (name_of_methodNamed B.named B.method).1, hSF⟩ hR hR (Nat.le_refl _) (Nat.le_refl _) (fun _ hz => by cases hz) hl
  rw [Nat.sub_self, Nat.sub_self] at k9
  exact k9
/-- as MO, for a class of which some methods are run by the machine itself -/
def MOF (j : Nat) (q : ME) (X : MT) : Prop := mtab[j]? = some q ∧ plainFor q.1 = true ∧ xb_Is q.1 q.2.1 q.2.2.1 q.2.2.2.1 q.2.2.2.2.1 q.2.2.2.2.2 ∧ PoolOK q.1.cls X.2.1 mtab mt ∧ CodeOK (Mof q) X
theorem cal_ofNF {C : Cx} {d j : Nat} {q : ME} {X : MT} {as : List SV} {t : Ht} {Post : OutT → Ht → Prop} {N : Nat} (h : MOF j q X) (hsz : wgt as ≤ q.2.2.2.1)
    (hw : wpc (CalG C mtab d) mt (cS C) (cG C) none X Post [] (fun _ _ _ _ => False) N 0 (largs 0 as) [] t) : CalG C mtab (d + 1) j as t Post := by
  obtain ⟨h1, h2, h3, h4, h5⟩ := h
  obtain ⟨o, t1, a1, a2, a3, a4⟩ := wpc_sound (M := Mof q) (t0 := t) h4 h5 (fun _ hz => by cases hz) (fun _ _ _ _ hz => by cases hz) N 0 _ _ _ hw
  rw [← largs_map] at a4
  exact ⟨q, h1, o, t1, a1, a2, a3, CM_ofF h2 h3 (by rw [lg_sl_len]; exact hsz) a4⟩
/-- java/lang/Math.abs(J)J -/
def vc249 (Cal : Nat → List SV → Ht → (OutT → Ht → Prop) → Prop) (sA : Nat → Nat) (gV : Nat → Option Nat) (Q : OutT → Ht → Prop)  (x1 : Int64) (t : Ht) : Prop := br (0 ≤ (lg_cmp x1 (0 : Int64))) (Q (.inl (some (svJ x1))) t) (Q (.inl (some (svJ (-x1)))) t)
theorem mo249 : MOF 249 mE249 X249 := ⟨rfl, by decide +kernel, mK249.1.1, plE_ok, X249_ok⟩
set_option maxRecDepth 100000 in
theorem cal249 {C : Cx} {d : Nat} {Post : OutT → Ht → Prop} {x1 : Int64} {t : Ht} (h : vc249 (CalG C mtab d) (cS C) (cG C) Post x1 t) : CalG C mtab (d + 1) 249 [svJ x1] t Post := cal_ofNF (N := 11) mo249 (Nat.le_of_ble_eq_true rfl) h
/-- java/lang/Math.max(II)I -/
def vc250 (Cal : Nat → List SV → Ht → (OutT → Ht → Prop) → Prop) (sA : Nat → Nat) (gV : Nat → Option Nat) (Q : OutT → Ht → Prop)  (x1 : Int32) (x2 : Int32) (t : Ht) : Prop := br (x1 < x2) (Q (.inl (some (svI x2))) t) (Q (.inl (some (svI x1))) t)
theorem mo250 : MOF 250 mE250 X250 := ⟨rfl, by decide +kernel, mK250.1.1, plE_ok, X250_ok⟩
set_option maxRecDepth 100000 in
theorem cal250 {C : Cx} {d : Nat} {Post : OutT → Ht → Prop} {x1 : Int32} {x2 : Int32} {t : Ht} (h : vc250 (CalG C mtab d) (cS C) (cG C) Post x1 x2 t) : CalG C mtab (d + 1) 250 [svI x1, svI x2] t Post := cal_ofNF (N := 9) mo250 (Nat.le_of_ble_eq_true rfl) h
/-- java/lang/Math.max(JJ)J -/
def vc251 (Cal : Nat → List SV → Ht → (OutT → Ht → Prop) → Prop) (sA : Nat → Nat) (gV : Nat → Option Nat) (Q : OutT → Ht → Prop)  (x1 : Int64) (x2 : Int64) (t : Ht) : Prop := br ((lg_cmp x1 x2) < 0) (Q (.inl (some (svJ x2))) t) (Q (.inl (some (svJ x1))) t)
theorem mo251 : MOF 251 mE251 X251 := ⟨rfl, by decide +kernel, mK251.1.1, plE_ok, X251_ok⟩
set_option maxRecDepth 100000 in
theorem cal251 {C : Cx} {d : Nat} {Post : OutT → Ht → Prop} {x1 : Int64} {x2 : Int64} {t : Ht} (h : vc251 (CalG C mtab d) (cS C) (cG C) Post x1 x2 t) : CalG C mtab (d + 1) 251 [svJ x1, svJ x2] t Post := cal_ofNF (N := 10) mo251 (Nat.le_of_ble_eq_true rfl) h
/-- java/lang/Math.min(II)I -/
def vc252 (Cal : Nat → List SV → Ht → (OutT → Ht → Prop) → Prop) (sA : Nat → Nat) (gV : Nat → Option Nat) (Q : OutT → Ht → Prop)  (x1 : Int32) (x2 : Int32) (t : Ht) : Prop := br (x2 < x1) (Q (.inl (some (svI x2))) t) (Q (.inl (some (svI x1))) t)
theorem mo252 : MOF 252 mE252 X252 := ⟨rfl, by decide +kernel, mK252.1.1, plE_ok, X252_ok⟩
set_option maxRecDepth 100000 in
theorem cal252 {C : Cx} {d : Nat} {Post : OutT → Ht → Prop} {x1 : Int32} {x2 : Int32} {t : Ht} (h : vc252 (CalG C mtab d) (cS C) (cG C) Post x1 x2 t) : CalG C mtab (d + 1) 252 [svI x1, svI x2] t Post := cal_ofNF (N := 9) mo252 (Nat.le_of_ble_eq_true rfl) h
/-- java/lang/Math.min(JJ)J -/
def vc253 (Cal : Nat → List SV → Ht → (OutT → Ht → Prop) → Prop) (sA : Nat → Nat) (gV : Nat → Option Nat) (Q : OutT → Ht → Prop)  (x1 : Int64) (x2 : Int64) (t : Ht) : Prop := br (0 < (lg_cmp x1 x2)) (Q (.inl (some (svJ x2))) t) (Q (.inl (some (svJ x1))) t)
theorem mo253 : MOF 253 mE253 X253 := ⟨rfl, by decide +kernel, mK253.1.1, plE_ok, X253_ok⟩
set_option maxRecDepth 100000 in
theorem cal253 {C : Cx} {d : Nat} {Post : OutT → Ht → Prop} {x1 : Int64} {x2 : Int64} {t : Ht} (h : vc253 (CalG C mtab d) (cS C) (cG C) Post x1 x2 t) : CalG C mtab (d + 1) 253 [svJ x1, svJ x2] t Post := cal_ofNF (N := 10) mo253 (Nat.le_of_ble_eq_true rfl) h
