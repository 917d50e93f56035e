/-! A POINT OF A METHOD'S BODY, over the abstract heap: from pc, locals lv, stack st and heap h the method ends in o' with heap h' -/
abbrev Mi : Type := String × String × ByteArray × Nat × Option FieldType × List (Nat × Nat × Nat × Nat)
def Ctx (C : Cx) (M : Mi) (p : Program) (s : State) (m : MethodId) (meth : Method) (c : Code) : Prop :=
  p.tables.exec = Jvm.exec ∧ c.code = M.2.2.1 ∧ c.maxLocals = M.2.2.2.1 ∧ meth.sig.returnType = M.2.2.2.2.1 ∧ meth.locks = false ∧ c.exceptionTable.toList.map xb_hh = M.2.2.2.2.2 ∧ s.vm.findClass M.1 = some m.cls ∧ meth.name = M.2.1 ∧ SF C s
def RmOf (fr lo : Nat) (h0 h' : Hp) : Room := { frames := fr, cells := hN h' - hN h0, slots := hU h' - hU h0, locals := lo }
def Gd (C : Cx) (M : Mi) (fr lo : Nat) (h0 : Hp) (o' : Out) (h' : Hp) (pc : Nat) (lv : List (Nat × Value)) (st : List Value) (h : Hp) : Prop :=
  ∀ (p : Program) (e : Env) (s : State) (m : MethodId) (args : Array Value) (below : List Frame) (meth : Method) (c : Code) (H : Heap) (locs : List Loc) (ls : Array Slot),
    Ctx C M p s m meth c → Rel C h0 s.heap → Rel C h H → hN h0 ≤ hN h → hU h0 ≤ hU h → (∀ l ∈ locs, cB C ≤ l.base) → lv_has ls M.2.2.2.1 lv →
    W p (cL C) e (RmOf fr lo h0 h') s m args below meth c H locs (hN h - hN h0) (hU h - hU h0) (xb_MQ below (QO C o' h') args s (hN h' - hN h0) (hU h' - hU h0) (fun q => cB C ≤ q)) (F0 m pc ls st)
/-- the field k of the class ci, through the entry idx -/
def FL (M : Mi) (idx ci k : Nat) : Prop := ∃ (r : vw_C) (ty : Nat → FieldType), vwCl[ci]? = some r ∧ k < r.2.2 ∧ (∀ w ∈ u_ws r.1 r.2.1 r.2.2, w ∈ gW) ∧
  (∀ k, k < r.2.2 → parseFieldDescriptor (r.2.1 k).2.2.1 = some (ty k)) ∧ (∀ a, a < r.2.2 → ∀ b, b < r.2.2 → a ≠ b → (r.2.1 a).2.1 ≠ (r.2.1 b).2.1) ∧
  (Cond.fieldLink M.1 idx (r.2.1 k).1 (r.2.1 k).2.1 (r.2.1 k).2.2.1 ∈ gW ∨ ∃ host, Cond.fieldLinkNest M.1 idx (r.2.1 k).1 (r.2.1 k).2.1 (r.2.1 k).2.2.1 host ∈ nW)
section GD
variable {C : Cx} {M : Mi} {h0 h h' : Hp} {fr lo : Nat} {o' : Out} {pc pc' : Nat} {lv lv' : List (Nat × Value)} {st st' : List Value}
theorem gd_step (f : ∀ {p : Program} {l : Launch} {e : Env} {R : Room} {s : State} {m : MethodId} {args : Array Value} {below : List Frame} {meth : Method} {c : Code} {H : Heap} {locs : List Loc} {cells slots : Nat} {Q : State → Prop} {ls : Array Slot}, p.tables.exec = Jvm.exec → c.code = M.2.2.1 → lv_has ls M.2.2.2.1 lv →
      W p l e R s m args below meth c H locs cells slots Q (F0 m pc' ls st') → W p l e R s m args below meth c H locs cells slots Q (F0 m pc ls st))
    (k : Gd C M fr lo h0 o' h' pc' lv st' h) : Gd C M fr lo h0 o' h' pc lv st h := by
  intro p e s m args below meth c H locs ls hc hR0 hR hn hu hL hl
  exact f hc.1 hc.2.1 hl (k p e s m args below meth c H locs ls hc hR0 hR hn hu hL hl)
theorem gd_stepL (f : ∀ {p : Program} {l : Launch} {e : Env} {R : Room} {s : State} {m : MethodId} {args : Array Value} {below : List Frame} {meth : Method} {c : Code} {H : Heap} {locs : List Loc} {cells slots : Nat} {Q : State → Prop} {ls : Array Slot}, p.tables.exec = Jvm.exec → c.code = M.2.2.1 → lv_has ls M.2.2.2.1 lv →
      (∀ ls : Array Slot, lv_has ls M.2.2.2.1 lv' → W p l e R s m args below meth c H locs cells slots Q (F0 m pc' ls st')) → W p l e R s m args below meth c H locs cells slots Q (F0 m pc ls st))
    (k : Gd C M fr lo h0 o' h' pc' lv' st' h) : Gd C M fr lo h0 o' h' pc lv st h := by
  intro p e s m args below meth c H locs ls hc hR0 hR hn hu hL hl
  exact f hc.1 hc.2.1 hl (fun ls hl => k p e s m args below meth c H locs ls hc hR0 hR hn hu hL hl)
/-- constants of the class file -/
theorem gd_stepC (f : ∀ {p : Program} {l : Launch} {e : Env} {R : Room} {s : State} {m : MethodId} {args : Array Value} {below : List Frame} {meth : Method} {c : Code} {H : Heap} {locs : List Loc} {cells slots : Nat} {Q : State → Prop} {ls : Array Slot}, p.tables.exec = Jvm.exec → c.code = M.2.2.1 → s.vm.findClass M.1 = some m.cls → (∀ w ∈ gW, w.before args s = true) →
      W p l e R s m args below meth c H locs cells slots Q (F0 m pc' ls st') → W p l e R s m args below meth c H locs cells slots Q (F0 m pc ls st))
    (k : Gd C M fr lo h0 o' h' pc' lv st' h) : Gd C M fr lo h0 o' h' pc lv st h := by
  intro p e s m args below meth c H locs ls hc hR0 hR hn hu hL hl
  exact f hc.1 hc.2.1 hc.2.2.2.2.2.2.1 (fun w hw => hc.2.2.2.2.2.2.2.2.1 w hw args) (k p e s m args below meth c H locs ls hc hR0 hR hn hu hL hl)
theorem gd_get {a ci k idx : Nat} (hF : FL M idx ci k) (hk : hK h a = ci + 1) (hci : ci < 99) (hdg : decode M.2.2.1 pc = .ok (.getfield idx, 3))
    (kk : Gd C M fr lo h0 o' h' (pc + 3) lv (hV h a k :: st) h) : Gd C M fr lo h0 o' h' pc lv (.ref a :: st) h := by
  intro p e s m args below meth c H locs ls hc hR0 hR hn hu hL hl
  obtain ⟨r, ty, hr, hkN, hin, -, -, hlink⟩ := hF
  have hts : ∀ w ∈ gW, w.before args s = true := fun w hw => hc.2.2.2.2.2.2.2.2.1 w hw args
  obtain ⟨-, -, hcell⟩ := hR.2.2.2 a (by rw [hk]; exact Nat.succ_ne_zero _)
  obtain ⟨r9, hr9, hob⟩ := hcell.1 (by rw [hk]; omega)
  rw [hk, Nat.add_sub_cancel] at hr9 hob
  cases hr.symm.trans hr9
  obtain ⟨cell, q1, q2, q3, q4⟩ := hob
  obtain ⟨hS, hfc, kC, hkC, hkind⟩ := hc.2.2.2.2.2.2.2.2.2.2.1.1 ci _ hr
  obtain ⟨cf, kf, fi, f, hi, hsl⟩ := hS k hkN
  have hst := (u_facts hfc hkC (u_lays hts hin hkN) hi).1
  have hv : cell.slots[f.slot]? = some (hV h a k) := by rw [hsl]; exact q4 k hkN
  have kk' := kk p e s m args below meth c H locs ls hc hR0 hR hn hu hL hl
  rcases hlink with h1 | ⟨host, h1⟩
  · exact W.getf hc.1 hc.2.1 hc.2.2.2.2.2.2.1 (hts _ h1) hi hst q1 (by rw [q3]; exact fun h => by cases h) hv rfl rfl hdg kk'
  · exact va_Wgetf hc.1 hc.2.1 hc.2.2.2.2.2.2.1 (va_Nw.use rfl (hc.2.2.2.2.2.2.2.2.2.1 _ h1)) hi hst q1 (by rw [q3]; exact fun h => by cases h) hv rfl rfl hdg kk'
/-- what a field takes -/
def Sto (ty : FieldType) (v : Value) : Prop := narrow ty v = v ∧ fits ty v = true
theorem gd_put {a ci k idx : Nat} {v : Value} {ty : FieldType} (hF : FL M idx ci k) (hty : ∀ r, vwCl[ci]? = some r → parseFieldDescriptor (r.2.1 k).2.2.1 = some ty) (hk : hK h a = ci + 1) (hci : ci < 99) (hsto : Sto ty v)
    (hfin : ∀ r : vw_C, vwCl[ci]? = some r → (r.2.1 k).2.2.2 = true → M.2.1 = "<init>" ∧ (r.2.1 k).1 = M.1 ∧ Cond.fieldLink M.1 idx (r.2.1 k).1 (r.2.1 k).2.1 (r.2.1 k).2.2.1 ∈ gW)
    (hdg : decode M.2.2.1 pc = .ok (.putfield idx, 3)) (kk : Gd C M fr lo h0 o' h' (pc + 3) lv st (hSet h a k v)) : Gd C M fr lo h0 o' h' pc lv (v :: .ref a :: st) h := by
  intro p e s m args below meth c H locs ls hc hR0 hR hn hu hL hl
  obtain ⟨r, ty0, hr, hkN, hin, hty0, hnm, hlink⟩ := hF
  have hts : ∀ w ∈ gW, w.before args s = true := fun w hw => hc.2.2.2.2.2.2.2.2.1 w hw args
  have hk0 : hK h a ≠ 0 := by rw [hk]; exact Nat.succ_ne_zero _
  obtain ⟨hba, -, hcell⟩ := hR.2.2.2 a hk0
  obtain ⟨r9, hr9, hob⟩ := hcell.1 (by rw [hk]; omega)
  rw [hk, Nat.add_sub_cancel] at hr9 hob
  cases hr.symm.trans hr9
  obtain ⟨cell, q1, q2, q3, q4⟩ := hob
  have hKK := hc.2.2.2.2.2.2.2.2.2.2.1
  have hap := va_apart (own := M.1) hts hin ty0 hty0 hnm hKK hr
  obtain ⟨hS, hfc, kC, hkC, hkind⟩ := hKK.1 ci _ hr
  obtain ⟨cf, kf, fi, f, hi, hsl⟩ := hS k hkN
  have hd := hty r hr
  have hlay := hts _ (hin _ (u_in_lay hkN))
  unfold u_lay at hlay
  have hst := (u_facts hfc hkC (u_lays hts hin hkN) hi).1
  have hslot : f.slot < cell.slots.size := by rw [hsl]; exact k2_hasslot (q4 k hkN)
  have fin : ∀ H' : Heap, H'[a]? = some (cell.setSlot f.slot v) → H'.size = H.size → (∀ q, q ≠ a → H'[q]? = H[q]?) → W p (cL C) e (RmOf fr lo h0 h') s m args below meth c H' (locs ++ [⟨a, f.slot⟩]) (hN h - hN h0) (hU h - hU h0) (xb_MQ below (QO C o' h') args s (hN h' - hN h0) (hU h' - hU h0) (fun q => cB C ≤ q)) (F0 m (pc + 3) ls st) := by
    intro H' e1 e2 e3
    refine kk p e s m args below meth c H' _ ls hc hR0 (hR.put hk0 e2 e3 ⟨fun _ => ⟨r, ?_, ?_⟩, fun z => ?_⟩) hn hu (fun z hz => ?_) hl
    · show vwCl[hK h a - 1]? = some r
      rw [hk]; exact hr
    · show t_OB a (cC C (hK h a - 1)) r.2.2 (cI C (hK h a - 1)) H' _
      rw [hk, Nat.add_sub_cancel]
      rw [hsl] at e1
      refine t_OB.to (V := updV (hV h a) k v) ⟨_, e1, q2, q3, t_set q4 hap hkN v⟩ (fun j _ => ?_)
      simp [updV, hSet, hV]
    · exact absurd z (by show ¬ 100 ≤ hK h a; rw [hk]; omega)
    · rcases List.mem_append.mp hz with z | z
      · exact hL _ z
      · rw [List.mem_singleton.mp z]; exact hba
  by_cases hf : (r.2.1 k).2.2.2 = true
  · obtain ⟨hi1, hi2, hi3⟩ := hfin r hr hf
    rw [if_pos hf] at hlay
    have hcf : m.cls = cf := by
      obtain ⟨_, _, c', _, _, _, -, -, hf', -, -, -, hown2, -⟩ := Cond.laysFinal_spec hlay
      have e1 : c' = cf := by have := hi.symm.trans hf'; simp at this; exact this.1.symm
      rw [hi2] at hown2
      rw [← e1]; exact Option.some.inj (hc.2.2.2.2.2.2.1.symm.trans hown2)
    have h6 := u_fits hfc hkC hkind (Or.inr hlay) hi hd hsto.1 hsto.2
    exact W.putFinK hc.1 hc.2.1 hc.2.2.2.2.2.2.1 (hts _ hi3) hi hst hcf (hc.2.2.2.2.2.2.2.1.trans hi1) (by rw [q2]; exact h6) q1 q3 hslot rfl rfl hdg fin
  · rw [if_neg hf] at hlay
    have h6 := u_store hfc hkC hkind hlay hi hd hsto.1 hsto.2
    rcases hlink with h1 | ⟨host, h1⟩
    · exact W.putK hc.1 hc.2.1 (f := f) ⟨hc.2.2.2.2.2.2.1, hts _ h1, ⟨_, _, _, hi⟩, hst⟩ (by rw [q2]; exact h6) q1 q3 hslot rfl rfl hdg fin
    · exact va_WputK hc.1 hc.2.1 (f := f) hc.2.2.2.2.2.2.1 (va_Nw.use rfl (hc.2.2.2.2.2.2.2.2.2.1 _ h1)) hi hst (by rw [q2]; exact h6) q1 q3 hslot rfl rfl hdg fin
theorem gd_new {ci idx n : Nat} {r : vw_C} {ty : Nat → FieldType} {f : Nat → Value} (hr : vwCl[ci]? = some r) (hci : ci < 99) (hin : ∀ w ∈ u_ws r.1 r.2.1 r.2.2, w ∈ gW) (hty : ∀ k, k < r.2.2 → parseFieldDescriptor (r.2.1 k).2.2.1 = some (ty k)) (hf : ∀ k, k < r.2.2 → defaultValue (ty k) = f k)
    (h1 : Cond.classLink M.1 idx r.1 ∈ gW) (h2 : Cond.instantiable r.1 n ∈ gW) (h3 : Cond.initialized r.1 ∈ gW) (hdg : decode M.2.2.1 pc = .ok (.new idx, 3)) (hN' : hN h + 1 ≤ hN h') (hU' : hU h + n ≤ hU h')
    (kk : Gd C M fr lo h0 o' h' (pc + 3) lv (.ref (hN h) :: st) (hNew h (ci + 1) 0 n f)) : Gd C M fr lo h0 o' h' pc lv st h := by
  intro p e s m args below meth c H locs ls hc hR0 hR hn hu hL hl
  have hts : ∀ w ∈ gW, w.before args s = true := fun w hw => hc.2.2.2.2.2.2.2.2.1 w hw args
  have hKn := hc.2.2.2.2.2.2.2.2.2.2.1.1 ci _ hr
  obtain ⟨hS, hfc, kC, hkC, hkind⟩ := id hKn
  refine W.newc hc.1 hc.2.1 hc.2.2.2.2.2.2.1 (hts _ h1) (hts _ h2) (hts _ h3) (g := F0 m pc ls st) rfl hdg (by show hN h - hN h0 + 1 ≤ hN h' - hN h0; omega) (by show hU h - hU h0 + n ≤ hU h' - hU h0; omega) fun cC' kC' z1 z2 z3 z4 => ?_
  cases hfc.symm.trans z1
  cases hkC.symm.trans z2
  have hcell : (H.push (blank (cC C ci) kC))[hN h]? = some (blank (cC C ci) kC) := by rw [← hR.1]; simp
  have e1 : hN (hNew h (ci + 1) 0 n f) - hN h0 = hN h - hN h0 + 1 := by show hN h + 1 - hN h0 = _; omega
  have e2 : hU (hNew h (ci + 1) 0 n f) - hU h0 = hU h - hU h0 + n := by show hU h + n - hU h0 = _; omega
  have kk' := kk p e s m args below meth c (H.push (blank (cC C ci) kC)) locs ls hc hR0 (hR.push ⟨fun _ => ⟨r, ?_, ?_⟩, fun z => ?_⟩) (by show hN h0 ≤ hN h + 1; omega) (by show hU h0 ≤ hU h + n; omega) hL hl
  · rw [e1, e2] at kk'
    rw [hR.1]
    exact kk'
  · simp [hNew, hK]; exact hr
  · have hb := u_born (o := hN h) (H := H.push (blank (cC C ci) kC)) ty hts hin hKn hkC hcell hty
    have hb2 := hb.to hf
    simpa [hNew, hK, hV] using hb2
  · exact absurd z (by simp [hNew, hK]; omega)
end GD
