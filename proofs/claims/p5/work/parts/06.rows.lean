/-! ARRAYS, RETURNS, EXCEPTIONS, CALLS at a point of a body -/
section GR
variable {C : Cx} {M : Mi} {h0 h h' h1 : Hp} {fr lo fr' lo' : Nat} {o o' : Out} {pc pc' : Nat} {lv lv' : List (Nat × Value)} {st st' rest : List Value}
theorem cTys_at {C : Cx} {t : Nat} (ht : t < 6) : (cTys C)[t]? = some (cA C t, aT t) := by
  match t, ht with
  | 0, _ => rfl
  | 1, _ => rfl
  | 2, _ => rfl
  | 3, _ => rfl
  | 4, _ => rfl
  | 5, _ => rfl
theorem gd_arr {s : State} {H : Heap} {a t : Nat} (hS : SF C s) (hR : Rel C h H) (hk : hK h a = 100 + t) (ht : t < 6) : cB C ≤ a ∧ H[a]? = some (arrV (cA C t) (hL h a) (hV h a)) ∧ (∀ (n : Nat) (z : Nat → Value), s.isArrayOf (arrV (cA C t) n z) (aT t)) ∧ va_RA s (cA C t) (aT t) := by
  obtain ⟨hb, -, hc⟩ := hR.2.2.2 a (by rw [hk]; omega)
  obtain ⟨-, he⟩ := hc.2 (by rw [hk]; omega) (by rw [hk]; omega)
  rw [hk, Nat.add_sub_cancel_left] at he
  have h2 := hS.2.2.1.2 t _ (cTys_at ht)
  exact ⟨hb, he, h2.1, h2.2⟩
theorem gd_alen {a t : Nat} (hk : hK h a = 100 + t) (ht : t < 6) (hdg : decode M.2.2.1 pc = .ok (.arraylength, 1))
    (kk : Gd C M fr lo h0 o' h' (pc + 1) lv (.int (nI (hL h a)) :: st) h) : Gd C M fr lo h0 o' h' pc lv (.ref a :: st) h := by
  intro p e s m args below meth c H locs ls hc hR0 hR hn hu hq hl
  obtain ⟨-, he, ha, -⟩ := gd_arr hc.2.2.2.2.2.2.2.2 hR hk ht
  exact W.alen hc.1 hc.2.1 he (ha _ _) (by rw [arrV_size]; rfl) rfl rfl hdg (kk p e s m args below meth c H locs ls hc hR0 hR hn hu hq hl)
theorem gd_bald {a : Nat} {i : Int32} (hk : hK h a = 100) (hi : vp_in i (hL h a)) (hdg : decode M.2.2.1 pc = .ok (.baload, 1))
    (kk : Gd C M fr lo h0 o' h' (pc + 1) lv (hV h a i.toNatClampNeg :: st) h) : Gd C M fr lo h0 o' h' pc lv (.int i :: .ref a :: st) h := by
  intro p e s m args below meth c H locs ls hc hR0 hR hn hu hq hl
  obtain ⟨-, he, ha, -⟩ := gd_arr (t := 0) hc.2.2.2.2.2.2.2.2 hR hk (by decide)
  have hlt : i.toNatClampNeg < hL h a := Nat.not_le.mp fun q => hi (Or.inr q)
  exact W.bald hc.1 hc.2.1 he (ha _ _) (fun q => by cases q) (by rw [arrV_size]; exact hi) (by rw [arrV_read _ _ hlt]) rfl rfl hdg (kk p e s m args below meth c H locs ls hc hR0 hR hn hu hq hl)
theorem gd_iald {a : Nat} {i : Int32} (hk : hK h a = 101) (hi : vp_in i (hL h a)) (hdg : decode M.2.2.1 pc = .ok (.iaload, 1))
    (kk : Gd C M fr lo h0 o' h' (pc + 1) lv (hV h a i.toNatClampNeg :: st) h) : Gd C M fr lo h0 o' h' pc lv (.int i :: .ref a :: st) h := by
  intro p e s m args below meth c H locs ls hc hR0 hR hn hu hq hl
  obtain ⟨-, he, ha, -⟩ := gd_arr (t := 1) hc.2.2.2.2.2.2.2.2 hR hk (by decide)
  have hlt : i.toNatClampNeg < hL h a := Nat.not_le.mp fun q => hi (Or.inr q)
  exact W.iald hc.1 hc.2.1 he (ha _ _) (fun q => by cases q) (by rw [arrV_size]; exact hi) (by rw [arrV_read _ _ hlt]) rfl rfl hdg (kk p e s m args below meth c H locs ls hc hR0 hR hn hu hq hl)
theorem gd_lald {a : Nat} {i : Int32} (hk : hK h a = 102) (hi : vp_in i (hL h a)) (hdg : decode M.2.2.1 pc = .ok (.laload, 1))
    (kk : Gd C M fr lo h0 o' h' (pc + 1) lv (hV h a i.toNatClampNeg :: st) h) : Gd C M fr lo h0 o' h' pc lv (.int i :: .ref a :: st) h := by
  intro p e s m args below meth c H locs ls hc hR0 hR hn hu hq hl
  obtain ⟨-, he, ha, -⟩ := gd_arr (t := 2) hc.2.2.2.2.2.2.2.2 hR hk (by decide)
  have hlt : i.toNatClampNeg < hL h a := Nat.not_le.mp fun q => hi (Or.inr q)
  exact W.lald hc.1 hc.2.1 he (ha _ _) (fun q => by cases q) (by rw [arrV_size]; exact hi) (by rw [arrV_read _ _ hlt]) rfl rfl hdg (kk p e s m args below meth c H locs ls hc hR0 hR hn hu hq hl)
theorem gd_aald {a t : Nat} {i : Int32} (hk : hK h a = 100 + t) (ht : t < 6) (hr : (aT t).isReference = true) (hi : vp_in i (hL h a)) (hdg : decode M.2.2.1 pc = .ok (.aaload, 1))
    (kk : Gd C M fr lo h0 o' h' (pc + 1) lv (hV h a i.toNatClampNeg :: st) h) : Gd C M fr lo h0 o' h' pc lv (.int i :: .ref a :: st) h := by
  intro p e s m args below meth c H locs ls hc hR0 hR hn hu hq hl
  obtain ⟨-, he, ha, -⟩ := gd_arr hc.2.2.2.2.2.2.2.2 hR hk ht
  have hlt : i.toNatClampNeg < hL h a := Nat.not_le.mp fun q => hi (Or.inr q)
  exact W.aald hc.1 hc.2.1 he (ha _ _) hr (fun q => by cases q) (by rw [arrV_size]; exact hi) (by rw [arrV_read _ _ hlt]) rfl rfl hdg (kk p e s m args below meth c H locs ls hc hR0 hR hn hu hq hl)
/-- what a store in an array leaves -/
theorem gd_ast {s : State} {H H1 : Heap} {a t j : Nat} {v : Value} (hS : SF C s) (hR : Rel C h H) (hk : hK h a = 100 + t) (ht : t < 6) (e1 : H1[a]? = some ((arrV (cA C t) (hL h a) (hV h a)).setSlot j v)) (e2 : H1.size = H.size) (e3 : ∀ q, q ≠ a → H1[q]? = H[q]?) : Rel C (hSet h a j v) H1 := by
  refine hR.put (by rw [hk]; omega) e2 e3 ⟨fun z => absurd z (by show ¬ hK h a < 100; rw [hk]; omega), fun _ _ => ⟨by show hK h a - 100 < 6; rw [hk]; omega, ?_⟩⟩
  show H1[a]? = some (arrV (cA C (hK h a - 100)) (hL h a) _)
  rw [hk, Nat.add_sub_cancel_left, e1, arrV_store]
  congr 2
  funext q
  by_cases hq : q = j
  · subst hq; simp [updV, hSet, hV]
  · simp [updV, hSet, hV, hq]
theorem gd_locs {locs : List Loc} {a j : Nat} (hq : ∀ l ∈ locs, cB C ≤ l.base) (ha : cB C ≤ a) : ∀ l ∈ locs ++ [(⟨a, j⟩ : Loc)], cB C ≤ l.base := fun z hz => by
  rcases List.mem_append.mp hz with z1 | z1
  · exact hq _ z1
  · rw [List.mem_singleton.mp z1]; exact ha
theorem gd_bast {a : Nat} {i x : Int32} (hk : hK h a = 100) (hi : vp_in i (hL h a)) (hdg : decode M.2.2.1 pc = .ok (.bastore, 1))
    (kk : Gd C M fr lo h0 o' h' (pc + 1) lv st (hSet h a i.toNatClampNeg (.int x.toInt8.toInt32))) : Gd C M fr lo h0 o' h' pc lv (.int x :: .int i :: .ref a :: st) h := by
  intro p e s m args below meth c H locs ls hc hR0 hR hn hu hq hl
  obtain ⟨hb, he, ha, -⟩ := gd_arr (t := 0) hc.2.2.2.2.2.2.2.2 hR hk (by decide)
  exact W.bast hc.1 hc.2.1 he (ha _ _) (fun q => by cases q) (by rw [arrV_size]; exact hi) rfl rfl hdg fun H1 e1 e2 e3 => kk p e s m args below meth c H1 _ ls hc hR0 (gd_ast (t := 0) hc.2.2.2.2.2.2.2.2 hR hk (by decide) e1 e2 e3) hn hu (gd_locs hq hb) hl
theorem gd_iast {a : Nat} {i x : Int32} (hk : hK h a = 101) (hi : vp_in i (hL h a)) (hdg : decode M.2.2.1 pc = .ok (.iastore, 1))
    (kk : Gd C M fr lo h0 o' h' (pc + 1) lv st (hSet h a i.toNatClampNeg (.int x))) : Gd C M fr lo h0 o' h' pc lv (.int x :: .int i :: .ref a :: st) h := by
  intro p e s m args below meth c H locs ls hc hR0 hR hn hu hq hl
  obtain ⟨hb, he, ha, -⟩ := gd_arr (t := 1) hc.2.2.2.2.2.2.2.2 hR hk (by decide)
  exact W.iast hc.1 hc.2.1 he (ha _ _) (fun q => by cases q) (by rw [arrV_size]; exact hi) rfl rfl hdg fun H1 e1 e2 e3 => kk p e s m args below meth c H1 _ ls hc hR0 (gd_ast (t := 1) hc.2.2.2.2.2.2.2.2 hR hk (by decide) e1 e2 e3) hn hu (gd_locs hq hb) hl
theorem gd_last {a : Nat} {i : Int32} {x : Int64} (hk : hK h a = 102) (hi : vp_in i (hL h a)) (hdg : decode M.2.2.1 pc = .ok (.lastore, 1))
    (kk : Gd C M fr lo h0 o' h' (pc + 1) lv st (hSet h a i.toNatClampNeg (.long x))) : Gd C M fr lo h0 o' h' pc lv (.long x :: .int i :: .ref a :: st) h := by
  intro p e s m args below meth c H locs ls hc hR0 hR hn hu hq hl
  obtain ⟨hb, he, ha, -⟩ := gd_arr (t := 2) hc.2.2.2.2.2.2.2.2 hR hk (by decide)
  exact W.last hc.1 hc.2.1 he (ha _ _) (fun q => by cases q) (by rw [arrV_size]; exact hi) rfl rfl hdg fun H1 e1 e2 e3 => kk p e s m args below meth c H1 _ ls hc hR0 (gd_ast (t := 2) hc.2.2.2.2.2.2.2.2 hR hk (by decide) e1 e2 e3) hn hu (gd_locs hq hb) hl
/-- an array of numbers is made -/
theorem gd_newa {t : Nat} {n : Int32} {at_ : ArrayType} (ht : t < 3) (hat : newarray.typeOf at_ = aT t) (hw : Cond.arrayClass (aT t) ∈ gW) (hn0 : ¬ n < 0) (hsz : n.toNatClampNeg ≤ 60000000) (hdg : decode M.2.2.1 pc = .ok (.newarray at_, 2)) (hN' : hN h + 1 ≤ hN h') (hU' : hU h + n.toNatClampNeg ≤ hU h')
    (kk : Gd C M fr lo h0 o' h' (pc + 2) lv (.ref (hN h) :: st) (hNew h (100 + t) n.toNatClampNeg n.toNatClampNeg (fun _ => defaultValue (aT t)))) : Gd C M fr lo h0 o' h' pc lv (.int n :: st) h := by
  intro p e s m args below meth c H locs ls hc hR0 hR hn hu hq hl
  have hts : ∀ w ∈ gW, w.before args s = true := fun w hw => hc.2.2.2.2.2.2.2.2.1 w hw args
  have h6 : t < 6 := by omega
  have hra := (hc.2.2.2.2.2.2.2.2.2.2.1.2 t _ (cTys_at h6)).2
  refine W.newa hc.1 hc.2.1 (by rw [hat]; exact hts _ hw) (g := F0 m pc ls (.int n :: st)) rfl hdg rfl hn0 (by rw [hat]; match t, ht with | 0, _ => (show n.toNatClampNeg * 1 ≤ _; omega) | 1, _ => (show n.toNatClampNeg * 4 ≤ _; omega) | 2, _ => (show n.toNatClampNeg * 8 ≤ _; omega)) (by show hN h - hN h0 + 1 ≤ hN h' - hN h0; omega) (by show hU h - hU h0 + n.toNatClampNeg ≤ hU h' - hU h0; omega) fun cA' kA comp z1 z2 z3 => ?_
  have hcA : cA' = cA C t := by
    rw [hat] at z1
    have h9 : s.vm.findClass ("[" ++ (aT t).toString) = some (cA C t) := by
      match t, ht, hra with
      | 0, _, hra => exact hra
      | 1, _, hra => exact hra
      | 2, _, hra => exact hra
    exact Option.some.inj (z1.symm.trans h9)
  subst hcA
  rw [hat, arrV_new]
  have e1 : hN (hNew h (100 + t) n.toNatClampNeg n.toNatClampNeg (fun _ => defaultValue (aT t))) - hN h0 = hN h - hN h0 + 1 := by show hN h + 1 - hN h0 = _; omega
  have e2 : hU (hNew h (100 + t) n.toNatClampNeg n.toNatClampNeg (fun _ => defaultValue (aT t))) - hU h0 = hU h - hU h0 + n.toNatClampNeg := by show hU h + n.toNatClampNeg - hU h0 = _; omega
  have kk' := kk p e s m args below meth c (H.push (arrV (cA C t) n.toNatClampNeg (fun _ => defaultValue (aT t)))) locs ls hc hR0 (hR.push ⟨fun z => absurd z (by simp [hNew, hK]), fun _ _ => ⟨by simp [hNew, hK]; omega, ?_⟩⟩) (by show hN h0 ≤ hN h + 1; omega) (by show hU h0 ≤ hU h + n.toNatClampNeg; omega) hq hl
  · rw [e1, e2] at kk'
    rw [hR.1]
    exact kk'
  · have e9 : (H.push (arrV (cA C t) n.toNatClampNeg (fun _ => defaultValue (aT t))))[hN h]? = some (arrV (cA C t) n.toNatClampNeg (fun _ => defaultValue (aT t))) := by rw [← hR.1]; simp
    rw [e9]
    simp [hNew, hK, hL, hV]
/-! returns -/
theorem xb_ret {p : Program} {l : Launch} {e : Env} {R : Room} {s : State} {m : MethodId} {args : Array Value} {below : List Frame} {meth : Method} {c : Code} {H : Heap} {locs : List Loc} {cells slots : Nat} {Qc : Array Value → State → Outcome → State → Prop} {free : Addr → Prop} {g : JFrame} {mc ms : Nat}
    (k : W p l e R s m args below meth c H locs cells slots (MQ below Qc args s mc ms free) g) : W p l e R s m args below meth c H locs cells slots (xb_MQ below Qc args s mc ms free) g := by
  intro T hT X
  obtain ⟨t, a1, o, b1, b2, b3, L, b4, b5⟩ := k T hT X
  exact ⟨t, a1, o, b1, b2, b3, b4.2.1, L, b4.2.2, b5⟩
theorem gd_iret {v : Int32} {ty : FieldType} (hr : M.2.2.2.2.1 = some ty) (hnr : narrow ty (.int v) = .int v) (hdg : decode M.2.2.1 pc = .ok (.ireturn, 1)) : Gd C M fr lo h0 (.inl (some (.int v))) h pc lv [.int v] h := by
  intro p e s m args below meth c H locs ls hc hR0 hR hn hu hq hl
  exact xb_ret (W.zret hc.1 hc.2.1 (hc.2.2.2.1.trans hr) hnr (fun t ht _ => ⟨by rw [ht]; exact hR, rfl⟩) hq hdg hc.2.2.2.2.1)
theorem gd_lret {v : Int64} (hr : M.2.2.2.2.1 = some .long) (hdg : decode M.2.2.1 pc = .ok (.lreturn, 1)) : Gd C M fr lo h0 (.inl (some (.long v))) h pc lv [.long v] h := by
  intro p e s m args below meth c H locs ls hc hR0 hR hn hu hq hl
  exact xb_ret (W.lret hc.1 hc.2.1 (hc.2.2.2.1.trans hr) (fun t ht _ => ⟨by rw [ht]; exact hR, rfl⟩) hq hdg hc.2.2.2.2.1)
theorem gd_vret (hr : M.2.2.2.2.1 = none) (hdg : decode M.2.2.1 pc = .ok (.return_, 1)) : Gd C M fr lo h0 (.inl none) h pc lv [] h := by
  intro p e s m args below meth c H locs ls hc hR0 hR hn hu hq hl
  exact xb_ret (W.vret hc.1 hc.2.1 (hc.2.2.2.1.trans hr) (fun t ht _ => ⟨by rw [ht]; exact hR, rfl⟩) hq hdg hc.2.2.2.2.1)
theorem gd_aret {v : Value} {rt : FieldType} (hr : M.2.2.2.2.1 = some rt) (hrt : (∃ n, rt = .object n) ∨ ∃ t, rt = .array t) (hv : v = .null ∨ ∃ a, v = .ref a) (hdg : decode M.2.2.1 pc = .ok (.areturn, 1)) : Gd C M fr lo h0 (.inl (some v)) h pc lv [v] h := by
  intro p e s m args below meth c H locs ls hc hR0 hR hn hu hq hl
  exact xb_ret (W.aret hc.1 hc.2.1 (hc.2.2.2.1.trans hr) hrt hv (fun t ht _ => ⟨by rw [ht]; exact hR, rfl⟩) hq hdg hc.2.2.2.2.1)
/-! an exception stands over the frame: of the kind kd (16: the reference's own, at a; 200 and on: one of the JDK's, wherever) -/
def XI (h : Hp) (kd a : Nat) (s : State) (H : Heap) (q : Nat) : Prop := (kd = 16 ∧ q = a ∧ hK h a = 16) ∨ (200 ≤ kd ∧ ExC (kd - 200) s H q)
def Gx (C : Cx) (M : Mi) (fr lo : Nat) (h0 : Hp) (o' : Out) (h' : Hp) (pc : Nat) (lv : List (Nat × Value)) (st : List Value) (h : Hp) (kd a : Nat) : Prop :=
  ∀ (p : Program) (e : Env) (s : State) (m : MethodId) (args : Array Value) (below : List Frame) (meth : Method) (c : Code) (H : Heap) (locs : List Loc) (ls : Array Slot) (q : Nat),
    Ctx C M p s m meth c → Rel C h0 s.heap → Rel C h H → hN h0 ≤ hN h → hU h0 ≤ hU h → (∀ l ∈ locs, cB C ≤ l.base) → lv_has ls M.2.2.2.1 lv → XI h kd a s H q →
    vx_W p (cL C) e (RmOf fr lo h0 h') s m args below meth c H locs (hN h - hN h0) (hU h - hU h0) (xb_MQ below (QO C o' h') args s (hN h' - hN h0) (hU h' - hU h0) (fun q => cB C ≤ q)) (F0 m pc ls st) q
theorem gx_out {kd a : Nat} (hh : ∀ q ∈ M.2.2.2.2.2, ¬ (q.1 ≤ pc ∧ pc < q.2.1)) : Gx C M fr lo h0 (.inr (kd, a)) h pc lv st h kd a := by
  intro p e s m args below meth c H locs ls q hc hR0 hR hn hu hq hl hx
  refine xb_out (fun x hx => ?_) hc.2.2.2.2.1 (fun t ht hW => ⟨by rw [ht]; exact hR, q, rfl, ?_⟩) hq (Nat.le_refl _) (Nat.le_refl _)
  · have h1 := hh (xb_hh x) (by rw [← hc.2.2.2.2.2.1]; exact List.mem_map_of_mem hx)
    simp only [covers, xb_hh] at h1 ⊢
    by_cases e1 : x.startPc ≤ pc
    · by_cases e2 : pc < x.endPc
      · exact absurd ⟨e1, e2⟩ h1
      · simp [e2]
    · simp [e1]
  · rw [ht]; exact hx
theorem gx_table {c : Code} {a b d f : Nat} (h : c.exceptionTable.toList.map xb_hh = [(a, b, d, f)]) : ∃ x, c.exceptionTable.toList = [x] ∧ x.startPc = a ∧ x.endPc = b ∧ x.handlerPc = d ∧ x.catchType = f := by
  cases hl : c.exceptionTable.toList with
  | nil => rw [hl] at h; cases h
  | cons x t =>
    cases t with
    | cons y t => rw [hl] at h; simp at h
    | nil =>
      rw [hl] at h
      simp [xb_hh] at h
      exact ⟨x, rfl, h.1, h.2.1, h.2.2.1, h.2.2.2⟩
theorem gx_catch16 {a s0 e0 hpc ct : Nat} (hh : M.2.2.2.2.2 = [(s0, e0, hpc, ct)]) (h1 : s0 ≤ pc) (h2 : pc < e0) (h3 : ct ≠ 0) (hw : Cond.classLink M.1 ct "PathHouseModel$Stop" ∈ gW)
    (kk : Gd C M fr lo h0 o' h' hpc lv [.ref a] h) : Gx C M fr lo h0 o' h' pc lv st h 16 a := by
  intro p e s m args below meth c H locs ls q hc hR0 hR hn hu hq hl hx
  obtain ⟨x, x1, x2, x3, x4, x5⟩ := gx_table (hc.2.2.2.2.2.1.trans hh)
  rcases hx with ⟨-, rfl, hk⟩ | ⟨h9, -⟩
  · obtain ⟨-, -, hcell⟩ := hR.2.2.2 q (by rw [hk]; decide)
    obtain ⟨r, hr, cell, q1, q2, q3, -⟩ := hcell.1 (by rw [hk]; decide)
    rw [hk] at hr q2
    obtain ⟨-, hfc, -⟩ := hc.2.2.2.2.2.2.2.2.2.2.1.1 15 _ hr
    have hr9 : r.1 = "PathHouseModel$Stop" := by have : r = (RX14, TX14, 8) := Option.some.inj (hr.symm.trans rfl); rw [this]; rfl
    rw [hr9] at hfc
    subst x4
    exact xb_catch hc.2.2.2.2.2.2.1 (suf := []) x1 (by simp [covers, x2, x3, h1, h2]) (by rw [x5]; exact h3) (by rw [x5]; exact hc.2.2.2.2.2.2.2.2.1 _ hw args) (hc.2.2.2.2.2.2.2.2.2.2.2.1 ("PathHouseModel$Stop", "PathHouseModel$Stop") (by simp [cWl])) q1 q3 (by rw [q2]; exact hfc) (kk p e s m args below meth c H locs ls hc hR0 hR hn hu hq hl)
  · omega
theorem lv_less {ls : Array Slot} {n : Nat} {l l' : List (Nat × Value)} (h : lv_has ls n l) (hs : ∀ q ∈ l', q ∈ l) : lv_has ls n l' := ⟨h.1, h.2.1, fun q hq => h.2.2 q (hs q hq)⟩
/-- caught, and put away where nobody looks -/
theorem gx_catchX {e9 a s0 e0 hpc ct k : Nat} (he : e9 < 3) (hh : M.2.2.2.2.2 = [(s0, e0, hpc, ct)]) (h1 : s0 ≤ pc) (h2 : pc < e0) (h3 : ct ≠ 0) (hw : Cond.classLink M.1 ct (exN e9) ∈ gW) (hkn : k < M.2.2.2.1)
    (hdg : (∃ k4 : Fin 4, decode M.2.2.1 hpc = .ok (.astore_n k4, 1) ∧ (k4 : Nat) = k ∧ pc' = hpc + 1) ∨ (decode M.2.2.1 hpc = .ok (.astore k, 2) ∧ pc' = hpc + 2))
    (kk : Gd C M fr lo h0 o' h' pc' (lv.filter (fun q => !(q.1 == k) && !(q.1 + 1 == k && q.2.category == 2))) [] h) : Gx C M fr lo h0 o' h' pc lv st h (200 + e9) a := by
  intro p e s m args below meth c H locs ls q hc hR0 hR hn hu hq hl hx
  obtain ⟨x, x1, x2, x3, x4, x5⟩ := gx_table (hc.2.2.2.2.2.1.trans hh)
  rcases hx with ⟨h9, -⟩ | ⟨-, ce, q1, q3, hfc⟩
  · omega
  · rw [Nat.add_sub_cancel_left] at hfc
    subst x4
    refine xb_catch hc.2.2.2.2.2.2.1 (suf := []) x1 (by simp [covers, x2, x3, h1, h2]) (by rw [x5]; exact h3) (by rw [x5]; exact hc.2.2.2.2.2.2.2.2.1 _ hw args) (hc.2.2.2.2.2.2.2.2.2.2.2.1 (exN e9, exN e9) (by match e9, he with | 0, _ => simp [cWl, exN] | 1, _ => simp [cWl, exN] | 2, _ => simp [cWl, exN])) q1 q3 hfc ?_
    rcases hdg with ⟨k4, d1, d2, rfl⟩ | ⟨d1, rfl⟩
    · exact lv_astore_n hc.1 hc.2.1 d1 d2 hl hkn rfl (fun ls hl => kk p e s m args below meth c H locs ls hc hR0 hR hn hu hq (lv_less hl (fun q hq => List.mem_cons_of_mem _ hq)))
    · exact lv_astore hc.1 hc.2.1 d1 hl hkn rfl (fun ls hl => kk p e s m args below meth c H locs ls hc hR0 hR hn hu hq (lv_less hl (fun q hq => List.mem_cons_of_mem _ hq)))
theorem gd_athrow {a : Nat} (hk : hK h a = 16) (hdg : decode M.2.2.1 pc = .ok (.athrow, 1)) (kk : Gx C M fr lo h0 o' h' pc lv st h 16 a) : Gd C M fr lo h0 o' h' pc lv (.ref a :: st) h := by
  intro p e s m args below meth c H locs ls hc hR0 hR hn hu hq hl
  intro T hT X
  obtain ⟨t, a1, b1⟩ := kk p e s m args below meth c H locs ls a hc hR0 hR hn hu hq hl (Or.inl ⟨rfl, rfl, hk⟩) T hT X
  refine ⟨t, ?_, b1⟩
  have hdg' : decode c.code pc = .ok (.athrow, 1) := by rw [hc.2.1]; exact hdg
  jvm_step X.here [hc.1, hdg', athrow.wp_sem]
  exact a1
end GR
