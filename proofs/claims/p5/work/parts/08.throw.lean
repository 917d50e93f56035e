/-! throw new E("text"), the new cell known (after vx_throwS) -/
theorem xb_throwS {p : Program} {l : Launch} {e : Env} {R : Room} {s : State} {m : MethodId} {args : Array Value} {below : List Frame} {meth : Method} {c : Code} {H : Heap} {locs : List Loc} {cells slots : Nat} {free : Addr → Prop} {ls : Array Slot} {rest : List Value} {Qc : Array Value → State → Outcome → State → Prop} {cc : ByteArray} {pc : Nat} (hexec : p.tables.exec = Jvm.exec) (hb : c.code = cc) (hl : l.stackTraces = false) {own cls text : String} {names : List String} {ik is ic mc ms sa : Nat} {A : Nat → Prop}
    (hown : s.vm.findClass own = some m.cls) (hcls : Bundle.fit cls = true) (hnames : ∀ n ∈ names, Bundle.fit n = true)
    (hk : (Cond.classLink own ik cls).before args s = true) (hini : (Cond.initialized cls).before args s = true) (hstr : vk_R own is text sa s) (hat : ∀ w ∈ vx_atS own ic cls names, w.before args s = true)
    (hgood : ∀ w ∈ Cond.classLink own ik cls :: Cond.initialized cls :: vx_atS own ic cls names, vx_ot w = true)
    (hU : vx_Zq Bundle.tN "UNASSIGNED_STACK" Bundle.steD A s s.heap) (hN : vx_Zq Bundle.tN "SUPPRESSED_SENTINEL" Bundle.listD A s s.heap) (hS : va_S A s.heap H locs) (hsize : ls.size = c.maxLocals)
    (d0 : decode cc pc = .ok (.new ik, 3)) (d3 : decode cc (pc + 3) = .ok (.dup, 1)) (d4 : decode cc (pc + 4) = .ok (.ldc is, 2)) (d6 : decode cc (pc + 6) = .ok (.invokespecial ic, 3)) (d9 : decode cc (pc + 9) = .ok (.athrow, 1))
    (hout : ∀ x ∈ c.exceptionTable.toList, covers x (pc + 9) = false)
    (hRframes : names.length + 3 < R.frames) (hRlocals : (rest.map fun v => v.category).sum + (13 * (names.length + 1) + 43) ≤ R.locals) (hRcells : cells + 1 ≤ R.cells) (hRslots : slots + 6 ≤ R.slots) (hlocks : meth.locks = false)
    (hx : ∀ (t : State) (ce : Cell), s.WarmedH t.vm → t.heap.size = H.size + 1 → (∀ q : Nat, q < H.size → t.heap[q]? = H[q]?) → t.heap[H.size]? = some ce → ce.vm = .none → s.vm.findClass cls = some ce.cls → Qc args s (.threw H.size) t)
    (hf : ∀ z ∈ locs, free z.base) (hc : cells + 1 ≤ mc) (hs : slots + 6 ≤ ms) :
    W p l e R s m args below meth c H locs cells slots (xb_MQ below Qc args s mc ms free) (F0 m pc ls rest) := by
  intro T hT X
  have htr : e.platform.stackTraces = false := (show e.platform.stackTraces = l.stackTraces by rw [X.admits.platform]).trans hl
  have Y := vx_rebase X (R' := { frames := R.frames, locals := R.locals, cells := 1, slots := 6 }) (Nat.le_refl _) (Nat.le_refl _) hRcells hRslots
  obtain ⟨s', hA⟩ : ∃ z, z = (T.setVm s.vm).setFrames (.invoking m args :: below) := ⟨_, rfl⟩
  rw [← hA] at Y
  have hvm : s'.vm = s.vm := by rw [hA]; rfl
  have hhp : s'.heap = H := by rw [hA]; exact hT
  have hW0 : s.WarmedH s'.vm := by rw [hvm]; exact State.WarmedH.refl s
  have hat' : ∀ w ∈ vx_atS own ic cls names, w.before args s' = true := fun w hw => vx_ot_at hW0 hvm.symm (hgood w (List.mem_cons_of_mem _ (List.mem_cons_of_mem _ hw))) (hat w hw)
  have hk' : (Cond.classLink own ik cls).before args s' = true := vx_ot_at hW0 hvm.symm (hgood _ List.mem_cons_self) hk
  have hini' : (Cond.initialized cls).before args s' = true := vx_ot_at hW0 hvm.symm (hgood _ (List.mem_cons_of_mem _ List.mem_cons_self)) hini
  have hU' : vx_Zq Bundle.tN "UNASSIGNED_STACK" Bundle.steD A s' s'.heap := by rw [hhp]; exact vx_Zq.moved hW0.alike (hU.kept hS.2.1)
  have hN' : vx_Zq Bundle.tN "SUPPRESSED_SENTINEL" Bundle.listD A s' s'.heap := by rw [hhp]; exact vx_Zq.moved hW0.alike (hN.kept hS.2.1)
  have h : ∀ w ∈ Bundle.ownAtoms own ic cls names, w.before args s' = true := vx_own hat' (vx_isRefq hU'.1) (vx_isRefq hN'.1) hU'.2.word hN'.2.word
  have hown' : s'.vm.findClass own = some m.cls := by rw [hvm]; exact hown
  have hins : (Cond.instantiable cls 6).before args s' = true := h _ (by simp [Bundle.ownAtoms])
  obtain ⟨vm₁, cX, kX, hfX, hkX, -, -, X₁, st1⟩ := Y.newCold hexec (own := own) (C := cls) (index := ik) (n := 6) hown' hk' hins hini'
    (g := F0 m pc ls rest) rfl (by rw [hb]; exact d0) (Nat.le_refl _) (Nat.le_refl _)
  generalize hT1 : (T.setVm vm₁).pushCell { cls := cX, slots := kX.instanceTypes.map defaultValue, vm := .none } = T1 at X₁ st1
  have hcat : (Value.ref T.heap.size).category = 1 := rfl
  have hcellA : T1.heap[T.heap.size]? = some (freshCell cX kX) := by rw [← hT1]; exact State.heap_pushCell_size _ _
  have d3' : decode c.code (pc + 3) = .ok (.dup, 1) := by rw [hb]; exact d3
  have d4' : decode c.code (pc + 4) = .ok (.ldc is, 2) := by rw [hb]; exact d4
  have hstr' : vk_R own is text sa s' := vk_R.warm hW0 hstr
  obtain ⟨U, hsteps, hrun, hend, hW, hsame, ce, hce, hO⟩ := X₁.ctorThrowS hexec htr (own := own) (cls := cls) (names := names) (ic := ic) hown' hcls hnames h (fun x hx => nomatch hx) hfX hkX hcellA (by rw [hhp, hT]; exact Nat.le_refl _) (msg := .ref sa) rfl
    (g := { method := m, pc := pc + 6, locals := ls, stack := .ref sa :: .ref T.heap.size :: .ref T.heap.size :: rest, locked := none }) rfl hsize rfl rfl (rest := rest) rfl
    (by rw [hb]; exact d6) (by rw [hb]; exact d9) hout hRframes (by simp only [List.map_cons, List.sum_cons, hcat]; omega) hlocks
  obtain ⟨f1, f2⟩ := vx_frame hsame
  rw [hhp] at f1 f2
  have hWs : s.WarmedH U.vm := State.WarmedH.trans hW0 hW
  have hcl : s.vm.findClass cls = some ce.cls := by
    have h9 := hO.cls
    rw [hvm] at h9
    exact h9
  have hall : s.sameButNew ({ U with vm := s.vm } : State) locs mc ms := by
    subst hA
    obtain ⟨e1, e2⟩ := hsame
    rw [State.setFrames_setFrames] at e1
    have h2 : (T.setVm s.vm).sameButNew ({ U with vm := s.vm } : State) [] (0 + 1) (0 + 6) := ⟨e1, e2⟩
    have h3 := X.same.trans h2
    rw [List.append_nil] at h3
    exact h3.mono hc hs
  have hsz : U.heap.size = H.size + 1 := by
    have z1 : U.heap.size ≤ s'.heap.size + (0 + 1) := hsame.2.2.1
    have z2 : T.heap.size < U.heap.size := (Array.getElem?_eq_some_iff.mp hce).1
    rw [hhp] at z1
    rw [hT] at z2
    omega
  have hq9 := hx U ce hWs hsz (fun q hq => f2 q hq (fun z hz => nomatch hz)) (by rw [← hT]; exact hce) hO.vm hcl
  rw [← hT] at hq9
  refine ⟨U, ?_, .threw T.heap.size, hrun, hend, hq9, hWs, locs, hall, hf⟩
  refine st1 _ ?_
  show Steps p.tables e below (T1.setTop { method := m, pc := pc + 3, locals := ls, stack := .ref T.heap.size :: rest, locked := none }) _
  jvm_step X₁.here [X₁.here.top, hexec, d3', Value.category]
  exact X₁.ldcString hexec (own := own) (text := text) (index := is) (a := sa) hown' hstr'.1 hstr'.2
    (g := { method := m, pc := pc + 4, locals := ls, stack := .ref T.heap.size :: .ref T.heap.size :: rest, locked := none }) rfl d4' _ hsteps

def exNs : List String := ["java/lang/RuntimeException", "java/lang/Exception"]
/-- the words of a throw new E("text") -/
def TW (M : Mi) (ik is ic e9 sn : Nat) (text : String) : Prop := Cond.classLink M.1 ik (exN e9) ∈ gW ∧ Cond.initialized (exN e9) ∈ gW ∧ (∀ w ∈ (vx_atS M.1 ic (exN e9) exNs).filter goodWord, w ∈ gW) ∧ (∀ w ∈ (vx_atS M.1 ic (exN e9) exNs).filter (fun w => !goodWord w), w ∈ Cond.castable (exN e9) (exN e9) :: dWx) ∧
  (∀ w ∈ Cond.classLink M.1 ik (exN e9) :: Cond.initialized (exN e9) :: vx_atS M.1 ic (exN e9) exNs, vx_ot w = true) ∧ Bundle.fit (exN e9) = true ∧ (∀ n ∈ exNs, Bundle.fit n = true) ∧ (M.1, is, text, sn) ∈ strL ∧ (exN e9, exN e9) ∈ cWl
theorem xs_cast.word {E N : String} {U : State} (h : xs_cast E N U) (A : Array Value) : (Cond.castable E N).before A U = true := by
  obtain ⟨a, b, h1, h2, h3⟩ := h
  simp [Cond.before, Cond.holds, Cond.value, h1, h2, h3]
theorem gd_throwS {C : Cx} {M : Mi} {h0 h : Hp} {fr lo ik is ic e9 sn : Nat} {text : String} {pc : Nat} {lv : List (Nat × Value)} {st : List Value} {f : Nat → Value} (hT : TW M ik is ic e9 sn text) (hh : ∀ q ∈ M.2.2.2.2.2, ¬ (q.1 ≤ pc + 9 ∧ pc + 9 < q.2.1)) (hfr : 6 ≤ fr) (hlo : 100 ≤ lo) (hW : (st.map fun v => v.category).sum ≤ 8)
    (d0 : decode M.2.2.1 pc = .ok (.new ik, 3)) (d3 : decode M.2.2.1 (pc + 3) = .ok (.dup, 1)) (d4 : decode M.2.2.1 (pc + 4) = .ok (.ldc is, 2)) (d6 : decode M.2.2.1 (pc + 6) = .ok (.invokespecial ic, 3)) (d9 : decode M.2.2.1 (pc + 9) = .ok (.athrow, 1)) :
    Gd C M fr lo h0 (.inr (200 + e9, 0)) (hNew h 0 0 6 f) pc lv st h := by
  intro p e s m args below meth c H locs ls hc hR0 hR hn hu hq hl
  obtain ⟨t1, t2, t3, t4, t5, t6, t7, t8, t9⟩ := hT
  have hSF := hc.2.2.2.2.2.2.2.2
  have hts : ∀ w ∈ gW, w.before args s = true := fun w hw => hSF.1 w hw args
  have hold : ∀ q, q < cB C → s.heap[q]? = (cH C)[q]? := hR0.2.2.1
  have hkp : ∀ a : Nat, a < (cH C).size → ¬ cB C ≤ a → s.heap[a]? = (cH C)[a]? := fun a _ ha => hold a (Nat.not_le.mp ha)
  have e1 : hN (hNew h 0 0 6 f) - hN h0 = hN h - hN h0 + 1 := by show hN h + 1 - hN h0 = _; omega
  have e2 : hU (hNew h 0 0 6 f) - hU h0 = hU h - hU h0 + 6 := by show hU h + 6 - hU h0 = _; omega
  refine xb_throwS (A := fun q => cB C ≤ q) (names := exNs) hc.1 hc.2.1 hSF.2.2.2.2.2.1.1 hc.2.2.2.2.2.2.1 t6 t7 (hts _ t1) (hts _ t2) (hSF.2.2.2.2.2.2.1 _ t8)
    (vx_hat (fun w hw => hts w (t3 w hw)) t4 (fun w hw => by
      rcases List.mem_cons.mp hw with rfl | hw
      · exact (hSF.2.2.2.1 _ t9).word args
      · have h9 := hSF.2.2.2.2.2.2.2.2.1 w hw
        simp only [dWx, List.mem_cons, List.not_mem_nil, or_false] at hw
        rcases hw with rfl | rfl | rfl <;> exact va_Nw.use rfl h9)) t5
    (hSF.2.2.2.2.2.1.2.1.kept hkp) (hSF.2.2.2.2.2.1.2.2.kept hkp) ⟨by rw [hR0.1, hR.1]; exact hn, fun q h1 h2 => by rw [hold q (Nat.not_le.mp h2)]; exact hR.2.2.1 q (Nat.not_le.mp h2), hq⟩ (hl.1.trans hc.2.2.1.symm)
    d0 d3 d4 d6 d9 (fun x hx => ?_) (by show 2 + 3 < fr; omega) (by show _ + (13 * (2 + 1) + 43) ≤ lo; omega) (by show hN h - hN h0 + 1 ≤ hN (hNew h 0 0 6 f) - hN h0; omega) (by show hU h - hU h0 + 6 ≤ hU (hNew h 0 0 6 f) - hU h0; omega) hc.2.2.2.2.1 ?_ hq (by omega) (by omega)
  · have h1 := hh (xb_hh x) (by rw [← hc.2.2.2.2.2.1]; exact List.mem_map_of_mem hx)
    simp only [covers, xb_hh] at h1 ⊢
    by_cases e1 : x.startPc ≤ pc + 9
    · by_cases e2 : pc + 9 < x.endPc
      · exact absurd ⟨e1, e2⟩ h1
      · simp [e2]
    · simp [e1]
  · intro t ce hW hsz hk hce hv hcl
    refine ⟨⟨by rw [hsz, hR.1]; rfl, Nat.le_succ_of_le hR.2.1, fun q hlt => ?_, fun b hb => ?_⟩, H.size, rfl, Or.inr ⟨by omega, ce, hce, hv, by rw [Nat.add_sub_cancel_left]; exact hcl⟩⟩
    · rw [hk q (by rw [hR.1]; exact Nat.lt_of_lt_of_le hlt hR.2.1)]; exact hR.2.2.1 q hlt
    · by_cases e : b = hN h
      · exact absurd (by simp [hNew, hK, e]) hb
      · have hb' : hK h b ≠ 0 := by simpa [hNew, hK, e] using hb
        obtain ⟨q1, q2, q3⟩ := hR.2.2.2 b hb'
        refine ⟨q1, Nat.lt_succ_of_lt q2, ?_⟩
        have e1 := q3.kept (H1 := t.heap) (hk b (by rw [hR.1]; exact q2))
        have e2 : hV (hNew h 0 0 6 f) b = hV h b := by funext j; simp [hNew, hV, e]
        have e3 : hK (hNew h 0 0 6 f) b = hK h b := by simp [hNew, hK, e]
        have e4 : hL (hNew h 0 0 6 f) b = hL h b := by simp [hNew, hL, e]
        refine ⟨fun z => ?_, fun z1 z2 => ?_⟩
        · rw [e2, e3]; rw [e3] at z; exact e1.1 z
        · rw [e2, e3, e4]; rw [e3] at z1 z2; exact e1.2 z1 z2
