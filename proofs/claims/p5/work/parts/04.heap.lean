/-! THE ABSTRACT HEAP: addresses are the machine's own; cell a has a kind (0: not ours; class number + 1; 100 + array kind; 200 + exception), a length, a value in each slot. -/
abbrev Hp : Type := Nat × Nat × (Nat → Nat) × (Nat → Nat) × (Nat → Nat → Value)
def hN (h : Hp) : Nat := h.1
def hU (h : Hp) : Nat := h.2.1
def hK (h : Hp) : Nat → Nat := h.2.2.1
def hL (h : Hp) : Nat → Nat := h.2.2.2.1
def hV (h : Hp) : Nat → Nat → Value := h.2.2.2.2
def hSet (h : Hp) (a i : Nat) (v : Value) : Hp := (hN h, hU h, hK h, hL h, fun b j => if b = a ∧ j = i then v else hV h b j)
def hNew (h : Hp) (kd len used : Nat) (f : Nat → Value) : Hp := (hN h + 1, hU h + used, fun b => if b = hN h then kd else hK h b, fun b => if b = hN h then len else hL h b, fun b j => if b = hN h then f j else hV h b j)
/-- what a claim's walk has fixed: launch, first address of ours, the heap at the start, class numbers, slots, array classes -/
abbrev Cx : Type := Launch × Nat × Heap × (Nat → ClassId) × (Nat → Nat → Nat) × (Nat → ClassId) × (Nat → Nat) × (Nat → Option Nat) × Nat × Nat × (Nat → Int32)
def cL (C : Cx) : Launch := C.1
def cB (C : Cx) : Nat := C.2.1
def cH (C : Cx) : Heap := C.2.2.1
def cC (C : Cx) : Nat → ClassId := C.2.2.2.1
def cI (C : Cx) : Nat → Nat → Nat := C.2.2.2.2.1
def cA (C : Cx) : Nat → ClassId := C.2.2.2.2.2.1
def cS (C : Cx) : Nat → Nat := C.2.2.2.2.2.2.1
def cG (C : Cx) : Nat → Option Nat := C.2.2.2.2.2.2.2.1
/-- the script: its address, its length, its ints -/
def cX (C : Cx) : Nat × Nat × (Nat → Int32) := C.2.2.2.2.2.2.2.2
abbrev aTs : List FieldType := [.byte, .int, .long, .object "java/lang/Object", .object "PathHouse$Node", .object "PathHouse$Row"]
def aT (k : Nat) : FieldType := aTs.getD k .int
def cTys (C : Cx) : List (ClassId × FieldType) := [(cA C 0, .byte), (cA C 1, .int), (cA C 2, .long), (cA C 3, .object "java/lang/Object"), (cA C 4, .object "PathHouse$Node"), (cA C 5, .object "PathHouse$Row")]
def exN (e : Nat) : String := match e with
  | 0 => "java/lang/IllegalArgumentException"
  | 1 => "java/lang/IllegalStateException"
  | _ => "java/util/NoSuchElementException"
def ExC (e : Nat) (s : State) (H : Heap) (q : Nat) : Prop := ∃ ce : Cell, H[q]? = some ce ∧ ce.vm = .none ∧ s.vm.findClass (exN e) = some ce.cls
def CellOK (C : Cx) (h : Hp) (H : Heap) (a : Nat) : Prop :=
  (hK h a < 100 → ∃ r, vwCl[hK h a - 1]? = some r ∧ t_OB a (cC C (hK h a - 1)) r.2.2 (cI C (hK h a - 1)) H (hV h a)) ∧
  (100 ≤ hK h a → hK h a < 200 → hK h a - 100 < 6 ∧ H[a]? = some (arrV (cA C (hK h a - 100)) (hL h a) (hV h a)))
def Rel (C : Cx) (h : Hp) (H : Heap) : Prop :=
  H.size = hN h ∧ cB C ≤ hN h ∧ (∀ q, q < cB C → H[q]? = (cH C)[q]?) ∧ ∀ a, hK h a ≠ 0 → cB C ≤ a ∧ a < hN h ∧ CellOK C h H a
theorem CellOK.kept {C : Cx} {h : Hp} {H H1 : Heap} {a : Nat} (k : CellOK C h H a) (e : H1[a]? = H[a]?) : CellOK C h H1 a := by
  refine ⟨fun q => ?_, fun q1 q2 => ?_⟩
  · obtain ⟨r, r1, r2⟩ := k.1 q
    exact ⟨r, r1, r2.kept e⟩
  · obtain ⟨r1, r2⟩ := k.2 q1 q2
    exact ⟨r1, by rw [e]; exact r2⟩
/-- one cell is written anew, with the same kind and length -/
theorem Rel.put {C : Cx} {h : Hp} {H H1 : Heap} {a i : Nat} {v : Value} (hR : Rel C h H) (hk : hK h a ≠ 0) (hz : H1.size = H.size) (hq : ∀ q, q ≠ a → H1[q]? = H[q]?) (hc : CellOK C (hSet h a i v) H1 a) : Rel C (hSet h a i v) H1 := by
  obtain ⟨r1, r2, r3, r4⟩ := hR
  refine ⟨hz.trans r1, r2, fun q hlt => ?_, fun b hb => ?_⟩
  · have : q ≠ a := fun e => by subst e; exact absurd (r4 q hk).1 (Nat.not_le.mpr hlt)
    rw [hq q this]; exact r3 q hlt
  · obtain ⟨q1, q2, q3⟩ := r4 b hb
    refine ⟨q1, q2, ?_⟩
    by_cases e : b = a
    · subst e; exact hc
    · have e1 := q3.kept (H1 := H1) (hq b e)
      have e2 : hV (hSet h a i v) b = hV h b := by funext j; simp [hSet, hV, e]
      refine ⟨fun z => ?_, fun z1 z2 => ?_⟩
      · rw [e2]; exact e1.1 z
      · rw [e2]; exact e1.2 z1 z2
/-- a cell is made at the end -/
theorem Rel.push {C : Cx} {h : Hp} {H : Heap} {cell : Cell} {kd len used : Nat} {f : Nat → Value} (hR : Rel C h H) (hc : CellOK C (hNew h kd len used f) (H.push cell) (hN h)) : Rel C (hNew h kd len used f) (H.push cell) := by
  obtain ⟨r1, r2, r3, r4⟩ := hR
  have hlt : ∀ q, q < H.size → (H.push cell)[q]? = H[q]? := fun q hq => by rw [Array.getElem?_push]; simp [Nat.ne_of_lt hq]
  refine ⟨by rw [Array.size_push, r1]; rfl, Nat.le_succ_of_le r2, fun q hq => ?_, fun b hb => ?_⟩
  · rw [hlt q (by rw [r1]; exact Nat.lt_of_lt_of_le hq r2)]; exact r3 q hq
  · by_cases e : b = hN h
    · subst e; exact ⟨r2, Nat.lt_succ_self _, hc⟩
    · have hb' : hK h b ≠ 0 := by simpa [hNew, hK, e] using hb
      obtain ⟨q1, q2, q3⟩ := r4 b hb'
      refine ⟨q1, Nat.lt_succ_of_lt q2, ?_⟩
      have e1 := q3.kept (H1 := H.push cell) (hlt b (by rw [r1]; exact q2))
      have e2 : hV (hNew h kd len used f) b = hV h b := by funext j; simp [hNew, hV, e]
      have e3 : hK (hNew h kd len used f) b = hK h b := by simp [hNew, hK, e]
      have e4 : hL (hNew h kd len used f) b = hL h b := by simp [hNew, hL, e]
      refine ⟨fun z => ?_, fun z1 z2 => ?_⟩
      · rw [e2, e3]; rw [e3] at z; exact e1.1 z
      · rw [e2, e3, e4]; rw [e3] at z1 z2; exact e1.2 z1 z2
/-! WHAT HOLDS OF THE TABLES, at every state of the walk -/
def isNest : Cond → Bool
  | .fieldLinkNest .. => true
  | .methodLinkNest .. => true
  | _ => false
def gW : List Cond := lw_tbl.filter goodWord
def nW : List Cond := lw_tbl.filter isNest
def xs_cast (E N : String) (U : State) : Prop := ∃ a b : ClassId, U.vm.findClass E = some a ∧ U.vm.findClass N = some b ∧ U.vm.assignable a b = true
def cWl : List (String × String) := [("java/lang/IllegalArgumentException", "java/lang/IllegalArgumentException"), ("java/lang/IllegalStateException", "java/lang/IllegalStateException"), ("java/util/NoSuchElementException", "java/util/NoSuchElementException"), ("PathHouseModel$Stop", "PathHouseModel$Stop"),
  ("PathHouse$Node", "PathHouse$Node"), ("PathHouse$Segment", "PathHouse$Segment"), ("PathHouse$Selector", "PathHouse$Selector"), ("PathHouse$Term", "PathHouse$Term"), ("PathHouse$Node", "java/lang/Object"), ("PathHouse$Segment", "java/lang/Object"), ("PathHouse$Selector", "java/lang/Object"), ("PathHouse$Term", "java/lang/Object"), ("PathHouse$Row", "PathHouse$Row")]
def aOl : List String := ["java/lang/Object", "PathHouse$Node", "PathHouse$Row"]
def strL : List (String × Nat × String × Nat) := [("PathHouse$Reader", 40, "the text has a fault", 6), ("PathHouse$ValueReader", 73, "null", 4), ("PathHouse$ValueReader", 79, "false", 2), ("PathHouse$ValueReader", 81, "true", 7), ("PathHouse$QueryReader", 304, "length", 3), ("PathHouse$QueryReader", 306, "count", 1), ("PathHouse$QueryReader", 308, "value", 9), ("PathHouse$QueryReader", 283, "null", 4), ("PathHouse$QueryReader", 289, "false", 2), ("PathHouse$QueryReader", 291, "true", 7), ("PathHouse$Finder", 49, "the find ends here", 5), ("PathHouse$Out", 53, "u00", 8), ("PathHouse$Out", 88, "null", 4), ("PathHouse$Out", 90, "false", 2), ("PathHouse$Out", 92, "true", 7), ("PathHouse", 141, "OUT has no such byte", 0), ("PathHouseModel", 204, "null", 4), ("PathHouseModel", 212, "false", 2), ("PathHouseModel", 214, "true", 7), ("PathHouseModel", 390, "length", 3), ("PathHouseModel", 391, "count", 1), ("PathHouseModel", 393, "value", 9)]
def stL : List (String × String × String × Nat) := [("java/lang/Throwable", "UNASSIGNED_STACK", "[Ljava/lang/StackTraceElement;", 0), ("java/lang/Throwable", "SUPPRESSED_SENTINEL", "Ljava/util/List;", 1), ("java/util/ArrayList", "DEFAULTCAPACITY_EMPTY_ELEMENTDATA", "[Ljava/lang/Object;", 2), ("jdk/internal/util/Preconditions", "SIOOBE_FORMATTER", "Ljava/util/function/BiFunction;", 3)]
/-- what the start's heap holds for the makers of exceptions -/
def EXs (C : Cx) (U : State) : Prop := (cL C).stackTraces = false ∧ vx_Zq Bundle.tN "UNASSIGNED_STACK" Bundle.steD (fun q => cB C ≤ q) U (cH C) ∧ vx_Zq Bundle.tN "SUPPRESSED_SENTINEL" Bundle.listD (fun q => cB C ≤ q) U (cH C)
def dWx : List Cond := [.declares (Bundle.initS "java/lang/RuntimeException"), .declares (Bundle.initS "java/lang/Exception"), .declares (Bundle.initS "java/lang/Throwable")]
/-- the texts of the String constants, by number: lengths and bytes -/
def lenTx : List Nat := [20, 5, 5, 6, 4, 18, 20, 4, 3, 5]
def bytTx : List (List Int32) := [[79, 85, 84, 32, 104, 97, 115, 32, 110, 111, 32, 115, 117, 99, 104, 32, 98, 121, 116, 101], [99, 111, 117, 110, 116], [102, 97, 108, 115, 101], [108, 101, 110, 103, 116, 104], [110, 117, 108, 108], [116, 104, 101, 32, 102, 105, 110, 100, 32, 101, 110, 100, 115, 32, 104, 101, 114, 101], [116, 104, 101, 32, 116, 101, 120, 116, 32, 104, 97, 115, 32, 97, 32, 102, 97, 117, 108, 116], [116, 114, 117, 101], [117, 48, 48], [118, 97, 108, 117, 101]]
/-- the String constants: constant n at cS C n, its bytes at cS C (n + 10); the array of all empty lists; the mirror of the class of arrays of objects at cS C 20 -/
def SStr (C : Cx) (U : State) : Prop := vk_S 10 lenTx bytTx (cS C) (fun n => cS C (n + 10)) (fun z => cB C ≤ z) U (cH C) ∧ va_Z "java/lang/String" "COMPACT_STRINGS" "Z" (.int 1) (fun z => cB C ≤ z) U (cH C) ∧ (∃ a, cG C 2 = some a ∧ va_T (.object "java/lang/Object") a 0 (fun _ => .null) (fun z => cB C ≤ z) U (cH C)) ∧ va_Mi "[Ljava/lang/Object;" (cS C 20) U ∧ va_Dc U
def SF (C : Cx) (U : State) : Prop := (∀ w ∈ gW, ∀ A : Array Value, w.before A U = true) ∧ (∀ w ∈ nW, va_Nw w U) ∧ va_K (cC C, cI C) vwCl (cTys C) U ∧ (∀ q ∈ cWl, xs_cast q.1 q.2 U) ∧ (∀ q ∈ aOl, va_AO q U) ∧ EXs C U ∧ (∀ q ∈ strL, vk_R q.1 q.2.1 q.2.2.1 (cS C q.2.2.2) U) ∧ (∀ q ∈ stL, va_Z q.1 q.2.1 q.2.2.1 (va_rf (cG C q.2.2.2)) (fun z => cB C ≤ z) U (cH C)) ∧ (∀ w ∈ dWx, va_Nw w U) ∧ (cX C).1 < cB C ∧ va_X (cX C).1 (cX C).2.1 (cX C).2.2 U (cH C) ∧ SStr C U
theorem xs_cast.moved {E N : String} {u U : State} (hvm : u.vm.Alike U.vm) (h : xs_cast E N u) : xs_cast E N U := by
  obtain ⟨a, b, h1, h2, h3⟩ := h
  exact ⟨a, b, by rw [hvm.findClass]; exact h1, by rw [hvm.findClass]; exact h2, by rw [hvm.assignable]; exact h3⟩
theorem SF.warm {C : Cx} {s U : State} (hW : s.WarmedH U.vm) (h : SF C s) : SF C U := by
  obtain ⟨h1, h2, h3, h4, h5, ⟨h6, h7, h8⟩, h9, h10, h11, h12, h13, h14, h15, ⟨ga, g1, g2⟩, g3, g4⟩ := h
  refine ⟨fun w hw A => ?_, fun w hw => ?_, va_K.moved hW.alike h3, fun q hq => (h4 q hq).moved hW.alike, fun q hq => (h5 q hq).moved hW.alike, ⟨h6, vx_Zq.moved hW.alike h7, vx_Zq.moved hW.alike h8⟩, fun q hq => vk_R.warm hW (h9 q hq), fun q hq => va_Z.moved hW.alike (h10 q hq), fun w hw => ?_, h12, va_X.moved hW.alike h13, vk_S.moved hW.alike h14, va_Z.moved hW.alike h15, ⟨ga, g1, va_T.moved hW.alike g2⟩, va_Mi.moved hW.alike g3, va_Dc.moved hW.alike g4⟩
  · have hg : goodWord w = true := (List.mem_filter.mp hw).2
    exact word_at hW (good_of_word hg) (h1 w hw #[])
  · have hg : isNest w = true := (List.mem_filter.mp hw).2
    have h := h2 w hw
    cases w with
    | fieldLinkNest a i b n d k => exact va_Nw.warmF hW h
    | methodLinkNest a i x k => exact va_Nw.warmM hW h
    | _ => cases hg
  · have h := h11 w hw
    have key : ∀ y : MethodName, va_Nw (.declares y) s → va_Nw (.declares y) U := fun y h => va_tabs rfl (rfl : (s.setVm U.vm).vm = U.vm) (Cond.before_shiftedFace (State.Shifted.of_warmed hW) (.declares y) rfl h)
    simp only [dWx, List.mem_cons, List.not_mem_nil, or_false] at hw
    rcases hw with rfl | rfl | rfl <;> exact key _ h
theorem SF.same {C : Cx} {s U : State} (hvm : s.vm = U.vm) (h : SF C s) : SF C U := SF.warm (by rw [← hvm]; exact State.WarmedH.refl s) h
/-! OUTCOMES -/
abbrev Out : Type := Option Value ⊕ (Nat × Nat)
def QO (C : Cx) (o : Out) (h : Hp) : Array Value → State → Outcome → State → Prop := fun _ st oc t =>
  Rel C h t.heap ∧ match o with
  | .inl v => oc = .returned v
  | .inr (kd, a) => ∃ q, oc = .threw q ∧ ((kd = 16 ∧ q = a ∧ hK h a = 16) ∨ (200 ≤ kd ∧ ExC (kd - 200) st t.heap q))
