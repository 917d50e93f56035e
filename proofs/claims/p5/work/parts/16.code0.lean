/-! code tables -/
def Mof (q : ME) : Mi := (q.1.cls, q.1.name, q.2.2.1, q.2.2.2.1, q.2.2.2.2.1, q.2.2.2.2.2)
def noThr (P : Pool) (i : Instr) : Bool := match i with
  | .new ik => match P.2.2.1.lookup ik with
    | some kd => kd < 100
    | none => true
  | _ => true
def chk (nL : Nat) (q : Nat × Instr × Nat) : Bool := ilenOK q.2.1 q.2.2 && stoOK q.2.1 nL && tgtOK q.1 q.2.1
theorem lk_in' {l : Code1} {a : Nat} {b : Instr × Nat} (h : l.lookup a = some b) : (a, b) ∈ l := by
  induction l with
  | nil => cases h
  | cons q r ih =>
    obtain ⟨c, e⟩ := q
    rw [List.lookup_cons] at h
    by_cases z : a = c
    · subst z
      simp at h
      rw [h]
      exact List.mem_cons_self
    · have z' : (a == c) = false := by simp [z]
      rw [z'] at h
      exact List.mem_cons_of_mem _ (ih h)
theorem code_1 {cc : ByteArray} {nL : Nat} {l : Code1} (h1 : ∀ q ∈ l, decode cc q.1 = .ok q.2) (h2 : l.all (chk nL) = true) : ∀ pc i len, l.lookup pc = some (i, len) → decode cc pc = .ok (i, len) ∧ ilenOK i len = true ∧ stoOK i nL = true ∧ tgtOK pc i = true := by
  intro pc i len h
  have hm := lk_in' h
  have h3 : chk nL (pc, i, len) = true := List.all_eq_true.mp h2 (pc, i, len) hm
  have h4 : decode cc pc = .ok (i, len) := h1 (pc, i, len) hm
  unfold chk at h3
  dsimp only at h3
  rw [Bool.and_eq_true, Bool.and_eq_true] at h3
  obtain ⟨⟨a1, a2⟩, a3⟩ := h3
  exact ⟨h4, a1, a2, a3⟩
theorem thr_0 {M : Mi} {X : MT} (h : X.1.all (fun q => noThr X.2.1 q.2.1) = true) : ∀ pc ik l0 kd is l4 ic l6, X.1.lookup pc = some (.new ik, l0) → X.2.1.2.2.1.lookup ik = some kd → ¬ kd < 100 → X.1.lookup (pc + 4) = some (.ldc is, l4) → X.1.lookup (pc + 6) = some (.invokespecial ic, l6) → ∃ e9 sn text, e9 < 3 ∧ kd = 200 + e9 ∧ TW M ik is ic e9 sn text := by
  intro pc ik l0 kd is l4 ic l6 h1 h2 h3
  have h4 := List.all_eq_true.mp h _ (lk_in' h1)
  simp only [noThr, h2, decide_eq_true_eq] at h4
  exact absurd h4 h3
