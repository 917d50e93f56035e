/-! segments, OF THE REFERENCE -/
def ctS (b : By) (n f : Nat) (orD : Nat → LT → Qs) (strict : Bool) (g : Nat) (s : Bool) (x : QF) (r : (Nat × LT × QF × Bool) ⊕ (Nat × Nat)) : (Nat × Nat × LT × Bool × QF) ⊕ (Nat × Nat) := match r with
  | .inr e => .inr e
  | .inl (j, L', y, s') => sgF b n f orD strict g (sk b n j) j L' (s && s') (qApp x y)
/-- the segments so far, the place behind them -/
def SGl (M P : Nat) (b : By) (n o : Nat) (t : Ht) (i q c : Nat) (L : LT) (t' : Ht) (h q' c' : Nat) (L' : LT) (x : QF) (us : List Nat) : Prop :=
  GO M P b n [] t i q c t' h q' c' o L' ∧ (L'.1 = 0 → L.1 = 0 ∧ qL x = true ∧ QM t' P (M + 3) 2400 q' x 1 (rg c c') us) ∧ us.length + c ≤ c' ∧ (∀ z ∈ us, c ≤ z ∧ z < c') ∧ c' ≤ c + 2 * (h - i)
def laI (us : List Nat) : Int32 := oIx us.getLast?
/-- a segment's part a, behind the segments so far (heap t1, place i1) -/
def SGa (M P : Nat) (b : By) (n f : Nat) (strict : Bool) (t : Ht) (i q c : Nat) (L : LT) (S : (Nat × Nat × LT × Bool × QF) ⊕ (Nat × Nat)) (l3 l4 l6 : Int32) (t1 : Ht) (i1 q1 a : Nat) (L1 : LT) (s : Bool) (x : QF) (us : List Nat) (g : Nat) : Prop :=
  l3 = hdI us ∧ l4 = laI us ∧ l6 = nI us.length ∧ SGl M P b n (16 - f) t i q c L t1 i1 q1 a L1 x us ∧ i1 < n ∧ n < g + 1 + i1 ∧ S = ctS b n f (orN b n f) strict g s x (sgQ b n f (orN b n f) strict i1 L1) ∧ a + 1 ≤ 2 * i1
/-- its selectors are read -/
def SGr (M P : Nat) (b : By) (n f : Nat) (strict : Bool) (t1 : Ht) (i1 q1 a : Nat) (L1 : LT) (t' : Ht) (j2 : Nat) (L2 : LT) (z : QF) (s3 : Bool) : Prop :=
  ∃ q2 c2 u us2 dp y s2, z = qT (if dp then 1 else 0) y ∧ s3 = (s2 && ((if dp then 1 else 0) == 0)) ∧ GO M P b n [] t1 i1 q1 a t' j2 q2 c2 (16 - f) L2 ∧ (tI t' (P + 1) a = 0 ∧ tI t' (P + 2) a = nI u ∧ tI t' (P + 4) a = -1 ∧ tI t' (P + 5) a = bI dp) ∧ (L2.1 = 0 → L1.1 = 0 ∧ qL y = true ∧ QM t' P (M + 3) 2400 q2 y 2 (rg (a + 1) c2) (u :: us2)) ∧ tI t' M 21 = bI s2 ∧ i1 < j2 ∧ a < c2 ∧ c2 ≤ a + 2 * (j2 - i1) ∧ sgQ b n f (orN b n f) strict i1 L1 = .inl (j2, L2, z, s3)
section MQ7
variable {C : Cx} {d E f : Nat} {Post : OutT → Ht → Prop} {t t1 t' : Ht} {M P : Nat} {b : By} {n i q c o i' q' c' o' : Nat} {L L' : LT} {X : List Nat}
theorem sgF_st {strict : Bool} {g h : Nat} {s : Bool} {x : QF} {orD : Nat → LT → Qs} (hp : pk b n i = 46 ∨ pk b n i = 91) : sgF b n f orD strict (g + 1) i h L s x = ctS b n f orD strict g s x (sgQ b n f orD strict i L) := by
  rw [sgF, if_pos hp]; rfl
/-- the segment is hung behind the others -/
theorem SGl.next {i1 q1 a j2 : Nat} {L1 L2 : LT} {x z : QF} {us : List Nat} {s3 strict : Bool} {t2 : Ht} (h : SGl M P b n (16 - f) t i q c L t1 i1 q1 a L1 x us) (hr : SGr M P b n f strict t1 i1 q1 a L1 t' j2 L2 z s3) (ht : t2 = match us.getLast? with
    | none => t'
    | some la => sI t' (P + 4) la (nI a)) : ∃ q2 c2, SGl M P b n (16 - f) t i q c L t2 j2 q2 c2 L2 (qApp x z) (us ++ [a]) := by
  obtain ⟨q2, c2, u, us2, dp, y, s2, rfl, rfl, g, ⟨e1, e2, e4, e5⟩, hy, -, hij, hac, hcb, -⟩ := hr
  obtain ⟨h1, h3, hl, hm, hb⟩ := h
  have hP := g.1.2.2.1.1
  have h0 := h1.2.2.2.2.2
  have hi1 := h1.2.2.2.1
  have hlt : ∀ la, us.getLast? = some la → c ≤ la ∧ la < a := fun la e => hm la (List.mem_of_getLast? e)
  have hG : GO M P b n [] t i q c t2 j2 q2 c2 (16 - f) L2 := by
    rw [ht]
    have hg := h1.trans g (fun z hz => by cases hz)
    cases hla : us.getLast? with
    | none => exact hg
    | some la => exact hg.I (Or.inl ⟨by omega, by omega, Or.inl (hlt la hla).1⟩)
  have f2 : ∀ z, SQa t' t2 P z ∧ (us.getLast? ≠ some z → tI t2 (P + 4) z = tI t' (P + 4) z) := fun z => by
    rw [ht]
    cases hla : us.getLast? with
    | none => exact ⟨SQa.rfl', fun _ => rfl⟩
    | some la => exact ⟨⟨fun k hk => sI_at (by omega), fun _ _ => rfl⟩, fun hz => sI_at (fun w => hz (by rw [w.2]))⟩
  have fc : ∀ k, tI t2 (M + 3) k = tI t' (M + 3) k := fun k => by
    rw [ht]
    cases hla : us.getLast? with
    | none => rfl
    | some la => exact sI_at (by omega)
  have hnl : ∀ z, a ≤ z → us.getLast? ≠ some z := fun z hz e => by have := hlt z e; omega
  refine ⟨q2, c2, hG, fun w => ?_, by simp; omega, fun w hw => ?_, by omega⟩
  · obtain ⟨z1, z2, z3⟩ := hy w
    obtain ⟨w1, w2, w3⟩ := h3 z1
    have hz : QM t2 P (M + 3) 2400 q2 (qT (if dp then 1 else 0) y) 1 (rg a c2) [a] := by
      refine QM.mk (m := 1) (k := if dp then 1 else 0) (us := u :: us2) (F1 := rg (a + 1) c2) (by decide) (by decide) (fun w => by omega) ⟨Nat.le_refl _, hac⟩ (fun v hv => ⟨by have := hv.1; omega, hv.2⟩) (fun w => by have := w.1; omega) ?_ (Or.inr ?_)
      · unfold HM
        rw [if_pos rfl]
        refine ⟨((f2 a).1.1 1 (by omega)).trans e1, ((f2 a).1.1 5 (by omega)).trans (e5.trans ?_), ((f2 a).1.1 2 (by omega)).trans e2, z2, by split <;> omega⟩
        cases dp <;> rfl
      · exact z3.fr (fun v hv => ⟨(f2 v).1, fun _ => (f2 v).2 (hnl v (by have := hv.1; omega))⟩) (fun k _ _ => fc k) (Nat.le_refl _)
    obtain ⟨a1, a2, a3⟩ := QM.app (t := t1) (t' := t2) (P := P) (ch := M + 3) (m := 1) (F := rg c a) (F' := rg c c2) (F2 := rg a c2) (lo := 2400) (hi := q1) (lo' := 2400) (hi' := q2) (y := qT (if dp then 1 else 0) y) (v := a) (by decide) (by decide) (fun p cs hc => hc.eq g.2.2.2.2.1 (fun k k1 k2 => by rw [fc]; exact g.2.2.1.2 k k2))
      (fun v hv => ((g.sq (z := v) hv.2).1.trans (f2 v).1).s) (fun w => by have := w.2; omega) hz rfl ⟨Nat.le_refl _, hac⟩ (((f2 a).2 (hnl a (Nat.le_refl _))).trans e4) (fun v hv => ⟨hv.1, by have := hv.2; omega⟩) (fun v hv => ⟨by have := hv.1; omega, hv.2⟩) x us w2 w3
      (fun v hv hv2 => ((f2 v).2 hv2).trans ((g.sq (z := v) hv.2).2 (by simp)))
      (fun v hv => by rw [ht, hv]; exact sI_eq)
    exact ⟨w1, a2, a1⟩
  · rcases List.mem_append.mp hw with hw | hw
    · have := hm w hw; omega
    · rw [List.mem_singleton.mp hw]; omega
/-- what the caller of segments needs -/
def KSg (M P : Nat) (b : By) (n o : Nat) (whole : Bool) (t : Ht) (i q c : Nat) (L : LT) (sp : (Nat × Nat × LT × Bool × QF) ⊕ (Nat × Nat)) (Post : OutT → Ht → Prop) : Prop :=
  (∀ j h L' s x, sp = .inl (j, h, L', s, x) → j = sk b n h → (whole = true → j ≠ h → ∀ t', FQ M P t t' 1 j → Post (.inr (16, M + 1)) t') ∧ ((whole = true → j = h) → ∀ t' q' c' us, SGl M P b n o t i q c L t' h q' c' L' x us → tI t' M 21 = bI s → tI t' P 10 = nI us.length → Post (.inl (some (svI (hdI us)))) t')) ∧
  (∀ w p, sp = .inr (w, p) → ∀ t', FQ M P t t' w p → Post (.inr (16, M + 1)) t')
end MQ7
