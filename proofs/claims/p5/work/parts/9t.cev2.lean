/-! THE CLASS'S FINDER: looks and rows -/
/-- a find that stops -/
def EFe (C : Cx) (B T : Nat) (t1 : Ht) (G : GT) (V : VT) (c : Nat) (O K : Nat → Prop) (t t' : Ht) (e : Int32 × Nat) : Prop := ∃ t2, EFr B O K t t2 ∧ ESt C B T t1 G V c O t2 e.2 ∧ tI t2 (B + 6) 4 = e.1 ∧ t' = tNew t2 0 0 6
/-- one node more, if there is one -/
def opE (l : List Nat) (o : Option Nat) (k : Nat) : Ev (List Nat) := match o with
  | none => .inl (l, k)
  | some j => coE l j k
section CE2
variable {C : Cx} {d : Nat} {Post : OutT → Ht → Prop} {B T lk lk' c : Nat} {t1 t t' t2 : Ht} {G : GT} {V : VT} {O K K' : Nat → Prop}
theorem ESt.k2 (h : ESt C B T t1 G V c O t lk) : tK t (B + 6) = 2 := h.1.1.2.2.2.2.2.2.2.2.1
theorem ESt.hB (h : ESt C B T t1 G V c O t lk) : B + 9 < tN t := h.1.2.2.2
theorem ESt.rw (h : ESt C B T t1 G V c O t lk) : RwS t B := h.2.2.2.2.2.2.1
theorem ESt.nv (h : ESt C B T t1 G V c O t lk) : NV C T t G V c := h.2.2.2.2.1.nv
theorem EFe.of {e : Int32 × Nat} (h : ESt C B T t1 G V c O t lk) (g : EFr B O K t t2) (he : EFe C B T t1 G V c O K' t2 t' e) (hl : ∀ i, K i → K' i) : EFe C B T t1 G V c O K t t' e := by
  obtain ⟨t3, a1, a2⟩ := he
  exact ⟨t3, g.trans h.hB h.rw a1 hl, a2⟩
theorem RwS.I {k : Nat} {v : Int32} (h : RwS t B) : RwS (sI t (B + 6) k v) B := h
/-- a number of the finder -/
theorem EFr.I {k : Nat} {v : Int32} (h : ESt C B T t1 G V c O t lk) (hk : k = 3 ∨ k = 4) : EFr B O K t (sI t (B + 6) k v) := by
  have hR := h.rw
  have h2 := h.k2
  refine ⟨Nat.le_refl _, fun _ _ => ⟨rfl, rfl⟩, fun x hx k1 k2 k3 k4 => ⟨fun j => sI_at (fun w => k3 w.1), fun _ => rfl, fun _ _ => rfl⟩, ⟨fun _ => rfl, fun j j1 j2 => sI_at (by omega), fun _ _ e => e⟩, fun i r hi hi2 e => ?_, ⟨Nat.le_refl _, Nat.le_refl _⟩⟩
  obtain ⟨a1, a2, a3, -⟩ := hR.1 i r hi2 e
  exact ⟨sameAt_sI (fun w => by rw [w, h2] at a1; cases a1), sameAt_sI (fun w => by rw [w, h2] at a3; cases a3)⟩
theorem c5 {e : Int32} (h : ESt C B T t1 G V c O t lk) (k : ∀ t', EFe C B T t1 G V c O K t t' (e, lk) → Post (.inr (201, 0)) t') : CalG C mtab (d + 1) 5 [svR (some (B + 6)), svI e] t Post := by
  refine cal5 ⟨h.k2, k _ ⟨_, EFr.I (k := 4) (v := e) h (Or.inr rfl), ?_, sI_eq, rfl⟩⟩
  exact h.go (EFr.I (K := fun _ => False) h (Or.inr rfl)) ((sI_at (by omega)).trans h.2.2.1) h.2.2.2.1 h.rw
/-- look -/
theorem c6 (h : ESt C B T t1 G V c O t lk) (k1 : loE lk = .inl ((), lk + 1) → ∀ t', ESt C B T t1 G V c O t' (lk + 1) → EFr B O K t t' → Post (.inl none) t') (k2 : ∀ e, loE lk = .inr e → ∀ t', EFe C B T t1 G V c O K t t' e → Post (.inr (201, 0)) t') : CalG C mtab (d + 2) 6 [svR (some (B + 6))] t Post := by
  have hl := h.2.2.2.1
  refine cal6 ⟨h.k2, fun e => ⟨h.k2, h.k2, ?_⟩, fun e => ⟨h.k2, ?_⟩⟩
  · rw [h.2.2.1] at e ⊢
    have hlt : lk < 60000 := by
      rcases Nat.lt_or_ge lk 60000 with w | w
      · exact w
      · exact absurd e (nI_nlt (a := lk) (b := 60000) w (by omega))
    rw [nI_1]
    refine k1 (by unfold loE; rw [if_neg (by omega)]) _ (h.go (EFr.I (K := fun _ => False) h (Or.inl rfl)) sI_eq (by omega) h.rw) (EFr.I h (Or.inl rfl))
  · rw [h.2.2.1] at e
    have hge : 60000 ≤ lk := by
      rcases Nat.lt_or_ge lk 60000 with w | w
      · exact absurd (nI_lt (a := lk) (b := 60000) w (by omega)) e
      · exact w
    exact c5 (K := K) h (fun t' he => k2 (-3, lk) (by unfold loE; rw [if_pos hge]) t' he)
/-- a row's kind is its own -/
theorem Rw.ne {r : Nat} {l : List Nat} (h : ESt C B T t1 G V c O t lk) (hr : Rw t G r l) : r ≠ B + 6 ∧ r ≠ B + 7 ∧ r + 1 ≠ B + 6 ∧ r + 1 ≠ B + 7 := by
  have h2 := h.k2
  have h7 := h.1.1.2.2.2.2.2.2.2.2.2.1
  refine ⟨fun w => ?_, fun w => ?_, fun w => ?_, fun w => ?_⟩
  · have := hr.1; rw [w, h2] at this; cases this
  · have := hr.1; rw [w, h7] at this; cases this
  · have := hr.2.2.1; rw [w, h2] at this; cases this
  · have := hr.2.2.1; rw [w, h7] at this; cases this
/-- rows that are kept -/
def Kb (n : Nat) (ri : Nat) : Nat → Prop := fun i => i < n ∧ i ≠ ri
/-- one node more -/
theorem Rw.add {r ri j n : Nat} {l : List Nat} (h : ESt C B T t1 G V c O t lk) (hr : Rw t G r l) (hi : ri < 34) (hri : tR t (B + 7) ri = some r) (hl : l.length < 1000) (ht : t' = sI (sR t (r + 1) l.length (some (gA G j))) r 1 (nI (l.length + 1))) : Rw t' G r (l ++ [j]) ∧ EFr B O (Kb n ri) t t' ∧ ESt C B T t1 G V c O t' lk := by
  obtain ⟨r1, r2, r3, r4, r5, r6, r7, r8⟩ := id hr
  obtain ⟨n1, n2, n3, n4⟩ := hr.ne h
  have hR := h.rw
  subst ht
  have ef : EFr B O (Kb n ri) t (sI (sR t (r + 1) l.length (some (gA G j))) r 1 (nI (l.length + 1))) := by
    refine ⟨Nat.le_refl _, fun _ _ => ⟨rfl, rfl⟩, fun x hx k1 k2 k3 k4 => ⟨fun k => sI_at (fun w => ?_), fun k => ?_, fun _ _ => rfl⟩, ⟨fun k => ?_, fun k _ _ => sI_at (fun w => n1 w.1.symm), fun i r' e => ?_⟩, fun i r' hi1 hi2 e => ?_, ?_⟩
    · rw [w.1, r1] at k1; exact k1 rfl
    · show tR (sR t (r + 1) l.length (some (gA G j))) x k = _
      rw [sR_at (fun w => by rw [w.1, r3] at k2; exact k2 rfl)]
    · show tR (sR t (r + 1) l.length (some (gA G j))) (B + 6) k = _
      rw [sR_at (fun w => n3 w.1.symm)]
    · show tR (sR t (r + 1) l.length (some (gA G j))) (B + 7) i = _
      rw [sR_at (fun w => n4 w.1.symm)]; exact e
    · have hne : r' ≠ r := fun w => by
        rw [w] at e
        exact hR.2 i ri r hi2 hi hi1.2 e hri
      obtain ⟨q1, q2, q3, -⟩ := hR.1 i r' hi2 e
      have e1 : r' ≠ r + 1 := fun w => by rw [w, r3] at q1; cases q1
      have e2 : r' + 1 ≠ r := fun w => by rw [w, r1] at q3; cases q3
      exact ⟨(sameAt_sR e1).trans (sameAt_sI hne), (sameAt_sR (by omega)).trans (sameAt_sI e2)⟩
    · have em : ∀ m, msR (sI (sR t (r + 1) l.length (some (gA G j))) r 1 (nI (l.length + 1))) B m = msR t B m := fun m => by
        induction m with
        | zero => rfl
        | succ m ih =>
          rw [msR, msR, ih]
          have : tR (sI (sR t (r + 1) l.length (some (gA G j))) r 1 (nI (l.length + 1))) (B + 7) m = tR t (B + 7) m := by
            show tR (sR t (r + 1) l.length (some (gA G j))) (B + 7) m = _
            rw [sR_at (fun w => n4 w.1.symm)]
          rw [this]
      rw [em]
      exact ⟨Nat.le_refl _, Nat.le_refl _⟩
  have rws : RwS (sI (sR t (r + 1) l.length (some (gA G j))) r 1 (nI (l.length + 1))) B := by
    have e7 : ∀ i, tR (sI (sR t (r + 1) l.length (some (gA G j))) r 1 (nI (l.length + 1))) (B + 7) i = tR t (B + 7) i := fun i => by
      show tR (sR t (r + 1) l.length (some (gA G j))) (B + 7) i = _
      rw [sR_at (fun w => n4 w.1.symm)]
    refine ⟨fun i r' hi1 e => ?_, fun i k r' h1 h2 h3 e => ?_⟩
    · rw [e7] at e
      obtain ⟨q1, q2, q3, q4, q5⟩ := hR.1 i r' hi1 e
      refine ⟨q1, ?_, q3, q4, q5⟩
      show tR (sR t (r + 1) l.length (some (gA G j))) r' 0 = _
      rw [sR_at (fun w => by rw [w.1, r3] at q1; cases q1)]; exact q2
    · rw [e7] at e ⊢
      exact hR.2 i k r' h1 h2 h3 e
  refine ⟨⟨r1, ?_, r3, r4, r5, ?_, by simp; omega, fun i hi' => ?_⟩, ef, h.go ef ((sI_at (fun w => n1 w.1.symm)).trans h.2.2.1) h.2.2.2.1 rws⟩
  · show tR (sR t (r + 1) l.length (some (gA G j))) r 0 = _
    rw [sR_at (by omega)]; exact r2
  · rw [sI_eq]; simp
  · show tR (sR t (r + 1) l.length (some (gA G j))) (r + 1) i = _
    by_cases e : i = l.length
    · subst e
      rw [sR_eq]; simp [List.getD]
    · have hi2 : i < l.length := by simp at hi'; omega
      rw [sR_at (fun w => e w.2), r8 i hi2]
      simp [List.getD, List.getElem?_append_left hi2]
/-- put -/
theorem c7 {r ri n : Nat} {l : List Nat} {o : Option Nat} (h : ESt C B T t1 G V c O t lk) (hr : Rw t G r l) (hi : ri < 34) (hri : tR t (B + 7) ri = some r) (ho : ∀ j, o = some j → j < c) (k1 : ∀ l', opE l o lk = .inl (l', lk) → ∀ t', ESt C B T t1 G V c O t' lk → EFr B O (Kb n ri) t t' → Rw t' G r l' → tR t' (B + 7) ri = some r → Post (.inl none) t') (k2 : ∀ e, opE l o lk = .inr e → ∀ t', EFe C B T t1 G V c O (Kb n ri) t t' e → Post (.inr (201, 0)) t') : CalG C mtab (d + 2) 7 [svR (some (B + 6)), svR (o.map (gA G)), svR (some r)] t Post := by
  obtain ⟨r1, r2, r3, r4, r5, r6, r7, r8⟩ := id hr
  obtain ⟨n1, n2, n3, n4⟩ := hr.ne h
  refine cal7 ?_
  cases o with
  | none => exact k1 l rfl t h EFr.rfl' hr hri
  | some j =>
    have hj := ho j rfl
    have hnj := (h.nv.1 j hj).1.1
    refine ⟨r1, cal107 ⟨r1, r1, onS r2 ⟨by rw [r3]; decide, by rw [r3]; decide, ?_⟩⟩⟩
    rw [r6, r4]
    refine ⟨fun e => ⟨r1, r1, onS r2 ⟨by rw [r3]; decide, by rw [r3]; decide, ?_, ?_, r1, r1, Or.inr rfl, ?_⟩⟩, fun e => ⟨Or.inl rfl, fun _ => ⟨h.k2, ?_⟩, fun z => absurd rfl z⟩⟩
    · have hl : l.length < 1000 := (nI_ltI (by omega) (by decide)).mp e
      rw [r4]; exact vp_in_nI hl (by decide)
    · show okA (tK t (r + 1)) (tK t (gA G j))
      rw [r3, hnj.2.2]; exact Or.inl ⟨rfl, rfl⟩
    · have hl : l.length < 1000 := (nI_ltI (by omega) (by decide)).mp e
      refine ⟨fun z => absurd z (by decide), fun _ => ?_⟩
      have cl : (nI l.length).toNatClampNeg = l.length := nI_clamp (by omega)
      show Post (.inl none) (sI (sR t (r + 1) (nI l.length).toNatClampNeg (some (gA G j))) r 1 (tI t r 1 + 1))
      rw [r6, nI_1, cl]
      obtain ⟨a1, a2, a3⟩ := hr.add (j := j) (n := n) h hi hri hl rfl
      refine k1 (l ++ [j]) (by show coE l j lk = _; unfold coE; rw [if_neg (by omega)]) _ a3 a2 a1 (a2.2.2.2.1.2.2 ri r hri)
    · have hl : 1000 ≤ l.length := by
        rcases Nat.lt_or_ge l.length 1000 with w | w
        · exact absurd ((nI_ltI (by omega) (by decide)).mpr w) e
        · exact w
      exact c5 (K := Kb n ri) h (fun t' he => k2 (-4, lk) (by show coE l j lk = _; unfold coE; rw [if_pos hl]) t' he)
end CE2
