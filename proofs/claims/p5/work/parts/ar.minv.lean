/-! THE REFERENCE BETWEEN CALLS -/
def MVal (t : Ht) (M S : Nat) : Prop := (tI t M 12 = 0 ∧ tI t M 24 = 0) ∨ (tI t M 12 ≠ 0 ∧ ∃ V c, RT t S (M + 3) V c 0 1200 ∧ VOK V c ∧ c ≤ 300 ∧ (tI t M 24 = 0 ∨ FdM M c t))
def MQry (t : Ht) (M P : Nat) : Prop := tI t M 13 = 0 ∨ (tI t M 13 ≠ 0 ∧ ∃ (x : QF) (F : Nat → Prop) (us : List Nat), (∀ z, F z → z < 2400) ∧ QM t P (M + 3) 1200 2400 x 1 F us ∧ tI t P 9 = hdI us ∧ gdQ x 1 ∧ fdQ x 1 ≤ 16 ∧ dqQ x 1 ≤ 324)
def MTb (t : Ht) (M S S' P P' : Nat) : Prop := ((S = M + 4 ∧ S' = M + 17) ∨ (S = M + 17 ∧ S' = M + 4)) ∧ ((P = M + 30 ∧ P' = M + 39) ∨ (P = M + 39 ∧ P' = M + 30)) ∧ tR t M 10 = some S ∧ tR t M 11 = some S' ∧ tR t M 16 = some P ∧ tR t M 17 = some P'
def MInv (t : Ht) (M : Nat) : Prop := MFx t M ∧ OuI t M ∧ ∃ S S' P P', MTb t M S S' P P' ∧ MVal t M S ∧ MQry t M P
/-- outside of the reference's cells nothing has changed -/
def MOu (M : Nat) (t t' : Ht) : Prop := tN t' = tN t ∧ tU t' = tU t ∧ (∀ x, (x < M ∨ M + 51 < x) → sameAt t t' x) ∧ tK t' = tK t ∧ tL t' = tL t
section MIN
variable {C : Cx} {d E : Nat} {Post : OutT → Ht → Prop} {t t' t2 : Ht} {M S S' P P' tp : Nat} {b : By}
theorem MVal.fr (h : MVal t M S) (hS : S = M + 4 ∨ S = M + 17) (h12 : tI t' M 12 = tI t M 12) (h24 : tI t' M 24 = tI t M 24) (hI : ∀ x k, S ≤ x → x ≤ S + 12 → tI t' x k = tI t x k) (hJ : ∀ k, tJ t' (S + 12) k = tJ t (S + 12) k) (hch : ∀ k, k < 1200 → tI t' (M + 3) k = tI t (M + 3) k) (h48 : ∀ k, tI t' (M + 48) k = tI t (M + 48) k) : MVal t' M S := by
  rcases h with ⟨h1, h2⟩ | ⟨h1, V, c, h2, h3, h4, h5⟩
  · exact Or.inl ⟨h12.trans h1, h24.trans h2⟩
  · refine Or.inr ⟨by rw [h12]; exact h1, V, c, h2.to ⟨fun k j a1 a2 _ => hI _ _ (by omega) (by omega), fun j _ => hJ _, hch⟩ (Nat.le_refl _), h3, h4, ?_⟩
    rcases h5 with h5 | ⟨l, l1, l2, l3, l4⟩
    · exact Or.inl (h24.trans h5)
    · exact Or.inr ⟨l, l1, l2, h24.trans l3, fun k hk => (h48 k).trans (l4 k hk)⟩
/-- what was found is forgotten -/
theorem MVal.z (h : MVal t M S) (hS : S = M + 4 ∨ S = M + 17) (h12 : tI t' M 12 = tI t M 12) (h24 : tI t' M 24 = 0) (hI : ∀ x k, S ≤ x → x ≤ S + 12 → tI t' x k = tI t x k) (hJ : ∀ k, tJ t' (S + 12) k = tJ t (S + 12) k) (hch : ∀ k, k < 1200 → tI t' (M + 3) k = tI t (M + 3) k) : MVal t' M S := by
  rcases h with ⟨h1, h2⟩ | ⟨h1, V, c, h2, h3, h4, h5⟩
  · exact Or.inl ⟨h12.trans h1, h24⟩
  · exact Or.inr ⟨by rw [h12]; exact h1, V, c, h2.to ⟨fun k j a1 a2 _ => hI _ _ (by omega) (by omega), fun j _ => hJ _, hch⟩ (Nat.le_refl _), h3, h4, Or.inl h24⟩
theorem QM.fr2 {x : QF} {m : Nat} {F : Nat → Prop} {us : List Nat} (h : QM t P (M + 3) 1200 2400 x m F us) (hI : ∀ y k, P ≤ y → y ≤ P + 8 → tI t' y k = tI t y k) (hJ : ∀ y k, P ≤ y → y ≤ P + 8 → tJ t' y k = tJ t y k) (hch : ∀ k, 1200 ≤ k → k < 2400 → tI t' (M + 3) k = tI t (M + 3) k) : QM t' P (M + 3) 1200 2400 x m F us := by
  have e0 : ∀ y : Int32, y - nI 0 = y := fun y => Int32.sub_zero y
  refine QM.map (sh := 0) (fun p cs hc => ⟨hc.eq (Nat.le_refl _) (fun k h1 h2 => hch k h1 h2), Nat.zero_le _⟩) x m F us h (fun z _ => ⟨hI _ _ (by omega) (by omega), ?_, hI _ _ (by omega) (by omega), hI _ _ (by omega) (by omega), hJ _ _ (by omega) (by omega), hJ _ _ (by omega) (by omega), hJ _ _ (by omega) (by omega)⟩) (fun z _ _ => hI _ _ (by omega) (by omega))
  rw [e0, ite_self]
  exact hI _ _ (by omega) (by omega)
theorem MQry.fr (h : MQry t M P) (h13 : tI t' M 13 = tI t M 13) (hI : ∀ y k, P ≤ y → y ≤ P + 8 → tI t' y k = tI t y k) (hJ : ∀ y k, P ≤ y → y ≤ P + 8 → tJ t' y k = tJ t y k) (hch : ∀ k, 1200 ≤ k → k < 2400 → tI t' (M + 3) k = tI t (M + 3) k) : MQry t' M P := by
  rcases h with h | ⟨h1, x, F, us, h2, h3, h4, h5⟩
  · exact Or.inl (h13.trans h)
  · exact Or.inr ⟨by rw [h13]; exact h1, x, F, us, h2, h3.fr2 hI hJ hch, (hI P 9 (by omega) (by omega)).trans h4, h5⟩
theorem MFx.fr (h : MFx t M) (hK : ∀ x, M ≤ x → x ≤ M + 51 → tK t' x = tK t x ∧ tL t' x = tL t x) (hR : ∀ x k, M < x → x ≤ M + 51 → tR t' x k = tR t x k) (hM : ∀ k, k ≠ 10 → k ≠ 11 → k ≠ 16 → k ≠ 17 → tR t' M k = tR t M k) : MFx t' M := by
  obtain ⟨⟨a1, a2, a3, a4, a5, a6, a7, a8, a9⟩, ⟨b1, ⟨b2, b3, b4⟩, ⟨b5, b6, b7⟩, b8, b9, b10⟩, ⟨c1, c2, c3⟩, ⟨d1, d2⟩, e1, e2⟩ := h
  refine ⟨⟨(hK _ (by omega) (by omega)).1.trans a1, (hM _ (by decide) (by decide) (by decide) (by decide)).trans a2, (hK _ (by omega) (by omega)).1.trans a3, (hM _ (by decide) (by decide) (by decide) (by decide)).trans a4, (hK _ (by omega) (by omega)).1.trans a5, (hK _ (by omega) (by omega)).2.trans a6, (hM _ (by decide) (by decide) (by decide) (by decide)).trans a7, (hK _ (by omega) (by omega)).1.trans a8, (hK _ (by omega) (by omega)).2.trans a9⟩, ⟨(hK _ (by omega) (by omega)).1.trans b1, ⟨(hM _ (by decide) (by decide) (by decide) (by decide)).trans b2, (hK _ (by omega) (by omega)).1.trans b3, (hK _ (by omega) (by omega)).2.trans b4⟩, ⟨(hM _ (by decide) (by decide) (by decide) (by decide)).trans b5, (hK _ (by omega) (by omega)).1.trans b6, (hK _ (by omega) (by omega)).2.trans b7⟩, (hM _ (by decide) (by decide) (by decide) (by decide)).trans b8, (hK _ (by omega) (by omega)).1.trans b9, (hK _ (by omega) (by omega)).2.trans b10⟩, ⟨(hM _ (by decide) (by decide) (by decide) (by decide)).trans c1, (hK _ (by omega) (by omega)).1.trans c2, (hK _ (by omega) (by omega)).2.trans c3⟩, ⟨d1.go (fun x h1 h2 => hK x (by omega) (by omega)) (fun j => hR _ _ (by omega) (by omega)), d2.go (fun x h1 h2 => hK x (by omega) (by omega)) (fun j => hR _ _ (by omega) (by omega))⟩, e1.go (fun x h1 h2 => hK x (by omega) (by omega)) (fun j => hR _ _ (by omega) (by omega)), e2.go (fun x h1 h2 => hK x (by omega) (by omega)) (fun j => hR _ _ (by omega) (by omega))⟩
theorem MTb.fr (h : MTb t M S S' P P') (hM : ∀ k, tR t' M k = tR t M k) : MTb t' M S S' P P' := by
  obtain ⟨h1, h2, h3, h4, h5, h6⟩ := h
  exact ⟨h1, h2, (hM _).trans h3, (hM _).trans h4, (hM _).trans h5, (hM _).trans h6⟩
/-- calls that leave value, query and what was found -/
theorem MInv.gen (h : MInv t M) (hK : ∀ x, M ≤ x → x ≤ M + 51 → tK t' x = tK t x ∧ tL t' x = tL t x ∧ ∀ k, tR t' x k = tR t x k) (hJ : ∀ x k, M < x → x ≤ M + 51 → tJ t' x k = tJ t x k) (hI : ∀ x k, M + 3 ≤ x → x ≤ M + 48 → tI t' x k = tI t x k) (h12 : tI t' M 12 = tI t M 12) (h13 : tI t' M 13 = tI t M 13) (h24 : tI t' M 24 = tI t M 24) (hU : OuI t' M) : MInv t' M := by
  obtain ⟨f, -, S, S', P, P', hT, hV, hQ⟩ := h
  have hT' := hT
  obtain ⟨hs, hp, -⟩ := hT'
  refine ⟨f.fr (fun x h1 h2 => ⟨(hK x h1 h2).1, (hK x h1 h2).2.1⟩) (fun x k h1 h2 => (hK x (by omega) h2).2.2 k) (fun k _ _ _ _ => (hK M (by omega) (by omega)).2.2 k), hU, S, S', P, P', hT.fr (fun k => (hK M (by omega) (by omega)).2.2 k), hV.fr (by omega) h12 h24 (fun x k h1 h2 => hI x k (by omega) (by omega)) (fun k => hJ _ _ (by omega) (by omega)) (fun k _ => hI _ _ (by omega) (by omega)) (fun k => hI _ _ (by omega) (by omega)), hQ.fr h13 (fun x k h1 h2 => hI x k (by omega) (by omega)) (fun x k h1 h2 => hJ x k (by omega) (by omega)) (fun k _ _ => hI _ _ (by omega) (by omega))⟩
theorem OuI.fr (h : OuI t M) (e : tI t' M 35 = tI t M 35) : OuI t' M := by
  obtain ⟨o, h1, h2⟩ := h
  exact ⟨o, e.trans h1, h2⟩
/-- a call of the class -/
theorem MInv.sm (h : MInv t M) (hs : ∀ x, M ≤ x → x ≤ M + 51 → sameAt t t' x) : MInv t' M :=
  h.gen (fun x h1 h2 => ⟨(hs x h1 h2).1, (hs x h1 h2).2.1, (hs x h1 h2).2.2.2.2⟩) (fun x k h1 h2 => (hs x (by omega) h2).2.2.2.1 k) (fun x k h1 h2 => (hs x (by omega) (by omega)).2.2.1 k) ((hs M (by omega) (by omega)).2.2.1 _) ((hs M (by omega) (by omega)).2.2.1 _) ((hs M (by omega) (by omega)).2.2.1 _) (h.2.1.fr ((hs M (by omega) (by omega)).2.2.1 _))
theorem MInv.mu (h : MInv t M) (g : MUw M t t') (hU : OuI t' M) : MInv t' M := by
  obtain ⟨g1, g2, g3, g4, g5, g6, g7⟩ := g
  exact h.gen (fun x _ _ => ⟨by rw [g3], by rw [g4], fun k => by rw [g5]⟩) (fun x k _ _ => g6 x k) (fun x k h1 h2 => g7 x k (Or.inl (by omega)) (by omega) (by omega)) (g7 _ _ (by omega) (by omega) (by omega)) (g7 _ _ (by omega) (by omega) (by omega)) (g7 _ _ (by omega) (by omega) (by omega)) hU
theorem MUw.ou (g : MUw M t t') : MOu M t t' := by
  obtain ⟨g1, g2, g3, g4, g5, g6, g7⟩ := g
  exact ⟨g1, g2, fun x hx => ⟨by rw [g3], by rw [g4], fun k => g7 x k (Or.inl (by omega)) (by omega) (by omega), fun k => g6 x k, fun k => by rw [g5]⟩, g3, g4⟩
theorem MInv.fd (h : MInv t M) : ∃ S P V c, FdI t M S P V c := by
  obtain ⟨f, -, S, S', P, P', hT, hV, hQ⟩ := h
  obtain ⟨hs, hp, t1, t2, t3, t4⟩ := hT
  refine ⟨S, P, ?_⟩
  rcases hV with ⟨h1, h2⟩ | ⟨h1, V, c, h2, h3, h4, h5⟩
  · exact ⟨fun _ => eMk 0 none 0 0 [] 0, 0, f.2.1, Or.inl h2⟩
  · refine ⟨V, c, f.2.1, ?_⟩
    rcases h5 with h5 | h5
    · exact Or.inl h5
    · refine Or.inr ⟨⟨⟨f.1.1, ⟨f.1.2.1, f.1.2.2.1⟩, ⟨f.1.2.2.2.2.2.2.1, f.1.2.2.2.2.2.2.2.1, f.1.2.2.2.2.2.2.2.2⟩, ⟨t1, ?_⟩, ⟨t3, ?_⟩, f.2.2.1, by omega, by omega⟩, h2, fun i hi => ⟨(h3.2.1 i hi).1, (h3.2.1 i hi).2.1, (h3.2.1 i hi).2.2.1⟩, h3.1, h4⟩, h3, h5⟩
      · rcases hs with ⟨e, -⟩ | ⟨e, -⟩
        · rw [e]; exact f.2.2.2.1.1
        · rw [e]; exact f.2.2.2.1.2
      · rcases hp with ⟨e, -⟩ | ⟨e, -⟩
        · rw [e]; exact f.2.2.2.2.1
        · rw [e]; exact f.2.2.2.2.2
/-- find -/
theorem jFind (h : MInv t M) (k : ∀ r t', MInv t' M → MOu M t t' → (∀ k, tI t' (M + 2) k = tI t (M + 2) k) → (∀ k, k = 3 ∨ k = 14 ∨ k = 15 → tI t' M k = tI t M k) → Post (.inl (some (svI r))) t') : CalG C mtab (d + 1105) 234 [svR (some M)] t Post := by
  have h0 := h
  obtain ⟨f, hU, S, S', P, P', hT, hV, hQ⟩ := h
  have hT' := hT
  obtain ⟨hs, hp, t1, t2, t3, t4⟩ := hT'
  have none0 : Post (.inl (some (svI (-1 : Int32)))) (sI t M 0 0) := by
    have g : MUw M t (sI t M 0 0) := MUw.of (MU.I (Or.inl rfl))
    exact k _ _ (h0.mu g (hU.fr (sI_at (by omega)))) g.ou (fun k => sI_at (by omega)) (fun k hk => sI_at (by omega))
  by_cases h12 : tI t M 12 = 0
  · exact mFind0 (d := d + 1104) f.1.1 (Or.inl h12) none0
  by_cases h13 : tI t M 13 = 0
  · exact mFind0 (d := d + 1104) f.1.1 (Or.inr h13) none0
  obtain ⟨-, V, c, v2, v3, v4, -⟩ := hV.resolve_left (fun z => h12 z.1)
  obtain ⟨-, x, F, us, q2, q3, q4, q5, q6, q7⟩ := hQ.resolve_left h13
  have hSr : RwM t S := by
    rcases hs with ⟨e, -⟩ | ⟨e, -⟩
    · rw [e]; exact f.2.2.2.1.1
    · rw [e]; exact f.2.2.2.1.2
  have hPr : PaM t P := by
    rcases hp with ⟨e, -⟩ | ⟨e, -⟩
    · rw [e]; exact f.2.2.2.2.1
    · rw [e]; exact f.2.2.2.2.2
  have H : G0 t M S P V c := ⟨⟨f.1.1, ⟨f.1.2.1, f.1.2.2.1⟩, ⟨f.1.2.2.2.2.2.2.1, f.1.2.2.2.2.2.2.2.1, f.1.2.2.2.2.2.2.2.2⟩, ⟨t1, hSr⟩, ⟨t3, hPr⟩, f.2.2.1, by omega, by omega⟩, v2, fun i hi => ⟨(v3.2.1 i hi).1, (v3.2.1 i hi).2.1, (v3.2.1 i hi).2.2.1⟩, v3.1, v4⟩
  refine mFind1 H f.2.1.2.2.2 h12 h13 q2 q3 q4 q5 q6 q7 (fun r t' g g0 gd => ?_)
  obtain ⟨g1, g2, g3, g4, g5, g6, g7⟩ := g
  have gI : ∀ x k, M + 2 ≤ x → x ≤ M + 47 → tI t' x k = tI t x k := fun x k h1 h2 => g7 x k (Or.inl (by omega)) (Or.inl (by omega)) (by omega) (by omega)
  have gM : ∀ k, 1 ≤ k → k < 23 → tI t' M k = tI t M k := fun k h1 h2 => g7 M k (Or.inr (Or.inl ⟨h1, h2⟩)) (Or.inl (by omega)) (by omega) (by omega)
  refine k r t' ⟨f.fr (fun x _ _ => ⟨by rw [g3], by rw [g4]⟩) (fun x k _ _ => by rw [g5]) (fun k _ _ _ _ => by rw [g5]), hU.fr (g7 M 35 (Or.inr (Or.inr (by decide))) (Or.inl (by omega)) (by omega) (by omega)), S, S', P, P', hT.fr (fun k => by rw [g5]), Or.inr ⟨by rw [gM 12 (by decide) (by decide)]; exact h12, V, c, v2.to ⟨fun k j a1 a2 _ => gI _ _ (by omega) (by omega), fun j _ => g6 _ _ (Or.inl (by omega)), fun k _ => gI _ _ (by omega) (by omega)⟩ (Nat.le_refl _), v3, v4, Or.inr gd⟩, hQ.fr (gM 13 (by decide) (by decide)) (fun x k h1 h2 => gI x k (by omega) (by omega)) (fun x k h1 h2 => g6 x k (Or.inl (by omega))) (fun k _ _ => gI _ _ (by omega) (by omega))⟩ ⟨g1, g2, fun x hx => ⟨by rw [g3], by rw [g4], fun k => g7 x k (Or.inl (by omega)) (Or.inl (by omega)) (by omega) (by omega), fun k => g6 x k (Or.inl (by omega)), fun k => by rw [g5]⟩, g3, g4⟩ (fun k => gI _ _ (by omega) (by omega)) (fun k hk => gM k (by omega) (by omega))
end MIN
