/-! THE REFERENCE'S READING OF A QUERY: its small methods -/
/-- a new part -/
def NPt (t : Ht) (P a : Nat) (kd : Int32) : Prop := tI t (P + 1) a = kd ∧ tI t (P + 2) a = -1 ∧ tI t (P + 3) a = -1 ∧ tI t (P + 4) a = -1 ∧ tI t (P + 5) a = 0
section MQ1
variable {C : Cx} {d : Nat} {Post : OutT → Ht → Prop} {t t1 t' : Ht} {M P : Nat} {b : By} {n i q c o i' q' c' o' : Nat} {L L' : LT} {X : List Nat}
theorem PS.K (h : PS t M P b n i q c o L) : tK t M = 17 := h.1.1.1
theorem PS.r17 (h : PS t M P b n i q c o L) : tR t M 17 = some P := h.2.2.1.2.1
theorem PS.k14 (h : PS t M P b n i q c o L) : tK t P = 14 := h.2.2.1.2.2.1
theorem PS.a0 (h : PS t M P b n i q c o L) : tR t P 0 = some (P + 1) ∧ tK t (P + 1) = 101 ∧ tL t (P + 1) = 2400 := ⟨(h.2.2.1.2.2.2.1 0 (by omega)).1, h.2.2.1.2.2.2.2.1 0 (by omega), (h.2.2.1.2.2.2.1 0 (by omega)).2⟩
theorem PS.a1 (h : PS t M P b n i q c o L) : tR t P 1 = some (P + 2) ∧ tK t (P + 2) = 101 ∧ tL t (P + 2) = 2400 := ⟨(h.2.2.1.2.2.2.1 1 (by omega)).1, h.2.2.1.2.2.2.2.1 1 (by omega), (h.2.2.1.2.2.2.1 1 (by omega)).2⟩
theorem PS.a2 (h : PS t M P b n i q c o L) : tR t P 2 = some (P + 3) ∧ tK t (P + 3) = 101 ∧ tL t (P + 3) = 2400 := ⟨(h.2.2.1.2.2.2.1 2 (by omega)).1, h.2.2.1.2.2.2.2.1 2 (by omega), (h.2.2.1.2.2.2.1 2 (by omega)).2⟩
theorem PS.a3 (h : PS t M P b n i q c o L) : tR t P 3 = some (P + 4) ∧ tK t (P + 4) = 101 ∧ tL t (P + 4) = 2400 := ⟨(h.2.2.1.2.2.2.1 3 (by omega)).1, h.2.2.1.2.2.2.2.1 3 (by omega), (h.2.2.1.2.2.2.1 3 (by omega)).2⟩
theorem PS.a4 (h : PS t M P b n i q c o L) : tR t P 4 = some (P + 5) ∧ tK t (P + 5) = 101 ∧ tL t (P + 5) = 2400 := ⟨(h.2.2.1.2.2.2.1 4 (by omega)).1, h.2.2.1.2.2.2.2.1 4 (by omega), (h.2.2.1.2.2.2.1 4 (by omega)).2⟩
theorem PS.a5 (h : PS t M P b n i q c o L) : tR t P 5 = some (P + 6) ∧ tK t (P + 6) = 102 ∧ tL t (P + 6) = 2400 := ⟨(h.2.2.1.2.2.2.1 5 (by omega)).1, h.2.2.1.2.2.2.2.2 0 (by omega), (h.2.2.1.2.2.2.1 5 (by omega)).2⟩
theorem PS.a6 (h : PS t M P b n i q c o L) : tR t P 6 = some (P + 7) ∧ tK t (P + 7) = 102 ∧ tL t (P + 7) = 2400 := ⟨(h.2.2.1.2.2.2.1 6 (by omega)).1, h.2.2.1.2.2.2.2.2 1 (by omega), (h.2.2.1.2.2.2.1 6 (by omega)).2⟩
theorem PS.a7 (h : PS t M P b n i q c o L) : tR t P 7 = some (P + 8) ∧ tK t (P + 8) = 102 ∧ tL t (P + 8) = 2400 := ⟨(h.2.2.1.2.2.2.1 7 (by omega)).1, h.2.2.1.2.2.2.2.2 2 (by omega), (h.2.2.1.2.2.2.1 7 (by omega)).2⟩
theorem vin (h : PS t M P b n i q c o L) {z : Nat} (hz : z < 2400) : vp_in (nI z) 2400 := vp_in_nI hz (by decide)
/-- the number of parts -/
theorem GO.cn {c1 : Nat} (h : GO M P b n X t i q c t' i' q' c' o' L') (h1 : c ≤ c1) (h2 : c1 ≤ 2400) : GO M P b n X t i q c (sI t' P 8 (nI c1)) i' q' c1 o' L' := by
  obtain ⟨g1, g2, g3, g4, g5, g6⟩ := h
  have hP := g1.2.2.1.1
  have hv : MV M P t' (sI t' P 8 (nI c1)) := MV.I (by omega)
  refine ⟨g1.of hv ?_ ?_ sI_eq ?_ ⟨fun z => ?_, fun z => ⟨?_, ?_⟩⟩ g1.2.1 g1.2.2.2.2.2.1 g1.2.2.2.2.2.2.1 h2, g2.trans hv, g3.trans (TGm.I (Or.inl (by omega)) (Or.inl (by omega))) (Nat.le_refl _) (Nat.le_refl _) (fun z hz => Or.inl hz), g4, g5, h1⟩
  · rw [sI_at (by omega)]; exact g1.at
  · rw [sI_at (by omega)]; exact g1.1.2.2.2.2
  · rw [sI_at (by omega)]; exact g1.2.2.2.1.2
  · rw [sI_at (by omega)]; exact g1.2.2.2.2.1.1 z
  · rw [sI_at (by omega)]; exact (g1.2.2.2.2.1.2 z).1
  · rw [sI_at (by omega)]; exact (g1.2.2.2.2.1.2 z).2
/-- part -/
theorem m181 {kd : Int32} (h : PS t M P b n i q c o L) (hc : c < 2400) (k : ∀ t2, GO M P b n [] t i q c t2 i q (c + 1) o L → NPt t2 P c kd → (∀ j, tI t2 M j = tI t M j) → Post (.inl (some (svI (nI c)))) t2) : CalG C mtab (d + 1) 181 [svR (some M), svI kd] t Post := by
  have hP := h.2.2.1.1
  have v : vp_in (nI c) 2400 := vin h hc
  have cl : (nI c).toNatClampNeg = c := nI_clamp (by omega)
  refine cal181 ?_
  unfold vc181
  refine ⟨h.K, onS h.r17 ⟨h.k14, h.K, onS h.r17 ⟨h.k14, onS h.r17 ⟨h.k14, h.K, onS h.r17 ⟨h.k14, onS h.a0.1 ⟨h.a0.2.1, ?_, ?_⟩⟩⟩⟩⟩⟩
  · show vp_in (tI t P 8) (tL t (P + 1)); rw [h.2.2.2.1.1, h.a0.2.2]; exact v
  rw [h.2.2.2.1.1, nI_1, cl]
  refine ⟨h.K, onS h.r17 ⟨h.k14, onS h.a1.1 ⟨h.a1.2.1, ?_, h.K, onS h.r17 ⟨h.k14, onS h.a2.1 ⟨h.a2.2.1, ?_, h.K, onS h.r17 ⟨h.k14, onS h.a3.1 ⟨h.a3.2.1, ?_, h.K, onS h.r17 ⟨h.k14, onS h.a4.1 ⟨h.a4.2.1, ?_, ?_⟩⟩⟩⟩⟩⟩⟩⟩⟩
  · show vp_in (nI c) (tL t (P + 2)); rw [h.a1.2.2]; exact v
  · show vp_in (nI c) (tL t (P + 3)); rw [h.a2.2.2]; exact v
  · show vp_in (nI c) (tL t (P + 4)); rw [h.a3.2.2]; exact v
  · show vp_in (nI c) (tL t (P + 5)); rw [h.a4.2.2]; exact v
  refine k _ (((((((GO.rfl' (X := []) h).cn (c1 := c + 1) (by omega) (by omega)).I (Or.inl (by omega))).I (Or.inl (by omega))).I (Or.inl (by omega))).I (Or.inl (by omega))).I (Or.inl (by omega))) ⟨?_, ?_, ?_, ?_, sI_eq⟩ (fun j => ?_)
  · rw [sI_at (by omega), sI_at (by omega), sI_at (by omega), sI_at (by omega)]; exact sI_eq
  · rw [sI_at (by omega), sI_at (by omega), sI_at (by omega)]; exact sI_eq
  · rw [sI_at (by omega), sI_at (by omega)]; exact sI_eq
  · rw [sI_at (by omega)]; exact sI_eq
  · rw [sI_at (by omega), sI_at (by omega), sI_at (by omega), sI_at (by omega), sI_at (by omega), sI_at (by omega)]
theorem nI_m1 {x : Nat} (h : x < 2 ^ 31) : ¬ nI x = -1 := fun e => by
  have h1 : ¬ nI x < 0 := nI_pos h
  rw [e] at h1
  exact h1 (by decide)
/-- late -/
theorem m182 {kk p : Nat} (h : PS t M P b n i q c o L) (h1 : kk ≤ 4) (h0 : 0 < kk) (h2 : p ≤ 1200) (k : ∀ t2, GO M P b n [] t i q c t2 i q c o (noteL L kk p) → (∀ x j, x ≠ M ∨ (j ≠ 19 ∧ j ≠ 20) → tI t2 x j = tI t x j) → tJ t2 = tJ t → Post (.inl none) t2) : CalG C mtab (d + 1) 182 [svR (some M), svI (nI kk), svI (nI p)] t Post := by
  have hP := h.2.2.1.1
  have hn := h.hn
  have wr : (L.1 = 0 ∨ p < L.2) → Post (.inl none) (sI (sI t M 19 (nI kk)) M 20 (nI p)) := fun e => by
    have hv : MV M P t (sI (sI t M 19 (nI kk)) M 20 (nI p)) := (MV.I (by omega)).trans (MV.I (by omega))
    have eL : noteL L kk p = (kk, p) := if_pos e
    refine k _ ⟨?_, hv, (TGm.I (q := q) (c := c) (Or.inl (by omega)) (Or.inl (by omega))).trans (TGm.I (X := []) (q := q) (c := c) (Or.inl (by omega)) (Or.inl (by omega))) (Nat.le_refl _) (Nat.le_refl _) (fun z hz => by cases hz), Nat.le_refl _, Nat.le_refl _, Nat.le_refl _⟩ (fun x j hx => ?_) rfl
    · rw [eL]
      refine h.of hv ?_ ?_ ?_ ?_ ⟨fun z => absurd z (by show ¬ kk = 0; omega), fun _ => ⟨?_, sI_eq⟩⟩ h.2.1 h.2.2.2.2.2.1 ⟨h.2.2.2.2.2.2.1.1, h1, h2⟩ h.2.2.2.2.2.2.2
      · rw [sI_at (by omega), sI_at (by omega)]; exact h.at
      · rw [sI_at (by omega), sI_at (by omega)]; exact h.1.2.2.2.2
      · rw [sI_at (by omega), sI_at (by omega)]; exact h.2.2.2.1.1
      · rw [sI_at (by omega), sI_at (by omega)]; exact h.2.2.2.1.2
      · rw [sI_at (by omega)]; exact sI_eq
    · rw [sI_at (by omega), sI_at (by omega)]
  have hl := h.2.2.2.2.1
  have hlb := h.2.2.2.2.2.2.1.2
  refine cal182 ⟨h.K, fun e => ⟨h.K, h.K, wr ?_⟩, fun e => ⟨h.K, fun e2 => ⟨h.K, h.K, wr ?_⟩, fun e2 => ?_⟩⟩
  · by_cases z : L.1 = 0
    · exact Or.inl z
    · rw [(hl.2 z).2] at e
      exact absurd e (nI_m1 (by omega))
  · by_cases z : L.1 = 0
    · exact Or.inl z
    · rw [(hl.2 z).2] at e2
      right
      rcases Nat.lt_or_ge p L.2 with w | w
      · exact w
      · exact absurd e2 (nI_nlt w (by omega))
  · have z : ¬ L.1 = 0 := fun z => e (hl.1 z)
    have eL : noteL L kk p = L := if_neg (fun w => by
      rcases w with w | w
      · exact z w
      · rw [(hl.2 z).2] at e2
        exact e2 (nI_lt w (by omega)))
    exact k t (by rw [eL]; exact GO.rfl' h) (fun _ _ _ => rfl) rfl
/-- opens -/
theorem m183 (h : PS t M P b n i q c o L) (k1 : o < 16 → GO M P b n [] t i q c (sI t M 18 (nI (o + 1))) i q c (o + 1) L → Post (.inl none) (sI t M 18 (nI (o + 1)))) (k2 : o = 16 → ∀ t', FQ M P t t' 4 i → Post (.inr (16, M + 1)) t') : CalG C mtab (d + 2) 183 [svR (some M)] t Post := by
  have ho := h.2.2.2.2.2.2.1.1
  refine cal183 ⟨h.K, fun e => ⟨h.K, h.K, ?_⟩, fun e => ⟨h.K, h.K, ?_⟩⟩
  · rw [h.at]
    have e2 : o = 16 := by
      rw [h.2.2.2.1.2] at e
      exact (nI_eq (b := 16) (by omega) (by decide)).mp e
    exact c153 (s := M + 1) h.K h.1.1.2.1 h.1.1.2.2.1 ⟨h.1.1.2.2.1, k2 e2 _ FQ.told⟩
  · rw [h.2.2.2.1.2] at e ⊢
    rw [nI_1]
    have e2 : o < 16 := by
      rcases Nat.lt_or_ge o 16 with w | w
      · exact w
      · exact absurd (by rw [show o = 16 by omega]; rfl) e
    exact k1 e2 ((GO.rfl' h).op (by omega))
/-- blanks -/
theorem mqB (h : GO M P b n X t i q c t' i' q' c' o' L') (k : GO M P b n X t i q c (sI t' M 5 (nI (sk b n i'))) (sk b n i') q' c' o' L' → Post (.inl none) (sI t' M 5 (nI (sk b n i')))) : CalG C mtab (d + 4) 160 [svR (some M)] t' Post := by
  have lo := sk_lo (b := b) (n := n) (i := i')
  have := h.1.2.2.2.2.2.1
  have := h.2.2.2.1
  exact m160 h.1.1.1 h.1.2.1 (k (h.to (by omega) (sk_le h.1.2.1) (by omega)))
/-- is -/
theorem mqI {x : Int32} (h : PS t M P b n i q c o L) (k1 : pk b n i = x → Post (.inl (some (svI 1))) t) (k2 : ¬ pk b n i = x → Post (.inl (some (svI 0))) t) : CalG C mtab (d + 3) 157 [svR (some M), svI x] t Post := by
  refine m157 h.1.1 ?_
  by_cases e : pk b n i = x
  · rw [decide_eq_true e]; exact k1 e
  · rw [decide_eq_false e]; exact k2 e
/-- need -/
theorem mqN {x : Int32} (hx : ¬ x < 0) (h : GO M P b n X t i q c t' i' q' c' o' L') (k1 : pk b n i' = x → GO M P b n X t i q c (sI t' M 5 (nI (i' + 1))) (i' + 1) q' c' o' L' → Post (.inl none) (sI t' M 5 (nI (i' + 1)))) (k2 : ¬ pk b n i' = x → ∀ t2, FQ M P t t2 1 i' → Post (.inr (16, M + 1)) t2) : CalG C mtab (d + 4) 159 [svR (some M), svI x] t' Post := by
  refine m159 h.1.1.1 (fun e => k1 e (h.to ?_ ?_ ?_)) (fun e => k2 e _ (FQ.of h FQ.told))
  · have := h.2.2.2.1; omega
  · exact (pk_nn e hx).1
  · have := h.1.2.2.2.2.2.1; omega
/-- bad -/
theorem mqF {g : Nat → Nat → Ht → Prop} (h : GO M P b n X t i q c t' i' q' c' o' L') (k : ∀ t2, FQ M P t t2 1 i' → Post (.inr (16, M + 1)) t2) : CalG C mtab (d + 2) 158 [svR (some M)] t' (aftV (fun v t2 => rR v (fun x => onR x (fun a => tK t2 a = 16 ∧ Post (.inr (16, a)) t2))) g) :=
  mBad h.1.1.1 (k _ (FQ.of h FQ.told))
end MQ1
