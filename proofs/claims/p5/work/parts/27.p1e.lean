theorem htK : (∀ t a k x, tN (sI t a k x) = tN t) ∧ (∀ t a k x, tU (sI t a k x) = tU t) ∧ (∀ t a k x, tK (sI t a k x) = tK t) ∧ (∀ t a k x, tL (sI t a k x) = tL t) ∧ (∀ t a k x, tJ (sI t a k x) = tJ t) ∧ (∀ t a k x, tR (sI t a k x) = tR t) ∧
    (∀ t a k x, tN (sJ t a k x) = tN t) ∧ (∀ t a k x, tU (sJ t a k x) = tU t) ∧ (∀ t a k x, tK (sJ t a k x) = tK t) ∧ (∀ t a k x, tL (sJ t a k x) = tL t) ∧ (∀ t a k x, tI (sJ t a k x) = tI t) ∧ (∀ t a k x, tR (sJ t a k x) = tR t) ∧
    (∀ t a k x, tN (sR t a k x) = tN t) ∧ (∀ t a k x, tU (sR t a k x) = tU t) ∧ (∀ t a k x, tK (sR t a k x) = tK t) ∧ (∀ t a k x, tL (sR t a k x) = tL t) ∧ (∀ t a k x, tI (sR t a k x) = tI t) ∧ (∀ t a k x, tJ (sR t a k x) = tJ t) :=
  ⟨fun _ _ _ _ => rfl, fun _ _ _ _ => rfl, fun _ _ _ _ => rfl, fun _ _ _ _ => rfl, fun _ _ _ _ => rfl, fun _ _ _ _ => rfl, fun _ _ _ _ => rfl, fun _ _ _ _ => rfl, fun _ _ _ _ => rfl, fun _ _ _ _ => rfl, fun _ _ _ _ => rfl, fun _ _ _ _ => rfl, fun _ _ _ _ => rfl, fun _ _ _ _ => rfl, fun _ _ _ _ => rfl, fun _ _ _ _ => rfl, fun _ _ _ _ => rfl, fun _ _ _ _ => rfl⟩
section P1E
variable {C : Cx} {d : Nat} {Post : OutT → Ht → Prop} {t : Ht} {M : Nat}
/-! the reference's feed -/
theorem c154 {a : Nat} {x1 x2 x3 x4 x5 : Int32} {v : Nat} (hx : tK t M = 17) (hr : tR t M 2 = some a) (ha : tK t a = 100) (hl : tL t a = 1200) (hne : M ≠ a) (hv : (tI t M 3).toInt = v) (hv4 : v + 20 ≤ 1200)
    (k : ∀ t', TF M a 3 (sI t M 0 0) t' → (tI t' M 3).toInt = ((v + 20 : Nat) : Int) → Post (.inl (some (svI (tI t' M 3)))) t') : CalG C mtab (d + 1) 154 [svR (some M), svI x1, svI x2, svI x3, svI x4, svI x5] t Post := by
  have e20 : (20 : Int32).toInt = 20 := rfl
  have e12 : (1200 : Int32).toInt = 1200 := rfl
  have h20 : (tI t M 3 + (20 : Int32)).toInt = (tI t M 3).toInt + 20 := by rw [i_add (by rw [e20]; omega) (by rw [e20]; omega), e20]
  have e3 : tI (sI t M 0 0) M 3 = tI t M 3 := by simp [ht]
  refine cal154 (fun n l6 t' => ∃ i : Nat, i ≤ 20 ∧ n = 20 - i ∧ l6.toInt = (i : Int) ∧ TF M a 3 (sI t M 0 0) t' ∧ (tI t' M 3).toInt = ((v + i : Nat) : Int)) ?_ ?_
  · unfold vc154 br
    rw [e3, i_le, h20, e12]
    refine ⟨hx, hx, fun _ => ?_, fun e => absurd (by omega) e⟩
    exact ⟨20, rfl, rfl, rfl, rfl, rfl, rfl, 0, by omega, rfl, rfl, TF.rfl', by rw [e3, hv]; rfl⟩
  · intro n l6 t' ⟨i, hi, hn, hl6, hT, ht'⟩
    obtain ⟨g1, g2, g3, g4, g5, g6, g7⟩ := id hT
    have gK : tK t' = tK t := g3
    have gL : tL t' = tL t := g4
    have gR : tR t' = tR t := g5
    have hM : tK t' M = 17 := by rw [gK]; exact hx
    have h1 : (tI t' M 3 + (1 : Int32)).toInt = (tI t' M 3).toInt + 1 := i_add (by show _ ≤ _ + (1 : Int); omega) (by show _ + (1 : Int) < _; omega)
    have h2 : (l6 + (1 : Int32)).toInt = l6.toInt + 1 := i_add (by show _ ≤ _ + (1 : Int); omega) (by show _ + (1 : Int) < _; omega)
    unfold vc154_23 br
    rw [gR, hr]
    have key : i < 20 → ∀ w : Int32, tK t' M = 17 ∧ tK t' M = 17 ∧ (¬ (4 : Int32) = 0) ∧ onR (some a) (fun a1 => tK t' a1 = 100 ∧ vp_in (tI t' M 3) (tL t' a1) ∧ tK (sI t' a1 ((tI t' M 3)).toNatClampNeg w) M = 17 ∧ tK (sI t' a1 ((tI t' M 3)).toNatClampNeg w) M = 17 ∧
        (∃ k, k < n ∧ some M = some M ∧ x1 = x1 ∧ x2 = x2 ∧ x3 = x3 ∧ x4 = x4 ∧ x5 = x5 ∧ ∃ i : Nat, i ≤ 20 ∧ k = 20 - i ∧ (l6 + (1 : Int32)).toInt = (i : Int) ∧ TF M a 3 (sI t M 0 0) (sI (sI t' a1 ((tI t' M 3)).toNatClampNeg w) M 3 ((tI (sI t' a1 ((tI t' M 3)).toNatClampNeg w) M 3) + (1 : Int32))) ∧ (tI (sI (sI t' a1 ((tI t' M 3)).toNatClampNeg w) M 3 ((tI (sI t' a1 ((tI t' M 3)).toNatClampNeg w) M 3) + (1 : Int32))) M 3).toInt = ((v + i : Nat) : Int))) := by
      intro hi2 w
      refine ⟨hM, hM, by decide, by rw [gK]; exact ha, by rw [gL, hl]; exact vp_of (by omega) (by omega), hM, hM, 20 - (i + 1), by omega, rfl, rfl, rfl, rfl, rfl, rfl, i + 1, by omega, rfl, by rw [h2]; omega, hT.trans TF.step, ?_⟩
      simp only [ht, hne, false_and, and_self, if_true, if_false]
      rw [h1]
      omega
    refine ⟨fun e => ⟨hM, k t' hT ?_⟩, fun e => ?_⟩
    · rw [i_le, e20] at e
      have : i = 20 := by omega
      subst this
      exact ht'
    · rw [i_le, e20] at e
      have hi2 : i < 20 := by omega
      exact ⟨fun _ => ⟨fun _ => ⟨fun _ => ⟨fun _ => key hi2 _, fun _ => key hi2 _⟩, fun _ => key hi2 _⟩, fun _ => key hi2 _⟩, fun _ => key hi2 _⟩
theorem m154 {x1 x2 x3 x4 x5 : Int32} (h : FM t M) (k : ∀ t', KM t t' → Post (.inl (some (svI 20))) t') : CalG C mtab (d + 1) 154 [svR (some M), svI x1, svI x2, svI x3, svI x4, svI x5] t Post := by
  unfold FM at h
  refine c154 (a := M + 2) (v := 0) h.1 h.2.2.2.1 h.2.2.2.2.1 h.2.2.2.2.2.1 (by omega) (by simp only [h]; rfl) (by omega) (fun t' T v => ?_)
  have e : tI t' M 3 = 20 := i_eq.mpr (by rw [v]; rfl)
  rw [e]
  exact k t' ⟨T.1, T.2.1⟩
/-! the reference's json and query of a text of no byte -/
def mb0 (t : Ht) (M : Nat) : Ht := sI (sI (sI (sI (sI t M 0 0) M 3 0) M 4 0) M 5 0) M 7 2400
set_option maxHeartbeats 200000 in
theorem m179 {x : Int32} (h : FM t M) (k : ∀ t', KM t t' → Post (.inl (some (svI (if x = 0 then 1 else -1)))) t') : CalG C mtab (d + 5) 179 [svR (some M), svI x] t Post := by
  refine cal179 (fun _ _ _ => False) (fun _ _ _ => False) ?_ (fun _ _ _ hf => hf.elim) (fun _ _ _ hf => hf.elim)
  have h' := h
  unfold FM at h'
  have e3 : tI (sI t M 0 0) M 3 = 0 := by simp [ht, h']
  unfold vc179
  rw [e3]
  simp only [htK]
  refine ⟨h'.1, fun e => ?_, fun e => ⟨h'.1, fun e2 => ?_, fun e2 => ?_⟩⟩
  · have kk := k _ (⟨rfl, rfl⟩ : KM t (sI t M 0 0))
    rw [if_neg (by intro hx; subst hx; exact absurd e (by decide))] at kk
    exact kk
  · have hx : x = 0 := by
      rw [i_lt] at e
      rw [i_le] at e2
      rw [i_eq]
      omega
    subst hx
    refine ⟨h'.1, h'.1, h'.1, h'.1, h'.1, ?_⟩
    rw [h'.2.2.2.2.2.2.1]
    refine ⟨h'.2.2.2.2.2.2.2.1, h'.1, h'.2.2.2.2.2.2.2.1, h'.1, ?_⟩
    have i4 : tI (sI (sI (sI (sI (sI (sI (sI t M 0 0) M 3 0) M 4 0) M 5 0) M 7 2400) (M + 17) 12 0) (M + 17) 13 0) M 4 = 0 := by simp [ht]
    have i5 : tI (sI (sI (sI (sI (sI (sI (sI t M 0 0) M 3 0) M 4 0) M 5 0) M 7 2400) (M + 17) 12 0) (M + 17) 13 0) M 5 = 0 := by simp [ht]
    have K1 : tK (sI (sI (sI (sI (sI (sI (sI t M 0 0) M 3 0) M 4 0) M 5 0) M 7 2400) (M + 17) 12 0) (M + 17) 13 0) = tK t := by simp only [ht]
    have R1 : tR (sI (sI (sI (sI (sI (sI (sI t M 0 0) M 3 0) M 4 0) M 5 0) M 7 2400) (M + 17) 12 0) (M + 17) 13 0) = tR t := by simp only [ht]
    have N1 : tN (sI (sI (sI (sI (sI (sI (sI t M 0 0) M 3 0) M 4 0) M 5 0) M 7 2400) (M + 17) 12 0) (M + 17) 13 0) = tN t := by simp only [ht]
    have U1 : tU (sI (sI (sI (sI (sI (sI (sI t M 0 0) M 3 0) M 4 0) M 5 0) M 7 2400) (M + 17) 12 0) (M + 17) 13 0) = tU t := by simp only [ht]
    generalize (sI (sI (sI (sI (sI (sI (sI t M 0 0) M 3 0) M 4 0) M 5 0) M 7 2400) (M + 17) 12 0) (M + 17) 13 0) = t1 at i4 i5 K1 R1 N1 U1 ⊢
    have hM : tK t1 M = 17 := by rw [K1]; exact h'.1
    have hS : tK t1 (M + 1) = 16 := by rw [K1]; exact h'.2.2.1
    have hR : tR t1 M 1 = some (M + 1) := by rw [R1]; exact h'.2.1
    refine c160e hM (by rw [i4, i5]; decide) ?_
    refine ⟨rfl, hM, ?_⟩
    refine c174e (s := M + 1) hM (by rw [i4, i5]; decide) hR hS ?_
    rw [i5]
    have i6 : tI (sI (sI t1 (M + 1) 6 1) (M + 1) 7 0) (M + 1) 6 = 1 := by simp [ht]
    simp only [aftV, htK, true_and]
    refine ⟨hS, hS, hM, c178 (t := sI (sI t1 (M + 1) 6 1) (M + 1) 7 0) (by simp only [htK]; exact hM) ?_⟩
    rw [i6]
    have kk := k (sI (sI (sI (sI t1 (M + 1) 6 1) (M + 1) 7 0) M 14 1) M 15 (tI (sI (sI t1 (M + 1) 6 1) (M + 1) 7 0) (M + 1) 7)) ⟨by simp only [ht]; exact N1, by simp only [ht]; exact U1⟩
    rw [if_pos rfl] at kk
    exact kk
  · have kk := k _ (⟨rfl, rfl⟩ : KM t (sI t M 0 0))
    rw [if_neg (by intro hx; subst hx; exact absurd (Int32.le_refl 0) e2)] at kk
    exact kk
set_option maxHeartbeats 200000 in
theorem m213 {x : Int32} (h : FM t M) (k : ∀ t', KM t t' → Post (.inl (some (svI (if x = 0 then 1 else -1)))) t') : CalG C mtab (d + 5) 213 [svR (some M), svI x] t Post := by
  refine cal213 (fun _ _ _ => False) (fun _ _ _ => False) ?_ (fun _ _ _ hf => hf.elim) (fun _ _ _ hf => hf.elim)
  have h' := h
  unfold FM at h'
  have e3 : tI (sI t M 0 0) M 3 = 0 := by simp [ht, h']
  unfold vc213
  rw [e3]
  simp only [htK]
  refine ⟨h'.1, fun e => ?_, fun e => ⟨h'.1, fun e2 => ?_, fun e2 => ?_⟩⟩
  · have kk := k _ (⟨rfl, rfl⟩ : KM t (sI t M 0 0))
    rw [if_neg (by intro hx; subst hx; exact absurd e (by decide))] at kk
    exact kk
  · have hx : x = 0 := by
      rw [i_lt] at e
      rw [i_le] at e2
      rw [i_eq]
      omega
    subst hx
    refine ⟨h'.1, h'.1, h'.1, h'.1, h'.1, ?_⟩
    rw [h'.2.2.2.2.2.2.2.2.1]
    refine ⟨h'.2.2.2.2.2.2.2.2.2.1, h'.1, h'.1, h'.1, ?_⟩
    have i4 : tI (sI (sI (sI (sI (sI (sI (sI (sI t M 0 0) M 3 0) M 4 0) M 5 0) M 7 2400) (M + 39) 8 0) M 18 0) M 20 (-1)) M 4 = 0 := by simp [ht]
    have i5 : tI (sI (sI (sI (sI (sI (sI (sI (sI t M 0 0) M 3 0) M 4 0) M 5 0) M 7 2400) (M + 39) 8 0) M 18 0) M 20 (-1)) M 5 = 0 := by simp [ht]
    have K1 : tK (sI (sI (sI (sI (sI (sI (sI (sI t M 0 0) M 3 0) M 4 0) M 5 0) M 7 2400) (M + 39) 8 0) M 18 0) M 20 (-1)) = tK t := by simp only [ht]
    have R1 : tR (sI (sI (sI (sI (sI (sI (sI (sI t M 0 0) M 3 0) M 4 0) M 5 0) M 7 2400) (M + 39) 8 0) M 18 0) M 20 (-1)) = tR t := by simp only [ht]
    have N1 : tN (sI (sI (sI (sI (sI (sI (sI (sI t M 0 0) M 3 0) M 4 0) M 5 0) M 7 2400) (M + 39) 8 0) M 18 0) M 20 (-1)) = tN t := by simp only [ht]
    have U1 : tU (sI (sI (sI (sI (sI (sI (sI (sI t M 0 0) M 3 0) M 4 0) M 5 0) M 7 2400) (M + 39) 8 0) M 18 0) M 20 (-1)) = tU t := by simp only [ht]
    generalize (sI (sI (sI (sI (sI (sI (sI (sI t M 0 0) M 3 0) M 4 0) M 5 0) M 7 2400) (M + 39) 8 0) M 18 0) M 20 (-1)) = t1 at i4 i5 K1 R1 N1 U1 ⊢
    have hM : tK t1 M = 17 := by rw [K1]; exact h'.1
    have hS : tK t1 (M + 1) = 16 := by rw [K1]; exact h'.2.2.1
    have hR : tR t1 M 1 = some (M + 1) := by rw [R1]; exact h'.2.1
    refine c159e (s := M + 1) hM (by rw [i4, i5]; decide) (by decide) hR hS ?_
    rw [i5]
    have i6 : tI (sI (sI t1 (M + 1) 6 1) (M + 1) 7 0) (M + 1) 6 = 1 := by simp [ht]
    simp only [aftV, htK, true_and]
    refine ⟨hS, hS, hM, c178 (t := sI (sI t1 (M + 1) 6 1) (M + 1) 7 0) (by simp only [htK]; exact hM) ?_⟩
    rw [i6]
    have kk := k (sI (sI (sI (sI t1 (M + 1) 6 1) (M + 1) 7 0) M 14 1) M 15 (tI (sI (sI t1 (M + 1) 6 1) (M + 1) 7 0) (M + 1) 7)) ⟨by simp only [ht]; exact N1, by simp only [ht]; exact U1⟩
    rw [if_pos rfl] at kk
    exact kk
  · have kk := k _ (⟨rfl, rfl⟩ : KM t (sI t M 0 0))
    rw [if_neg (by intro hx; subst hx; exact absurd (Int32.le_refl 0) e2)] at kk
    exact kk
end P1E
