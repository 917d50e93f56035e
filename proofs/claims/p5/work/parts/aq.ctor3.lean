/-! THE REFERENCE AS IT IS MADE -/
section CT3
variable {C : Cx} {d : Nat} {Post : OutT → Ht → Prop} {t t' : Ht} {B M S P : Nat}
theorem RwM.go (h : RwM t S) (hk : ∀ b, S ≤ b → b ≤ S + 12 → tK t' b = tK t b ∧ tL t' b = tL t b) (hr : ∀ j, tR t' S j = tR t S j) : RwM t' S := by
  obtain ⟨a1, a2, a3, a4⟩ := h
  exact ⟨(hk S (by omega) (by omega)).1.trans a1, fun k hk' => ⟨(hr k).trans (a2 k hk').1, (hk _ (by omega) (by omega)).2.trans (a2 k hk').2⟩, fun k hk' => (hk _ (by omega) (by omega)).1.trans (a3 k hk'), (hk _ (by omega) (by omega)).1.trans a4⟩
theorem PaM.go (h : PaM t P) (hk : ∀ b, P ≤ b → b ≤ P + 8 → tK t' b = tK t b ∧ tL t' b = tL t b) (hr : ∀ j, tR t' P j = tR t P j) : PaM t' P := by
  obtain ⟨a1, a2, a3, a4⟩ := h
  exact ⟨(hk P (by omega) (by omega)).1.trans a1, fun k hk' => ⟨(hr k).trans (a2 k hk').1, (hk _ (by omega) (by omega)).2.trans (a2 k hk').2⟩, fun k hk' => (hk _ (by omega) (by omega)).1.trans (a3 k hk'), fun k hk' => (hk _ (by omega) (by omega)).1.trans (a4 k hk')⟩
/-- the reference's cells -/
def MFx (t : Ht) (M : Nat) : Prop := MBs t M ∧ OSh t M ∧ (tR t M 26 = some (M + 49) ∧ tK t (M + 49) = 101 ∧ tL t (M + 49) = 36000) ∧ (RwM t (M + 4) ∧ RwM t (M + 17)) ∧ (PaM t (M + 30) ∧ PaM t (M + 39))
set_option maxHeartbeats 4000000 in
theorem c151s (hk : tK t M = 17) (hN : tN t = M + 1) (z : ∀ j, tI t M j = 0)
    (k : ∀ t', MFx t' M → (tR t' M 10 = some (M + 4) ∧ tR t' M 11 = some (M + 17) ∧ tR t' M 16 = some (M + 30) ∧ tR t' M 17 = some (M + 39)) → (tI t' M 3 = 0 ∧ tI t' M 12 = 0 ∧ tI t' M 13 = 0 ∧ tI t' M 14 = -1 ∧ tI t' M 15 = -1 ∧ tI t' M 24 = 0 ∧ tI t' M 35 = 0) → tN t' = M + 52 → tU t' = tU t + 96491 → (∀ b, b < M → sameK t t' b) → Post (.inl none) t') : CalG C mtab (d + 5) 151 [svR (some M)] t Post := by
  refine cal151 ?_
  unfold vc151
  refine c150 (by simp [ht]) (fun t2 e2 => ?_)
  obtain ⟨n2, u2, k2, l2, r2, i2⟩ := e2
  simp only [ht, hN, Nat.add_assoc, Nat.reduceAdd] at n2 u2 k2 l2 r2 i2
  rw [hN]
  refine ⟨rfl, by simp [ht, Nat.add_assoc, k2, hk], by decide, by decide, by simp [ht, Nat.add_assoc, n2, k2, hk], by decide, by decide, by simp [ht, Nat.add_assoc, n2, k2, hk], ?_⟩
  refine c149s (by simp [ht, Nat.add_assoc, n2]) (by simp [ht, Nat.add_assoc, n2]) (fun t7 e7 w7 => ?_)
  obtain ⟨n7, u7, k7, l7, r7, i7⟩ := e7
  simp only [ht, n2, Nat.add_assoc, Nat.reduceAdd] at n7 u7 k7 l7 r7 i7 w7
  refine ⟨rfl, by simp [k7, k2, hk], ?_⟩
  refine c149s (by simp [ht, Nat.add_assoc]) (by simp [ht, Nat.add_assoc]) (fun t12 e12 w12 => ?_)
  obtain ⟨n12, u12, k12, l12, r12, i12⟩ := e12
  simp only [ht, n7, Nat.add_assoc, Nat.reduceAdd] at n12 u12 k12 l12 r12 i12 w12
  refine ⟨rfl, by simp [k12, k7, k2, hk], by simp [ht, k12, k7, k2, hk], by simp [ht, k12, k7, k2, hk], ?_⟩
  refine c148s (by simp [ht, Nat.add_assoc]) (by simp [ht, Nat.add_assoc]) (fun t17 e17 w17 => ?_)
  obtain ⟨n17, u17, k17, l17, r17, i17⟩ := e17
  simp only [ht, n12, Nat.add_assoc, Nat.reduceAdd] at n17 u17 k17 l17 r17 i17 w17
  refine ⟨rfl, by simp [k17, k12, k7, k2, hk], ?_⟩
  refine c148s (by simp [ht, Nat.add_assoc]) (by simp [ht, Nat.add_assoc]) (fun t22 e22 w22 => ?_)
  obtain ⟨n22, u22, k22, l22, r22, i22⟩ := e22
  simp only [ht, n17, Nat.add_assoc, Nat.reduceAdd] at n22 u22 k22 l22 r22 i22 w22
  refine ⟨rfl, by simp [k22, k17, k12, k7, k2, hk], by decide, by decide, by simp [ht, Nat.add_assoc, n22, k22, k17, k12, k7, k2, hk], by decide, by decide, by simp [ht, Nat.add_assoc, n22, k22, k17, k12, k7, k2, hk], by decide, by decide, by simp [ht, Nat.add_assoc, n22, k22, k17, k12, k7, k2, hk], by decide, by decide, by simp [ht, Nat.add_assoc, n22, k22, k17, k12, k7, k2, hk], ?_⟩
  rw [n22, n17]
  refine k _ ⟨?_, ?_, ?_, ⟨?_, ?_⟩, ?_, ?_⟩ ?_ ?_ (by simp [ht, Nat.add_assoc, n22]) (by simp only [ht]; omega) (fun b hb => ?_)
  · unfold MBs
    simp [ht, Nat.add_assoc, hN, n2, n7, n12, n17, n22, k2, k7, k12, k17, k22, l2, l7, l12, l17, l22, r2, r7, r12, r17, r22, hk]
  · unfold OSh
    simp [ht, Nat.add_assoc, hN, n2, n7, n12, n17, n22, k2, k7, k12, k17, k22, l2, l7, l12, l17, l22, r2, r7, r12, r17, r22, hk]
  · simp [ht, Nat.add_assoc, hN, n2, n7, n12, n17, n22, k2, k7, k12, k17, k22, l2, l7, l12, l17, l22, r2, r7, r12, r17, r22, hk]
  · refine RwM.go w7 (fun b h1 h2 => ?_) (fun j => by simp [ht, Nat.add_assoc, n22, r22, r17, r12])
    have a1 := k12 b (by omega)
    have a2 := k17 b (by omega)
    have a3 := k22 b (by omega)
    have c1 := l12 b (by omega)
    have c2 := l17 b (by omega)
    have c3 := l22 b (by omega)
    have m17 : ¬ b = M + 17 := by omega
    have m30 : ¬ b = M + 30 := by omega
    have m39 : ¬ b = M + 39 := by omega
    have m48 : ¬ b = M + 48 := by omega
    have m49 : ¬ b = M + 49 := by omega
    have m50 : ¬ b = M + 50 := by omega
    have m51 : ¬ b = M + 51 := by omega
    exact ⟨by simp [ht, Nat.add_assoc, n22, a1, a2, a3, m17, m30, m39, m48, m49, m50, m51], by simp [ht, Nat.add_assoc, n22, c1, c2, c3, m17, m30, m39, m48, m49, m50, m51]⟩
  · refine RwM.go w12 (fun b h1 h2 => ?_) (fun j => by simp [ht, Nat.add_assoc, n22, r22, r17])
    have a2 := k17 b (by omega)
    have a3 := k22 b (by omega)
    have c2 := l17 b (by omega)
    have c3 := l22 b (by omega)
    have m30 : ¬ b = M + 30 := by omega
    have m39 : ¬ b = M + 39 := by omega
    have m48 : ¬ b = M + 48 := by omega
    have m49 : ¬ b = M + 49 := by omega
    have m50 : ¬ b = M + 50 := by omega
    have m51 : ¬ b = M + 51 := by omega
    exact ⟨by simp [ht, Nat.add_assoc, n22, a2, a3, m30, m39, m48, m49, m50, m51], by simp [ht, Nat.add_assoc, n22, c2, c3, m30, m39, m48, m49, m50, m51]⟩
  · refine PaM.go w17 (fun b h1 h2 => ?_) (fun j => by simp [ht, Nat.add_assoc, n22, r22])
    have a3 := k22 b (by omega)
    have c3 := l22 b (by omega)
    have m39 : ¬ b = M + 39 := by omega
    have m48 : ¬ b = M + 48 := by omega
    have m49 : ¬ b = M + 49 := by omega
    have m50 : ¬ b = M + 50 := by omega
    have m51 : ¬ b = M + 51 := by omega
    exact ⟨by simp [ht, Nat.add_assoc, n22, a3, m39, m48, m49, m50, m51], by simp [ht, Nat.add_assoc, n22, c3, m39, m48, m49, m50, m51]⟩
  · refine PaM.go w22 (fun b h1 h2 => ?_) (fun j => by simp [ht, Nat.add_assoc, n22])
    have m48 : ¬ b = M + 48 := by omega
    have m49 : ¬ b = M + 49 := by omega
    have m50 : ¬ b = M + 50 := by omega
    have m51 : ¬ b = M + 51 := by omega
    exact ⟨by simp [ht, Nat.add_assoc, n22, m48, m49, m50, m51], by simp [ht, Nat.add_assoc, n22, m48, m49, m50, m51]⟩
  · simp [ht, Nat.add_assoc, hN, n2, n7, n12, n17, n22, k2, k7, k12, k17, k22, l2, l7, l12, l17, l22, r2, r7, r12, r17, r22, hk]
  · simp [ht, Nat.add_assoc, hN, n2, n7, n12, n17, n22, i2, i7, i12, i17, i22, z]
  · have b0 : ¬ b = M := by omega
    have b1 : ∀ j, ¬ b = M + j := by intro j; omega
    have b2 : ∀ j, b < M + j := by intro j; omega
    refine ⟨?_, ?_, fun j => ?_, fun j => ?_⟩
    all_goals simp [ht, Nat.add_assoc, hN, n2, n7, n12, n17, n22, k2, k7, k12, k17, k22, l2, l7, l12, l17, l22, r2, r7, r12, r17, r22, i2, i7, i12, i17, i22, b0, b1, b2]
end CT3
