section CU
variable {C : Cx} {d : Nat} {Post : OutT → Ht → Prop} {t : Ht} {M : Nat}
/-- cells made at the end; of what was there, references of the cell a alone have changed -/
def Ex (a n u : Nat) (t t' : Ht) : Prop := tN t' = tN t + n ∧ tU t' = tU t + u ∧ (∀ b, b < tN t → tK t' b = tK t b) ∧ (∀ b, b < tN t → tL t' b = tL t b) ∧ (∀ b j, b < tN t → b ≠ a → tR t' b j = tR t b j) ∧ (∀ b j, b < tN t → tI t' b j = tI t b j)
def sameK (t t' : Ht) (b : Nat) : Prop := tK t' b = tK t b ∧ tL t' b = tL t b ∧ (∀ j, tI t' b j = tI t b j) ∧ (∀ j, tR t' b j = tR t b j)
theorem c284 {a : Nat} {x1 x2 : Option Nat} (hk : tK t a = 16) (k : ∀ t', Ex a 0 0 t t' → Post (.inl none) t') : CalG C mtab (d + 1) 284 [svR (some a), svR x1, svR x2, svI 0, svI 0] t Post := by
  refine cal284 ?_
  unfold vc284 br
  simp only [htK]
  refine ⟨hk, hk, hk, fun _ => ⟨hk, hk, hk, fun _ => ⟨hk, k _ ?_⟩, fun e => absurd trivial e⟩, fun e => absurd trivial e⟩
  refine ⟨by simp only [ht]; rfl, by simp only [ht]; rfl, fun b _ => by simp only [ht], fun b _ => by simp only [ht], fun b j _ hb => by simp [ht, hb], fun b j _ => by simp only [ht]⟩
theorem c150 {a : Nat} (hk : tK t a = 16) (k : ∀ t', Ex a 0 0 t t' → Post (.inl none) t') : CalG C mtab (d + 4) 150 [svR (some a)] t Post :=
  cal150 (cal282 (cal283 (c284 hk (fun t' h => ⟨rfl, rfl, rfl, k t' h⟩))))
set_option maxHeartbeats 400000 in
theorem c149 {a : Nat} (hk : tK t a = 15) (ha : a < tN t) (k : ∀ t', Ex a 12 3600 t t' → Post (.inl none) t') : CalG C mtab (d + 1) 149 [svR (some a)] t Post := by
  refine cal149 ?_
  unfold vc149
  have n0 : ¬ a = tN t := by omega
  have n1 : ∀ k, ¬ a = tN t + k := by intro k; omega
  refine ⟨by decide, by decide, by simp [ht, Nat.add_assoc, n0, n1, hk], by decide, by decide, by simp [ht, Nat.add_assoc, n0, n1, hk], by decide, by decide, by simp [ht, Nat.add_assoc, n0, n1, hk], by decide, by decide, by simp [ht, Nat.add_assoc, n0, n1, hk],
    by decide, by decide, by simp [ht, Nat.add_assoc, n0, n1, hk], by decide, by decide, by simp [ht, Nat.add_assoc, n0, n1, hk], by decide, by decide, by simp [ht, Nat.add_assoc, n0, n1, hk], by decide, by decide, by simp [ht, Nat.add_assoc, n0, n1, hk],
    by decide, by decide, by simp [ht, Nat.add_assoc, n0, n1, hk], by decide, by decide, by simp [ht, Nat.add_assoc, n0, n1, hk], by decide, by decide, by simp [ht, Nat.add_assoc, n0, n1, hk], by decide, by decide, by simp [ht, Nat.add_assoc, n0, n1, hk], k _ ?_⟩
  refine ⟨by simp [ht, Nat.add_assoc], by simp [ht, Nat.add_assoc], fun b hb => ?_, fun b hb => ?_, fun b j hb hne => ?_, fun b j hb => ?_⟩
  all_goals
    have m0 : ¬ b = tN t := by omega
    have m1 : ∀ k, ¬ b = tN t + k := by intro k; omega
    simp [ht, Nat.add_assoc, m0, m1]
  simp [hne]
set_option maxHeartbeats 400000 in
theorem c148 {a : Nat} (hk : tK t a = 14) (ha : a < tN t) (k : ∀ t', Ex a 8 19200 t t' → Post (.inl none) t') : CalG C mtab (d + 1) 148 [svR (some a)] t Post := by
  refine cal148 ?_
  unfold vc148
  have n0 : ¬ a = tN t := by omega
  have n1 : ∀ k, ¬ a = tN t + k := by intro k; omega
  refine ⟨by decide, by decide, by simp [ht, Nat.add_assoc, n0, n1, hk], by decide, by decide, by simp [ht, Nat.add_assoc, n0, n1, hk], by decide, by decide, by simp [ht, Nat.add_assoc, n0, n1, hk], by decide, by decide, by simp [ht, Nat.add_assoc, n0, n1, hk],
    by decide, by decide, by simp [ht, Nat.add_assoc, n0, n1, hk], by decide, by decide, by simp [ht, Nat.add_assoc, n0, n1, hk], by decide, by decide, by simp [ht, Nat.add_assoc, n0, n1, hk], by decide, by decide, by simp [ht, Nat.add_assoc, n0, n1, hk], k _ ?_⟩
  refine ⟨by simp [ht, Nat.add_assoc], by simp [ht, Nat.add_assoc], fun b hb => ?_, fun b hb => ?_, fun b j hb hne => ?_, fun b j hb => ?_⟩
  all_goals
    have m0 : ¬ b = tN t := by omega
    have m1 : ∀ k, ¬ b = tN t + k := by intro k; omega
    simp [ht, Nat.add_assoc, m0, m1]
  simp [hne]
set_option maxHeartbeats 1000000 in
theorem c151 (hk : tK t M = 17) (hN : tN t = M + 1) (z : ∀ j, tI t M j = 0)
    (k : ∀ t', FM t' M → tN t' = M + 52 → tU t' = tU t + 96491 → (∀ b, b < M → sameK t t' b) → Post (.inl none) t') : CalG C mtab (d + 5) 151 [svR (some M)] t Post := by
  refine cal151 ?_
  unfold vc151
  refine c150 (by simp [ht]) (fun t2 e2 => ?_)
  obtain ⟨n2, u2, k2, l2, r2, i2⟩ := e2
  simp only [ht, hN, Nat.add_assoc, Nat.reduceAdd] at n2 u2 k2 l2 r2 i2
  rw [hN]
  refine ⟨rfl, by simp [ht, Nat.add_assoc, k2, hk], by decide, by decide, by simp [ht, Nat.add_assoc, n2, k2, hk], by decide, by decide, by simp [ht, Nat.add_assoc, n2, k2, hk], ?_⟩
  refine c149 (by simp [ht, Nat.add_assoc, n2]) (by simp [ht, Nat.add_assoc, n2]) (fun t7 e7 => ?_)
  obtain ⟨n7, u7, k7, l7, r7, i7⟩ := e7
  simp only [ht, n2, Nat.add_assoc, Nat.reduceAdd] at n7 u7 k7 l7 r7 i7
  refine ⟨rfl, by simp [k7, k2, hk], ?_⟩
  refine c149 (by simp [ht, Nat.add_assoc]) (by simp [ht, Nat.add_assoc]) (fun t12 e12 => ?_)
  obtain ⟨n12, u12, k12, l12, r12, i12⟩ := e12
  simp only [ht, n7, Nat.add_assoc, Nat.reduceAdd] at n12 u12 k12 l12 r12 i12
  refine ⟨rfl, by simp [k12, k7, k2, hk], by simp [ht, k12, k7, k2, hk], by simp [ht, k12, k7, k2, hk], ?_⟩
  refine c148 (by simp [ht, Nat.add_assoc]) (by simp [ht, Nat.add_assoc]) (fun t17 e17 => ?_)
  obtain ⟨n17, u17, k17, l17, r17, i17⟩ := e17
  simp only [ht, n12, Nat.add_assoc, Nat.reduceAdd] at n17 u17 k17 l17 r17 i17
  refine ⟨rfl, by simp [k17, k12, k7, k2, hk], ?_⟩
  refine c148 (by simp [ht, Nat.add_assoc]) (by simp [ht, Nat.add_assoc]) (fun t22 e22 => ?_)
  obtain ⟨n22, u22, k22, l22, r22, i22⟩ := e22
  simp only [ht, n17, Nat.add_assoc, Nat.reduceAdd] at n22 u22 k22 l22 r22 i22
  refine ⟨rfl, by simp [k22, k17, k12, k7, k2, hk], by decide, by decide, by simp [ht, Nat.add_assoc, n22, k22, k17, k12, k7, k2, hk], by decide, by decide, by simp [ht, Nat.add_assoc, n22, k22, k17, k12, k7, k2, hk], by decide, by decide, by simp [ht, Nat.add_assoc, n22, k22, k17, k12, k7, k2, hk], by decide, by decide, by simp [ht, Nat.add_assoc, n22, k22, k17, k12, k7, k2, hk], ?_⟩
  rw [n22, n17]
  refine k _ ?_ (by simp [ht, Nat.add_assoc, n22]) (by simp only [ht]; omega) (fun b hb => ?_)
  · unfold FM
    simp [ht, Nat.add_assoc, hN, n2, n7, n12, n17, n22, k2, k7, k12, k17, k22, l2, l7, l12, l17, l22, r2, r7, r12, r17, r22, i2, i7, i12, i17, i22, hk, z]
  · have b0 : ¬ b = M := by omega
    have b1 : ∀ j, ¬ b = M + j := by intro j; omega
    have b2 : ∀ j, b < M + j := by intro j; omega
    refine ⟨?_, ?_, fun j => ?_, fun j => ?_⟩
    all_goals simp [ht, Nat.add_assoc, hN, n2, n7, n12, n17, n22, k2, k7, k12, k17, k22, l2, l7, l12, l17, l22, r2, r7, r12, r17, r22, i2, i7, i12, i17, i22, b0, b1, b2]
end CU
