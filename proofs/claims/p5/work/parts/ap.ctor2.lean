/-! BOTH AS THEY ARE MADE -/
/-- rows and parts of the reference -/
def RwM (t : Ht) (S : Nat) : Prop := tK t S = 15 ∧ (∀ k, k < 12 → tR t S k = some (S + 1 + k) ∧ tL t (S + 1 + k) = 300) ∧ (∀ k, k < 11 → tK t (S + 1 + k) = 101) ∧ tK t (S + 12) = 102
def PaM (t : Ht) (P : Nat) : Prop := tK t P = 14 ∧ (∀ k, k < 8 → tR t P k = some (P + 1 + k) ∧ tL t (P + 1 + k) = 2400) ∧ (∀ k, k < 5 → tK t (P + 1 + k) = 101) ∧ (∀ k, k < 3 → tK t (P + 6 + k) = 102)
theorem lt12 {k : Nat} (h : k < 12) : k = 0 ∨ k = 1 ∨ k = 2 ∨ k = 3 ∨ k = 4 ∨ k = 5 ∨ k = 6 ∨ k = 7 ∨ k = 8 ∨ k = 9 ∨ k = 10 ∨ k = 11 := by omega
theorem lt8 {k : Nat} (h : k < 8) : k = 0 ∨ k = 1 ∨ k = 2 ∨ k = 3 ∨ k = 4 ∨ k = 5 ∨ k = 6 ∨ k = 7 := by omega
section CT2
variable {C : Cx} {d : Nat} {Post : OutT → Ht → Prop} {t t' : Ht} {B M : Nat}
set_option maxHeartbeats 1000000 in
theorem c128s (hk : tK t B = 13) (hN : tN t = B + 1) (h6 : tI t B 6 = 0) (h7 : tI t B 7 = 0) (h8 : tR t B 8 = none) (h9 : tR t B 9 = none) (hz : ∀ x, x < B → tK t x = 0)
    (k : ∀ t', BSh t' B → (tI t' B 6 = 0 ∧ tI t' B 7 = 0 ∧ tR t' B 8 = none ∧ tR t' B 9 = none ∧ tR t' (B + 6) 2 = none ∧ tI t' (B + 8) 1 = 0) → (∀ j, tR t' (B + 7) j = none) → (∀ x, x < B → tK t' x = 0) → tN t' = B + 10 → tU t' = tU t + 4855 → Post (.inl none) t') : CalG C mtab (d + 2) 128 [svR (some B)] t Post := by
  refine cal128 ?_
  unfold vc128
  refine ⟨by decide, by decide, by simp [ht, Nat.add_assoc, hk, hN], by simp [ht, Nat.add_assoc, hk, hN], ?_⟩
  refine c81 (by simp [ht, Nat.add_assoc, hN]) (by simp [ht, Nat.add_assoc, hN]) ?_
  refine ⟨rfl, by simp [ht, Nat.add_assoc, hk, hN], by simp [ht, Nat.add_assoc, hk, hN], ?_⟩
  refine c118 (by simp [ht, Nat.add_assoc, hN]) ?_
  refine ⟨rfl, by simp [ht, Nat.add_assoc, hk, hN], by simp [ht, Nat.add_assoc, hk, hN], ?_⟩
  refine c48 (by simp [ht, Nat.add_assoc, hN]) ?_
  refine ⟨rfl, by simp [ht, Nat.add_assoc, hk, hN], ?_⟩
  refine c0 (by simp [ht, Nat.add_assoc, hN]) (by simp [ht, Nat.add_assoc, hN]) ?_
  refine ⟨rfl, by simp [ht, Nat.add_assoc, hk, hN], ?_⟩
  refine c34 (by simp [ht, Nat.add_assoc, hN]) (by simp [ht, Nat.add_assoc, hN]) ?_
  refine ⟨rfl, by simp [ht, Nat.add_assoc, hk, hN], ?_⟩
  refine k _ ?_ ?_ (fun j => ?_) (fun x hx => ?_) (by simp [ht, Nat.add_assoc, hN]) (by simp [ht, Nat.add_assoc])
  · unfold BSh
    simp [ht, Nat.add_assoc, hN, hk]
  · simp [ht, Nat.add_assoc, hN, hk, h6, h7, h8, h9]
  · simp [ht, Nat.add_assoc, hN]
  · have b1 : ∀ j, ¬ x = B + j := by intro j; omega
    simp [ht, Nat.add_assoc, hN, b1, hz x hx]
set_option maxHeartbeats 1000000 in
theorem c149s {a : Nat} (hk : tK t a = 15) (ha : tN t = a + 1) (k : ∀ t', Ex a 12 3600 t t' → RwM t' a → Post (.inl none) t') : CalG C mtab (d + 1) 149 [svR (some a)] t Post := by
  refine cal149 ?_
  unfold vc149
  have n1 : ∀ k, ¬ a = a + 1 + k := by intro k; omega
  rw [ha]
  refine ⟨by decide, by decide, by simp [ht, Nat.add_assoc, ha, hk], by decide, by decide, by simp [ht, Nat.add_assoc, ha, hk], by decide, by decide, by simp [ht, Nat.add_assoc, ha, hk], by decide, by decide, by simp [ht, Nat.add_assoc, ha, hk],
    by decide, by decide, by simp [ht, Nat.add_assoc, ha, hk], by decide, by decide, by simp [ht, Nat.add_assoc, ha, hk], by decide, by decide, by simp [ht, Nat.add_assoc, ha, hk], by decide, by decide, by simp [ht, Nat.add_assoc, ha, hk],
    by decide, by decide, by simp [ht, Nat.add_assoc, ha, hk], by decide, by decide, by simp [ht, Nat.add_assoc, ha, hk], by decide, by decide, by simp [ht, Nat.add_assoc, ha, hk], by decide, by decide, by simp [ht, Nat.add_assoc, ha, hk], k _ ?_ ?_⟩
  · refine ⟨by simp [ht, Nat.add_assoc, ha], by simp [ht, Nat.add_assoc, ha], fun b hb => ?_, fun b hb => ?_, fun b j hb hne => ?_, fun b j hb => ?_⟩
    all_goals
      have m1 : ∀ k, ¬ b = a + (k + 1) := by intro k; omega
      have m2 : ¬ b = a + 1 := by omega
      simp [ht, Nat.add_assoc, ha, m1, m2]
    simp [hne]
  · refine ⟨by simp [ht, Nat.add_assoc, ha, hk], fun j hj => ?_, fun j hj => ?_, by simp [ht, Nat.add_assoc, ha]⟩
    · obtain rfl | rfl | rfl | rfl | rfl | rfl | rfl | rfl | rfl | rfl | rfl | rfl := lt12 hj <;> simp [ht, Nat.add_assoc, ha]
    · obtain rfl | rfl | rfl | rfl | rfl | rfl | rfl | rfl | rfl | rfl | rfl | rfl := lt12 (k := j) (by omega) <;> first | omega | simp [ht, Nat.add_assoc, ha]
set_option maxHeartbeats 1000000 in
theorem c148s {a : Nat} (hk : tK t a = 14) (ha : tN t = a + 1) (k : ∀ t', Ex a 8 19200 t t' → PaM t' a → Post (.inl none) t') : CalG C mtab (d + 1) 148 [svR (some a)] t Post := by
  refine cal148 ?_
  unfold vc148
  rw [ha]
  refine ⟨by decide, by decide, by simp [ht, Nat.add_assoc, ha, hk], by decide, by decide, by simp [ht, Nat.add_assoc, ha, hk], by decide, by decide, by simp [ht, Nat.add_assoc, ha, hk], by decide, by decide, by simp [ht, Nat.add_assoc, ha, hk],
    by decide, by decide, by simp [ht, Nat.add_assoc, ha, hk], by decide, by decide, by simp [ht, Nat.add_assoc, ha, hk], by decide, by decide, by simp [ht, Nat.add_assoc, ha, hk], by decide, by decide, by simp [ht, Nat.add_assoc, ha, hk], k _ ?_ ?_⟩
  · refine ⟨by simp [ht, Nat.add_assoc, ha], by simp [ht, Nat.add_assoc, ha], fun b hb => ?_, fun b hb => ?_, fun b j hb hne => ?_, fun b j hb => ?_⟩
    all_goals
      have m1 : ∀ k, ¬ b = a + (k + 1) := by intro k; omega
      have m2 : ¬ b = a + 1 := by omega
      simp [ht, Nat.add_assoc, ha, m1, m2]
    simp [hne]
  · refine ⟨by simp [ht, Nat.add_assoc, ha, hk], fun j hj => ?_, fun j hj => ?_, fun j hj => ?_⟩
    · obtain rfl | rfl | rfl | rfl | rfl | rfl | rfl | rfl := lt8 hj <;> simp [ht, Nat.add_assoc, ha]
    · obtain rfl | rfl | rfl | rfl | rfl | rfl | rfl | rfl := lt8 (k := j) (by omega) <;> first | omega | simp [ht, Nat.add_assoc, ha]
    · obtain rfl | rfl | rfl | rfl | rfl | rfl | rfl | rfl := lt8 (k := j) (by omega) <;> first | omega | simp [ht, Nat.add_assoc, ha]
end CT2
