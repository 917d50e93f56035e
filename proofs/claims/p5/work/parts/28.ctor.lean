section CT
variable {C : Cx} {d : Nat} {Post : OutT → Ht → Prop} {t : Ht} {B : Nat}
theorem c81 {a : Nat} {r : Option Nat} (hk : tK t a = 7) (ha : a < tN t) (h : Post (.inl none) (sR (sI (sR (tNew t 101 1200 1200) a 1 (some (tN t))) a 6 (-1)) a 0 r)) : CalG C mtab (d + 1) 81 [svR (some a), svR r] t Post := by
  have ne : ¬ a = tN t := by omega
  exact cal81 ⟨by decide, by decide, by simp [ht, hk, ne], by simp [ht, hk, ne], by simp [ht, hk, ne], h⟩
theorem c118 {a : Nat} {r : Option Nat} (hk : tK t a = 12) (h : Post (.inl none) (sR t a 0 r)) : CalG C mtab (d + 1) 118 [svR (some a), svR r] t Post := cal118 ⟨hk, h⟩
theorem c48 {a : Nat} {r : Option Nat} (hk : tK t a = 6) (h : Post (.inl none) (sR t a 0 r)) : CalG C mtab (d + 1) 48 [svR (some a), svR r] t Post := cal48 ⟨hk, h⟩
theorem c0 {a : Nat} (hk : tK t a = 2) (ha : a < tN t) (h : Post (.inl none) (sR (tNew t 105 34 34) a 0 (some (tN t)))) : CalG C mtab (d + 1) 0 [svR (some a)] t Post := by
  have ne : ¬ a = tN t := by omega
  exact cal0 ⟨by decide, by decide, by simp [ht, hk, ne], h⟩
theorem c34 {a : Nat} (hk : tK t a = 4) (ha : a < tN t) (h : Post (.inl none) (sR (tNew t 100 2400 2400) a 0 (some (tN t)))) : CalG C mtab (d + 1) 34 [svR (some a)] t Post := by
  have ne : ¬ a = tN t := by omega
  exact cal34 ⟨by decide, by decide, by simp [ht, hk, ne], h⟩
set_option maxHeartbeats 400000 in
theorem c128 (hk : tK t B = 13) (hN : tN t = B + 1) (h6 : tI t B 6 = 0) (h7 : tI t B 7 = 0) (h8 : tR t B 8 = none) (h9 : tR t B 9 = none)
    (k : ∀ t', FP t' B → tN t' = B + 10 → tU t' = tU t + 4855 → Post (.inl none) t') : CalG C mtab (d + 2) 128 [svR (some B)] t Post := by
  refine cal128 ?_
  unfold vc128
  refine ⟨by decide, by decide, by simp [ht, Nat.add_assoc, hk, hN], by simp [ht, Nat.add_assoc, hk, hN], ?_⟩
  refine c81 (by simp [ht, Nat.add_assoc, hN]) (by simp [ht, Nat.add_assoc, hN]) ?_
  refine ⟨rfl, by simp [ht, Nat.add_assoc, hk, hN], by simp [ht, Nat.add_assoc, hk, hN], ?_⟩
  refine c118 (by simp [ht, Nat.add_assoc, hN]) ?_
  refine ⟨rfl, by simp [ht, Nat.add_assoc, hk, hN], by simp [ht, Nat.add_assoc, hk, hN], ?_⟩
  refine c48 (by simp [ht, Nat.add_assoc, hN]) ?_
  refine ⟨rfl, by simp [ht, Nat.add_assoc, hk, hN], ?_⟩
  refine c0 (by simp [ht, Nat.add_assoc, hN]) (by simp [ht, Nat.add_assoc, hN]) ?_
  refine ⟨rfl, by simp [ht, Nat.add_assoc, hk, hN], ?_⟩
  refine c34 (by simp [ht, Nat.add_assoc, hN]) (by simp [ht, Nat.add_assoc, hN]) ?_
  refine ⟨rfl, by simp [ht, Nat.add_assoc, hk, hN], ?_⟩
  refine k _ ?_ (by simp [ht, Nat.add_assoc, hN]) (by simp [ht, Nat.add_assoc])
  unfold FP
  simp [ht, Nat.add_assoc, hN, hk, h6, h7, h8, h9]
end CT
