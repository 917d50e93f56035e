/-! MAKING NODES -/
/-- a fresh node a (and its list, if it has one) over t1 -/
def FN (C : Cx) (t1 t' : Ht) (kd dp o : Nat) (u : Option Nat) : Prop :=
  (∀ x, x < tN t1 → sameAt t1 t' x) ∧ (tK t' (tN t1) = 3 ∧ tI t' (tN t1) 0 = nI kd ∧ tR t' (tN t1) 1 = u ∧ tI t' (tN t1) 2 = nI dp ∧ tI t' (tN t1) 3 = nI o ∧ tJ t' (tN t1) 5 = 0) ∧
  (tR t' (tN t1) 6 = none ∧ tR t' (tN t1) 7 = none ∧ tI t' (tN t1) 8 = -1 ∧ tI t' (tN t1) 9 = nI o ∧ tR t' (tN t1) 10 = none) ∧
  ((kd < 5 ∧ tN t' = tN t1 + 1 ∧ tU t' = tU t1 + 11 ∧ tR t' (tN t1) 4 = none) ∨ (5 ≤ kd ∧ tN t' = tN t1 + 2 ∧ tU t' = tU t1 + 14 ∧ tR t' (tN t1) 4 = some (tN t1 + 1) ∧ LsA C t' (tN t1 + 1) [] 0 0))
section MK
variable {C : Cx} {d : Nat} {Post : OutT → Ht → Prop} {t1 : Ht}
theorem nI_ne {a b : Nat} (h : a ≠ b) (ha : a < 2 ^ 31) (hb : b < 2 ^ 31) : ¬ nI a = nI b := fun e => h ((nI_eq ha hb).mp e)
theorem fnL {tt : Ht} {kd dp o : Nat} {u : Option Nat} (hk : 5 ≤ kd) (hT : tt = sI (sI (sI (sR (sI (sI (tNew t1 3 0 11) (tN t1) 8 (-1 : Int32)) (tN t1) 0 (nI kd)) (tN t1) 1 u) (tN t1) 2 (nI dp)) (tN t1) 3 (nI o)) (tN t1) 9 (nI o)) : FN C t1 (sR (sR (sI (tNew tt 1 0 3) (tN t1 + 1) 0 0) (tN t1 + 1) 1 (cG C 2)) (tN t1) 4 (some (tN t1 + 1))) kd dp o u := by
  have hN : tN tt = tN t1 + 1 := by rw [hT]; simp [ht]
  have hU : tU tt = tU t1 + 11 := by rw [hT]; simp [ht]
  have hKK : ∀ x, tK tt x = if x = tN t1 then 3 else tK t1 x := fun x => by rw [hT]; simp [ht]
  have hLL : ∀ x, x < tN t1 → tL tt x = tL t1 x := fun x hx => by
    have : ¬ x = tN t1 := by omega
    rw [hT]; simp [ht, this]
  have hI : ∀ x k, x < tN t1 → tI tt x k = tI t1 x k := fun x k hx => by
    have : ¬ x = tN t1 := by omega
    rw [hT]; simp [ht, this]
  have hJ : ∀ x k, x < tN t1 → tJ tt x k = tJ t1 x k := fun x k hx => by
    have : ¬ x = tN t1 := by omega
    rw [hT]; simp [ht, this]
  have hR : ∀ x k, x < tN t1 → tR tt x k = tR t1 x k := fun x k hx => by
    have : ¬ x = tN t1 := by omega
    rw [hT]; simp [ht, this]
  have q : tI tt (tN t1) 0 = nI kd ∧ tR tt (tN t1) 1 = u ∧ tI tt (tN t1) 2 = nI dp ∧ tI tt (tN t1) 3 = nI o ∧ tJ tt (tN t1) 5 = 0 ∧ tR tt (tN t1) 6 = none ∧ tR tt (tN t1) 7 = none ∧ tI tt (tN t1) 8 = -1 ∧ tI tt (tN t1) 9 = nI o ∧ tR tt (tN t1) 10 = none := by
    rw [hT]; simp [ht]
  clear hT
  obtain ⟨q0, q1, q2, q3, q5, q6, q7, q8, q9, q10⟩ := q
  refine ⟨fun x hx => ?_, ⟨?_, ?_, ?_, ?_, ?_, ?_⟩, ⟨?_, ?_, ?_, ?_, ?_⟩, Or.inr ⟨hk, ?_, ?_, ?_, ?_, ?_, by simp, by decide, ?_, Or.inl ⟨rfl, ?_⟩⟩⟩
  · have e1 : ¬ x = tN t1 := by omega
    have e2 : ¬ x = tN t1 + 1 := by omega
    refine ⟨?_, ?_, fun k => ?_, fun k => ?_, fun k => ?_⟩
    · simp [ht, hN, e1, e2, hKK]
    · simp [ht, hN, e2, hLL x hx]
    · simp [ht, hN, e2, hI x k hx]
    · simp [ht, hN, e2, hJ x k hx]
    · simp [ht, hN, e1, e2, hR x k hx]
  · simp [ht, hN, hKK]
  · simp [ht, hN, q0]
  · simp [ht, hN, q1]
  · simp [ht, hN, q2]
  · simp [ht, hN, q3]
  · simp [ht, hN, q5]
  · simp [ht, hN, q6]
  · simp [ht, hN, q7]
  · simp [ht, hN, q8]
  · simp [ht, hN, q9]
  · simp [ht, hN, q10]
  · simp [ht, hN]
  · simp [ht, hU]
  · simp [ht]
  · simp [ht, hN]
  · simp [ht, hN]; rfl
  · simp [ht, hN]
  · simp [ht, hN]
theorem fnS {kd dp o : Nat} {u : Option Nat} (hk : kd < 5) : FN C t1 (sR (sI (sI (sI (sR (sI (sI (tNew t1 3 0 11) (tN t1) 8 (-1 : Int32)) (tN t1) 0 (nI kd)) (tN t1) 1 u) (tN t1) 2 (nI dp)) (tN t1) 3 (nI o)) (tN t1) 9 (nI o)) (tN t1) 4 none) kd dp o u := by
  refine ⟨fun x hx => ?_, ⟨?_, ?_, ?_, ?_, ?_, ?_⟩, ⟨?_, ?_, ?_, ?_, ?_⟩, Or.inl ⟨hk, ?_, ?_, ?_⟩⟩
  · have e1 : ¬ x = tN t1 := by omega
    refine ⟨?_, ?_, fun k => ?_, fun k => ?_, fun k => ?_⟩ <;> simp [ht, e1]
  all_goals simp [ht]
/-- the constructor of Node -/
theorem r26 {kd dp o : Nat} {u : Option Nat} (hk : kd < 7) (k : ∀ t', FN C t1 t' kd dp o u → Post (.inl none) t') : CalG C mtab (d + 4) 26 [svR (some (tN t1)), svI (nI kd), svR u, svI (nI dp), svI (nI o)] (tNew t1 3 0 11) Post := by
  refine cal26 ?_
  unfold vc26
  refine ⟨by simp [ht], by simp [ht], by simp [ht], by simp [ht], by simp [ht], by simp [ht], fun e => ?_, fun e => ⟨fun e2 => ?_, fun e2 => ⟨by simp [ht], k _ (fnS ?_)⟩⟩⟩
  · have hk5 : kd = 5 := (nI_eq (b := 5) (by omega) (by decide)).mp e
    generalize hT : sI (sI (sI (sR (sI (sI (tNew t1 3 0 11) (tN t1) 8 (-1 : Int32)) (tN t1) 0 (nI kd)) (tN t1) 1 u) (tN t1) 2 (nI dp)) (tN t1) 3 (nI o)) (tN t1) 9 (nI o) = tt
    have hN : tN tt = tN t1 + 1 := by rw [← hT]; simp [ht]
    have hK : tK tt (tN t1) = 3 := by rw [← hT]; simp [ht]
    show CalG C mtab (d + 3) 266 [svR (some (tN t1 + 1))] (tNew tt 1 0 3) _
    refine s266 (by simp [ht, hN]) ⟨rfl, by simp [ht, hN, hK], ?_⟩
    exact k _ (fnL (by omega) hT.symm)
  · have hk5 : kd = 6 := (nI_eq (b := 6) (by omega) (by decide)).mp e2
    generalize hT : sI (sI (sI (sR (sI (sI (tNew t1 3 0 11) (tN t1) 8 (-1 : Int32)) (tN t1) 0 (nI kd)) (tN t1) 1 u) (tN t1) 2 (nI dp)) (tN t1) 3 (nI o)) (tN t1) 9 (nI o) = tt
    have hN : tN tt = tN t1 + 1 := by rw [← hT]; simp [ht]
    have hK : tK tt (tN t1) = 3 := by rw [← hT]; simp [ht]
    show CalG C mtab (d + 3) 266 [svR (some (tN t1 + 1))] (tNew tt 1 0 3) _
    refine s266 (by simp [ht, hN]) ⟨rfl, by simp [ht, hN, hK], ?_⟩
    exact k _ (fnL (by omega) hT.symm)
  · have h5 : kd ≠ 5 := fun z => e (by rw [z]; rfl)
    have h6 : kd ≠ 6 := fun z => e2 (by rw [z]; rfl)
    omega
end MK
