/-! the reference's numbers -/
def wr1 (b : By) (n : Nat) (m mz : Bool) (i : Nat) : (Nat × Bool × Nat) ⊕ Nat :=
  if dgt b n i = false ∨ (pk b n i = 48 ∧ m = true ∧ mz = false) then .inr i else
  if pk b n i = 48 then (if dgt b n (i + 1) then .inr (i + 1) else .inl (i + 1, m, 0)) else .inl ((dgF b n (n - i) i 0).1, m, (dgF b n (n - i) i 0).2)
def wnR (b : By) (n : Nat) (mz : Bool) (i : Nat) : (Nat × Bool × Nat) ⊕ Nat := if pk b n i = 45 then wr1 b n true mz (i + 1) else wr1 b n false mz i
def sgR (m : Bool) (N : Nat) : Int64 := if m then -(lN N) else lN N
section MNU
variable {C : Cx} {d : Nat} {Post : OutT → Ht → Prop} {t : Ht} {M s tp ch : Nat} {b : By} {n i q : Nat}
theorem d161 {j : Nat} (hb : ∀ k, b k < 256) (k : Post (.inl (some (svI (bI (dgt b n j))))) t) : CalG C mtab (d + 1) 161 [svI (pk b n j)] t Post := c161 (by rw [dgt_x hb]; exact k)
def NM (t t' : Ht) (M s ch q j : Nat) : Prop := MX M s ch q t t' ∧ tI t' M 5 = nI j ∧ tI t' M 7 = nI q
theorem NM.to {t' : Ht} {j j' : Nat} (hne : ch ≠ M) (h : NM t t' M s ch q j) : NM t (sI t' M 5 (nI j')) M s ch q j' :=
  ⟨h.1.trans (MX.M (Or.inl rfl) hne), by simp [ht], by simp [ht, h.2.2]⟩
theorem NM.fl {t' : Ht} {j : Nat} {x : Int32} (hne : ch ≠ M) (h : NM t t' M s ch q j) : NM t (sI t' M 9 x) M s ch q j :=
  ⟨h.1.trans (MX.M (Or.inr (Or.inr rfl)) hne), by simp [ht, h.2.1], by simp [ht, h.2.2]⟩
theorem NM.J {t' : Ht} {j : Nat} {x : Int64} (h : NM t t' M s ch q j) : NM t (sJ t' M 8 x) M s ch q j := by
  refine ⟨h.1.trans ⟨rfl, rfl, rfl, rfl, rfl, fun y k z => ?_, fun _ _ _ _ _ => rfl, fun _ _ => rfl⟩, h.2.1, h.2.2⟩
  rw [(by simp [ht] : tJ (sJ t' M 8 x) y k = if y = M ∧ k = 8 then x else tJ t' y k), if_neg]
  rintro ⟨rfl, rfl⟩
  rcases z with z | z <;> exact z rfl
set_option maxHeartbeats 400000 in
/-- integer -/
theorem m171 {mz : Bool} (h : MB t M s tp ch b n i q) (hi : i ≤ n)
    (k1 : ∀ j m N, wnR b n mz i = .inl (j, m, N) → ∀ t2, NM t t2 M s ch q j → tI t2 M 9 = bI (decide (9007199254740991 < N)) → (N ≤ 9007199254740991 → tJ t2 M 8 = sgR m N) → Post (.inl none) t2)
    (k2 : ∀ p, wnR b n mz i = .inr p → ∀ t2, BM M s ch q t t2 1 p → Post (.inr (16, s)) t2) : CalG C mtab (d + 4) 171 [svR (some M), svI (bI mz)] t Post := by
  obtain ⟨n1, n2, n3, n4, n5, n6⟩ := h.ne
  have hn : n ≤ 1200 := h.1.2.2.2.2.2.2.2.2.1
  have hb := h.1.2.2.2.2.2.2.2.2.2.2.1
  have hat := h.1.2.2.2.2.2.2.2.1
  have h0 : NM t t M s ch q i := ⟨MX.rfl', hat, h.2.2.2.2⟩
  refine cal171 (fun k l2 t' => k = 3 * n + 20 ∧ ∃ m, l2 = bI m ∧ (m = true ↔ pk b n i = 45) ∧ t' = t)
    (fun k l2 t' => k = 3 * n + 19 ∧ ∃ m i1, l2 = bI m ∧ wnR b n mz i = wr1 b n m mz i1 ∧ i1 ≤ n ∧ NM t t' M s ch q i1)
    (fun k l2 t' => k = 1 ∧ ∃ i1, i1 ≤ n ∧ wnR b n mz i = .inr i1 ∧ NM t t' M s ch q i1)
    (fun k l2 t' => k = 3 * n + 18 ∧ ∃ m i1, l2 = bI m ∧ i1 < n ∧ wnR b n mz i = (if pk b n i1 = 48 then (if dgt b n (i1 + 1) then .inr (i1 + 1) else .inl (i1 + 1, m, 0)) else .inl ((dgF b n (n - i1) i1 0).1, m, (dgF b n (n - i1) i1 0).2)) ∧ NM t t' M s ch q i1)
    (fun k l2 l3 t' => ∃ m f j N V, k = 3 * (n - j) + 5 ∧ l2 = bI m ∧ l3 = lN V ∧ V ≤ 9007199254740991 ∧ (N ≤ 9007199254740991 → V = N) ∧ tI t' M 9 = bI (decide (9007199254740991 < N)) ∧ j ≤ n ∧ n - j ≤ f ∧ wnR b n mz i = .inl ((dgF b n f j N).1, m, (dgF b n f j N).2) ∧ NM t t' M s ch q j)
    (fun k l2 l3 t' => ∃ m f j N V, k = 3 * (n - j) + 4 ∧ l2 = bI m ∧ l3 = lN V ∧ V ≤ 9007199254740991 ∧ (N ≤ 9007199254740991 → V = N) ∧ tI t' M 9 = bI (decide (9007199254740991 < N)) ∧ j < n ∧ n - (j + 1) ≤ f ∧ wnR b n mz i = .inl ((dgF b n f (j + 1) N).1, m, (dgF b n f (j + 1) N).2) ∧ NM t t' M s ch q j)
    (fun k l2 l3 t' => k = 1 ∧ ∃ m j N V, l2 = bI m ∧ l3 = lN V ∧ (N ≤ 9007199254740991 → V = N) ∧ tI t' M 9 = bI (decide (9007199254740991 < N)) ∧ wnR b n mz i = .inl (j, m, N) ∧ NM t t' M s ch q j) ?_ ?_ ?_ ?_ ?_ ?_ ?_ ?_
  · refine ⟨h.1.1, m157 h.1 ⟨3 * n + 20, rfl, rfl, rfl, decide (pk b n i = 45), rfl, by simp, rfl⟩⟩
  · rintro k l2 t' ⟨rfl, m, rfl, hm, rfl⟩
    unfold vc171_7
    rw [hat, nI_1]
    cases m with
    | false =>
      refine ⟨fun _ => ⟨3 * n + 19, by omega, rfl, rfl, rfl, false, i, rfl, ?_, hi, h0⟩, fun e => absurd rfl e⟩
      unfold wnR
      rw [if_neg (fun z => by have := hm.mpr z; cases this)]
    | true =>
      have e45 := hm.mp rfl
      refine ⟨fun e => absurd e (by decide), fun _ => ⟨h.1.1, h.1.1, 3 * n + 19, by omega, rfl, rfl, rfl, true, i + 1, rfl, ?_, ?_, NM.to n1 h0⟩⟩
      · unfold wnR; rw [if_pos e45]
      · have := (pk_nn e45 (by decide)).1; omega
  · rintro k l2 t' ⟨rfl, m, i1, rfl, hw, hi1, hs⟩
    have hB := h.x hs.1 hs.2.1 hs.2.2 (by omega)
    have hK := hB.1.1
    unfold wr1 at hw
    refine ⟨hK, m156 hB.1 (d161 hb ⟨fun e => ?_, fun e => ?_⟩)⟩
    · rw [if_pos (Or.inl (bI_0.mp e))] at hw
      exact ⟨1, by omega, rfl, rfl, rfl, i1, hi1, hw, hs⟩
    · have hd : dgt b n i1 = true := by
        cases hd : dgt b n i1 with
        | true => rfl
        | false => rw [hd] at e; exact absurd rfl e
      have hlt := (dgt_lt hd).1
      have go : ¬ (dgt b n i1 = false ∨ (pk b n i1 = 48 ∧ m = true ∧ mz = false)) → ∃ k, k < 3 * n + 19 ∧ some M = some M ∧ bI mz = bI mz ∧ (k = 3 * n + 18 ∧ ∃ m' i1, bI m = bI m' ∧ i1 < n ∧ wnR b n mz i = (if pk b n i1 = 48 then (if dgt b n (i1 + 1) then .inr (i1 + 1) else .inl (i1 + 1, m', 0)) else .inl ((dgF b n (n - i1) i1 0).1, m', (dgF b n (n - i1) i1 0).2)) ∧ NM t t' M s ch q i1) := fun z => by
        rw [if_neg z] at hw
        exact ⟨3 * n + 18, by omega, rfl, rfl, rfl, m, i1, rfl, hlt, hw, hs⟩
      refine ⟨fun em => go (fun z => ?_), fun em => ⟨fun ez => ⟨hK, m157 hB.1 ⟨fun e48 => go (fun z => ?_), fun e48 => ?_⟩⟩, fun ez => go (fun z => ?_)⟩⟩
      · rcases z with z | ⟨-, z, -⟩
        · rw [hd] at z; cases z
        · rw [bI_0.mp em] at z; cases z
      · have := bI_0.mp e48
        simp at this
        rcases z with z | ⟨z, -⟩
        · rw [hd] at z; cases z
        · exact this z
      · have hmt : m = true := by
          cases m with
          | true => rfl
          | false => exact absurd rfl em
        have e48' : pk b n i1 = 48 := by
          by_cases z : pk b n i1 = 48
          · exact z
          · exact absurd (by simp [z, bI]) e48
        rw [if_pos (Or.inr ⟨e48', hmt, bI_0.mp ez⟩)] at hw
        exact ⟨1, by omega, rfl, rfl, rfl, i1, hi1, hw, hs⟩
      · rcases z with z | ⟨-, -, z⟩
        · rw [hd] at z; cases z
        · exact ez (bI_0.mpr z)
  · rintro k l2 t' ⟨rfl, i1, hi1, hw, hs⟩
    have hB := h.x hs.1 hs.2.1 hs.2.2 (by omega)
    exact ⟨hB.1.1, mBad hB.1 (k2 i1 hw _ (BM_of n2 hs.1))⟩
  · rintro k l2 t' ⟨rfl, m, i1, rfl, hlt, hw, hs⟩
    have hs0 := NM.fl (x := 0) n1 hs
    have hB := h.x hs0.1 hs0.2.1 hs0.2.2 (by omega)
    have hK := hB.1.1
    have e9 : tI (sI t' M 9 0) M 9 = bI (decide (9007199254740991 < 0)) := by simp [ht, bI]
    unfold vc171_53
    refine ⟨hK, Or.inl rfl, hK, m157 hB.1 ⟨fun e => ?_, fun e => ⟨hK, hK, hK, ?_⟩⟩⟩
    · have e48 : ¬ pk b n i1 = 48 := by
        have := bI_0.mp e
        simpa using this
      rw [if_neg e48] at hw
      exact ⟨3 * (n - i1) + 5, by omega, rfl, rfl, m, n - i1, i1, 0, 0, rfl, rfl, rfl, by decide, fun _ => rfl, e9, by omega, Nat.le_refl _, hw, hs0⟩
    · have e48 : pk b n i1 = 48 := by
        by_cases z : pk b n i1 = 48
        · exact z
        · exact absurd (by simp [z, bI]) e
      rw [if_pos e48] at hw
      rw [hs0.2.1, nI_1]
      have hs1 := NM.to (j' := i1 + 1) n1 hs0
      have hB1 := h.x hs1.1 hs1.2.1 hs1.2.2 (by omega)
      have e91 : tI (sI (sI t' M 9 0) M 5 (nI (i1 + 1))) M 9 = bI (decide (9007199254740991 < 0)) := by simp [ht, bI]
      refine m156 hB1.1 (d161 hb ⟨fun e2 => ?_, fun e2 => ⟨hK, mBad hB1.1 (k2 (i1 + 1) ?_ _ (BM_of n2 hs1.1))⟩⟩)
      · have hd := bI_0.mp e2
        rw [hd] at hw
        refine ⟨3 * (n - (i1 + 1)) + 5, by omega, rfl, rfl, m, n - (i1 + 1), i1 + 1, 0, 0, rfl, rfl, rfl, by decide, fun _ => rfl, e91, by omega, Nat.le_refl _, ?_, hs1⟩
        rw [dgF_stop hd]; exact hw
      · have hd : dgt b n (i1 + 1) = true := by
          cases hd : dgt b n (i1 + 1) with
          | true => rfl
          | false => rw [hd] at e2; exact absurd rfl e2
        rw [hd] at hw
        exact hw
  · rintro k l2 l3 t' ⟨m, f, j, N, V, rfl, rfl, rfl, hV, hVN, h9, hj, hf, hw, hs⟩
    have hB := h.x hs.1 hs.2.1 hs.2.2 (by omega)
    have hK := hB.1.1
    refine ⟨hK, m156 hB.1 (d161 hb ⟨fun e => ?_, fun e => ⟨hK, m156 hB.1 ?_⟩⟩)⟩
    · rw [dgF_stop (bI_0.mp e)] at hw
      exact ⟨1, by omega, rfl, rfl, rfl, m, j, N, V, rfl, rfl, hVN, h9, hw, hs⟩
    · have hd : dgt b n j = true := by
        cases hd : dgt b n j with
        | true => rfl
        | false => rw [hd] at e; exact absurd rfl e
      obtain ⟨hlt, h48, h57⟩ := dgt_lt hd
      obtain ⟨f0, rfl⟩ : ∃ f0, f = f0 + 1 := ⟨f - 1, by omega⟩
      rw [dgF, hd] at hw
      have e9 : (10 : Int64) * lN V + (pk b n j).toInt64 - 48 = lN (10 * V + (b j - 48)) := by
        rw [pkI hlt, nI_l (by omega), show (10 : Int64) = lN 10 from rfl, lN_mul, lN_add, show (48 : Int64) = lN 48 from rfl, lN_sub (by omega)]
        congr 1; omega
      show br (lg_cmp ((10 : Int64) * lN V + (pk b n j).toInt64 - 48) 9007199254740991 ≤ 0) _ _
      rw [e9]
      have hle : lg_cmp (lN (10 * V + (b j - 48))) 9007199254740991 ≤ 0 ↔ 10 * V + (b j - 48) ≤ 9007199254740991 := by
        rw [lg_cmp_le]
        exact pk_lLE (b := 9007199254740991) (by omega) (by decide)
      refine ⟨fun e2 => ?_, fun e2 => ⟨hK, Or.inr rfl, ?_⟩⟩
      · have hv := hle.mp e2
        refine ⟨3 * (n - j) + 4, by omega, rfl, rfl, m, f0, j, 10 * N + (b j - 48), 10 * V + (b j - 48), rfl, rfl, rfl, hv, fun z => ?_, ?_, hlt, by omega, hw, hs⟩
        · rw [hVN (by omega)]
        · rw [h9]
          by_cases z : 9007199254740991 < N
          · have : 9007199254740991 < 10 * N + (b j - 48) := by omega
            simp [z, this]
          · have : ¬ 9007199254740991 < 10 * N + (b j - 48) := by have := hVN (by omega); omega
            simp [z, this]
      · have hv : ¬ 10 * V + (b j - 48) ≤ 9007199254740991 := fun z => e2 (hle.mpr z)
        have hN' : 9007199254740991 < 10 * N + (b j - 48) := by
          rcases Nat.lt_or_ge 9007199254740991 N with z | z
          · omega
          · have := hVN z; omega
        refine ⟨3 * (n - j) + 4, by omega, rfl, rfl, m, f0, j, 10 * N + (b j - 48), 0, rfl, rfl, rfl, by decide, fun z => by omega, ?_, hlt, by omega, hw, NM.fl n1 hs⟩
        simp [ht, bI, hN']
  · rintro k l2 l3 t' ⟨m, f, j, N, V, rfl, rfl, rfl, hV, hVN, h9, hj, hf, hw, hs⟩
    have hB := h.x hs.1 hs.2.1 hs.2.2 (by omega)
    have hK := hB.1.1
    unfold vc171_135
    rw [hs.2.1, nI_1]
    refine ⟨hK, hK, 3 * (n - (j + 1)) + 5, by omega, rfl, rfl, m, f, j + 1, N, V, rfl, rfl, rfl, hV, hVN, ?_, by omega, hf, hw, NM.to n1 hs⟩
    simp [ht, h9]
  · rintro k l2 l3 t' ⟨rfl, m, j, N, V, rfl, rfl, hVN, h9, hw, hs⟩
    have hK : tK t' M = 17 := by rw [hs.1.2.2.1]; exact h.1.1
    have fin : ∀ x, x = (if m then -(lN V) else lN V) → Post (.inl none) (sJ t' M 8 x) := fun x hx => by
      refine k1 j m N hw _ (NM.J hs) h9 (fun z => ?_)
      rw [hVN z] at hx
      simp [ht, hx, sgR]
    cases m with
    | false => exact ⟨fun _ => ⟨hK, fin _ rfl⟩, fun e => absurd rfl e⟩
    | true => exact ⟨fun e => absurd e (by decide), fun _ => ⟨hK, fin _ rfl⟩⟩
end MNU
