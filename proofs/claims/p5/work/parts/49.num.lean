/-! NUMBERS OF A TEXT -/
def dgt (b : By) (n i : Nat) : Bool := decide (i < n) && (decide (48 ≤ b i) && decide (b i ≤ 57))
theorem dgt_x {b : By} {n i : Nat} (hb : ∀ k, b k < 256) : (if pk b n i < 48 then (0 : Int32) else if 57 < pk b n i then 0 else 1) = bI (dgt b n i) := by
  unfold dgt bI
  by_cases h : i < n
  · have h8 := hb i
    rw [pkI h]
    by_cases h1 : b i < 48
    · rw [if_pos (show nI (b i) < (48 : Int32) from nI_lt (b := 48) h1 (by decide))]
      have : ¬ 48 ≤ b i := by omega
      simp [this]
    · rw [if_neg (show ¬ nI (b i) < (48 : Int32) from nI_nlt (b := 48) (by omega) (by omega))]
      by_cases h2 : 57 < b i
      · rw [if_pos (show (57 : Int32) < nI (b i) from nI_lt (a := 57) h2 (by omega))]
        have : ¬ b i ≤ 57 := by omega
        simp [this]
      · rw [if_neg (show ¬ (57 : Int32) < nI (b i) from nI_nlt (a := 57) (by omega) (by decide))]
        have e1 : 48 ≤ b i := by omega
        have e2 : b i ≤ 57 := by omega
        simp [h, e1, e2]
  · rw [pkO (Nat.not_lt.mp h)]
    simp [h]
theorem dgt_lt {b : By} {n i : Nat} (h : dgt b n i = true) : i < n ∧ 48 ≤ b i ∧ b i ≤ 57 := by
  unfold dgt at h
  simp at h
  exact h
def dgF (b : By) (n : Nat) : Nat → Nat → Nat → Nat × Nat
  | 0, i, N => (i, N)
  | f + 1, i, N => if dgt b n i then dgF b n f (i + 1) (10 * N + (b i - 48)) else (i, N)
theorem dgF_stop {b : By} {n f i N : Nat} (h : dgt b n i = false) : dgF b n f i N = (i, N) := by
  cases f with
  | zero => rfl
  | succ f => rw [dgF, h]; rfl
/-- the place behind an integer, its sign, its size; or the place of the fault -/
def wn1 (b : By) (n : Nat) (m mz : Bool) (i : Nat) : (Nat × Bool × Nat) ⊕ Nat :=
  if dgt b n i = false ∨ (pk b n i = 48 ∧ m = true ∧ mz = false) then .inr i else
  if pk b n i = 48 then .inl (i + 1, m, 0) else .inl ((dgF b n (n - i) i 0).1, m, (dgF b n (n - i) i 0).2)
def wnS (b : By) (n : Nat) (mz : Bool) (i : Nat) : (Nat × Bool × Nat) ⊕ Nat := if pk b n i = 45 then wn1 b n true mz (i + 1) else wn1 b n false mz i
/-- the component's number: beyond the greatest it stays there -/
def sgC (m : Bool) (N : Nat) : Int64 := if m then -(lN (min N 9007199254740992)) else lN (min N 9007199254740992)
section NUC
variable {C : Cx} {d : Nat} {Post : OutT → Ht → Prop} {t : Ht} {r tp : Nat} {b : By} {n i : Nat}
theorem d142 (hb : ∀ k, b k < 256) (k : Post (.inl (some (svI (bI (dgt b n i))))) t) : CalG C mtab (d + 1) 142 [svI (pk b n i)] t Post := c142 (by rw [dgt_x hb]; exact k)
theorem c253 {x y : Int64} (h : Post (.inl (some (svJ (if y < x then y else x)))) t) : CalG C mtab (d + 1) 253 [svJ x, svJ y] t Post := by
  refine cal253 ⟨fun e => ?_, fun e => ?_⟩
  · rw [if_pos ((lg_cmp_gt x y).mp e)] at h; exact h
  · rw [if_neg (fun z => e ((lg_cmp_gt x y).mpr z))] at h; exact h
theorem bI_0 {x : Bool} : bI x = 0 ↔ x = false := by cases x <;> decide
/-- wholeNumber -/
theorem r92 {mz : Bool} (h : RD t r tp b n i) (hi : i ≤ n) (k1 : ∀ j m N, wnS b n mz i = .inl (j, m, N) → Post (.inl (some (svJ (sgC m N)))) (sI t r 4 (nI j))) (k2 : ∀ p, wnS b n mz i = .inr p → Post (.inr (200, 0)) (flP t r p)) : CalG C mtab (d + 2) 92 [svR (some r), svI (bI mz)] t Post := by
  have hn : n ≤ 1200 := h.2.2.2.2.2.2.1
  have hb := h.2.2.2.2.2.2.2.2.1
  have hat := h.2.2.2.2.2.1
  refine cal92 (fun k l2 t' => k = n + 6 ∧ ∃ m, l2 = bI m ∧ (m = true ↔ pk b n i = 45) ∧ t' = t)
    (fun k l2 t' => k = n + 5 ∧ ∃ m i1, l2 = bI m ∧ wnS b n mz i = wn1 b n m mz i1 ∧ i1 ≤ n ∧ t' = sI t r 4 (nI i1))
    (fun k l2 l3 t' => k = n + 4 ∧ ∃ i1, i1 ≤ n ∧ wnS b n mz i = .inr i1 ∧ t' = sI t r 4 (nI i1))
    (fun k l2 l3 t' => k = n + 3 ∧ ∃ m i1, l2 = bI m ∧ l3 = pk b n i1 ∧ i1 < n ∧ wnS b n mz i = (if pk b n i1 = 48 then .inl (i1 + 1, m, 0) else .inl ((dgF b n (n - i1) i1 0).1, m, (dgF b n (n - i1) i1 0).2)) ∧ t' = sI t r 4 (nI i1))
    (fun k l2 l3 l4 t' => ∃ m f j N, k = n - j ∧ l2 = bI m ∧ l4 = lN (min N 9007199254740992) ∧ j ≤ n ∧ n - j ≤ f ∧ wnS b n mz i = .inl ((dgF b n f j N).1, m, (dgF b n f j N).2) ∧ t' = sI t r 4 (nI j)) ?_ ?_ ?_ ?_ ?_ ?_
  · exact ⟨h.1, r85 h ⟨fun e => ⟨n + 6, rfl, rfl, rfl, true, rfl, ⟨fun _ => e, fun _ => rfl⟩, rfl⟩, fun e => ⟨n + 6, rfl, rfl, rfl, false, rfl, ⟨(fun z => absurd z (by decide)), fun z => absurd z e⟩, rfl⟩⟩⟩
  · rintro k l2 t' ⟨rfl, m, rfl, hm, rfl⟩
    unfold vc92_15
    rw [hat, nI_1]
    cases m with
    | false =>
      refine ⟨fun _ => ⟨n + 5, by omega, rfl, rfl, rfl, false, i, rfl, ?_, hi, (sI_self hat).symm⟩, fun e => absurd rfl e⟩
      unfold wnS
      rw [if_neg (fun z => by have := hm.mpr z; cases this)]
    | true =>
      have e45 := hm.mp rfl
      refine ⟨fun e => absurd e (by decide), fun _ => ⟨h.1, h.1, n + 5, by omega, rfl, rfl, rfl, true, i + 1, rfl, ?_, ?_, rfl⟩⟩
      · unfold wnS; rw [if_pos e45]
      · have := (pk_nn e45 (by decide)).1; omega
  · rintro k l2 t' ⟨rfl, m, i1, rfl, hw, hi1, rfl⟩
    have hR := h.to (j := i1) (by omega)
    unfold wn1 at hw
    refine ⟨h.1, r85 hR (d142 hb ⟨fun e => ?_, fun e => ?_⟩)⟩
    · rw [if_pos (Or.inl (bI_0.mp e))] at hw
      exact ⟨n + 4, by omega, rfl, rfl, rfl, i1, hi1, hw, rfl⟩
    · have hd : dgt b n i1 = true := by
        cases hd : dgt b n i1 with
        | true => rfl
        | false => rw [hd] at e; exact absurd rfl e
      have hlt := (dgt_lt hd).1
      refine ⟨fun e48 => ⟨fun em => ?_, fun em => ⟨fun ez => ?_, fun ez => ?_⟩⟩, fun e48 => ?_⟩
      · rw [if_neg (fun z => by
          rcases z with z | ⟨-, z, -⟩
          · rw [hd] at z; cases z
          · rw [bI_0.mp em] at z; cases z)] at hw
        exact ⟨n + 3, by omega, rfl, rfl, rfl, m, i1, rfl, rfl, hlt, hw, rfl⟩
      · have hmt : m = true := by
          cases m with
          | true => rfl
          | false => exact absurd rfl em
        rw [if_pos (Or.inr ⟨e48, hmt, bI_0.mp ez⟩)] at hw
        exact ⟨n + 4, by omega, rfl, rfl, rfl, i1, hi1, hw, rfl⟩
      · rw [if_neg (fun z => by
          rcases z with z | ⟨-, -, z⟩
          · rw [hd] at z; cases z
          · exact ez (bI_0.mpr z))] at hw
        exact ⟨n + 3, by omega, rfl, rfl, rfl, m, i1, rfl, rfl, hlt, hw, rfl⟩
      · rw [if_neg (fun z => by
          rcases z with z | ⟨z, -⟩
          · rw [hd] at z; cases z
          · exact e48 z)] at hw
        exact ⟨n + 3, by omega, rfl, rfl, rfl, m, i1, rfl, rfl, hlt, hw, rfl⟩
  · rintro k l2 l3 t' ⟨rfl, i1, hi1, hw, rfl⟩
    have hat1 : tI (sI t r 4 (nI i1)) r 4 = nI i1 := (h.to (j := i1) (by omega)).2.2.2.2.2.1
    unfold vc92_55
    rw [hat1]
    exact ⟨h.1, h.1, c83 h.1 (k2 i1 hw)⟩
  · rintro k l2 l3 t' ⟨rfl, m, i1, rfl, rfl, hlt, hw, rfl⟩
    have hat1 : tI (sI t r 4 (nI i1)) r 4 = nI i1 := (h.to (j := i1) (by omega)).2.2.2.2.2.1
    unfold vc92_64
    rw [hat1, nI_1, sI_sI]
    refine ⟨fun e => ⟨h.1, h.1, ?_⟩, fun e => ?_⟩
    · rw [if_pos e] at hw
      have := k1 _ _ _ hw
      cases m <;> exact this
    · rw [if_neg e] at hw
      exact ⟨n - i1, by omega, rfl, rfl, m, n - i1, i1, 0, rfl, rfl, rfl, by omega, Nat.le_refl _, hw, rfl⟩
  · rintro k l2 l3 l4 t' ⟨m, f, j, N, rfl, rfl, rfl, hj, hf, hw, rfl⟩
    have hR := h.to (j := j) (by omega)
    have hat1 : tI (sI t r 4 (nI j)) r 4 = nI j := hR.2.2.2.2.2.1
    have he3 : tI (sI t r 4 (nI j)) r 3 = nI n := hR.2.2.2.2.1
    have fin : dgt b n j = false → br (bI m = 0) (Post (.inl (some (svJ (lN (min N 9007199254740992))))) (sI t r 4 (nI j))) (Post (.inl (some (svJ (-(lN (min N 9007199254740992)))))) (sI t r 4 (nI j))) := fun hd => by
      rw [dgF_stop hd] at hw
      have := k1 _ _ _ hw
      cases m with
      | false => exact ⟨fun _ => this, fun e => absurd rfl e⟩
      | true => exact ⟨fun e => absurd e (by decide), fun _ => this⟩
    unfold vc92_85
    rw [hat1, he3]
    refine ⟨h.1, h.1, fun e => fin ?_, fun e => ⟨h.1, r85 hR (d142 hb ⟨fun e2 => fin (bI_0.mp e2), fun e2 => ⟨h.1, r85 hR (c253 ?_)⟩⟩)⟩⟩
    · have : n ≤ j := by
        rcases Nat.lt_or_ge j n with z | z
        · exact absurd e (nI_ge z (by omega))
        · exact z
      unfold dgt
      simp; omega
    · have hd : dgt b n j = true := by
        cases hd : dgt b n j with
        | true => rfl
        | false => rw [hd] at e2; exact absurd rfl e2
      obtain ⟨hlt, h48, h57⟩ := dgt_lt hd
      obtain ⟨f0, rfl⟩ : ∃ f0, f = f0 + 1 := ⟨f - 1, by omega⟩
      have e9 : lN (min N 9007199254740992) * 10 + (pk b n j - 48).toInt64 = lN (min N 9007199254740992 * 10 + (b j - 48)) := by
        rw [pkI hlt, show (48 : Int32) = nI 48 from rfl, pk_sub h48, nI_l (by omega), show (10 : Int64) = lN 10 from rfl, lN_mul, lN_add]
      have hmin : min N 9007199254740992 ≤ 9007199254740992 := Nat.min_le_right _ _
      have ev : (if (9007199254740992 : Int64) < lN (min N 9007199254740992 * 10 + (b j - 48)) then (9007199254740992 : Int64) else lN (min N 9007199254740992 * 10 + (b j - 48))) = lN (min (10 * N + (b j - 48)) 9007199254740992) := by
        by_cases q : 9007199254740992 < min N 9007199254740992 * 10 + (b j - 48)
        · rw [if_pos (show (9007199254740992 : Int64) < _ from (pk_lLT (a := 9007199254740992) (by decide) (by omega)).mpr q)]
          rw [show min (10 * N + (b j - 48)) 9007199254740992 = 9007199254740992 by omega]
          rfl
        · rw [if_neg (show ¬ (9007199254740992 : Int64) < _ from fun z => q ((pk_lLT (a := 9007199254740992) (by decide) (by omega)).mp z))]
          rw [show min (10 * N + (b j - 48)) 9007199254740992 = min N 9007199254740992 * 10 + (b j - 48) by omega]
      rw [e9, ev]
      refine ⟨h.1, h.1, n - (j + 1), by omega, rfl, rfl, m, f0, j + 1, 10 * N + (b j - 48), rfl, rfl, rfl, by omega, by omega, ?_, ?_⟩
      · rw [dgF, hd] at hw; exact hw
      · rw [hat1, nI_1, sI_sI]
end NUC
