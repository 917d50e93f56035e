/-! ESCAPES -/
def flP (t : Ht) (r p : Nat) : Ht := flH (sI t r 4 (nI p)) r 1 (nI p)
/-- what a \ at i stands for, and the place behind it; or the place of the fault -/
def esS (b : By) (n : Nat) (q : Int32) (i : Nat) : (Nat × Nat) ⊕ Nat :=
  if pk b n (i + 1) = q ∨ pk b n (i + 1) = 92 ∨ pk b n (i + 1) = 47 then .inl (b (i + 1), i + 2) else
  if pk b n (i + 1) = 98 then .inl (8, i + 2) else
  if pk b n (i + 1) = 102 then .inl (12, i + 2) else
  if pk b n (i + 1) = 110 then .inl (10, i + 2) else
  if pk b n (i + 1) = 114 then .inl (13, i + 2) else
  if pk b n (i + 1) = 116 then .inl (9, i + 2) else
  if pk b n (i + 1) = 117 then (match hx4 b n false (i + 2) with
    | .inr p => .inr p
    | .inl v => if v < 55296 ∨ 56319 < v then .inl (v, i + 6) else
      if pk b n (i + 6) = 92 then (if pk b n (i + 7) = 117 then (match hx4 b n true (i + 8) with
        | .inr p => .inr p
        | .inl w => .inl (65536 + v % 1024 * 1024 + w % 1024, i + 12)) else .inr (i + 7)) else .inr (i + 6)) else .inr (i + 1)
theorem hxF_lt {b : By} {n i : Nat} {low : Bool} : ∀ (f v x : Nat), hxF b n low i f v = .inl x → x < (v + 1) * 16 ^ f
  | 0, v, x, h => by
    cases h
    simp
  | f + 1, v, x, h => by
    unfold hxF at h
    cases hd : hxA b n (i + (3 - f)) with
    | none => rw [hd] at h; cases h
    | some dd =>
      rw [hd] at h
      have hlt := (hxA_lt hd).1
      dsimp only at h
      split at h
      · have := hxF_lt f (v * 16 + dd) x h
        have e : (v + 1) * 16 ^ (f + 1) = (v * 16 + 16) * 16 ^ f := by rw [Nat.pow_succ, ← Nat.mul_assoc, Nat.mul_right_comm]; congr 1; omega
        rw [e]
        exact Nat.lt_of_lt_of_le this (Nat.mul_le_mul_right _ (by omega))
      · cases h
theorem hx4_lt {b : By} {n i x : Nat} {low : Bool} (h : hx4 b n low i = .inl x) : x < 65536 := by
  have := hxF_lt 4 0 x h
  simpa using this
theorem hxF_in {b : By} {n i : Nat} {low : Bool} : ∀ (f v x : Nat), hxF b n low i (f + 1) v = .inl x → i + 3 < n
  | 0, v, x, h => by
    unfold hxF at h
    cases hd : hxA b n (i + (3 - 0)) with
    | none => rw [hd] at h; cases h
    | some dd => exact (hxA_lt hd).2
  | f + 1, v, x, h => by
    unfold hxF at h
    cases hd : hxA b n (i + (3 - (f + 1))) with
    | none => rw [hd] at h; cases h
    | some dd =>
      rw [hd] at h
      dsimp only at h
      split at h
      · exact hxF_in f _ x h
      · cases h
theorem pk_nn {b : By} {n i : Nat} {x : Int32} (h : pk b n i = x) (hx : ¬ x < 0) : i < n ∧ nI (b i) = x := by
  by_cases e : i < n
  · rw [pkI e] at h; exact ⟨e, h⟩
  · rw [pkO (Nat.not_lt.mp e)] at h; subst h; exact absurd (by decide) hx
section ESC
variable {C : Cx} {d : Nat} {Post : OutT → Ht → Prop} {t : Ht} {r tp : Nat} {b : By} {n i : Nat}
theorem r98 {q : Int32} (hq : q = 34 ∨ q = 39) (h : RD t r tp b n i) (hi : i < n) (k1 : ∀ c j, esS b n q i = .inl (c, j) → Post (.inl (some (svI (nI c)))) (sI t r 4 (nI j))) (k2 : ∀ p, esS b n q i = .inr p → Post (.inr (200, 0)) (flP t r p)) : CalG C mtab (d + 3) 98 [svR (some r), svI q] t Post := by
  have hn : n ≤ 1200 := h.2.2.2.2.2.2.1
  have hb := h.2.2.2.2.2.2.2.2.1
  have hat := h.2.2.2.2.2.1
  have hR1 := h.to (j := i + 1) (by omega)
  have hat1 : tI (sI t r 4 (nI (i + 1))) r 4 = nI (i + 1) := hR1.2.2.2.2.2.1
  have hq0 : ¬ q < 0 ∧ ¬ q = 117 := by rcases hq with rfl | rfl <;> decide
  refine cal98 (fun k l2 l3 t' => k = 2 ∧ l2 = pk b n (i + 1) ∧ t' = sI t r 4 (nI (i + 1)) ∧ l3 = (if pk b n (i + 1) = q ∨ pk b n (i + 1) = 92 ∨ pk b n (i + 1) = 47 then pk b n (i + 1) else f99 (pk b n (i + 1))))
    (fun k l2 l3 t' => k = 1 ∧ l2 = pk b n (i + 1) ∧ t' = sI t r 4 (nI (i + 1)) ∧ l3 = (if pk b n (i + 1) = q ∨ pk b n (i + 1) = 92 ∨ pk b n (i + 1) = 47 then pk b n (i + 1) else f99 (pk b n (i + 1))) ∧ (0 ≤ l3 ∨ l2 = 117)) ?_ ?_ ?_
  · unfold vc98
    rw [hat, nI_1]
    refine ⟨h.1, h.1, h.1, r85 hR1 ⟨fun e => ?_, fun e1 => ⟨fun e => ?_, fun e2 => ⟨fun e => ?_, fun e3 => p99 ?_⟩⟩⟩⟩
    · exact ⟨2, rfl, rfl, rfl, rfl, rfl, by rw [if_pos (Or.inl e)]⟩
    · exact ⟨2, rfl, rfl, rfl, rfl, rfl, by rw [if_pos (Or.inr (Or.inl e))]⟩
    · exact ⟨2, rfl, rfl, rfl, rfl, rfl, by rw [if_pos (Or.inr (Or.inr e))]⟩
    · exact ⟨2, rfl, rfl, rfl, rfl, rfl, by rw [if_neg (fun z => z.elim e1 (fun z => z.elim e2 e3))]⟩
  · rintro k l2 l3 t' ⟨rfl, rfl, rfl, hl3⟩
    unfold vc98_41
    rw [hat1]
    refine ⟨fun e => ⟨1, by decide, rfl, rfl, rfl, rfl, rfl, hl3, Or.inl e⟩, fun e => ⟨fun e2 => ⟨1, by decide, rfl, rfl, rfl, rfl, rfl, hl3, Or.inr e2⟩, fun e2 => ⟨h.1, h.1, c83 h.1 (k2 (i + 1) ?_)⟩⟩⟩
    have hno : ¬ (pk b n (i + 1) = q ∨ pk b n (i + 1) = 92 ∨ pk b n (i + 1) = 47) := fun z => by
      rw [if_pos z] at hl3
      refine e ?_
      rw [hl3]
      rcases z with z | z | z
      · rw [z]; exact Int32.not_lt.mp hq0.1
      · rw [z]; decide
      · rw [z]; decide
    rw [if_neg hno] at hl3
    unfold f99 at hl3
    unfold esS
    rw [if_neg hno]
    by_cases c1 : pk b n (i + 1) = 98
    · rw [if_pos c1] at hl3; subst hl3; exact absurd (by decide) e
    rw [if_neg c1] at hl3 ⊢
    by_cases c2 : pk b n (i + 1) = 102
    · rw [if_pos c2] at hl3; subst hl3; exact absurd (by decide) e
    rw [if_neg c2] at hl3 ⊢
    by_cases c3 : pk b n (i + 1) = 110
    · rw [if_pos c3] at hl3; subst hl3; exact absurd (by decide) e
    rw [if_neg c3] at hl3 ⊢
    by_cases c4 : pk b n (i + 1) = 114
    · rw [if_pos c4] at hl3; subst hl3; exact absurd (by decide) e
    rw [if_neg c4] at hl3 ⊢
    by_cases c5 : pk b n (i + 1) = 116
    · rw [if_pos c5] at hl3; subst hl3; exact absurd (by decide) e
    rw [if_neg c5, if_neg e2]
  · rintro k l2 l3 t' ⟨rfl, rfl, rfl, hl3, hor⟩
    unfold vc98_60
    rw [hat1, nI_1, sI_sI]
    refine ⟨h.1, h.1, fun e => ?_, fun e => ?_⟩
    · have hno : ¬ (pk b n (i + 1) = q ∨ pk b n (i + 1) = 92 ∨ pk b n (i + 1) = 47) := fun z => by
        rw [e] at z
        rcases z with z | z | z
        · exact hq0.2 z.symm
        · exact absurd z (by decide)
        · exact absurd z (by decide)
      obtain ⟨hlt1, -⟩ := pk_nn e (by decide)
      have hes : esS b n q i = (match hx4 b n false (i + 2) with
          | .inr p => .inr p
          | .inl v => if v < 55296 ∨ 56319 < v then .inl (v, i + 6) else
            if pk b n (i + 6) = 92 then (if pk b n (i + 7) = 117 then (match hx4 b n true (i + 8) with
              | .inr p => .inr p
              | .inl w => .inl (65536 + v % 1024 * 1024 + w % 1024, i + 12)) else .inr (i + 7)) else .inr (i + 6)) := by
        unfold esS
        rw [if_neg hno]
        simp only [e]
        rfl
      have hR2 := h.to (j := i + 2) (by omega)
      refine ⟨h.1, r100 (low := false) hR2 (by omega) (fun v hv => ?_) (fun p hp => ?_)⟩
      · rw [sI_sI]
        rw [hv] at hes
        dsimp only at hes
        have hv16 := hx4_lt hv
        have hv6 := hxF_in 3 0 v hv
        have hR6 := h.to (j := i + 2 + 4) (by omega)
        refine ⟨fun e1 => ?_, fun e1 => ⟨fun e2 => ⟨h.1, r88 hR6 (fun e3 => ?_) (fun e3 => ?_)⟩, fun e2 => ?_⟩⟩
        · have : v < 55296 := (nI_ltI (b := 55296) (by omega) (by decide)).mp e1
          exact k1 v (i + 6) (by rw [hes, if_pos (Or.inl this)])
        · obtain ⟨hlt6, -⟩ := pk_nn e3 (by decide)
          have v1 : ¬ (v < 55296 ∨ 56319 < v) := fun z => by
            rcases z with z | z
            · exact e1 (nI_lt (b := 55296) z (by decide))
            · exact absurd e2 (nI_ge (a := 56319) z (by omega))
          rw [if_neg v1, if_pos e3] at hes
          rw [sI_sI]
          have hR7 := h.to (j := i + 2 + 4 + 1) (by omega)
          refine ⟨rfl, h.1, r88 hR7 (fun e4 => ?_) (fun e4 => ?_)⟩
          · obtain ⟨hlt7, -⟩ := pk_nn e4 (by decide)
            rw [if_pos e4] at hes
            rw [sI_sI]
            have hR8 := h.to (j := i + 2 + 4 + 1 + 1) (by omega)
            refine ⟨rfl, h.1, r100 (low := true) hR8 (by omega) (fun w hw => ?_) (fun p hp => ?_)⟩
            · have hw16 := hx4_lt hw
              rw [sI_sI]
              rw [hw] at hes
              have ev : (nI v &&& 1023) = nI (v % 1024) := pk_andN (by omega) 10 (by decide)
              have ew : (nI w &&& 1023) = nI (w % 1024) := pk_andN (by omega) 10 (by decide)
              have es := pk_shlN (n := v % 1024) ((10 : Int32) &&& 31) 10 (by decide) (by omega)
              show Post (.inl (some (svI ((65536 + ((nI v &&& 1023) <<< ((10 : Int32) &&& 31))) + (nI w &&& 1023))))) _
              rw [ev, ew, es, show (65536 : Int32) = nI 65536 from rfl, nI_add, nI_add]
              exact k1 (65536 + v % 1024 * 1024 + w % 1024) (i + 12) hes
            · rw [hp] at hes
              have := k2 p hes
              unfold flP at this
              rw [sI_sI]
              exact this
          · rw [if_neg e4] at hes
            have := k2 (i + 7) hes
            exact this
        · have v1 : ¬ (v < 55296 ∨ 56319 < v) := fun z => by
            rcases z with z | z
            · exact e1 (nI_lt (b := 55296) z (by decide))
            · exact absurd e2 (nI_ge (a := 56319) z (by omega))
          rw [if_neg v1, if_neg e3] at hes
          have := k2 (i + 6) hes
          exact this
        · have : 56319 < v := by
            rcases Nat.lt_or_ge 56319 v with z | z
            · exact z
            · exact absurd (nI_le (b := 56319) z (by decide)) e2
          exact k1 v (i + 6) (by rw [hes, if_pos (Or.inr this)])
      · rw [hp] at hes
        have := k2 p hes
        unfold flP at this
        rw [sI_sI]
        exact this
    · by_cases hy : pk b n (i + 1) = q ∨ pk b n (i + 1) = 92 ∨ pk b n (i + 1) = 47
      · rw [if_pos hy] at hl3
        have hlt : i + 1 < n := by
          rcases hy with z | z | z
          · exact (pk_nn z hq0.1).1
          · exact (pk_nn z (by decide)).1
          · exact (pk_nn z (by decide)).1
        rw [hl3, pkI hlt]
        exact k1 (b (i + 1)) (i + 2) (by unfold esS; rw [if_pos hy])
      · rw [if_neg hy] at hl3
        have h0 : 0 ≤ l3 := by
          rcases hor with z | z
          · exact z
          · exact absurd z e
        unfold f99 at hl3
        unfold esS at k1
        rw [if_neg hy] at k1
        by_cases c1 : pk b n (i + 1) = 98
        · rw [if_pos c1] at hl3; rw [if_pos c1] at k1; rw [hl3]; exact k1 8 (i + 2) rfl
        rw [if_neg c1] at hl3 k1
        by_cases c2 : pk b n (i + 1) = 102
        · rw [if_pos c2] at hl3; rw [if_pos c2] at k1; rw [hl3]; exact k1 12 (i + 2) rfl
        rw [if_neg c2] at hl3 k1
        by_cases c3 : pk b n (i + 1) = 110
        · rw [if_pos c3] at hl3; rw [if_pos c3] at k1; rw [hl3]; exact k1 10 (i + 2) rfl
        rw [if_neg c3] at hl3 k1
        by_cases c4 : pk b n (i + 1) = 114
        · rw [if_pos c4] at hl3; rw [if_pos c4] at k1; rw [hl3]; exact k1 13 (i + 2) rfl
        rw [if_neg c4] at hl3 k1
        by_cases c5 : pk b n (i + 1) = 116
        · rw [if_pos c5] at hl3; rw [if_pos c5] at k1; rw [hl3]; exact k1 9 (i + 2) rfl
        rw [if_neg c5] at hl3
        rw [hl3] at h0
        exact absurd h0 (by decide)
end ESC
