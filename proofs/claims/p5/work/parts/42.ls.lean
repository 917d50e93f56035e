/-! LISTS: the list at a holds xs in an array e of c places (c = 0: no array of its own yet) -/
def LsA (C : Cx) (t : Ht) (a : Nat) (xs : List Nat) (c e : Nat) : Prop := tK t a = 1 ∧ tI t a 2 = nI xs.length ∧ xs.length ≤ c ∧ c ≤ 30000000 ∧ a < tN t ∧
  ((c = 0 ∧ tR t a 1 = cG C 2) ∨ (10 ≤ c ∧ tR t a 1 = some e ∧ a ≠ e ∧ e < tN t ∧ tK t e = 103 ∧ tL t e = c ∧ ∀ k, k < xs.length → tR t e k = xs[k]?))
def gr (c : Nat) : Nat := if c = 0 then 10 else c + c / 2
section LS1
variable {C : Cx} {d : Nat} {Post : OutT → Ht → Prop} {t : Ht} {a : Nat}
theorem LsA.frame {t' : Ht} {xs : List Nat} {c e : Nat} (h : LsA C t a xs c e) (hN : tN t ≤ tN t') (h1 : sameAt t t' a) (h2 : 0 < c → sameAt t t' e) : LsA C t' a xs c e := by
  obtain ⟨g1, g2, g3, g4, g5, g6⟩ := h
  obtain ⟨s1, s2, s3, s4, s5⟩ := h1
  refine ⟨by rw [s1]; exact g1, by rw [s3]; exact g2, g3, g4, by omega, ?_⟩
  rcases g6 with ⟨q1, q2⟩ | ⟨q1, q2, q3, q4, q5, q6, q7⟩
  · exact Or.inl ⟨q1, by rw [s5]; exact q2⟩
  · obtain ⟨z1, z2, z3, z4, z5⟩ := h2 (by omega)
    exact Or.inr ⟨q1, by rw [s5]; exact q2, q3, by omega, by rw [z1]; exact q5, by rw [z2]; exact q6, fun k hk => by rw [z5]; exact q7 k hk⟩
set_option maxRecDepth 20000 in
theorem s272a {x : Nat} (ha : a < tN t) (hk : tK t a = 1) (hz : tI t a 2 = 0) (hr : tR t a 1 = cG C 2) (hxN : x < tN t) (hx : kE (tK t x)) (k : Post (.inl none) (sI (sR (sR (tNew t 103 10 10) a 1 (some (tN t))) (tN t) 0 (some x)) a 2 1)) : CalG C mtab (d + 6) 272 [svR (some a), svR (some x), svR (cG C 2), svI 0] t Post := by
  have hne : ¬ a = tN t := by omega
  have hxe : ¬ x = tN t := by omega
  refine cal_WG mo272 (Nat.le_of_ble_eq_true rfl) ?_
  cases hg : cG C 2 with
  | none => exact ⟨_, _, k, by show tN t ≤ tN t + 1; omega, by show tU t ≤ tU t + 10; omega, gd_noE hg⟩
  | some g =>
    refine wseg (X := X272) [2] 4 pj5_ok X272_ok ?_
    show WG C (Mof mE272) (d + 5 + 1) t Post 2 _ [svR (some g), svI 0] t
    refine wg_gd 3 [svI 0, svI 0] (fun o' h' z => gd_lenE hg (k272_d (2, .arraylength, 1) (by simp [k272])) z) ?_
    refine wseg (X := X272) [] 18 pj5_ok X272_ok ?_
    refine ⟨fun _ => ⟨hk, ?_⟩, fun q => absurd rfl q⟩
    refine s268a ha hk hz hr ?_
    have k1 : tK (sR (tNew t 103 10 10) a 1 (some (tN t))) (tN t) = 103 := by simp [ht]
    have l1 : tL (sR (tNew t 103 10 10) a 1 (some (tN t))) (tN t) = 10 := by simp [ht]
    have kx : tK (sR (tNew t 103 10 10) a 1 (some (tN t))) x = tK t x := by simp [ht, hxe]
    refine ⟨by rw [k1]; decide, by rw [k1]; decide, by rw [l1]; exact vp_in_nI (n := 0) (by decide) (by decide), ?_, ?_⟩
    · show okA (tK (sR (tNew t 103 10 10) a 1 (some (tN t))) (tN t)) (tK (sR (tNew t 103 10 10) a 1 (some (tN t))) x)
      rw [k1, kx]; exact okA_of hx
    · refine ⟨by simp [ht, hne, hk], ?_⟩
      exact k
set_option maxRecDepth 20000 in
theorem s272c {e c x : Nat} (ha : a < tN t) (hk : tK t a = 1) (hz : tI t a 2 = nI c) (hr : tR t a 1 = some e) (hne : a ≠ e) (he : e < tN t) (hke : tK t e = 103) (hl : tL t e = c) (hc : 10 ≤ c) (hc2 : c ≤ 20000000) (hel : ∀ j, j < c → ∃ y, tR t e j = some y ∧ y < tN t ∧ kE (tK t y)) (hxN : x < tN t) (hx : kE (tK t x))
    (k : Post (.inl none) (sI (sR (sR (cpR (tNew t 103 (c + c / 2) (c + c / 2)) e (tN t) c) a 1 (some (tN t))) (tN t) c (some x)) a 2 (nI (c + 1)))) : CalG C mtab (d + 6) 272 [svR (some a), svR (some x), svR (some e), svI (nI c)] t Post := by
  have hne' : ¬ a = tN t := by omega
  have hxe : ¬ x = tN t := by omega
  refine cal_WG mo272 (Nat.le_of_ble_eq_true rfl) ?_
  refine wseg (X := X272) [] 20 pj5_ok X272_ok ?_
  refine ⟨by rw [hke]; decide, by rw [hke]; decide, fun _ => ⟨hk, ?_⟩, fun q => absurd (by rw [hl]) q⟩
  refine s268b ha hk hz hr he hke hl hc (by omega) hel ?_
  have k1 : tK (sR (cpR (tNew t 103 (c + c / 2) (c + c / 2)) e (tN t) c) a 1 (some (tN t))) (tN t) = 103 := by show tK (tNew t 103 (c + c / 2) (c + c / 2)) (tN t) = 103; simp [ht]
  have l1 : tL (sR (cpR (tNew t 103 (c + c / 2) (c + c / 2)) e (tN t) c) a 1 (some (tN t))) (tN t) = c + c / 2 := by show tL (tNew t 103 (c + c / 2) (c + c / 2)) (tN t) = _; simp [ht]
  have kx : tK (sR (cpR (tNew t 103 (c + c / 2) (c + c / 2)) e (tN t) c) a 1 (some (tN t))) x = tK t x := by show tK (tNew t 103 (c + c / 2) (c + c / 2)) x = _; simp [ht, hxe]
  refine ⟨by rw [k1]; decide, by rw [k1]; decide, by rw [l1]; exact vp_in_nI (by omega) (by omega), ?_, ?_⟩
  · show okA (tK (sR (cpR (tNew t 103 (c + c / 2) (c + c / 2)) e (tN t) c) a 1 (some (tN t))) (tN t)) (tK (sR (cpR (tNew t 103 (c + c / 2) (c + c / 2)) e (tN t) c) a 1 (some (tN t))) x)
    rw [k1, kx]; exact okA_of hx
  · refine ⟨?_, ?_⟩
    · show tK (tNew t 103 (c + c / 2) (c + c / 2)) a = 1; simp [ht, hne', hk]
    · rw [nI_clamp (by omega)]
      show Post (.inl none) (sI (sR (sR (cpR (tNew t 103 (c + c / 2) (c + c / 2)) e (tN t) c) a 1 (some (tN t))) (tN t) c (some x)) a 2 (nI c + 1))
      rw [nI_1]
      exact k
/-- what add leaves -/
def AddF (t t' : Ht) (a c e n c' e' : Nat) : Prop := (∀ b, b < tN t → b ≠ a → (0 < c → b ≠ e) → sameAt t t' b) ∧ ((n < c ∧ c' = c ∧ e' = e ∧ tN t' = tN t ∧ tU t' = tU t) ∨ (c = n ∧ c' = gr c ∧ e' = tN t ∧ tN t' = tN t + 1 ∧ tU t' = tU t + gr c))
theorem s272 {xs : List Nat} {c e x : Nat} (h : LsA C t a xs c e) (hc : c ≤ 20000000) (hxs : ∀ y ∈ xs, y < tN t ∧ kE (tK t y)) (hxN : x < tN t) (hx : kE (tK t x)) (hxa : x ≠ a)
    (k : ∀ t' c' e', LsA C t' a (xs ++ [x]) c' e' → AddF t t' a c e xs.length c' e' → Post (.inl none) t') : CalG C mtab (d + 6) 272 [svR (some a), svR (some x), svR (tR t a 1), svI (tI t a 2)] t Post := by
  obtain ⟨g1, g2, g3, g4, g5, g6⟩ := h
  rcases g6 with ⟨q1, q2⟩ | ⟨q1, q2, q3, q4, q5, q6, q7⟩
  · have hnil : xs = [] := List.eq_nil_of_length_eq_zero (by omega)
    subst hnil
    subst q1
    rw [q2, g2]
    have hne : ¬ a = tN t := by omega
    have hne' : ¬ tN t = a := by omega
    refine s272a g5 g1 g2 q2 hxN hx (k _ 10 (tN t) ⟨?_, ?_, by simp, by decide, ?_, Or.inr ⟨by decide, ?_, by omega, ?_, ?_, ?_, ?_⟩⟩ ⟨?_, Or.inr ⟨rfl, rfl, rfl, ?_, ?_⟩⟩)
    · simp [ht, hne, g1]
    · simp [ht]; rfl
    · simp [ht]; omega
    · simp [ht, hne]
    · simp [ht]
    · simp [ht]
    · simp [ht]
    · intro j hj
      have : j = 0 := by simp at hj; omega
      subst this
      simp [ht, hne']
    · intro b hb hba _
      have hbt : ¬ b = tN t := by omega
      refine ⟨?_, ?_, fun j => ?_, fun j => ?_, fun j => ?_⟩ <;> simp [ht, hba, hbt]
    · simp [ht]
    · simp [ht, gr]
  · rw [q2, g2]
    have hne : ¬ a = tN t := by omega
    have hne' : ¬ tN t = a := by omega
    have hea : ¬ e = a := fun z => q3 z.symm
    have het : ¬ e = tN t := by omega
    by_cases hlt : xs.length < c
    · refine s272b g1 q2 q3 q5 q6 hlt (by omega) hx (k _ c e ⟨?_, ?_, ?_, g4, ?_, Or.inr ⟨q1, ?_, q3, ?_, ?_, ?_, ?_⟩⟩ ⟨?_, Or.inl ⟨hlt, rfl, rfl, rfl, rfl⟩⟩)
      · simp [ht, g1]
      · simp [ht]
      · simp; omega
      · exact g5
      · simp [ht, q3, q2]
      · exact q4
      · simp [ht, q5]
      · simp [ht, q6]
      · intro j hj
        simp at hj
        by_cases hjn : j = xs.length
        · subst hjn; simp [ht]
        · have hj2 : j < xs.length := by omega
          rw [List.getElem?_append_left hj2]
          simp [ht, hjn, q7 j hj2]
      · intro b hb hba hbe
        have hbe' : ¬ b = e := hbe (by omega)
        refine ⟨?_, ?_, fun j => ?_, fun j => ?_, fun j => ?_⟩ <;> simp [ht, hba, hbe']
    · have hcl : c = xs.length := by omega
      have hel : ∀ j, j < c → ∃ y, tR t e j = some y ∧ y < tN t ∧ kE (tK t y) := fun j hj => by
        have hj2 : j < xs.length := by omega
        have e1 := q7 j hj2
        rw [List.getElem?_eq_getElem hj2] at e1
        obtain ⟨w1, w2⟩ := hxs _ (List.getElem_mem hj2)
        exact ⟨_, e1, w1, w2⟩
      have e0 : nI xs.length = nI c := by rw [hcl]
      have hgr : gr c = c + c / 2 := by unfold gr; rw [if_neg (by omega)]
      rw [e0]
      refine s272c g5 g1 (by rw [g2, e0]) q2 q3 q4 q5 q6 q1 hc hel hxN hx (k _ (c + c / 2) (tN t) ⟨?_, ?_, ?_, by omega, ?_, Or.inr ⟨by omega, ?_, by omega, ?_, ?_, ?_, ?_⟩⟩ ⟨?_, Or.inr ⟨hcl, hgr.symm, rfl, ?_, ?_⟩⟩)
      · show tK (tNew t 103 (c + c / 2) (c + c / 2)) a = 1; simp [ht, hne, g1]
      · simp [ht]; rw [hcl]
      · simp; omega
      · show a < tN t + 1; omega
      · simp [ht, hne]
      · show tN t < tN t + 1; omega
      · show tK (tNew t 103 (c + c / 2) (c + c / 2)) (tN t) = 103; simp [ht]
      · show tL (tNew t 103 (c + c / 2) (c + c / 2)) (tN t) = _; simp [ht]
      · intro j hj
        simp at hj
        by_cases hjn : j = c
        · subst hjn; simp [ht, hcl]
        · have hj2 : j < xs.length := by omega
          have hjc : j < c := by omega
          have : tR (cpR (tNew t 103 (c + c / 2) (c + c / 2)) e (tN t) c) (tN t) j = tR t e j := by
            show (if tN t = tN t then (if j < c then tR (tNew t 103 (c + c / 2) (c + c / 2)) e j else _) else _) = _
            rw [if_pos rfl, if_pos hjc]
            simp [ht, het]
          rw [List.getElem?_append_left hj2]
          simp [ht, hjn, hne', this, q7 j hj2]
      · intro b hb hba hbe
        have hbt : ¬ b = tN t := by omega
        have hR : ∀ j, tR (cpR (tNew t 103 (c + c / 2) (c + c / 2)) e (tN t) c) b j = tR t b j := fun j => by
          show (if b = tN t then _ else tR (tNew t 103 (c + c / 2) (c + c / 2)) b j) = _
          rw [if_neg hbt]
          simp [ht, hbt]
        refine ⟨?_, ?_, fun j => ?_, fun j => ?_, fun j => ?_⟩
        · show tK (tNew t 103 (c + c / 2) (c + c / 2)) b = _; simp [ht, hbt]
        · show tL (tNew t 103 (c + c / 2) (c + c / 2)) b = _; simp [ht, hbt]
        · simp [ht, hba]
          show tI (tNew t 103 (c + c / 2) (c + c / 2)) b j = _
          simp [ht, hbt]
        · show tJ (tNew t 103 (c + c / 2) (c + c / 2)) b j = _; simp [ht, hbt]
        · simp [ht, hba, hbt, hR]
      · rfl
      · rw [hgr]; rfl
set_option maxRecDepth 20000 in
/-- ArrayList.add -/
theorem s273 {xs : List Nat} {c e x : Nat} (h : LsA C t a xs c e) (hc : c ≤ 20000000) (hxs : ∀ y ∈ xs, y < tN t ∧ kE (tK t y)) (hxN : x < tN t) (hx : kE (tK t x))
    (k : ∀ t' c' e', LsA C t' a (xs ++ [x]) c' e' → AddF t t' a c e xs.length c' e' → Post (.inl (some (svI 1))) t') : CalG C mtab (d + 7) 273 [svR (some a), svR (some x)] t Post := by
  have hxa : x ≠ a := fun z => by
    rw [z, h.1] at hx
    rcases hx with q | q | q | q <;> cases q
  have hk := h.1
  have h0 : LsA C (sI t a 0 (tI t a 0 + 1)) a xs c e := by
    obtain ⟨g1, g2, g3, g4, g5, g6⟩ := h
    exact ⟨g1, by simp [ht, g2], g3, g4, g5, g6⟩
  refine cal_WG mo273 (Nat.le_of_ble_eq_true rfl) ?_
  refine wseg (X := X273) [2] 4 pj5_ok X273_ok ?_
  show WG C (Mof mE273) (d + 6 + 1) t Post 2 _ [svR (some a), svR (some a)] t
  refine wg_gd 5 [svI (tI t a 0), svR (some a)] (fun o' h' z => gd_getMod (gw (tw2 (i := 89) rfl) rfl) hk (k273_d (2, .getfield 63, 3) (by simp [k273])) (by
    have e9 : hV (tv t) a 0 = .int (tI t a 0) := by show tV t a 0 = _; unfold tV; rw [hk]; rfl
    rw [e9]; exact z)) ?_
  refine wseg (X := X273) [7] 4 pj5_ok X273_ok ?_
  show WG C (Mof mE273) (d + 6 + 1) t Post 7 _ [svI (tI t a 0 + 1), svR (some a)] t
  have w : WG C (Mof mE273) (d + 6 + 1) t Post 10 [(0, svR (some a)), (1, svR (some x))] [] (sI t a 0 (tI t a 0 + 1)) := by
    refine wseg (X := X273) [] 12 pj5_ok X273_ok ?_
    refine ⟨hk, hk, hk, ?_⟩
    refine s272 h0 hc hxs hxN hx hxa (fun t' c' e' l1 l2 => ⟨rfl, Or.inr rfl, k t' c' e' l1 ⟨fun b b1 b2 b3 => ?_, l2.2⟩⟩)
    exact sameAt.trans (sameAt_sI b2) (l2.1 b b1 b2 b3)
  obtain ⟨o, t', q1, q2, q3, g⟩ := w
  refine ⟨o, t', q1, q2, q3, ?_⟩
  refine gd_putMod (x := tI t a 0 + 1) (gw (tw2 (i := 89) rfl) rfl) hk (k273_d (7, .putfield 63, 3) (by simp [k273])) ?_
  rw [hSet_sI (by rw [hk]; rfl)]
  exact g
theorem s271L {xs : List Nat} {c e i : Nat} (h : LsA C t a xs c e) (hi : i < xs.length) (k : Post (.inl (some (svR xs[i]?))) t) : CalG C mtab (d + 3) 271 [svR (some a), svI (nI i)] t Post := by
  obtain ⟨g1, g2, g3, g4, g5, g6⟩ := h
  rcases g6 with ⟨q1, q2⟩ | ⟨q1, q2, q3, q4, q5, q6, q7⟩
  · omega
  · refine s271 g1 q2 q5 g2 hi (by omega) (by omega) ?_
    rw [q7 i hi]; exact k
theorem s269L {xs : List Nat} {c e : Nat} (h : LsA C t a xs c e) (k : Post (.inl (some (svI (nI xs.length)))) t) : CalG C mtab (d + 1) 269 [svR (some a)] t Post := s269 h.1 (by rw [h.2.1]; exact k)
end LS1
