/-! CALLS ON NODES -/
section ND
variable {C : Cx} {d : Nat} {Post : OutT → Ht → Prop} {t : Ht} {T : Nat} {G : GT} {V : VT} {c : Nat}
theorem getD_lt {cs : List Nat} {k : Nat} (h : okC cs) : cs.getD k 0 < 2 ^ 31 := by
  by_cases e : k < cs.length
  · have e2 : cs.getD k 0 = cs[k] := by simp [e]
    have := h.2 _ (List.getElem_mem e)
    omega
  · have e2 : cs.getD k 0 = 0 := by simp [List.getElem?_eq_none (Nat.not_lt.mp e)]
    omega
theorem eq_of_getD {as bs : List Nat} (hl : as.length = bs.length) (h : ∀ k, k < as.length → as.getD k 0 = bs.getD k 0) : as = bs := by
  refine List.ext_getElem hl (fun k h1 h2 => ?_)
  have := h k h1
  simpa [h1, h2] using this
/-- sameChars -/
theorem r146 {T1 T2 : Nat} {x y : Option Nat} {o : Option (List Nat)} {cs : List Nat} (h1 : chR t T1 x o) (h2 : chR t T2 y (some cs)) (ho : ∀ as, o = some as → okC as) (hc : okC cs) (k : Post (.inl (some (svI (bI (o == some cs))))) t) : CalG C mtab (d + 1) 146 [svR x, svR y] t Post := by
  obtain ⟨ya, rfl, -, -, y1, y2, y3⟩ := h2
  cases o with
  | none =>
    have h1' : x = none := h1
    subst h1'
    refine cal146 (fun _ _ _ => False) ⟨Or.inl rfl, k⟩ (fun _ _ _ h => h.elim)
  | some as =>
    obtain ⟨xa, rfl, -, -, x1, x2, x3⟩ := h1
    have has := ho as rfl
    have ha1 := has.1
    have hc1 := hc.1
    refine cal146 (fun m l t' => t' = t ∧ as.length = cs.length ∧ ∃ q, q ≤ as.length ∧ m = as.length - q ∧ l = nI q ∧ ∀ j, j < q → as.getD j 0 = cs.getD j 0) ?_ ?_
    · refine ⟨by rw [x1]; decide, by rw [x1]; decide, by rw [y1]; decide, by rw [y1]; decide, ?_⟩
      rw [x2, y2]
      refine ⟨fun e => ⟨as.length, rfl, rfl, rfl, ?_, 0, Nat.zero_le _, rfl, rfl, fun j hj => absurd hj (Nat.not_lt_zero _)⟩, fun e => ⟨Or.inl rfl, ?_⟩⟩
      · exact (nI_eq (by omega) (by omega)).mp e
      · have : (some as == some cs) = false := by
          rw [beq_eq_false_iff_ne]
          intro z
          injection z with z
          exact e (by rw [z])
        rw [this] at k; exact k
    · rintro m l t' ⟨rfl, hlen, q, hq, rfl, rfl, hp⟩
      refine ⟨by rw [x1]; decide, by rw [x1]; decide, ?_⟩
      rw [x2]
      refine ⟨fun e => ⟨Or.inr rfl, ?_⟩, fun e => ⟨x1, ?_, y1, ?_, ?_⟩⟩
      · have hq2 : as.length ≤ q := (nI_leI (by omega) (by omega)).mp e
        have : (some as == some cs) = true := by
          rw [beq_iff_eq, eq_of_getD hlen (fun j hj => hp j (by omega))]
        rw [this] at k; exact k
      · have : q < as.length := Nat.not_le.mp (fun z => e (nI_le z (by omega)))
        rw [x2]; exact vp_in_nI this (by omega)
      · have : q < as.length := Nat.not_le.mp (fun z => e (nI_le z (by omega)))
        rw [y2]; exact vp_in_nI (by omega) (by omega)
      · have hq2 : q < as.length := Nat.not_le.mp (fun z => e (nI_le z (by omega)))
        rw [nI_clamp (by omega), x3 q hq2, y3 q (by omega)]
        refine ⟨fun e2 => ⟨as.length - (q + 1), by omega, rfl, rfl, rfl, hlen, q + 1, by omega, rfl, nI_1 q, fun j hj => ?_⟩, fun e2 => ⟨Or.inl rfl, ?_⟩⟩
        · by_cases z : j = q
          · subst z; exact (nI_eq (getD_lt has) (getD_lt hc)).mp e2
          · exact hp j (by omega)
        · have : (some as == some cs) = false := by
            rw [beq_eq_false_iff_ne]
            intro z
            injection z with z
            exact e2 (by rw [z])
          rw [this] at k; exact k
/-- the kid of p that is named cs -/
def fndN (V : VT) (p : Nat) (cs : List Nat) : Option Nat := (eS (V p)).find? (fun k => eN (V k) == some cs)
theorem hasN_f {p : Nat} {cs : List Nat} : hasN V p cs = (fndN V p cs).isSome := by
  unfold hasN fndN
  generalize eS (V p) = l
  induction l with
  | nil => rfl
  | cons a l ih =>
    rw [List.any_cons, List.find?_cons, ih]
    cases (eN (V a) == some cs) <;> rfl
/-- member -/
theorem r31 {T2 p : Nat} {y : Option Nat} {cs : List Nat} (h : NV C T t G V c) (hp : p < c) (hy : chR t T2 y (some cs)) (hc : okC cs) (k : Post (.inl (some (svR (if eK (V p) = 6 then (fndN V p cs).map (gA G) else none)))) t) : CalG C mtab (d + 4) 31 [svR (some (gA G p)), svR y] t Post := by
  obtain ⟨np, wp, -⟩ := h.1 p hp
  have hc3 := h.2.2
  have hK := np.1.2.2
  have h0 := np.2.1.1
  by_cases h6 : eK (V p) = 6
  · rw [if_pos h6] at k
    obtain ⟨l1, l2, -, -, -⟩ := np.2.2.2.2 (by omega)
    have hlen := wp.2.2.2.2.1
    have hml : ((eS (V p)).map (gA G)).length = (eS (V p)).length := List.length_map _
    refine cal31 (fun m l t' => t' = t ∧ ∃ q, q ≤ (eS (V p)).length ∧ m = (eS (V p)).length - q ∧ l = nI q ∧ fndN V p cs = ((eS (V p)).drop q).find? (fun k => eN (V k) == some cs)) ?_ ?_
    · unfold vc31
      rw [l1]
      exact ⟨hK, fun _ => ⟨hK, (eS (V p)).length, rfl, rfl, rfl, 0, Nat.zero_le _, rfl, rfl, rfl⟩, fun e => absurd (by rw [h0, h6]; rfl) e⟩
    · rintro m l t' ⟨rfl, q, hq, rfl, rfl, hf⟩
      unfold vc31_20
      rw [l1]
      refine ⟨hK, l2.1, s269L l2 ⟨fun e => ?_, fun e => ⟨hK, ?_⟩⟩⟩
      · rw [hml] at e
        have : (eS (V p)).length ≤ q := (nI_leI (by omega) (by omega)).mp e
        rw [hf, List.drop_eq_nil_of_le this] at k
        exact k
      · rw [hml] at e
        have hq2 : q < (eS (V p)).length := Nat.not_le.mp (fun z => e (nI_le z (by omega)))
        rw [l1]
        refine ⟨l2.1, s271L l2 (by rw [hml]; exact hq2) ?_⟩
        have eg : ((eS (V p)).map (gA G))[q]? = some (gA G ((eS (V p))[q])) := by
          rw [List.getElem?_map, List.getElem?_eq_getElem hq2]; rfl
        rw [eg]
        have hkc := wp.2.2.2.1 _ (List.getElem_mem hq2)
        obtain ⟨nk, wk, -⟩ := h.1 _ hkc.2
        refine ⟨nk.1.2.2, nk.1.2.2, r146 nk.2.2.1.2.1 hy wk.2.2.2.2.2.2.2 hc ⟨fun z => ?_, fun z => ?_⟩⟩
        · refine ⟨(eS (V p)).length - (q + 1), by omega, rfl, rfl, rfl, q + 1, by omega, rfl, nI_1 q, ?_⟩
          rw [hf, List.drop_eq_getElem_cons hq2, List.find?_cons, bI_0.mp z]
        · have z2 : (eN (V (eS (V p))[q]) == some cs) = true := by
            cases z3 : (eN (V (eS (V p))[q]) == some cs) with
            | true => rfl
            | false => rw [z3] at z; exact absurd rfl z
          rw [hf, List.drop_eq_getElem_cons hq2, List.find?_cons, z2] at k
          exact k
  · rw [if_neg h6] at k
    refine cal31 (fun _ _ _ => False) ⟨hK, fun e => absurd e ?_, fun _ => k⟩ (fun _ _ _ z => z.elim)
    rw [h0]
    intro z
    exact h6 ((nI_eq (b := 6) (by have := wp.1; omega) (by decide)).mp z)
end ND
