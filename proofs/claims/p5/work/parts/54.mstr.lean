/-! character, keep, string: the reference -/
def g163 (c : Nat) : Int32 := if c < 128 then 0 else if c < 194 then -1 else if c < 224 then 1 else if c < 240 then 2 else if c < 245 then 3 else -1
theorem t163 {P : Int32 → Prop} {c : Nat} (hc : c < 256) (hP : P (g163 c)) : br ((128 : Int32) ≤ nI c) (br (nI c < (194 : Int32)) (br (nI c < (224 : Int32)) (br (nI c < (240 : Int32)) (P (-1 : Int32)) (br ((245 : Int32) ≤ nI c) (P (-1 : Int32)) (P (3 : Int32)))) (br ((240 : Int32) ≤ nI c) (br (nI c < (240 : Int32)) (P (-1 : Int32)) (br ((245 : Int32) ≤ nI c) (P (-1 : Int32)) (P (3 : Int32)))) (P (2 : Int32)))) (br ((224 : Int32) ≤ nI c) (br (nI c < (224 : Int32)) (br (nI c < (240 : Int32)) (P (-1 : Int32)) (br ((245 : Int32) ≤ nI c) (P (-1 : Int32)) (P (3 : Int32)))) (br ((240 : Int32) ≤ nI c) (br (nI c < (240 : Int32)) (P (-1 : Int32)) (br ((245 : Int32) ≤ nI c) (P (-1 : Int32)) (P (3 : Int32)))) (P (2 : Int32)))) (P (1 : Int32)))) (P (0 : Int32)) := by
  have g128 : (128 : Int32) ≤ nI c ↔ 128 ≤ c := nI_leI (a := 128) (by decide) (by omega)
  have g224 : (224 : Int32) ≤ nI c ↔ 224 ≤ c := nI_leI (a := 224) (by decide) (by omega)
  have g240 : (240 : Int32) ≤ nI c ↔ 240 ≤ c := nI_leI (a := 240) (by decide) (by omega)
  have g245 : (245 : Int32) ≤ nI c ↔ 245 ≤ c := nI_leI (a := 245) (by decide) (by omega)
  have l194 : nI c < (194 : Int32) ↔ c < 194 := nI_ltI (b := 194) (by omega) (by decide)
  have l224 : nI c < (224 : Int32) ↔ c < 224 := nI_ltI (b := 224) (by omega) (by decide)
  have l240 : nI c < (240 : Int32) ↔ c < 240 := nI_ltI (b := 240) (by omega) (by decide)
  refine ⟨fun h => ?_, fun h => ?_⟩
  · rw [g128] at h
    refine ⟨fun h => ?_, fun h => ?_⟩
    · rw [l194] at h
      refine ⟨fun h => ?_, fun h => ?_⟩
      · rw [l224] at h
        refine ⟨fun h => ?_, fun h => ?_⟩
        · rw [l240] at h
          first | exact absurd hc (by omega) | exact (show g163 c = (-1 : Int32) by unfold g163; (repeat (first | rw [if_pos (by omega)] | rw [if_neg (by omega)]))) ▸ hP
        · rw [l240] at h
          refine ⟨fun h => ?_, fun h => ?_⟩
          · rw [g245] at h
            first | exact absurd hc (by omega) | exact (show g163 c = (-1 : Int32) by unfold g163; (repeat (first | rw [if_pos (by omega)] | rw [if_neg (by omega)]))) ▸ hP
          · rw [g245] at h
            first | exact absurd hc (by omega) | exact (show g163 c = (3 : Int32) by unfold g163; (repeat (first | rw [if_pos (by omega)] | rw [if_neg (by omega)]))) ▸ hP
      · rw [l224] at h
        refine ⟨fun h => ?_, fun h => ?_⟩
        · rw [g240] at h
          refine ⟨fun h => ?_, fun h => ?_⟩
          · rw [l240] at h
            first | exact absurd hc (by omega) | exact (show g163 c = (-1 : Int32) by unfold g163; (repeat (first | rw [if_pos (by omega)] | rw [if_neg (by omega)]))) ▸ hP
          · rw [l240] at h
            refine ⟨fun h => ?_, fun h => ?_⟩
            · rw [g245] at h
              first | exact absurd hc (by omega) | exact (show g163 c = (-1 : Int32) by unfold g163; (repeat (first | rw [if_pos (by omega)] | rw [if_neg (by omega)]))) ▸ hP
            · rw [g245] at h
              first | exact absurd hc (by omega) | exact (show g163 c = (3 : Int32) by unfold g163; (repeat (first | rw [if_pos (by omega)] | rw [if_neg (by omega)]))) ▸ hP
        · rw [g240] at h
          first | exact absurd hc (by omega) | exact (show g163 c = (2 : Int32) by unfold g163; (repeat (first | rw [if_pos (by omega)] | rw [if_neg (by omega)]))) ▸ hP
    · rw [l194] at h
      refine ⟨fun h => ?_, fun h => ?_⟩
      · rw [g224] at h
        refine ⟨fun h => ?_, fun h => ?_⟩
        · rw [l224] at h
          refine ⟨fun h => ?_, fun h => ?_⟩
          · rw [l240] at h
            first | exact absurd hc (by omega) | exact (show g163 c = (-1 : Int32) by unfold g163; (repeat (first | rw [if_pos (by omega)] | rw [if_neg (by omega)]))) ▸ hP
          · rw [l240] at h
            refine ⟨fun h => ?_, fun h => ?_⟩
            · rw [g245] at h
              first | exact absurd hc (by omega) | exact (show g163 c = (-1 : Int32) by unfold g163; (repeat (first | rw [if_pos (by omega)] | rw [if_neg (by omega)]))) ▸ hP
            · rw [g245] at h
              first | exact absurd hc (by omega) | exact (show g163 c = (3 : Int32) by unfold g163; (repeat (first | rw [if_pos (by omega)] | rw [if_neg (by omega)]))) ▸ hP
        · rw [l224] at h
          refine ⟨fun h => ?_, fun h => ?_⟩
          · rw [g240] at h
            refine ⟨fun h => ?_, fun h => ?_⟩
            · rw [l240] at h
              first | exact absurd hc (by omega) | exact (show g163 c = (-1 : Int32) by unfold g163; (repeat (first | rw [if_pos (by omega)] | rw [if_neg (by omega)]))) ▸ hP
            · rw [l240] at h
              refine ⟨fun h => ?_, fun h => ?_⟩
              · rw [g245] at h
                first | exact absurd hc (by omega) | exact (show g163 c = (-1 : Int32) by unfold g163; (repeat (first | rw [if_pos (by omega)] | rw [if_neg (by omega)]))) ▸ hP
              · rw [g245] at h
                first | exact absurd hc (by omega) | exact (show g163 c = (3 : Int32) by unfold g163; (repeat (first | rw [if_pos (by omega)] | rw [if_neg (by omega)]))) ▸ hP
          · rw [g240] at h
            first | exact absurd hc (by omega) | exact (show g163 c = (2 : Int32) by unfold g163; (repeat (first | rw [if_pos (by omega)] | rw [if_neg (by omega)]))) ▸ hP
      · rw [g224] at h
        first | exact absurd hc (by omega) | exact (show g163 c = (1 : Int32) by unfold g163; (repeat (first | rw [if_pos (by omega)] | rw [if_neg (by omega)]))) ▸ hP
  · rw [g128] at h
    first | exact absurd hc (by omega) | exact (show g163 c = (0 : Int32) by unfold g163; (repeat (first | rw [if_pos (by omega)] | rw [if_neg (by omega)]))) ▸ hP
def okV (m v : Nat) : Prop := ¬ ((m = 2 ∧ v < 2048) ∨ (m = 3 ∧ v < 65536) ∨ (55296 ≤ v ∧ v < 57344) ∨ 1114111 < v)
theorem t164 {A B : Prop} {m v : Nat} (hm : m ≤ 3) (hv : v < 2097152) (hA : okV m v → A) (hB : ¬ okV m v → B) : br (nI m = (2 : Int32)) (br (nI v < (2048 : Int32)) (B) (br (nI m = (3 : Int32)) (br (nI v < (65536 : Int32)) (B) (br (nI v < (55296 : Int32)) (br (nI v ≤ (1114111 : Int32)) (A) (B)) (br (nI v < (57344 : Int32)) (B) (br (nI v ≤ (1114111 : Int32)) (A) (B))))) (br (nI v < (55296 : Int32)) (br (nI v ≤ (1114111 : Int32)) (A) (B)) (br (nI v < (57344 : Int32)) (B) (br (nI v ≤ (1114111 : Int32)) (A) (B)))))) (br (nI m = (3 : Int32)) (br (nI v < (65536 : Int32)) (B) (br (nI v < (55296 : Int32)) (br (nI v ≤ (1114111 : Int32)) (A) (B)) (br (nI v < (57344 : Int32)) (B) (br (nI v ≤ (1114111 : Int32)) (A) (B))))) (br (nI v < (55296 : Int32)) (br (nI v ≤ (1114111 : Int32)) (A) (B)) (br (nI v < (57344 : Int32)) (B) (br (nI v ≤ (1114111 : Int32)) (A) (B))))) := by
  have e0 : nI m = (2 : Int32) ↔ m = 2 := nI_eq (b := 2) (by omega) (by decide)
  have e1 : nI m = (3 : Int32) ↔ m = 3 := nI_eq (b := 3) (by omega) (by decide)
  have e2 : nI v < (2048 : Int32) ↔ v < 2048 := nI_ltI (b := 2048) (by omega) (by decide)
  have e3 : nI v < (55296 : Int32) ↔ v < 55296 := nI_ltI (b := 55296) (by omega) (by decide)
  have e4 : nI v < (57344 : Int32) ↔ v < 57344 := nI_ltI (b := 57344) (by omega) (by decide)
  have e5 : nI v < (65536 : Int32) ↔ v < 65536 := nI_ltI (b := 65536) (by omega) (by decide)
  have e6 : nI v ≤ (1114111 : Int32) ↔ v ≤ 1114111 := nI_leI (b := 1114111) (by omega) (by decide)
  refine ⟨fun h1 => ?_, fun h1 => ?_⟩
  · rw [e0] at h1
    refine ⟨fun h2 => ?_, fun h2 => ?_⟩
    · rw [e2] at h2
      exact hB (by unfold okV; omega)
    · rw [e2] at h2
      refine ⟨fun h3 => ?_, fun h3 => ?_⟩
      · rw [e1] at h3
        refine ⟨fun h4 => ?_, fun h4 => ?_⟩
        · rw [e5] at h4
          exact hB (by unfold okV; omega)
        · rw [e5] at h4
          refine ⟨fun h5 => ?_, fun h5 => ?_⟩
          · rw [e3] at h5
            refine ⟨fun h6 => ?_, fun h6 => ?_⟩
            · rw [e6] at h6
              exact hA (by unfold okV; omega)
            · rw [e6] at h6
              exact hB (by unfold okV; omega)
          · rw [e3] at h5
            refine ⟨fun h7 => ?_, fun h7 => ?_⟩
            · rw [e4] at h7
              exact hB (by unfold okV; omega)
            · rw [e4] at h7
              refine ⟨fun h8 => ?_, fun h8 => ?_⟩
              · rw [e6] at h8
                exact hA (by unfold okV; omega)
              · rw [e6] at h8
                exact hB (by unfold okV; omega)
      · rw [e1] at h3
        refine ⟨fun h9 => ?_, fun h9 => ?_⟩
        · rw [e3] at h9
          refine ⟨fun h10 => ?_, fun h10 => ?_⟩
          · rw [e6] at h10
            exact hA (by unfold okV; omega)
          · rw [e6] at h10
            exact hB (by unfold okV; omega)
        · rw [e3] at h9
          refine ⟨fun h11 => ?_, fun h11 => ?_⟩
          · rw [e4] at h11
            exact hB (by unfold okV; omega)
          · rw [e4] at h11
            refine ⟨fun h12 => ?_, fun h12 => ?_⟩
            · rw [e6] at h12
              exact hA (by unfold okV; omega)
            · rw [e6] at h12
              exact hB (by unfold okV; omega)
  · rw [e0] at h1
    refine ⟨fun h13 => ?_, fun h13 => ?_⟩
    · rw [e1] at h13
      refine ⟨fun h14 => ?_, fun h14 => ?_⟩
      · rw [e5] at h14
        exact hB (by unfold okV; omega)
      · rw [e5] at h14
        refine ⟨fun h15 => ?_, fun h15 => ?_⟩
        · rw [e3] at h15
          refine ⟨fun h16 => ?_, fun h16 => ?_⟩
          · rw [e6] at h16
            exact hA (by unfold okV; omega)
          · rw [e6] at h16
            exact hB (by unfold okV; omega)
        · rw [e3] at h15
          refine ⟨fun h17 => ?_, fun h17 => ?_⟩
          · rw [e4] at h17
            exact hB (by unfold okV; omega)
          · rw [e4] at h17
            refine ⟨fun h18 => ?_, fun h18 => ?_⟩
            · rw [e6] at h18
              exact hA (by unfold okV; omega)
            · rw [e6] at h18
              exact hB (by unfold okV; omega)
    · rw [e1] at h13
      refine ⟨fun h19 => ?_, fun h19 => ?_⟩
      · rw [e3] at h19
        refine ⟨fun h20 => ?_, fun h20 => ?_⟩
        · rw [e6] at h20
          exact hA (by unfold okV; omega)
        · rw [e6] at h20
          exact hB (by unfold okV; omega)
      · rw [e3] at h19
        refine ⟨fun h21 => ?_, fun h21 => ?_⟩
        · rw [e4] at h21
          exact hB (by unfold okV; omega)
        · rw [e4] at h21
          refine ⟨fun h22 => ?_, fun h22 => ?_⟩
          · rw [e6] at h22
            exact hA (by unfold okV; omega)
          · rw [e6] at h22
            exact hB (by unfold okV; omega)
theorem and192 : ∀ x, x < 256 → (nI x &&& 192 = 128 ↔ (128 ≤ x ∧ x < 192)) := by decide +kernel
def c0F (m c : Nat) : Nat := if m = 0 then c else if m = 1 then c % 32 else if m = 2 then c % 16 else c % 8
theorem cpS_g {b : By} {n i m : Nat} (hb : ∀ k, b k < 256) (hi : i < n) (hm : m ≤ 3) (hg : g163 (b i) = nI m) : (gdF b n i m = true → okV m (vlF b i (c0F m (b i)) m) → cpS b n i = some (m + 1, vlF b i (c0F m (b i)) m)) ∧ ((gdF b n i m = false ∨ ¬ okV m (vlF b i (c0F m (b i)) m)) → cpS b n i = none) := by
  have hni : ¬ n ≤ i := by omega
  have hbi := hb i
  have b1 := hb (i + 1)
  have b2 := hb (i + 2)
  have b3 := hb (i + 3)
  unfold g163 at hg
  by_cases c1 : b i < 128
  · rw [if_pos c1] at hg
    have hm0 : m = 0 := ((nI_eq (a := 0) (by decide) (by omega)).mp hg).symm
    subst hm0
    refine ⟨fun _ _ => by unfold cpS; rw [if_neg hni, if_pos c1]; rfl, fun z => ?_⟩
    rcases z with z | z
    · cases z
    · exact absurd (show okV 0 (b i) by unfold okV; omega) z
  rw [if_neg c1] at hg
  by_cases c2 : b i < 194
  · rw [if_pos c2] at hg
    exact absurd (show nI m < 0 by rw [← hg]; decide) (nI_pos (by omega))
  rw [if_neg c2] at hg
  by_cases c3 : b i < 224
  · rw [if_pos c3] at hg
    have hm0 : m = 1 := ((nI_eq (a := 1) (by decide) (by omega)).mp hg).symm
    subst hm0
    have g1 : gdF b n i 1 = cnt b n (i + 1) := by show (true && cnt b n (i + 0 + 1)) = _; simp
    have e1 : vlF b i (c0F 1 (b i)) 1 = b i % 32 * 64 + b (i + 1) % 64 := rfl
    rw [g1, e1]
    unfold cpS
    rw [if_neg hni, if_neg c1, if_neg c2, if_pos c3]
    refine ⟨fun z _ => by rw [if_pos z], fun z => ?_⟩
    rcases z with z | z
    · rw [z]; rfl
    · exact absurd (show okV 1 _ by unfold okV; omega) z
  rw [if_neg c3] at hg
  by_cases c4 : b i < 240
  · rw [if_pos c4] at hg
    have hm0 : m = 2 := ((nI_eq (a := 2) (by decide) (by omega)).mp hg).symm
    subst hm0
    have g1 : gdF b n i 2 = (cnt b n (i + 1) && cnt b n (i + 2)) := by show ((true && cnt b n (i + 0 + 1)) && cnt b n (i + 1 + 1)) = _; simp
    have e1 : vlF b i (c0F 2 (b i)) 2 = (b i % 16 * 64 + b (i + 1) % 64) * 64 + b (i + 2) % 64 := rfl
    rw [g1, e1]
    unfold cpS
    rw [if_neg hni, if_neg c1, if_neg c2, if_neg c3, if_pos c4]
    generalize hv : (b i % 16 * 64 + b (i + 1) % 64) * 64 + b (i + 2) % 64 = v
    have hv2 : v < 65536 := by omega
    refine ⟨fun z1 z2 => ?_, fun z => ?_⟩
    · rw [if_pos z1, if_neg (by unfold okV at z2; omega)]
    · rcases z with z | z
      · rw [z]; rfl
      · split
        · rw [if_pos (by unfold okV at z; omega)]
        · rfl
  rw [if_neg c4] at hg
  by_cases c5 : b i < 245
  · rw [if_pos c5] at hg
    have hm0 : m = 3 := ((nI_eq (a := 3) (by decide) (by omega)).mp hg).symm
    subst hm0
    have g1 : gdF b n i 3 = (cnt b n (i + 1) && (cnt b n (i + 2) && cnt b n (i + 3))) := by show (((true && cnt b n (i + 0 + 1)) && cnt b n (i + 1 + 1)) && cnt b n (i + 2 + 1)) = _; simp [Bool.and_assoc]
    have e1 : vlF b i (c0F 3 (b i)) 3 = ((b i % 8 * 64 + b (i + 1) % 64) * 64 + b (i + 2) % 64) * 64 + b (i + 3) % 64 := rfl
    rw [g1, e1]
    unfold cpS
    rw [if_neg hni, if_neg c1, if_neg c2, if_neg c3, if_neg c4, if_pos c5]
    generalize hv : ((b i % 8 * 64 + b (i + 1) % 64) * 64 + b (i + 2) % 64) * 64 + b (i + 3) % 64 = v
    have hv2 : v < 2097152 := by omega
    refine ⟨fun z1 z2 => ?_, fun z => ?_⟩
    · rw [if_pos z1, if_neg (by unfold okV at z2; omega)]
    · rcases z with z | z
      · rw [z]; rfl
      · split
        · rw [if_pos (by unfold okV at z; omega)]
        · rfl
  · rw [if_neg c5] at hg
    exact absurd (show nI m < 0 by rw [← hg]; decide) (nI_pos (by omega))
theorem cpS_b {b : By} {n i : Nat} (hg : g163 (b i) = -1) : cpS b n i = none := by
  unfold g163 at hg
  unfold cpS
  split
  · rfl
  split at hg
  · cases hg
  rename_i c1
  rw [if_neg c1]
  split at hg
  · rename_i c2; rw [if_pos c2]
  rename_i c2
  rw [if_neg c2]
  split at hg
  · cases hg
  rename_i c3
  rw [if_neg c3]
  split at hg
  · cases hg
  rename_i c4
  rw [if_neg c4]
  split at hg
  · cases hg
  rename_i c5
  rw [if_neg c5]
theorem g163_c (c : Nat) : g163 c = -1 ∨ ∃ m, m ≤ 3 ∧ g163 c = nI m := by
  unfold g163
  split
  · exact Or.inr ⟨0, by decide, rfl⟩
  split
  · exact Or.inl rfl
  split
  · exact Or.inr ⟨1, by decide, rfl⟩
  split
  · exact Or.inr ⟨2, by decide, rfl⟩
  split
  · exact Or.inr ⟨3, by decide, rfl⟩
  · exact Or.inl rfl
theorem mskF {m c : Nat} (hm : m ≤ 3) (h0 : 0 < m) (hc : c < 256) : nI c &&& ((63 : Int32) >>> (nI m &&& 31)) = nI (c0F m c) := by
  have : m = 1 ∨ m = 2 ∨ m = 3 := by omega
  rcases this with rfl | rfl | rfl
  · exact msk1 c hc
  · exact msk2 c hc
  · exact msk3 c hc
