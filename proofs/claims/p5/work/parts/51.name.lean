/-! plain names -/
def f144 (x : Int32) : Int32 := if f143 x = 0 then (if x < 65 then 0 else if 90 < x then 0 else 1) else 1
def f97 (x dd : Int32) : Int32 := if f144 x = 0 then (if x = 95 then 1 else if 128 ≤ x then 1 else if dd = 0 then 0 else if (if x < 48 then (0 : Int32) else if 57 < x then 0 else 1) = 0 then 0 else 1) else 1
def nmN (c : Nat) (dd : Bool) : Bool := (decide (97 ≤ c) && decide (c ≤ 122)) || ((decide (65 ≤ c) && decide (c ≤ 90)) || (decide (c = 95) || (decide (128 ≤ c) || (dd && (decide (48 ≤ c) && decide (c ≤ 57))))))
theorem f97_t : ∀ c, c < 256 → ∀ dd : Bool, f97 (nI c) (bI dd) = bI (nmN c dd) := by decide +kernel
theorem f97_m : ∀ dd : Bool, f97 (-1) (bI dd) = 0 := by decide
def nmS (b : By) (n i : Nat) (dd : Bool) : Bool := decide (i < n) && nmN (b i) dd
theorem f97_p {b : By} {n i : Nat} {dd : Bool} (hb : ∀ k, b k < 256) : f97 (pk b n i) (bI dd) = bI (nmS b n i dd) := by
  unfold nmS
  by_cases h : i < n
  · rw [pkI h, f97_t _ (hb i)]; simp [h]
  · rw [pkO (Nat.not_lt.mp h), f97_m]; simp [h, bI]
def pnF (b : By) (n : Nat) : Nat → Nat → List Nat → (List Nat × Nat) ⊕ Nat
  | 0, i, cs => .inl (cs, i)
  | f + 1, i, cs => if nmS b n i (decide (0 < cs.length)) then (match cpS b n i with
    | some (l, v) => pnF b n f (i + l) (cs ++ [v])
    | none => .inr i) else .inl (cs, i)
def pnE (x : (List Nat × Nat) ⊕ Nat) : (List Nat × Nat) ⊕ Nat := match x with
  | .inl ([], j) => .inr j
  | x => x
/-- the name that begins at i -/
def pnS (b : By) (n i : Nat) : (List Nat × Nat) ⊕ Nat := pnE (pnF b n (n + 1 - i) i [])
section NMC
variable {C : Cx} {d : Nat} {Post : OutT → Ht → Prop} {t : Ht} {r tp ch : Nat} {b : By} {n i : Nat}
theorem p144 {x : Int32} (k : Post (.inl (some (svI (f144 x)))) t) : CalG C mtab (d + 2) 144 [svI x] t Post := by
  refine cal144 (p143 ?_)
  unfold f144 at k
  refine ⟨fun e => ?_, fun e => ⟨Or.inr rfl, ?_⟩⟩
  · rw [if_pos e] at k
    refine ⟨fun e1 => ⟨Or.inl rfl, ?_⟩, fun e1 => ⟨fun e2 => ⟨Or.inl rfl, ?_⟩, fun e2 => ⟨Or.inr rfl, ?_⟩⟩⟩
    · rw [if_pos e1] at k; exact k
    · rw [if_neg e1, if_pos e2] at k; exact k
    · rw [if_neg e1, if_neg e2] at k; exact k
  · rw [if_neg e] at k; exact k
theorem p97 {x dd : Int32} (k : Post (.inl (some (svI (f97 x dd)))) t) : CalG C mtab (d + 3) 97 [svI x, svI dd] t Post := by
  refine cal97 (p144 ?_)
  unfold f97 at k
  refine ⟨fun e => ?_, fun e => ⟨Or.inr rfl, ?_⟩⟩
  · rw [if_pos e] at k
    refine ⟨fun e1 => ⟨Or.inr rfl, ?_⟩, fun e1 => ⟨fun e2 => ⟨Or.inr rfl, ?_⟩, fun e2 => ⟨fun e3 => ⟨Or.inl rfl, ?_⟩, fun e3 => c142 ⟨fun e4 => ⟨Or.inl rfl, ?_⟩, fun e4 => ⟨Or.inr rfl, ?_⟩⟩⟩⟩⟩
    · rw [if_pos e1] at k; exact k
    · rw [if_neg e1, if_pos e2] at k; exact k
    · rw [if_neg e1, if_neg e2, if_pos e3] at k; exact k
    · rw [if_neg e1, if_neg e2, if_neg e3, if_pos e4] at k; exact k
    · rw [if_neg e1, if_neg e2, if_neg e3, if_neg e4] at k; exact k
  · rw [if_neg e] at k; exact k
/-- plainName -/
theorem r96 (h : RB t r tp ch b n i) (hi : i ≤ n) (hi1 : 1 ≤ i)
    (k1 : ∀ cs j, pnS b n i = .inl (cs, j) → ∀ t2, RX r ch t t2 → tN t2 = tN t + 1 → tU t2 = tU t + cs.length → tI t2 r 4 = nI j → IAr t2 (tN t) cs → Post (.inl (some (svR (some (tN t))))) t2)
    (k2 : ∀ p, pnS b n i = .inr p → ∀ t2, BD r ch t t2 1 p → Post (.inr (200, 0)) t2) : CalG C mtab (d + 4) 96 [svR (some r)] t Post := by
  obtain ⟨n1, n2, n3⟩ := h.ne
  have hn : n ≤ 1200 := h.1.2.2.2.2.2.2.1
  have hb := h.1.2.2.2.2.2.2.2.2.1
  have hrN := h.2.2.2.2.2.1
  refine cal96 (fun m l1 t' => ∃ f cs j, l1 = nI cs.length ∧ cs.length + i ≤ j ∧ j ≤ n ∧ m = 3 * (n + 1 - j) ∧ n + 1 - j ≤ f ∧ SB t t' r ch cs j ∧ pnE (pnF b n f j cs) = pnS b n i)
    (fun m l1 t' => ∃ f cs j, l1 = nI cs.length ∧ cs.length + i ≤ j ∧ j < n ∧ m = 3 * (n + 1 - j) - 1 ∧ n + 1 - j ≤ f ∧ SB t t' r ch cs j ∧ pnE (pnF b n f j cs) = pnS b n i ∧ nmS b n j (decide (0 < cs.length)) = true)
    (fun m l1 t' => m = 0 ∧ ∃ cs j, cs.length + i ≤ j ∧ j ≤ n ∧ SB t t' r ch cs j ∧ pnS b n i = pnE (.inl (cs, j))) ?_ ?_ ?_ ?_
  · refine ⟨h.1.1, 3 * (n + 1 - i), rfl, n + 1 - i, [], i, rfl, by simp, hi, rfl, Nat.le_refl _, ⟨RX.I (Or.inl rfl), rfl, rfl, ?_, ?_, fun k hk => by simp at hk⟩, rfl⟩
    · simp [ht]; rfl
    · simp [ht, h.1.2.2.2.2.2.1]
  · rintro m l1 t' ⟨f, cs, j, rfl, hcj, hjn, hm, hf, hs, hst⟩
    obtain ⟨f0, rfl⟩ : ∃ f0, f = f0 + 1 := ⟨f - 1, by omega⟩
    have hB := h.x hs.1 hs.2.2.2.2.1 (by omega)
    have hK := hB.1.1
    have e3 := hB.1.2.2.2.2.1
    unfold vc96_7
    rw [e3]
    have key : ∀ dd : Bool, dd = decide (0 < cs.length) → br (bI (nmS b n j dd) = 0) (∃ k, k < m ∧ some r = some r ∧ (k = 0 ∧ ∃ cs j, cs.length + i ≤ j ∧ j ≤ n ∧ SB t t' r ch cs j ∧ pnS b n i = pnE (.inl (cs, j)))) (∃ k, k < m ∧ some r = some r ∧ ∃ f cs' j, nI cs.length = nI cs'.length ∧ cs'.length + i ≤ j ∧ j < n ∧ k = 3 * (n + 1 - j) - 1 ∧ n + 1 - j ≤ f ∧ SB t t' r ch cs' j ∧ pnE (pnF b n f j cs') = pnS b n i ∧ nmS b n j (decide (0 < cs'.length)) = true) := by
      intro dd hdd
      subst hdd
      refine ⟨fun e => ⟨0, by omega, rfl, rfl, cs, j, hcj, hjn, hs, ?_⟩, fun e => ?_⟩
      · rw [← hst, pnF, bI_0.mp e]; rfl
      · have hy : nmS b n j (decide (0 < cs.length)) = true := by
          cases hx : nmS b n j (decide (0 < cs.length)) with
          | true => rfl
          | false => rw [hx] at e; exact absurd rfl e
        have hjlt : j < n := by
          unfold nmS at hy
          simp at hy
          exact hy.1
        exact ⟨3 * (n + 1 - j) - 1, by omega, rfl, f0 + 1, cs, j, rfl, hcj, hjlt, rfl, hf, hs, hst, hy⟩
    refine ⟨hK, fun e => absurd e (nI_ge (by omega) (by omega)), fun _ => ⟨hK, r85 hB.1 ⟨fun e0 => p97 ?_, fun e0 => p97 ?_⟩⟩⟩
    · rw [show (0 : Int32) = bI false from rfl, f97_p hb]
      refine key false ?_
      have : ¬ 0 < cs.length := fun z => absurd e0 (nI_nle z (by omega))
      simp; simpa using this
    · rw [show (1 : Int32) = bI true from rfl, f97_p hb]
      refine key true ?_
      have : 0 < cs.length := by
        rcases Nat.eq_zero_or_pos cs.length with z | z
        · rw [z] at e0; exact absurd (by decide) e0
        · exact z
      simp [this]
  · rintro m l1 t' ⟨f, cs, j, rfl, hcj, hjn, hm, hf, hs, hst, hy⟩
    obtain ⟨f0, rfl⟩ : ∃ f0, f = f0 + 1 := ⟨f - 1, by omega⟩
    have hB := h.x hs.1 hs.2.2.2.2.1 (by omega)
    have hK := hB.1.1
    rw [pnF, if_pos hy] at hst
    refine ⟨hK, r102 hB.1 hjn (fun l v hcp => ⟨hK, ?_⟩) (fun hcp => ?_)⟩
    · obtain ⟨l1, l2, l3⟩ := cpS_le hcp
      have hs1 := SB.to (j' := j + l) n1 hs
      rw [hcp] at hst
      refine r93 (cs := cs) (ch := ch) hK hB.2.1 hB.2.2.1 hB.2.2.2.1 hs1.2.2.2.1 (by omega) ⟨rfl, 3 * (n + 1 - (j + l)), by omega, rfl, f0, cs ++ [v], j + l, ?_, by simp; omega, l2, rfl, by omega, SB.keep n1 hs1, hst⟩ n1
      simp [nI_1]
    · rw [hcp] at hst
      exact k2 j hst.symm _ (BD.fl (w := 1) hs.1 hs.2.1 hs.2.2.1 hrN)
  · rintro m l1 t' ⟨rfl, cs, j, hcj, hjn, hs, hst⟩
    have hB := h.x hs.1 hs.2.2.2.2.1 (by omega)
    have hK := hB.1.1
    have e2 := hs.2.2.2.1
    have e4 := hs.2.2.2.2.1
    unfold vc96_48
    rw [e2, e4]
    refine ⟨hK, fun e => ⟨hK, hK, c83 hK ?_⟩, fun e => ⟨hK, r94 h hs (by omega) ?_⟩⟩
    · have hz : cs = [] := List.eq_nil_of_length_eq_zero ((nI_eq (a := cs.length) (b := 0) (by omega) (by decide)).mp e)
      subst hz
      exact k2 j hst _ (BD.fl (w := 1) hs.1 hs.2.1 hs.2.2.1 hrN)
    · intro t2 g1 g2 g3 g4 g5
      refine k1 cs j ?_ t2 g1 g2 g3 g4 g5
      rw [hst]
      cases cs with
      | nil => exact absurd rfl e
      | cons x xs => rfl
end NMC
