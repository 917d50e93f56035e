/-! CODE POINTS -/
theorem nI_or {a b : Nat} (ha : a < 2 ^ 32) (hb : b < 2 ^ 32) : nI a ||| nI b = nI (a ||| b) := by
  refine Int32.toBitVec_inj.mp (BitVec.eq_of_toNat_eq ?_)
  rw [Int32.toBitVec_or, BitVec.toNat_or, pk_tn ha, pk_tn hb, pk_tn (Nat.or_lt_two_pow ha hb)]
theorem nI_or6 {v c : Nat} (hv : v < 2 ^ 24) (hc : c < 2 ^ 32) : (nI v <<< ((6 : Int32) &&& 31)) ||| (nI c &&& 63) = nI (v * 64 + c % 64) := by
  rw [pk_shlN (n := v) ((6 : Int32) &&& 31) 6 (by decide) (by omega), pk_andN hc 6 (by decide), nI_or (by omega) (by omega)]
  have e := Nat.two_pow_add_eq_or_of_lt (i := 6) (b := c % 2 ^ 6) (by omega) v
  rw [show v * 2 ^ 6 = 2 ^ 6 * v from Nat.mul_comm _ _, ← e]
def cnt (b : By) (n j : Nat) : Bool := decide (j < n) && (decide (128 ≤ b j) && decide (b j < 192))
/-- the code point at i: its bytes, its number -/
def cpS (b : By) (n i : Nat) : Option (Nat × Nat) :=
  if n ≤ i then none else
  if b i < 128 then some (1, b i) else
  if b i < 194 then none else
  if b i < 224 then (if cnt b n (i + 1) then some (2, b i % 32 * 64 + b (i + 1) % 64) else none) else
  if b i < 240 then (if cnt b n (i + 1) && cnt b n (i + 2) then (if (b i % 16 * 64 + b (i + 1) % 64) * 64 + b (i + 2) % 64 < 2048 ∨ (55296 ≤ (b i % 16 * 64 + b (i + 1) % 64) * 64 + b (i + 2) % 64 ∧ (b i % 16 * 64 + b (i + 1) % 64) * 64 + b (i + 2) % 64 < 57344) then none else some (3, (b i % 16 * 64 + b (i + 1) % 64) * 64 + b (i + 2) % 64)) else none) else
  if b i < 245 then (if cnt b n (i + 1) && (cnt b n (i + 2) && cnt b n (i + 3)) then (if ((b i % 8 * 64 + b (i + 1) % 64) * 64 + b (i + 2) % 64) * 64 + b (i + 3) % 64 < 65536 ∨ 1114111 < ((b i % 8 * 64 + b (i + 1) % 64) * 64 + b (i + 2) % 64) * 64 + b (i + 3) % 64 then none else some (4, ((b i % 8 * 64 + b (i + 1) % 64) * 64 + b (i + 2) % 64) * 64 + b (i + 3) % 64)) else none) else none
def vlF (b : By) (i c0 : Nat) : Nat → Nat
  | 0 => c0
  | q + 1 => vlF b i c0 q * 64 + b (i + q + 1) % 64
def gdF (b : By) (n i : Nat) : Nat → Bool
  | 0 => true
  | q + 1 => gdF b n i q && cnt b n (i + q + 1)
theorem vlF_lt {b : By} {i c0 : Nat} (h : c0 < 256) : ∀ q, vlF b i c0 q < 256 * 64 ^ q
  | 0 => by simpa [vlF] using h
  | q + 1 => by
    have h9 := vlF_lt (b := b) (i := i) h q
    have : 256 * 64 ^ (q + 1) = 64 * (256 * 64 ^ q) := by rw [Nat.pow_succ]; omega
    unfold vlF
    omega
theorem cnt_x {b : By} {n j : Nat} (hb : ∀ k, b k < 256) : (cnt b n j = true → ¬ pk b n j < 128 ∧ ¬ (192 : Int32) ≤ pk b n j ∧ pk b n j = nI (b j)) ∧ (cnt b n j = false → pk b n j < 128 ∨ (192 : Int32) ≤ pk b n j) := by
  unfold cnt
  by_cases hj : j < n
  · have h8 := hb j
    rw [pkI hj]
    refine ⟨fun h => ?_, fun h => ?_⟩
    · simp [hj] at h
      exact ⟨nI_nlt (b := 128) h.1 (by omega), nI_ge (b := 192) h.2 (by decide), rfl⟩
    · simp [hj] at h
      by_cases h1 : 128 ≤ b j
      · exact Or.inr (nI_le (a := 192) (h h1) (by omega))
      · exact Or.inl (nI_lt (b := 128) (by omega) (by decide))
  · rw [pkO (Nat.not_lt.mp hj)]
    exact ⟨fun h => by simp [hj] at h, fun _ => Or.inl (by decide)⟩
section CPC
variable {C : Cx} {d : Nat} {Post : OutT → Ht → Prop} {t : Ht} {r tp : Nat} {b : By} {n i : Nat}
/-- the loop over the bytes that follow -/
theorem r102L {m c0 : Nat} {l1 : Int32} (h : RD t r tp b n i) (hi : i < n) (hm : m ≤ 3) (hc : c0 < 256) (k1 : gdF b n i m = true → ¬ f104 (nI (vlF b i c0 m)) (nI m) = 0 → Post (.inl (some (svI (nI (vlF b i c0 m))))) (sI t r 4 (nI (i + (m + 1))))) (k2 : (gdF b n i m = false ∨ f104 (nI (vlF b i c0 m)) (nI m) = 0) → Post (.inr (200, 0)) (flH t r 1 (nI i)))
    (fuel : Nat) (l2 l3 l4 l5 : Int32) (t' : Ht) (hI : ∃ q, q ≤ m ∧ fuel = m - q ∧ t' = t ∧ l2 = nI m ∧ l5 = nI (q + 1) ∧ ((gdF b n i q = true ∧ l4 = 1 ∧ l3 = nI (vlF b i c0 q)) ∨ (gdF b n i q = false ∧ l4 = 0))) :
    vc102_39 (CalG C mtab (d + 1)) (cS C) (cG C) Post (fun l1' l2 l3 l4 l5 t' => ∃ k, k < fuel ∧ some r = some r ∧ (l1' = l1 ∧ ∃ q, q ≤ m ∧ k = m - q ∧ t' = t ∧ l2 = nI m ∧ l5 = nI (q + 1) ∧ ((gdF b n i q = true ∧ l4 = 1 ∧ l3 = nI (vlF b i c0 q)) ∨ (gdF b n i q = false ∧ l4 = 0)))) r l1 l2 l3 l4 l5 t' := by
  obtain ⟨q, hq, hf, rfl, rfl, rfl, hg⟩ := hI
  have hat := h.2.2.2.2.2.1
  have hn : n ≤ 1200 := h.2.2.2.2.2.2.1
  have hb := h.2.2.2.2.2.2.2.2.1
  unfold vc102_39
  rw [hat]
  refine ⟨fun e => ?_, fun e => ?_⟩
  · have hqm : q = m := by
      rcases Nat.lt_or_ge q m with z | z
      · exact absurd e (nI_nlt (by omega) (by omega))
      · omega
    subst hqm
    rcases hg with ⟨g1, rfl, rfl⟩ | ⟨g1, rfl⟩
    · refine ⟨fun e => absurd e (by decide), fun _ => p104 ⟨fun e => ⟨h.1, h.1, ?_⟩, fun e => ⟨h.1, h.1, ?_⟩⟩⟩
      · show CalG C mtab (d + 1) 83 [svR (some r), svI 1, svI (tI t' r 4)] t' _
        rw [hat]
        exact c83 h.1 (k2 (Or.inr e))
      show Post (.inl (some (svI (nI (vlF b i c0 q))))) (sI t' r 4 (tI t' r 4 + (1 + nI q)))
      rw [hat]
      rw [show (1 : Int32) + nI q = nI (1 + q) from nI_add 1 q, nI_add, show i + (1 + q) = i + (q + 1) by omega]
      exact k1 g1 e
    · exact ⟨fun _ => ⟨h.1, h.1, c83 h.1 (k2 (Or.inl g1))⟩, fun e => absurd rfl e⟩
  · have hqm : q < m := by
      rcases Nat.lt_or_ge q m with z | z
      · exact z
      · exact absurd (nI_lt (by omega) (by omega)) e
    refine ⟨h.1, h.1, ?_⟩
    rw [nI_add]
    refine r84 (by omega) h ?_
    have hx := cnt_x (b := b) (n := n) (j := i + (q + 1)) hb
    have e1 : i + q + 1 = i + (q + 1) := by omega
    rcases hg with ⟨g1, rfl, rfl⟩ | ⟨g1, rfl⟩
    · refine ⟨fun e => absurd e (by decide), fun _ => ?_⟩
      cases hcn : cnt b n (i + (q + 1)) with
      | true =>
        obtain ⟨x1, x2, x3⟩ := hx.1 hcn
        refine ⟨fun e => absurd e x1, fun _ => ⟨fun e => absurd e x2, fun _ => ⟨m - (q + 1), by omega, rfl, rfl, q + 1, by omega, rfl, rfl, rfl, by rw [nI_1], Or.inl ⟨?_, rfl, ?_⟩⟩⟩⟩
        · show (gdF b n i q && cnt b n (i + q + 1)) = true
          rw [g1, e1, hcn]; rfl
        · have := vlF_lt (b := b) (i := i) hc q
          have h64 : 64 ^ q ≤ 64 ^ 2 := Nat.pow_le_pow_right (by decide) (by omega)
          rw [x3, nI_or6 (by omega) (by have := hb (i + (q + 1)); omega)]
          show _ = nI (vlF b i c0 q * 64 + b (i + q + 1) % 64)
          rw [e1]
      | false =>
        have g2 : gdF b n i (q + 1) = false := by
          show (gdF b n i q && cnt b n (i + q + 1)) = false
          rw [g1, e1, hcn]; rfl
        rcases hx.2 hcn with x | x
        · exact ⟨fun _ => ⟨m - (q + 1), by omega, rfl, rfl, q + 1, by omega, rfl, rfl, rfl, by rw [nI_1], Or.inr ⟨g2, rfl⟩⟩, fun e => absurd x e⟩
        · exact ⟨fun _ => ⟨m - (q + 1), by omega, rfl, rfl, q + 1, by omega, rfl, rfl, rfl, by rw [nI_1], Or.inr ⟨g2, rfl⟩⟩, fun _ => ⟨fun _ => ⟨m - (q + 1), by omega, rfl, rfl, q + 1, by omega, rfl, rfl, rfl, by rw [nI_1], Or.inr ⟨g2, rfl⟩⟩, fun e => absurd x e⟩⟩
    · have g2 : gdF b n i (q + 1) = false := by
        show (gdF b n i q && cnt b n (i + q + 1)) = false
        rw [g1]; rfl
      exact ⟨fun _ => ⟨m - (q + 1), by omega, rfl, rfl, q + 1, by omega, rfl, rfl, rfl, by rw [nI_1], Or.inr ⟨g2, rfl⟩⟩, fun e => absurd rfl e⟩
theorem f103_t : ∀ c, c < 256 → f103 (nI c) = if c < 128 then 0 else if c < 192 then -1 else if c < 224 then 1 else if c < 240 then 2 else if c < 248 then 3 else -1 := by decide +kernel
theorem msk1 : ∀ c, c < 256 → nI c &&& ((63 : Int32) >>> (nI 1 &&& 31)) = nI (c % 32) := by decide +kernel
theorem msk2 : ∀ c, c < 256 → nI c &&& ((63 : Int32) >>> (nI 2 &&& 31)) = nI (c % 16) := by decide +kernel
theorem msk3 : ∀ c, c < 256 → nI c &&& ((63 : Int32) >>> (nI 3 &&& 31)) = nI (c % 8) := by decide +kernel
theorem r102m {m c0 : Nat} (h : RD t r tp b n i) (hi : i < n) (hm : m ≤ 3) (hc : c0 < 256) (hf : f103 (nI (b i)) = nI m) (h0 : m = 0 → nI (b i) = nI c0) (h1 : 0 < m → nI (b i) &&& ((63 : Int32) >>> (nI m &&& 31)) = nI c0)
    (k1 : gdF b n i m = true → ¬ f104 (nI (vlF b i c0 m)) (nI m) = 0 → Post (.inl (some (svI (nI (vlF b i c0 m))))) (sI t r 4 (nI (i + (m + 1))))) (k2 : (gdF b n i m = false ∨ f104 (nI (vlF b i c0 m)) (nI m) = 0) → Post (.inr (200, 0)) (flH t r 1 (nI i))) : CalG C mtab (d + 2) 102 [svR (some r)] t Post := by
  refine cal102 (fun fuel l1 l2 l3 l4 l5 t' => l1 = nI (b i) ∧ ∃ q, q ≤ m ∧ fuel = m - q ∧ t' = t ∧ l2 = nI m ∧ l5 = nI (q + 1) ∧ ((gdF b n i q = true ∧ l4 = 1 ∧ l3 = nI (vlF b i c0 q)) ∨ (gdF b n i q = false ∧ l4 = 0))) ?_ ?_
  · refine ⟨h.1, r85 h ?_⟩
    rw [pkI hi]
    refine p103 ?_
    rw [hf]
    rcases Nat.eq_zero_or_pos m with z | z
    · refine ⟨fun _ => ⟨fun e => absurd e (nI_pos (by omega)), fun _ => ⟨m, rfl, rfl, 0, by omega, by omega, rfl, rfl, rfl, Or.inl ⟨rfl, rfl, h0 z⟩⟩⟩, fun e => ?_⟩
      subst z
      exact absurd (by decide) e
    · refine ⟨fun e => absurd e (nI_nle z (by omega)), fun _ => ⟨fun e => absurd e (nI_pos (by omega)), fun _ => ⟨m, rfl, rfl, 0, by omega, by omega, rfl, rfl, rfl, Or.inl ⟨rfl, rfl, h1 z⟩⟩⟩⟩
  · rintro fuel l1 l2 l3 l4 l5 t' ⟨rfl, hI⟩
    exact r102L h hi hm hc k1 k2 fuel l2 l3 l4 l5 t' hI
/-- codePoint -/
theorem r102 (h : RD t r tp b n i) (hi : i < n) (k1 : ∀ l v, cpS b n i = some (l, v) → Post (.inl (some (svI (nI v)))) (sI t r 4 (nI (i + l)))) (k2 : cpS b n i = none → Post (.inr (200, 0)) (flH t r 1 (nI i))) : CalG C mtab (d + 2) 102 [svR (some r)] t Post := by
  have hb := h.2.2.2.2.2.2.2.2.1
  have hbi := hb i
  have hft := f103_t (b i) hbi
  have hni : ¬ n ≤ i := by omega
  have b1 := hb (i + 1)
  have b2 := hb (i + 2)
  have b3 := hb (i + 3)
  by_cases c1 : b i < 128
  · rw [if_pos c1] at hft
    have hcp : cpS b n i = some (1, b i) := by unfold cpS; rw [if_neg hni, if_pos c1]
    refine r102m (m := 0) (c0 := b i) h hi (by decide) hbi hft (fun _ => rfl) (fun z => absurd z (by decide)) (fun _ _ => k1 1 (b i) hcp) (fun z => ?_)
    rcases z with z | z
    · cases z
    · exact absurd z (by unfold f104; simp [show ¬ nI 0 = 1 by decide, show ¬ nI 0 = 2 by decide, show ¬ nI 0 = 3 by decide])
  rw [if_neg c1] at hft
  by_cases c2 : b i < 192
  · rw [if_pos c2] at hft
    have hcp : cpS b n i = none := by unfold cpS; rw [if_neg hni, if_neg c1, if_pos (by omega)]
    refine cal102 (fun _ _ l2 _ l4 l5 t' => l2 = -1 ∧ l4 = 0 ∧ l5 = 1 ∧ t' = t) ?_ ?_
    · refine ⟨h.1, r85 h ?_⟩
      rw [pkI hi]
      refine p103 ?_
      rw [hft]
      exact ⟨fun _ => ⟨fun _ => ⟨0, rfl, rfl, rfl, rfl, rfl⟩, fun e => absurd (by decide) e⟩, fun e => absurd (by decide) e⟩
    · rintro _ l1 l2 l3 l4 l5 t' ⟨rfl, rfl, rfl, rfl⟩
      refine ⟨fun _ => ⟨fun _ => ⟨h.1, h.1, ?_⟩, fun e => absurd rfl e⟩, fun e => absurd (by decide) e⟩
      rw [h.2.2.2.2.2.1]
      exact c83 h.1 (k2 hcp)
  rw [if_neg c2] at hft
  by_cases c3 : b i < 224
  · rw [if_pos c3] at hft
    have e1 : vlF b i (b i % 32) 1 = b i % 32 * 64 + b (i + 1) % 64 := rfl
    have g1 : gdF b n i 1 = cnt b n (i + 1) := by show (true && cnt b n (i + 0 + 1)) = _; simp
    have hf4 : f104 (nI (b i % 32 * 64 + b (i + 1) % 64)) (nI 1) = if b i % 32 * 64 + b (i + 1) % 64 < 128 then 0 else 1 := by
      generalize hv : b i % 32 * 64 + b (i + 1) % 64 = v
      have hv2 : v < 65536 := by omega
      unfold f104
      rw [if_pos (by decide)]
      by_cases q : v < 128
      · rw [if_pos (show nI v < (128 : Int32) from nI_lt (b := 128) q (by decide)), if_pos q]
      · rw [if_neg (show ¬ nI v < (128 : Int32) from nI_nlt (b := 128) (by omega) (by omega)), if_neg q]
    refine r102m (m := 1) (c0 := b i % 32) h hi (by decide) (by omega) hft (fun z => absurd z (by decide)) (fun _ => msk1 _ hbi) (fun z1 z2 => ?_) (fun z => ?_)
    · rw [e1] at z2 ⊢
      rw [hf4] at z2
      have z3 : ¬ b i % 32 * 64 + b (i + 1) % 64 < 128 := fun q => by rw [if_pos q] at z2; exact z2 rfl
      refine k1 2 _ ?_
      unfold cpS
      rw [if_neg hni, if_neg c1, if_neg (by omega), if_pos c3, if_pos (by rw [← g1]; exact z1)]
    · refine k2 ?_
      unfold cpS
      rw [if_neg hni, if_neg c1]
      by_cases c194 : b i < 194
      · rw [if_pos c194]
      rw [if_neg c194, if_pos c3]
      rcases z with z | z
      · rw [g1] at z; rw [z]; rfl
      · rw [e1, hf4, if_neg (by omega)] at z; exact absurd z (by decide)
  rw [if_neg c3] at hft
  have c194 : ¬ b i < 194 := by omega
  by_cases c4 : b i < 240
  · rw [if_pos c4] at hft
    have e1 : vlF b i (b i % 16) 2 = (b i % 16 * 64 + b (i + 1) % 64) * 64 + b (i + 2) % 64 := rfl
    have g1 : gdF b n i 2 = (cnt b n (i + 1) && cnt b n (i + 2)) := by show ((true && cnt b n (i + 0 + 1)) && cnt b n (i + 1 + 1)) = _; simp
    have hf4 : f104 (nI ((b i % 16 * 64 + b (i + 1) % 64) * 64 + b (i + 2) % 64)) (nI 2) = 0 ↔ ((b i % 16 * 64 + b (i + 1) % 64) * 64 + b (i + 2) % 64 < 2048 ∨ (55296 ≤ (b i % 16 * 64 + b (i + 1) % 64) * 64 + b (i + 2) % 64 ∧ (b i % 16 * 64 + b (i + 1) % 64) * 64 + b (i + 2) % 64 < 57344)) := by
      generalize hv : (b i % 16 * 64 + b (i + 1) % 64) * 64 + b (i + 2) % 64 = v
      have hv2 : v < 65536 := by omega
      unfold f104
      rw [if_neg (by decide), if_pos (by decide)]
      by_cases q : v < 2048
      · rw [if_pos (show nI v < (2048 : Int32) from nI_lt (b := 2048) q (by decide))]; exact ⟨fun _ => Or.inl q, fun _ => rfl⟩
      rw [if_neg (show ¬ nI v < (2048 : Int32) from nI_nlt (b := 2048) (by omega) (by omega))]
      by_cases q2 : v < 55296
      · rw [if_pos (show nI v < (55296 : Int32) from nI_lt (b := 55296) q2 (by decide))]; exact ⟨fun z => absurd z (by decide), fun z => by omega⟩
      rw [if_neg (show ¬ nI v < (55296 : Int32) from nI_nlt (b := 55296) (by omega) (by omega))]
      by_cases q3 : v < 57344
      · rw [if_pos (show nI v ≤ (57343 : Int32) from nI_le (b := 57343) (by omega) (by decide))]; exact ⟨fun _ => Or.inr ⟨by omega, q3⟩, fun _ => rfl⟩
      · rw [if_neg (show ¬ nI v ≤ (57343 : Int32) from nI_ge (a := 57343) (by omega) (by omega))]; exact ⟨fun z => absurd z (by decide), fun z => by omega⟩
    refine r102m (m := 2) (c0 := b i % 16) h hi (by decide) (by omega) hft (fun z => absurd z (by decide)) (fun _ => msk2 _ hbi) (fun z1 z2 => ?_) (fun z => ?_)
    · rw [e1] at z2 ⊢
      rw [hf4] at z2
      refine k1 3 _ ?_
      unfold cpS
      rw [if_neg hni, if_neg c1, if_neg c194, if_neg c3, if_pos c4, if_pos (by rw [← g1]; exact z1), if_neg z2]
    · refine k2 ?_
      unfold cpS
      rw [if_neg hni, if_neg c1, if_neg c194, if_neg c3, if_pos c4]
      rcases z with z | z
      · rw [g1] at z; rw [z]; rfl
      · rw [e1, hf4] at z; rw [if_pos z]; split <;> rfl
  rw [if_neg c4] at hft
  by_cases c5 : b i < 248
  · rw [if_pos c5] at hft
    have e1 : vlF b i (b i % 8) 3 = ((b i % 8 * 64 + b (i + 1) % 64) * 64 + b (i + 2) % 64) * 64 + b (i + 3) % 64 := rfl
    have g1 : gdF b n i 3 = (cnt b n (i + 1) && (cnt b n (i + 2) && cnt b n (i + 3))) := by show (((true && cnt b n (i + 0 + 1)) && cnt b n (i + 1 + 1)) && cnt b n (i + 2 + 1)) = _; simp [Bool.and_assoc]
    have hf4 : f104 (nI (((b i % 8 * 64 + b (i + 1) % 64) * 64 + b (i + 2) % 64) * 64 + b (i + 3) % 64)) (nI 3) = 0 ↔ (((b i % 8 * 64 + b (i + 1) % 64) * 64 + b (i + 2) % 64) * 64 + b (i + 3) % 64 < 65536 ∨ 1114111 < ((b i % 8 * 64 + b (i + 1) % 64) * 64 + b (i + 2) % 64) * 64 + b (i + 3) % 64) := by
      generalize hv : ((b i % 8 * 64 + b (i + 1) % 64) * 64 + b (i + 2) % 64) * 64 + b (i + 3) % 64 = v
      have hv2 : v < 2097152 := by omega
      unfold f104
      rw [if_neg (by decide), if_neg (by decide), if_pos (by decide)]
      by_cases q : v < 65536
      · rw [if_pos (show nI v < (65536 : Int32) from nI_lt (b := 65536) q (by decide))]; exact ⟨fun _ => Or.inl q, fun _ => rfl⟩
      rw [if_neg (show ¬ nI v < (65536 : Int32) from nI_nlt (b := 65536) (by omega) (by omega))]
      by_cases q2 : 1114111 < v
      · rw [if_pos (show (1114111 : Int32) < nI v from nI_lt (a := 1114111) q2 (by omega))]; exact ⟨fun _ => Or.inr q2, fun _ => rfl⟩
      · rw [if_neg (show ¬ (1114111 : Int32) < nI v from nI_nlt (a := 1114111) (by omega) (by decide))]; exact ⟨fun z => absurd z (by decide), fun z => by omega⟩
    refine r102m (m := 3) (c0 := b i % 8) h hi (by decide) (by omega) hft (fun z => absurd z (by decide)) (fun _ => msk3 _ hbi) (fun z1 z2 => ?_) (fun z => ?_)
    · rw [e1] at z2 ⊢
      rw [hf4] at z2
      refine k1 4 _ ?_
      have c245 : b i < 245 := by omega
      unfold cpS
      rw [if_neg hni, if_neg c1, if_neg c194, if_neg c3, if_neg c4, if_pos c245, if_pos (by rw [← g1]; exact z1), if_neg z2]
    · refine k2 ?_
      unfold cpS
      rw [if_neg hni, if_neg c1, if_neg c194, if_neg c3, if_neg c4]
      by_cases c245 : b i < 245
      · rw [if_pos c245]
        rcases z with z | z
        · rw [g1] at z; rw [z]; rfl
        · rw [e1, hf4] at z; rw [if_pos z]; split <;> rfl
      · rw [if_neg c245]
  · rw [if_neg c5] at hft
    have hcp : cpS b n i = none := by unfold cpS; rw [if_neg hni, if_neg c1, if_neg c194, if_neg c3, if_neg c4, if_neg (by omega)]
    refine cal102 (fun _ _ l2 _ l4 l5 t' => l2 = -1 ∧ l4 = 0 ∧ l5 = 1 ∧ t' = t) ?_ ?_
    · refine ⟨h.1, r85 h ?_⟩
      rw [pkI hi]
      refine p103 ?_
      rw [hft]
      exact ⟨fun _ => ⟨fun _ => ⟨0, rfl, rfl, rfl, rfl, rfl⟩, fun e => absurd (by decide) e⟩, fun e => absurd (by decide) e⟩
    · rintro _ l1 l2 l3 l4 l5 t' ⟨rfl, rfl, rfl, rfl⟩
      refine ⟨fun _ => ⟨fun _ => ⟨h.1, h.1, ?_⟩, fun e => absurd rfl e⟩, fun e => absurd (by decide) e⟩
      rw [h.2.2.2.2.2.1]
      exact c83 h.1 (k2 hcp)
end CPC
