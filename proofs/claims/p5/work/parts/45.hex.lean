/-! HEX DIGITS -/
def hexN (c : Nat) : Option Nat := if 48 ≤ c ∧ c ≤ 57 then some (c - 48) else if 97 ≤ c ∧ c ≤ 102 then some (c - 87) else if 65 ≤ c ∧ c ≤ 70 then some (c - 55) else none
def hxA (b : By) (n i : Nat) : Option Nat := if i < n then hexN (b i) else none
def o32 (o : Option Nat) : Int32 := match o with
  | some d => nI d
  | none => -1
theorem f101_t : ∀ c, c < 256 → f101 (nI c) = o32 (hexN c) := by decide +kernel
theorem hexN_lt {c d : Nat} (h : hexN c = some d) : d < 16 := by
  unfold hexN at h
  split at h
  · cases h; omega
  · split at h
    · cases h; omega
    · split at h
      · cases h; omega
      · cases h
theorem f101_p {b : By} {n i : Nat} (hb : ∀ k, b k < 256) : f101 (pk b n i) = o32 (hxA b n i) := by
  unfold hxA
  by_cases h : i < n
  · rw [pkI h, if_pos h]; exact f101_t _ (hb i)
  · rw [pkO (Nat.not_lt.mp h), if_neg h]; decide
theorem hxA_lt {b : By} {n i d : Nat} (h : hxA b n i = some d) : d < 16 ∧ i < n := by
  unfold hxA at h
  split at h
  · exact ⟨hexN_lt h, by assumption⟩
  · cases h
theorem nI_or4 {v c : Nat} (hv : v < 2 ^ 24) (hc : c < 16) : (nI v <<< ((4 : Int32) &&& 31)) ||| nI c = nI (v * 16 + c) := by
  rw [pk_shlN (n := v) ((4 : Int32) &&& 31) 4 (by decide) (by omega), nI_or (by omega) (by omega)]
  have e := Nat.two_pow_add_eq_or_of_lt (i := 4) (b := c) (by omega) v
  rw [show v * 2 ^ 4 = 2 ^ 4 * v from Nat.mul_comm _ _, ← e]
/-- whether the digit d may follow v as the digit q of four; low: of a low surrogate -/
def fitB (low : Bool) (q v d : Nat) : Bool := if q = 0 then (!low || d == 13) else if 1 < q then true else (low == (decide (220 ≤ v * 16 + d) && decide (v * 16 + d ≤ 223)))
def hxF (b : By) (n : Nat) (low : Bool) (i : Nat) : Nat → Nat → Nat ⊕ Nat
  | 0, v => .inl v
  | f + 1, v => match hxA b n (i + (3 - f)) with
    | some d => if fitB low (3 - f) v d then hxF b n low i f (v * 16 + d) else .inr (i + (3 - f))
    | none => .inr (i + (3 - f))
def hx4 (b : By) (n : Nat) (low : Bool) (i : Nat) : Nat ⊕ Nat := hxF b n low i 4 0
def bI (x : Bool) : Int32 := if x then 1 else 0
section HXC
variable {C : Cx} {d : Nat} {Post : OutT → Ht → Prop} {t : Ht} {r tp : Nat} {b : By} {n i : Nat}
theorem fit_br {A B : Prop} {low : Bool} {q v dd : Nat} (hq : q < 4) (hv : v * 16 + dd < 2 ^ 31) (hdd : dd < 16) (hA : fitB low q v dd = true → A) (hB : fitB low q v dd = false → B) :
    br (nI q = 0) (br (bI low = 0) A (br (nI dd = (13 : Int32)) A B)) (br ((1 : Int32) < nI q) A (br (nI (v * 16 + dd) < (220 : Int32)) (br (bI low = (0 : Int32)) A B) (br ((223 : Int32) < nI (v * 16 + dd)) (br (bI low = (0 : Int32)) A B) (br (bI low = (1 : Int32)) A B)))) := by
  have l0 : bI low = 0 ↔ low = false := by cases low <;> decide
  have l1 : bI low = 1 ↔ low = true := by cases low <;> decide
  have e13 : nI dd = (13 : Int32) ↔ dd = 13 := nI_eq (b := 13) (by omega) (by decide)
  have eq0 : nI q = (0 : Int32) ↔ q = 0 := nI_eq (b := 0) (by omega) (by decide)
  have eq1 : (1 : Int32) < nI q ↔ 1 < q := nI_ltI (a := 1) (by decide) (by omega)
  have e220 : nI (v * 16 + dd) < (220 : Int32) ↔ v * 16 + dd < 220 := nI_ltI (b := 220) (by omega) (by decide)
  have e223 : (223 : Int32) < nI (v * 16 + dd) ↔ 223 < v * 16 + dd := nI_ltI (a := 223) (by decide) (by omega)
  unfold fitB at hA hB
  unfold br
  rw [eq0, eq1, l0, l1, e13, e220, e223]
  refine ⟨fun h0 => ⟨fun hl => hA ?_, fun hl => ⟨fun h13 => hA ?_, fun h13 => hB ?_⟩⟩, fun h0 => ⟨fun h1 => hA ?_, fun h1 => ⟨fun h2 => ⟨fun hl => hA ?_, fun hl => hB ?_⟩, fun h2 => ⟨fun h3 => ⟨fun hl => hA ?_, fun hl => hB ?_⟩, fun h3 => ⟨fun hl => hA ?_, fun hl => hB ?_⟩⟩⟩⟩⟩
  · simp [h0, hl]
  · simp [h0, h13]
  · simp [h0, h13]; simpa using hl
  · simp [h0, h1]
  · simp [h0, h1, hl]; omega
  · simp [h0, h1]; cases low <;> simp at hl ⊢; omega
  · simp [h0, h1, hl]; omega
  · simp [h0, h1]; cases low <;> simp at hl ⊢; omega
  · simp [h0, h1, hl]; omega
  · simp [h0, h1]; cases low <;> simp at hl ⊢; omega
/-- hexFour -/
theorem r100 {low : Bool} (h : RD t r tp b n i) (hi : i ≤ 1201) (k1 : ∀ v, hx4 b n low i = .inl v → Post (.inl (some (svI (nI v)))) (sI t r 4 (nI (i + 4)))) (k2 : ∀ p, hx4 b n low i = .inr p → Post (.inr (200, 0)) (flH (sI t r 4 (nI p)) r 1 (nI p))) : CalG C mtab (d + 2) 100 [svR (some r), svI (bI low)] t Post := by
  have hn : n ≤ 1200 := h.2.2.2.2.2.2.1
  have hb := h.2.2.2.2.2.2.2.2.1
  refine cal100 (fun k l2 l3 t' => ∃ q v, q ≤ 4 ∧ k = 3 * (4 - q) ∧ l3 = nI q ∧ l2 = nI v ∧ v < 16 ^ q ∧ i + q ≤ 1201 ∧ t' = sI t r 4 (nI (i + q)) ∧ hxF b n low i (4 - q) v = hx4 b n low i)
    (fun k l2 l3 l4 l5 t' => ∃ q v, q < 4 ∧ k = 3 * (4 - q) - 1 ∧ l3 = nI q ∧ v < 16 ^ q ∧ i + q ≤ 1201 ∧ t' = sI t r 4 (nI (i + q)) ∧ hxF b n low i (4 - q) v = hx4 b n low i ∧ ((hxA b n (i + q) = none ∧ l4 = -1) ∨ ∃ dd, hxA b n (i + q) = some dd ∧ l4 = nI dd ∧ l2 = nI (v * 16 + dd) ∧ l5 = bI (fitB low q v dd)))
    (fun k l2 l3 l4 l5 t' => ∃ q v dd, q < 4 ∧ k = 3 * (4 - q) - 2 ∧ l3 = nI q ∧ v < 16 ^ q ∧ i + q < n ∧ t' = sI t r 4 (nI (i + q)) ∧ hxF b n low i (4 - q) v = hx4 b n low i ∧ hxA b n (i + q) = some dd ∧ l2 = nI (v * 16 + dd) ∧ fitB low q v dd = true) ?_ ?_ ?_ ?_
  · exact ⟨12, rfl, rfl, 0, 0, by decide, rfl, rfl, rfl, by decide, by omega, (sI_self h.2.2.2.2.2.1).symm, rfl⟩
  · rintro k l2 l3 t' ⟨q, v, hq, hk, rfl, rfl, hv, hiq, rfl, hx⟩
    have hR := h.to (j := i + q) hiq
    unfold vc100_4
    refine ⟨fun e => ?_, fun e => ⟨h.1, r85 hR (p101 ?_)⟩⟩
    · have hq4 : q = 4 := by
        rcases Nat.lt_or_ge q 4 with z | z
        · exact absurd e (nI_ge (b := 4) z (by decide))
        · omega
      subst hq4
      exact k1 v hx.symm
    · have hq4 : q < 4 := by
        rcases Nat.lt_or_ge q 4 with z | z
        · exact z
        · exact absurd (nI_le (a := 4) z (by omega)) e
      have h16 : 16 ^ q ≤ 16 ^ 3 := Nat.pow_le_pow_right (by decide) (by omega)
      rw [f101_p hb]
      have mk : ∀ l5 l2', (hxA b n (i + q) = none ∨ ∃ dd, hxA b n (i + q) = some dd ∧ l2' = nI (v * 16 + dd) ∧ l5 = bI (fitB low q v dd)) → ∃ k', k' < k ∧ some r = some r ∧ bI low = bI low ∧ ∃ q' v', q' < 4 ∧ k' = 3 * (4 - q') - 1 ∧ nI q = nI q' ∧ v' < 16 ^ q' ∧ i + q' ≤ 1201 ∧ sI t r 4 (nI (i + q)) = sI t r 4 (nI (i + q')) ∧ hxF b n low i (4 - q') v' = hx4 b n low i ∧ ((hxA b n (i + q') = none ∧ o32 (hxA b n (i + q)) = -1) ∨ ∃ dd, hxA b n (i + q') = some dd ∧ o32 (hxA b n (i + q)) = nI dd ∧ l2' = nI (v' * 16 + dd) ∧ l5 = bI (fitB low q' v' dd)) := by
        intro l5 l2' hh
        refine ⟨3 * (4 - q) - 1, by omega, rfl, rfl, q, v, hq4, rfl, rfl, hv, hiq, rfl, hx, ?_⟩
        rcases hh with hh | ⟨dd, h1, h2, h3⟩
        · exact Or.inl ⟨hh, by rw [hh]; rfl⟩
        · exact Or.inr ⟨dd, h1, by rw [h1]; rfl, h2, h3⟩
      cases hd : hxA b n (i + q) with
      | none =>
        have m0 := fun l5 l2' => mk l5 l2' (Or.inl hd)
        rw [hd] at m0
        exact ⟨fun _ => ⟨fun _ => m0 _ _, fun _ => ⟨fun _ => m0 _ _, fun _ => m0 _ _⟩⟩, fun _ => ⟨fun _ => m0 _ _, fun _ => ⟨fun _ => ⟨fun _ => m0 _ _, fun _ => m0 _ _⟩, fun _ => ⟨fun _ => ⟨fun _ => m0 _ _, fun _ => m0 _ _⟩, fun _ => ⟨fun _ => m0 _ _, fun _ => m0 _ _⟩⟩⟩⟩⟩
      | some dd =>
        obtain ⟨h16d, hlt⟩ := hxA_lt hd
        have m0 := fun l5 l2' hh => mk l5 l2' (Or.inr ⟨dd, hd, hh⟩)
        rw [hd] at m0
        show br (nI q = 0) (br (bI low = 0) _ (br (nI dd = (13 : Int32)) _ _)) (br ((1 : Int32) < nI q) _ (br (((nI v <<< ((4 : Int32) &&& 31)) ||| nI dd) < (220 : Int32)) (br (bI low = (0 : Int32)) _ _) (br ((223 : Int32) < ((nI v <<< ((4 : Int32) &&& 31)) ||| nI dd)) (br (bI low = (0 : Int32)) _ _) (br (bI low = (1 : Int32)) _ _))))
        rw [nI_or4 (by omega) h16d]
        exact fit_br hq4 (by omega) h16d (fun hf => m0 1 _ ⟨nI_or4 (by omega) h16d, by rw [hf]; rfl⟩) (fun hf => m0 0 _ ⟨nI_or4 (by omega) h16d, by rw [hf]; rfl⟩)
  · rintro k l2 l3 l4 l5 t' ⟨q, v, hq, hk, rfl, hv, hiq, rfl, hx, hh⟩
    have hat : tI (sI t r 4 (nI (i + q))) r 4 = nI (i + q) := (h.to (j := i + q) hiq).2.2.2.2.2.1
    have e34 : 4 - q = (3 - q) + 1 := by omega
    have e3 : 3 - (3 - q) = q := by omega
    unfold vc100_83
    rw [hat]
    rcases hh with ⟨hd, rfl⟩ | ⟨dd, hd, rfl, rfl, rfl⟩
    · refine ⟨fun _ => ⟨h.1, h.1, c83 h.1 (k2 (i + q) ?_)⟩, fun e => absurd (by decide) e⟩
      rw [← hx, e34, hxF, e3, hd]
    · obtain ⟨h16d, hlt⟩ := hxA_lt hd
      refine ⟨fun e => absurd e (nI_pos (by omega)), fun _ => ?_⟩
      cases hf : fitB low q v dd with
      | true => exact ⟨fun e => absurd e (by decide), fun _ => ⟨3 * (4 - q) - 2, by omega, rfl, rfl, q, v, dd, hq, rfl, rfl, hv, hlt, rfl, hx, hd, rfl, hf⟩⟩
      | false =>
        refine ⟨fun _ => ⟨h.1, h.1, c83 h.1 (k2 (i + q) ?_)⟩, fun e => absurd rfl e⟩
        rw [← hx, e34, hxF, e3, hd]
        show (if fitB low q v dd then _ else _) = _
        rw [hf]; rfl
  · rintro k l2 l3 l4 l5 t' ⟨q, v, dd, hq, hk, rfl, hv, hlt, rfl, hx, hd, rfl, hf⟩
    have hat : tI (sI t r 4 (nI (i + q))) r 4 = nI (i + q) := (h.to (j := i + q) (by omega)).2.2.2.2.2.1
    have e34 : 4 - q = (3 - q) + 1 := by omega
    have e3 : 3 - (3 - q) = q := by omega
    obtain ⟨h16d, -⟩ := hxA_lt hd
    unfold vc100_102
    rw [hat, nI_1, sI_sI, nI_1]
    refine ⟨h.1, h.1, 3 * (4 - (q + 1)), by omega, rfl, rfl, q + 1, v * 16 + dd, by omega, rfl, rfl, rfl, ?_, by omega, rfl, ?_⟩
    · rw [Nat.pow_succ]; omega
    · rw [← hx, e34, hxF, e3, hd]
      show _ = (if fitB low q v dd then _ else _)
      rw [hf, show 4 - (q + 1) = 3 - q by omega]; rfl
end HXC
