/-! WORDS AND NAMES OF A TEXT -/
def wdS (b : By) (n : Nat) : List Int32 → Nat → Nat ⊕ Nat
  | [], i => .inl i
  | c :: w, i => if pk b n i = c then wdS b n w (i + 1) else .inr i
def wdB (b : By) (n : Nat) : List Int32 → Nat → Bool
  | [], _ => true
  | c :: w, i => decide (pk b n i = c) && wdB b n w (i + 1)
def txW (m : Nat) : List Int32 := bytTx.getD m []
theorem txW_len : ∀ m, m < 10 → lenTx.getD m 0 = (txW m).length := by decide
theorem txW_nn : ∀ m, m < 10 → ∀ c ∈ txW m, ¬ c < 0 := by decide
theorem txW_lt : ∀ m, m < 10 → (txW m).length ≤ 20 := by decide
theorem drop_c {l : List Int32} {q : Nat} (h : q < l.length) : l.drop q = l.getD q 0 :: l.drop (q + 1) := by
  rw [List.drop_eq_getElem_cons h]
  congr 1
  simp [List.getD, h]
section WDC
variable {C : Cx} {d : Nat} {Post : OutT → Ht → Prop} {t : Ht} {r tp ch : Nat} {b : By} {n i : Nat}
/-- expectWord -/
theorem r89 {m : Nat} (hm : m < 10) (h : RD t r tp b n i) (hi : i ≤ n) (k1 : ∀ j, wdS b n (txW m) i = .inl j → Post (.inl none) (sI t r 4 (nI j))) (k2 : ∀ p, wdS b n (txW m) i = .inr p → Post (.inr (200, 0)) (flP t r p)) : CalG C mtab (d + 5) 89 [svR (some r), svR (some (cS C m))] t Post := by
  have hn : n ≤ 1200 := h.2.2.2.2.2.2.1
  have hl := txW_len m hm
  have hl20 := txW_lt m hm
  refine cal89 (fun k l2 t' => ∃ q, l2 = nI q ∧ q ≤ (txW m).length ∧ k = (txW m).length - q ∧ i + q ≤ n ∧ t' = sI t r 4 (nI (i + q)) ∧ wdS b n ((txW m).drop q) (i + q) = wdS b n (txW m) i) ?_ ?_
  · exact ⟨(txW m).length, rfl, rfl, 0, rfl, Nat.zero_le _, rfl, hi, (sI_self h.2.2.2.2.2.1).symm, rfl⟩
  · rintro k l2 t' ⟨q, rfl, hq, hk, hiq, rfl, hw⟩
    have hR := h.to (j := i + q) (by omega)
    refine ⟨⟨m, hm, rfl⟩, s254 hm ?_⟩
    rw [hl]
    refine ⟨fun e => ?_, fun e => ?_⟩
    · have hqe : q = (txW m).length := by
        rcases Nat.lt_or_ge q (txW m).length with z | z
        · exact absurd e (nI_ge z (by omega))
        · omega
      rw [hqe, List.drop_length] at hw
      rw [hqe]
      exact k1 _ hw.symm
    · have hqe : q < (txW m).length := by
        rcases Nat.lt_or_ge q (txW m).length with z | z
        · exact z
        · exact absurd (nI_le z (by omega)) e
      have hdc := drop_c hqe
      have hmem : (txW m).getD q 0 ∈ txW m := by
        have : (txW m).getD q 0 = (txW m)[q] := by simp [List.getD, hqe]
        rw [this]; exact List.getElem_mem hqe
      refine ⟨⟨m, hm, rfl⟩, s255 hm (by omega) ⟨h.1, r88 hR (fun e2 => ⟨rfl, ?_⟩) (fun e2 => ?_)⟩⟩
      · have e3 : pk b n (i + q) = (txW m).getD q 0 := e2
        obtain ⟨hlt, -⟩ := pk_nn e3 (txW_nn m hm _ hmem)
        refine ⟨(txW m).length - (q + 1), by omega, rfl, rfl, q + 1, by rw [nI_1], by omega, rfl, by omega, by rw [sI_sI]; rfl, ?_⟩
        rw [hdc, wdS, if_pos e3] at hw
        exact hw
      · have e3 : ¬ pk b n (i + q) = (txW m).getD q 0 := e2
        refine k2 (i + q) ?_
        rw [← hw, hdc, wdS, if_neg e3]
/-- isWord -/
theorem r90 {m f g : Nat} (hm : m < 10) (h : RD t r tp b n i) (hfg : f ≤ g) (hg : g ≤ 1201) (k : Post (.inl (some (svI (bI (decide (g - f = (txW m).length) && wdB b n (txW m) f))))) t) : CalG C mtab (d + 5) 90 [svR (some r), svI (nI f), svI (nI g), svR (some (cS C m))] t Post := by
  have hl := txW_len m hm
  have hl20 := txW_lt m hm
  refine cal90 (fun k' l4 t' => ∃ q, l4 = nI q ∧ q ≤ (txW m).length ∧ k' = (txW m).length - q ∧ t' = t ∧ g - f = (txW m).length ∧ wdB b n ((txW m).drop q) (f + q) = wdB b n (txW m) f) ?_ ?_
  · refine ⟨⟨m, hm, rfl⟩, s254 hm ?_⟩
    rw [hl, pk_sub hfg]
    refine ⟨fun e => ?_, fun e => ⟨Or.inl rfl, ?_⟩⟩
    · exact ⟨(txW m).length, rfl, rfl, rfl, rfl, 0, rfl, Nat.zero_le _, rfl, rfl, (nI_eq (by omega) (by omega)).mp e, rfl⟩
    · have : ¬ g - f = (txW m).length := fun z => e (by rw [z])
      simp [this, bI] at k
      exact k
  · rintro k' l4 t' ⟨q, rfl, hq, hk, rfl, hgf, hw⟩
    refine ⟨⟨m, hm, rfl⟩, s254 hm ?_⟩
    rw [hl]
    refine ⟨fun e => ⟨Or.inr rfl, ?_⟩, fun e => ?_⟩
    · have hqe : q = (txW m).length := by
        rcases Nat.lt_or_ge q (txW m).length with z | z
        · exact absurd e (nI_ge z (by omega))
        · omega
      rw [hqe, List.drop_length] at hw
      rw [← hw] at k
      simp [hgf, wdB, bI] at k
      exact k
    · have hqe : q < (txW m).length := by
        rcases Nat.lt_or_ge q (txW m).length with z | z
        · exact z
        · exact absurd (nI_le z (by omega)) e
      have hdc := drop_c hqe
      refine ⟨h.1, ?_⟩
      rw [nI_add]
      refine r84 (by omega) h ⟨⟨m, hm, rfl⟩, s255 hm (by omega) ⟨fun e2 => ?_, fun e2 => ⟨Or.inl rfl, ?_⟩⟩⟩
      · have e3 : pk b n (f + q) = (txW m).getD q 0 := e2
        refine ⟨(txW m).length - (q + 1), by omega, rfl, rfl, rfl, rfl, q + 1, by rw [nI_1], by omega, rfl, rfl, hgf, ?_⟩
        rw [hdc, wdB] at hw
        simp [e3] at hw
        rw [← hw]; rfl
      · have e3 : ¬ pk b n (f + q) = (txW m).getD q 0 := e2
        rw [hdc, wdB] at hw
        simp only [e3, decide_false, Bool.false_and] at hw
        rw [← hw] at k
        simp [bI] at k
        exact k
end WDC
