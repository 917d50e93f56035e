/-! the reader's string -/
theorem cnt_lt {b : By} {n j : Nat} (h : cnt b n j = true) : j < n := by
  unfold cnt at h
  simp at h
  exact h.1
theorem cpS_le {b : By} {n i l v : Nat} (h : cpS b n i = some (l, v)) : 0 < l ∧ i + l ≤ n ∧ v < 1114112 := by
  unfold cpS at h
  split at h
  · cases h
  split at h
  · cases h; omega
  split at h
  · cases h
  split at h
  · split at h
    · rename_i hc; have := cnt_lt hc; cases h; omega
    · cases h
  split at h
  · split at h
    · rename_i hc
      simp only [Bool.and_eq_true] at hc
      have := cnt_lt hc.2
      split at h
      · cases h
      · cases h; omega
    · cases h
  split at h
  · split at h
    · rename_i hc
      simp only [Bool.and_eq_true] at hc
      have := cnt_lt hc.2.2
      split at h
      · cases h
      · rename_i hv; cases h; omega
    · cases h
  · cases h
theorem esS_le {b : By} {n i c j : Nat} {q : Int32} (hb : ∀ k, b k < 256) (hq0 : ¬ q < 0) (h : esS b n q i = .inl (c, j)) : i + 2 ≤ j ∧ j ≤ n ∧ c < 1114112 := by
  unfold esS at h
  split at h
  · rename_i hy
    have hlt : i + 1 < n := by
      rcases hy with z | z | z
      · exact (pk_nn z hq0).1
      · exact (pk_nn z (by decide)).1
      · exact (pk_nn z (by decide)).1
    have := hb (i + 1)
    cases h; omega
  split at h
  · rename_i z; have := (pk_nn z (by decide)).1; cases h; omega
  split at h
  · rename_i z; have := (pk_nn z (by decide)).1; cases h; omega
  split at h
  · rename_i z; have := (pk_nn z (by decide)).1; cases h; omega
  split at h
  · rename_i z; have := (pk_nn z (by decide)).1; cases h; omega
  split at h
  · rename_i z; have := (pk_nn z (by decide)).1; cases h; omega
  split at h
  · cases hx : hx4 b n false (i + 2) with
    | inr p => rw [hx] at h; cases h
    | inl v =>
      rw [hx] at h
      have hin := hxF_in 3 0 v hx
      have hlt := hx4_lt hx
      dsimp only at h
      split at h
      · cases h; omega
      split at h
      · split at h
        · cases hy : hx4 b n true (i + 8) with
          | inr p => rw [hy] at h; cases h
          | inl w =>
            rw [hy] at h
            have hin2 := hxF_in 3 0 w hy
            cases h; omega
        · cases h
      · cases h
  · cases h
section ST2
variable {C : Cx} {d : Nat} {Post : OutT → Ht → Prop} {t : Ht} {r tp ch : Nat} {b : By} {n i : Nat}
/-- string -/
theorem r95 {q : Int32} (hq : q = 34 ∨ q = 39) (h : RB t r tp ch b n i) (hi : i < n) (hpk : pk b n i = q)
    (k1 : ∀ cs j, stS b n q (i + 1) = .inl (cs, j) → ∀ t2, RX r ch t t2 → tN t2 = tN t + 1 → tU t2 = tU t + cs.length → tI t2 r 4 = nI j → IAr t2 (tN t) cs → Post (.inl (some (svR (some (tN t))))) t2)
    (k2 : ∀ p, stS b n q (i + 1) = .inr p → ∀ t2, BD r ch t t2 1 p → Post (.inr (200, 0)) t2) : CalG C mtab (d + 4) 95 [svR (some r)] t Post := by
  obtain ⟨n1, n2, n3⟩ := h.ne
  have hn : n ≤ 1200 := h.1.2.2.2.2.2.2.1
  have hb := h.1.2.2.2.2.2.2.2.2.1
  have hq0 : ¬ q < 0 := by rcases hq with rfl | rfl <;> decide
  have hrN := h.2.2.2.2.2.1
  refine cal95 (fun m l1 l2 t' => l1 = q ∧ ∃ f cs j, l2 = nI cs.length ∧ cs.length + (i + 1) ≤ j ∧ j ≤ n ∧ m = n + 1 - j ∧ n + 1 - j ≤ f ∧ SB t t' r ch cs j ∧ stF b n q f j cs = stS b n q (i + 1)) ?_ ?_
  · refine ⟨h.1.1, r85 h.1 ⟨h.1.1, h.1.1, h.1.1, n + 1 - (i + 1), rfl, hpk, n + 1 - (i + 1), [], i + 1, rfl, by simp, by omega, rfl, Nat.le_refl _, ?_, rfl⟩⟩
    have e4 : tI (sI t r 2 0) r 4 = nI i := by simp [ht, h.1.2.2.2.2.2.1]
    rw [e4, nI_1]
    refine ⟨(RX.I (Or.inl rfl)).trans (RX.I (Or.inr rfl)), rfl, rfl, ?_, ?_, fun k hk => by simp at hk⟩
    · simp [ht]; rfl
    · simp [ht]
  · rintro m l1 l2 t' ⟨rfl, f, cs, j, rfl, hcj, hjn, hm, hf, hs, hst⟩
    obtain ⟨f0, rfl⟩ : ∃ f0, f = f0 + 1 := ⟨f - 1, by omega⟩
    have hB := h.x hs.1 hs.2.2.2.2.1 (by omega)
    have hK := hB.1.1
    have e3 := hB.1.2.2.2.2.1
    have e4 := hB.1.2.2.2.2.2.1
    have hN' : tN t' = tN t := hs.2.1
    have hU' : tU t' = tU t := hs.2.2.1
    unfold vc95_22
    rw [e3]
    refine ⟨hK, fun e => absurd e (nI_ge (by omega) (by omega)), fun _ => ⟨hK, r85 hB.1 ⟨fun e => ⟨hK, r88 hB.1 (fun _ => ?_) (fun z => absurd e z)⟩, fun e => ⟨hK, r85 hB.1 ⟨fun e32 => ⟨hK, r85 hB.1 ⟨fun e92 => ⟨hK, ?_⟩, fun e92 => ⟨hK, ?_⟩⟩⟩, fun e32 => ⟨hK, hK, ?_⟩⟩⟩⟩⟩⟩
    · refine ⟨rfl, hK, r94 h (SB.to n1 hs) (by omega) (fun t2 g1 g2 g3 g4 g5 => ?_)⟩
      exact k1 cs (j + 1) (by rw [← hst, stF, if_pos e]) t2 g1 g2 g3 g4 g5
    · obtain ⟨hjlt, -⟩ := pk_nn e92 (by decide)
      refine r98 hq hB.1 hjlt (fun c j' hes => ⟨hK, ?_⟩) (fun p hes => ?_)
      · obtain ⟨l1, l2, l3⟩ := esS_le hb hq0 hes
        have hs1 := SB.to (j' := j') n1 hs
        refine r93 (cs := cs) (ch := ch) hK hB.2.1 hB.2.2.1 hB.2.2.2.1 hs1.2.2.2.1 (by omega) ⟨rfl, n + 1 - j', by omega, rfl, rfl, f0, cs ++ [c], j', ?_, by simp; omega, l2, rfl, by omega, SB.keep n1 hs1, ?_⟩ n1
        · simp [nI_1]
        · rw [← hst]
          conv => rhs; rw [stF, if_neg e, if_neg (fun z => z e32), if_pos e92, hes]
      · refine k2 p ?_ _ (BD.fl (w := 1) (hs.1.trans (RX.I (Or.inr rfl))) hN' hU' hrN)
        rw [← hst, stF, if_neg e, if_neg (fun z => z e32), if_pos e92, hes]
    · have hjlt : j < n := by
        rcases Nat.lt_or_ge j n with z | z
        · exact z
        · rw [pkO z] at e32; exact absurd e32 (by decide)
      refine r102 hB.1 hjlt (fun l v hcp => ⟨hK, ?_⟩) (fun hcp => ?_)
      · obtain ⟨l1, l2, l3⟩ := cpS_le hcp
        have hs1 := SB.to (j' := j + l) n1 hs
        refine r93 (cs := cs) (ch := ch) hK hB.2.1 hB.2.2.1 hB.2.2.2.1 hs1.2.2.2.1 (by omega) ⟨rfl, n + 1 - (j + l), by omega, rfl, rfl, f0, cs ++ [v], j + l, ?_, by simp; omega, l2, rfl, by omega, SB.keep n1 hs1, ?_⟩ n1
        · simp [nI_1]
        · rw [← hst]
          conv => rhs; rw [stF, if_neg e, if_neg (fun z => z e32), if_neg e92, hcp]
      · refine k2 j ?_ _ (BD.fl (w := 1) hs.1 hN' hU' hrN)
        rw [← hst, stF, if_neg e, if_neg (fun z => z e32), if_neg e92, hcp]
    · rw [e4]
      refine c83 hK (k2 j ?_ _ (BD.fl (w := 1) hs.1 hN' hU' hrN))
      rw [← hst, stF, if_neg e, if_pos e32]
end ST2
