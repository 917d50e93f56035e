theorem c0F_lt {m c : Nat} (h : c < 256) : c0F m c < 256 := by
  unfold c0F
  split
  · exact h
  split
  · omega
  split <;> omega
section MS2
variable {C : Cx} {d : Nat} {Post : OutT → Ht → Prop} {t : Ht} {M s tp ch : Nat} {b : By} {n i : Nat}
set_option maxHeartbeats 400000 in
/-- character -/
theorem m163 (h : MD t M s tp b n i) (hi : i < n) (k1 : ∀ l v, cpS b n i = some (l, v) → Post (.inl (some (svI (nI v)))) (sI t M 5 (nI (i + l)))) (k2 : cpS b n i = none → Post (.inr (16, s)) (mb t s 1 i)) : CalG C mtab (d + 3) 163 [svR (some M)] t Post := by
  have hb := h.2.2.2.2.2.2.2.2.2.2.1
  have hn : n ≤ 1200 := h.2.2.2.2.2.2.2.2.1
  have hat := h.2.2.2.2.2.2.2.1
  have hbi := hb i
  have hK := h.1
  refine cal163 (fun k l1 l2 t' => k = 90 ∧ l1 = nI (b i) ∧ l2 = g163 (b i) ∧ t' = t)
    (fun k l1 l2 l3 t' => k = 80 ∧ t' = t ∧ ∃ m, m ≤ 3 ∧ g163 (b i) = nI m ∧ l2 = nI m ∧ l3 = nI (c0F m (b i)))
    (fun k l1 l2 l3 l4 t' => t' = t ∧ ∃ m q, m ≤ 3 ∧ q ≤ m ∧ k = 10 * (m - q) + 20 ∧ g163 (b i) = nI m ∧ l2 = nI m ∧ l3 = nI (vlF b i (c0F m (b i)) q) ∧ l4 = nI (q + 1) ∧ gdF b n i q = true)
    (fun k l1 l2 l3 l4 l5 t' => k = 1 ∧ t' = t ∧ cpS b n i = none)
    (fun k l1 l2 l3 l4 l5 t' => t' = t ∧ ∃ m q, m ≤ 3 ∧ q < m ∧ k = 10 * (m - q) + 15 ∧ g163 (b i) = nI m ∧ l2 = nI m ∧ l3 = nI (vlF b i (c0F m (b i)) q) ∧ l4 = nI (q + 1) ∧ gdF b n i q = true ∧ l5 = nI (b (i + q + 1)) ∧ cnt b n (i + q + 1) = true)
    (fun k l1 l2 l3 l4 t' => k = 10 ∧ t' = t ∧ ∃ m, m ≤ 3 ∧ g163 (b i) = nI m ∧ l2 = nI m ∧ l3 = nI (vlF b i (c0F m (b i)) m) ∧ gdF b n i m = true)
    (fun k l1 l2 l3 l4 t' => k = 1 ∧ t' = t ∧ cpS b n i = none)
    (fun k l1 l2 l3 l4 t' => k = 1 ∧ t' = t ∧ ∃ m v, m ≤ 3 ∧ l2 = nI m ∧ l3 = nI v ∧ cpS b n i = some (m + 1, v)) ?_ ?_ ?_ ?_ ?_ ?_ ?_ ?_ ?_
  · refine ⟨hK, m156 h ?_⟩
    rw [pkI hi]
    exact t163 (P := fun x => ∃ k, some M = some M ∧ (k = 90 ∧ nI (b i) = nI (b i) ∧ x = g163 (b i) ∧ t = t)) hbi ⟨90, rfl, rfl, rfl, rfl, rfl⟩
  · rintro k l1 l2 t' ⟨rfl, rfl, rfl, rfl⟩
    refine ⟨fun e => ?_, fun _ => ⟨fun e => ⟨hK, mBad h (k2 (cpS_b e))⟩, fun e => ?_⟩⟩
    · exact absurd (show nI (b i) < 0 by rw [e]; decide) (nI_pos (by omega))
    · rcases g163_c (b i) with z | ⟨m, hm, z⟩
      · exact absurd z e
      · rw [z]
        refine ⟨fun e0 => ⟨80, by decide, rfl, rfl, rfl, m, hm, rfl, rfl, ?_⟩, fun e0 => ⟨80, by decide, rfl, rfl, rfl, m, hm, rfl, rfl, ?_⟩⟩
        · have : m = 0 := (nI_eq (b := 0) (by omega) (by decide)).mp e0
          subst this; rfl
        · have : 0 < m := by
            rcases Nat.eq_zero_or_pos m with y | y
            · rw [y] at e0; exact absurd rfl e0
            · exact y
          exact mskF hm this hbi
  · rintro k l1 l2 l3 t' ⟨rfl, rfl, m, hm, z, rfl, rfl⟩
    exact ⟨10 * (m - 0) + 20, by omega, rfl, rfl, m, 0, hm, by omega, rfl, z, rfl, rfl, rfl, rfl⟩
  · rintro k l1 l2 l3 l4 t' ⟨rfl, m, q, hm, hq, hk, z, rfl, rfl, rfl, hg⟩
    unfold vc163_105
    refine ⟨fun e => ?_, fun e => ⟨hK, hK, ?_⟩⟩
    · have hqm : q = m := by
        rcases Nat.lt_or_ge q m with y | y
        · exact absurd e (nI_nlt (by omega) (by omega))
        · omega
      subst hqm
      exact ⟨10, by omega, rfl, rfl, rfl, q, hm, z, rfl, rfl, hg⟩
    · have hqm : q < m := by
        rcases Nat.lt_or_ge q m with y | y
        · exact y
        · exact absurd (nI_lt (by omega) (by omega)) e
      rw [hat, nI_add]
      have bad : cnt b n (i + q + 1) = false → cpS b n i = none := fun hc => by
        refine (cpS_g hb hi hm z).2 (Or.inl ?_)
        have : ∀ y, q < y → gdF b n i y = false := by
          intro y
          induction y with
          | zero => intro y1; omega
          | succ y ih =>
            intro y1
            show (gdF b n i y && cnt b n (i + y + 1)) = false
            rcases Nat.lt_or_ge q y with y2 | y2
            · rw [ih y2]; rfl
            · rw [show y = q by omega, hc, Bool.and_false]
        exact this m hqm
      refine m155 (by omega) h ?_
      have e1 : i + (q + 1) = i + q + 1 := by omega
      rw [e1]
      refine ⟨fun e2 => ⟨1, by omega, rfl, rfl, rfl, bad ?_⟩, fun e2 => ⟨fun e3 => ⟨10 * (m - q) + 15, by omega, rfl, rfl, m, q, hm, hqm, rfl, z, rfl, rfl, rfl, hg, ?_, ?_⟩, fun e3 => ⟨1, by omega, rfl, rfl, rfl, bad ?_⟩⟩⟩
      · cases hc : cnt b n (i + q + 1) with
        | false => rfl
        | true =>
          have hlt := cnt_lt hc
          rw [pkI hlt] at e2
          exact absurd (show nI (b (i + q + 1)) < 0 by rw [e2]; decide) (nI_pos (by have := hb (i + q + 1); omega))
      · have hlt : i + q + 1 < n := by
          rcases Nat.lt_or_ge (i + q + 1) n with y | y
          · exact y
          · exact absurd (pkO y) e2
        rw [pkI hlt]
      · have hlt : i + q + 1 < n := by
          rcases Nat.lt_or_ge (i + q + 1) n with y | y
          · exact y
          · exact absurd (pkO y) e2
        rw [pkI hlt] at e3
        have := (and192 _ (hb (i + q + 1))).mp e3
        unfold cnt
        simp [hlt, this.1, this.2]
      · cases hc : cnt b n (i + q + 1) with
        | false => rfl
        | true =>
          have hlt := cnt_lt hc
          rw [pkI hlt] at e3
          unfold cnt at hc
          simp [hlt] at hc
          exact absurd ((and192 _ (hb (i + q + 1))).mpr hc) e3
  · rintro k l1 l2 l3 l4 l5 t' ⟨rfl, rfl, hc⟩
    exact ⟨hK, mBad h (k2 hc)⟩
  · rintro k l1 l2 l3 l4 l5 t' ⟨rfl, m, q, hm, hqm, rfl, z, rfl, rfl, rfl, hg, rfl, hc⟩
    have hlt := vlF_lt (b := b) (i := i) (c0 := c0F m (b i)) (c0F_lt hbi) q
    have h64 : 64 ^ q ≤ 64 ^ 2 := Nat.pow_le_pow_right (by decide) (by omega)
    refine ⟨10 * (m - (q + 1)) + 20, by omega, rfl, rfl, m, q + 1, hm, by omega, rfl, z, rfl, ?_, by rw [nI_1], ?_⟩
    · rw [nI_or6 (by omega) (by have := hb (i + q + 1); omega)]; rfl
    · show (gdF b n i q && cnt b n (i + q + 1)) = true
      rw [hg, hc]; rfl
  · rintro k l1 l2 l3 l4 t' ⟨rfl, rfl, m, hm, z, rfl, rfl, hg⟩
    have hlt := vlF_lt (b := b) (i := i) (c0 := c0F m (b i)) (c0F_lt hbi) m
    have hv : vlF b i (c0F m (b i)) m < 2097152 := by
      have : m = 0 ∨ m = 1 ∨ m = 2 ∨ m = 3 := by omega
      rcases this with rfl | rfl | rfl | rfl
      · omega
      · omega
      · omega
      · have := hb (i + 1)
        show (((b i % 8) * 64 + b (i + 0 + 1) % 64) * 64 + b (i + 1 + 1) % 64) * 64 + b (i + 2 + 1) % 64 < 2097152
        omega
    exact t164 hm hv (fun ok => ⟨1, by decide, rfl, rfl, rfl, m, _, hm, rfl, rfl, (cpS_g hb hi hm z).1 hg ok⟩) (fun ok => ⟨1, by decide, rfl, rfl, rfl, (cpS_g hb hi hm z).2 (Or.inr ok)⟩)
  · rintro k l1 l2 l3 l4 t' ⟨rfl, rfl, hc⟩
    exact ⟨hK, mBad h (k2 hc)⟩
  · rintro k l1 l2 l3 l4 t' ⟨rfl, rfl, m, v, hm, rfl, rfl, hc⟩
    refine ⟨hK, hK, ?_⟩
    rw [hat, nI_1, nI_add]
    exact k1 _ _ hc
/-- escaped -/
theorem m168 {q : Int32} (hq : q = 34 ∨ q = 39) (h : MD t M s tp b n (i + 1)) (hi : i < n) (k1 : ∀ c j, esS b n q i = .inl (c, j) → Post (.inl (some (svI (nI c)))) (sI t M 5 (nI j))) (k2 : ∀ p, esS b n q i = .inr p → Post (.inr (16, s)) (mbP t M s p)) : CalG C mtab (d + 6) 168 [svR (some M), svI q] t Post := by
  have hn : n ≤ 1200 := h.2.2.2.2.2.2.2.2.1
  have hat := h.2.2.2.2.2.2.2.1
  have hK := h.1
  have hq0 : ¬ q < 0 ∧ ¬ q = 117 ∧ ¬ q = 98 ∧ ¬ q = 102 ∧ ¬ q = 110 ∧ ¬ q = 114 ∧ ¬ q = 116 := by rcases hq with rfl | rfl <;> decide
  refine cal168 ?_
  unfold vc168
  refine ⟨hK, m156 h ⟨hK, hK, fun e => ?_, fun e1 => ⟨fun e => ?_, fun e2 => ⟨fun e => ?_, fun e3 => ⟨fun e => ?_, fun e4 => ⟨fun e => ?_, fun e5 => ⟨fun e => ?_, fun e6 => ⟨fun e => ?_, fun e7 => ⟨fun e => ⟨hK, ?_⟩, fun e8 => ⟨fun e => ⟨fun e9 => ?_, fun e9 => ?_⟩, fun e => ⟨hK, hK, hK, ?_⟩⟩⟩⟩⟩⟩⟩⟩⟩⟩⟩
  · obtain ⟨hlt, -⟩ := pk_nn e (by decide)
    rw [hat, nI_1, pkI hlt]
    exact k1 (b (i + 1)) (i + 2) (by unfold esS; rw [if_pos (Or.inr (Or.inr e))])
  · obtain ⟨hlt, -⟩ := pk_nn e (by decide)
    rw [hat, nI_1, pkI hlt]
    exact k1 (b (i + 1)) (i + 2) (by unfold esS; rw [if_pos (Or.inr (Or.inl e))])
  · rw [hat, nI_1]
    exact k1 8 (i + 2) (by unfold esS; rw [if_neg (by rw [e]; exact fun z => z.elim (fun y => hq0.2.2.1 y.symm) (by decide)), if_pos e])
  · rw [hat, nI_1]
    exact k1 12 (i + 2) (by unfold esS; rw [if_neg (by rw [e]; exact fun z => z.elim (fun y => hq0.2.2.2.1 y.symm) (by decide)), if_neg e3, if_pos e])
  · rw [hat, nI_1]
    exact k1 10 (i + 2) (by unfold esS; rw [if_neg (by rw [e]; exact fun z => z.elim (fun y => hq0.2.2.2.2.1 y.symm) (by decide)), if_neg e3, if_neg e4, if_pos e])
  · rw [hat, nI_1]
    exact k1 13 (i + 2) (by unfold esS; rw [if_neg (by rw [e]; exact fun z => z.elim (fun y => hq0.2.2.2.2.2.1 y.symm) (by decide)), if_neg e3, if_neg e4, if_neg e5, if_pos e])
  · rw [hat, nI_1]
    exact k1 9 (i + 2) (by unfold esS; rw [if_neg (by rw [e]; exact fun z => z.elim (fun y => hq0.2.2.2.2.2.2 y.symm) (by decide)), if_neg e3, if_neg e4, if_neg e5, if_neg e6, if_pos e])
  · rw [hat, nI_1]
    have hes : esS b n q i = uS b n (i + 2) := by
      unfold esS
      rw [if_neg (by rw [e]; exact fun z => z.elim (fun y => hq0.2.1 y.symm) (by decide)), if_neg e3, if_neg e4, if_neg e5, if_neg e6, if_neg e7, if_pos e]
      rfl
    have hR2 := h.to (j := i + 2) (by omega)
    refine m167 hR2 (fun c j hu => ?_) (fun p hu => ?_)
    · rw [sI_sI]; exact k1 c j (hes.trans hu)
    · have := k2 p (hes.trans hu)
      unfold mbP at this ⊢
      rw [sI_sI]; exact this
  · exact absurd (show q < 0 by rw [← e, e9]; decide) hq0.1
  · obtain ⟨hlt, -⟩ := pk_nn e hq0.1
    rw [hat, nI_1, pkI hlt]
    exact k1 (b (i + 1)) (i + 2) (by unfold esS; rw [if_pos (Or.inl e)])
  · have hes : esS b n q i = .inr (i + 1) := by
      unfold esS
      rw [if_neg (fun z => z.elim e (fun z => z.elim e2 e1)), if_neg e3, if_neg e4, if_neg e5, if_neg e6, if_neg e7, if_neg e8]
    have e9 : tI (sI t M 5 (nI (i + 1 + 1))) M 5 = nI (i + 1 + 1) := by simp [ht]
    rw [hat, nI_1, e9, nI_pred, sI_sI, sI_self hat]
    refine mBad h ?_
    have := k2 (i + 1) hes
    unfold mbP at this
    rw [sI_self hat] at this
    exact this
end MS2
