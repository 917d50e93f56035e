/-! THE REFERENCE'S READING: the object M, its Stop s, its tape tp, at the place i -/
def MD (t : Ht) (M s tp : Nat) (b : By) (n i : Nat) : Prop := tK t M = 17 ∧ tR t M 1 = some s ∧ tK t s = 16 ∧ tR t M 2 = some tp ∧ tK t tp = 100 ∧ tL t tp = 1200 ∧ tI t M 4 = nI n ∧ tI t M 5 = nI i ∧ n ≤ 1200 ∧ i ≤ 1201 ∧ (∀ k, b k < 256) ∧ ∀ k, k < n → tI t tp k &&& 255 = nI (b k)
/-- the heap with a fault told -/
def mb (t : Ht) (s w p : Nat) : Ht := sI (sI t s 6 (nI w)) s 7 (nI p)
def mbP (t : Ht) (M s p : Nat) : Ht := mb (sI t M 5 (nI p)) s 1 p
section MRD
variable {C : Cx} {d : Nat} {Post : OutT → Ht → Prop} {t : Ht} {M s tp : Nat} {b : By} {n i : Nat}
theorem MD.ne (h : MD t M s tp b n i) : tp ≠ M := fun e => by
  have h1 := h.1
  have h2 := h.2.2.2.2.1
  rw [e, h1] at h2
  cases h2
theorem MD.to (h : MD t M s tp b n i) {j : Nat} (hj : j ≤ 1201) : MD (sI t M 5 (nI j)) M s tp b n j := by
  have hne := h.ne
  obtain ⟨h1, h2, h3, h4, h5, h6, h7, h8, h9, h10, h11, h12⟩ := h
  refine ⟨h1, h2, h3, h4, h5, h6, ?_, ?_, h9, hj, h11, fun k hk => ?_⟩
  · simp [ht, h7]
  · simp [ht]
  · simp [ht, hne, h12 k hk]
theorem mBad {g : Nat → Nat → Ht → Prop} (h : MD t M s tp b n i) (k : Post (.inr (16, s)) (mb t s 1 i)) : CalG C mtab (d + 2) 158 [svR (some M)] t (aftV (fun v t2 => rR v (fun x => onR x (fun a => tK t2 a = 16 ∧ Post (.inr (16, a)) t2))) g) := by
  refine c158 h.1 h.2.1 h.2.2.1 ⟨h.2.2.1, ?_⟩
  rw [h.2.2.2.2.2.2.2.1]
  exact k
theorem m155 {x : Nat} (hx : x < 2 ^ 31) (h : MD t M s tp b n i) (k : Post (.inl (some (svI (pk b n x)))) t) : CalG C mtab (d + 1) 155 [svR (some M), svI (nI x)] t Post := by
  obtain ⟨h1, h2, h3, h4, h5, h6, h7, h8, h9, h10, h11, h12⟩ := h
  refine cal155 ?_
  unfold vc155
  rw [h7, h4]
  by_cases hin : x < n
  · rw [pkI hin] at k
    refine ⟨h1, fun e => absurd e (nI_ge hin (by omega)), fun _ => ⟨h1, h5, by rw [h6]; exact vp_in_nI (by omega) (by decide), ?_⟩⟩
    rw [nI_clamp (by omega), h12 x hin]; exact k
  · rw [pkO (Nat.not_lt.mp hin)] at k
    exact ⟨h1, fun _ => k, fun e => absurd (nI_le (Nat.not_lt.mp hin) (by omega)) e⟩
theorem m156 (h : MD t M s tp b n i) (k : Post (.inl (some (svI (pk b n i)))) t) : CalG C mtab (d + 2) 156 [svR (some M)] t Post := by
  refine cal156 ⟨h.1, h.1, ?_⟩
  rw [h.2.2.2.2.2.2.2.1]
  exact m155 (by have := h.2.2.2.2.2.2.2.2.2.1; omega) h k
theorem m157 {c : Int32} (h : MD t M s tp b n i) (k : Post (.inl (some (svI (bI (decide (pk b n i = c)))))) t) : CalG C mtab (d + 3) 157 [svR (some M), svI c] t Post := by
  refine cal157 ⟨h.1, m156 h ⟨fun e => ⟨Or.inr rfl, ?_⟩, fun e => ⟨Or.inl rfl, ?_⟩⟩⟩
  · simp [e, bI] at k; exact k
  · simp [e, bI] at k; exact k
theorem m159 {c : Int32} (h : MD t M s tp b n i) (k1 : pk b n i = c → Post (.inl none) (sI t M 5 (nI (i + 1)))) (k2 : ¬ pk b n i = c → Post (.inr (16, s)) (mb t s 1 i)) : CalG C mtab (d + 4) 159 [svR (some M), svI c] t Post := by
  refine cal159 ⟨h.1, m157 h ?_⟩
  by_cases e : pk b n i = c
  · refine ⟨fun z => absurd z (by simp [e, bI]), fun _ => ⟨h.1, h.1, ?_⟩⟩
    rw [h.2.2.2.2.2.2.2.1, nI_1]; exact k1 e
  · exact ⟨fun _ => ⟨h.1, mBad h (k2 e)⟩, fun z => absurd (by simp [e, bI]) z⟩
theorem m160 (h : MD t M s tp b n i) (hi : i ≤ n) (k : Post (.inl none) (sI t M 5 (nI (sk b n i)))) : CalG C mtab (d + 4) 160 [svR (some M)] t Post := by
  have hn : n ≤ 1200 := h.2.2.2.2.2.2.2.2.1
  have key : ∀ (m j : Nat) (K : Ht → Prop), j ≤ n → (isBl (pk b n j) = true → K (sI t M 5 (nI (j + 1)))) → sk b n j = sk b n i → vc160_0 (CalG C mtab (d + 3)) (cS C) (cG C) Post K M (sI t M 5 (nI j)) := by
    intro m j K hj hK hs
    have hR := h.to (j := j) (by omega)
    have e5 : tI (sI t M 5 (nI j)) M 5 = nI j := hR.2.2.2.2.2.2.2.1
    have nx : isBl (pk b n j) = true → K (sI (sI t M 5 (nI j)) M 5 (tI (sI t M 5 (nI j)) M 5 + 1)) := fun z => by rw [e5, nI_1, sI_sI]; exact hK z
    unfold vc160_0
    refine ⟨h.1, m157 hR ⟨fun e1 => ⟨h.1, m157 hR ⟨fun e2 => ⟨h.1, m157 hR ⟨fun e3 => ⟨h.1, m157 hR ⟨fun e4 => ?_, fun e4 => ⟨h.1, h.1, nx ?_⟩⟩⟩, fun e3 => ⟨h.1, h.1, nx ?_⟩⟩⟩, fun e2 => ⟨h.1, h.1, nx ?_⟩⟩⟩, fun e1 => ⟨h.1, h.1, nx ?_⟩⟩⟩
    · have b1 := bI_0.mp e1
      have b2 := bI_0.mp e2
      have b3 := bI_0.mp e3
      have b4 := bI_0.mp e4
      simp only [decide_eq_false_iff_not] at b1 b2 b3 b4
      have hb : isBl (pk b n j) = false := by simp [isBl, b1, b2, b3, b4]
      rw [← hs, sk_no hb] at k
      exact k
    · have : pk b n j = 13 := by
        by_cases z : pk b n j = 13
        · exact z
        · exact absurd (by simp [z, bI]) e4
      simp [isBl, this]
    · have : pk b n j = 10 := by
        by_cases z : pk b n j = 10
        · exact z
        · exact absurd (by simp [z, bI]) e3
      simp [isBl, this]
    · have : pk b n j = 9 := by
        by_cases z : pk b n j = 9
        · exact z
        · exact absurd (by simp [z, bI]) e2
      simp [isBl, this]
    · have : pk b n j = 32 := by
        by_cases z : pk b n j = 32
        · exact z
        · exact absurd (by simp [z, bI]) e1
      simp [isBl, this]
  refine cal160 (fun m t' => ∃ j, j ≤ n ∧ m = n - j ∧ sk b n j = sk b n i ∧ t' = sI t M 5 (nI j)) ?_ ?_
  · have := key 0 i (fun t' => ∃ k, some M = some M ∧ ∃ j, j ≤ n ∧ k = n - j ∧ sk b n j = sk b n i ∧ t' = sI t M 5 (nI j)) hi (fun z => ⟨n - (i + 1), rfl, i + 1, by have := isBl_lt z; omega, rfl, (sk_yes z).symm, rfl⟩) rfl
    rw [sI_self h.2.2.2.2.2.2.2.1] at this
    exact this
  · rintro m t' ⟨j, hj, hm, hs, rfl⟩
    exact key m j _ hj (fun z => ⟨n - (j + 1), by have := isBl_lt z; omega, rfl, j + 1, by have := isBl_lt z; omega, rfl, by rw [← sk_yes z]; exact hs, rfl⟩) hs
/-- word -/
theorem m173 {m : Nat} (hm : m < 10) (h : MD t M s tp b n i) (hi : i ≤ n) (k1 : ∀ j, wdS b n (txW m) i = .inl j → Post (.inl none) (sI t M 5 (nI j))) (k2 : ∀ p, wdS b n (txW m) i = .inr p → Post (.inr (16, s)) (mbP t M s p)) : CalG C mtab (d + 5) 173 [svR (some M), svR (some (cS C m))] t Post := by
  have hn : n ≤ 1200 := h.2.2.2.2.2.2.2.2.1
  have hl := txW_len m hm
  have hl20 := txW_lt m hm
  refine cal173 (fun k l2 t' => ∃ q, l2 = nI q ∧ q ≤ (txW m).length ∧ k = (txW m).length - q ∧ i + q ≤ n ∧ t' = sI t M 5 (nI (i + q)) ∧ wdS b n ((txW m).drop q) (i + q) = wdS b n (txW m) i) ?_ ?_
  · exact ⟨(txW m).length, rfl, rfl, 0, rfl, Nat.zero_le _, rfl, hi, (sI_self h.2.2.2.2.2.2.2.1).symm, rfl⟩
  · rintro k l2 t' ⟨q, rfl, hq, hk, hiq, rfl, hw⟩
    have hR := h.to (j := i + q) (by omega)
    refine ⟨⟨m, hm, rfl⟩, s254 hm ?_⟩
    rw [hl]
    refine ⟨fun e => ?_, fun e => ?_⟩
    · have hqe : q = (txW m).length := by
        rcases Nat.lt_or_ge q (txW m).length with z | z
        · exact absurd e (nI_ge z (by omega))
        · omega
      rw [hqe, List.drop_length] at hw
      rw [hqe]
      exact k1 _ hw.symm
    · have hqe : q < (txW m).length := by
        rcases Nat.lt_or_ge q (txW m).length with z | z
        · exact z
        · exact absurd (nI_le z (by omega)) e
      have hdc := drop_c hqe
      have hmem : (txW m).getD q 0 ∈ txW m := by
        have : (txW m).getD q 0 = (txW m)[q] := by simp [List.getD, hqe]
        rw [this]; exact List.getElem_mem hqe
      refine ⟨⟨m, hm, rfl⟩, s255 hm (by omega) ⟨h.1, m159 hR (fun e2 => ⟨rfl, ?_⟩) (fun e2 => ?_)⟩⟩
      · have e3 : pk b n (i + q) = (txW m).getD q 0 := e2
        obtain ⟨hlt, -⟩ := pk_nn e3 (txW_nn m hm _ hmem)
        refine ⟨(txW m).length - (q + 1), by omega, rfl, rfl, q + 1, by rw [nI_1], by omega, rfl, by omega, by rw [sI_sI]; rfl, ?_⟩
        rw [hdc, wdS, if_pos e3] at hw
        exact hw
      · have e3 : ¬ pk b n (i + q) = (txW m).getD q 0 := e2
        refine k2 (i + q) ?_
        rw [← hw, hdc, wdS, if_neg e3]
/-- a digit of an escape -/
def f165 (x : Int32) : Int32 := if (if x < 48 then (0 : Int32) else if 57 < x then 0 else 1) = 0 then (if x < 97 then (if x < 65 then -1 else if 70 < x then -1 else x - 65 + 10) else if 102 < x then (if x < 65 then -1 else if 70 < x then -1 else x - 65 + 10) else x - 97 + 10) else x - 48
theorem p165 {x : Int32} (k : Post (.inl (some (svI (f165 x)))) t) : CalG C mtab (d + 2) 165 [svI x] t Post := by
  refine cal165 (c161 ?_)
  unfold f165 at k
  refine ⟨fun e => ?_, fun e => ?_⟩
  · rw [if_pos e] at k
    refine ⟨fun e1 => ⟨fun e2 => ?_, fun e2 => ⟨fun e3 => ?_, fun e3 => ?_⟩⟩, fun e1 => ⟨fun e4 => ⟨fun e2 => ?_, fun e2 => ⟨fun e3 => ?_, fun e3 => ?_⟩⟩, fun e4 => ?_⟩⟩
    · rw [if_pos e1, if_pos e2] at k; exact k
    · rw [if_pos e1, if_neg e2, if_pos e3] at k; exact k
    · rw [if_pos e1, if_neg e2, if_neg e3] at k; exact k
    · rw [if_neg e1, if_pos e4, if_pos e2] at k; exact k
    · rw [if_neg e1, if_pos e4, if_neg e2, if_pos e3] at k; exact k
    · rw [if_neg e1, if_pos e4, if_neg e2, if_neg e3] at k; exact k
    · rw [if_neg e1, if_neg e4] at k; exact k
  · rw [if_neg e] at k; exact k
theorem f165_t : ∀ c, c < 256 → f165 (nI c) = o32 (hexN c) := by decide +kernel
theorem f165_p (hb : ∀ k, b k < 256) : f165 (pk b n i) = o32 (hxA b n i) := by
  unfold hxA
  by_cases h : i < n
  · rw [pkI h, if_pos h]; exact f165_t _ (hb i)
  · rw [pkO (Nat.not_lt.mp h), if_neg h]; decide
/-- hexDigit -/
theorem m166 {lo hi : Nat} (hlo : lo < 16) (hhi : hi < 16) (h : MD t M s tp b n i) (k1 : ∀ dd, hxA b n i = some dd → lo ≤ dd → dd ≤ hi → Post (.inl (some (svI (nI dd)))) (sI t M 5 (nI (i + 1)))) (k2 : (∀ dd, hxA b n i = some dd → lo ≤ dd → ¬ dd ≤ hi) → Post (.inr (16, s)) (mb t s 1 i)) : CalG C mtab (d + 4) 166 [svR (some M), svI (nI lo), svI (nI hi)] t Post := by
  have hb := h.2.2.2.2.2.2.2.2.2.2.1
  refine cal166 ⟨h.1, m156 h (p165 ?_)⟩
  rw [f165_p hb]
  cases hd : hxA b n i with
  | none =>
    have kk := k2 (fun dd z => by rw [hd] at z; cases z)
    exact ⟨fun _ => ⟨h.1, mBad h kk⟩, fun _ => ⟨fun _ => ⟨h.1, mBad h kk⟩, fun _ => ⟨fun _ => ⟨h.1, mBad h kk⟩, fun e => absurd rfl e⟩⟩⟩
  | some dd =>
    obtain ⟨h16, hlt⟩ := hxA_lt hd
    show br (nI dd < nI lo) _ (br (nI hi < nI dd) _ (br (nI dd = (-1 : Int32)) _ _))
    refine ⟨fun e => ⟨h.1, mBad h (k2 (fun d2 z1 z2 => ?_))⟩, fun e1 => ⟨fun e => ⟨h.1, mBad h (k2 (fun d2 z1 z2 => ?_))⟩, fun e2 => ⟨fun e => ?_, fun _ => ⟨h.1, h.1, ?_⟩⟩⟩⟩
    · rw [hd] at z1; cases z1
      exact absurd e (nI_nlt z2 (by omega))
    · rw [hd] at z1; cases z1
      intro z3
      exact absurd e (nI_nlt z3 (by omega))
    · exact absurd (show nI dd < 0 by rw [e]; decide) (nI_pos (by omega))
    · rw [h.2.2.2.2.2.2.2.1, nI_1]
      refine k1 dd hd ?_ ?_
      · rcases Nat.lt_or_ge dd lo with z | z
        · exact absurd (nI_lt z (by omega)) e1
        · exact z
      · rcases Nat.lt_or_ge hi dd with z | z
        · exact absurd (nI_lt z (by omega)) e2
        · exact z
end MRD
