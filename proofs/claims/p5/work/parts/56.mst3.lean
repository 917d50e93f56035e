/-! the reference's strings -/
/-- what the reference's reading of characters may change; its buffer below q stays -/
def MX (M s ch q : Nat) (t t' : Ht) : Prop := tN t' = tN t ∧ tU t' = tU t ∧ tK t' = tK t ∧ tL t' = tL t ∧ tR t' = tR t ∧ (∀ x k, (x ≠ M ∨ k ≠ 8) → tJ t' x k = tJ t x k) ∧ (∀ x k, (x ≠ s ∨ (k ≠ 6 ∧ k ≠ 7)) → x ≠ ch → (x ≠ M ∨ (k ≠ 5 ∧ k ≠ 7 ∧ k ≠ 9)) → tI t' x k = tI t x k) ∧ ∀ k, k < q → tI t' ch k = tI t ch k
theorem MX.rfl' {M s ch q : Nat} {t : Ht} : MX M s ch q t t := ⟨rfl, rfl, rfl, rfl, rfl, fun _ _ _ => rfl, fun _ _ _ _ _ => rfl, fun _ _ => rfl⟩
theorem MX.trans {M s ch q : Nat} {t t1 t2 : Ht} (h : MX M s ch q t t1) (g : MX M s ch q t1 t2) : MX M s ch q t t2 := by
  obtain ⟨h1, h2, h3, h4, h5, h6, h7, h8⟩ := h
  obtain ⟨g1, g2, g3, g4, g5, g6, g7, g8⟩ := g
  exact ⟨g1.trans h1, g2.trans h2, g3.trans h3, g4.trans h4, g5.trans h5, fun x k z => (g6 x k z).trans (h6 x k z), fun x k z1 z2 z3 => (g7 x k z1 z2 z3).trans (h7 x k z1 z2 z3), fun k hk => (g8 k hk).trans (h8 k hk)⟩
theorem MX.lo {M s ch q q' : Nat} {t t1 : Ht} (hq : q' ≤ q) (h : MX M s ch q t t1) : MX M s ch q' t t1 := by
  obtain ⟨h1, h2, h3, h4, h5, h6, h7, h8⟩ := h
  exact ⟨h1, h2, h3, h4, h5, h6, h7, fun k hk => h8 k (by omega)⟩
theorem sI_at {t : Ht} {a k x j : Nat} {v : Int32} (h : ¬ (x = a ∧ j = k)) : tI (sI t a k v) x j = tI t x j := by
  rw [(by simp [ht] : tI (sI t a k v) x j = if x = a ∧ j = k then v else tI t x j), if_neg h]
theorem MX.M {M s ch q k : Nat} {t : Ht} {x : Int32} (hk : k = 5 ∨ k = 7 ∨ k = 9) (hc : ch ≠ M) : MX M s ch q t (sI t M k x) := by
  refine ⟨rfl, rfl, rfl, rfl, rfl, fun _ _ _ => rfl, fun y j _ _ z => sI_at ?_, fun j _ => sI_at ?_⟩
  · rintro ⟨rfl, rfl⟩
    rcases z with z | z
    · exact z rfl
    · omega
  · rintro ⟨z, -⟩; exact hc z
theorem MX.S {M s ch q k : Nat} {t : Ht} {x : Int32} (hk : k = 6 ∨ k = 7) (hc : ch ≠ s) : MX M s ch q t (sI t s k x) := by
  refine ⟨rfl, rfl, rfl, rfl, rfl, fun _ _ _ => rfl, fun y j z _ _ => sI_at ?_, fun j _ => sI_at ?_⟩
  · rintro ⟨rfl, rfl⟩
    rcases z with z | z
    · exact z rfl
    · omega
  · rintro ⟨z, -⟩; exact hc z
theorem MX.C {M s ch q k : Nat} {t : Ht} {x : Int32} (hk : q ≤ k) : MX M s ch q t (sI t ch k x) := by
  refine ⟨rfl, rfl, rfl, rfl, rfl, fun _ _ _ => rfl, fun y j _ z _ => sI_at ?_, fun j hj => sI_at ?_⟩
  · rintro ⟨rfl, -⟩; exact z rfl
  · rintro ⟨-, z⟩; omega
section MS3
variable {C : Cx} {d : Nat} {Post : OutT → Ht → Prop} {t : Ht} {M s tp ch : Nat} {b : By} {n i q : Nat}
/-- the reference with its buffer, of which q places are taken -/
def MB (t : Ht) (M s tp ch : Nat) (b : By) (n i q : Nat) : Prop := MD t M s tp b n i ∧ tR t M 6 = some ch ∧ tK t ch = 101 ∧ tL t ch = 4800 ∧ tI t M 7 = nI q
theorem MB.ne (h : MB t M s tp ch b n i q) : ch ≠ M ∧ ch ≠ s ∧ ch ≠ tp ∧ s ≠ M ∧ s ≠ tp ∧ tp ≠ M := by
  have h1 := h.1.1
  have h2 := h.1.2.2.1
  have h3 := h.1.2.2.2.2.1
  have h4 := h.2.2.1
  refine ⟨fun e => ?_, fun e => ?_, fun e => ?_, fun e => ?_, fun e => ?_, fun e => ?_⟩
  · rw [e, h1] at h4; cases h4
  · rw [e, h2] at h4; cases h4
  · rw [e, h3] at h4; cases h4
  · rw [e, h1] at h2; cases h2
  · rw [e, h3] at h2; cases h2
  · rw [e, h1] at h3; cases h3
theorem MB.x {t' : Ht} {j q' q0 : Nat} (h : MB t M s tp ch b n i q) (hx : MX M s ch q0 t t') (hj : tI t' M 5 = nI j) (hq : tI t' M 7 = nI q') (hj2 : j ≤ 1201) : MB t' M s tp ch b n j q' := by
  obtain ⟨n1, n2, n3, n4, n5, n6⟩ := h.ne
  obtain ⟨⟨g1, g2, g3, g4, g5, g6, g7, g8, g9, g10, g11, g12⟩, g13, g14, g15, g16⟩ := h
  obtain ⟨x1, x2, x3, x4, x5, x6, x7, x8⟩ := hx
  refine ⟨⟨by rw [x3]; exact g1, by rw [x5]; exact g2, by rw [x3]; exact g3, by rw [x5]; exact g4, by rw [x3]; exact g5, by rw [x4]; exact g6, ?_, hj, g9, hj2, g11, fun k hk => ?_⟩, by rw [x5]; exact g13, by rw [x3]; exact g14, by rw [x4]; exact g15, hq⟩
  · rw [x7 M 4 (Or.inl (Ne.symm n4)) (Ne.symm n1) (Or.inr (by decide))]; exact g7
  · rw [x7 tp k (Or.inl (Ne.symm n5)) (Ne.symm n3) (Or.inl n6)]; exact g12 k hk
/-- the state of a string's reading -/
def SM (t t' : Ht) (M s ch q : Nat) (cs : List Nat) (j : Nat) : Prop := MX M s ch q t t' ∧ tI t' M 5 = nI j ∧ tI t' M 7 = nI (q + cs.length) ∧ ∀ k, k < cs.length → tI t' ch (q + k) = nI (cs.getD k 0)
theorem SM.to {t' : Ht} {cs : List Nat} {j j' : Nat} (hne : ch ≠ M) (h : SM t t' M s ch q cs j) : SM t (sI t' M 5 (nI j')) M s ch q cs j' := by
  obtain ⟨h1, h2, h3, h4⟩ := h
  exact ⟨h1.trans (MX.M (Or.inl rfl) hne), by simp [ht], by simp [ht, h3], fun k hk => by rw [sI_at (fun z => hne z.1)]; exact h4 k hk⟩
theorem m164 {t' : Ht} {p c : Nat} (hK : tK t' M = 17) (hr : tR t' M 6 = some ch) (hk : tK t' ch = 101) (hl : tL t' ch = 4800) (hcnt : tI t' M 7 = nI p) (hlt : p < 4800) (hne : ch ≠ M) (k : Post (.inl none) (sI (sI t' ch p (nI c)) M 7 (nI (p + 1)))) : CalG C mtab (d + 1) 164 [svR (some M), svI (nI c)] t' Post := by
  refine cal164 ?_
  unfold vc164
  rw [hr, hcnt]
  refine ⟨hK, hK, hk, by rw [hl]; exact vp_in_nI hlt (by decide), hK, hK, ?_⟩
  rw [nI_clamp (by omega)]
  have e : tI (sI t' ch p (nI c)) M 7 = nI p := by rw [sI_at (fun z => hne z.1.symm)]; exact hcnt
  rw [e, nI_1]
  exact k
theorem SM.keep {t' : Ht} {cs : List Nat} {j c : Nat} (hne : ch ≠ M) (h : SM t t' M s ch q cs j) : SM t (sI (sI t' ch (q + cs.length) (nI c)) M 7 (nI (q + cs.length + 1))) M s ch q (cs ++ [c]) j := by
  obtain ⟨h1, h2, h3, h4⟩ := h
  have hne' : ¬ M = ch := fun e => hne e.symm
  refine ⟨h1.trans ((MX.C (by omega)).trans (MX.M (Or.inr (Or.inl rfl)) hne)), ?_, ?_, fun k hk => ?_⟩
  · simp [ht, hne', h2]
  · simp [ht]; rfl
  · simp at hk
    by_cases hkl : k = cs.length
    · subst hkl; simp [ht, hne]
    · have hk2 : k < cs.length := by omega
      simp [ht, hne, hkl, h4 k hk2, List.getElem?_append_left hk2]
/-- a fault that the reference throws -/
def BM (M s ch q : Nat) (t t' : Ht) (w p : Nat) : Prop := MX M s ch q t t' ∧ tI t' s 6 = nI w ∧ tI t' s 7 = nI p
theorem BM_of {t' : Ht} {w p : Nat} (hc : ch ≠ s) (h : MX M s ch q t t') : BM M s ch q t (mb t' s w p) w p := by
  refine ⟨h.trans ((MX.S (Or.inl rfl) hc).trans (MX.S (Or.inr rfl) hc)), ?_, ?_⟩
  · simp [mb, ht]
  · simp [mb, ht]
/-- string -/
theorem m169 {qt : Int32} (hqt : qt = 34 ∨ qt = 39) (h : MB t M s tp ch b n i q) (hi : i < n) (hpk : pk b n i = qt) (hq : q + n ≤ 4800 + i)
    (k1 : ∀ cs j, stS b n qt (i + 1) = .inl (cs, j) → ∀ t2, SM t t2 M s ch q cs j → Post (.inl (some (svI (nI q)))) t2)
    (k2 : ∀ p, stS b n qt (i + 1) = .inr p → ∀ t2, BM M s ch q t t2 1 p → Post (.inr (16, s)) t2) : CalG C mtab (d + 7) 169 [svR (some M)] t Post := by
  obtain ⟨n1, n2, n3, n4, n5, n6⟩ := h.ne
  have hn : n ≤ 1200 := h.1.2.2.2.2.2.2.2.2.1
  have hb := h.1.2.2.2.2.2.2.2.2.2.2.1
  have hq0 : ¬ qt < 0 := by rcases hqt with rfl | rfl <;> decide
  have hq92 : ¬ qt = 92 := by rcases hqt with rfl | rfl <;> decide
  have hat := h.1.2.2.2.2.2.2.2.1
  refine cal169 (fun m l1 l2 t' => l1 = qt ∧ l2 = nI q ∧ ∃ f cs j, cs.length + (i + 1) ≤ j ∧ j ≤ n ∧ m = 2 * (n + 1 - j) ∧ n + 1 - j ≤ f ∧ SM t t' M s ch q cs j ∧ stF b n qt f j cs = stS b n qt (i + 1))
    (fun m l1 l2 t' => l1 = qt ∧ l2 = nI q ∧ ∃ f cs j, cs.length + (i + 1) ≤ j ∧ j < n ∧ m = 2 * (n + 1 - j) - 1 ∧ n + 1 - j ≤ f ∧ SM t t' M s ch q cs j ∧ stF b n qt f j cs = stS b n qt (i + 1) ∧ ¬ pk b n j = qt ∧ (32 : Int32) ≤ pk b n j) ?_ ?_ ?_
  · refine ⟨h.1.1, m156 h.1 ⟨h.1.1, h.1.1, h.1.1, 2 * (n + 1 - (i + 1)), rfl, hpk, h.2.2.2.2, n + 1 - (i + 1), [], i + 1, by simp, by omega, rfl, Nat.le_refl _, ?_, rfl⟩⟩
    rw [hat, nI_1]
    exact ⟨MX.M (Or.inl rfl) n1, by simp [ht], by simp [ht, h.2.2.2.2], fun k hk => by simp at hk⟩
  · rintro m l1 l2 t' ⟨rfl, rfl, f, cs, j, hcj, hjn, hm, hf, hs, hst⟩
    obtain ⟨f0, rfl⟩ : ∃ f0, f = f0 + 1 := ⟨f - 1, by omega⟩
    have hB := h.x hs.1 hs.2.1 hs.2.2.1 (by omega)
    have hK := hB.1.1
    have e5 := hB.1.2.2.2.2.2.2.2.1
    unfold vc169_20
    refine ⟨hK, m157 hB.1 ⟨fun e => ?_, fun e => ?_⟩⟩
    · have e' : ¬ pk b n j = l1 := by
        have := bI_0.mp e
        simpa using this
      refine ⟨hK, m156 hB.1 ⟨fun em => ⟨hK, mBad hB.1 ?_⟩, fun em => ⟨hK, m156 hB.1 ⟨fun e32 => ?_, fun e32 => ⟨hK, mBad hB.1 ?_⟩⟩⟩⟩⟩
      · refine k2 j ?_ _ (BM_of n2 hs.1)
        rw [← hst, stF, if_neg e', if_pos (by rw [em]; decide)]
      · have hjlt : j < n := by
          rcases Nat.lt_or_ge j n with z | z
          · exact z
          · exact absurd (pkO z) em
        exact ⟨2 * (n + 1 - j) - 1, by omega, rfl, rfl, rfl, f0 + 1, cs, j, hcj, hjlt, rfl, hf, hs, hst, e', e32⟩
      · refine k2 j ?_ _ (BM_of n2 hs.1)
        rw [← hst, stF, if_neg e', if_pos e32]
    · have e' : pk b n j = l1 := by
        by_cases z : pk b n j = l1
        · exact z
        · exact absurd (by simp [z, bI]) e
      refine ⟨hK, hK, ?_⟩
      rw [e5, nI_1]
      exact k1 cs (j + 1) (by rw [← hst, stF, if_pos e']) _ (SM.to n1 hs)
  · rintro m l1 l2 t' ⟨rfl, rfl, f, cs, j, hcj, hjn, hm, hf, hs, hst, e', e32⟩
    obtain ⟨f0, rfl⟩ : ∃ f0, f = f0 + 1 := ⟨f - 1, by omega⟩
    have hB := h.x hs.1 hs.2.1 hs.2.2.1 (by omega)
    have hK := hB.1.1
    have e5 := hB.1.2.2.2.2.2.2.2.1
    rw [stF, if_neg e', if_neg (fun z => z e32)] at hst
    unfold vc169_50
    refine ⟨hK, m157 hB.1 ⟨fun e => ⟨hK, ?_⟩, fun e => ⟨hK, hK, hK, ?_⟩⟩⟩
    · have e92 : ¬ pk b n j = 92 := by
        have := bI_0.mp e
        simpa using this
      rw [if_neg e92] at hst
      refine m163 hB.1 hjn (fun l v hcp => ⟨hK, ?_⟩) (fun hcp => ?_)
      · obtain ⟨l1, l2, l3⟩ := cpS_le hcp
        have hs1 := SM.to (j' := j + l) n1 hs
        rw [hcp] at hst
        exact m164 (ch := ch) hK hB.2.1 hB.2.2.1 hB.2.2.2.1 hs1.2.2.1 (by omega) n1 ⟨rfl, 2 * (n + 1 - (j + l)), by omega, rfl, rfl, rfl, f0, cs ++ [v], j + l, by simp; omega, l2, rfl, by omega, SM.keep n1 hs1, hst⟩
      · rw [hcp] at hst
        exact k2 j hst.symm _ (BM_of n2 hs.1)
    · have e92 : pk b n j = 92 := by
        by_cases z : pk b n j = 92
        · exact z
        · exact absurd (by simp [z, bI]) e
      rw [if_pos e92] at hst
      rw [e5, nI_1]
      have hB1 := h.x (SM.to (j' := j + 1) n1 hs).1 (SM.to (j' := j + 1) n1 hs).2.1 (SM.to (j' := j + 1) n1 hs).2.2.1 (by omega)
      refine m168 hqt hB1.1 hjn (fun c j' hes => ⟨hK, ?_⟩) (fun p hes => ?_)
      · obtain ⟨l1, l2, l3⟩ := esS_le hb hq0 hes
        have hs1 := SM.to (j' := j') n1 hs
        rw [hes] at hst
        rw [sI_sI]
        exact m164 (ch := ch) hK hB.2.1 hB.2.2.1 hB.2.2.2.1 hs1.2.2.1 (by omega) n1 ⟨rfl, 2 * (n + 1 - j'), by omega, rfl, rfl, rfl, f0, cs ++ [c], j', by simp; omega, l2, rfl, by omega, SM.keep n1 hs1, hst⟩
      · rw [hes] at hst
        have hb' := BM_of (w := 1) (p := p) n2 (SM.to (j' := p) n1 hs).1
        refine k2 p hst.symm _ ?_
        unfold mbP
        rw [sI_sI]
        exact hb'
end MS3
