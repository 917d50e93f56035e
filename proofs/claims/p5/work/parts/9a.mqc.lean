/-! words, operands, OF THE REFERENCE -/
theorem f162_t : ∀ c, c < 256 → f162 (nI c) = bI (decide (97 ≤ c) && decide (c ≤ 122)) := by decide +kernel
theorem f162_p {b : By} {n i : Nat} (hb : ∀ k, b k < 256) : f162 (pk b n i) = bI (isSm b n i) := by
  unfold isSm
  by_cases h : i < n
  · rw [pkI h, f162_t _ (hb i)]; simp [h]
  · rw [pkO (Nat.not_lt.mp h)]; simp [h]; decide
theorem wd7 {b : By} {n i j : Nat} (h : isWrd b n i j 7 = true) : pk b n i = 116 := by
  have e : isWrd b n i j 7 = (decide (j - i = (txW 7).length) && (decide (pk b n i = 116) && wdB b n (txW 7).tail (i + 1))) := rfl
  rw [e] at h
  simp at h
  exact h.2.1
theorem wd2 {b : By} {n i j : Nat} (h : isWrd b n i j 2 = true) : pk b n i = 102 := by
  have e : isWrd b n i j 2 = (decide (j - i = (txW 2).length) && (decide (pk b n i = 102) && wdB b n (txW 2).tail (i + 1))) := rfl
  rw [e] at h
  simp at h
  exact h.2.1
theorem wd4 {b : By} {n i j : Nat} (h : isWrd b n i j 4 = true) : pk b n i = 110 := by
  have e : isWrd b n i j 4 = (decide (j - i = (txW 4).length) && (decide (pk b n i = 110) && wdB b n (txW 4).tail (i + 1))) := rfl
  rw [e] at h
  simp at h
  exact h.2.1
section MQC
variable {C : Cx} {d E f f0 : Nat} {Post : OutT → Ht → Prop} {t t0 t1 t' : Ht} {M P : Nat} {b : By} {n i q c o i' q' c' o' : Nat} {L L' : LT} {X : List Nat}
/-- a word's part -/
theorem mqWord {k0 j : Nat} {kx : Int32} (hk : k0 = 22 ∨ k0 = 23 ∨ k0 = 24) (hkx : kx = nI k0) (hG : GO M P b n [] t0 i q c t j q c o L) (hij : i < j) (hc : c ≤ 2 * i) {sp : Qs} (hsp : sp = .inl (j, L, qT k0 qN)) (kk : KQ M P b n o [] 7 1 0 true false false t0 i q c L sp Post) : CalG C mtab (d + 1) 181 [svR (some M), svI kx] t (aftV (fun v62 t63 => rI v62 (fun x67 => Post (.inl (some (svI x67))) t63)) (fun k64 q65 t66 => Post (.inr (k64, q65)) t66)) := by
  have hn := hG.1.hn
  have hjn := hG.1.2.1
  subst hkx
  refine m181 hG.1 (by omega) (fun t2 g1 g2 g3 => ?_)
  refine kk.1 j L _ hsp t2 j q (c + 1) c (hG.trans g1 (fun z hz => by cases hz)) ⟨hij, Nat.le_refl _, rfl, fun z => by cases z⟩ (fun _ z => ⟨z, rfl, ?_⟩) ⟨fun z => by omega, fun _ => ⟨?_, fun p y ep => ?_⟩⟩ ⟨Nat.le_refl _, by omega, g2.2.2.2.1⟩ (by omega) (fun z => by cases z)
  · refine QM.mk (m := 7) (k := k0) (us := []) (F1 := fun _ => False) (by decide) (by decide) (fun _ => by omega) ⟨Nat.le_refl _, by omega⟩ (fun _ z => z.elim) (fun z => z) ?_ (Or.inl ?_)
    · unfold HM
      rw [if_neg (by decide), if_neg (by decide), if_neg (by decide), if_neg (by decide), if_pos rfl, if_neg (by omega), if_neg (by omega), if_pos hk]
      exact ⟨g2.1, trivial⟩
    · rcases hk with rfl | rfl | rfl <;> rfl
  · show tI t2 (P + 1) c = nI (if k0 = 27 then 26 else k0)
    rw [if_neg (by omega)]; exact g2.1
  · injection ep with ep1 ep2
    omega
set_option maxHeartbeats 1000000 in
/-- worded -/
theorem m198 (hf : f ≤ 16) (ih : ∀ f0, f = f0 + 1 → P211 C M P b n (E + 11) f0) (h : PS t M P b n i q c (16 - f) L) (hsm : isSm b n i = true) (hc : c ≤ 2 * i) (kk : KQ M P b n (16 - f) [] 7 1 0 true false false t i q c L (wrQ b n f (agN b n f) i L) Post) : CalG C mtab (E + 13) 198 [svR (some M)] t Post := by
  have hn := h.hn
  have hin := h.2.1
  have hb := h.1.1.2.2.2.2.2.2.2.2.2.2.1
  have hq := h.2.2.2.2.2.1
  have hiw : isWd b n i = true := by unfold isWd; rw [hsm]; rfl
  have w : ∀ x : Bool, ¬ bI x = 0 → x = true := fun x hx => by
    cases x with
    | true => rfl
    | false => exact absurd rfl hx
  refine cal198 (fun m l1 t' => l1 = nI i ∧ ∃ j, m = n + 1 - j ∧ i ≤ j ∧ GO M P b n [] t i q c t' j q c (16 - f) L ∧ wdF b n (n - i) i = wdF b n (n - j) j) ?_ ?_
  · exact ⟨h.K, n + 1 - i, rfl, h.at, i, rfl, Nat.le_refl _, GO.rfl' h, rfl⟩
  · rintro m l1 t' ⟨rfl, j, rfl, hij, hG, hwd⟩
    have h' := hG.1
    have hjn := h'.2.1
    have more : isWd b n j = true → ∃ k, k < n + 1 - j ∧ some M = some M ∧ (nI i = nI i ∧ ∃ j', k = n + 1 - j' ∧ i ≤ j' ∧ GO M P b n [] t i q c (sI t' M 5 (tI t' M 5 + 1)) j' q c (16 - f) L ∧ wdF b n (n - i) i = wdF b n (n - j') j') := fun hw => by
      have hlt : j < n := by
        rcases Nat.lt_or_ge j n with z | z
        · exact z
        · rw [isWd_o z] at hw; cases hw
      rw [h'.at, nI_1]
      refine ⟨n + 1 - (j + 1), by omega, rfl, rfl, j + 1, rfl, by omega, hG.to (by omega) (by omega) (by omega), ?_⟩
      rw [hwd, show n - j = (n - (j + 1)) + 1 by omega, wdF, if_pos hw]
    refine ⟨h'.K, m156 h'.1.1 (p162 ?_)⟩
    rw [f162_p hb]
    refine ⟨fun e1 => ⟨h'.K, m156 h'.1.1 (d161 hb ⟨fun e2 => ⟨h'.K, mqI h' (fun e3 => ⟨fun z => absurd z (by decide), fun _ => ⟨h'.K, h'.K, more ?_⟩⟩) (fun e3 => ⟨fun _ => ⟨h'.K, ?_⟩, fun z => absurd rfl z⟩)⟩, fun e2 => ⟨h'.K, h'.K, more ?_⟩⟩)⟩, fun e1 => ⟨h'.K, h'.K, more ?_⟩⟩
    · unfold isWd; rw [decide_eq_true e3]; simp
    · have hwn : isWd b n j = false := by unfold isWd; rw [bI_0.mp e1, bI_0.mp e2, decide_eq_false e3]; rfl
      have ej : wdF b n (n - i) i = j := by rw [hwd, wdF_e hwn]
      have hij2 : i < j := by
        rcases Nat.lt_or_ge i j with z | z
        · exact z
        · rw [show j = i by omega, hiw] at hwn; cases hwn
      have hsp : wrQ b n f (agN b n f) i L = if pk b n j = 40 then fnQ b n f (agN b n f) i j L else if isWrd b n i j 4 then .inl (j, L, qT 24 qN) else if isWrd b n i j 2 then .inl (j, L, qT 23 qN) else if isWrd b n i j 7 then .inl (j, L, qT 22 qN) else .inr (1, j) := by unfold wrQ; rw [ej]
      refine mqI h' (fun e40 => ⟨fun z => absurd z (by decide), fun _ => ⟨h'.K, ?_⟩⟩) (fun e40 => ⟨fun _ => ⟨h'.K, ?_⟩, fun z => absurd rfl z⟩)
      · rw [if_pos e40] at hsp
        refine m212 (E := E) (Post := aftV (fun v80 t81 => rI v80 (fun x85 => Post (.inl (some (svI x85))) t81)) (fun k82 q83 t84 => Post (.inr (k82, q83)) t84)) hf ih hG hij2 e40 hc ?_
        rw [← hsp]
        exact kk
      · rw [if_neg e40] at hsp
        refine m197 (m := 7) (by omega) h' hij ⟨fun e7 => ⟨h'.K, m197 (m := 2) (by omega) h' hij ⟨fun e2' => ⟨h'.K, m197 (m := 4) (by omega) h' hij ⟨fun e4 => ⟨h'.K, mqF hG (fun t2 hF => kk.2 1 j (Or.inl ?_) t2 hF)⟩, fun e4 => ⟨h'.K, mqWord (k0 := 24) (by omega) rfl hG hij2 hc ?_ kk⟩⟩⟩, fun e2' => ⟨h'.K, mqWord (k0 := 23) (by omega) rfl hG hij2 hc ?_ kk⟩⟩⟩, fun e7 => ⟨h'.K, mqWord (k0 := 22) (by omega) rfl hG hij2 hc ?_ kk⟩⟩
        · rw [hsp, bI_0.mp e4, bI_0.mp e2', bI_0.mp e7]; rfl
        · rw [hsp, w _ e4]; rfl
        · have n4 : isWrd b n i j 4 = false := by
            cases hx : isWrd b n i j 4 with
            | false => rfl
            | true => have a := wd4 hx; rw [wd2 (w _ e2')] at a; exact absurd a (by decide)
          rw [hsp, n4, w _ e2']; rfl
        · have n4 : isWrd b n i j 4 = false := by
            cases hx : isWrd b n i j 4 with
            | false => rfl
            | true => have a := wd4 hx; rw [wd7 (w _ e7)] at a; exact absurd a (by decide)
          have n2 : isWrd b n i j 2 = false := by
            cases hx : isWrd b n i j 2 with
            | false => rfl
            | true => have a := wd2 hx; rw [wd7 (w _ e7)] at a; exact absurd a (by decide)
          rw [hsp, n4, n2, w _ e7]; rfl
    · unfold isWd; rw [w _ e2]; simp
    · unfold isWd; rw [w _ e1]; rfl
/-- an operand, a comparable -/
theorem mqOp {strict : Bool} (hf : f ≤ 16) (ih : ∀ f0, f = f0 + 1 → P210 C M P b n (E + 9) f0) (ih9 : ∀ f0, f = f0 + 1 → P211 C M P b n (E + 11) f0) (h : PS t M P b n i q c (16 - f) L) (hc : c ≤ 2 * i) (kk : KQ M P b n (16 - f) [] 7 1 0 true false false t i q c L (opQ b n f (orN b n f) (agN b n f) strict i L) Post) :
    tK t M = 17 ∧ CalG C mtab (E + 13) 194 [svR (some M)] t (aftV (fun v1 t2 => rI v1 (fun x6 => br (x6 = 0) (tK t2 M = 17 ∧ CalG C mtab (E + 13) 196 [svR (some M)] t2 (aftV (fun v7 t8 => rI v7 (fun x12 => br (x12 = 0) (tK t8 M = 17 ∧ CalG C mtab (E + 13) 156 [svR (some M)] t8 (aftV (fun v13 t14 => rI v13 (fun x18 => CalG C mtab (E + 13) 162 [svI x18] t14 (aftV (fun v19 t20 => rI v19 (fun x24 => br (x24 = 0) (tK t20 M = 17 ∧ CalG C mtab (E + 13) 158 [svR (some M)] t20 (aftV (fun v25 t26 => rR v25 (fun x30 => onR x30 (fun a31 => tK t26 a31 = 16 ∧ Post (.inr (16, a31)) t26))) (fun k27 q28 t29 => Post (.inr (k27, q28)) t29))) (tK t20 M = 17 ∧ CalG C mtab (E + 13) 198 [svR (some M)] t20 (aftV (fun v32 t33 => rI v32 (fun x37 => Post (.inl (some (svI x37))) t33)) (fun k34 q35 t36 => Post (.inr (k34, q35)) t36))))) (fun k21 q22 t23 => Post (.inr (k21, q22)) t23)))) (fun k15 q16 t17 => Post (.inr (k15, q16)) t17))) (tK t8 M = 17 ∧ CalG C mtab (E + 13) 195 [svR (some M)] t8 (aftV (fun v38 t39 => rI v38 (fun x43 => Post (.inl (some (svI x43))) t39)) (fun k40 q41 t42 => Post (.inr (k40, q41)) t42))))) (fun k9 q10 t11 => Post (.inr (k9, q10)) t11))) (tK t2 M = 17 ∧ CalG C mtab (E + 13) 193 [svR (some M), svI (bI strict)] t2 (aftV (fun v44 t45 => rI v44 (fun x49 => Post (.inl (some (svI x49))) t45)) (fun k46 q47 t48 => Post (.inr (k46, q47)) t48))))) (fun k3 q4 t5 => Post (.inr (k3, q4)) t5)) := by
  have hb := h.1.1.2.2.2.2.2.2.2.2.2.2.1
  have w : ∀ x : Bool, ¬ bI x = 0 → x = true := fun x hx => by
    cases x with
    | true => rfl
    | false => exact absurd rfl hx
  obtain ⟨S, hsp⟩ : ∃ S, S = opQ b n f (orN b n f) (agN b n f) strict i L := ⟨_, rfl⟩
  rw [← hsp] at kk
  unfold opQ at hsp
  refine ⟨h.K, m194 h (fun hp => ⟨fun z => absurd z (by decide), fun _ => ⟨h.K, ?_⟩⟩) (fun hp => ⟨fun _ => ⟨h.K, m196 h ⟨fun e1 => ⟨h.K, m156 h.1.1 (p162 ?_)⟩, fun e1 => ⟨h.K, ?_⟩⟩⟩, fun z => absurd rfl z⟩)⟩
  · rw [if_pos hp] at hsp
    rw [hsp] at kk
    exact m193 (E := E + 1) (Post := aftV (fun v44 t45 => rI v44 (fun x49 => Post (.inl (some (svI x49))) t45)) (fun k46 q47 t48 => Post (.inr (k46, q47)) t48)) hf ih h hp hc kk
  · have e1' := bI_0.mp e1
    have na : atStr b n i = false ∧ atInt b n i = false := by
      cases h1 : atStr b n i <;> cases h2 : atInt b n i <;> rw [h1, h2] at e1' <;> first | exact ⟨rfl, rfl⟩ | cases e1'
    rw [if_neg hp, na.1, na.2] at hsp
    rw [f162_p hb]
    refine ⟨fun e2 => ⟨h.K, mqF (GO.rfl' (X := []) h) (fun t2 hF => kk.2 1 i (Or.inl ?_) t2 hF)⟩, fun e2 => ⟨h.K, ?_⟩⟩
    · rw [hsp, bI_0.mp e2]; rfl
    · rw [w _ e2, if_pos rfl] at hsp
      rw [hsp] at kk
      exact m198 (E := E) (Post := aftV (fun v32 t33 => rI v32 (fun x37 => Post (.inl (some (svI x37))) t33)) (fun k34 q35 t36 => Post (.inr (k34, q35)) t36)) hf ih9 h (w _ e2) hc kk
  · have e1' := w _ e1
    have ns : isSm b n i = false := by
      cases hx : isSm b n i with
      | false => rfl
      | true =>
        exfalso
        unfold isSm at hx
        unfold atStr atInt dgt at e1'
        have hi : i < n := by simp at hx; exact hx.1
        rw [pkI hi] at e1'
        have h34 : ¬ nI (b i) = 34 := fun e => by have := (nI_eq (b := 34) (by have := hb i; omega) (by decide)).mp e; simp at hx; omega
        have h39 : ¬ nI (b i) = 39 := fun e => by have := (nI_eq (b := 39) (by have := hb i; omega) (by decide)).mp e; simp at hx; omega
        have h45 : ¬ nI (b i) = 45 := fun e => by have := (nI_eq (b := 45) (by have := hb i; omega) (by decide)).mp e; simp at hx; omega
        simp [h34, h39, h45] at e1' hx
        omega
    have hl : S = litQ b n i L := by
      rw [hsp, if_neg hp, ns, if_neg (by decide)]
      unfold litQ
      cases h1 : atStr b n i with
      | false =>
        rw [h1] at e1'
        have e1' : atInt b n i = true := e1'
        rw [e1', if_pos rfl, if_neg (by decide)]
        rfl
      | true =>
        have h2 : atInt b n i = false := by
          unfold atStr at h1
          unfold atInt dgt
          have h1' : pk b n i = 34 ∨ pk b n i = 39 := by simpa using h1
          have hlt : i < n := by rcases h1' with h1' | h1' <;> exact (pk_nn h1' (by decide)).1
          have hn45 : ¬ pk b n i = 45 := by rcases h1' with h1' | h1' <;> (rw [h1']; decide)
          have hbi : b i = 34 ∨ b i = 39 := by
            rw [pkI hlt] at h1'
            rcases h1' with h1' | h1'
            · exact Or.inl ((nI_eq (b := 34) (by have := hb i; omega) (by decide)).mp h1')
            · exact Or.inr ((nI_eq (b := 39) (by have := hb i; omega) (by decide)).mp h1')
          simp [hn45]
          omega
        rw [h2, if_neg (by decide), if_pos rfl, if_pos rfl]
        rfl
    rw [hl] at kk
    exact m195 (d := E + 5) (Post := aftV (fun v38 t39 => rI v38 (fun x43 => Post (.inl (some (svI x43))) t39)) (fun k40 q41 t42 => Post (.inr (k40, q41)) t42)) h hc e1' kk
end MQC
