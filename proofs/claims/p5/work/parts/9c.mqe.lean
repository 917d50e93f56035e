/-! brackets and negation, OF THE REFERENCE -/
def ngW (b : By) (n f : Nat) (agD : Nat → LT → (Nat × LT × QF × Bool) ⊕ (Nat × Nat)) (i : Nat) (L : LT) : Qs := match wrQ b n f agD i L with
  | .inr e => .inr e
  | .inl (j, L', x) => tsQ x i j L'
section MQE
variable {C : Cx} {d E f f0 : Nat} {Post : OutT → Ht → Prop} {t t0 t1 t' : Ht} {M P : Nat} {b : By} {n i q c o i' q' c' o' : Nat} {L L' L0 L1 : LT} {X : List Nat}
theorem lsF_sk {x : Int32} {rd : Nat → LT → Qs} : ∀ (g i j : Nat) (L L' : LT) (y z : QF), lsF b n x rd g i L y = .inl (j, L', z) → sk b n j = j := by
  intro g
  induction g with
  | zero => intro i j L L' y z h; cases h
  | succ g ih =>
    intro i j L L' y z h
    rw [lsF] at h
    split at h
    · split at h
      · split at h
        · cases h
        · exact ih _ _ _ _ _ _ h
      · cases h
    · injection h with h
      injection h with h _
      rw [← h]; exact sk_sk
theorem qOne_j {k j : Nat} {s : Qs} {z : QF} (h : qOne k s = .inl (j, L', z)) : ∃ y, s = .inl (j, L', y) ∧ z = qT k y := by
  unfold qOne at h
  split at h
  · cases h
  · injection h with h
    injection h with h1 h
    injection h with h2 h3
    subst h1 h2 h3
    exact ⟨_, rfl, rfl⟩
theorem leQ_sk {j : Nat} {x : QF} (h : (leQ b n f).1 i L = .inl (j, L', x)) : sk b n j = j := by
  rw [leQ_1] at h
  unfold orQ at h
  split at h
  · cases h
  · obtain ⟨y, h1, -⟩ := qOne_j h
    exact lsF_sk _ _ _ _ _ _ _ h1
set_option maxHeartbeats 1000000 in
/-- bracket -/
theorem m205 {D : Nat} (hD : 5 ≤ D) (hf : f ≤ 16) (ih : ∀ f0, f = f0 + 1 → P210 C M P b n D f0) (h : PS t M P b n i q c (16 - f) L) (hi : pk b n i = 40) (hc : c ≤ 2 * i) (kk : KQ M P b n (16 - f) [] 3 2 0 true false true t i q c L (grQ b n f (orN b n f) i L) Post) : CalG C mtab (D + 1) 205 [svR (some M)] t Post := by
  obtain ⟨D, rfl⟩ : ∃ D', D = D' + 5 := ⟨D - 5, by omega⟩
  have hn := h.hn
  have hP := h.2.2.1.1
  have hq := h.2.2.2.2.2.1
  have hlt := (pk_nn hi (by decide)).1
  obtain ⟨k1, k2⟩ := kk
  obtain ⟨S, hsp⟩ : ∃ S, S = grQ b n f (orN b n f) i L := ⟨_, rfl⟩
  rw [← hsp] at k1 k2
  unfold grQ at hsp
  refine cal205 ⟨h.K, m183 (d := D + 3) h (fun ho hG1 => ⟨rfl, hG1.1.K, hG1.1.K, hG1.1.K, ?_⟩) (fun ho t2 hF => k2 4 i (Or.inl (by rw [if_pos (by omega)] at hsp; exact hsp)) t2 hF)⟩
  obtain ⟨f0, rfl⟩ : ∃ f0, f = f0 + 1 := ⟨f - 1, by omega⟩
  rw [if_neg (by omega)] at hsp
  have eo : 16 - (f0 + 1) + 1 = 16 - f0 := by omega
  rw [eo] at hG1 ⊢
  rw [hG1.1.at, nI_1]
  have slo := sk_lo (b := b) (n := n) (i := i + 1)
  refine mqB (hG1.to (j := i + 1) (by omega) (by omega) (by omega)) (fun hG2 => ⟨rfl, hG2.1.K, ?_⟩)
  refine ih f0 rfl _ _ _ q c L hG2.1 (by omega) ⟨fun j L' x e t4 i' q' c' u g1 g2 g3 g4 g5 g6 g7 => ⟨g1.1.K, ?_⟩, fun w p e t4 hF => k2 w p ?_ t4 (FQ.of hG2 hF)⟩
  · have ej := g2.2.2.2 rfl
    subst ej
    have hsj := leQ_sk e
    have e' : orN b n (f0 + 1) (sk b n (i + 1)) L = .inl (i', L', x) := e
    rw [e'] at hsp
    have hG3 := hG2.trans g1 (fun z hz => by cases hz)
    refine mqB hG3 (fun hG4 => ⟨rfl, hG4.1.K, mqN (by decide) hG4 (fun e41 hG5 => ⟨rfl, hG5.1.K, hG5.1.K, ?_⟩) (fun e41 t5 hF => k2 1 (sk b n i') (Or.inl ?_) t5 hF)⟩)
    · rw [hsj] at e41
      rw [hsj] at hG5 ⊢
      have hsp : S = if pk b n i' = 41 then .inl (i' + 1, L', x) else .inr (1, i') := hsp
      rw [if_pos e41] at hsp
      rw [hG5.1.2.2.2.1.2, nI_o (by omega)]
      have hG6 := hG5.op (o1 := 16 - (f0 + 1)) (by omega)
      have fr : ∀ z, SQa t4 (sI (sI (sI t4 M 5 (nI i')) M 5 (nI (i' + 1))) M 18 (nI (16 - (f0 + 1)))) P z ∧ tI (sI (sI (sI t4 M 5 (nI i')) M 5 (nI (i' + 1))) M 18 (nI (16 - (f0 + 1)))) (P + 4) z = tI t4 (P + 4) z := fun z => by
        have s1 := SQa.w (t := t4) (P := P) (x := M) (k := 5) (a := z) (v := nI i') (Or.inl (by omega))
        have s2 := SQa.w (t := sI t4 M 5 (nI i')) (P := P) (x := M) (k := 5) (a := z) (v := nI (i' + 1)) (Or.inl (by omega))
        have s3 := SQa.w (t := sI (sI t4 M 5 (nI i')) M 5 (nI (i' + 1))) (P := P) (x := M) (k := 18) (a := z) (v := nI (16 - (f0 + 1))) (Or.inl (by omega))
        exact ⟨(s1.1.trans s2.1).trans s3.1, s3.2.trans (s2.2.trans s1.2)⟩
      refine k1 (i' + 1) L' x hsp _ (i' + 1) q' c' u hG6 ⟨by omega, Nat.le_refl _, rfl, fun _ => rfl⟩ (fun _ z => ?_) ⟨fun z => by omega, fun z => by omega⟩ ⟨g5.1, g5.2.1, (fr u).2.trans g5.2.2⟩ (by omega) (fun z => by cases z)
      obtain ⟨z1, z2, z3⟩ := g3 rfl z
      exact ⟨z1, z2, z3.fr (fun z _ => ⟨(fr z).1, fun _ => (fr z).2⟩) (fun k _ _ => by rw [sI_at (by omega), sI_at (by omega), sI_at (by omega)]) (Nat.le_refl _)⟩
    · rw [hsj] at e41 ⊢
      have hsp : S = if pk b n i' = 41 then .inl (i' + 1, L', x) else .inr (1, i') := hsp
      rw [if_neg e41] at hsp
      exact hsp
  · rcases e with e | ⟨rfl, j, L', x, e, e2, e3, e4⟩
    · have e' : orN b n (f0 + 1) (sk b n (i + 1)) L = .inr (w, p) := e
      rw [e'] at hsp
      exact Or.inl hsp
    · have e' : orN b n (f0 + 1) (sk b n (i + 1)) L = .inl (j, L', x) := e
      rw [e'] at hsp
      have ep := e3 rfl
      subst ep
      have hsp : S = if pk b n p = 41 then .inl (p + 1, L', x) else .inr (1, p) := hsp
      rw [if_neg (stk_no e4.1).2.2.1] at hsp
      exact Or.inl hsp
theorem fnQ_f {agD : Nat → LT → (Nat × LT × QF × Bool) ⊕ (Nat × Nat)} {j k : Nat} {x : QF} (h : fnQ b n f agD i j L = .inl (k, L', x)) : isFun x = true ∧ isLit x = false ∧ OTk x := by
  unfold fnQ at h
  split at h
  · cases h
  · split at h
    · cases h
    · split at h
      · injection h with h; injection h with _ h; injection h with _ h; subst h; exact ⟨rfl, rfl, Or.inr (Or.inl rfl)⟩
      · injection h with h; injection h with _ h; injection h with _ h; subst h; exact ⟨rfl, rfl, Or.inr (Or.inl rfl)⟩
set_option maxHeartbeats 1000000 in
/-- negated -/
theorem m207 (hf : f ≤ 16) (ih : ∀ f0, f = f0 + 1 → P211 C M P b n (E + 11) f0) (h : PS t M P b n i q c (16 - f) L) (hsm : isSm b n i = true) (hc : c ≤ 2 * i) (kk : KQ M P b n (16 - f) [] 3 0 0 true false false t i q c L (ngW b n f (agN b n f) i L) Post) : CalG C mtab (E + 13) 207 [svR (some M), svI (nI i)] t Post := by
  have hn := h.hn
  have hin := h.2.1
  have hb := h.1.1.2.2.2.2.2.2.2.2.2.2.1
  have hq := h.2.2.2.2.2.1
  have hiw : isWd b n i = true := by unfold isWd; rw [hsm]; rfl
  have w : ∀ x : Bool, ¬ bI x = 0 → x = true := fun x hx => by
    cases x with
    | true => rfl
    | false => exact absurd rfl hx
  obtain ⟨k1, k2⟩ := kk
  have body : ∀ (m : Nat) (K : Ht → Prop) (t' : Ht) (j : Nat), i ≤ j → GO M P b n [] t i q c t' j q c (16 - f) L → wdF b n (n - i) i = wdF b n (n - j) j → (∀ t2, j + 1 ≤ n → GO M P b n [] t i q c t2 (j + 1) q c (16 - f) L → wdF b n (n - i) i = wdF b n (n - (j + 1)) (j + 1) → K t2) → vc207_0 (CalG C mtab (E + 12)) (cS C) (cG C) Post K M (nI i) t' := by
    intro m K t' j hij hG hwd hK
    have h' := hG.1
    have hjn := h'.2.1
    have more : isWd b n j = true → K (sI t' M 5 (tI t' M 5 + 1)) := fun hw => by
      have hlt : j < n := by
        rcases Nat.lt_or_ge j n with z | z
        · exact z
        · rw [isWd_o z] at hw; cases hw
      rw [h'.at, nI_1]
      refine hK _ hlt (hG.to (by omega) (by omega) (by omega)) ?_
      rw [hwd, show n - j = (n - (j + 1)) + 1 by omega, wdF, if_pos hw]
    refine ⟨h'.K, m156 h'.1.1 (p162 ?_)⟩
    rw [f162_p hb]
    refine ⟨fun e1 => ⟨h'.K, m156 h'.1.1 (d161 hb ⟨fun e2 => ⟨h'.K, mqI h' (fun e3 => ⟨fun z => absurd z (by decide), fun _ => ⟨h'.K, h'.K, more ?_⟩⟩) (fun e3 => ⟨fun _ => ⟨h'.K, ?_⟩, fun z => absurd rfl z⟩)⟩, fun e2 => ⟨h'.K, h'.K, more ?_⟩⟩)⟩, fun e1 => ⟨h'.K, h'.K, more ?_⟩⟩
    · unfold isWd; rw [decide_eq_true e3]; simp
    · have hwn : isWd b n j = false := by unfold isWd; rw [bI_0.mp e1, bI_0.mp e2, decide_eq_false e3]; rfl
      have ej : wdF b n (n - i) i = j := by rw [hwd, wdF_e hwn]
      have hij2 : i < j := by
        rcases Nat.lt_or_ge i j with z | z
        · exact z
        · rw [show j = i by omega, hiw] at hwn; cases hwn
      have hsp : wrQ b n f (agN b n f) i L = if pk b n j = 40 then fnQ b n f (agN b n f) i j L else if isWrd b n i j 4 then .inl (j, L, qT 24 qN) else if isWrd b n i j 2 then .inl (j, L, qT 23 qN) else if isWrd b n i j 7 then .inl (j, L, qT 22 qN) else .inr (1, j) := by unfold wrQ; rw [ej]
      refine mqI h' (fun e40 => ⟨fun z => absurd z (by decide), fun _ => ⟨h'.K, ?_⟩⟩) (fun e40 => ⟨fun _ => ⟨h'.K, mqF hG (fun t2 hF => k2 1 j (Or.inl ?_) t2 hF)⟩, fun z => absurd rfl z⟩)
      · rw [if_pos e40] at hsp
        refine m212 (E := E) hf ih hG hij2 e40 hc ⟨fun k L2 x e t2 i2 q2 c2 a g1 g2 g3 g4 g5 g6 _ => ⟨g1.1.K, ?_⟩, fun ww p e t2 hF => k2 ww p (e.elim (fun e => Or.inl ?_) (fun e => ?_)) t2 hF⟩
        · obtain ⟨x1, x2, x3⟩ := fnQ_f e
          have hsp2 : ngW b n f (agN b n f) i L = tsQ x i k L2 := by unfold ngW; rw [hsp, e]
          have hi2 := g1.1.2.1
          refine m203 (d := E + 10) (Post := aftV (fun v43 t44 => rI v43 (fun x48 => Post (.inl (some (svI x48))) t44)) (fun k45 q46 t47 => Post (.inr (k45, q46)) t47)) (tr := true) (hh := i) (j := k) ⟨g1, g5, g4, x3, fun z => g3 rfl z, g2.1, g6⟩ x2 (by omega) (by omega) ⟨g2.2.1, g2.2.2.1⟩ ?_
          rw [← hsp2]
          exact ⟨k1, k2⟩
        · unfold ngW; rw [hsp, e]
        · obtain ⟨rfl, k, L2, x, e, e2, e3, e4⟩ := e
          obtain ⟨x1, x2, x3⟩ := fnQ_f e
          refine Or.inr ⟨rfl, k, noteL L2 2 i, qT 27 qN, ?_, e2, e3, e4.1, fun z => by omega⟩
          unfold ngW
          rw [hsp, e]
          show tsQ x i k L2 = _
          unfold tsQ
          rw [x2, x1, if_neg (by decide), if_pos rfl]
      · rw [if_neg e40] at hsp
        unfold ngW
        rw [hsp]
        cases h4 : isWrd b n i j 4 with
        | true => rfl
        | false =>
          cases h2 : isWrd b n i j 2 with
          | true => rfl
          | false =>
            cases h7 : isWrd b n i j 7 with
            | true => rfl
            | false => rfl
    · unfold isWd; rw [w _ e2]; simp
    · unfold isWd; rw [w _ e1]; rfl
  refine cal207 (fun m t' => ∃ j, m = n + 1 - j ∧ i ≤ j ∧ GO M P b n [] t i q c t' j q c (16 - f) L ∧ wdF b n (n - i) i = wdF b n (n - j) j) ?_ ?_
  · have hh := body 0 (fun t' => ∃ k, some M = some M ∧ nI i = nI i ∧ ∃ j, k = n + 1 - j ∧ i ≤ j ∧ GO M P b n [] t i q c t' j q c (16 - f) L ∧ wdF b n (n - i) i = wdF b n (n - j) j) t i (Nat.le_refl _) (GO.rfl' h) rfl (fun t2 hj hG hw => ⟨n + 1 - (i + 1), rfl, rfl, i + 1, rfl, by omega, hG, hw⟩)
    unfold vc207_0 at hh
    unfold vc207
    exact hh
  · rintro m t' ⟨j, rfl, hij, hG, hwd⟩
    exact body 0 (fun t' => ∃ k, k < n + 1 - j ∧ some M = some M ∧ nI i = nI i ∧ ∃ j, k = n + 1 - j ∧ i ≤ j ∧ GO M P b n [] t i q c t' j q c (16 - f) L ∧ wdF b n (n - i) i = wdF b n (n - j) j) t' j hij hG hwd (fun t2 hj hG2 hw => ⟨n + 1 - (j + 1), by omega, rfl, rfl, j + 1, rfl, by omega, hG2, hw⟩)
end MQE
