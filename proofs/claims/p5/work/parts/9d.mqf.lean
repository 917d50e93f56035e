/-! basic, OF THE REFERENCE -/
section MQF
variable {C : Cx} {d E f f0 : Nat} {Post : OutT → Ht → Prop} {t t0 t1 t' : Ht} {M P : Nat} {b : By} {n i q c o i' q' c' o' : Nat} {L L' L0 L1 : LT} {X : List Nat}
theorem KQ.wk {m sm s sm' s' : Nat} {tr ks ex : Bool} {sp : Qs} (h : KQ M P b n o X m sm s tr false false t i q c L sp Post) (h1 : sm ≤ sm') (h2 : s' ≤ s) : KQ M P b n o X m sm' s' tr ks ex t i q c L sp Post := by
  refine ⟨fun j L' x e t' i' q' c' a g1 g2 g3 g4 g5 g6 _ => h.1 j L' x e t' i' q' c' a g1 ⟨g2.1, g2.2.1, g2.2.2.1, fun z => by cases z⟩ g3 g4 g5 (by omega) (fun z => by cases z), fun w p e t' hF => h.2 w p ?_ t' hF⟩
  rcases e with e | ⟨rfl, j, L', x, e, e2, e3, e4⟩
  · exact Or.inl e
  · exact Or.inr ⟨rfl, j, L', x, e, e2, (fun z => by cases z), e4⟩
/-- what is behind a ! -/
theorem KQ.neg {i1 : Nat} {spI S : Qs} {t2 : Ht} (hg : GO M P b n [] t i q c t2 i1 q (c + 1) o L) (hN : NPt t2 P c 12) (hi : i < i1) (hc : c < 2400) (h1 : ∀ j L' x, spI = .inl (j, L', x) → S = .inl (j, L', qT 12 x)) (h2 : ∀ e, spI = .inr e → S = .inr e) (kk : KQ M P b n o [] 3 0 0 true false false t i q c L S Post) : KQ M P b n o [] 3 0 0 true false false t2 i1 q (c + 1) L spI (aftV (fun v t75 => rI v (fun x79 => onR (tR t2 P 1) (fun a80 => tK t75 a80 = 101 ∧ vp_in (nI c) (tL t75 a80) ∧ Post (.inl (some (svI (nI c)))) (sI t75 a80 (nI c).toNatClampNeg x79)))) (fun k q t => Post (.inr (k, q)) t)) := by
  have hP := hg.1.2.2.1.1
  refine ⟨fun j L' x e t' i' q' c' u g1 g2 g3 g4 g5 g6 _ => onS hg.1.a1.1 ?_, fun w p e t' hF => kk.2 w p (e.map (fun z => by omega) (fun j L' x e => ⟨_, h1 j L' x e⟩) h2) t' (FQ.of hg hF)⟩
  have h' := g1.1
  have cl : (nI c).toNatClampNeg = c := nI_clamp (by omega)
  have sq := g1.sq (z := c) (by omega)
  have hcc := g1.2.2.2.2.2
  refine ⟨h'.a1.2.1, by rw [h'.a1.2.2]; exact vin h' hc, ?_⟩
  rw [cl]
  have fw : ∀ z, z ≠ c → SQa t' (sI t' (P + 2) c (nI u)) P z ∧ tI (sI t' (P + 2) c (nI u)) (P + 4) z = tI t' (P + 4) z := fun z hz => SQa.w (Or.inr (Or.inr (fun e => hz e.symm)))
  refine kk.1 j L' _ (h1 j L' x e) _ i' q' c' c ((hg.trans g1 (fun z hz => by cases hz)).I (Or.inl ⟨by omega, by omega, Or.inl (Nat.le_refl _)⟩)) ⟨by omega, g2.2.1, g2.2.2.1, fun z => by cases z⟩ (fun _ z => ?_) ⟨fun z => by omega, fun z => by omega⟩ ⟨Nat.le_refl _, by omega, ?_⟩ (by omega) (fun z => by cases z)
  · obtain ⟨z1, z2, z3⟩ := g3 rfl z
    refine ⟨z1, rfl, QM.mk (m := 3) (k := 12) (us := [u]) (F1 := rg (c + 1) c') (by decide) (by decide) (by decide) ⟨Nat.le_refl _, by omega⟩ (fun z hz => ⟨by have := hz.1; omega, hz.2⟩) (fun z => by have := z.1; omega) ?_ (Or.inr (z3.fr (fun z hz => ⟨(fw z (by have := hz.1; omega)).1, fun _ => (fw z (by have := hz.1; omega)).2⟩) (fun k _ _ => sI_at (by omega)) (Nat.le_refl _)))⟩
    unfold HM
    rw [if_neg (by decide), if_neg (by decide), if_pos rfl, if_neg (by decide), if_pos rfl]
    refine ⟨?_, z2, u, sI_eq, rfl⟩
    rw [sI_at (by omega)]; exact (sq.1.1 1 (by omega)).trans hN.1
  · rw [sI_at (by omega)]; exact (sq.2 (by simp)).trans hN.2.2.2.1
theorem ptQ_k {orD : Nat → LT → Qs} {strict : Bool} {j : Nat} {x : QF} (h : ptQ b n f orD strict i L = .inl (j, L', x)) : ∃ (p : Nat) (y : QF), x = .tag 25 (.tag p y) := by
  unfold ptQ at h
  split at h
  · cases h
  · injection h with h; injection h with _ h; injection h with _ h; subst h; exact ⟨_, _, rfl⟩
set_option maxHeartbeats 1000000 in
theorem m206 (hf : f ≤ 16) (ih : ∀ e f0, f = f0 + 1 → P210 C M P b n (E + e + 8) f0) (ih9 : ∀ e f0, f = f0 + 1 → P211 C M P b n (E + e + 11) f0) (h : PS t M P b n i q c (16 - f) L) (hc : c ≤ 2 * i) (kk : KQ M P b n (16 - f) [] 3 0 0 true false false t i q c L (baQ b n f (orN b n f) (agN b n f) i L) Post) : CalG C mtab (E + 17) 206 [svR (some M)] t Post := by
  have hn := h.hn
  have hin := h.2.1
  have hP := h.2.2.1.1
  have hq := h.2.2.2.2.2.1
  have hb := h.1.1.2.2.2.2.2.2.2.2.2.2.1
  have w : ∀ x : Bool, ¬ bI x = 0 → x = true := fun x hx => by
    cases x with
    | true => rfl
    | false => exact absurd rfl hx
  obtain ⟨S, hsp⟩ : ∃ S, S = baQ b n f (orN b n f) (agN b n f) i L := ⟨_, rfl⟩
  rw [← hsp] at kk
  unfold baQ at hsp
  refine cal206 ⟨h.K, h.K, mqI h (fun e33 => ⟨fun z => absurd z (by decide), fun _ => ⟨h.K, h.K, h.K, ?_⟩⟩) (fun e33 => ⟨fun _ => ⟨h.K, mqI h (fun e40 => ⟨fun z => absurd z (by decide), fun _ => ⟨h.K, ?_⟩⟩) (fun e40 => ⟨fun _ => ⟨h.K, ?_⟩, fun z => absurd rfl z⟩)⟩, fun z => absurd rfl z⟩)⟩
  · rw [if_pos e33] at hsp
    have hlt := (pk_nn e33 (by decide)).1
    rw [h.at, nI_1]
    have slo := sk_lo (b := b) (n := n) (i := i + 1)
    have hsk := sk_le (b := b) (n := n) (i := i + 1) (by omega)
    refine mqB ((GO.rfl' (X := []) h).to (j := i + 1) (by omega) (by omega) (by omega)) (fun hG1 => ⟨rfl, hG1.1.K, m181 hG1.1 (by omega) (fun t2 r1 r2 r3 => ⟨r1.1.K, r1.1.K, ?_⟩)⟩)
    have hG2 := hG1.trans r1 (fun z hz => by cases hz)
    have h2 := hG2.1
    have inner : ∀ spI : Qs, (∀ j L' x, spI = .inl (j, L', x) → S = .inl (j, L', qT 12 x)) → (∀ e, spI = .inr e → S = .inr e) → KQ M P b n (16 - f) [] 3 0 0 true false false t2 (sk b n (i + 1)) q (c + 1) L spI (aftV (fun v t75 => rI v (fun x79 => onR (tR t2 P 1) (fun a80 => tK t75 a80 = 101 ∧ vp_in (nI c) (tL t75 a80) ∧ Post (.inl (some (svI (nI c)))) (sI t75 a80 (nI c).toNatClampNeg x79)))) (fun k q t => Post (.inr (k, q)) t)) := fun spI a1 a2 => KQ.neg hG2 r2 (by omega) (by omega) a1 a2 kk
    refine mqI h2 (fun e40 => ⟨fun z => absurd z (by decide), fun _ => ⟨h2.K, onS h2.r17 ⟨h2.k14, h2.K, ?_⟩⟩⟩) (fun e40 => ⟨fun _ => ⟨h2.K, m194 h2 (fun hp => ⟨fun z => absurd z (by decide), fun _ => ⟨h2.K, onS h2.r17 ⟨h2.k14, h2.K, ?_⟩⟩⟩) (fun hp => ⟨fun _ => ⟨h2.K, m156 h2.1.1 (p162 ?_)⟩, fun z => absurd rfl z⟩)⟩, fun z => absurd rfl z⟩)
    · rw [if_pos e40] at hsp
      refine m205 (D := E + 15) (by omega) hf (ih 7) h2 e40 (by omega) (KQ.wk (inner (grQ b n f (orN b n f) (sk b n (i + 1)) L) (fun j L' x e => ?_) (fun e0 e => ?_)) (by omega) (by omega))
      · rw [e] at hsp; exact hsp
      · rw [e] at hsp; exact hsp
    · have ne : (atInt b n (sk b n (i + 1)) || atStr b n (sk b n (i + 1))) = false := by
        unfold atInt atStr dgt
        have hlt2 : sk b n (i + 1) < n := by rcases hp with hp | hp <;> exact (pk_nn hp (by decide)).1
        have hv : b (sk b n (i + 1)) = 64 ∨ b (sk b n (i + 1)) = 36 := by
          rw [pkI hlt2] at hp
          rcases hp with hp | hp
          · exact Or.inl ((nI_eq (b := 64) (by have := hb (sk b n (i + 1)); omega) (by decide)).mp hp)
          · exact Or.inr ((nI_eq (b := 36) (by have := hb (sk b n (i + 1)); omega) (by decide)).mp hp)
        have n45 : ¬ pk b n (sk b n (i + 1)) = 45 := by rcases hp with hp | hp <;> (rw [hp]; decide)
        have n34 : ¬ pk b n (sk b n (i + 1)) = 34 := by rcases hp with hp | hp <;> (rw [hp]; decide)
        have n39 : ¬ pk b n (sk b n (i + 1)) = 39 := by rcases hp with hp | hp <;> (rw [hp]; decide)
        simp [n45, n34, n39]
        omega
      have eop : opQ b n f (orN b n f) (agN b n f) false (sk b n (i + 1)) L = ptQ b n f (orN b n f) false (sk b n (i + 1)) L := by unfold opQ; rw [if_pos hp]
      rw [if_neg e40, ne, eop] at hsp
      have hsp : S = match (match ptQ b n f (orN b n f) false (sk b n (i + 1)) L with
          | .inr e => .inr e
          | .inl (j, L', x) => tsQ x (sk b n (i + 1)) j L' : Qs) with
        | .inr e => .inr e
        | .inl (j, L', x) => .inl (j, L', qT 12 x) := hsp
      refine m193 (E := E + 4) (strict := false) hf (ih 4) h2 hp (by omega) ⟨fun j L' x e t3 i' q' c' a g1 g2 g3 g4 g5 g6 _ => ⟨g1.1.K, ?_⟩, fun ww p e t3 hF => kk.2 ww p ?_ t3 (FQ.of hG2 hF)⟩
      · obtain ⟨pp, yy, rfl⟩ := ptQ_k e
        rw [e] at hsp
        have hi2 := g1.1.2.1
        rw [h2.at]
        exact m203 (d := E + 14) (tr := true) (hh := sk b n (i + 1)) (j := j) ⟨g1, g5, g4, Or.inr (Or.inr ⟨pp, yy, rfl⟩), fun z => g3 rfl z, g2.1, g6⟩ rfl (by omega) (by omega) ⟨g2.2.1, g2.2.2.1⟩ (inner _ (fun j' L2 x e2 => by
          have e2 : (.inl (j, L', qT 14 (.tag pp yy)) : Qs) = .inl (j', L2, x) := e2
          injection e2 with e2
          injection e2 with a1 a2
          injection a2 with a3 a4
          subst a1 a3 a4
          exact hsp) (fun e0 e2 => by cases e2))
      · rcases e with e | ⟨rfl, j, L', x, e, e2, e3, e4, e5⟩
        · rw [e] at hsp; exact Or.inl hsp
        · obtain ⟨pp, yy, rfl⟩ := ptQ_k e
          rw [e] at hsp
          exact Or.inr ⟨rfl, j, L', _, hsp, e2, e3, e4, fun z => by omega⟩
    · rw [f162_p hb]
      refine ⟨fun e1 => ⟨h2.K, mqF hG2 (fun t3 hF => kk.2 1 _ (Or.inl ?_) t3 hF)⟩, fun e1 => ⟨h2.K, onS h2.r17 ⟨h2.k14, h2.K, ?_⟩⟩⟩
      · rw [if_neg e40] at hsp
        rw [hsp]
        cases ha : (atInt b n (sk b n (i + 1)) || atStr b n (sk b n (i + 1))) with
        | true => rfl
        | false =>
          have h1 : atInt b n (sk b n (i + 1)) = false := by
            cases hx : atInt b n (sk b n (i + 1)) with
            | false => rfl
            | true => rw [hx] at ha; cases ha
          have h1' : atStr b n (sk b n (i + 1)) = false := by
            cases hx : atStr b n (sk b n (i + 1)) with
            | false => rfl
            | true => rw [h1, hx] at ha; cases ha
          have : opQ b n f (orN b n f) (agN b n f) false (sk b n (i + 1)) L = .inr (1, sk b n (i + 1)) := by
            unfold opQ
            rw [if_neg hp, bI_0.mp e1, h1, h1']; rfl
          rw [this]; rfl
      · have hsm := w _ e1
        have ne : (atInt b n (sk b n (i + 1)) || atStr b n (sk b n (i + 1))) = false := by
          unfold isSm at hsm
          unfold atInt atStr dgt
          have hlt2 : sk b n (i + 1) < n := by simp at hsm; exact hsm.1
          rw [pkI hlt2]
          have h34 : ¬ nI (b (sk b n (i + 1))) = 34 := fun e => by have := (nI_eq (b := 34) (by have := hb (sk b n (i + 1)); omega) (by decide)).mp e; simp at hsm; omega
          have h39 : ¬ nI (b (sk b n (i + 1))) = 39 := fun e => by have := (nI_eq (b := 39) (by have := hb (sk b n (i + 1)); omega) (by decide)).mp e; simp at hsm; omega
          have h45 : ¬ nI (b (sk b n (i + 1))) = 45 := fun e => by have := (nI_eq (b := 45) (by have := hb (sk b n (i + 1)); omega) (by decide)).mp e; simp at hsm; omega
          simp [h34, h39, h45] at hsm ⊢
          omega
        have eop : opQ b n f (orN b n f) (agN b n f) false (sk b n (i + 1)) L = wrQ b n f (agN b n f) (sk b n (i + 1)) L := by unfold opQ; rw [if_neg hp, if_pos hsm]
        rw [if_neg e40, ne, eop] at hsp
        have hsp : S = match ngW b n f (agN b n f) (sk b n (i + 1)) L with
          | .inr e => .inr e
          | .inl (j, L', x) => .inl (j, L', qT 12 x) := hsp
        rw [h2.at]
        exact m207 (E := E + 3) hf (ih9 3) h2 hsm (by omega) (inner _ (fun j L' x e => by rw [e] at hsp; exact hsp) (fun e0 e => by rw [e] at hsp; exact hsp))
  · rw [if_neg e33, if_pos e40] at hsp
    rw [hsp] at kk
    exact m205 (Post := aftV (fun v25 t26 => rI v25 (fun x30 => Post (.inl (some (svI x30))) t26)) (fun k27 q28 t29 => Post (.inr (k27, q28)) t29)) (D := E + 15) (by omega) hf (ih 7) h e40 hc (KQ.wk kk (by omega) (by omega))
  · rw [if_neg e33, if_neg e40] at hsp
    refine m208 (E := E + 2) hf (ih 3) (ih9 2) h hc ⟨fun j L' x e t3 i' q' c' a g1 g2 g3 g4 g5 g6 _ => ⟨g1.1.K, ?_⟩, fun ww p e t3 hF => kk.2 ww p ?_ t3 hF⟩
    · rw [e] at hsp
      have hsp : S = bfQ b n f (orN b n f) (agN b n f) x i j L' := hsp
      rw [h.at]
      rw [hsp] at kk
      exact m204 (E := E) (Post := aftV (fun v19 t20 => rI v19 (fun x24 => Post (.inl (some (svI x24))) t20)) (fun k21 q22 t23 => Post (.inr (k21, q22)) t23)) (tr := true) (hh := i) (j := j) hf (ih 1) (ih9 0) ⟨g1, g5, g4, opQ_k e, fun z => g3 rfl z, g2.1, g6⟩ hc (by omega) ⟨g2.2.1, g2.2.2.1⟩ kk
    · rcases e with e | ⟨rfl, j, L', x, e, e2, e3, e4, e5⟩
      · rw [e] at hsp; exact Or.inl hsp
      · rw [e] at hsp
        have hsp : S = bfQ b n f (orN b n f) (agN b n f) x i j L' := hsp
        have hd := e5 rfl
        have nop : atOp b n p = false := by
          have k := (dgt_sk hd).2.2
          have a1 : ¬ pk b n p = 61 := k 61 (by omega) (by omega)
          have a2 : ¬ pk b n p = 33 := k 33 (by omega) (by omega)
          have a3 : ¬ pk b n p = 60 := k 60 (by omega) (by omega)
          have a4 : ¬ pk b n p = 62 := k 62 (by omega) (by omega)
          unfold atOp
          simp [a1, a2, a3, a4]
        have hsp2 : S = tsQ x i p L' := by
          rw [hsp]
          unfold bfQ
          rw [← e2, nop]
          cases isCmp x <;> rfl
        rcases OTk_k (opQ_k e) with ⟨w1, -⟩ | ⟨w1, w2, -⟩ | ⟨pp, yy, rfl⟩
        · left
          rw [hsp2]
          unfold tsQ
          rw [w1, if_pos rfl]
        · refine Or.inr ⟨rfl, p, noteL L' 2 i, qT 27 qN, ?_, by rw [e2, sk_sk], (fun z => by cases z), e4, fun z => by omega⟩
          rw [hsp2]
          unfold tsQ
          rw [w1, w2, if_neg (by decide), if_pos rfl]
        · exact Or.inr ⟨rfl, p, L', qT 14 (.tag pp yy), hsp2, by rw [e2, sk_sk], (fun z => by cases z), e4, fun z => by omega⟩
end MQF
