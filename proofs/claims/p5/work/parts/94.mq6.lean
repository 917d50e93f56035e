/-! bracketed, OF THE REFERENCE -/
theorem sk_stop {b : By} {n : Nat} : ∀ (m i : Nat), n - i = m → isBl (pk b n (sk b n i)) = false := by
  intro m
  induction m with
  | zero =>
    intro i hi
    have h0 : isBl (pk b n i) = false := by rw [pkO (by omega)]; decide
    rw [sk_no h0]; exact h0
  | succ m ih =>
    intro i hi
    cases h0 : isBl (pk b n i) with
    | false => rw [sk_no h0]; exact h0
    | true => rw [sk_yes h0]; exact ih (i + 1) (by omega)
theorem sk_sk {b : By} {n i : Nat} : sk b n (sk b n i) = sk b n i := sk_no (sk_stop _ i rfl)
theorem stk_no {b : By} {n p : Nat} (h : stk b n p) : ¬ pk b n p = 44 ∧ ¬ pk b n p = 93 ∧ ¬ pk b n p = 41 ∧ ¬ pk b n p = 38 ∧ ¬ pk b n p = 124 ∧ ¬ pk b n p = 58 := by
  rcases h with h | h
  · have k := (dgt_sk h).2.2
    exact ⟨k 44 (by omega) (by omega), k 93 (by omega) (by omega), k 41 (by omega) (by omega), k 38 (by omega) (by omega), k 124 (by omega) (by omega), k 58 (by omega) (by omega)⟩
  · unfold atOp at h
    refine ⟨?_, ?_, ?_, ?_, ?_, ?_⟩ <;> (intro e; rw [e] at h; exact absurd h (by decide))
section SEQ
variable {b : By} {n f i j : Nat} {L L' : LT} {x : QF} {orD : Nat → LT → Qs}
theorem slT_tg {a e : Option (Bool × Nat)} (h : slT b n a e i L = .inl (j, L', x)) : tgN x = 4 ∧ isTg x = true := by
  unfold slT at h
  split at h
  · split at h
    · split at h
      · cases h
      · injection h with h; injection h with _ h; injection h with _ h; subst h; exact ⟨rfl, rfl⟩
    · injection h with h; injection h with _ h; injection h with _ h; subst h; exact ⟨rfl, rfl⟩
  · injection h with h; injection h with _ h; injection h with _ h; subst h; exact ⟨rfl, rfl⟩
theorem slQ_tg {a : Option (Bool × Nat)} (h : slQ b n a i L = .inl (j, L', x)) : tgN x = 4 ∧ isTg x = true := by
  unfold slQ at h
  split at h
  · split at h
    · cases h
    · exact slT_tg h
  · exact slT_tg h
theorem seQ_k {strict : Bool} (h : seQ b n f orD strict i L = .inl (j, L', x)) : isTg x = true ∧ 1 ≤ tgN x ∧ tgN x ≤ 5 ∧ (strict = true → tgN x = 1 ∨ tgN x = 3) := by
  unfold seQ at h
  split at h
  · split at h
    · cases h
    · injection h with h; injection h with _ h; injection h with _ h; subst h; exact ⟨rfl, by show 1 ≤ 1; omega, by show 1 ≤ 5; omega, fun _ => Or.inl rfl⟩
  split at h
  · split at h
    · cases h
    · split at h
      · rename_i w
        obtain ⟨h1, h2⟩ := slQ_tg h
        exact ⟨h2, by omega, by omega, fun z => by rw [w.1] at z; cases z⟩
      · injection h with h; injection h with _ h; injection h with _ h; subst h; exact ⟨rfl, by show 1 ≤ 3; omega, by show 3 ≤ 5; omega, fun _ => Or.inr rfl⟩
  split at h
  · cases h
  rename_i w
  split at h
  · obtain ⟨h1, h2⟩ := slQ_tg h
    exact ⟨h2, by omega, by omega, fun z => absurd z w⟩
  split at h
  · split at h
    · cases h
    · split at h
      · cases h
      · injection h with h; injection h with _ h; injection h with _ h; subst h; exact ⟨rfl, by show 1 ≤ 5; omega, by show 5 ≤ 5; omega, fun z => absurd z w⟩
  split at h
  · injection h with h; injection h with _ h; injection h with _ h; subst h; exact ⟨rfl, by show 1 ≤ 2; omega, by show 2 ≤ 5; omega, fun z => absurd z w⟩
  · cases h
theorem isSel1_of (h : tgN x = 1 ∨ tgN x = 3) (ht : isTg x = true) : isSel1 x = true := by
  cases x with
  | tag k y =>
    show (k == 1 || k == 3) = true
    have h : k = 1 ∨ k = 3 := h
    rcases h with rfl | rfl <;> rfl
  | _ => cases ht
theorem isSel1_to (h : isSel1 x = true) : tgN x = 1 ∨ tgN x = 3 := by
  cases x with
  | tag k y =>
    have h : (k == 1 || k == 3) = true := h
    show k = 1 ∨ k = 3
    simpa using h
  | _ => cases h
end SEQ
section MQ6
variable {C : Cx} {d E f : Nat} {Post : OutT → Ht → Prop} {t t1 t' : Ht} {M P : Nat} {b : By} {n i q c o i' q' c' o' : Nat} {L L' : LT} {X : List Nat}
/-- what brackets give: the first selector's part -/
def KBm (M P : Nat) (b : By) (n o : Nat) (t : Ht) (i q c : Nat) (L : LT) (sp : (Nat × LT × QF × Bool) ⊕ (Nat × Nat)) (Post : OutT → Ht → Prop) : Prop :=
  (∀ j L' y s, sp = .inl (j, L', y, s) → ∀ t' q' c' u us, GO M P b n [] t i q c t' j q' c' o L' → i < j → (L'.1 = 0 → L.1 = 0 ∧ qL y = true ∧ QM t' P (M + 3) 2400 q' y 2 (rg c c') (u :: us)) → (c ≤ u ∧ u < c') → tI t' M 21 = bI s → c' + 3 ≤ c + 2 * (j - i) → Post (.inl (some (svI (nI u)))) t') ∧
  (∀ w p, sp = .inr (w, p) → ∀ t', FQ M P t t' w p → Post (.inr (16, M + 1)) t')
theorem slF_sk {orD : Nat → LT → Qs} {g : Nat} {x : QF} : slF b n f orD (g + 1) (sk b n i) L x = slF b n f orD (g + 1) i L x := by rw [slF, slF, sk_sk]
/-- a list of selectors so far -/
def LMs (M P : Nat) (b : By) (n o : Nat) (t : Ht) (i q c : Nat) (L : LT) (m : Nat) (t' : Ht) (j q' c' : Nat) (L' : LT) (y : QF) (u la : Nat) (us : List Nat) : Prop :=
  GO M P b n [] t i q c t' j q' c' o L' ∧ i < j ∧ (L'.1 = 0 → L.1 = 0 ∧ qL y = true ∧ QM t' P (M + 3) 2400 q' y m (rg c c') us) ∧ us.head? = some u ∧ us.getLast? = some la ∧ (c ≤ u ∧ u < c' ∧ c ≤ la ∧ la < c')
/-- one part more is hung behind the last one -/
theorem LMs.next {m j q' c' u la v i2 q2 c2 : Nat} {y x : QF} {us : List Nat} {L2 : LT} {t2 : Ht} (h : LMs M P b n o t i q c L m t' j q' c' L' y u la us) (m6 : m ≠ 6) (m5 : m ≠ 5) (g : GO M P b n [] t' j q' c' t2 i2 q2 c2 o L2) (hx : L2.1 = 0 → L'.1 = 0 ∧ isTg x = true ∧ QM t2 P (M + 3) 2400 q2 x m (rg c' c2) [v]) (hv : c' ≤ v ∧ v < c2 ∧ tI t2 (P + 4) v = -1) (hi2 : j ≤ i2) : LMs M P b n o t i q c L m (sI t2 (P + 4) la (nI v)) i2 q2 c2 L2 (qApp y x) u v (us ++ [v]) := by
  obtain ⟨h1, h2, h3, h4, h5, h6⟩ := h
  have hP := g.1.2.2.1.1
  have hla : la ≠ v := by omega
  refine ⟨(h1.trans g (fun z hz => by cases hz)).I (Or.inl ⟨by omega, by omega, Or.inl h6.2.2.1⟩), by omega, fun z => ?_, ?_, by simp, by omega⟩
  · obtain ⟨z1, z2, z3⟩ := hx z
    obtain ⟨w1, w2, w3⟩ := h3 z1
    obtain ⟨a1, a2, a3⟩ := QM.app (t := t') (t' := sI t2 (P + 4) la (nI v)) (F := rg c c') (F' := rg c c2) (F2 := rg c' c2) (lo := 2400) (hi := q') (lo' := 2400) (hi' := q2) (y := x) (v := v) m6 m5 (fun p cs hc => hc.eq g.2.2.2.2.1 (fun k k1 k2 => by rw [sI_at (by omega)]; exact g.2.2.1.2 k k2))
      (fun z hz => ((g.sq (z := z) hz.2).1.trans ⟨fun k hk => sI_at (by omega), fun _ _ => rfl⟩).s)
      (fun w => by have := w.2; omega)
      (z3.fr (fun z hz => ⟨⟨fun k hk => sI_at (by omega), fun _ _ => rfl⟩, fun _ => sI_at (by have := hz.1; omega)⟩) (fun k _ _ => sI_at (by omega)) (Nat.le_refl _))
      z2 ⟨hv.1, hv.2.1⟩ (by rw [sI_at (by omega)]; exact hv.2.2) (fun z hz => ⟨hz.1, by have := hz.2; omega⟩) (fun z hz => ⟨by have := hz.1; omega, hz.2⟩) y us w2 w3
      (fun z hz hz2 => by
        rw [h5] at hz2
        rw [sI_at (fun w => hz2 (by rw [w.2]))]
        exact (g.sq (z := z) hz.2).2 (by simp))
      (fun z hz => by
        rw [h5] at hz
        injection hz with hz
        rw [← hz]
        exact sI_eq)
    exact ⟨w1, a2, a1⟩
  · cases us with
    | nil => cases h4
    | cons a r => exact h4
set_option maxHeartbeats 1000000 in
theorem m190 {strict : Bool} (hf : f ≤ 16) (ih : ∀ f0, f = f0 + 1 → P210 C M P b n (E + 8) f0) (h : PS t M P b n i q c (16 - f) L) (hi : i < n) (hc : c ≤ 2 * i) (h21 : tI t M 21 = 1) (kk : KBm M P b n (16 - f) t i q c L (bkQ b n f (orN b n f) strict i L) Post) : CalG C mtab (E + 10) 190 [svR (some M), svI (bI strict)] t Post := by
  have hn := h.hn
  have hP := h.2.2.1.1
  have hq := h.2.2.2.2.2.1
  obtain ⟨k1, k2⟩ := kk
  obtain ⟨S, hsp⟩ : ∃ S, S = bkQ b n f (orN b n f) strict i L := ⟨_, rfl⟩
  rw [← hsp] at k1 k2
  have hG0 : GO M P b n [] t i q c (sI t M 5 (nI (i + 1))) (i + 1) q c (16 - f) L := (GO.rfl' h).to (by omega) (by omega) (by omega)
  have slo := sk_lo (b := b) (n := n) (i := i + 1)
  have hsk := sk_le (b := b) (n := n) (i := i + 1) (by omega)
  refine cal190 (fun m l2 l3 t' => m = 4 * n + 9 ∧ strict = false ∧ l3 = bI (!(isBl (pk b n (i + 1)))) ∧ GO M P b n [] t i q c t' (sk b n (i + 1)) q c (16 - f) L)
    (fun m l2 l3 l4 t' => m = 4 * n + 8 ∧ strict = false ∧ ∃ j i' q' c' L' x u, l3 = bI (!(isBl (pk b n (i + 1))) && decide (pk b n j = 93) && isSel1 x) ∧ l4 = nI u ∧ i' = j ∧ seQ b n f (orN b n f) false (sk b n (i + 1)) L = .inl (j, L', x) ∧ LMs M P b n (16 - f) t i q c L 2 t' i' q' c' L' (qP x qN) u u [u] ∧ sk b n (i + 1) < i' ∧ c' ≤ c + 2 * (i' - sk b n (i + 1)) + 1)
    (fun m l2 l3 l4 l5 t' => strict = false ∧ ∃ g j q' c' L' y u la us s, m = n - j ∧ l3 = bI s ∧ l4 = nI u ∧ l5 = nI la ∧ sk b n j = j ∧ n < g + j ∧ LMs M P b n (16 - f) t i q c L 2 t' j q' c' L' y u la us ∧ (sk b n (i + 1) < j ∧ c' ≤ c + 2 * (j - sk b n (i + 1)) + 1) ∧ S = match slF b n f (orN b n f) g j L' y with
      | .inr e => .inr e
      | .inl (k, L'', y) => .inl (k, L'', y, s)) ?_ ?_ ?_ ?_
  · refine ⟨h.K, h.K, ?_⟩
    rw [h.at, nI_1]
    refine ⟨fun hst => ⟨h.K, h.K, ?_⟩, fun hst => ⟨h.K, ?_⟩⟩
    · have hst' := bI_0.mp hst
      refine mqB hG0 (fun hG1 => ⟨rfl, hG1.1.K, ?_⟩)
      rw [sI_sI] at hG1 ⊢
      refine ⟨fun z => absurd z ?_, fun _ => ⟨hG1.1.K, ?_⟩⟩
      · rw [sI_at (by omega), h21]; decide
      · rw [sI_eq, sI_eq]
        refine ⟨fun e => ⟨4 * n + 9, rfl, rfl, rfl, hst', ?_, hG1⟩, fun e => ⟨4 * n + 9, rfl, rfl, rfl, hst', ?_, hG1⟩⟩
        · have e1 : sk b n (i + 1) = i + 1 := (nI_eq (by omega) (by omega)).mp e
          have : isBl (pk b n (i + 1)) = false := by rw [← e1]; exact sk_stop _ _ rfl
          rw [this]; rfl
        · cases hx : isBl (pk b n (i + 1)) with
          | false => exact absurd (by rw [sk_no hx]) e
          | true => rfl
    · have hst' : strict = true := by
        cases strict with
        | true => rfl
        | false => exact absurd rfl hst
      subst hst'
      rw [bkQ, if_pos rfl] at hsp
      refine m189 (E := E) (strict := true) hf ih hG0.1 (by omega) ⟨fun j L' x e t2 i' q' c' u g1 g2 g3 g4 g5 g6 g7 => ?_, fun w p e t2 hF => k2 w p ?_ t2 (FQ.of hG0 hF)⟩
      · rw [e] at hsp
        have hsp : S = if true = true then (if pk b n j = 93 then .inl (j + 1, L', qP x qN, isSel1 x) else .inr (1, j)) else _ := hsp
        rw [if_pos rfl] at hsp
        have ej := g2.2.2.2 rfl
        subst ej
        have hG2 := hG0.trans g1 (fun z hz => by cases hz)
        refine ⟨hG2.1.K, mqN (by decide) hG2 (fun e93 hG3 => ⟨rfl, ?_⟩) (fun e93 t3 hF => k2 1 i' ?_ t3 hF)⟩
        · rw [if_pos e93] at hsp
          have hs1 : isSel1 x = true := isSel1_of ((seQ_k e).2.2.2 rfl) (seQ_k e).1
          rw [hs1] at hsp
          refine k1 (i' + 1) L' _ true hsp _ q' c' u [] hG3 (by omega) (fun z => ?_) ⟨g5.1, g5.2.1⟩ ?_ (by omega)
          · obtain ⟨z1, z2, z3⟩ := g3 rfl z
            refine ⟨z1, rfl, ?_⟩
            show QM _ P (M + 3) 2400 q' (.append x .nil) 2 (rg c c') [u]
            unfold QM
            rw [if_neg (by decide)]
            refine ⟨u, [], rfl, z2, ?_, ⟨rg c c', fun _ z => z, ⟨g5.1, g5.2.1⟩, (fun z hz => by cases hz), z3.fr (fun z hz => ⟨⟨fun k hk => sI_at (by omega), fun _ _ => rfl⟩, fun _ => sI_at (by omega)⟩) (fun k _ _ => sI_at (by omega)) (Nat.le_refl _)⟩, by unfold QM; rfl⟩
            rw [sI_at (by omega)]; exact g5.2.2
          · rw [sI_at (by omega), g7 rfl, sI_at (by omega), h21]; rfl
        · rw [if_neg e93] at hsp; exact hsp
      · rcases e with e | ⟨rfl, j, L', x, e, e2, e3, e4⟩
        · rw [e] at hsp; exact hsp
        · rw [e] at hsp
          have hsp : S = if true = true then (if pk b n j = 93 then .inl (j + 1, L', qP x qN, isSel1 x) else .inr (1, j)) else _ := hsp
          have ej := e3 rfl
          subst ej
          rw [if_pos rfl, if_neg (stk_no e4.1).2.1] at hsp
          exact hsp
  · rintro m l2 l3 t' ⟨rfl, rfl, rfl, hG⟩
    rw [bkQ, if_neg (by decide)] at hsp
    refine ⟨hG.1.K, m189 (E := E) (strict := false) hf ih hG.1 (by omega) ⟨fun j L' x e t2 i' q' c' u g1 g2 g3 g4 g5 g6 g7 => ?_, fun w p e t2 hF => k2 w p ?_ t2 (FQ.of hG hF)⟩⟩
    · have ej := g2.2.2.2 rfl
      have hG2 := hG.trans g1 (fun z hz => by cases hz)
      have h2 := hG2.1
      have hu : u < 2400 := by have := h2.2.2.2.2.2.2.2; omega
      have cu : (nI u).toNatClampNeg = u := nI_clamp (by omega)
      have vu : vp_in (nI u) 2400 := vin h2 hu
      have hL : LMs M P b n (16 - f) t i q c L 2 t2 i' q' c' L' (qP x qN) u u [u] := by
        refine ⟨hG2, by omega, fun z => ?_, rfl, rfl, g5.1, g5.2.1, g5.1, g5.2.1⟩
        obtain ⟨z1, z2, z3⟩ := g3 rfl z
        refine ⟨z1, rfl, ?_⟩
        show QM t2 P (M + 3) 2400 q' (.append x .nil) 2 (rg c c') [u]
        unfold QM
        rw [if_neg (by decide)]
        exact ⟨u, [], rfl, z2, g5.2.2, ⟨rg c c', fun _ z => z, ⟨g5.1, g5.2.1⟩, (fun z hz => by cases hz), z3⟩, by unfold QM; rfl⟩
      have out : ∀ l3 : Int32, l3 = bI (!(isBl (pk b n (i + 1))) && decide (pk b n j = 93) && isSel1 x) → ∃ k, k < 4 * n + 9 ∧ some M = some M ∧ bI false = bI false ∧ (k = 4 * n + 8 ∧ false = false ∧ ∃ j i' q' c' L' x u', l3 = bI (!(isBl (pk b n (i + 1))) && decide (pk b n j = 93) && isSel1 x) ∧ nI u = nI u' ∧ i' = j ∧ seQ b n f (orN b n f) false (sk b n (i + 1)) L = .inl (j, L', x) ∧ LMs M P b n (16 - f) t i q c L 2 t2 i' q' c' L' (qP x qN) u' u' [u'] ∧ sk b n (i + 1) < i' ∧ c' ≤ c + 2 * (i' - sk b n (i + 1)) + 1) := fun l3 hl => ⟨4 * n + 8, by omega, rfl, rfl, rfl, rfl, j, i', q', c', L', x, u, hl, rfl, ej, e, hL, by omega, by omega⟩
      have k1' := g4.1 rfl
      refine ⟨fun z => out _ ?_, fun z => ⟨h2.K, onS h2.r17 ⟨h2.k14, onS h2.a0.1 ⟨h2.a0.2.1, by rw [h2.a0.2.2]; exact vu, ?_⟩⟩⟩⟩
      · rw [bI_0.mp z]; rfl
      have hz : (!(isBl (pk b n (i + 1)))) = true := by
        cases hx : (!(isBl (pk b n (i + 1)))) with
        | true => rfl
        | false => rw [hx] at z; exact absurd rfl z
      rw [cu, k1']
      have tg5 : tgN x ≤ 5 := (seQ_k e).2.2.1
      have t93 : isSel1 x = true → CalG C mtab (E + 9) 157 [svR (some M), svI (93 : Int32)] t2 (aftV (fun v9 t10 => rI v9 (fun x14 => br (x14 = 0) (∃ k, k < 4 * n + 9 ∧ some M = some M ∧ bI false = bI false ∧ (k = 4 * n + 8 ∧ false = false ∧ ∃ j i' q' c' L' x u', (0 : Int32) = bI (!(isBl (pk b n (i + 1))) && decide (pk b n j = 93) && isSel1 x) ∧ nI u = nI u' ∧ i' = j ∧ seQ b n f (orN b n f) false (sk b n (i + 1)) L = .inl (j, L', x) ∧ LMs M P b n (16 - f) t i q c L 2 t10 i' q' c' L' (qP x qN) u' u' [u'] ∧ sk b n (i + 1) < i' ∧ c' ≤ c + 2 * (i' - sk b n (i + 1)) + 1)) (∃ k, k < 4 * n + 9 ∧ some M = some M ∧ bI false = bI false ∧ (k = 4 * n + 8 ∧ false = false ∧ ∃ j i' q' c' L' x u', (1 : Int32) = bI (!(isBl (pk b n (i + 1))) && decide (pk b n j = 93) && isSel1 x) ∧ nI u = nI u' ∧ i' = j ∧ seQ b n f (orN b n f) false (sk b n (i + 1)) L = .inl (j, L', x) ∧ LMs M P b n (16 - f) t i q c L 2 t10 i' q' c' L' (qP x qN) u' u' [u'] ∧ sk b n (i + 1) < i' ∧ c' ≤ c + 2 * (i' - sk b n (i + 1)) + 1)))) (fun k11 q12 t13 => Post (.inr (k11, q12)) t13)) := by
        intro hs1
        subst ej
        refine mqI h2 (fun e93 => ⟨fun z => absurd z (by decide), fun _ => out 1 ?_⟩) (fun e93 => ⟨fun _ => out 0 ?_, fun z => absurd rfl z⟩)
        · rw [hz, decide_eq_true e93, hs1]; rfl
        · rw [decide_eq_false e93]; simp [bI]
      refine ⟨fun e1 => ⟨h2.K, t93 ?_⟩, fun e1 => ⟨h2.K, onS h2.r17 ⟨h2.k14, onS h2.a0.1 ⟨h2.a0.2.1, by rw [h2.a0.2.2]; exact vu, ?_⟩⟩⟩⟩
      · exact isSel1_of (Or.inl ((nI_eq (b := 1) (by omega) (by decide)).mp e1)) (seQ_k e).1
      rw [k1']
      refine ⟨fun e3 => ⟨h2.K, t93 ?_⟩, fun e3 => out 0 ?_⟩
      · exact isSel1_of (Or.inr ((nI_eq (b := 3) (by omega) (by decide)).mp e3)) (seQ_k e).1
      · have : isSel1 x = false := by
          cases hx : isSel1 x with
          | false => rfl
          | true =>
            rcases isSel1_to hx with w | w
            · exact absurd (by rw [w]; rfl) e1
            · exact absurd (by rw [w]; rfl) e3
        rw [this]; simp [bI]
    · rcases e with e | ⟨rfl, j, L', x, e, e2, e3, e4⟩
      · rw [e] at hsp; exact hsp
      · rw [e] at hsp
        have hsp : S = match slF b n f (orN b n f) (n + 1) j L' (qP x qN) with
          | .inr e => .inr e
          | .inl (k, L'', y) => .inl (k, L'', y, !(isBl (pk b n (i + 1))) && decide (pk b n j = 93) && isSel1 x) := hsp
        rw [slF, ← e2, if_neg (stk_no e4.1).1, if_neg (stk_no e4.1).2.1] at hsp
        exact hsp
  · rintro m l2 l3 l4 t' ⟨rfl, rfl, j, i', q', c', L', x, u, rfl, rfl, rfl, e, hL, hb⟩
    rw [bkQ, if_neg (by decide), e] at hsp
    have hsp : S = match slF b n f (orN b n f) (n + 1) i' L' (qP x qN) with
      | .inr e => .inr e
      | .inl (k, L'', y) => .inl (k, L'', y, !(isBl (pk b n (i + 1))) && decide (pk b n i' = 93) && isSel1 x) := hsp
    have slo2 := sk_lo (b := b) (n := n) (i := i')
    have hL1 := hL.1
    have hi1 := hL.2.1
    refine ⟨hL1.1.K, mqB hL1 (fun hG1 => ⟨rfl, n - sk b n i', by omega, rfl, rfl, rfl, n + 1, sk b n i', q', c', L', qP x qN, u, u, [u], _, rfl, rfl, rfl, rfl, sk_sk, by omega, ⟨hG1, by omega, fun z => ?_, hL.2.2.2⟩, ⟨by omega, by omega⟩, ?_⟩)⟩
    · obtain ⟨z1, z2, z3⟩ := hL.2.2.1 z
      exact ⟨z1, z2, z3.fr (fun z hz => ⟨⟨fun k hk => sI_at (by omega), fun _ _ => rfl⟩, fun _ => sI_at (by omega)⟩) (fun k _ _ => sI_at (by omega)) (Nat.le_refl _)⟩
    · rw [slF_sk]; exact hsp
  · rintro m l2 l3 l4 l5 t' ⟨rfl, g, j, q', c', L', y, u, la, us, s, rfl, rfl, rfl, rfl, hsj, hg, hL, hb, hS⟩
    have hG := hL.1
    have h' := hG.1
    have hjn := h'.2.1
    have hij := hL.2.1
    have hpc := h'.2.2.2.2.2.2.2
    have hla := hL.2.2.2.2.2.2.2.2
    have hla0 := hL.2.2.2.2.2.2.2.1
    obtain ⟨g0, rfl⟩ : ∃ g0, g = g0 + 1 := ⟨g - 1, by omega⟩
    rw [slF, hsj] at hS
    have cu : (nI la).toNatClampNeg = la := nI_clamp (by omega)
    have vu : vp_in (nI la) 2400 := vin h' (by omega)
    refine ⟨h'.K, mqI h' (fun e44 => ⟨fun z => absurd z (by decide), fun _ => ⟨h'.K, h'.K, h'.K, ?_⟩⟩) (fun e44 => ⟨fun _ => ⟨h'.K, mqN (by decide) hG (fun e93 hG1 => ⟨rfl, hG1.1.K, by cases s <;> simp [bI], ?_⟩) (fun e93 t2 hF => k2 1 j ?_ t2 hF)⟩, fun z => absurd rfl z⟩)⟩
    · rw [if_pos e44] at hS
      have hjlt := (pk_nn e44 (by decide)).1
      rw [h'.at, nI_1]
      have slo2 := sk_lo (b := b) (n := n) (i := j + 1)
      have hG1 : GO M P b n [] t' j q' c' (sI t' M 5 (nI (j + 1))) (j + 1) q' c' (16 - f) L' := (GO.rfl' h').to (by omega) (by omega) (by have := h'.2.2.2.2.2.1; omega)
      refine mqB hG1 (fun hG2 => ⟨rfl, hG2.1.K, ?_⟩)
      rw [sI_sI] at hG2 ⊢
      have hsk2 := hG2.1.2.1
      refine onS hG2.1.r17 ⟨hG2.1.k14, hG2.1.K, m189 (E := E) (strict := false) hf ih hG2.1 (by omega) ⟨fun j2 L2 x e t2 i2 q2 c2 v g1 g2 g3 g4 g5 g6 g7 => onS hG2.1.a3.1 ?_, fun w p e t2 hF => k2 w p ?_ t2 (FQ.of (hG.trans hG2 (fun z hz => by cases hz)) hF)⟩⟩
      · rw [e] at hS
        have ej := g2.2.2.2 rfl
        subst ej
        have h2 := g1.1
        have hN := hL.next (x := x) (by decide) (by decide) (hG2.trans g1 (fun z hz => by cases hz)) (fun z => g3 rfl z) g5 (by omega)
        refine ⟨h2.a3.2.1, by rw [h2.a3.2.2]; exact vu, h2.K, onS h2.r17 ⟨h2.k14, onS h2.a3.1 ⟨h2.a3.2.1, ?_, h2.K, ?_⟩⟩⟩
        · show vp_in (nI la) (tL t2 (P + 4)); rw [h2.a3.2.2]; exact vu
        rw [cu, sI_eq]
        have slo3 := sk_lo (b := b) (n := n) (i := i2)
        refine mqB hN.1 (fun hG5 => ⟨rfl, n - sk b n i2, by omega, rfl, rfl, rfl, g0, sk b n i2, q2, c2, L2, qApp y x, u, v, us ++ [v], s, rfl, rfl, rfl, rfl, sk_sk, by omega, ⟨hG5, by omega, fun z => ?_, hN.2.2.2⟩, ⟨by omega, by omega⟩, ?_⟩)
        · obtain ⟨z1, z2, z3⟩ := hN.2.2.1 z
          exact ⟨z1, z2, z3.fr (fun z hz => ⟨⟨fun k hk => sI_at (by omega), fun _ _ => rfl⟩, fun _ => sI_at (by omega)⟩) (fun k _ _ => sI_at (by omega)) (Nat.le_refl _)⟩
        · obtain ⟨g1, rfl⟩ : ∃ g1, g0 = g1 + 1 := ⟨g0 - 1, by omega⟩
          rw [slF_sk]; exact hS
      · rcases e with e | ⟨rfl, j2, L2, x, e, e2, e3, e4⟩
        · rw [e] at hS; exact hS
        · rw [e] at hS
          obtain ⟨g1, rfl⟩ : ∃ g1, g0 = g1 + 1 := ⟨g0 - 1, by omega⟩
          have hS : S = match slF b n f (orN b n f) (g1 + 1) j2 L2 (qApp y x) with
            | .inr e => .inr e
            | .inl (k, L'', y) => .inl (k, L'', y, s) := hS
          rw [slF, ← e2, if_neg (stk_no e4.1).1, if_neg (stk_no e4.1).2.1] at hS
          exact hS
    · rw [if_neg e44, if_pos e93] at hS
      have hu := hL.2.2.2.1
      cases us with
      | nil => cases hu
      | cons a r =>
        injection hu with hu
        subst hu
        have ha := hL.2.2.2.2.2
        refine k1 (j + 1) L' y s hS _ q' c' a r (hG1.I (Or.inr (Or.inr ⟨rfl, Or.inl rfl⟩))) (by omega) (fun z => ?_) ⟨ha.1, ha.2.1⟩ sI_eq (by omega)
        obtain ⟨z1, z2, z3⟩ := hL.2.2.1 z
        refine ⟨z1, z2, z3.fr (fun z hz => ⟨⟨fun k hk => ?_, fun _ _ => rfl⟩, fun _ => ?_⟩) (fun k _ _ => ?_) (Nat.le_refl _)⟩
        all_goals rw [sI_at (by omega), sI_at (by omega)]
    · rw [if_neg e44, if_neg e93] at hS; exact hS
end MQ6
