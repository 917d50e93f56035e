/-! selector, OF THE REFERENCE -/
def P210 (C : Cx) (M P : Nat) (b : By) (n D f : Nat) : Prop := ∀ (Post : OutT → Ht → Prop) (t : Ht) (i q c : Nat) (L : LT), PS t M P b n i q c (16 - f) L → c + 2 ≤ 2 * i → KQ M P b n (16 - f) [] 3 0 2 true false true t i q c L ((leQ b n f).1 i L) Post → CalG C mtab D 210 [svR (some M), svI (-1 : Int32)] t Post
section MQ4
variable {C : Cx} {d E f : Nat} {Post : OutT → Ht → Prop} {t t1 t' : Ht} {M P : Nat} {b : By} {n i q c o i' q' c' o' : Nat} {L L' : LT} {X : List Nat}
theorem QM.fr {ch : Nat} {x : QF} {m : Nat} {F : Nat → Prop} {as : List Nat} (h : QM t P ch 2400 q x m F as) (hs : ∀ z, F z → SQa t t' P z ∧ ((isTg x = true → m ≠ 5 → z ∉ as) → tI t' (P + 4) z = tI t (P + 4) z)) (hch : ∀ k, 2400 ≤ k → k < q → tI t' ch k = tI t ch k) (hq : q ≤ q') : QM t' P ch 2400 q' x m F as :=
  QM.map (sh := 0) (fun _ _ hc => ⟨hc.eq hq hch, Nat.zero_le _⟩) _ _ _ _ h (fun z hz => (hs z hz).1.s) (fun z hz => (hs z hz).2)
theorem FlQ.map {m m' : Nat} {ex : Bool} {sp sp' : Qs} {w p : Nat} (h : FlQ b n m ex sp w p) (hm : m' = 7 → m = 7) (h1 : ∀ j L' x, sp = .inl (j, L', x) → ∃ x', sp' = .inl (j, L', x')) (h2 : ∀ e, sp = .inr e → sp' = .inr e) : FlQ b n m' ex sp' w p := by
  rcases h with h | ⟨rfl, j, L', x, h3, h4⟩
  · exact Or.inl (h2 _ h)
  · obtain ⟨x', e⟩ := h1 j L' x h3
    exact Or.inr ⟨rfl, j, L', x', e, h4.1, h4.2.1, h4.2.2.1, fun z => h4.2.2.2 (hm z)⟩
theorem SQa.rfl' {z : Nat} : SQa t t P z := ⟨fun _ _ => rfl, fun _ _ => rfl⟩
theorem SQa.trans {z : Nat} {t2 : Ht} (h : SQa t t' P z) (g : SQa t' t2 P z) : SQa t t2 P z := ⟨fun k hk => (g.1 k hk).trans (h.1 k hk), fun k hk => (g.2 k hk).trans (h.2 k hk)⟩
/-- one number of another part, or of the object, is written -/
theorem SQa.w {a x k : Nat} {v : Int32} (h : x < P + 1 ∨ P + 5 < x ∨ k ≠ a) : SQa t (sI t x k v) P a ∧ tI (sI t x k v) (P + 4) a = tI t (P + 4) a := ⟨⟨fun j hj => sI_at (by omega), fun _ _ => rfl⟩, sI_at (by omega)⟩
/-- a string as a name -/
theorem mqName {qt : Int32} {ks : Bool} (hqt : qt = 34 ∨ qt = 39) (h : PS t M P b n i q c o L) (hc : c + 1 ≤ 2 * i) (hpk : pk b n i = qt) {sp : Qs} (hsp : sp = match stS b n (pk b n i) (i + 1) with
    | .inr p => .inr (1, p)
    | .inl (cs, j) => .inl (j, L, qNam cs)) (kk : KQ M P b n o [] 2 0 1 true ks true t i q c L sp Post) : CalG C mtab (d + 7) 169 [svR (some M)] t (aftV (fun v7 t8 => rI v7 (fun x12 => tK t8 M = 17 ∧ CalG C mtab (d + 7) 187 [svR (some M), svI x12] t8 (aftV (fun v13 t14 => rI v13 (fun x18 => Post (.inl (some (svI x18))) t14)) (fun k15 q16 t17 => Post (.inr (k15, q16)) t17)))) (fun k9 q10 t11 => Post (.inr (k9, q10)) t11)) := by
  obtain ⟨k1, k2⟩ := kk
  have hn := h.hn
  have hq := h.2.2.2.2.2.1
  have hb := h.1.1.2.2.2.2.2.2.2.2.2.2.1
  have hlt : i < n := (pk_nn hpk (by rcases hqt with rfl | rfl <;> decide)).1
  rw [hpk] at hsp
  refine m169 hqt h.1 hlt hpk (by omega) (fun cs j es t2 hsm => ?_) (fun z es t2 hbm => ?_)
  · rw [es] at hsp
    obtain ⟨s1, s2, s3, s4⟩ := stS_ok hb hn (by rcases hqt with rfl | rfl <;> decide) es
    obtain ⟨x1, x2, x3, x4⟩ := hsm
    have hG : GO M P b n [] t i q c t2 j (q + cs.length) c o L := (GO.rfl' h).x x1 x2 x3 (by omega) s2 (by omega) (by omega)
    refine ⟨hG.1.K, m187 (cs := cs) (p := q) hG.1 (by omega) rfl (fun t3 g1 g2 g3 => ?_)⟩
    refine k1 j L _ hsp t3 j _ (c + 1) c (hG.trans g1 (fun z hz => by cases hz)) ⟨by omega, Nat.le_refl _, rfl, fun _ => rfl⟩ (fun _ z => ⟨z, rfl, ?_⟩) ⟨fun _ => g2.1, fun z => by omega⟩ ⟨Nat.le_refl _, by omega, g2.2.2.2⟩ (by omega) (fun _ => (g3 21).trans (x1.2.2.2.2.2.2.1 M 21 (by omega) (by omega) (by omega)))
    refine QM.mk (m := 2) (k := 1) (us := []) (F1 := fun _ => False) (by decide) (by decide) (by decide) ⟨Nat.le_refl _, by omega⟩ (fun _ z => z.elim) (fun z => z) ?_ (Or.inl rfl)
    unfold HM
    rw [if_neg (by decide), if_pos rfl, if_pos rfl, unC_qC]
    refine ⟨g2.1, q, g2.2.1, g2.2.2.1, ⟨by omega, Nat.le_refl _, fun k hk => ?_⟩, s4⟩
    rw [g1.2.2.1.2 (q + k) (by omega)]
    exact x4 k hk
  · rw [es] at hsp
    exact k2 1 z (Or.inl hsp) t2 (FQ.bm hbm hq.1)
set_option maxHeartbeats 1000000 in
theorem m189 {strict : Bool} (hf : f ≤ 16) (ih : ∀ f0, f = f0 + 1 → P210 C M P b n (E + 8) f0) (h : PS t M P b n i q c (16 - f) L) (hc : c + 1 ≤ 2 * i) (kk : KQ M P b n (16 - f) [] 2 0 1 true strict true t i q c L (seQ b n f (orN b n f) strict i L) Post) : CalG C mtab (E + 9) 189 [svR (some M), svI (bI strict)] t Post := by
  have hn := h.hn
  have hin := h.2.1
  have hP := h.2.2.1.1
  have hq := h.2.2.2.2.2.1
  have cl : (nI c).toNatClampNeg = c := nI_clamp (by omega)
  have kk0 := kk
  obtain ⟨k1, k2⟩ := kk
  have hstr : pk b n i = 34 ∨ pk b n i = 39 → seQ b n f (orN b n f) strict i L = match stS b n (pk b n i) (i + 1) with
    | .inr p => .inr (1, p)
    | .inl (cs, j) => .inl (j, L, qNam cs) := fun e => by
    unfold seQ
    rw [if_pos (show atStr b n i = true by unfold atStr; rcases e with e | e <;> simp [e])]
    rfl
  refine cal189 ⟨h.K, mqI h (fun e34 => ⟨fun z => absurd z (by decide), fun _ => ⟨h.K, mqName (Or.inl rfl) h hc e34 (hstr (Or.inl e34)) kk0⟩⟩) (fun e34 => ⟨fun _ => ⟨h.K, mqI h (fun e39 => ⟨fun z => absurd z (by decide), fun _ => ⟨h.K, mqName (Or.inr rfl) h hc e39 (hstr (Or.inr e39)) kk0⟩⟩) (fun e39 => ⟨fun _ => ⟨h.K, ?_⟩, fun z => absurd rfl z⟩)⟩, fun z => absurd rfl z⟩)⟩
  have hns : ¬ atStr b n i = true := by unfold atStr; simp [e34, e39]
  obtain ⟨S, hsp⟩ : ∃ S, S = seQ b n f (orN b n f) strict i L := ⟨_, rfl⟩
  rw [← hsp] at k1 k2
  rw [seQ, if_neg hns] at hsp
  refine m186 h ?_
  cases hai : atInt b n i with
  | true =>
    refine ⟨fun z => absurd z (by decide), fun _ => ⟨h.K, ?_⟩⟩
    rw [hai, if_pos rfl] at hsp
    have hlt : i < n := by
      rcases Nat.lt_or_ge i n with w | w
      · exact w
      · unfold atInt dgt at hai
        rw [pkO w] at hai
        simp at hai
        omega
    have v : vp_in (nI c) 2400 := vin h (by omega)
    refine m181 h (by omega) (fun t2 g1 g2 g3 => ⟨g1.1.K, onS g1.1.r17 ⟨g1.1.k14, g1.1.K, m185 g1.1 (fun j L2 m N e2 hij t3 r1 r2 r3 => onS g1.1.a5.1 ?_) (fun w pp e2 t3 hF => ?_)⟩⟩)
    · rw [e2] at hsp
      have h3 := r1.1
      refine ⟨h3.a5.2.1, by rw [h3.a5.2.2]; exact v, h3.K, onS h3.r17 ⟨h3.k14, onS h3.a4.1 ⟨h3.a4.2.1, ?_, ?_⟩⟩⟩
      · show vp_in (nI c) (tL t3 (P + 5)); rw [h3.a4.2.2]; exact v
      rw [cl]
      have hG4 : GO M P b n [] t i q c (sI (sJ t3 (P + 6) c (tJ t3 M 8)) (P + 5) c 1) j q (c + 1) (16 - f) L2 := ((g1.trans r1 (fun z hz => by cases hz)).J (by omega) (Nat.le_refl _)).I (Or.inl (by omega))
      have sq := r1.sq (z := c) (by omega)
      have e1 : tI (sI (sJ t3 (P + 6) c (tJ t3 M 8)) (P + 5) c 1) (P + 1) c = 3 := by rw [sI_at (by omega)]; exact (sq.1.1 1 (by omega)).trans g2.1
      have e5 : tI (sI (sJ t3 (P + 6) c (tJ t3 M 8)) (P + 5) c 1) (P + 5) c = 1 := sI_eq
      have e6 : tJ (sI (sJ t3 (P + 6) c (tJ t3 M 8)) (P + 5) c 1) (P + 6) c = tJ t3 M 8 := sJ_eq
      have e4 : tI (sI (sJ t3 (P + 6) c (tJ t3 M 8)) (P + 5) c 1) (P + 4) c = -1 := by rw [sI_at (by omega)]; exact (sq.2 (by simp)).trans g2.2.2.2.1
      have e21 : tI (sI (sJ t3 (P + 6) c (tJ t3 M 8)) (P + 5) c 1) M 21 = tI t M 21 := by rw [sI_at (by omega)]; exact r3.trans (g3 21)
      revert hG4 e1 e5 e6 e4 e21
      generalize sI (sJ t3 (P + 6) c (tJ t3 M 8)) (P + 5) c 1 = t4
      intro hG4 e1 e5 e6 e4 e21
      have done : ∀ (t5 : Ht), GO M P b n [] t i q c t5 j q (c + 1) (16 - f) L2 → tI t5 (P + 1) c = 3 → tJ t5 (P + 6) c = tJ t3 M 8 → tI t5 (P + 4) c = -1 → tI t5 M 21 = tI t M 21 → S = .inl (j, L2, qIdx m N) → Post (.inl (some (svI (nI c)))) t5 := by
        intro t5 hG5 a1 a6 a4 a21 hs
        refine k1 j L2 _ hs t5 j q (c + 1) c hG5 ⟨hij, Nat.le_refl _, rfl, fun _ => rfl⟩ (fun _ z => ⟨(r2 z).1, rfl, ?_⟩) ⟨fun _ => a1, fun z => by omega⟩ ⟨Nat.le_refl _, by omega, a4⟩ (by omega) (fun _ => a21)
        refine QM.mk (m := 2) (k := 3) (us := []) (F1 := fun _ => False) (by decide) (by decide) (by decide) ⟨Nat.le_refl _, by omega⟩ (fun _ z => z.elim) (fun z => z) ?_ (Or.inl rfl)
        unfold HM
        rw [if_neg (by decide), if_pos rfl, if_neg (by decide), if_neg (by decide), if_pos rfl, unI_qI]
        exact ⟨a1, a6.trans (r2 z).2⟩
      refine ⟨fun hst => ⟨hG4.1.K, hG4.1.K, ?_⟩, fun hst => ?_⟩
      · have hst' := bI_0.mp hst
        subst hst'
        refine mqB hG4 (fun hG5 => ⟨rfl, hG5.1.K, mqI hG5.1 (fun e58 => ⟨fun z => absurd z (by decide), fun _ => ⟨hG5.1.K, ?_⟩⟩) (fun e58 => ⟨fun _ => ⟨hG5.1.K, ?_⟩, fun z => absurd rfl z⟩)⟩)
        · have hs' : S = slQ b n (some (m, N)) (sk b n j) L2 := hsp.trans (if_pos ⟨rfl, e58⟩)
          have w5 := fun (a : Nat) => SQa.w (t := t4) (P := P) (x := M) (k := 5) (a := a) (v := nI (sk b n j)) (Or.inl (by omega))
          refine m188 (p := some (m, N)) (d := E + 2) hG5 (by omega) e58 (fun z => (r2 z).1) ?_ (fun z m' N' e => ?_) ?_ ?_
          · exact ((w5 c).1.1 5 (by omega)).trans e5
          · injection e with e
            injection e with e7 e8
            subst e7 e8
            exact e6.trans (r2 z).2
          · exact (w5 c).2.trans e4
          · rw [← hs']
            exact ⟨fun j L' x a b c d e f g1 g2 g3 g4 g5 g6 _ => k1 j L' x a b c d e f g1 g2 g3 g4 g5 g6 (fun z => by cases z), k2⟩
        · rw [hG4.1.at, sI_sI]
          have hs' : S = .inl (j, L2, qIdx m N) := hsp.trans (if_neg (fun w => e58 w.2))
          refine done _ (hG4.to (by omega) hG4.1.2.1 hG4.1.2.2.2.2.2.1.2) ?_ e6 ?_ ?_ hs'
          · rw [sI_at (by omega)]; exact e1
          · rw [sI_at (by omega)]; exact e4
          · rw [sI_at (by omega)]; exact e21
      · have hst' : strict = true := by
          cases strict with
          | true => rfl
          | false => exact absurd rfl hst
        subst hst'
        exact done t4 hG4 e1 e6 e4 e21 (hsp.trans (if_neg (fun w => by cases w.1)))
    · refine k2 w pp ?_ t3 (FQ.of g1 hF)
      rcases e2 with e2 | ⟨rfl, L2, m, N, e2, e3⟩
      · rw [e2] at hsp; exact Or.inl hsp
      · rw [e2] at hsp
        obtain ⟨d1, d2, d3⟩ := dgt_sk e3
        refine Or.inr ⟨rfl, pp, L2, qIdx m N, hsp.trans (if_neg (fun w => ?_)), d1.symm, fun _ => rfl, Or.inl e3, fun _ => e3⟩
        have := w.2
        rw [d1] at this
        exact d3 58 (by omega) (by omega) this
  | false =>
    refine ⟨fun _ => ?_, fun z => absurd rfl z⟩
    rw [hai, if_neg (by decide)] at hsp
    refine ⟨fun hst => ?_, fun hst => ?_⟩
    · have hst' := bI_0.mp hst
      subst hst'
      rw [if_neg (by decide)] at hsp
      refine ⟨h.K, mqI h (fun e58 => ⟨fun z => absurd z (by decide), fun _ => ⟨h.K, ?_⟩⟩) (fun e58 => ⟨fun _ => ⟨h.K, mqI h (fun e42 => ⟨fun z => absurd z (by decide), fun _ => ⟨h.K, h.K, h.K, Or.inl rfl, h.K, ?_⟩⟩) (fun e42 => ⟨fun _ => ⟨h.K, mqI h (fun e63 => ⟨fun z => absurd z (by decide), fun _ => ⟨h.K, ?_⟩⟩) (fun e63 => ⟨fun _ => ⟨h.K, mqF (GO.rfl' (X := []) h) (fun t2 hF => k2 1 i (Or.inl ?_) t2 hF)⟩, fun z => absurd rfl z⟩)⟩, fun z => absurd rfl z⟩)⟩, fun z => absurd rfl z⟩)⟩
      · rw [if_pos e58] at hsp
        have hlt := (pk_nn e58 (by decide)).1
        refine m181 h (by omega) (fun t2 g1 g2 g3 => ⟨g1.1.K, m188 (p := none) (d := E + 2) g1 (by omega) e58 (fun z => z) g2.2.2.2.2 (fun _ m N e => by cases e) g2.2.2.2.1 ?_⟩)
        rw [← hsp]
        exact ⟨fun j L' x a b c d e f g1 g2 g3 g4 g5 g6 _ => k1 j L' x a b c d e f g1 g2 g3 g4 g5 g6 (fun z => by cases z), k2⟩
      · have hlt := (pk_nn e42 (by decide)).1
        rw [if_neg e58, if_neg (by rw [e42]; decide), if_pos e42] at hsp
        rw [h.at, nI_1]
        have hG1 : GO M P b n [] t i q c (sI (sI t M 5 (nI (i + 1))) M 21 0) (i + 1) q c (16 - f) L := ((GO.rfl' h).to (j := i + 1) (by omega) (by omega) (by omega)).I (Or.inr (Or.inr ⟨rfl, Or.inl rfl⟩))
        refine m181 hG1.1 (by omega) (fun t2 g1 g2 g3 => ?_)
        refine k1 (i + 1) L _ hsp t2 (i + 1) q (c + 1) c (hG1.trans g1 (fun z hz => by cases hz)) ⟨by omega, Nat.le_refl _, rfl, fun _ => rfl⟩ (fun _ z => ⟨z, rfl, ?_⟩) ⟨fun _ => g2.1, fun z => by omega⟩ ⟨Nat.le_refl _, by omega, g2.2.2.2.1⟩ (by omega) (fun z => by cases z)
        refine QM.mk (m := 2) (k := 2) (us := []) (F1 := fun _ => False) (by decide) (by decide) (by decide) ⟨Nat.le_refl _, by omega⟩ (fun _ z => z.elim) (fun z => z) ?_ (Or.inl rfl)
        unfold HM
        rw [if_neg (by decide), if_pos rfl, if_neg (by decide), if_pos rfl]
        exact ⟨g2.1, trivial⟩
      · have hlt := (pk_nn e63 (by decide)).1
        rw [if_neg e58, if_pos e63] at hsp
        refine m183 h (fun ho hG1 => ⟨rfl, hG1.1.K, ?_⟩) (fun ho t2 hF => k2 4 i (Or.inl ?_) t2 hF)
        · obtain ⟨f0, rfl⟩ : ∃ f0, f = f0 + 1 := ⟨f - 1, by omega⟩
          rw [if_neg (by omega)] at hsp
          have eo : 16 - (f0 + 1) + 1 = 16 - f0 := by omega
          rw [eo] at hG1 ⊢
          refine m181 hG1.1 (by omega) (fun t2 g1 g2 g3 => ⟨g1.1.K, g1.1.K, g1.1.K, ?_⟩)
          have hG2 := hG1.trans g1 (fun z hz => by cases hz)
          rw [g1.1.at, nI_1]
          have slo := sk_lo (b := b) (n := n) (i := i + 1)
          refine mqB (hG2.to (j := i + 1) (by omega) (by omega) (by omega)) (fun hG3 => ⟨rfl, hG3.1.K, ?_⟩)
          rw [sI_sI] at hG3 ⊢
          have n3 : NPt (sI t2 M 5 (nI (sk b n (i + 1)))) P c 5 := by
            obtain ⟨z1, z2, z3, z4, z5⟩ := g2
            exact ⟨(sI_at (by omega)).trans z1, (sI_at (by omega)).trans z2, (sI_at (by omega)).trans z3, (sI_at (by omega)).trans z4, (sI_at (by omega)).trans z5⟩
          revert hG3 n3
          generalize sI t2 M 5 (nI (sk b n (i + 1))) = t3
          intro hG3 n3
          refine onS hG3.1.r17 ⟨hG3.1.k14, hG3.1.K, ih f0 rfl _ t3 _ q (c + 1) L hG3.1 (by omega) ⟨fun j L' x e t4 i' q' c' u g1 g2 g3 g4 g5 g6 g7 => onS hG3.1.a1.1 ?_, fun w p e t4 hF => k2 w p ?_ t4 (FQ.of hG3 hF)⟩⟩
          · have h4 := g1.1
            have e' : orN b n (f0 + 1) (sk b n (i + 1)) L = .inl (j, L', x) := e
            rw [e'] at hsp
            refine ⟨h4.a1.2.1, by rw [h4.a1.2.2]; exact vin h (by omega), h4.K, h4.K, ?_⟩
            rw [cl, sI_at (by omega), h4.2.2.2.1.2, nI_o (by omega)]
            have sq := g1.sq (z := c) (by omega)
            have hG5 : GO M P b n [] t i q c (sI (sI t4 (P + 2) c (nI u)) M 18 (nI (16 - (f0 + 1)))) i' q' c' (16 - (f0 + 1)) L' := ((hG3.trans g1 (fun z hz => by cases hz)).I (Or.inl (by omega))).op (by omega)
            have e1 : tI (sI (sI t4 (P + 2) c (nI u)) M 18 (nI (16 - (f0 + 1)))) (P + 1) c = 5 := by rw [sI_at (by omega), sI_at (by omega)]; exact (sq.1.1 1 (by omega)).trans n3.1
            have e2 : tI (sI (sI t4 (P + 2) c (nI u)) M 18 (nI (16 - (f0 + 1)))) (P + 2) c = nI u := by rw [sI_at (by omega)]; exact sI_eq
            have e4 : tI (sI (sI t4 (P + 2) c (nI u)) M 18 (nI (16 - (f0 + 1)))) (P + 4) c = -1 := by rw [sI_at (by omega), sI_at (by omega)]; exact (sq.2 (by simp)).trans n3.2.2.2.1
            have hch : ∀ k, tI (sI (sI t4 (P + 2) c (nI u)) M 18 (nI (16 - (f0 + 1)))) (M + 3) k = tI t4 (M + 3) k := fun k => by rw [sI_at (by omega), sI_at (by omega)]
            have hfr : ∀ z, rg (c + 1) c' z → SQa t4 (sI (sI t4 (P + 2) c (nI u)) M 18 (nI (16 - (f0 + 1)))) P z ∧ tI (sI (sI t4 (P + 2) c (nI u)) M 18 (nI (16 - (f0 + 1)))) (P + 4) z = tI t4 (P + 4) z := fun z hz => by
              have w1 := SQa.w (t := t4) (P := P) (x := P + 2) (k := c) (a := z) (v := nI u) (Or.inr (Or.inr (by have := hz.1; omega)))
              have w2 := SQa.w (t := sI t4 (P + 2) c (nI u)) (P := P) (x := M) (k := 18) (a := z) (v := nI (16 - (f0 + 1))) (Or.inl (by omega))
              exact ⟨w1.1.trans w2.1, w2.2.trans w1.2⟩
            revert hG5 e1 e2 e4 hch hfr
            generalize sI (sI t4 (P + 2) c (nI u)) M 18 (nI (16 - (f0 + 1))) = t5
            intro hG5 e1 e2 e4 hch hfr
            refine k1 j L' _ hsp t5 i' q' c' c hG5 ⟨by omega, g2.2⟩ (fun _ z => ?_) ⟨fun _ => e1, fun z => by omega⟩ ⟨Nat.le_refl _, by have := g1.2.2.2.2.2; omega, e4⟩ (by omega) (fun z => by cases z)
            obtain ⟨z1, z2, z3⟩ := g3 rfl z
            refine ⟨z1, rfl, QM.mk (m := 2) (k := 5) (us := [u]) (F1 := rg (c + 1) c') (by decide) (by decide) (by decide) ⟨Nat.le_refl _, by have := g1.2.2.2.2.2; omega⟩ (fun z hz => ⟨by have := hz.1; omega, hz.2⟩) (fun z => by have := z.1; omega) ?_ (Or.inr (z3.fr (fun z hz => ⟨(hfr z hz).1, fun _ => (hfr z hz).2⟩) (fun k _ _ => hch k) (Nat.le_refl _)))⟩
            unfold HM
            rw [if_neg (by decide), if_pos rfl, if_neg (by decide), if_neg (by decide), if_neg (by decide), if_neg (by decide), if_pos rfl]
            exact ⟨e1, z2, u, e2, rfl⟩
          · refine e.map (fun z => by omega) (fun j L' x e => ⟨qFil x, ?_⟩) (fun e0 e => ?_)
            · have e' : orN b n (f0 + 1) (sk b n (i + 1)) L = .inl (j, L', x) := e
              rw [e'] at hsp; exact hsp
            · have e' : orN b n (f0 + 1) (sk b n (i + 1)) L = .inr e0 := e
              rw [e'] at hsp; exact hsp
        · rw [if_pos (by omega)] at hsp; exact hsp
      · rw [if_neg e58, if_neg e63, if_neg e42] at hsp; exact hsp
    · have hst' : strict = true := by
        cases strict with
        | true => rfl
        | false => exact absurd rfl hst
      subst hst'
      rw [if_pos rfl] at hsp
      exact ⟨h.K, mqF (GO.rfl' (X := []) h) (fun t2 hF => k2 1 i (Or.inl hsp) t2 hF)⟩
end MQ4
