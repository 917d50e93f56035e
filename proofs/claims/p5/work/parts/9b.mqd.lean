/-! comparisons and tests, OF THE REFERENCE -/
/-- an operand in hand -/
def OPm (M P : Nat) (b : By) (n o : Nat) (t0 : Ht) (i q c : Nat) (L0 : LT) (t : Ht) (p q1 c1 : Nat) (L1 : LT) (x : QF) (a : Nat) : Prop :=
  GO M P b n [] t0 i q c t p q1 c1 o L1 ∧ (c ≤ a ∧ a < c1 ∧ tI t (P + 4) a = -1) ∧ KDm 7 t P a x ∧ OTk x ∧ (L1.1 = 0 → L0.1 = 0 ∧ isTg x = true ∧ QM t P (M + 3) 2400 q1 x 7 (rg c c1) [a]) ∧ i < p ∧ c1 + 1 ≤ c + 2 * (p - i)
theorem OTk_k {x : QF} (h : OTk x) : (isLit x = true ∧ isFun x = false ∧ 20 ≤ tgN x ∧ tgN x ≤ 24) ∨ (isLit x = false ∧ isFun x = true ∧ (tgN x = 26 ∨ tgN x = 27)) ∨ ∃ (p : Nat) (y : QF), x = .tag 25 (.tag p y) := by
  rcases h with h | h | h
  · left
    cases x with
    | tag k z =>
      have h' : (k == 20 || k == 21 || k == 22 || k == 23 || k == 24) = true := h
      simp at h'
      obtain (((rfl | rfl) | rfl) | rfl) | rfl := h'
      · exact ⟨rfl, rfl, (by show 20 ≤ 20; omega), (by show 20 ≤ 24; omega)⟩
      · exact ⟨rfl, rfl, (by show 20 ≤ 21; omega), (by show 21 ≤ 24; omega)⟩
      · exact ⟨rfl, rfl, (by show 20 ≤ 22; omega), (by show 22 ≤ 24; omega)⟩
      · exact ⟨rfl, rfl, (by show 20 ≤ 23; omega), (by show 23 ≤ 24; omega)⟩
      · exact ⟨rfl, rfl, (by show 20 ≤ 24; omega), (by show 24 ≤ 24; omega)⟩
    | _ => cases h
  · right; left
    cases x with
    | tag k z =>
      have h' : (k == 26 || k == 27) = true := h
      simp at h'
      obtain rfl | rfl := h'
      · exact ⟨rfl, rfl, Or.inl rfl⟩
      · exact ⟨rfl, rfl, Or.inr rfl⟩
    | _ => cases h
  · exact Or.inr (Or.inr h)
section MQD
variable {C : Cx} {d E f f0 : Nat} {Post : OutT → Ht → Prop} {t t0 t1 t' : Ht} {M P : Nat} {b : By} {n i q c o i' q' c' o' : Nat} {L L' L0 L1 : LT} {X : List Nat}
theorem m208 (hf : f ≤ 16) (ih : ∀ f0, f = f0 + 1 → P210 C M P b n (E + 9) f0) (ih9 : ∀ f0, f = f0 + 1 → P211 C M P b n (E + 11) f0) (h : PS t M P b n i q c (16 - f) L) (hc : c ≤ 2 * i) (kk : KQ M P b n (16 - f) [] 7 1 0 true false false t i q c L (opQ b n f (orN b n f) (agN b n f) false i L) Post) : CalG C mtab (E + 14) 208 [svR (some M)] t Post := cal208 (mqOp hf ih ih9 h hc kk)
theorem m201 (hf : f ≤ 16) (ih : ∀ f0, f = f0 + 1 → P210 C M P b n (E + 9) f0) (ih9 : ∀ f0, f = f0 + 1 → P211 C M P b n (E + 11) f0) (h : PS t M P b n i q c (16 - f) L) (hc : c ≤ 2 * i) (kk : KQ M P b n (16 - f) [] 7 1 0 true false false t i q c L (opQ b n f (orN b n f) (agN b n f) true i L) Post) : CalG C mtab (E + 14) 201 [svR (some M)] t Post := cal201 (mqOp hf ih ih9 h hc kk)
theorem OPm.to {p q1 c1 a p2 : Nat} {x : QF} (h : OPm M P b n o t0 i q c L0 t p q1 c1 L1 x a) (h1 : p ≤ p2) (h2 : p2 ≤ n) : OPm M P b n o t0 i q c L0 (sI t M 5 (nI p2)) p2 q1 c1 L1 x a := by
  obtain ⟨g, ha, hk, ho, hx, hip, hb⟩ := h
  have hP := g.1.2.2.1.1
  refine ⟨g.to (by omega) h2 (by have := g.1.2.2.2.2.2.1; omega), ⟨ha.1, ha.2.1, (sI_at (by omega)).trans ha.2.2⟩, ⟨fun z => (sI_at (by omega)).trans (hk.1 z), fun z => ⟨(sI_at (by omega)).trans (hk.2 z).1, fun p y e => ⟨(sI_at (by omega)).trans ((hk.2 z).2 p y e).1, ((hk.2 z).2 p y e).2⟩⟩⟩, ho, fun z => ?_, by omega, by omega⟩
  obtain ⟨z1, z2, z3⟩ := hx z
  exact ⟨z1, z2, z3.fr (fun z hz => ⟨(SQa.w (Or.inl (by omega))).1, fun _ => (SQa.w (Or.inl (by omega))).2⟩) (fun k _ _ => sI_at (by omega)) (Nat.le_refl _)⟩
set_option maxHeartbeats 1000000 in
/-- tested -/
theorem m203 {p q1 c1 a hh j : Nat} {x : QF} {tr : Bool} (hO : OPm M P b n o t0 i q c L0 t p q1 c1 L1 x a) (hlit : isLit x = false) (hc : c1 < 2400) (hh0 : hh ≤ 1200) (hj : p ≤ j ∧ sk b n p = sk b n j) (kk : KQ M P b n o [] 3 0 0 tr false false t0 i q c L0 (tsQ x hh j L1) Post) : CalG C mtab (d + 2) 203 [svR (some M), svI (nI a), svI (nI hh)] t Post := by
  obtain ⟨g, ha, hk, ho, hx, hip, hb⟩ := hO
  have h := g.1
  have hP := h.2.2.1.1
  have ca : (nI a).toNatClampNeg = a := nI_clamp (by omega)
  have va : vp_in (nI a) 2400 := vin h (by omega)
  have cl : (nI c1).toNatClampNeg = c1 := nI_clamp (by omega)
  have v : vp_in (nI c1) 2400 := vin h hc
  have hkind := (hk.2 rfl).1
  refine cal203 ⟨h.K, onS h.r17 ⟨h.k14, onS h.a0.1 ⟨h.a0.2.1, by rw [h.a0.2.2]; exact va, ?_⟩⟩⟩
  rw [ca, hkind]
  rcases OTk_k ho with ⟨w, -⟩ | ⟨-, w1, w2⟩ | ⟨pp, yy, rfl⟩
  · rw [hlit] at w; cases w
  · have e26 : (if tgN x = 27 then 26 else tgN x) = 26 := by split <;> omega
    rw [e26]
    have hsp : tsQ x hh j L1 = .inl (j, noteL L1 2 hh, qT 27 qN) := by
      unfold tsQ
      rw [hlit, w1, if_neg (by decide), if_pos rfl]
    refine ⟨fun _ => ⟨h.K, m182 (kk := 2) h (by omega) (by omega) hh0 (fun t2 g1 g2 g3 => ⟨rfl, g1.1.K, m181 g1.1 hc (fun t3 r1 r2 r3 => ⟨r1.1.K, onS r1.1.r17 ⟨r1.1.k14, onS r1.1.a1.1 ⟨r1.1.a1.2.1, by rw [r1.1.a1.2.2]; exact v, ?_⟩⟩⟩)⟩)⟩, fun z => absurd rfl z⟩
    rw [cl]
    refine kk.1 j _ _ hsp _ p q1 (c1 + 1) c1 (((g.trans g1 (fun z hz => by cases hz)).trans r1 (fun z hz => by cases hz)).I (Or.inl ⟨by omega, by omega, Or.inl (by omega)⟩)) ⟨hip, hj.1, hj.2, fun z => by cases z⟩ (fun _ z => absurd z (noteL_0 (by omega))) ⟨fun z => by omega, fun z => by omega⟩ ⟨by omega, by omega, ?_⟩ (by omega) (fun z => by cases z)
    rw [sI_at (by omega)]; exact r2.2.2.2.1
  · have hsp : tsQ (.tag 25 (.tag pp yy)) hh j L1 = .inl (j, L1, qT 14 (.tag pp yy)) := rfl
    refine ⟨fun z => absurd z (by show ¬ nI 25 = 26; decide), fun _ => ⟨h.K, m181 h hc (fun t3 r1 r2 r3 => ⟨r1.1.K, onS r1.1.r17 ⟨r1.1.k14, onS r1.1.a1.1 ⟨r1.1.a1.2.1, by rw [r1.1.a1.2.2]; exact v, ?_⟩⟩⟩)⟩⟩
    rw [cl]
    refine kk.1 j _ _ hsp _ p q1 (c1 + 1) c1 ((g.trans r1 (fun z hz => by cases hz)).I (Or.inl ⟨by omega, by omega, Or.inl (by omega)⟩)) ⟨hip, hj.1, hj.2, fun z => by cases z⟩ (fun _ z => ?_) ⟨fun z => by omega, fun z => by omega⟩ ⟨by omega, by omega, ?_⟩ (by omega) (fun z => by cases z)
    · obtain ⟨z1, z2, z3⟩ := hx z
      refine ⟨z1, rfl, QM.mk (m := 3) (k := 14) (us := [a]) (F1 := rg c c1) (by decide) (by decide) (by decide) ⟨by omega, by omega⟩ (fun z hz => ⟨hz.1, by have := hz.2; omega⟩) (fun z => by have := z.2; omega) ?_ (Or.inr ?_)⟩
      · unfold HM
        rw [if_neg (by decide), if_neg (by decide), if_pos rfl, if_neg (by decide), if_neg (by decide), if_neg (by decide), if_pos rfl]
        refine ⟨?_, rfl, a, sI_eq, rfl⟩
        rw [sI_at (by omega)]; exact r2.1
      · unfold QM at z3
        rw [if_neg (by decide), if_neg (by decide), if_pos ⟨rfl, rfl⟩] at z3
        refine QM.fr (t := t) (q := q1) z3.2 (fun z hz => ?_) (fun k _ k2 => ?_) (Nat.le_refl _)
        · have s1 := r1.sq (z := z) hz.2
          have s2 := SQa.w (t := t3) (P := P) (x := P + 2) (k := c1) (a := z) (v := nI a) (Or.inr (Or.inr (by have := hz.2; omega)))
          exact ⟨s1.1.trans s2.1, fun _ => s2.2.trans (s1.2 (by simp))⟩
        · rw [sI_at (by omega)]; exact r1.2.2.1.2 k k2
    · rw [sI_at (by omega)]; exact r2.2.2.2.1
theorem bfQ_sk {orD : Nat → LT → Qs} {agD : Nat → LT → (Nat × LT × QF × Bool) ⊕ (Nat × Nat)} {x : QF} {hh i j : Nat} (h : sk b n i = sk b n j) : bfQ b n f orD agD x hh i L = bfQ b n f orD agD x hh j L := by unfold bfQ; rw [h]
set_option maxHeartbeats 1000000 in
/-- compared -/
theorem m202 {p q1 c1 a hh : Nat} {x : QF} {tr : Bool} (hf : f ≤ 16) (ih : ∀ f0, f = f0 + 1 → P210 C M P b n (E + 9) f0) (ih9 : ∀ f0, f = f0 + 1 → P211 C M P b n (E + 11) f0) (hO : OPm M P b n (16 - f) t0 i q c L0 t p q1 c1 L1 x a) (hc : c ≤ 2 * i) (hp : atOp b n p = true) (hsp0 : sk b n p = p) (kk : KQ M P b n (16 - f) [] 3 0 0 tr false false t0 i q c L0 (bfQ b n f (orN b n f) (agN b n f) x hh p L1) Post) : CalG C mtab (E + 15) 202 [svR (some M), svI (nI a)] t Post := by
  obtain ⟨g, ha, hk, ho, hx, hip, hb⟩ := hO
  have h := g.1
  have hn := h.hn
  have hpn := h.2.1
  have hP := h.2.2.1.1
  have ca : (nI a).toNatClampNeg = a := nI_clamp (by omega)
  have va : vp_in (nI a) 2400 := vin h (by omega)
  have cl : (nI c1).toNatClampNeg = c1 := nI_clamp (by omega)
  have v : vp_in (nI c1) 2400 := vin h (by omega)
  obtain ⟨S, hsp⟩ : ∃ S, S = bfQ b n f (orN b n f) (agN b n f) x hh p L1 := ⟨_, rfl⟩
  rw [← hsp] at kk
  obtain ⟨k1, k2⟩ := kk
  unfold bfQ at hsp
  rw [hsp0] at hsp
  have go : isCmp x = true → CalG C mtab (E + 14) 181 [svR (some M), svI (13 : Int32)] t (aftV (fun v3 t4 => rI v3 (fun x8 => tK t4 M = 17 ∧ onR (tR t4 M 17) (fun a9 => tK t4 a9 = 14 ∧ tK t4 M = 17 ∧ CalG C mtab (E + 14) 200 [svR (some M)] t4 (aftV (fun v10 t11 => rI v10 (fun x15 => onR (tR t4 a9 4) (fun a16 => tK t11 a16 = 101 ∧ vp_in x8 (tL t11 a16) ∧ tK (sI t11 a16 (x8).toNatClampNeg x15) M = 17 ∧ onR (tR (sI t11 a16 (x8).toNatClampNeg x15) M 17) (fun a17 => tK (sI t11 a16 (x8).toNatClampNeg x15) a17 = 14 ∧ onR (tR (sI t11 a16 (x8).toNatClampNeg x15) a17 1) (fun a18 => tK (sI t11 a16 (x8).toNatClampNeg x15) a18 = 101 ∧ vp_in x8 (tL (sI t11 a16 (x8).toNatClampNeg x15) a18) ∧ tK (sI (sI t11 a16 (x8).toNatClampNeg x15) a18 (x8).toNatClampNeg (nI a)) M = 17 ∧ CalG C mtab (E + 14) 160 [svR (some M)] (sI (sI t11 a16 (x8).toNatClampNeg x15) a18 (x8).toNatClampNeg (nI a)) (aftV (fun v19 t20 => v19 = none ∧ tK t20 M = 17 ∧ onR (tR t20 M 17) (fun a24 => tK t20 a24 = 14 ∧ tK t20 M = 17 ∧ CalG C mtab (E + 14) 201 [svR (some M)] t20 (aftV (fun v25 t26 => rI v25 (fun x30 => onR (tR t20 a24 2) (fun a31 => tK t26 a31 = 101 ∧ vp_in x8 (tL t26 a31) ∧ Post (.inl (some (svI x8))) (sI t26 a31 (x8).toNatClampNeg x30)))) (fun k27 q28 t29 => Post (.inr (k27, q28)) t29)))) (fun k21 q22 t23 => Post (.inr (k21, q22)) t23))))))) (fun k12 q13 t14 => Post (.inr (k12, q13)) t14))))) (fun k5 q6 t7 => Post (.inr (k5, q6)) t7)) := by
    intro hcm
    rw [hcm, hp, if_pos (by rfl)] at hsp
    refine m181 h (by omega) (fun t4 r1 r2 r3 => ⟨r1.1.K, onS r1.1.r17 ⟨r1.1.k14, r1.1.K, m200 (d := E + 9) r1.1 hp (fun j1 s e1 hj1 hs6 t5 u1 u2 u3 => onS r1.1.a4.1 ?_) (fun pp e1 t5 hF => k2 1 pp (Or.inl ?_) t5 (FQ.of (g.trans r1 (fun z hz => by cases hz)) hF))⟩⟩)
    · rw [e1] at hsp
      have hsp : S = match opQ b n f (orN b n f) (agN b n f) true (sk b n j1) L1 with
        | .inr e => .inr e
        | .inl (k, L', y) => .inl (k, L', qT 13 (qT s (qP x y))) := hsp
      have h5 := u1.1
      refine ⟨h5.a4.2.1, by rw [h5.a4.2.2]; exact v, h5.K, onS h5.r17 ⟨h5.k14, onS h5.a1.1 ⟨h5.a1.2.1, ?_, h5.K, ?_⟩⟩⟩
      · show vp_in (nI c1) (tL t5 (P + 2)); rw [h5.a1.2.2]; exact v
      rw [cl]
      have hG1 : GO M P b n [] t0 i q c (sI (sI t5 (P + 5) c1 (nI s)) (P + 2) c1 (nI a)) j1 q1 (c1 + 1) (16 - f) L1 := (((g.trans r1 (fun z hz => by cases hz)).trans u1 (fun z hz => by cases hz)).I (Or.inl ⟨by omega, by omega, Or.inl (by omega)⟩)).I (Or.inl ⟨by omega, by omega, Or.inl (by omega)⟩)
      have slo := sk_lo (b := b) (n := n) (i := j1)
      refine mqB hG1 (fun hG2 => ⟨rfl, hG2.1.K, ?_⟩)
      -- the heap before the right side
      have f6 : ∀ z, z < c1 → SQa t (sI (sI (sI t5 (P + 5) c1 (nI s)) (P + 2) c1 (nI a)) M 5 (nI (sk b n j1))) P z ∧ tI (sI (sI (sI t5 (P + 5) c1 (nI s)) (P + 2) c1 (nI a)) M 5 (nI (sk b n j1))) (P + 4) z = tI t (P + 4) z := fun z hz => by
        have s1 := r1.sq (z := z) hz
        have s2 := u1.sq (z := z) (by omega)
        have s3 := SQa.w (t := t5) (P := P) (x := P + 5) (k := c1) (a := z) (v := nI s) (Or.inr (Or.inr (by omega)))
        have s4 := SQa.w (t := sI t5 (P + 5) c1 (nI s)) (P := P) (x := P + 2) (k := c1) (a := z) (v := nI a) (Or.inr (Or.inr (by omega)))
        have s5 := SQa.w (t := sI (sI t5 (P + 5) c1 (nI s)) (P + 2) c1 (nI a)) (P := P) (x := M) (k := 5) (a := z) (v := nI (sk b n j1)) (Or.inl (by omega))
        exact ⟨(((s1.1.trans s2.1).trans s3.1).trans s4.1).trans s5.1, s5.2.trans (s4.2.trans (s3.2.trans ((s2.2 (by simp)).trans (s1.2 (by simp)))))⟩
      have f7 : ∀ k, k < q1 → tI (sI (sI (sI t5 (P + 5) c1 (nI s)) (P + 2) c1 (nI a)) M 5 (nI (sk b n j1))) (M + 3) k = tI t (M + 3) k := fun k hk => by
        rw [sI_at (by omega), sI_at (by omega), sI_at (by omega), u1.2.2.1.2 k hk]; exact r1.2.2.1.2 k hk
      have e1' : tI (sI (sI (sI t5 (P + 5) c1 (nI s)) (P + 2) c1 (nI a)) M 5 (nI (sk b n j1))) (P + 1) c1 = 13 := by
        rw [sI_at (by omega), sI_at (by omega), sI_at (by omega)]; exact ((u1.sq (z := c1) (by omega)).1.1 1 (by omega)).trans r2.1
      have e2' : tI (sI (sI (sI t5 (P + 5) c1 (nI s)) (P + 2) c1 (nI a)) M 5 (nI (sk b n j1))) (P + 2) c1 = nI a := by rw [sI_at (by omega)]; exact sI_eq
      have e5' : tI (sI (sI (sI t5 (P + 5) c1 (nI s)) (P + 2) c1 (nI a)) M 5 (nI (sk b n j1))) (P + 5) c1 = nI s := by rw [sI_at (by omega), sI_at (by omega)]; exact sI_eq
      have e4' : tI (sI (sI (sI t5 (P + 5) c1 (nI s)) (P + 2) c1 (nI a)) M 5 (nI (sk b n j1))) (P + 4) c1 = -1 := by
        rw [sI_at (by omega), sI_at (by omega), sI_at (by omega)]; exact ((u1.sq (z := c1) (by omega)).2 (by simp)).trans r2.2.2.2.1
      revert hG2 f6 f7 e1' e2' e5' e4'
      generalize sI (sI (sI t5 (P + 5) c1 (nI s)) (P + 2) c1 (nI a)) M 5 (nI (sk b n j1)) = t6
      intro hG2 f6 f7 e1' e2' e5' e4'
      refine onS hG2.1.r17 ⟨hG2.1.k14, hG2.1.K, m201 (E := E) hf ih ih9 hG2.1 (by omega) ⟨fun j L2 y e2 t7 i2 q2 c2 vv w1 w2 w3 w4 w5 w6 _ => onS hG2.1.a2.1 ?_, fun w pp e2 t7 hF => k2 w pp (e2.map (fun z => by omega) (fun j L' y e => ⟨_, by rw [e] at hsp; exact hsp⟩) (fun e0 e => by rw [e] at hsp; exact hsp)) t7 (FQ.of hG2 hF)⟩⟩
      rw [e2] at hsp
      have h7 := w1.1
      refine ⟨h7.a2.2.1, by rw [h7.a2.2.2]; exact v, ?_⟩
      have sq := w1.sq (z := c1) (by omega)
      have hcc := w1.2.2.2.2.2
      refine k1 j L2 _ hsp _ i2 q2 c2 c1 ((hG2.trans w1 (fun z hz => by cases hz)).I (Or.inl ⟨by omega, by omega, Or.inl (by omega)⟩)) ⟨by omega, w2.2.1, w2.2.2.1, fun z => by cases z⟩ (fun _ z => ?_) ⟨fun z => by omega, fun z => by omega⟩ ⟨by omega, by omega, ?_⟩ (by omega) (fun z => by cases z)
      · obtain ⟨z1, z2, z3⟩ := w3 rfl z
        obtain ⟨y1, y2, y3⟩ := hx z1
        have fw : ∀ z, z ≠ c1 → SQa t7 (sI t7 (P + 3) c1 (nI vv)) P z ∧ tI (sI t7 (P + 3) c1 (nI vv)) (P + 4) z = tI t7 (P + 4) z := fun z hz => SQa.w (Or.inr (Or.inr (fun e => hz e.symm)))
        refine ⟨y1, rfl, QM.mk (m := 3) (k := 13) (us := [a, vv]) (F1 := fun z => rg c c2 z ∧ z ≠ c1) (by decide) (by decide) (by decide) ⟨by omega, by omega⟩ (fun z hz => hz.1) (fun z => z.2 rfl) ?_ (Or.inr ?_)⟩
        · unfold HM
          rw [if_neg (by decide), if_neg (by decide), if_pos rfl, if_neg (by decide), if_neg (by decide), if_pos rfl]
          refine ⟨?_, ?_, rfl, a, vv, ?_, sI_eq, rfl⟩
          · rw [sI_at (by omega)]; exact (sq.1.1 1 (by omega)).trans e1'
          · rw [sI_at (by omega)]; exact (sq.1.1 5 (by omega)).trans e5'
          · rw [sI_at (by omega)]; exact (sq.1.1 2 (by omega)).trans e2'
        · show QM _ P (M + 3) 2400 q2 (.tag s (.append x y)) 5 _ [a, vv]
          unfold QM
          rw [if_pos rfl]
          unfold QM
          rw [if_pos rfl]
          refine ⟨a, vv, rfl, y2, z2, ⟨rg c c1, fun z hz => ⟨⟨hz.1, by have := hz.2; omega⟩, by have := hz.2; omega⟩, ?_⟩, ⟨rg (c1 + 1) c2, fun z hz => ⟨⟨by have := hz.1; omega, hz.2⟩, by have := hz.1; omega⟩, ?_⟩⟩
          · refine QM.fr (t := t) (q := q1) y3 (fun z hz => ?_) (fun k _ k2 => ?_) w1.2.2.2.2.1
            · have s1 := f6 z hz.2
              have s2 := w1.sq (z := z) (by have := hz.2; omega)
              have s3 := fw z (by have := hz.2; omega)
              exact ⟨(s1.1.trans s2.1).trans s3.1, fun _ => s3.2.trans ((s2.2 (by simp)).trans s1.2)⟩
            · rw [sI_at (by omega), w1.2.2.1.2 k k2]; exact f7 k k2
          · exact z3.fr (fun z hz => ⟨(fw z (by have := hz.1; omega)).1, fun _ => (fw z (by have := hz.1; omega)).2⟩) (fun k _ _ => sI_at (by omega)) (Nat.le_refl _)
      · rw [sI_at (by omega)]; exact (sq.2 (by simp)).trans e4'
    · rw [hsp, e1]
  have hkind := (hk.2 rfl).1
  refine cal202 ⟨h.K, onS h.r17 ⟨h.k14, onS h.a0.1 ⟨h.a0.2.1, by rw [h.a0.2.2]; exact va, ?_⟩⟩⟩
  rw [ca, hkind]
  rcases OTk_k ho with ⟨w, w1, w2, w3⟩ | ⟨w, w1, w2⟩ | ⟨pp, yy, rfl⟩
  · refine ⟨fun z => absurd z (nI_ne (b := 25) (by split <;> omega) (by split <;> omega) (by decide)), fun _ => ⟨h.K, go (OTk_c ho ?_)⟩⟩
    cases x with
    | tag k z =>
      have w3 : k ≤ 24 := w3
      show (k == 25) = false
      simp; omega
    | _ => cases w
  · refine ⟨fun z => absurd z (nI_ne (b := 25) (by split <;> omega) (by split <;> omega) (by decide)), fun _ => ⟨h.K, go (OTk_c ho ?_)⟩⟩
    cases x with
    | tag k z =>
      have w2 : k = 26 ∨ k = 27 := w2
      show (k == 25) = false
      simp; omega
    | _ => cases w1
  · obtain ⟨k3, hp4⟩ := (hk.2 rfl).2 pp yy rfl
    have cm : isCmp (.tag 25 (.tag pp yy)) = decide (pp / 2 = 1) := by
      show (pp == 2 || pp == 3) = _
      obtain rfl | rfl | rfl | rfl : pp = 0 ∨ pp = 1 ∨ pp = 2 ∨ pp = 3 := by omega
      all_goals rfl
    refine ⟨fun _ => ⟨h.K, onS h.r17 ⟨h.k14, onS h.a2.1 ⟨h.a2.2.1, by rw [h.a2.2.2]; exact va, ?_⟩⟩⟩, fun z => absurd rfl z⟩
    rw [k3]
    refine ⟨fun z => ⟨h.K, mqF g (fun t2 hF => k2 1 p (Or.inr ⟨rfl, p, L1, qT 14 (.tag pp yy), ?_, hsp0.symm, (fun z => by cases z), Or.inr hp, fun z => by omega⟩) t2 hF)⟩, fun z => ⟨h.K, go ?_⟩⟩
    · have : pp / 2 = 0 := (nI_eq (b := 0) (by omega) (by decide)).mp z
      rw [cm, this] at hsp
      exact hsp
    · rw [cm]
      have : ¬ pp / 2 = 0 := fun w => z (by rw [w]; rfl)
      exact decide_eq_true (by omega)
set_option maxHeartbeats 1000000 in
/-- basicOf -/
theorem m204 {p q1 c1 a hh j : Nat} {x : QF} {tr : Bool} (hf : f ≤ 16) (ih : ∀ f0, f = f0 + 1 → P210 C M P b n (E + 9) f0) (ih9 : ∀ f0, f = f0 + 1 → P211 C M P b n (E + 11) f0) (hO : OPm M P b n (16 - f) t0 i q c L0 t p q1 c1 L1 x a) (hc : c ≤ 2 * i) (hh0 : hh ≤ 1200) (hj : p ≤ j ∧ sk b n p = sk b n j) (kk : KQ M P b n (16 - f) [] 3 0 0 tr false false t0 i q c L0 (bfQ b n f (orN b n f) (agN b n f) x hh j L1) Post) : CalG C mtab (E + 16) 204 [svR (some M), svI (nI a), svI (nI hh)] t Post := by
  have hO' := hO
  obtain ⟨g, ha, hk, ho, hx, hip, hb⟩ := hO
  have h := g.1
  have hn := h.hn
  have hpn := h.2.1
  have hP := h.2.2.1.1
  have slo := sk_lo (b := b) (n := n) (i := p)
  have hsk := sk_le (b := b) hpn
  have ca : (nI a).toNatClampNeg = a := nI_clamp (by omega)
  have va : vp_in (nI a) 2400 := vin h (by omega)
  have hkind := (hk.2 rfl).1
  refine cal204 ⟨h.K, h.K, mqB g (fun hG1 => ⟨rfl, hG1.1.K, m199 hG1.1 ?_⟩)⟩
  have hO1 := hO'.to slo hsk
  cases hop : atOp b n (sk b n p) with
  | true =>
    refine ⟨fun z => absurd z (by decide), fun _ => ⟨hG1.1.K, ?_⟩⟩
    refine m202 (Post := aftV (fun v35 t36 => rI v35 (fun x40 => Post (.inl (some (svI x40))) t36)) (fun k37 q38 t39 => Post (.inr (k37, q38)) t39)) (tr := tr) (hh := hh) hf ih ih9 hO1 hc hop sk_sk ?_
    rw [bfQ_sk (j := j) (by rw [sk_sk]; exact hj.2)]
    exact kk
  | false =>
    refine ⟨fun _ => ⟨hG1.1.K, onS hG1.1.r17 ⟨hG1.1.k14, onS hG1.1.a0.1 ⟨hG1.1.a0.2.1, by rw [hG1.1.a0.2.2]; exact va, ?_⟩⟩⟩, fun z => absurd rfl z⟩
    have hsp : bfQ b n f (orN b n f) (agN b n f) x hh j L1 = tsQ x hh (sk b n j) L1 := by
      unfold bfQ
      rw [← hj.2, hop]
      cases isCmp x <;> rfl
    rw [hsp] at kk
    have tst : isLit x = false → CalG C mtab (E + 15) 203 [svR (some M), svI (nI a), svI (nI hh)] (sI (sI t M 5 (nI (sk b n p))) M 5 (tI t M 5)) (aftV (fun v14 t15 => rI v14 (fun x19 => Post (.inl (some (svI x19))) t15)) (fun k16 q17 t18 => Post (.inr (k16, q17)) t18)) := fun hl => by
      rw [sI_sI, h.at]
      exact m203 (d := E + 13) (Post := aftV (fun v14 t15 => rI v14 (fun x19 => Post (.inl (some (svI x19))) t15)) (fun k16 q17 t18 => Post (.inr (k16, q17)) t18)) (tr := tr) (hO'.to (Nat.le_refl _) hpn) hl (by omega) hh0 ⟨by rw [← hj.2]; exact slo, by rw [sk_sk]; exact hj.2⟩ kk
    have kd : tI (sI t M 5 (nI (sk b n p))) (P + 1) a = nI (if tgN x = 27 then 26 else tgN x) := (sI_at (by omega)).trans hkind
    rw [ca, kd]
    rcases OTk_k ho with ⟨w, w1, w2, w3⟩ | ⟨w, w1, w2⟩ | ⟨pp, yy, rfl⟩
    · refine ⟨fun z => absurd z (nI_ne (b := 25) (by split <;> omega) (by split <;> omega) (by decide)), fun _ => ⟨hG1.1.K, onS hG1.1.r17 ⟨hG1.1.k14, onS hG1.1.a0.1 ⟨hG1.1.a0.2.1, by rw [hG1.1.a0.2.2]; exact va, ?_⟩⟩⟩⟩
      rw [kd]
      refine ⟨fun z => absurd z (nI_ne (b := 26) (by split <;> omega) (by split <;> omega) (by decide)), fun _ => ⟨hG1.1.K, mqF hG1 (fun t2 hF => kk.2 1 (sk b n p) (Or.inl ?_) t2 hF)⟩⟩
      unfold tsQ
      rw [w, if_pos rfl, hj.2]
    · refine ⟨fun z => absurd z (nI_ne (b := 25) (by split <;> omega) (by split <;> omega) (by decide)), fun _ => ⟨hG1.1.K, onS hG1.1.r17 ⟨hG1.1.k14, onS hG1.1.a0.1 ⟨hG1.1.a0.2.1, by rw [hG1.1.a0.2.2]; exact va, ?_⟩⟩⟩⟩
      rw [kd]
      refine ⟨fun _ => ⟨hG1.1.K, hG1.1.K, tst w⟩, fun z => absurd ?_ z⟩
      rw [show (if tgN x = 27 then 26 else tgN x) = 26 by split <;> omega]; rfl
    · exact ⟨fun _ => ⟨hG1.1.K, hG1.1.K, tst rfl⟩, fun z => absurd rfl z⟩
end MQD
