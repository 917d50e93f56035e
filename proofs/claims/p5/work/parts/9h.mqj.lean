/-! argument, OF THE REFERENCE; its levels -/
section MQJ
variable {C : Cx} {d E f f0 : Nat} {Post : OutT → Ht → Prop} {t t0 t1 t' : Ht} {M P : Nat} {b : By} {n i q c o i' q' c' o' : Nat} {L L' L0 L1 : LT} {X : List Nat}
theorem GO.tr {Y : List Nat} {ib i1 q1 c1 o1 : Nat} {L1 : LT} (h : GO M P b n X t i q c t1 i1 q1 c1 o1 L1) (g : GO M P b n Y t1 ib q1 c1 t' i' q' c' o' L') (hi : i ≤ i') (hY : ∀ z ∈ Y, z ∈ X ∨ c ≤ z) : GO M P b n X t i q c t' i' q' c' o' L' := by
  obtain ⟨h1, h2, h3, h4, h5, h6⟩ := h
  obtain ⟨g1, g2, g3, g4, g5, g6⟩ := g
  exact ⟨g1, h2.trans g2, h3.trans g3 h6 h5 hY, hi, by omega, by omega⟩
theorem orQ_stk {r0 : Qs} {j : Nat} {x : QF} (hr : r0 = .inl (j, L, x)) (h : stk b n (sk b n j)) : ∃ y, orQ b n f (orN b n f) (agN b n f) r0 = .inl (sk b n j, L, y) := by
  have e1 := aLQ_i (f := f) (n := n) (b := b) hr
  rw [aLQ_stk h] at e1
  have e2 := oLQ_i e1
  have h' : stk b n (sk b n (sk b n j)) := by rw [sk_sk]; exact h
  rw [oLQ_stk h', sk_sk] at e2
  exact ⟨_, e2⟩
/-- an ANY behind a first part, as an argument -/
theorem KAm.logic {S : (Nat × LT × QF × Bool) ⊕ (Nat × Nat)} {r0 : Qs} {i2 q2 c2 a2 j2 : Nat} {L2 : LT} {y : QF} {t3 : Ht} (hf : f ≤ 16) (ih : ∀ e f0, f = f0 + 1 → P210 C M P b n (E + e + 8) f0) (ih9 : ∀ e f0, f = f0 + 1 → P211 C M P b n (E + e + 11) f0) (hG : GO M P b n [] t i q c t3 i2 q2 c2 (16 - f) L2) (ha : c ≤ a2 ∧ a2 < c2) (hi : i < i2) (hb : c2 ≤ c + 2 * (i2 - i)) (hc : c + 2 ≤ 2 * i) (hr : r0 = .inl (j2, L2, y)) (hj : i2 ≤ j2 ∧ sk b n i2 = sk b n j2) (hS : S = lgQ (orQ b n f (orN b n f) (agN b n f) r0)) (kk : KAm M P b n (16 - f) t i q c L S Post) : CalG C mtab (E + 19) 210 [svR (some M), svI (nI a2)] t3 (aftV (fun v36 t37 => rI v36 (fun x41 => tK t37 M = 17 ∧ Post (.inl (some (svI x41))) (sI t37 M 22 (4 : Int32)))) (fun k38 q39 t40 => Post (.inr (k38, q39)) t40)) := by
  have hP := hG.1.2.2.1.1
  refine m210b (E := E) hf ih ih9 hG.1 (by omega) ha.2 (by omega) hj hr ⟨fun j4 L4 x4 e4 t4 i4 q4 c4 a4 g1 g2 g3 g4 g5 g6 _ => ⟨g1.1.K, ?_⟩, fun w p e4 t4 hF => kk.2 w p ?_ t4 (FQ.of hG hF)⟩
  · have hi4 := g1.2.2.2.1
    refine kk.1 j4 L4 x4 true (by rw [hS, e4]; rfl) _ i4 q4 c4 a4 ((hG.tr g1 (by omega) (fun z hz => by rw [List.mem_singleton.mp hz]; exact Or.inr ha.1)).I (Or.inr (Or.inr ⟨rfl, Or.inr rfl⟩))) ⟨by omega, g2.2.1, g2.2.2.1⟩ (fun z => by cases z) sI_eq ⟨by omega, g5.2.1⟩ (by omega)
  · rcases e4 with e4 | ⟨rfl, j4, L4, x4, e4, e5, e6, e7, e8⟩
    · exact Or.inl (by rw [hS, e4]; rfl)
    · exact Or.inr ⟨rfl, j4, L4, x4, true, by rw [hS, e4]; rfl, e5, e7⟩
theorem isPth_t {x : QF} (h : tgN x ≠ 25) : isPth x = false := by
  cases x with
  | tag k z =>
    have h : k ≠ 25 := h
    show (k == 25) = false
    simp [h]
  | _ => rfl
theorem OTk_tg {x : QF} (h : OTk x) : isTg x = true := by
  cases x with
  | tag k z => rfl
  | _ => rcases h with h | h | ⟨p, y, h⟩ <;> cases h
/-- compared, of a path that is no singular one -/
theorem m202n {p q1 c1 a : Nat} {x : QF} (hO : OPm M P b n o t0 i q c L0 t p q1 c1 L1 x a) (hcm : isCmp x = false) (k2 : ∀ t2, FQ M P t0 t2 1 p → Post (.inr (16, M + 1)) t2) : CalG C mtab (d + 3) 202 [svR (some M), svI (nI a)] t Post := by
  obtain ⟨g, ha, hk, ho, hx, hip, hb⟩ := hO
  have h := g.1
  have hpc := h.2.2.2.2.2.2.2
  have ca : (nI a).toNatClampNeg = a := nI_clamp (by omega)
  have va : vp_in (nI a) 2400 := vin h (by omega)
  refine cal202 ⟨h.K, onS h.r17 ⟨h.k14, onS h.a0.1 ⟨h.a0.2.1, by rw [h.a0.2.2]; exact va, ?_⟩⟩⟩
  obtain ⟨pp, yy, rfl⟩ : ∃ (pp : Nat) (yy : QF), x = .tag 25 (.tag pp yy) := by
    rcases OTk_k ho with ⟨w, w1, w2, w3⟩ | ⟨w, w1, w2⟩ | w
    · rw [OTk_c ho (isPth_t (by omega))] at hcm; cases hcm
    · rw [OTk_c ho (isPth_t (by omega))] at hcm; cases hcm
    · exact w
  obtain ⟨k3, hp4⟩ := (hk.2 rfl).2 pp yy rfl
  have hpp : pp / 2 = 0 := by
    have hcm : (pp == 2 || pp == 3) = false := hcm
    simp at hcm
    omega
  rw [ca, (hk.2 rfl).1]
  refine ⟨fun _ => ⟨h.K, onS h.r17 ⟨h.k14, onS h.a2.1 ⟨h.a2.2.1, by rw [h.a2.2.2]; exact va, ?_⟩⟩⟩, fun z => absurd rfl z⟩
  rw [k3, hpp]
  exact ⟨fun _ => ⟨h.K, mqF g k2⟩, fun z => absurd rfl z⟩
set_option maxHeartbeats 2000000 in
theorem m211 (hf : f ≤ 16) (ih : ∀ e f0, f = f0 + 1 → P210 C M P b n (E + e + 8) f0) (ih9 : ∀ e f0, f = f0 + 1 → P211 C M P b n (E + e + 11) f0) (h : PS t M P b n i q c (16 - f) L) (hc : c + 2 ≤ 2 * i) (kk : KAm M P b n (16 - f) t i q c L (arQ b n f (orN b n f) (agN b n f) i L) Post) : CalG C mtab (E + 20) 211 [svR (some M)] t Post := by
  have hn := h.hn
  have hin := h.2.1
  have hP := h.2.2.1.1
  obtain ⟨S, hsp⟩ : ∃ S, S = arQ b n f (orN b n f) (agN b n f) i L := ⟨_, rfl⟩
  rw [← hsp] at kk
  unfold arQ at hsp
  refine cal211 (fun m t' => m = 9 ∧ t' = t ∧ (pk b n i = 33 ∨ pk b n i = 40))
    (fun m l1 l2 t' => m = 8 ∧ l1 = nI i ∧ ∃ p q1 c1 L1 x a, l2 = nI a ∧ sk b n p = p ∧ OPm M P b n (16 - f) t i q c L t' p q1 c1 L1 x a ∧ atOp b n p = false ∧ S = if (pk b n p = 38 ∨ pk b n p = 124) ∧ isLit x = false then lgQ (orQ b n f (orN b n f) (agN b n f) (tsQ x i p L1)) else .inl (p, L1, x, false))
    (fun m l1 l2 l3 t' => m = 7 ∧ l1 = nI i ∧ ∃ p q1 c1 L1 x a, l2 = nI a ∧ l3 = bI (isPth x) ∧ sk b n p = p ∧ OPm M P b n (16 - f) t i q c L t' p q1 c1 L1 x a ∧ atOp b n p = false ∧ S = if (pk b n p = 38 ∨ pk b n p = 124) ∧ isLit x = false then lgQ (orQ b n f (orN b n f) (agN b n f) (tsQ x i p L1)) else .inl (p, L1, x, false))
    (fun m l1 l2 l3 l4 t' => m = 6 ∧ l1 = nI i ∧ ∃ p q1 c1 L1 x a, l2 = nI a ∧ l3 = bI (isPth x) ∧ l4 = bI (isFun x) ∧ sk b n p = p ∧ OPm M P b n (16 - f) t i q c L t' p q1 c1 L1 x a ∧ atOp b n p = false ∧ S = if (pk b n p = 38 ∨ pk b n p = 124) ∧ isLit x = false then lgQ (orQ b n f (orN b n f) (agN b n f) (tsQ x i p L1)) else .inl (p, L1, x, false))
    (fun m l1 l2 l3 l4 t' => m = 5 ∧ l1 = nI i ∧ ∃ p q1 c1 L1 x a, l2 = nI a ∧ sk b n p = p ∧ isLit x = false ∧ OPm M P b n (16 - f) t i q c L t' p q1 c1 L1 x a ∧ S = lgQ (orQ b n f (orN b n f) (agN b n f) (tsQ x i p L1)))
    (fun m l1 l2 l3 l4 t' => m = 5 ∧ l1 = nI i ∧ ∃ p q1 c1 L1 x a, l2 = nI a ∧ l3 = bI (isPth x) ∧ l4 = bI (isFun x) ∧ sk b n p = p ∧ OPm M P b n (16 - f) t i q c L t' p q1 c1 L1 x a ∧ S = .inl (p, L1, x, false)) ?_ ?_ ?_ ?_ ?_ ?_ ?_
  · refine ⟨h.K, mqI h (fun e33 => ⟨fun z => absurd z (by decide), fun _ => ⟨9, rfl, rfl, rfl, Or.inl e33⟩⟩) (fun e33 => ⟨fun _ => ⟨h.K, mqI h (fun e40 => ⟨fun z => absurd z (by decide), fun _ => ⟨9, rfl, rfl, rfl, Or.inr e40⟩⟩) (fun e40 => ⟨fun _ => ⟨h.K, h.K, ?_⟩, fun z => absurd rfl z⟩)⟩, fun z => absurd rfl z⟩)⟩
    rw [if_neg (fun w => w.elim e33 e40)] at hsp
    refine m208 (E := E + 5) hf (ih 6) (ih9 5) h (by omega) ⟨fun j L' x e t2 i2 q2 c2 a g1 g2 g3 g4 g5 g6 _ => ⟨g1.1.K, ?_⟩, fun w p e t2 hF => kk.2 w p ?_ t2 hF⟩
    · rw [e] at hsp
      have hsp : S = if ((pk b n (sk b n j) = 38 ∨ pk b n (sk b n j) = 124) ∧ isLit x = false) ∨ (isCmp x = true ∧ atOp b n (sk b n j) = true) then lgQ (orQ b n f (orN b n f) (agN b n f) (bfQ b n f (orN b n f) (agN b n f) x i (sk b n j) L')) else .inl (sk b n j, L', x, false) := hsp
      have hO : OPm M P b n (16 - f) t i q c L t2 i2 q2 c2 L' x a := ⟨g1, g5, g4, opQ_k e, fun z => g3 rfl z, g2.1, g6⟩
      have hi2 := g1.1.2.1
      have slo := sk_lo (b := b) (n := n) (i := i2)
      have hskn := sk_le (b := b) hi2
      have esk : sk b n i2 = sk b n j := g2.2.2.1
      rw [← esk] at hsp
      refine mqB g1 (fun hG1 => ⟨rfl, hG1.1.K, m199 hG1.1 ?_⟩)
      have hO1 := hO.to slo hskn
      cases hop : atOp b n (sk b n i2) with
      | false =>
        refine ⟨fun _ => ⟨8, rfl, rfl, h.at, sk b n i2, q2, c2, L', x, a, rfl, sk_sk, hO1, hop, ?_⟩, fun z => absurd rfl z⟩
        have eb : bfQ b n f (orN b n f) (agN b n f) x i (sk b n i2) L' = tsQ x i (sk b n i2) L' := by
          unfold bfQ
          rw [sk_sk, hop]
          cases isCmp x <;> rfl
        rw [hsp, eb, hop]
        by_cases w : (pk b n (sk b n i2) = 38 ∨ pk b n (sk b n i2) = 124) ∧ isLit x = false
        · rw [if_pos w, if_pos (Or.inl w)]
        · rw [if_neg w, if_neg (fun z => z.elim w (fun y => by cases y.2))]
      | true =>
        refine ⟨fun z => absurd z (by decide), fun _ => ⟨hG1.1.K, ?_⟩⟩
        have nand : ¬ ((pk b n (sk b n i2) = 38 ∨ pk b n (sk b n i2) = 124) ∧ isLit x = false) := fun w => by
          have := stk_no (Or.inr hop : stk b n (sk b n i2))
          rcases w.1 with w | w
          · exact this.2.2.2.1 w
          · exact this.2.2.2.2.1 w
        cases hcm : isCmp x with
        | false =>
          rw [if_neg (fun z => z.elim nand (fun y => by rw [hcm] at y; cases y.1))] at hsp
          exact m202n (d := E + 16) hO1 hcm (fun t3 hF => kk.2 1 (sk b n i2) (Or.inr ⟨rfl, sk b n i2, L', x, false, hsp, by rw [sk_sk], Or.inr hop⟩) t3 hF)
        | true =>
          rw [if_pos (Or.inr ⟨hcm, hop⟩)] at hsp
          refine m202 (E := E + 4) (tr := true) (hh := i) hf (ih 5) (ih9 4) hO1 (by omega) hop sk_sk ⟨fun j3 L3 x3 e3 t3 i3 q3 c3 a3 u1 u2 u3 u4 u5 u6 _ => ⟨u1.1.K, ?_⟩, fun w p e3 t3 hF => kk.2 w p ?_ t3 hF⟩
          · exact KAm.logic (E := E) hf ih ih9 u1 ⟨u5.1, u5.2.1⟩ u2.1 (by omega) hc e3 ⟨u2.2.1, u2.2.2.1⟩ hsp kk
          · rcases e3 with e3 | ⟨rfl, j3, L3, x3, e3, e5, e6, e7, e8⟩
            · exact Or.inl (by rw [hsp, oLQ_r (aLQ_r e3)]; rfl)
            · rw [e5] at e7
              obtain ⟨y, ey⟩ := orQ_stk (f := f) e3 e7
              exact Or.inr ⟨rfl, sk b n j3, L3, y, true, by rw [hsp, ey]; rfl, by rw [sk_sk]; exact e5, by rw [e5]; exact e7⟩
    · rcases e with e | ⟨rfl, j, L', x, e, e2, e3, e4, e5⟩
      · rw [e] at hsp; exact Or.inl hsp
      · rw [e] at hsp
        have hsp : S = if ((pk b n (sk b n j) = 38 ∨ pk b n (sk b n j) = 124) ∧ isLit x = false) ∨ (isCmp x = true ∧ atOp b n (sk b n j) = true) then lgQ (orQ b n f (orN b n f) (agN b n f) (bfQ b n f (orN b n f) (agN b n f) x i (sk b n j) L')) else .inl (sk b n j, L', x, false) := hsp
        rw [← e2] at hsp
        have k := (dgt_sk (e5 rfl)).2.2
        have a1 : ¬ pk b n p = 61 := k 61 (by omega) (by omega)
        have a2 : ¬ pk b n p = 33 := k 33 (by omega) (by omega)
        have a3 : ¬ pk b n p = 60 := k 60 (by omega) (by omega)
        have a4 : ¬ pk b n p = 62 := k 62 (by omega) (by omega)
        have nop : atOp b n p = false := by unfold atOp; simp [a1, a2, a3, a4]
        rw [if_neg (fun z => z.elim (fun w => w.1.elim (stk_no e4).2.2.2.1 (stk_no e4).2.2.2.2.1) (fun w => by rw [nop] at w; cases w.2))] at hsp
        exact Or.inr ⟨rfl, p, L', x, false, hsp, by rw [e2, sk_sk], e4⟩
  · rintro m t' ⟨rfl, rfl, hp⟩
    rw [if_pos hp] at hsp
    refine ⟨h.K, m210a (E := E) hf ih ih9 h hc ⟨fun j4 L4 x4 e4 t4 i4 q4 c4 a4 g1 g2 g3 g4 g5 g6 _ => ⟨g1.1.K, ?_⟩, fun w p e4 t4 hF => kk.2 w p ?_ t4 hF⟩⟩
    · exact kk.1 j4 L4 x4 true (by rw [hsp, e4]; rfl) _ i4 q4 c4 a4 (g1.I (Or.inr (Or.inr ⟨rfl, Or.inr rfl⟩))) ⟨g2.1, g2.2.1, g2.2.2.1⟩ (fun z => by cases z) sI_eq ⟨g5.1, g5.2.1⟩ (by omega)
    · rcases e4 with e4 | ⟨rfl, j4, L4, x4, e4, e5, e6, e7, e8⟩
      · exact Or.inl (by rw [hsp, e4]; rfl)
      · exact Or.inr ⟨rfl, j4, L4, x4, true, by rw [hsp, e4]; rfl, e5, e7⟩
  · rintro m l1 l2 t' ⟨rfl, rfl, p, q1, c1, L1, x, a, rfl, hsk, hO, hop, e⟩
    have h' := hO.1.1
    have ha := hO.2.1
    have hpc := h'.2.2.2.2.2.2.2
    have ca : (nI a).toNatClampNeg = a := nI_clamp (by omega)
    refine ⟨h'.K, onS h'.r17 ⟨h'.k14, onS h'.a0.1 ⟨h'.a0.2.1, by rw [h'.a0.2.2]; exact vin h' (by omega), ?_⟩⟩⟩
    rw [ca, (hO.2.2.1.2 rfl).1]
    have out : ∀ l3 : Int32, l3 = bI (isPth x) → ∃ k, k < 8 ∧ some M = some M ∧ (k = 7 ∧ nI i = nI i ∧ ∃ p q1 c1 L1 x a', nI a = nI a' ∧ l3 = bI (isPth x) ∧ sk b n p = p ∧ OPm M P b n (16 - f) t i q c L t' p q1 c1 L1 x a' ∧ atOp b n p = false ∧ S = if (pk b n p = 38 ∨ pk b n p = 124) ∧ isLit x = false then lgQ (orQ b n f (orN b n f) (agN b n f) (tsQ x i p L1)) else .inl (p, L1, x, false)) := fun l3 hl => ⟨7, by omega, rfl, rfl, rfl, p, q1, c1, L1, x, a, rfl, hl, hsk, hO, hop, e⟩
    rcases OTk_k hO.2.2.2.1 with ⟨w, w1, w2, w3⟩ | ⟨w, w1, w2⟩ | ⟨pp, yy, rfl⟩
    · refine ⟨fun z => absurd z (nI_ne (b := 25) (by split <;> omega) (by split <;> omega) (by decide)), fun _ => out 0 ?_⟩
      rw [isPth_t (by omega)]; rfl
    · refine ⟨fun z => absurd z (nI_ne (b := 25) (by split <;> omega) (by split <;> omega) (by decide)), fun _ => out 0 ?_⟩
      rw [isPth_t (by omega)]; rfl
    · exact ⟨fun _ => out 1 rfl, fun z => absurd rfl z⟩
  · rintro m l1 l2 l3 t' ⟨rfl, rfl, p, q1, c1, L1, x, a, rfl, rfl, hsk, hO, hop, e⟩
    have h' := hO.1.1
    have ha := hO.2.1
    have hpc := h'.2.2.2.2.2.2.2
    have ca : (nI a).toNatClampNeg = a := nI_clamp (by omega)
    refine ⟨h'.K, onS h'.r17 ⟨h'.k14, onS h'.a0.1 ⟨h'.a0.2.1, by rw [h'.a0.2.2]; exact vin h' (by omega), ?_⟩⟩⟩
    rw [ca, (hO.2.2.1.2 rfl).1]
    have out : ∀ l4 : Int32, l4 = bI (isFun x) → ∃ k, k < 7 ∧ some M = some M ∧ (k = 6 ∧ nI i = nI i ∧ ∃ p q1 c1 L1 x' a', nI a = nI a' ∧ bI (isPth x) = bI (isPth x') ∧ l4 = bI (isFun x') ∧ sk b n p = p ∧ OPm M P b n (16 - f) t i q c L t' p q1 c1 L1 x' a' ∧ atOp b n p = false ∧ S = if (pk b n p = 38 ∨ pk b n p = 124) ∧ isLit x' = false then lgQ (orQ b n f (orN b n f) (agN b n f) (tsQ x' i p L1)) else .inl (p, L1, x', false)) := fun l4 hl => ⟨6, by omega, rfl, rfl, rfl, p, q1, c1, L1, x, a, rfl, rfl, hl, hsk, hO, hop, e⟩
    rcases OTk_k hO.2.2.2.1 with ⟨w, w1, w2, w3⟩ | ⟨w, w1, w2⟩ | ⟨pp, yy, rfl⟩
    · refine ⟨fun z => absurd z (nI_ne (b := 26) (by split <;> omega) (by split <;> omega) (by decide)), fun _ => out 0 ?_⟩
      rw [w1]; rfl
    · refine ⟨fun _ => out 1 (by rw [w1]; rfl), fun z => absurd ?_ z⟩
      rw [show (if tgN x = 27 then 26 else tgN x) = 26 by split <;> omega]; rfl
    · exact ⟨fun z => absurd z (by show ¬ nI 25 = 26; decide), fun _ => out 0 rfl⟩
  · rintro m l1 l2 l3 l4 t' ⟨rfl, rfl, p, q1, c1, L1, x, a, rfl, rfl, rfl, hsk, hO, hop, e⟩
    have h' := hO.1.1
    have no : ¬ ((pk b n p = 38 ∨ pk b n p = 124) ∧ isLit x = false) → ∃ k, k < 6 ∧ some M = some M ∧ (k = 5 ∧ nI i = nI i ∧ ∃ p q1 c1 L1 x' a', nI a = nI a' ∧ bI (isPth x) = bI (isPth x') ∧ bI (isFun x) = bI (isFun x') ∧ sk b n p = p ∧ OPm M P b n (16 - f) t i q c L t' p q1 c1 L1 x' a' ∧ S = .inl (p, L1, x', false)) := fun w => ⟨5, by omega, rfl, rfl, rfl, p, q1, c1, L1, x, a, rfl, rfl, rfl, hsk, hO, by rw [e, if_neg w]⟩
    have yes : (pk b n p = 38 ∨ pk b n p = 124) → isLit x = false → ∃ k, k < 6 ∧ some M = some M ∧ (k = 5 ∧ nI i = nI i ∧ ∃ p q1 c1 L1 x a', nI a = nI a' ∧ sk b n p = p ∧ isLit x = false ∧ OPm M P b n (16 - f) t i q c L t' p q1 c1 L1 x a' ∧ S = lgQ (orQ b n f (orN b n f) (agN b n f) (tsQ x i p L1))) := fun w w2 => ⟨5, by omega, rfl, rfl, rfl, p, q1, c1, L1, x, a, rfl, hsk, w2, hO, by rw [e, if_pos ⟨w, w2⟩]⟩
    have tst : isLit x = false → CalG C mtab (E + 19) 157 [svR (some M), svI (38 : Int32)] t' (aftV (fun v1 t2 => rI v1 (fun x6 => br (x6 = 0) (tK t2 M = 17 ∧ CalG C mtab (E + 19) 157 [svR (some M), svI (124 : Int32)] t2 (aftV (fun v7 t8 => rI v7 (fun x12 => br (x12 = 0) (∃ k, k < 6 ∧ some M = some M ∧ (k = 5 ∧ nI i = nI i ∧ ∃ p q1 c1 L1 x' a', nI a = nI a' ∧ bI (isPth x) = bI (isPth x') ∧ bI (isFun x) = bI (isFun x') ∧ sk b n p = p ∧ OPm M P b n (16 - f) t i q c L t8 p q1 c1 L1 x' a' ∧ S = .inl (p, L1, x', false))) (∃ k, k < 6 ∧ some M = some M ∧ (k = 5 ∧ nI i = nI i ∧ ∃ p q1 c1 L1 x a', nI a = nI a' ∧ sk b n p = p ∧ isLit x = false ∧ OPm M P b n (16 - f) t i q c L t8 p q1 c1 L1 x a' ∧ S = lgQ (orQ b n f (orN b n f) (agN b n f) (tsQ x i p L1)))))) (fun k9 q10 t11 => Post (.inr (k9, q10)) t11))) (∃ k, k < 6 ∧ some M = some M ∧ (k = 5 ∧ nI i = nI i ∧ ∃ p q1 c1 L1 x a', nI a = nI a' ∧ sk b n p = p ∧ isLit x = false ∧ OPm M P b n (16 - f) t i q c L t2 p q1 c1 L1 x a' ∧ S = lgQ (orQ b n f (orN b n f) (agN b n f) (tsQ x i p L1)))))) (fun k3 q4 t5 => Post (.inr (k3, q4)) t5)) := fun hl =>
      mqI h' (fun e38 => ⟨fun z => absurd z (by decide), fun _ => yes (Or.inl e38) hl⟩) (fun e38 => ⟨fun _ => ⟨h'.K, mqI h' (fun e124 => ⟨fun z => absurd z (by decide), fun _ => yes (Or.inr e124) hl⟩) (fun e124 => ⟨fun _ => no (fun w => w.1.elim e38 e124), fun z => absurd rfl z⟩)⟩, fun z => absurd rfl z⟩)
    rcases OTk_k hO.2.2.2.1 with ⟨w, w1, w2, w3⟩ | ⟨w, w1, w2⟩ | ⟨pp, yy, rfl⟩
    · rw [isPth_t (x := x) (by omega), w1] at no ⊢
      exact ⟨fun _ => ⟨fun _ => no (fun z => by rw [w] at z; cases z.2), fun z => absurd rfl z⟩, fun z => absurd rfl z⟩
    · have hp0 := isPth_t (x := x) (by omega)
      rw [hp0, w1] at tst ⊢
      exact ⟨fun _ => ⟨fun z => absurd z (by decide), fun _ => ⟨h'.K, tst w⟩⟩, fun z => absurd rfl z⟩
    · exact ⟨fun z => absurd z (by show ¬ bI true = 0; decide), fun _ => ⟨h'.K, tst rfl⟩⟩
  · rintro m l1 l2 l3 l4 t' ⟨rfl, rfl, p, q1, c1, L1, x, a, rfl, hsk, hlit, hO, e⟩
    have h' := hO.1.1
    have hpn := h'.2.1
    have hb := hO.2.2.2.2.2.2
    have hip := hO.2.2.2.2.2.1
    refine ⟨h'.K, m203 (d := E + 17) (tr := true) (hh := i) (j := p) hO hlit (by omega) (by omega) ⟨Nat.le_refl _, rfl⟩ ⟨fun j3 L3 x3 e3 t3 i3 q3 c3 a3 u1 u2 u3 u4 u5 u6 _ => ⟨u1.1.K, KAm.logic (E := E) hf ih ih9 u1 ⟨u5.1, u5.2.1⟩ u2.1 (by omega) hc e3 ⟨u2.2.1, u2.2.2.1⟩ e kk⟩, fun w p3 e3 t3 hF => kk.2 w p3 ?_ t3 hF⟩⟩
    rcases e3 with e3 | ⟨rfl, j3, L3, x3, e3, e5, e6, e7, e8⟩
    · exact Or.inl (by rw [e, oLQ_r (aLQ_r e3)]; rfl)
    · rw [e5] at e7
      obtain ⟨y, ey⟩ := orQ_stk (f := f) e3 e7
      exact Or.inr ⟨rfl, sk b n j3, L3, y, true, by rw [e, ey]; rfl, by rw [sk_sk]; exact e5, by rw [e5]; exact e7⟩
  · rintro m l1 l2 l3 l4 t' ⟨rfl, rfl, p, q1, c1, L1, x, a, rfl, rfl, rfl, hsk, hO, e⟩
    have hO' := hO
    obtain ⟨hG, ha, hk, ho, hx, hip, hb⟩ := hO'
    have h' := hG.1
    have hP := h'.2.2.1.1
    have fin : ∀ ak : Int32, ak = akI x false → Post (.inl (some (svI (nI a)))) (sI t' M 22 ak) := fun ak hak => by
      refine kk.1 p L1 x false e _ p q1 c1 a (hG.I (Or.inr (Or.inr ⟨rfl, Or.inr rfl⟩))) ⟨hip, Nat.le_refl _, rfl⟩ (fun _ => ⟨ho, OTk_tg ho, ⟨fun z => by omega, fun z => ⟨(sI_at (by omega)).trans (hk.2 z).1, fun p y e => ⟨(sI_at (by omega)).trans ((hk.2 z).2 p y e).1, ((hk.2 z).2 p y e).2⟩⟩⟩, fun z => ?_⟩) (sI_eq.trans hak) ⟨ha.1, ha.2.1⟩ (by omega)
      obtain ⟨z1, z2, z3⟩ := hx z
      exact ⟨z1, z3.fr (fun z hz => ⟨(SQa.w (Or.inl (by omega))).1, fun _ => (SQa.w (Or.inl (by omega))).2⟩) (fun k _ _ => sI_at (by omega)) (Nat.le_refl _)⟩
    rcases OTk_k ho with ⟨w, w1, w2, w3⟩ | ⟨w, w1, w2⟩ | ⟨pp, yy, rfl⟩
    · have hp0 := isPth_t (x := x) (by omega)
      rw [hp0, w1]
      exact ⟨fun _ => ⟨fun _ => ⟨h'.K, fin 1 (by unfold akI; rw [hp0, w1]; rfl)⟩, fun z => absurd rfl z⟩, fun z => absurd rfl z⟩
    · have hp0 := isPth_t (x := x) (by omega)
      rw [hp0, w1]
      exact ⟨fun _ => ⟨fun z => absurd z (by decide), fun _ => ⟨h'.K, fin 3 (by unfold akI; rw [hp0, w1]; rfl)⟩⟩, fun z => absurd rfl z⟩
    · exact ⟨fun z => absurd z (by show ¬ bI true = 0; decide), fun _ => ⟨h'.K, fin 2 rfl⟩⟩
theorem mlv : ∀ f, f ≤ 16 → ∀ E, P210 C M P b n (E + 11 * f + 19) f ∧ P211 C M P b n (E + 11 * f + 20) f := by
  have st : ∀ f E, f ≤ 16 → (∀ e f0, f = f0 + 1 → P210 C M P b n (E + e + 8) f0) → (∀ e f0, f = f0 + 1 → P211 C M P b n (E + e + 11) f0) → P210 C M P b n (E + 19) f ∧ P211 C M P b n (E + 20) f := by
    intro f E hf ih ih9
    refine ⟨fun Post t i q c L h hc kk => ?_, fun Post t i q c L h hc kk => ?_⟩
    · rw [leQ_1] at kk
      exact m210a hf ih ih9 h hc kk
    · rw [leQ_2] at kk
      exact m211 hf ih ih9 h hc kk
  intro f
  induction f with
  | zero => exact fun hf E => st 0 E hf (fun _ _ z => by omega) (fun _ _ z => by omega)
  | succ f ih =>
    intro hf E
    have ih' := ih (by omega)
    have := st (f + 1) (E + 11 * f + 11) hf (fun e f0 z => by
      have : f0 = f := by omega
      subst this
      have := (ih' (E + e)).1
      rwa [show E + 11 * f0 + 11 + e + 8 = E + e + 11 * f0 + 19 by omega]) (fun e f0 z => by
      have : f0 = f := by omega
      subst this
      have := (ih' (E + e + 2)).2
      rwa [show E + 11 * f0 + 11 + e + 11 = E + e + 2 + 11 * f0 + 20 by omega])
    rwa [show E + 11 * (f + 1) + 19 = E + 11 * f + 11 + 19 by omega, show E + 11 * (f + 1) + 20 = E + 11 * f + 11 + 20 by omega]
end MQJ
