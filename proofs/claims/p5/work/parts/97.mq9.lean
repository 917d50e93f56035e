/-! path, literal, isWord, OF THE REFERENCE -/
section MQ9
variable {C : Cx} {d E f : Nat} {Post : OutT → Ht → Prop} {t t1 t' : Ht} {M P : Nat} {b : By} {n i q c o i' q' c' o' : Nat} {L L' : LT} {X : List Nat}
set_option maxHeartbeats 1000000 in
theorem m193 {strict : Bool} (hf : f ≤ 16) (ih : ∀ f0, f = f0 + 1 → P210 C M P b n (E + 8) f0) (h : PS t M P b n i q c (16 - f) L) (hi : pk b n i = 64 ∨ pk b n i = 36) (hc : c ≤ 2 * i) (kk : KQ M P b n (16 - f) [] 7 1 0 true false false t i q c L (ptQ b n f (orN b n f) strict i L) Post) : CalG C mtab (E + 12) 193 [svR (some M), svI (bI strict)] t Post := by
  have hn := h.hn
  have hP := h.2.2.1.1
  have hlt : i < n := by rcases hi with hi | hi <;> exact (pk_nn hi (by decide)).1
  have cl : (nI c).toNatClampNeg = c := nI_clamp (by omega)
  have v : vp_in (nI c) 2400 := vin h (by omega)
  obtain ⟨k1, k2⟩ := kk
  have main : ∀ (w : Nat) (wx : Int32), wx = nI w → w = (if pk b n i = 36 then 0 else 1) → ∀ t2, GO M P b n [] t i q c t2 i q (c + 1) (16 - f) L → NPt t2 P c 25 →
      onR (tR t2 P 4) (fun a14 => tK t2 a14 = 101 ∧ vp_in (nI c) (tL t2 a14) ∧ tK (sI t2 a14 (nI c).toNatClampNeg wx) M = 17 ∧ tK (sI t2 a14 (nI c).toNatClampNeg wx) M = 17 ∧ tK (sI (sI t2 a14 (nI c).toNatClampNeg wx) M 5 ((tI (sI t2 a14 (nI c).toNatClampNeg wx) M 5) + (1 : Int32))) M = 17 ∧ CalG C mtab (E + 11) 192 [svR (some M), svI (bI strict), svI (0 : Int32)] (sI (sI t2 a14 (nI c).toNatClampNeg wx) M 5 ((tI (sI t2 a14 (nI c).toNatClampNeg wx) M 5) + (1 : Int32))) (aftV (fun v15 t16 => rI v15 (fun x20 => tK t16 M = 17 ∧ onR (tR t16 M 17) (fun a21 => tK t16 a21 = 14 ∧ onR (tR t16 a21 1) (fun a22 => tK t16 a22 = 101 ∧ vp_in (nI c) (tL t16 a22) ∧ tK (sI t16 a22 (nI c).toNatClampNeg x20) M = 17 ∧ onR (tR (sI t16 a22 (nI c).toNatClampNeg x20) M 17) (fun a23 => tK (sI t16 a22 (nI c).toNatClampNeg x20) a23 = 14 ∧ tK (sI t16 a22 (nI c).toNatClampNeg x20) M = 17 ∧ br ((tI (sI t16 a22 (nI c).toNatClampNeg x20) M 21) = 0) (onR (tR (sI t16 a22 (nI c).toNatClampNeg x20) a23 2) (fun a24 => tK (sI t16 a22 (nI c).toNatClampNeg x20) a24 = 101 ∧ vp_in (nI c) (tL (sI t16 a22 (nI c).toNatClampNeg x20) a24) ∧ Post (.inl (some (svI (nI c)))) (sI (sI t16 a22 (nI c).toNatClampNeg x20) a24 (nI c).toNatClampNeg (0 : Int32)))) (onR (tR (sI t16 a22 (nI c).toNatClampNeg x20) a23 2) (fun a25 => tK (sI t16 a22 (nI c).toNatClampNeg x20) a25 = 101 ∧ vp_in (nI c) (tL (sI t16 a22 (nI c).toNatClampNeg x20) a25) ∧ Post (.inl (some (svI (nI c)))) (sI (sI t16 a22 (nI c).toNatClampNeg x20) a25 (nI c).toNatClampNeg (1 : Int32))))))))) (fun k17 q18 t19 => Post (.inr (k17, q18)) t19))) := by
    intro w wx hwx hw t2 hG hN
    have h2 := hG.1
    have hq := h2.2.2.2.2.2.1
    subst hwx
    refine onS h2.a4.1 ⟨h2.a4.2.1, by rw [h2.a4.2.2]; exact v, h2.K, h2.K, h2.K, ?_⟩
    rw [cl, sI_at (by omega), h2.at, nI_1]
    have hG3 : GO M P b n [] t i q c (sI (sI t2 (P + 5) c (nI w)) M 5 (nI (i + 1))) (i + 1) q (c + 1) (16 - f) L := (hG.I (Or.inl ⟨by omega, by omega, Or.inl (Nat.le_refl _)⟩)).to (by omega) (by omega) (by omega)
    have n1 : tI (sI (sI t2 (P + 5) c (nI w)) M 5 (nI (i + 1))) (P + 1) c = 25 := by rw [sI_at (by omega), sI_at (by omega)]; exact hN.1
    have n5 : tI (sI (sI t2 (P + 5) c (nI w)) M 5 (nI (i + 1))) (P + 5) c = nI w := by rw [sI_at (by omega)]; exact sI_eq
    have n4 : tI (sI (sI t2 (P + 5) c (nI w)) M 5 (nI (i + 1))) (P + 4) c = -1 := by rw [sI_at (by omega), sI_at (by omega)]; exact hN.2.2.2.1
    revert hG3 n1 n5 n4
    generalize sI (sI t2 (P + 5) c (nI w)) M 5 (nI (i + 1)) = t3
    intro hG3 n1 n5 n4
    refine m192 (E := E) (whole := false) hf ih hG3.1 (by omega) ⟨fun j hh L' s x e ej => ⟨(fun z => by cases z), fun _ t4 q' c' us hS h21 h10 => ?_⟩, fun w' p e t4 hF => k2 w' p (Or.inl (by unfold ptQ; rw [e])) t4 (FQ.of hG3 hF)⟩
    obtain ⟨g, hx, hl, hm, hb⟩ := hS
    have h4 := g.1
    have sq := g.sq (z := c) (by omega)
    have hih := g.2.2.2.1
    have hcc := g.2.2.2.2.2
    have fin : ∀ (sx : Int32), sx = bI s → Post (.inl (some (svI (nI c)))) (sI (sI t4 (P + 2) c (hdI us)) (P + 3) c sx) := by
      intro sx hsx
      subst hsx
      have hG5 : GO M P b n [] t i q c (sI (sI t4 (P + 2) c (hdI us)) (P + 3) c (bI s)) hh q' c' (16 - f) L' := ((hG3.trans g (fun z hz => by cases hz)).I (Or.inl ⟨by omega, by omega, Or.inl (Nat.le_refl _)⟩)).I (Or.inl ⟨by omega, by omega, Or.inl (Nat.le_refl _)⟩)
      have e1 : tI (sI (sI t4 (P + 2) c (hdI us)) (P + 3) c (bI s)) (P + 1) c = 25 := by rw [sI_at (by omega), sI_at (by omega)]; exact (sq.1.1 1 (by omega)).trans n1
      have e2 : tI (sI (sI t4 (P + 2) c (hdI us)) (P + 3) c (bI s)) (P + 2) c = hdI us := by rw [sI_at (by omega)]; exact sI_eq
      have e3 : tI (sI (sI t4 (P + 2) c (hdI us)) (P + 3) c (bI s)) (P + 3) c = bI s := sI_eq
      have e4 : tI (sI (sI t4 (P + 2) c (hdI us)) (P + 3) c (bI s)) (P + 4) c = -1 := by rw [sI_at (by omega), sI_at (by omega)]; exact (sq.2 (by simp)).trans n4
      have e5 : tI (sI (sI t4 (P + 2) c (hdI us)) (P + 3) c (bI s)) (P + 5) c = nI w := by rw [sI_at (by omega), sI_at (by omega)]; exact (sq.1.1 5 (by omega)).trans n5
      have fr : ∀ z, rg (c + 1) c' z → SQa t4 (sI (sI t4 (P + 2) c (hdI us)) (P + 3) c (bI s)) P z ∧ tI (sI (sI t4 (P + 2) c (hdI us)) (P + 3) c (bI s)) (P + 4) z = tI t4 (P + 4) z := fun z hz => by
        have w1 := SQa.w (t := t4) (P := P) (x := P + 2) (k := c) (a := z) (v := hdI us) (Or.inr (Or.inr (by have := hz.1; omega)))
        have w2 := SQa.w (t := sI t4 (P + 2) c (hdI us)) (P := P) (x := P + 3) (k := c) (a := z) (v := bI s) (Or.inr (Or.inr (by have := hz.1; omega)))
        exact ⟨w1.1.trans w2.1, w2.2.trans w1.2⟩
      have fc : ∀ k, tI (sI (sI t4 (P + 2) c (hdI us)) (P + 3) c (bI s)) (M + 3) k = tI t4 (M + 3) k := fun k => by rw [sI_at (by omega), sI_at (by omega)]
      revert hG5 e1 e2 e3 e4 e5 fr fc
      generalize sI (sI t4 (P + 2) c (hdI us)) (P + 3) c (bI s) = t5
      intro hG5 e1 e2 e3 e4 e5 fr fc
      have slo := sk_lo (b := b) (n := n) (i := hh)
      have hsp : ptQ b n f (orN b n f) strict i L = .inl (j, L', qT 25 (qT ((if pk b n i = 36 then 1 else 0) + (if s then 2 else 0)) x)) := by unfold ptQ; rw [e]
      have bs : bI s = nI (((if pk b n i = 36 then 1 else 0) + (if s then 2 else 0)) / 2) := by cases s <;> split <;> rfl
      refine k1 j L' _ hsp t5 hh q' c' c hG5 ⟨by omega, by omega, by rw [ej, sk_sk], fun z => by cases z⟩ (fun _ z => ?_) ⟨fun z => by omega, fun _ => ⟨e1, fun p y ep => ?_⟩⟩ ⟨Nat.le_refl _, by omega, e4⟩ (by omega) (fun z => by cases z)
      · obtain ⟨z1, z2, z3⟩ := hx z
        refine ⟨z1, rfl, ?_⟩
        show QM t5 P (M + 3) 2400 q' (.tag 25 (qT ((if pk b n i = 36 then 1 else 0) + (if s then 2 else 0)) x)) 7 (rg c c') [c]
        unfold QM
        rw [if_neg (by decide), if_neg (by decide), if_pos ⟨rfl, rfl⟩]
        refine ⟨rfl, QM.mk (m := 10) (us := us) (F1 := rg (c + 1) c') (by decide) (by decide) (fun w => by omega) ⟨Nat.le_refl _, by omega⟩ (fun z hz => ⟨by have := hz.1; omega, hz.2⟩) (fun z => by have := z.1; omega) ?_ (Or.inr (z3.fr (fun z hz => ⟨(fr z hz).1, fun _ => (fr z hz).2⟩) (fun k _ _ => fc k) (Nat.le_refl _)))⟩
        unfold HM
        rw [if_neg (by decide), if_neg (by decide), if_neg (by decide), if_pos rfl]
        refine ⟨e1, e5.trans ?_, e3.trans bs, e2, z2, by split <;> split <;> omega⟩
        congr 1
        rw [hw]
        split <;> split <;> rfl
      · injection ep with ep1 ep2
        injection ep2 with ep3 ep4
        rw [← ep3]
        exact ⟨e3.trans bs, by split <;> split <;> omega⟩
    refine ⟨h4.K, onS h4.r17 ⟨h4.k14, onS h4.a1.1 ⟨h4.a1.2.1, by rw [h4.a1.2.2]; exact v, h4.K, onS h4.r17 ⟨h4.k14, h4.K, ?_⟩⟩⟩⟩
    rw [sI_at (by omega), h21]
    refine ⟨fun z => onS h4.a2.1 ⟨h4.a2.2.1, ?_, ?_⟩, fun z => onS h4.a2.1 ⟨h4.a2.2.1, ?_, ?_⟩⟩
    · show vp_in (nI c) (tL t4 (P + 3)); rw [h4.a2.2.2]; exact v
    · exact fin 0 (by rw [bI_0.mp z]; rfl)
    · show vp_in (nI c) (tL t4 (P + 3)); rw [h4.a2.2.2]; exact v
    · refine fin 1 ?_
      cases s with
      | true => rfl
      | false => exact absurd rfl z
  refine cal193 ⟨h.K, m181 h (by omega) (fun t2 g1 g2 g3 => ⟨g1.1.K, onS g1.1.r17 ⟨g1.1.k14, g1.1.K, mqI g1.1 (fun e => ⟨fun z => absurd z (by decide), fun _ => main 1 1 rfl (by rw [if_neg (by rw [e]; decide)]) t2 g1 g2⟩) (fun e => ⟨fun _ => main 0 0 rfl (by rw [if_pos (hi.elim (fun w => absurd w e) id)]) t2 g1 g2, fun z => absurd rfl z⟩)⟩⟩)⟩
/-- isPath -/
theorem m194 (h : PS t M P b n i q c o L) (k1 : pk b n i = 64 ∨ pk b n i = 36 → Post (.inl (some (svI 1))) t) (k2 : ¬ (pk b n i = 64 ∨ pk b n i = 36) → Post (.inl (some (svI 0))) t) : CalG C mtab (d + 4) 194 [svR (some M)] t Post := by
  refine cal194 ⟨h.K, mqI h (fun e => ⟨fun z => absurd z (by decide), fun _ => ⟨Or.inr rfl, k1 (Or.inl e)⟩⟩) (fun e => ⟨fun _ => ⟨h.K, mqI h (fun e2 => ⟨fun z => absurd z (by decide), fun _ => ⟨Or.inr rfl, k1 (Or.inr e2)⟩⟩) (fun e2 => ⟨fun _ => ⟨Or.inl rfl, k2 (fun w => w.elim e e2)⟩, fun z => absurd rfl z⟩)⟩, fun z => absurd rfl z⟩)⟩
/-- isLiteral -/
theorem m196 (h : PS t M P b n i q c o L) (k : Post (.inl (some (svI (bI (atStr b n i || atInt b n i))))) t) : CalG C mtab (d + 5) 196 [svR (some M)] t Post := by
  have hk : atStr b n i = (decide (pk b n i = 34) || decide (pk b n i = 39)) := rfl
  rw [hk] at k
  refine cal196 ⟨h.K, mqI h (fun e => ⟨fun z => absurd z (by decide), fun _ => ⟨Or.inr rfl, ?_⟩⟩) (fun e => ⟨fun _ => ⟨h.K, mqI h (fun e2 => ⟨fun z => absurd z (by decide), fun _ => ⟨Or.inr rfl, ?_⟩⟩) (fun e2 => ⟨fun _ => ⟨h.K, m186 h ?_⟩, fun z => absurd rfl z⟩)⟩, fun z => absurd rfl z⟩)⟩
  · rw [decide_eq_true e] at k; exact k
  · rw [decide_eq_true e2, decide_eq_false e] at k; exact k
  · rw [decide_eq_false e, decide_eq_false e2] at k
    cases hx : atInt b n i with
    | false => rw [hx] at k; exact ⟨fun _ => ⟨Or.inl rfl, k⟩, fun z => absurd rfl z⟩
    | true => rw [hx] at k; exact ⟨fun z => absurd z (by decide), fun _ => ⟨Or.inr rfl, k⟩⟩
/-- isOrdered -/
theorem m199 (h : PS t M P b n i q c o L) (k : Post (.inl (some (svI (bI (atOp b n i))))) t) : CalG C mtab (d + 4) 199 [svR (some M)] t Post := by
  have hk : atOp b n i = (decide (pk b n i = 61) || (decide (pk b n i = 33) || (decide (pk b n i = 60) || decide (pk b n i = 62)))) := rfl
  rw [hk] at k
  refine cal199 ⟨h.K, mqI h (fun e => ⟨fun z => absurd z (by decide), fun _ => ⟨Or.inr rfl, ?_⟩⟩) (fun e => ⟨fun _ => ⟨h.K, mqI h (fun e2 => ⟨fun z => absurd z (by decide), fun _ => ⟨Or.inr rfl, ?_⟩⟩) (fun e2 => ⟨fun _ => ⟨h.K, mqI h (fun e3 => ⟨fun z => absurd z (by decide), fun _ => ⟨Or.inr rfl, ?_⟩⟩) (fun e3 => ⟨fun _ => ⟨h.K, mqI h (fun e4 => ⟨fun z => absurd z (by decide), fun _ => ⟨Or.inr rfl, ?_⟩⟩) (fun e4 => ⟨fun _ => ⟨Or.inl rfl, ?_⟩, fun z => absurd rfl z⟩)⟩, fun z => absurd rfl z⟩)⟩, fun z => absurd rfl z⟩)⟩, fun z => absurd rfl z⟩)⟩
  · rw [decide_eq_true e] at k; exact k
  · rw [decide_eq_true e2, decide_eq_false e] at k; exact k
  · rw [decide_eq_true e3, decide_eq_false e, decide_eq_false e2] at k; exact k
  · rw [decide_eq_true e4, decide_eq_false e, decide_eq_false e2, decide_eq_false e3] at k; exact k
  · rw [decide_eq_false e4, decide_eq_false e, decide_eq_false e2, decide_eq_false e3] at k; exact k
/-- sign -/
theorem m200 (h : PS t M P b n i q c o L) (hi : atOp b n i = true) (k1 : ∀ j s, sgN b n i = .inl (j, s) → i < j → s ≤ 6 → ∀ t2, GO M P b n [] t i q c t2 j q c o L → (∀ x k, x ≠ M → tI t2 x k = tI t x k) → tJ t2 = tJ t → Post (.inl (some (svI (nI s)))) t2) (k2 : ∀ p, sgN b n i = .inr p → ∀ t2, FQ M P t t2 1 p → Post (.inr (16, M + 1)) t2) : CalG C mtab (d + 5) 200 [svR (some M)] t Post := by
  have hq := h.2.2.2.2.2.1
  have hop : pk b n i = 61 ∨ pk b n i = 33 ∨ pk b n i = 60 ∨ pk b n i = 62 := by unfold atOp at hi; simpa using hi
  have hlt : i < n := by rcases hop with e | e | e | e <;> exact (pk_nn e (by decide)).1
  have hG : GO M P b n [] t i q c (sI t M 5 (nI (i + 1))) (i + 1) q c o L := (GO.rfl' h).to (by omega) (by omega) (by omega)
  have f1 : ∀ x k, x ≠ M → tI (sI t M 5 (nI (i + 1))) x k = tI t x k := fun x k hx => sI_at (fun w => hx w.1)
  refine cal200 ⟨h.K, m156 h.1.1 ⟨h.K, h.K, ?_⟩⟩
  rw [h.at, nI_1]
  have two : pk b n (i + 1) = 61 → GO M P b n [] t i q c (sI (sI t M 5 (nI (i + 1))) M 5 (nI (i + 1 + 1))) (i + 1 + 1) q c o L := fun e => hG.to (by omega) (pk_nn e (by decide)).1 (by omega)
  have f2 : ∀ x k, x ≠ M → tI (sI (sI t M 5 (nI (i + 1))) M 5 (nI (i + 1 + 1))) x k = tI t x k := fun x k hx => (sI_at (fun w => hx w.1)).trans (f1 x k hx)
  refine ⟨fun e60 => ⟨h.K, mqI hG.1 (fun e => ⟨fun z => absurd z (by decide), fun _ => ⟨h.K, h.K, ?_⟩⟩) (fun e => ⟨fun _ => ?_, fun z => absurd rfl z⟩)⟩, fun e60 => ⟨fun e62 => ⟨h.K, mqI hG.1 (fun e => ⟨fun z => absurd z (by decide), fun _ => ⟨h.K, h.K, ?_⟩⟩) (fun e => ⟨fun _ => ?_, fun z => absurd rfl z⟩)⟩, fun e62 => ⟨h.K, mqN (by decide) hG (fun e hG2 => ⟨rfl, fun e61 => ?_, fun e61 => ?_⟩) (fun e t2 hF => k2 (i + 1) ?_ t2 hF)⟩⟩⟩
  · rw [hG.1.at, nI_1]
    refine ⟨fun _ => ⟨fun z => absurd z (by decide), fun _ => ?_⟩, fun z => absurd e60 z⟩
    refine k1 (i + 1 + 1) 4 ?_ (by omega) (by omega) _ (two e) f2 rfl
    unfold sgN
    rw [if_neg (by rw [e60]; decide), if_neg (by rw [e60]; decide), if_pos e60, if_pos e]
  · refine ⟨fun _ => ⟨fun _ => ?_, fun z => absurd rfl z⟩, fun z => absurd e60 z⟩
    refine k1 (i + 1) 3 ?_ (by omega) (by omega) _ hG f1 rfl
    unfold sgN
    rw [if_neg (by rw [e60]; decide), if_neg (by rw [e60]; decide), if_pos e60, if_neg e]
  · rw [hG.1.at, nI_1]
    refine ⟨fun z => absurd z e60, fun _ => ⟨fun z => absurd z (by decide), fun _ => ?_⟩⟩
    refine k1 (i + 1 + 1) 6 ?_ (by omega) (by omega) _ (two e) f2 rfl
    unfold sgN
    rw [if_neg (by rw [e62]; decide), if_neg (by rw [e62]; decide), if_neg e60, if_pos e]
  · refine ⟨fun z => absurd z e60, fun _ => ⟨fun _ => ?_, fun z => absurd rfl z⟩⟩
    refine k1 (i + 1) 5 ?_ (by omega) (by omega) _ hG f1 rfl
    unfold sgN
    rw [if_neg (by rw [e62]; decide), if_neg (by rw [e62]; decide), if_neg e60, if_neg e]
  · refine k1 (i + 1 + 1) 1 ?_ (by omega) (by omega) _ hG2 f2 rfl
    unfold sgN
    rw [if_pos e61, if_pos e]
  · have e33 : pk b n i = 33 := by rcases hop with w | w | w | w; exact absurd w e61; exact w; exact absurd w e60; exact absurd w e62
    refine k1 (i + 1 + 1) 2 ?_ (by omega) (by omega) _ hG2 f2 rfl
    unfold sgN
    rw [if_neg e61, if_pos e33, if_pos e]
  · rcases hop with w | w | w | w
    · unfold sgN; rw [if_pos w, if_neg e]
    · unfold sgN; rw [if_neg (by rw [w]; decide), if_pos w, if_neg e]
    · exact absurd w e60
    · exact absurd w e62
end MQ9
