/-! readFilter, readSelector -/
section QS3
variable {C : Cx} {d E : Nat} {Post : OutT → Ht → Prop} {t t' : Ht} {qr r tp ch : Nat} {b : By} {n i o f : Nat} {L : LT}
/-- what a filter is -/
def fiQ (b : By) (n f i : Nat) (L : LT) : Qs := if f = 0 then .inr (4, i) else match orN b n f (sk b n (i + 1)) L with
  | .inr x => .inr x
  | .inl (j, L', x) => .inl (j, L', qFil x)
theorem nI_o {f0 : Nat} (h : f0 + 1 ≤ 16) : nI (16 - f0) - 1 = nI (16 - (f0 + 1)) := by
  rw [show 16 - f0 = (16 - (f0 + 1)) + 1 by omega, nI_s1]
set_option maxHeartbeats 1000000 in
theorem q62 (hf : f ≤ 16) (ih : ∀ f0, f = f0 + 1 → P63 C qr r tp ch b n (E + 8) f0) (h : CQ t qr r tp ch b n i (16 - f) L) (hi : i < n) (kk : KS C qr r tp ch b n (16 - f) t i L (fiQ b n f i L) Post) : CalG C mtab (E + 9) 62 [svR (some qr)] t Post := by
  obtain ⟨k1, k2⟩ := kk
  obtain ⟨n1, n2, n3, n4, n5, n6⟩ := h.ne
  have hqN := h.2.2.2.1
  have hrN := h.1.2.2.2.2.2.1
  have hcN := h.1.2.2.2.2.1
  have htN := h.1.2.2.2.2.2.2
  refine cal62 (q109 (fun t2 hF => ?_))
  obtain ⟨f1, ⟨f2, f3⟩, f4, f5, f6, f7, f8⟩ := hF
  have hC2 : CQ t2 qr r tp ch b n i (16 - f) L := h.old (by omega) (fun x hx _ => f1 x hx)
  have hX2 : QX qr r ch t t2 := QX.of (by omega) f1
  have slo := sk_lo (b := b) (n := n) (i := i + 1)
  refine ⟨rfl, hC2.2.2.1.1, q51 hC2 hi (fun ho hC3 hX3 => ?_) (fun ho t7 hD hB => ?_)⟩
  · obtain ⟨f0, rfl⟩ : ∃ f0, f = f0 + 1 := ⟨f - 1, by omega⟩
    rw [show 16 - (f0 + 1) + 1 = 16 - f0 by omega] at hC3 hX3 ⊢
    have c1 : tN (sI (sI t2 qr 1 (nI (16 - f0))) r 4 (nI (sk b n (i + 1)))) = tN t + 1 := f2
    have c2 : tU (sI (sI t2 qr 1 (nI (16 - f0))) r 4 (nI (sk b n (i + 1)))) = tU t + 8 := f3
    revert hC3 hX3 c1 c2
    generalize sI (sI t2 qr 1 (nI (16 - f0))) r 4 (nI (sk b n (i + 1))) = t7
    intro hC3 hX3 c1 c2
    have s7 := hX3.same (x := tN t) (by omega) (by omega) (by omega) (by omega)
    have hsp : fiQ b n (f0 + 1) i L = (match (leQ b n f0).1 (sk b n (i + 1)) L with
        | .inr x => .inr x
        | .inl (j, L', x) => .inl (j, L', qFil x)) := if_neg (by omega)
    refine ⟨rfl, hC3.2.2.1.1, ih f0 rfl _ t7 _ L hC3 ⟨fun j L' x e t8 a hC4 hX4 hQ hA hij hB => ?_, fun w p e t8 hD hB => ?_⟩⟩
    · rw [e] at hsp
      have s8 := hX4.same (x := tN t) (by omega) (by omega) (by omega) (by omega)
      have k10 : tK t8 (tN t) = 10 := s8.1.trans (s7.1.trans f4)
      refine ⟨k10, hC4.2.2.1.1, hC4.2.2.1.1, ?_⟩
      have e1 : tI (sR t8 (tN t) 7 (some a)) qr 1 = nI (16 - f0) := hC4.2.2.1.2.2.1
      rw [e1, nI_o hf]
      have hN8 := hX4.1
      have hC5 : CQ (sR t8 (tN t) 7 (some a)) qr r tp ch b n j (16 - f0) L' := hC4.old (Nat.le_refl _) (fun x _ hx => sameAt_sR (by rcases hx with rfl | rfl | rfl | rfl <;> omega))
      have hC6 : CQ (sI (sR t8 (tN t) 7 (some a)) qr 1 (nI (16 - (f0 + 1)))) qr r tp ch b n j (16 - (f0 + 1)) L' := hC5.qw sI_eq ((sI_at (by omega)).trans hC5.2.2.1.2.2.2.1) (fun z => (sI_at (by omega)).trans (hC5.2.2.1.2.2.2.2 z)) (by omega) hC5.2.2.2.2.2
      have hX6 : QX qr r ch t (sI (sR t8 (tN t) 7 (some a)) qr 1 (nI (16 - (f0 + 1)))) := (((hX2.trans hX3).trans hX4).up (t' := sR t8 (tN t) 7 (some a)) (by show tN t ≤ tN t8; omega) (fun x hx => sameAt_sR (by omega))).trans (QX.I (Or.inl rfl))
      have hs9 : ∀ z, z ≠ tN t → z ≠ qr → sameAt t8 (sI (sR t8 (tN t) 7 (some a)) qr 1 (nI (16 - (f0 + 1)))) z := fun z z1 z2 => (sameAt_sR z1).trans (sameAt_sI z2)
      have g0 : tI (sI (sR t8 (tN t) 7 (some a)) qr 1 (nI (16 - (f0 + 1)))) (tN t) 0 = 4 := by
        rw [sI_at (by omega)]; exact (s8.2.2.1 0).trans ((s7.2.2.1 0).trans f5)
      have g7 : tR (sI (sR t8 (tN t) 7 (some a)) qr 1 (nI (16 - (f0 + 1)))) (tN t) 7 = some a := by simp [ht]
      have gK : tK (sI (sR t8 (tN t) 7 (some a)) qr 1 (nI (16 - (f0 + 1)))) (tN t) = 10 := k10
      have c3 : tN (sI (sR t8 (tN t) 7 (some a)) qr 1 (nI (16 - (f0 + 1)))) = tN t8 := rfl
      have c4 : tU (sI (sR t8 (tN t) 7 (some a)) qr 1 (nI (16 - (f0 + 1)))) = tU t8 := rfl
      revert hC6 hX6 hs9 g0 g7 gK c3 c4
      generalize sI (sR t8 (tN t) 7 (some a)) qr 1 (nI (16 - (f0 + 1))) = t9
      intro hC6 hX6 hs9 g0 g7 gK c3 c4
      unfold BG at hB
      refine k1 j L' _ hsp t9 hC6 hX6 (fun z => ?_) ⟨gK, 4, g0, by omega, rfl⟩ (by omega) (by omega) ⟨by omega, by omega⟩
      obtain ⟨z1, z2, z3⟩ := hQ z
      refine ⟨z1, rfl, QR.mk (k := 5) (us := [a]) (av' := []) (F1 := rg (tN t + 1) (tN t8)) (by decide) (by decide) ⟨Nat.le_refl _, by omega⟩ (fun y hy => ⟨by have := hy.1; omega, by have := hy.2; omega⟩) ?_ (Or.inr ?_)⟩
      · unfold HL
        rw [if_neg (by decide), if_neg (by decide), if_pos rfl, if_neg (by decide), if_neg (by decide), if_neg (by decide), if_neg (by decide), if_pos rfl]
        refine ⟨gK, g0, rfl, z2, fun y hy => ?_, a, g7, rfl⟩
        rw [List.mem_singleton.mp hy]
        intro w
        have := w.1
        omega
      · rw [c1] at z3
        exact QR.frame (t := t8) (t' := t9) (by omega) _ _ _ _ _ _ z3 (fun y hy => hs9 y (by have := hy.1; omega) (by have := hy.1; omega))
    · rw [e] at hsp
      refine k2 w p hsp t8 (QD.of (hX2.trans hX3) hD) ?_
      unfold BG at hB ⊢
      omega
  · have hf0 : f = 0 := by omega
    refine k2 4 i (if_pos hf0) t7 (QD.of hX2 hD) ?_
    unfold BG at hB ⊢
    omega
theorem seQ_fi (strict : Bool) : seQ b n f (orN b n f) strict i L = if atStr b n i then (match stS b n (pk b n i) (i + 1) with
    | .inr p => .inr (1, p)
    | .inl (cs, j) => .inl (j, L, qNam cs)) else
  if atInt b n i then (match inQ b n false i L with
    | .inr x => .inr x
    | .inl (j, L', m, N) => if strict = false ∧ pk b n (sk b n j) = 58 then slQ b n (some (m, N)) (sk b n j) L' else .inl (j, L', qIdx m N)) else
  if strict then .inr (1, i) else
  if pk b n i = 58 then slQ b n none i L else
  if pk b n i = 63 then fiQ b n f i L else
  if pk b n i = 42 then .inl (i + 1, L, qAll) else .inr (1, i) := rfl
set_option maxHeartbeats 1000000 in
/-- readSelector -/
theorem q59 {strict : Bool} (hf : f ≤ 16) (ih : ∀ f0, f = f0 + 1 → P63 C qr r tp ch b n (E + 8) f0) (h : CQ t qr r tp ch b n i (16 - f) L) (kk : KS C qr r tp ch b n (16 - f) t i L (seQ b n f (orN b n f) strict i L) Post) : CalG C mtab (E + 10) 59 [svR (some qr), svI (bI strict)] t Post := by
  obtain ⟨n1, n2, n3, n4, n5, n6⟩ := h.ne
  have hv := h.2.2.1
  have hK := h.1.1.1
  have hb := h.1.1.2.2.2.2.2.2.2.2.1
  have hn : n ≤ 1200 := h.1.1.2.2.2.2.2.2.1
  have hin := h.2.1
  have hat := h.1.1.2.2.2.2.2.1
  have hqN := h.2.2.2.1
  have hrN := h.1.2.2.2.2.2.1
  have hcN := h.1.2.2.2.2.1
  have htN := h.1.2.2.2.2.2.2
  rw [seQ_fi] at kk
  have wr : ∀ {sp : Qs}, KS C qr r tp ch b n (16 - f) t i L sp Post → KS C qr r tp ch b n (16 - f) t i L sp (aftV (fun v47 t48 => rR v47 (fun x52 => Post (.inl (some (svR x52))) t48)) (fun k49 q50 t51 => Post (.inr (k49, q50)) t51)) := fun hh => hh.imp (fun _ _ hh => hh) (fun _ hh => hh)
  have bad : KS C qr r tp ch b n (16 - f) t i L (.inr (1, i)) Post → ∀ t', QD qr r ch t t' 1 i → BG t t' (n + 1 - i) 39 590 → Post (.inr (200, 0)) t' := fun hh t' hD hB => by
    refine hh.2 1 i rfl t' hD ?_
    unfold BG at hB ⊢
    omega
  refine cal59 ⟨hv.1, q54 h ?_⟩
  cases has : atStr b n i with
  | true =>
    rw [has, if_pos rfl] at kk
    have hq : pk b n i = 34 ∨ pk b n i = 39 := by
      unfold atStr at has
      rcases Bool.or_eq_true_iff.mp has with z | z
      · exact Or.inl (of_decide_eq_true z)
      · exact Or.inr (of_decide_eq_true z)
    have hlt : i < n := by rcases hq with z | z <;> exact (pk_nn z (by decide)).1
    have hq0 : ¬ pk b n i < 0 := by rcases hq with z | z <;> rw [z] <;> decide
    refine ⟨fun z => absurd z (by decide), fun _ => q109 (fun t2 hF => ?_)⟩
    obtain ⟨f1, ⟨f2, f3⟩, f4, f5, f6, f7, f8⟩ := hF
    have hC2 : CQ t2 qr r tp ch b n i (16 - f) L := h.old (by omega) (fun x hx _ => f1 x hx)
    have hX2 : QX qr r ch t t2 := QX.of (by omega) f1
    have hv2 := hC2.2.2.1
    refine ⟨rfl, hv2.1, ?_⟩
    rw [hv2.2.1]
    refine ⟨hC2.1.1.1, r95 hq hC2.1 hlt rfl (fun cs j es t3 x1 x2 x3 x4 x5 => ?_) (fun p es t3 hB => ?_)⟩
    · obtain ⟨s1, s2, s3, s4⟩ := stS_ok hb hn hq0 es
      rw [es] at kk
      have s3' : sameAt t2 t3 (tN t) := x1.same (by omega) (by omega) (by omega)
      have hC3 := hC2.x x1 x4 s2
      refine ⟨s3'.1.trans f4, ?_⟩
      have hC4 : CQ (sR t3 (tN t) 1 (some (tN t2))) qr r tp ch b n j (16 - f) L := hC3.old (Nat.le_refl _) (fun x _ hx => sameAt_sR (by rcases hx with rfl | rfl | rfl | rfl <;> omega))
      have hX4 : QX qr r ch t (sR t3 (tN t) 1 (some (tN t2))) := (hX2.trans (QX.rx x1)).up (by show tN t ≤ tN t3; omega) (fun x hx => sameAt_sR (by omega))
      refine kk.1 j L _ rfl _ hC4 hX4 (fun z => ⟨z, rfl, QR.mk (k := 1) (us := []) (av' := []) (F1 := fun _ => False) (by decide) (by decide) ⟨Nat.le_refl _, by show tN t < tN t3; omega⟩ (fun _ z => z.elim) ?_ (Or.inl rfl)⟩) ⟨s3'.1.trans f4, 0, (s3'.2.2.1 0).trans f5, by omega, rfl⟩ (by show tN t < tN t3; omega) (by omega) ⟨?_, ?_⟩
      · unfold HL
        rw [if_neg (by decide), if_neg (by decide), if_pos rfl, if_pos rfl, unC_qC]
        refine ⟨s3'.1.trans f4, (s3'.2.2.1 0).trans f5, tN t2, by simp [ht], ⟨by omega, by show tN t2 < tN t3; omega⟩, x5.frame (sameAt_sR (by omega)), s4⟩
      · show tN t3 + 30 ≤ _; omega
      · show tU t3 + 400 ≤ _; omega
    · rw [es] at kk
      refine kk.2 1 p rfl t3 (QD.of hX2 (hC2.bd hB)) ?_
      have := hB.2.1
      have := hB.2.2.1
      unfold BG
      omega
  | false =>
    rw [has, if_neg (by decide)] at kk
    refine ⟨fun _ => ⟨hv.1, q53 h ?_⟩, fun z => absurd rfl z⟩
    cases hai : atInt b n i with
    | true =>
      rw [hai, if_pos rfl] at kk
      exact ⟨fun z => absurd z (by decide), fun _ => ⟨hv.1, q60 h (wr kk)⟩⟩
    | false =>
      rw [hai, if_neg (by decide)] at kk
      refine ⟨fun _ => ?_, fun z => absurd rfl z⟩
      cases strict with
      | true =>
        rw [if_pos rfl] at kk
        refine ⟨fun z => absurd z (by decide), fun _ => ⟨fun z => absurd z (by decide), fun _ => ⟨fun z => absurd z (by decide), fun _ => ⟨fun z => absurd z (by decide), fun _ => ⟨hv.1, hv.1, ?_⟩⟩⟩⟩⟩
        rw [hv.2.1]
        exact ⟨hK, hK, h.fl rfl hat (bad kk)⟩
      | false =>
        rw [if_neg (by decide)] at kk
        refine ⟨fun _ => ⟨hv.1, ?_⟩, fun z => absurd rfl z⟩
        rw [hv.2.1]
        refine ⟨hK, r85 h.1.1 ⟨fun e58 => ⟨hv.1, ?_⟩, fun e58 => ⟨fun e63 => ⟨hv.1, ?_⟩, fun e63 => ⟨fun e42 => ⟨hv.1, ?_⟩, fun e42 => ⟨hv.1, hv.1, ?_⟩⟩⟩⟩⟩
        · rw [if_pos e58] at kk
          exact q61 (p := none) h e58 rfl (fun _ m N y => by cases y) (wr kk)
        · rw [if_neg e58, if_pos e63] at kk
          exact q62 hf ih h (pk_nn e63 (by decide)).1 (wr kk)
        · rw [if_neg e58, if_neg e63, if_pos e42] at kk
          have hlt := (pk_nn e42 (by decide)).1
          rw [hv.2.1]
          refine ⟨hK, hK, ?_⟩
          rw [hat, nI_1]
          have hC1 := h.to (j := i + 1) (by omega)
          have hX1 : QX qr r ch t (sI t r 4 (nI (i + 1))) := QX.rx (RX.I (Or.inr rfl))
          show CalG C mtab (E + 9) 109 [svR (some (tN (sI t r 4 (nI (i + 1))))), svI 1] (tNew (sI t r 4 (nI (i + 1))) 10 0 8) _
          refine q109 (fun t2 hF => ?_)
          obtain ⟨f1, ⟨f2, f3⟩, f4, f5, f6, f7, f8⟩ := hF
          have c1 : tN (sI t r 4 (nI (i + 1))) = tN t := rfl
          have c2 : tU (sI t r 4 (nI (i + 1))) = tU t := rfl
          rw [c1] at f1 f2 f4 f5
          rw [c2] at f3
          have hC2 := hC1.old (t' := t2) (by rw [c1]; omega) (fun x hx _ => f1 x hx)
          have hX2 : QX qr r ch t t2 := hX1.up (by omega) (fun x hx => f1 x hx)
          refine ⟨rfl, kk.1 (i + 1) L _ rfl t2 hC2 hX2 (fun z => ⟨z, rfl, QR.mk (k := 2) (us := []) (av' := []) (F1 := fun _ => False) (by decide) (by decide) ⟨Nat.le_refl _, by omega⟩ (fun _ z => z.elim) ?_ (Or.inl rfl)⟩) ⟨f4, 1, f5, by omega, rfl⟩ (by omega) (by omega) ⟨by omega, by omega⟩⟩
          unfold HL
          rw [if_neg (by decide), if_neg (by decide), if_pos rfl, if_neg (by decide), if_pos rfl]
          exact ⟨f4, f5⟩
        · rw [if_neg e58, if_neg e63, if_neg e42] at kk
          rw [hv.2.1]
          exact ⟨hK, hK, h.fl rfl hat (bad kk)⟩
end QS3
