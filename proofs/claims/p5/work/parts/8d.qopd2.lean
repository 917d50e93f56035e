/-! readOperand -/
theorem sJK {t : Ht} {a k : Nat} {x : Int64} : tK (sJ t a k x) = tK t := rfl
theorem sJN {t : Ht} {a k : Nat} {x : Int64} : tN (sJ t a k x) = tN t := rfl
theorem sJU {t : Ht} {a k : Nat} {x : Int64} : tU (sJ t a k x) = tU t := rfl
theorem sJI {t : Ht} {a k : Nat} {x : Int64} : tI (sJ t a k x) = tI t := rfl
theorem sJR {t : Ht} {a k : Nat} {x : Int64} : tR (sJ t a k x) = tR t := rfl
theorem sRK {t : Ht} {a k : Nat} {x : Option Nat} : tK (sR t a k x) = tK t := rfl
theorem sRN {t : Ht} {a k : Nat} {x : Option Nat} : tN (sR t a k x) = tN t := rfl
theorem sRU {t : Ht} {a k : Nat} {x : Option Nat} : tU (sR t a k x) = tU t := rfl
theorem sRI {t : Ht} {a k : Nat} {x : Option Nat} : tI (sR t a k x) = tI t := rfl
theorem sR_eq {t : Ht} {a k : Nat} {x : Option Nat} : tR (sR t a k x) a k = x := by simp [ht]
theorem sR_at {t : Ht} {a k y j : Nat} {x : Option Nat} (h : ¬ (y = a ∧ j = k)) : tR (sR t a k x) y j = tR t y j := by
  simp only [ht]
  rw [if_neg h]
section QO2
variable {C : Cx} {d E : Nat} {Post : OutT → Ht → Prop} {t t1 t' : Ht} {qr r tp ch : Nat} {b : By} {n i o f : Nat} {L : LT}
theorem KO.imp {sp : Qs} {P' : OutT → Ht → Prop} (h : KO C qr r tp ch b n o t i L sp Post) (hp : ∀ a t, Post (.inl (some (svR (some a)))) t → P' (.inl (some (svR (some a)))) t) (hq : ∀ t, Post (.inr (200, 0)) t → P' (.inr (200, 0)) t) : KO C qr r tp ch b n o t i L sp P' :=
  ⟨fun j L' x e t' a g1 g2 g3 g4 g5 g6 g7 g8 => hp _ _ (h.1 j L' x e t' a g1 g2 g3 g4 g5 g6 g7 g8), fun w p e t' g1 g2 => hq _ (h.2 w p e t' g1 g2)⟩
set_option maxHeartbeats 1000000 in
theorem q74 {strict : Bool} (hf : f ≤ 16) (ih : ∀ f0, f = f0 + 1 → P63 C qr r tp ch b n (E + 8) f0) (h : CQ t qr r tp ch b n i (16 - f) L) (hw : ∀ P, isSm b n i = true → KO C qr r tp ch b n (16 - f) t i L (wrQ b n f (agN b n f) i L) P → CalG C mtab (E + 13) 76 [svR (some qr)] t P) (kk : KO C qr r tp ch b n (16 - f) t i L (opQ b n f (orN b n f) (agN b n f) strict i L) Post) : CalG C mtab (E + 14) 74 [svR (some qr), svI (bI strict)] t Post := by
  obtain ⟨n1, n2, n3, n4, n5, n6⟩ := h.ne
  have hv := h.2.2.1
  have hK := h.1.1.1
  have hb := h.1.1.2.2.2.2.2.2.2.2.1
  have hn : n ≤ 1200 := h.1.1.2.2.2.2.2.2.1
  have hin := h.2.1
  have hat := h.1.1.2.2.2.2.2.1
  have hqN := h.2.2.2.1
  have hrN := h.1.2.2.2.2.2.1
  have hcN := h.1.2.2.2.2.1
  have htN := h.1.2.2.2.2.2.2
  unfold opQ at kk
  refine cal74 (fun m l2 l3 t' => m = 0 ∧ l2 = nI i ∧ l3 = pk b n i ∧ t' = t ∧ (pk b n i = 64 ∨ pk b n i = 36))
    (fun m l2 l3 t' => m = 0 ∧ l2 = nI i ∧ t' = t ∧ atStr b n i = true ∧ KO C qr r tp ch b n (16 - f) t i L (match stS b n (pk b n i) (i + 1) with
      | .inr p => .inr (1, p)
      | .inl (cs, j) => .inl (j, L, qT 21 (qC cs))) Post) ?_ ?_ ?_
  · refine ⟨hv.1, onS hv.2.1 ⟨hK, hv.1, onS hv.2.1 ⟨hK, ?_⟩⟩⟩
    rw [hat]
    refine r85 h.1.1 ⟨fun e64 => ⟨0, rfl, rfl, rfl, rfl, rfl, rfl, Or.inl e64⟩, fun e64 => ⟨fun e36 => ⟨0, rfl, rfl, rfl, rfl, rfl, rfl, Or.inr e36⟩, fun e36 => p143 ?_⟩⟩
    rw [if_neg (fun z => z.elim e64 e36)] at kk
    show br (f143 (pk b n i) = 0) _ _
    rw [f143_p hb]
    cases hsm : isSm b n i with
    | true =>
      rw [hsm, if_pos rfl] at kk
      exact ⟨fun z => absurd z (by decide), fun _ => ⟨hv.1, hw _ hsm (kk.imp (fun _ _ z => z) (fun _ z => z))⟩⟩
    | false =>
      rw [hsm, if_neg (by decide)] at kk
      refine ⟨fun _ => ⟨hv.1, q53 h ?_⟩, fun z => absurd rfl z⟩
      cases hai : atInt b n i with
      | true =>
        rw [hai, if_pos rfl] at kk
        refine ⟨fun z => absurd z (by decide), fun _ => q75 (kd := 3) (by omega) (fun t2 hF => ?_)⟩
        obtain ⟨f1, ⟨f2, f3⟩, ⟨f4, f5, f6, f7⟩, f8, f9, f10, f11⟩ := hF
        have hC2 : CQ t2 qr r tp ch b n i (16 - f) L := h.old (by omega) (fun x hx _ => f1 x hx)
        have hX2 : QX qr r ch t t2 := QX.of (by omega) f1
        refine ⟨f4, hC2.2.2.1.1, q52 (mz := true) hC2 (fun j L' m N e hlt t3 hC3 hX3 g1 g2 g3 => ?_) (fun w p e t3 hD hB => ?_)⟩
        · rw [e] at kk
          have s3a := hX3.same (x := tN t) (by omega) (by omega) (by omega) (by omega)
          have s3b := hX3.same (x := tN t + 1) (by omega) (by omega) (by omega) (by omega)
          refine onS f7 ⟨s3b.1.trans f8, ?_⟩
          have hs4 : ∀ x, x ≠ tN t + 1 → sameAt t3 (sJ t3 (tN t + 1) 5 (sgC m N)) x := fun x hx => sameAt_sJ hx
          have c1 : tK (sJ t3 (tN t + 1) 5 (sgC m N)) = tK t3 := sJK
          have c2 : tN (sJ t3 (tN t + 1) 5 (sgC m N)) = tN t3 := sJN
          have c3 : tU (sJ t3 (tN t + 1) 5 (sgC m N)) = tU t3 := sJU
          have c4 : tI (sJ t3 (tN t + 1) 5 (sgC m N)) = tI t3 := sJI
          have c5 : tR (sJ t3 (tN t + 1) 5 (sgC m N)) = tR t3 := sJR
          have c6 : tJ (sJ t3 (tN t + 1) 5 (sgC m N)) (tN t + 1) 5 = sgC m N := sJ_eq
          revert hs4 c1 c2 c3 c4 c5 c6
          generalize sJ t3 (tN t + 1) 5 (sgC m N) = t4
          intro hs4 c1 c2 c3 c4 c5 c6
          refine KO.lit kk rfl (by omega) (hC3.old (by omega) (fun x _ hx => hs4 x (by rcases hx with rfl | rfl | rfl | rfl <;> omega))) ((hX2.trans hX3).up (by omega) (fun x hx => hs4 x (by omega))) (fun z => inQ_lt e z) (fun z => ?_) ⟨by rw [c1]; exact s3a.1.trans f4, by rw [c4]; exact (s3a.2.2.1 0).trans f5, by rw [c4]; exact (s3a.2.2.1 1).trans f6⟩ (by omega) hlt ⟨by omega, by omega⟩
          unfold HL
          rw [if_neg (by decide), if_neg (by decide), if_neg (by decide), if_neg (by decide), if_pos rfl, if_neg (by decide), if_neg (by decide), if_pos rfl, c1, c4, c5, c6, unI_qI]
          exact ⟨s3a.1.trans f4, (s3a.2.2.2.2 8).trans f7, ⟨by omega, by omega⟩, s3b.1.trans f8, (s3b.2.2.2.2 4).trans f10, (s3a.2.2.1 0).trans f5, (s3b.2.2.1 0).trans f9, sgC_R (g3 z), (s3b.2.2.2.2 6).trans f11⟩
        · rw [e] at kk
          refine kk.2 w p rfl t3 (QD.of hX2 hD) ?_
          unfold BG at hB ⊢
          omega
      | false =>
        rw [hai, if_neg (by decide)] at kk
        refine ⟨fun _ => ⟨hv.1, q54 h ?_⟩, fun z => absurd rfl z⟩
        cases has : atStr b n i with
        | true =>
          rw [has, if_pos rfl] at kk
          exact ⟨fun z => absurd z (by decide), fun _ => ⟨0, rfl, rfl, rfl, rfl, rfl, rfl, kk⟩⟩
        | false =>
          rw [has, if_neg (by decide)] at kk
          refine ⟨fun _ => ⟨hv.1, onS hv.2.1 ⟨hK, h.fl rfl rfl (fun t' hD hB => kk.2 1 i rfl t' hD ?_)⟩⟩, fun z => absurd rfl z⟩
          unfold BG at hB ⊢
          omega
  · rintro m l2 l3 t' ⟨rfl, rfl, rfl, rfl, hpk⟩
    have hlt : i < n := by rcases hpk with z | z <;> exact (pk_nn z (by decide)).1
    rw [if_pos hpk] at kk
    refine q111 (k := 4) (by omega) (by omega) (by omega) (fun t2 hF => ⟨rfl, fun e36 => ?_, fun e36 => ?_⟩)
    · exact qpth (E := E) (k := 1) hf ih h hlt hF rfl (by rw [if_pos e36]) kk
    · exact qpth (E := E) (k := 0) hf ih h hlt hF rfl (by rw [if_neg e36]) kk
  · rintro m l2 l3 t' ⟨rfl, rfl, rfl, has, kk⟩
    have hq : pk b n i = 34 ∨ pk b n i = 39 := by
      unfold atStr at has
      rcases Bool.or_eq_true_iff.mp has with z | z
      · exact Or.inl (of_decide_eq_true z)
      · exact Or.inr (of_decide_eq_true z)
    have hlt : i < n := by rcases hq with z | z <;> exact (pk_nn z (by decide)).1
    have hq0 : ¬ pk b n i < 0 := by rcases hq with z | z <;> rw [z] <;> decide
    refine q75 (kd := 4) (by omega) (fun t2 hF => ?_)
    obtain ⟨f1, ⟨f2, f3⟩, ⟨f4, f5, f6, f7⟩, f8, f9, f10, f11⟩ := hF
    have hC2 : CQ t2 qr r tp ch b n i (16 - f) L := h.old (by omega) (fun x hx _ => f1 x hx)
    have hX2 := QX.of (qr := qr) (r := r) (ch := ch) (by omega) f1
    refine ⟨f4, hC2.2.2.1.1, onS hC2.2.2.1.2.1 ⟨hC2.1.1.1, r95 hq hC2.1 hlt rfl (fun cs j es t3 x1 x2 x3 x4 x5 => ?_) (fun p es t3 hB => ?_)⟩⟩
    · obtain ⟨s1, s2, s3, s4⟩ := stS_ok hb hn hq0 es
      rw [es] at kk
      have s3a := x1.same (x := tN t') (by omega) (by omega) (by omega)
      have s3b := x1.same (x := tN t' + 1) (by omega) (by omega) (by omega)
      have hC3 := hC2.x x1 x4 s2
      refine onS f7 ⟨s3b.1.trans f8, ?_⟩
      have hs4 : ∀ x, x ≠ tN t' + 1 → sameAt t3 (sR t3 (tN t' + 1) 6 (some (tN t2))) x := fun x hx => sameAt_sR hx
      have c1 : tK (sR t3 (tN t' + 1) 6 (some (tN t2))) = tK t3 := sRK
      have c2 : tN (sR t3 (tN t' + 1) 6 (some (tN t2))) = tN t3 := sRN
      have c3 : tU (sR t3 (tN t' + 1) 6 (some (tN t2))) = tU t3 := sRU
      have c4 : tI (sR t3 (tN t' + 1) 6 (some (tN t2))) = tI t3 := sRI
      have c5 : tR (sR t3 (tN t' + 1) 6 (some (tN t2))) (tN t' + 1) 6 = some (tN t2) := sR_eq
      have c6 : tR (sR t3 (tN t' + 1) 6 (some (tN t2))) (tN t' + 1) 4 = tR t3 (tN t' + 1) 4 := sR_at (by omega)
      revert hs4 c1 c2 c3 c4 c5 c6
      generalize sR t3 (tN t' + 1) 6 (some (tN t2)) = t4
      intro hs4 c1 c2 c3 c4 c5 c6
      refine KO.lit kk rfl (by omega) (hC3.old (by omega) (fun x _ hx => hs4 x (by rcases hx with rfl | rfl | rfl | rfl <;> omega))) ((hX2.trans (QX.rx x1)).up (by omega) (fun x hx => hs4 x (by omega))) (fun z => z) (fun z => ?_) ⟨by rw [c1]; exact s3a.1.trans f4, by rw [c4]; exact (s3a.2.2.1 0).trans f5, by rw [c4]; exact (s3a.2.2.1 1).trans f6⟩ (by omega) (by omega) ⟨by omega, by omega⟩
      unfold HL
      rw [if_neg (by decide), if_neg (by decide), if_neg (by decide), if_neg (by decide), if_pos rfl, if_neg (by decide), if_neg (by decide), if_neg (by decide), if_pos rfl, c1, c4, c5, c6, unC_qC]
      exact ⟨s3a.1.trans f4, ((hs4 (tN t') (by omega)).2.2.2.2 8).trans ((s3a.2.2.2.2 8).trans f7), ⟨by omega, by omega⟩, s3b.1.trans f8, (s3b.2.2.2.2 4).trans f10, (s3a.2.2.1 0).trans f5, (s3b.2.2.1 0).trans f9, tN t2, rfl, ⟨by omega, by omega⟩, x5.frame (hs4 _ (by omega)), s4⟩
    · rw [es] at kk
      refine kk.2 1 p rfl t3 (QD.of hX2 (hC2.bd hB)) ?_
      have := hB.2.1
      have := hB.2.2.1
      unfold BG
      omega
end QO2
