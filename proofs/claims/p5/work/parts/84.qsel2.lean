/-! SELECTORS, the rest -/
section QS2
variable {C : Cx} {d E : Nat} {Post : OutT → Ht → Prop} {t t' : Ht} {qr r tp ch : Nat} {b : By} {n i o f : Nat} {L : LT}
theorem KS.imp {sp : Qs} {P' : OutT → Ht → Prop} (h : KS C qr r tp ch b n o t i L sp Post) (hp : ∀ a t, Post (.inl (some (svR (some a)))) t → P' (.inl (some (svR (some a)))) t) (hq : ∀ t, Post (.inr (200, 0)) t → P' (.inr (200, 0)) t) : KS C qr r tp ch b n o t i L sp P' :=
  ⟨fun j L' x e t' g1 g2 g3 g4 g5 g6 g7 => hp _ _ (h.1 j L' x e t' g1 g2 g3 g4 g5 g6 g7), fun w p e t' g1 g2 => hq _ (h.2 w p e t' g1 g2)⟩
/-- from a heap with the place moved back or on -/
theorem KS.of {sp : Qs} {j : Nat} {t1 : Ht} (h : KS C qr r tp ch b n o t i L sp Post) (hx : RX r ch t t1) (hN : tN t1 = tN t) (hU : tU t1 = tU t) (hij : i ≤ j) (L1 : LT) (hL : L1.1 = 0 → L.1 = 0) : KS C qr r tp ch b n o t1 j L1 sp Post := by
  refine ⟨fun k L' x e t' g1 g2 g3 g4 g5 g6 g7 => ?_, fun w p e t' g1 g2 => ?_⟩
  · rw [hN] at g3 g4 g5 ⊢
    refine h.1 k L' x e t' g1 ((QX.rx hx).trans g2) (fun z => ⟨hL (g3 z).1, (g3 z).2⟩) g4 g5 (by omega) ?_
    unfold BG at g7 ⊢
    omega
  · refine h.2 w p e t' (QD.of (QX.rx hx) g1) ?_
    unfold BG at g2 ⊢
    omega
theorem KS.ofX {sp : Qs} {j : Nat} {t1 : Ht} (h : KS C qr r tp ch b n o t i L sp Post) (hx : QX qr r ch t t1) (hN : tN t1 = tN t) (hU : tU t1 = tU t) (hij : i ≤ j) (L1 : LT) (hL : L1.1 = 0 → L.1 = 0) : KS C qr r tp ch b n o t1 j L1 sp Post := by
  refine ⟨fun k L' x e t' g1 g2 g3 g4 g5 g6 g7 => ?_, fun w p e t' g1 g2 => ?_⟩
  · rw [hN] at g3 g4 g5 ⊢
    refine h.1 k L' x e t' g1 (hx.trans g2) (fun z => ⟨hL (g3 z).1, (g3 z).2⟩) g4 g5 (by omega) ?_
    unfold BG at g7 ⊢
    omega
  · refine h.2 w p e t' (QD.of hx g1) ?_
    unfold BG at g2 ⊢
    omega
/-- a selector of one cell -/
theorem KS.one {sp : Qs} {k0 : Nat} {x : QF} {j : Nat} {t2 : Ht} (h : KS C qr r tp ch b n o t i L sp Post) (hC : CQ t qr r tp ch b n i o L) (he : sp = .inl (j, L, .tag k0 x)) (hN : tN t2 = tN t + 1) (hU : tU t2 = tU t + 8) (hs : ∀ y, y < tN t → y ≠ r → sameAt t t2 y) (hx : QX qr r ch t t2) (hC2 : CQ t2 qr r tp ch b n j o L) (hh : L.1 = 0 → HL C t2 2 k0 x (rg (tN t) (tN t2)) (tN t) false [] [] (fun _ => False)) (hc : cM 2 k0 x = 99) (hk : SK t2 (tN t) (.tag k0 x)) (hij : i < j) : Post (.inl (some (svR (some (tN t))))) t2 :=
  h.1 j L _ he t2 hC2 hx (fun z => ⟨z, rfl, QR.mk (by decide) (by decide) ⟨Nat.le_refl _, by omega⟩ (fun _ z => z.elim) (hh z) (Or.inl hc)⟩) hk (by omega) hij ⟨by omega, by omega⟩
/-- readIndexed -/
theorem q60 {strict : Bool} (h : CQ t qr r tp ch b n i o L) (kk : KS C qr r tp ch b n o t i L (match inQ b n false i L with
    | .inr x => .inr x
    | .inl (j, L', m, N) => if strict = false ∧ pk b n (sk b n j) = 58 then slQ b n (some (m, N)) (sk b n j) L' else .inl (j, L', qIdx m N)) Post) : CalG C mtab (d + 6) 60 [svR (some qr), svI (bI strict)] t Post := by
  have hn : n ≤ 1200 := h.1.1.2.2.2.2.2.2.1
  obtain ⟨n1, n2, n3, n4, n5, n6⟩ := h.ne
  have hqN := h.2.2.2.1
  have hrN := h.1.2.2.2.2.2.1
  have hcN := h.1.2.2.2.2.1
  refine cal60 ⟨h.2.2.1.1, q52 (mz := false) h (fun j L' m N e hlt t2 hC2 hX2 g1 g2 g3 => ?_) (fun w p e t2 hD hB => ?_)⟩
  · rw [e] at kk
    have hv2 := hC2.2.2.1
    have hK2 := hC2.1.1.1
    have mk : ∀ t3, CQ t3 qr r tp ch b n j o L' → QX qr r ch t t3 → tN t3 = tN t → tU t3 = tU t → KS C qr r tp ch b n o t i L (.inl (j, L', qIdx m N)) Post → CalG C mtab (d + 5) 109 [svR (some (tN t3)), svI 2] (tNew t3 10 0 8) (aftV (fun v8 t9 => v8 = none ∧ tK t9 (tN t3) = 10 ∧ Post (.inl (some (svR (some (tN t3))))) (sJ t9 (tN t3) 4 (sgC m N))) (fun k10 q11 t12 => Post (.inr (k10, q11)) t12)) := by
      intro t3 hC3 hX3 c1 c2 hk
      refine q109 (fun t4 hF => ?_)
      obtain ⟨f1, ⟨f2, f3⟩, f4, f5, f6, f7, f8⟩ := hF
      refine ⟨rfl, f4, ?_⟩
      rw [c1] at f2 f4 f5 ⊢
      refine hk.1 j L' _ rfl _ ((hC3.old (by omega) (fun x hx _ => f1 x hx)).old (Nat.le_refl _) (fun x _ hx => sameAt_sJ (by rcases hx with rfl | rfl | rfl | rfl <;> first | omega | (have := h.1.2.2.2.2.2.2; omega)))) (hX3.up (by show tN t ≤ tN t4; omega) (fun x hx => (f1 x (by omega)).trans (sameAt_sJ (by omega)))) (fun z => ⟨inQ_lt e z, rfl, ?_⟩) ⟨f4, 2, f5, by omega, rfl⟩ (by show tN t < tN t4; omega) hlt ⟨?_, ?_⟩
      · refine QR.mk (k := 3) (us := []) (av' := []) (F1 := fun _ => False) (by decide) (by decide) ⟨Nat.le_refl _, by show tN t < tN t4; omega⟩ (fun _ z => z.elim) ?_ (Or.inl rfl)
        unfold HL
        rw [if_neg (by decide), if_neg (by decide), if_pos rfl, if_neg (by decide), if_neg (by decide), if_pos rfl]
        refine ⟨f4, f5, ?_⟩
        rw [unI_qI, sJ_eq]; exact sgC_R (g3 z)
      · show tN t4 + 30 ≤ _; omega
      · show tU t4 + 400 ≤ _; omega
    refine ⟨hv2.1, ?_⟩
    rw [hv2.2.1]
    refine ⟨hK2, fun e0 => ⟨hv2.1, ?_⟩, fun e0 => ?_⟩
    · have hst : strict = false := bI_0.mp e0
      have hs := sk_le (b := b) hC2.2.1
      have slo := sk_lo (b := b) (n := n) (i := j)
      have hC3 := hC2.to hs
      refine ⟨hK2, r87 hC2.1.1 hC2.2.1 ⟨rfl, hv2.1, ?_⟩⟩
      rw [hC2.in]
      refine ⟨hK2, r85 hC3.1.1 ⟨fun e58 => ⟨hv2.1, ?_⟩, fun e58 => ⟨hv2.1, ?_⟩⟩⟩
      · have kk' : KS C qr r tp ch b n o t i L (slQ b n (some (m, N)) (sk b n j) L') Post := by
          have := kk
          simp only [hst, e58, and_self, if_true] at this
          exact this
        refine q61 (p := some (m, N)) hC3 e58 rfl (fun z m' N' y => ?_) ((KS.ofX (kk'.imp (P' := aftV (fun v32 t33 => rR v32 (fun x37 => Post (.inl (some (svR x37))) t33)) (fun k34 q35 t36 => Post (.inr (k34, q35)) t36)) (fun _ _ hh => hh) (fun _ hh => hh)) (hX2.trans (QX.rx (RX.I (x := nI (sk b n j)) (Or.inr rfl)))) (by show tN t2 = _; exact g1) (by show tU t2 = _; exact g2) (by omega) L' (fun z => inQ_lt e z)))
        injection y with y
        injection y with y1 y2
        subst y1 y2
        exact sgC_R (g3 z)
      · rw [hC2.in]
        refine ⟨hK2, ?_⟩
        rw [hC2.1.1.2.2.2.2.2.1, sI_sI]
        have kk' : KS C qr r tp ch b n o t i L (.inl (j, L', qIdx m N)) Post := by
          have := kk
          simp only [hst, e58, and_false, if_false] at this
          exact this
        exact mk _ (hC2.to hC2.2.1) (hX2.trans (QX.rx (RX.I (Or.inr rfl)))) g1 g2 kk'
    · have hst : strict = true := by
        cases strict with
        | true => rfl
        | false => exact absurd rfl e0
      have kk' : KS C qr r tp ch b n o t i L (.inl (j, L', qIdx m N)) Post := by
        have := kk
        simp only [hst, Bool.true_eq_false, false_and, if_false] at this
        exact this
      exact mk t2 hC2 hX2 g1 g2 kk'
  · rw [e] at kk
    refine kk.2 w p rfl t2 hD ?_
    unfold BG at hB ⊢
    omega
end QS2
