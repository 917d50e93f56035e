/-! readArgument, and the levels -/
section QAR
variable {C : Cx} {d E : Nat} {Post : OutT → Ht → Prop} {t t' : Ht} {qr r tp ch : Nat} {b : By} {n i o f : Nat} {L : LT}
/-- a LOGIC term behind an OR -/
theorem KA.logic {sp : Qs} {tb : Ht} {p : Int32} (hx : QX qr r ch t tb) (kk : KA C qr r tp ch b n o t i L (lgQ sp) Post) : KFx C [] qr r tp ch b n o 21 210 t tb i L sp (aftV (fun v9 t10 => rR v9 (fun _ => CalG C mtab (d + 4) 111 [svR (some (tN t10)), svI (9 : Int32), svI p] (tNew t10 11 0 9) (aftV (fun v15 t16 => v15 = none ∧ Post (.inl (some (svR (some (tN t10))))) t16) (fun k17 q18 t19 => Post (.inr (k17, q18)) t19)))) (fun k11 q12 t13 => Post (.inr (k11, q12)) t13)) := by
  obtain ⟨k1, k2⟩ := kk
  refine ⟨fun j L' x e t1 a g1 g2 g3 g4 g5 g6 => ?_, fun w q e t1 g1 g2 => ?_⟩
  · refine q111 (k := 9) (by omega) (by omega) (by omega) (fun t2 hF => ⟨rfl, ?_⟩)
    obtain ⟨f1, ⟨f2, f3⟩, f4, f5, f6, f7⟩ := hF
    have hX := hx.trans g2
    have hN := hX.1
    unfold BG at g6
    refine k1 j L' x true (by rw [e]; rfl) t2 (tN t1) (g1.old (by omega) (fun x hx _ => f1 x hx)) (hX.up (by omega) (fun x hx => f1 x (by omega))) (fun z => (g3 z).1) (fun z => by cases z) (fun _ => f5) ⟨f4, by omega, by omega⟩ g5 ⟨by omega, by omega⟩
  · refine k2 w q (by rw [e]; rfl) t1 (QD.of hx g1) ?_
    unfold BG at g2 ⊢
    omega
theorem q79 (hf : f ≤ 16) (ih : ∀ e f0, f = f0 + 1 → P63 C qr r tp ch b n (E + e + 8) f0) (ih9 : ∀ e f0, f = f0 + 1 → P79 C qr r tp ch b n (E + e + 11) f0) (h : CQ t qr r tp ch b n i (16 - f) L) (kk : KA C qr r tp ch b n (16 - f) t i L (arQ b n f (orN b n f) (agN b n f) i L) Post) : CalG C mtab (E + 20) 79 [svR (some qr)] t Post := by
  have hv := h.2.2.1
  have hK := h.1.1.1
  have hi := h.2.1
  have hqN := h.2.2.2.1
  have hrN := h.1.2.2.2.2.2.1
  have hcN := h.1.2.2.2.2.1
  have htN := h.1.2.2.2.2.2.2
  have hn : n ≤ 1200 := h.1.1.2.2.2.2.2.2.1
  have or1 : pk b n i = 33 ∨ pk b n i = 40 → CalG C mtab (E + 19) 63 [svR (some qr), svR none] t (aftV (fun v9 t10 => rR v9 (fun x14 => CalG C mtab (E + 19) 111 [svR (some (tN t10)), svI (9 : Int32), svI (tI t r 4)] (tNew t10 11 0 9) (aftV (fun v15 t16 => v15 = none ∧ Post (.inl (some (svR (some (tN t10))))) t16) (fun k17 q18 t19 => Post (.inr (k17, q18)) t19)))) (fun k11 q12 t13 => Post (.inr (k11, q12)) t13)) := by
    intro hp
    unfold arQ at kk
    rw [if_pos hp] at kk
    exact q63 hf ih ih9 (Or.inl ⟨rfl, rfl, rfl, h, rfl⟩) hi hqN hrN hcN (by omega) (fun a x j L1 z => by cases z) (KA.logic QX.rfl' kk)
  refine cal79 ⟨hv.1, onS hv.2.1 ⟨hK, hv.1, onS hv.2.1 ⟨hK, r85 h.1.1 ⟨fun e33 => ⟨hv.1, or1 (Or.inl e33)⟩, fun e33 => ⟨hv.1, onS hv.2.1 ⟨hK, r85 h.1.1 ⟨fun e40 => ⟨hv.1, or1 (Or.inr e40)⟩, fun e40 => ⟨hv.1, ?_⟩⟩⟩⟩⟩⟩⟩⟩
  unfold arQ at kk
  rw [if_neg (fun w => w.elim e33 e40)] at kk
  refine q74f (E := E + 5) (strict := false) hf (ih 5) (ih9 5) h ⟨fun j L' x e t1 a g1 g2 g3 g4 g5 g6 g7 g8 => ?_, fun w p e t1 g1 g2 => ?_⟩
  · rw [e] at kk
    dsimp only at kk
    have hv1 := g1.2.2.1
    have hK1 := g1.1.1.1
    have hjn := g1.2.1
    have hs := sk_le (b := b) hjn
    have slo := sk_lo (b := b) (n := n) (i := j)
    refine ⟨hv1.1, onS hv1.2.1 ⟨hK1, r87 g1.1.1 hjn ⟨rfl, ?_⟩⟩⟩
    have hC2 := g1.to hs
    have hX2 : QX qr r ch t (sI t1 r 4 (nI (sk b n j))) := g2.trans (QX.rx (RX.I (Or.inr rfl)))
    have hN1 := g2.1
    have sa : ∀ z, tN t ≤ z → sameAt t1 (sI t1 r 4 (nI (sk b n j))) z := fun z hz => sameAt_sI (by omega)
    have hQ2 : L'.1 = 0 → L.1 = 0 ∧ QR C (sI t1 r 4 (nI (sk b n j))) x 7 [] (rg (tN t) (tN (sI t1 r 4 (nI (sk b n j))))) [a] false := fun z => ⟨(g3 z).1, QR.frame (t := t1) (by exact Nat.le_refl _) _ _ _ _ _ _ (g3 z).2 (fun v hv => sa v hv.1)⟩
    have hO2 : OKx (sI t1 r 4 (nI (sk b n j))) a x := by
      obtain ⟨kd, sg, ⟨o1, o2, o3, o4⟩, o5⟩ := g4
      refine ⟨kd, sg, ⟨o1, ((sa a g6.1).2.2.1 0).trans o2, o3, fun z => ?_⟩, o5⟩
      obtain ⟨v, v1, v2, v3, hv⟩ := o4 z
      have : v ≠ r := fun w => by rw [w, g1.1.1.1] at v2; cases v2
      exact ⟨v, v1, v2, (sI_at (by simp [this])).trans v3, hv⟩
    have h61 : tI (sI t1 r 4 (nI (sk b n j))) a 1 = nI i := ((sa a g6.1).2.2.1 1).trans g6.2.2
    have g8' : BG t (sI t1 r 4 (nI (sk b n j))) (sk b n j - i) 34 450 := by
      unfold BG at g8 ⊢
      rw [sIN, sIU]
      omega
    have hk11 : tK (sI t1 r 4 (nI (sk b n j))) a = 11 := by obtain ⟨_, _, ok, _⟩ := g4; exact ok.1
    have haN : a < tN (sI t1 r 4 (nI (sk b n j))) := g6.2.1
    have hk := opQ_k e
    revert hC2 hX2 hQ2 hO2 h61 g8' hk11 haN
    generalize sI t1 r 4 (nI (sk b n j)) = t2
    intro hC2 hX2 hQ2 hO2 h61 g8' hk11 haN
    refine ⟨hC2.2.2.1.1, q80 hC2 hO2 ?_⟩
    have hO : OH C [] qr r tp ch b n (16 - f) t t2 i L (sk b n j) L' x a := OH.mk hC2 hX2 hQ2 hO2 g5 hk ⟨g6.1, haN, h61⟩ (by omega) g8'
    by_cases hc : ((pk b n (sk b n j) = 38 ∨ pk b n (sk b n j) = 124) ∧ isLit x = false) ∨ (isCmp x = true ∧ atOp b n (sk b n j) = true)
    · rw [if_pos hc] at kk
      have hb : (((decide (pk b n (sk b n j) = 38) || decide (pk b n (sk b n j) = 124)) && !isLit x) || (isCmp x && atOp b n (sk b n j))) = true := by simpa using hc
      rw [hb]
      refine ⟨fun z => absurd z (by decide), fun _ => ⟨hC2.2.2.1.1, ?_⟩⟩
      refine q63 hf ih ih9 (Or.inr ⟨a, x, sk b n j, L', rfl, hO, rfl⟩) hi hqN hrN hcN (by omega) (fun a' x' j' L1' z hO' => ?_) (KA.logic hX2 kk)
      have e1 := hO'.1.1.1.2.2.2.2.2.1
      have e2 := hO.1.1.1.2.2.2.2.2.1
      have ej : j' = sk b n j := (nI_eq (by have := hO'.1.2.1; omega) (by omega)).mp (e1.symm.trans e2)
      rw [ej]
      exact g8'
    · rw [if_neg hc] at kk
      have hb : (((decide (pk b n (sk b n j) = 38) || decide (pk b n (sk b n j) = 124)) && !isLit x) || (isCmp x && atOp b n (sk b n j))) = false := by
        cases hz : (((decide (pk b n (sk b n j) = 38) || decide (pk b n (sk b n j) = 124)) && !isLit x) || (isCmp x && atOp b n (sk b n j))) with
        | false => rfl
        | true => exact absurd (by simpa using hz) hc
      rw [hb]
      refine ⟨fun _ => ?_, fun z => absurd rfl z⟩
      refine kk.1 (sk b n j) L' x false rfl t2 a hC2 hX2 (fun z => (hQ2 z).1) (fun _ => ⟨g5, hO2, fun z => (hQ2 z).2⟩) (fun z => by cases z) ⟨hk11, g6.1, haN⟩ (by omega) ?_
      unfold BG at g8' ⊢
      omega
  · rw [e] at kk
    refine kk.2 w p rfl t1 g1 ?_
    unfold BG at g2 ⊢
    omega
end QAR
section QLV
variable {C : Cx} {X : List Nat} {Post : OutT → Ht → Prop} {t tb t' : Ht} {qr r tp ch : Nat} {b : By} {n i o f : Nat} {L : LT}
theorem KFx.le {sp : Qs} {rc rs rc' rs' : Nat} (h : KFx C X qr r tp ch b n o rc rs t tb i L sp Post) (h1 : rc ≤ rc') (h2 : rs ≤ rs') : KFx C X qr r tp ch b n o rc' rs' t tb i L sp Post :=
  ⟨fun j L' x e t' a g1 g2 g3 g4 g5 g6 => h.1 j L' x e t' a g1 g2 g3 g4 g5 (by unfold BG at g6 ⊢; omega), fun w p e t' g1 g2 => h.2 w p e t' g1 (by unfold BG at g2 ⊢; omega)⟩
theorem leQ_1 : (leQ b n f).1 i L = orQ b n f (orN b n f) (agN b n f) (baQ b n f (orN b n f) (agN b n f) i L) := by cases f <;> rfl
theorem leQ_2 : (leQ b n f).2 i L = arQ b n f (orN b n f) (agN b n f) i L := by cases f <;> rfl
theorem qlv : ∀ f, f ≤ 16 → ∀ E, P63 C qr r tp ch b n (E + 11 * f + 19) f ∧ P79 C qr r tp ch b n (E + 11 * f + 20) f := by
  have st : ∀ f E, f ≤ 16 → (∀ e f0, f = f0 + 1 → P63 C qr r tp ch b n (E + e + 8) f0) → (∀ e f0, f = f0 + 1 → P79 C qr r tp ch b n (E + e + 11) f0) → P63 C qr r tp ch b n (E + 19) f ∧ P79 C qr r tp ch b n (E + 20) f := by
    intro f E hf ih ih9
    refine ⟨fun Post t i L h kk => ?_, fun Post t i L h kk => ?_⟩
    · rw [leQ_1] at kk
      exact q63 hf ih ih9 (Or.inl ⟨rfl, rfl, rfl, h, rfl⟩) h.2.1 h.2.2.2.1 h.1.2.2.2.2.2.1 h.1.2.2.2.2.1 (by have := h.1.2.2.2.2.2.2; omega) (fun a x j L1 z => by cases z) ((KFm.x kk QX.rfl').le (by omega) (by omega))
    · rw [leQ_2] at kk
      exact q79 hf ih ih9 h kk
  intro f
  induction f with
  | zero => exact fun hf E => st 0 E hf (fun _ _ z => by omega) (fun _ _ z => by omega)
  | succ f ih =>
    intro hf E
    have ih' := ih (by omega)
    have := st (f + 1) (E + 11 * f + 11) hf (fun e f0 z => by
      have : f0 = f := by omega
      subst this
      have := (ih' (E + e)).1
      rwa [show E + 11 * f0 + 11 + e + 8 = E + e + 11 * f0 + 19 by omega]) (fun e f0 z => by
      have : f0 = f := by omega
      subst this
      have := (ih' (E + e + 2)).2
      rwa [show E + 11 * f0 + 11 + e + 11 = E + e + 2 + 11 * f0 + 20 by omega])
    rwa [show E + 11 * (f + 1) + 19 = E + 11 * f + 11 + 19 by omega, show E + 11 * (f + 1) + 20 = E + 11 * f + 11 + 20 by omega]
end QLV
