/-! readBasicFrom, readNegatedTest, readGroup -/
/-- a negated test -/
def ngQ (b : By) (n f i : Nat) (L : LT) : Qs := if atInt b n i || atStr b n i then .inr (1, i) else match opQ b n f (orN b n f) (agN b n f) false i L with
  | .inr e => .inr e
  | .inl (j, L', x) => tsQ x i j L'
section QBA
variable {C : Cx} {X : List Nat} {d E : Nat} {Post : OutT → Ht → Prop} {t t1 t' : Ht} {qr r tp ch : Nat} {b : By} {n i o f : Nat} {L : LT}
theorem bfQ_e {x : QF} {h j : Nat} : bfQ b n f (orN b n f) (agN b n f) x h j L = if isCmp x && atOp b n (sk b n j) then cpQ b n f x (sk b n j) L else tsQ x h (sk b n j) L := rfl
theorem KFm.ofX {sp : Qs} {rc rs j : Nat} {t1 : Ht} (h : KFm C qr r tp ch b n o rc rs t i L sp Post) (hx : QX qr r ch t t1) (hN : tN t1 = tN t) (hU : tU t1 = tU t) (hij : i ≤ j) : KFm C qr r tp ch b n o rc rs t1 j L sp Post := by
  refine ⟨fun k L' x e t' a g1 g2 g3 g4 g5 g6 => ?_, fun w p e t' g1 g2 => ?_⟩
  · rw [hN] at g3 g4
    refine h.1 k L' x e t' a g1 (hx.trans g2) g3 g4 (by omega) ?_
    unfold BG at g6 ⊢
    omega
  · refine h.2 w p e t' (QD.of hx g1) ?_
    unfold BG at g2 ⊢
    omega
theorem q69 {j a : Nat} {L1 : LT} {x : QF} (hf : f ≤ 16) (ih : ∀ f0, f = f0 + 1 → P63 C qr r tp ch b n (E + 8) f0) (ih9 : ∀ f0, f = f0 + 1 → P79 C qr r tp ch b n (E + 11) f0) (h : OH C X qr r tp ch b n (16 - f) t t1 i L j L1 x a) (hq : qr < tN t) (hr : r < tN t) (hc : ch < tN t) (htp : tp < tN t) (hi : i ≤ n) (kk : KFx C X qr r tp ch b n (16 - f) 30 400 t t1 i L (bfQ b n f (orN b n f) (agN b n f) x i j L1) Post) : CalG C mtab (E + 16) 69 [svR (some qr), svR (some a)] t1 Post := by
  have hC := h.1
  have hs := sk_le (b := b) hC.2.1
  have slo := sk_lo (b := b) (n := n) (i := j)
  refine cal69 ⟨hC.2.2.1.1, onS hC.2.2.1.2.1 ⟨hC.1.1.1, r87 hC.1.1 hC.2.1 ⟨rfl, ?_⟩⟩⟩
  have h2 := h.to hq hr slo hs
  have hX12 : QX qr r ch t1 (sI t1 r 4 (nI (sk b n j))) := QX.rx (RX.I (Or.inr rfl))
  revert h2 hX12
  generalize sI t1 r 4 (nI (sk b n j)) = t2
  intro h2 hX12
  obtain ⟨kd, sg, ok, o5, -⟩ := h2.2.2.2.1
  have hv2 := h2.1.2.2.1
  rw [bfQ_e] at kk
  have kk := kk.ofb hX12
  refine ⟨ok.1, q116 ok ?_⟩
  rw [← o5]
  cases hcm : isCmp x with
  | false =>
    rw [hcm, if_neg (by simp)] at kk
    exact ⟨fun _ => ⟨hv2.1, q70 h2 hq hr hc hi (kk.imp (fun _ _ z => z) (fun _ z => z))⟩, fun z => absurd rfl z⟩
  | true =>
    rw [hcm] at kk
    refine ⟨fun z => absurd z (by decide), fun _ => ⟨hv2.1, q71 h2.1 ?_⟩⟩
    cases hop : atOp b n (sk b n j) with
    | false =>
      rw [hop, if_neg (by simp)] at kk
      exact ⟨fun _ => ⟨hv2.1, q70 h2 hq hr hc hi (kk.imp (fun _ _ z => z) (fun _ z => z))⟩, fun z => absurd rfl z⟩
    | true =>
      rw [hop, if_pos (by simp)] at kk
      exact ⟨fun z => absurd z (by decide), fun _ => ⟨hv2.1, q72 (E := E) hf ih ih9 h2 hq hr hc htp hop (kk.imp (fun _ _ z => z) (fun _ z => z))⟩⟩
theorem q68 (hf : f ≤ 16) (ih : ∀ f0, f = f0 + 1 → P63 C qr r tp ch b n (E + 8) f0) (ih9 : ∀ f0, f = f0 + 1 → P79 C qr r tp ch b n (E + 11) f0) (h : CQ t qr r tp ch b n i (16 - f) L) (kk : KFm C qr r tp ch b n (16 - f) 30 400 t i L (ngQ b n f i L) Post) : CalG C mtab (E + 15) 68 [svR (some qr)] t Post := by
  have hv := h.2.2.1
  have hK := h.1.1.1
  have hat := h.1.1.2.2.2.2.2.1
  have hqN := h.2.2.2.1
  have hrN := h.1.2.2.2.2.2.1
  have hcN := h.1.2.2.2.2.1
  have hin := h.2.1
  unfold ngQ at kk
  have bad : KFm C qr r tp ch b n (16 - f) 30 400 t i L (.inr (1, i)) Post → ∀ t', QD qr r ch t t' 1 i → BG t t' (n + 1 - i) 39 590 → Post (.inr (200, 0)) t' := fun hh t' hD hB => by
    refine hh.2 1 i rfl t' hD ?_
    unfold BG at hB ⊢
    omega
  refine cal68 ⟨hv.1, q53 h ?_⟩
  cases hai : atInt b n i with
  | true =>
    rw [hai, if_pos (by simp)] at kk
    exact ⟨fun z => absurd z (by decide), fun _ => ⟨hv.1, hv.1, onS hv.2.1 ⟨hK, onS hv.2.1 ⟨hK, h.fl rfl hat (bad kk)⟩⟩⟩⟩
  | false =>
    rw [hai] at kk
    refine ⟨fun _ => ⟨hv.1, q54 h ?_⟩, fun z => absurd rfl z⟩
    cases has : atStr b n i with
    | true =>
      rw [has, if_pos (by simp)] at kk
      exact ⟨fun z => absurd z (by decide), fun _ => ⟨hv.1, hv.1, onS hv.2.1 ⟨hK, onS hv.2.1 ⟨hK, h.fl rfl hat (bad kk)⟩⟩⟩⟩
    | false =>
      rw [has, if_neg (by simp)] at kk
      refine ⟨fun _ => ⟨hv.1, q74f (E := E) (strict := false) hf ih ih9 h ⟨fun j L' x e t' a g1 g2 g3 g4 g5 g6 g7 g8 => ?_, fun w p e t' hD hB => ?_⟩⟩, fun z => absurd rfl z⟩
      · rw [e] at kk
        exact ⟨g1.2.2.1.1, q70 (OH.mk g1 g2 g3 g4 g5 (opQ_k e) g6 g7 g8) hqN hrN hcN hin ((kk.x g2).imp (fun _ _ z => z) (fun _ z => z))⟩
      · rw [e] at kk
        refine kk.2 w p rfl t' hD ?_
        unfold BG at hB ⊢
        omega
set_option maxHeartbeats 1000000 in
theorem q67 (hf : f ≤ 16) (ih : ∀ f0, f = f0 + 1 → P63 C qr r tp ch b n (E + 8) f0) (h : CQ t qr r tp ch b n i (16 - f) L) (hi : i < n) (kk : KFm C qr r tp ch b n (16 - f) 30 400 t i L (grQ b n f (orN b n f) i L) Post) : CalG C mtab (E + 9) 67 [svR (some qr)] t Post := by
  obtain ⟨k1, k2⟩ := kk
  obtain ⟨n1, n2, n3, n4, n5, n6⟩ := h.ne
  have hqN := h.2.2.2.1
  have hrN := h.1.2.2.2.2.2.1
  have hcN := h.1.2.2.2.2.1
  have slo := sk_lo (b := b) (n := n) (i := i + 1)
  refine cal67 ⟨h.2.2.1.1, q51 h hi (fun ho hC3 hX3 => ?_) (fun ho t7 hD hB => ?_)⟩
  · obtain ⟨f0, rfl⟩ : ∃ f0, f = f0 + 1 := ⟨f - 1, by omega⟩
    rw [show 16 - (f0 + 1) + 1 = 16 - f0 by omega] at hC3 hX3 ⊢
    have c1 : tN (sI (sI t qr 1 (nI (16 - f0))) r 4 (nI (sk b n (i + 1)))) = tN t := by rw [sIN, sIN]
    have c2 : tU (sI (sI t qr 1 (nI (16 - f0))) r 4 (nI (sk b n (i + 1)))) = tU t := by rw [sIU, sIU]
    revert hC3 hX3 c1 c2
    generalize sI (sI t qr 1 (nI (16 - f0))) r 4 (nI (sk b n (i + 1))) = t7
    intro hC3 hX3 c1 c2
    have hsp : grQ b n (f0 + 1) (orN b n (f0 + 1)) i L = (match (leQ b n f0).1 (sk b n (i + 1)) L with
        | .inr e => .inr e
        | .inl (j, L', x) => if pk b n j = 41 then .inl (j + 1, L', x) else .inr (1, j)) := if_neg (by omega)
    refine ⟨rfl, hC3.2.2.1.1, ih f0 rfl _ t7 _ L hC3 ⟨fun j L' x e t8 a hC4 hX4 hQ hA hij hB => ?_, fun w p e t8 hD hB => ?_⟩⟩
    · rw [e] at hsp
      rw [c1] at hQ hA
      have hN8 := hX4.1
      unfold BG at hB
      refine ⟨hC4.2.2.1.1, onS hC4.2.2.1.2.1 ⟨hC4.1.1.1, r88 hC4.1.1 (fun e41 => ?_) (fun e41 => ?_)⟩⟩
      · have hsp' : grQ b n (f0 + 1) (orN b n (f0 + 1)) i L = .inl (j + 1, L', x) := by rw [hsp]; exact if_pos e41
        have hlt := (pk_nn e41 (by decide)).1
        have hC5 := hC4.to (j := j + 1) (by omega)
        have hX5 : QX qr r ch t (sI t8 r 4 (nI (j + 1))) := (hX3.trans hX4).trans (QX.rx (RX.I (Or.inr rfl)))
        have hs5 : ∀ z, z ≠ r → sameAt t8 (sI t8 r 4 (nI (j + 1))) z := fun z hz => sameAt_sI hz
        have c3 : tN (sI t8 r 4 (nI (j + 1))) = tN t8 := sIN
        have c4 : tU (sI t8 r 4 (nI (j + 1))) = tU t8 := sIU
        revert hC5 hX5 hs5 c3 c4
        generalize sI t8 r 4 (nI (j + 1)) = t9
        intro hC5 hX5 hs5 c3 c4
        have hv5 := hC5.2.2.1
        refine ⟨rfl, hv5.1, hv5.1, ?_⟩
        rw [hv5.2.2.1, nI_o hf]
        have hC6 : CQ (sI t9 qr 1 (nI (16 - (f0 + 1)))) qr r tp ch b n (j + 1) (16 - (f0 + 1)) L' := hC5.qw sI_eq ((sI_at (by omega)).trans hv5.2.2.2.1) (fun z => (sI_at (by omega)).trans (hv5.2.2.2.2 z)) (by omega) hC5.2.2.2.2.2
        have hX6 : QX qr r ch t (sI t9 qr 1 (nI (16 - (f0 + 1)))) := hX5.trans (QX.I (Or.inl rfl))
        have hs6 : ∀ z, z ≠ r → z ≠ qr → sameAt t8 (sI t9 qr 1 (nI (16 - (f0 + 1)))) z := fun z z1 z2 => (hs5 z z1).trans (sameAt_sI z2)
        have c5 : tN (sI t9 qr 1 (nI (16 - (f0 + 1)))) = tN t8 := by rw [sIN]; exact c3
        have c6 : tU (sI t9 qr 1 (nI (16 - (f0 + 1)))) = tU t8 := by rw [sIU]; exact c4
        revert hC6 hX6 hs6 c5 c6
        generalize sI t9 qr 1 (nI (16 - (f0 + 1))) = t10
        intro hC6 hX6 hs6 c5 c6
        refine k1 (j + 1) L' x hsp' t10 a hC6 hX6 (fun z => ?_) ⟨(hs6 a (by omega) (by omega)).1.trans hA.1, by omega, by omega⟩ (by omega) ⟨by omega, by omega⟩
        obtain ⟨z1, z2, z3⟩ := hQ z
        rw [c5]
        exact ⟨z1, z2, QR.frame (t := t8) (t' := t10) (by omega) _ _ _ _ _ _ z3 (fun v hv => hs6 v (by have := hv.1; omega) (by have := hv.1; omega))⟩
      · have hsp' : grQ b n (f0 + 1) (orN b n (f0 + 1)) i L = .inr (1, j) := by rw [hsp]; exact if_neg e41
        have hjn := hC4.2.1
        obtain ⟨g1, g2, g3⟩ := hC4.bad (w := 1) (p := j) RX.rfl' rfl rfl
        refine k2 1 j hsp' _ (QD.of (hX3.trans hX4) g1) ⟨?_, ?_⟩
        · show tN t8 + 1 + 30 ≤ _; omega
        · show tU t8 + 6 + 400 ≤ _; omega
    · rw [e] at hsp
      refine k2 w p hsp t8 (QD.of hX3 hD) ?_
      unfold BG at hB ⊢
      omega
  · have hf0 : f = 0 := by omega
    refine k2 4 i (if_pos hf0) t7 hD ?_
    unfold BG at hB ⊢
    omega
end QBA
