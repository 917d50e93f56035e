/-! readFunction, the method -/
def FFn (t t2 : Ht) (kf i : Nat) : Prop := (∀ x, x < tN t → sameAt t t2 x) ∧ (tN t2 = tN t + 2 ∧ tU t2 = tU t + 20) ∧ FCl t t2 (tN t) kf i
/-- the arguments up to ) from the place k on -/
def agR (b : By) (n : Nat) (agD : Nat → LT → (Nat × LT × QF × Bool) ⊕ (Nat × Nat)) (j : Nat) (L : LT) : (Nat × LT × Nat × QF × Bool) ⊕ (Nat × Nat) := if pk b n (sk b n (j + 1)) = 41 then .inl (sk b n (j + 1) + 1, L, 0, qN, false) else agF b n agD (n + 1) (sk b n (j + 1)) L 0 qN false
theorem fnQ_R {b : By} {n f i j : Nat} {L : LT} {agD : Nat → LT → (Nat × LT × QF × Bool) ⊕ (Nat × Nat)} (hf : f ≠ 0) : fnQ b n f agD i j L = (match agR b n agD j L with
  | .inr e => .inr e
  | .inl (k, L', m, x, lg) => if m = 1 ∧ wants (fnK b n i j) x lg then .inl (k, L', qT 26 (qT (fnK b n i j) x)) else .inl (k, noteL L' 2 i, qT 27 qN)) := if_neg hf
def AL (C : Cx) (qr r tp ch : Nat) (b : By) (n o : Nat) (agD : Nat → LT → (Nat × LT × QF × Bool) ⊕ (Nat × Nat)) (t : Ht) (kf i j0 : Nat) (L : LT) (m : Nat) (l2 : Option Nat) (l3 l4 l5 : Int32) (t' : Ht) : Prop :=
  ∃ k Lc mm x lg, l2 = some (tN t) ∧ l3 = nI mm ∧ l5 = nI mm ∧ AS C qr r tp ch b n o t t' kf i j0 L k Lc mm x lg ∧ ((l4 = 1 ∧ m = 4 * (n - k) + 4 ∧ ∃ g, n < g + k ∧ agR b n agD j0 L = agF b n agD g k Lc mm x lg) ∨ (l4 = 0 ∧ m = 3 ∧ agR b n agD j0 L = if pk b n k = 41 then .inl (k + 1, Lc, mm, x, lg) else .inr (1, k)))
section QF3
variable {C : Cx} {d E : Nat} {Post : OutT → Ht → Prop} {t t1 t' : Ht} {qr r tp ch : Nat} {b : By} {n i o f : Nat} {L : LT}
set_option maxHeartbeats 2000000 in
theorem q77 {j0 : Nat} (hf : f ≤ 16) (ih : ∀ f0, f = f0 + 1 → P79 C qr r tp ch b n (E + 11) f0) (h : CQ t qr r tp ch b n j0 (16 - f) L) (hj : j0 < n) (hi : i < j0) (kk : KO C qr r tp ch b n (16 - f) t i L (fnQ b n f (agN b n f) i j0 L) Post) : CalG C mtab (E + 12) 77 [svR (some qr), svI (nI i)] t Post := by
  obtain ⟨n1, n2, n3, n4, n5, n6⟩ := h.ne
  have hqN := h.2.2.2.1
  have hrN := h.1.2.2.2.2.2.1
  have hcN := h.1.2.2.2.2.1
  have htN := h.1.2.2.2.2.2.2
  have hn : n ≤ 1200 := h.1.1.2.2.2.2.2.2.1
  have hk3 : fnK b n i j0 ≤ 3 := by unfold fnK; split <;> (try split) <;> (try split) <;> omega
  have hkf := kfN_f (b := b) (n := n) (x := i) (y := j0) rfl
  have hs1 := sk_le (b := b) (n := n) (i := j0 + 1) (by omega)
  have slo1 := sk_lo (b := b) (n := n) (i := j0 + 1)
  refine cal77 (fun m l2 l3 l4 t' => m = 4 * n + 20 ∧ ∃ m', m' ≤ 4 * n + 4 ∧ AL C qr r tp ch b n (16 - (f - 1)) (agN b n f) t (kfN (fnK b n i j0)) i j0 L m' l2 l3 l4 0 t' ∧ f ≠ 0)
    (fun m l2 l3 l4 l5 t' => AL C qr r tp ch b n (16 - (f - 1)) (agN b n f) t (kfN (fnK b n i j0)) i j0 L m l2 l3 l4 l5 t' ∧ f ≠ 0)
    (fun m l2 l3 l4 l5 t' => m = 2 ∧ f ≠ 0 ∧ ∃ k Lc mm x lg, l2 = some (tN t) ∧ l3 = nI mm ∧ AS C qr r tp ch b n (16 - (f - 1)) t t' (kfN (fnK b n i j0)) i j0 L k Lc mm x lg ∧ agR b n (agN b n f) j0 L = if pk b n k = 41 then .inl (k + 1, Lc, mm, x, lg) else .inr (1, k))
    (fun m l2 l3 l4 l5 t' => m = 1 ∧ l2 = some (tN t) ∧ ∃ k Lc, CQ t' qr r tp ch b n k (16 - f) Lc ∧ QX qr r ch t t' ∧ FCl t t' (tN t) (kfN (fnK b n i j0)) i ∧ fnQ b n f (agN b n f) i j0 L = .inl (k, noteL Lc 2 i, qT 27 qN) ∧ i < k ∧ BG t t' (k - i) 34 450)
    (fun m l2 l3 l4 l5 t' => m = 0 ∧ l2 = some (tN t) ∧ Post (.inl (some (svR (some (tN t))))) t') ?_ ?_ ?_ ?_ ?_ ?_
  · have hC1 : CQ (tNew t 11 0 9) qr r tp ch b n j0 (16 - f) L := h.old (by show tN t ≤ tN t + 1; omega) (fun x hx _ => sameAt_new hx)
    refine ⟨hC1.2.2.1.1, q78 (f := i) hC1 (by omega) ?_⟩
    have e6 : (if fnK b n i j0 = 0 then (8 : Int32) else nI (fnK b n i j0 + 4)) = nI (kfN (fnK b n i j0)) := by
      unfold kfN; split <;> rfl
    rw [e6]
    refine q111 (k := kfN (fnK b n i j0)) (by omega) (by omega) (by omega) (fun t8 hF => ⟨rfl, r26 (kd := 3) (dp := 0) (o := 0) (u := none) (by omega) (fun t13 hG => ⟨rfl, ?_⟩)⟩)
    obtain ⟨f1, ⟨f2, f3⟩, f4, f5, f6, f7⟩ := hF
    obtain ⟨g1, ⟨g2, g3, g4, g5, g6, g7⟩, ⟨g8, g9, g10, g11, g12⟩, g13⟩ := hG
    have s1 := g1 (tN t) (by omega)
    have g14 : tN t13 = tN t8 + 1 ∧ tU t13 = tU t8 + 11 ∧ tR t13 (tN t8) 4 = none := by
      rcases g13 with ⟨-, q1, q2, q3⟩ | ⟨q, -⟩
      · exact ⟨q1, q2, q3⟩
      · omega
    rw [f2] at g2 g3 g8 g14
    rw [f2]
    refine ⟨s1.1.trans f4, ?_⟩
    have hs : ∀ z, z ≠ tN t → sameAt t13 (sR t13 (tN t) 8 (some (tN t + 1))) z := fun z hz => sameAt_sR hz
    have c1 : tK (sR t13 (tN t) 8 (some (tN t + 1))) = tK t13 := sRK
    have c2 : tN (sR t13 (tN t) 8 (some (tN t + 1))) = tN t13 := sRN
    have c3 : tU (sR t13 (tN t) 8 (some (tN t + 1))) = tU t13 := sRU
    have c4 : tI (sR t13 (tN t) 8 (some (tN t + 1))) = tI t13 := sRI
    have c5 : tR (sR t13 (tN t) 8 (some (tN t + 1))) (tN t) 8 = some (tN t + 1) := sR_eq
    revert hs c1 c2 c3 c4 c5
    generalize sR t13 (tN t) 8 (some (tN t + 1)) = t14
    intro hs c1 c2 c3 c4 c5
    have sb := hs (tN t + 1) (by omega)
    have hsm : ∀ x, x < tN t → sameAt t t14 x := fun x hx => ((f1 x hx).trans (g1 x (by omega))).trans (hs x (by omega))
    have hFC : FCl t t14 (tN t) (kfN (fnK b n i j0)) i := ⟨⟨by rw [c1]; exact s1.1.trans f4, by rw [c4]; exact (s1.2.2.1 0).trans f5, by rw [c4]; exact (s1.2.2.1 1).trans f6, c5⟩, sb.1.trans g2, (sb.2.2.1 0).trans g3, (sb.2.2.2.2 4).trans g14.2.2, (sb.2.2.2.2 6).trans g8, rfl, by omega⟩
    have hC14 : CQ t14 qr r tp ch b n j0 (16 - f) L := h.old (by omega) (fun x hx _ => hsm x hx)
    have hX14 : QX qr r ch t t14 := QX.of (by omega) hsm
    refine ⟨hC14.2.2.1.1, q51 hC14 hj (fun ho hC3 hX3 => ?_) (fun ho t7 hD hB => ?_)⟩
    · have hf0 : f ≠ 0 := by omega
      have e16 : 16 - f + 1 = 16 - (f - 1) := by omega
      rw [e16] at hC3 hX3 ⊢
      have d1 : tN (sI (sI t14 qr 1 (nI (16 - (f - 1)))) r 4 (nI (sk b n (j0 + 1)))) = tN t14 := by rw [sIN, sIN]
      have d2 : tU (sI (sI t14 qr 1 (nI (16 - (f - 1)))) r 4 (nI (sk b n (j0 + 1)))) = tU t14 := by rw [sIU, sIU]
      revert hC3 hX3 d1 d2
      generalize sI (sI t14 qr 1 (nI (16 - (f - 1)))) r 4 (nI (sk b n (j0 + 1))) = t7
      intro hC3 hX3 d1 d2
      have hF7 : FCl t t7 (tN t) (kfN (fnK b n i j0)) i := hFC.eq (hX3.same (by omega) (by omega) (by omega) (by omega)) (hX3.same (by omega) (by omega) (by omega) (by omega)) hX3.1
      have hAS : AS C qr r tp ch b n (16 - (f - 1)) t t7 (kfN (fnK b n i j0)) i j0 L (sk b n (j0 + 1)) L 0 qN false := ⟨hC3, hX14.trans hX3, hF7, fun z => z, fun z => (by cases z), by omega, by omega, by omega⟩
      have hR : agR b n (agN b n f) j0 L = (if pk b n (sk b n (j0 + 1)) = 41 then .inl (sk b n (j0 + 1) + 1, L, 0, qN, false) else agF b n (agN b n f) (n + 1) (sk b n (j0 + 1)) L 0 qN false) := rfl
      refine ⟨rfl, hC3.2.2.1.1, onS hC3.2.2.1.2.1 ⟨hC3.1.1.1, r85 hC3.1.1 ⟨fun e41 => ⟨4 * n + 20, rfl, rfl, rfl, 3, by omega, ⟨_, L, 0, qN, false, rfl, rfl, rfl, hAS, Or.inr ⟨rfl, rfl, ?_⟩⟩, hf0⟩, fun e41 => ⟨4 * n + 20, rfl, rfl, rfl, 4 * (n - sk b n (j0 + 1)) + 4, by omega, ⟨_, L, 0, qN, false, rfl, rfl, rfl, hAS, Or.inl ⟨rfl, rfl, n + 1, by omega, ?_⟩⟩, hf0⟩⟩⟩⟩
      · rw [hR, if_pos e41, if_pos e41]
      · rw [hR, if_neg e41]
    · have hf0 : f = 0 := by omega
      refine kk.2 4 j0 (if_pos hf0) t7 (QD.of hX14 hD) ?_
      unfold BG at hB ⊢
      omega
  · rintro m l2 l3 l4 t' ⟨rfl, m', hm', hA, hf0⟩
    exact ⟨m', by omega, rfl, rfl, hA, hf0⟩
  · rintro m l2 l3 l4 l5 t' ⟨⟨k, Lc, mm, x, lg, rfl, rfl, rfl, hA, hAB⟩, hf0⟩
    have hC := hA.1
    have hv' := hC.2.2.1
    have hK' := hC.1.1.1
    have hkn := hC.2.1
    have hmm := hA.2.2.2.2.2.1
    refine ⟨hv'.1, onS hv'.2.1 ⟨hK', ?_⟩⟩
    rw [hC.1.1.2.2.2.2.1]
    refine ⟨fun z => ?_, fun _ => ?_⟩
    · have : n ≤ mm := (nI_leI (by omega) (by omega)).mp z
      omega
    · rcases hAB with ⟨rfl, rfl, g, hg, hR⟩ | ⟨rfl, rfl, hR⟩
      · refine ⟨fun z => absurd z (by decide), fun _ => ⟨hv'.1, ?_⟩⟩
        obtain ⟨f0, rfl⟩ : ∃ f0, f = f0 + 1 := ⟨f - 1, by omega⟩
        obtain ⟨g0, rfl⟩ : ∃ g0, g = g0 + 1 := ⟨g - 1, by omega⟩
        rw [agF] at hR
        have e1 : 16 - (f0 + 1 - 1) = 16 - f0 := rfl
        rw [e1] at hC
        refine ih f0 rfl _ t' k Lc hC ⟨fun j L' y ly e t3 u hC3 hX3 hL3 hf3 ht3 hu3 hkj hB3 => ?_, fun w p e t3 hD hB => ?_⟩
        · have e' : agN b n (f0 + 1) k Lc = .inl (j, L', y, ly) := e
          rw [e'] at hR
          obtain ⟨k11, hA4⟩ := AS.arg hA hqN hrN hcN htN hC3 hX3 hL3 hf3 ht3 hu3 hkj hB3
          refine ⟨k11, ?_⟩
          revert hA4
          generalize sR t3 (tN t) 5 (some u) = t4
          intro hA4
          have hC4 := hA4.1
          have hjn := hC4.2.1
          have hsj := sk_le (b := b) hjn
          have sloj := sk_lo (b := b) (n := n) (i := j)
          refine ⟨hC4.2.2.1.1, onS hC4.2.2.1.2.1 ⟨hC4.1.1.1, r91 hC4.1.1 hjn (fun e44 => ?_) (fun e44 => ?_)⟩⟩
          · have hlt := sk_lt1 (by decide) e44
            have hs2 := sk_le (b := b) (n := n) (i := sk b n j + 1) (by omega)
            have slo2 := sk_lo (b := b) (n := n) (i := sk b n j + 1)
            have hR' : agR b n (agN b n (f0 + 1)) j0 L = agF b n (agN b n (f0 + 1)) g0 (sk b n (sk b n j + 1)) L' (mm + 1) (if mm = 0 then y else x) (if mm = 0 then ly else lg) := by
              rw [hR]; exact if_pos e44
            exact ⟨4 * (n - sk b n (sk b n j + 1)) + 4, by omega, rfl, rfl, ⟨sk b n (sk b n j + 1), L', mm + 1, _, _, rfl, nI_1 mm, nI_1 mm, hA4.to hqN hrN (by omega) hs2, Or.inl ⟨rfl, rfl, g0, by omega, hR'⟩⟩, hf0⟩
          · have hR' : agR b n (agN b n (f0 + 1)) j0 L = if pk b n (sk b n j) = 41 then .inl (sk b n j + 1, L', mm + 1, (if mm = 0 then y else x), (if mm = 0 then ly else lg)) else .inr (1, sk b n j) := by
              rw [hR]; exact if_neg e44
            exact ⟨3, by omega, rfl, rfl, ⟨sk b n j, L', mm + 1, _, _, rfl, nI_1 mm, nI_1 mm, hA4.to hqN hrN (by omega) hsj, Or.inr ⟨rfl, rfl, hR'⟩⟩, hf0⟩
        · have e' : agN b n (f0 + 1) k Lc = .inr (w, p) := e
          rw [e'] at hR
          refine kk.2 w p (by rw [fnQ_R hf0, hR]) t3 (QD.of hA.2.1 hD) ?_
          obtain ⟨-, -, -, -, -, q1, q2, q3⟩ := hA
          unfold BG at hB ⊢
          omega
      · exact ⟨fun _ => ⟨2, by omega, rfl, rfl, rfl, hf0, k, Lc, mm, x, lg, rfl, rfl, hA, hR⟩, fun z => absurd rfl z⟩
  · rintro m l2 l3 l4 l5 t' ⟨rfl, hf0, k, Lc, mm, x, lg, rfl, rfl, hA, hR⟩
    have hC := hA.1
    have hv' := hC.2.2.1
    have hK' := hC.1.1.1
    have hkn := hC.2.1
    have hmm := hA.2.2.2.2.2.1
    refine ⟨hv'.1, onS hv'.2.1 ⟨hK', r88 hC.1.1 (fun e41 => ?_) (fun e41 => ?_)⟩⟩
    · rw [if_pos e41] at hR
      have hlt := (pk_nn e41 (by decide)).1
      have hA1 := hA.to hqN hrN (k' := k + 1) (by omega) (by omega)
      revert hA1
      generalize sI t' r 4 (nI (k + 1)) = t1
      intro hA1
      obtain ⟨hC1, hX1, hF1, hL1, hAA, h1, h2, h3⟩ := hA1
      have hv1 := hC1.2.2.1
      refine ⟨rfl, hv1.1, hv1.1, ?_⟩
      have e1 : nI (16 - (f - 1)) - 1 = nI (16 - f) := by
        rw [show 16 - (f - 1) = (16 - f) + 1 by omega, nI_s1]
      rw [hv1.2.2.1, e1]
      have hC2 : CQ (sI t1 qr 1 (nI (16 - f))) qr r tp ch b n (k + 1) (16 - f) Lc := hC1.qw sI_eq ((sI_at (by omega)).trans hv1.2.2.2.1) (fun z => (sI_at (by omega)).trans (hv1.2.2.2.2 z)) (by omega) hC1.2.2.2.2.2
      have hX2 : QX qr r ch t (sI t1 qr 1 (nI (16 - f))) := hX1.trans (QX.I (Or.inl rfl))
      have hs : ∀ z, z ≠ qr → sameAt t1 (sI t1 qr 1 (nI (16 - f))) z := fun z hz => sameAt_sI hz
      have c2 : tN (sI t1 qr 1 (nI (16 - f))) = tN t1 := sIN
      have c3 : tU (sI t1 qr 1 (nI (16 - f))) = tU t1 := sIU
      revert hC2 hX2 hs c2 c3
      generalize sI t1 qr 1 (nI (16 - f)) = t2
      intro hC2 hX2 hs c2 c3
      have hF2 : FCl t t2 (tN t) (kfN (fnK b n i j0)) i := hF1.eq (hs _ (by omega)) (hs _ (by omega)) (by omega)
      have hB2 : BG t t2 (k + 1 - i) 34 450 := ⟨by omega, by omega⟩
      have bad : (mm = 1 → wants (fnK b n i j0) x lg = false) → fnQ b n f (agN b n f) i j0 L = .inl (k + 1, noteL Lc 2 i, qT 27 qN) := fun hz => by
        rw [fnQ_R hf0, hR]
        exact if_neg (fun y => by have := hz y.1; rw [this] at y; cases y.2)
      refine ⟨fun e => ?_, fun e => ?_⟩
      · have hm1 : mm = 1 := (nI_eq (b := 1) (by omega) (by decide)).mp e
        have hA2 : AA C t t2 Lc x lg := (hAA hm1).eq hC1 hqN hrN (fun z _ z2 => hs z z2) c2
        obtain ⟨u, kd, sg, w1, w2, w3⟩ := hA2.wants hk3
        refine ⟨hF2.1.1, hF2.1.1, ?_⟩
        rw [w1]
        refine q117 (kf := kfN (fnK b n i j0)) ⟨hF2.1.1, hF2.1.2.1, by omega⟩ w2 ?_
        rw [← w3]
        cases hw : wants (fnK b n i j0) x lg with
        | false => exact ⟨fun _ => ⟨1, by omega, rfl, rfl, rfl, rfl, k + 1, Lc, hC2, hX2, hF2, bad (fun _ => hw), by omega, hB2⟩, fun z => absurd rfl z⟩
        | true =>
          have hlg : lg = false := by
            cases lg with
            | false => rfl
            | true => exact absurd hw (by show ¬ (!true && _) = true; simp)
          subst hlg
          have hk1 : 1 ≤ fnK b n i j0 := by
            rcases Nat.eq_zero_or_pos (fnK b n i j0) with z | z
            · rw [z] at hw; cases hw
            · exact z
          refine ⟨fun z => absurd z (by decide), fun _ => ⟨0, by omega, rfl, rfl, rfl, rfl, KO.f26 (k := fnK b n i j0) (kf := kfN (fnK b n i j0)) kk ?_ hL1 ⟨hk1, hk3, ?_⟩ hC2 hX2 hF2 hA2 (by omega) hB2⟩⟩
          · rw [fnQ_R hf0, hR]
            exact if_pos ⟨hm1, hw⟩
          · unfold kfN; rw [if_neg (by omega)]
      · have hm1 : mm ≠ 1 := fun z => e (by rw [z]; rfl)
        exact ⟨1, by omega, rfl, rfl, rfl, rfl, k + 1, Lc, hC2, hX2, hF2, bad (fun z => absurd z hm1), by omega, hB2⟩
    · rw [if_neg e41] at hR
      obtain ⟨g1, g2, g3⟩ := hC.bad (w := 1) (p := k) RX.rfl' rfl rfl
      obtain ⟨-, hX, -, -, -, q1, q2, q3⟩ := hA
      refine kk.2 1 k (by rw [fnQ_R hf0, hR]) _ (QD.of hX g1) ⟨?_, ?_⟩
      · show tN t' + 1 + 34 ≤ _; omega
      · show tU t' + 6 + 450 ≤ _; omega
  · rintro m l2 l3 l4 l5 t' ⟨rfl, rfl, k, Lc, hC, hX, hF, hsp, hik, hB⟩
    refine ⟨hC.2.2.1.1, q50 (k := 2) hC (by omega) (by omega) (fun t2 g1 g2 g3 g4 => ⟨rfl, 0, by omega, rfl, rfl, rfl, rfl, KO.f27 kk hsp (noteL_n (by decide)) hkf g1 (hX.trans g2) (hF.eq (g2.same (by have := hF.2.2.2.2.2; omega) (by omega) (by omega) (by omega)) (g2.same (by have := hF.2.2.2.2.2; omega) (by omega) (by omega) (by omega)) g2.1) hik ?_⟩)⟩
    unfold BG at hB ⊢
    omega
  · rintro m l2 l3 l4 l5 t' ⟨rfl, rfl, hP⟩
    exact hP
end QF3
