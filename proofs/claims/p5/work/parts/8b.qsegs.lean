/-! readSegments -/
/-- a path with its segments so far -/
def SS (C : Cx) (qr r tp ch : Nat) (b : By) (n o : Nat) (t t' : Ht) (p lp i : Nat) (L : LT) (j : Nat) (Lc : LT) (s : Bool) (x : QF) (us : List Nat) (c e : Nat) : Prop :=
  CQ t' qr r tp ch b n j o Lc ∧ QXe [p, lp] qr r ch t t' ∧ (LsA C t' lp us c e ∧ 2 * c ≤ 3 * us.length + 20 ∧ (0 < c → tN t ≤ e ∧ e < tN t')) ∧ (Lc.1 = 0 → L.1 = 0 ∧ qL x = true ∧ QR C t' x 1 [p, lp, e] (rg (tN t) (tN t')) us false) ∧ (∀ z ∈ us, tK t' z = 9 ∧ z < tN t') ∧ (tI t' p 2 = bI s ∧ tI t' p 0 = tI t p 0 ∧ tR t' p 1 = some lp ∧ tK t' p = 5) ∧ 2 * us.length + i + 1 ≤ j ∧ tN t' + 40 ≤ tN t + 40 * (j - i) ∧ tU t' + 600 ≤ tU t + 600 * (j - i)
def KPt (C : Cx) (qr r tp ch : Nat) (b : By) (n o : Nat) (t : Ht) (p lp i : Nat) (L : LT) (sp : (Nat × Nat × LT × Bool × QF) ⊕ (Nat × Nat)) (Post : OutT → Ht → Prop) : Prop :=
  (∀ j hh L' s x, sp = .inl (j, hh, L', s, x) → ∀ t' us c e, SS C qr r tp ch b n o t t' p lp i L j L' s x us c e → hh ≤ n → Post (.inl (some (svI (nI hh)))) t') ∧
  (∀ w q, sp = .inr (w, q) → ∀ t', QDe [p, lp] qr r ch t t' w q → BG t t' (n + 1 - i) 40 600 → Post (.inr (200, 0)) t')
def SL (C : Cx) (qr r tp ch : Nat) (b : By) (n f : Nat) (strict : Bool) (t : Ht) (p lp i : Nat) (L : LT) (m : Nat) (l3 l4 : Int32) (t' : Ht) : Prop :=
  ∃ g j hh Lc s x us c e, m = n - j ∧ l3 = nI hh ∧ l4 = nI us.length ∧ n < g + j ∧ hh ≤ n ∧ SS C qr r tp ch b n (16 - f) t t' p lp i L j Lc s x us c e ∧ sgF b n f (orN b n f) strict g j hh Lc s x = sgS b n f (orN b n f) strict (i + 1) L
section QSS
variable {C : Cx} {d E : Nat} {Post : OutT → Ht → Prop} {t t1 t' : Ht} {qr r tp ch : Nat} {b : By} {n i o f : Nat} {L : LT}
theorem SS.to {p lp j k c e : Nat} {Lc : LT} {s : Bool} {x : QF} {us : List Nat} (h : SS C qr r tp ch b n o t t' p lp i L j Lc s x us c e) (hr : r < tN t) (hjk : j ≤ k) (hk : k ≤ n) : SS C qr r tp ch b n o t (sI t' r 4 (nI k)) p lp i L k Lc s x us c e := by
  obtain ⟨hC, hX, ⟨l1, l2, l3⟩, hQ, hus, ⟨p1, p2, p3, p4⟩, h1, h2, h3⟩ := h
  have hC1 := hC.to hk
  have hX1 : QXe [p, lp] qr r ch t (sI t' r 4 (nI k)) := hX.trans (QXe.rx (QX.rx (RX.I (Or.inr rfl))))
  have hs : ∀ y, y ≠ r → sameAt t' (sI t' r 4 (nI k)) y := fun y hy => sameAt_sI hy
  have b3 : tN (sI t' r 4 (nI k)) = tN t' := sIN
  have b4 : tU (sI t' r 4 (nI k)) = tU t' := sIU
  revert hC1 hX1 hs b3 b4
  generalize sI t' r 4 (nI k) = t1
  intro hC1 hX1 hs b3 b4
  have sp := hs p (hC.nk p4 (by omega)).2.1
  have sl := hs lp (hC.nk l1.1 (by omega)).2.1
  refine ⟨hC1, hX1, ⟨l1.frame (by omega) sl (fun z => hs e (hC.nk (l1.kd z).1 (by omega)).2.1), l2, by rw [b3]; exact l3⟩, fun z => ?_, fun z hz => ?_, ⟨(sp.2.2.1 2).trans p1, (sp.2.2.1 0).trans p2, (sp.2.2.2.2 1).trans p3, sp.1.trans p4⟩, by omega, by omega, by omega⟩
  · obtain ⟨z1, z2, z3⟩ := hQ z
    rw [b3]
    exact ⟨z1, z2, QR.frame (t := t') (t' := t1) (by omega) _ _ _ _ _ _ z3 (fun v hv => hs v (by have := hv.1; omega))⟩
  · obtain ⟨z1, z2⟩ := hus z hz
    exact ⟨(hs z (hC.nk z1 (by omega)).2.1).1.trans z1, by omega⟩
set_option maxHeartbeats 1000000 in
/-- one more segment -/
theorem SS.next {p lp j k c e c' e' : Nat} {Lc L' : LT} {s s' : Bool} {x y : QF} {us : List Nat} {t2 : Ht} (h : SS C qr r tp ch b n o t t' p lp i L j Lc s x us c e) (hqN : qr < tN t) (hrN : r < tN t) (hcN : ch < tN t) (hpN : p < tN t) (hlN : lp < tN t)
    (hC : CQ t2 qr r tp ch b n k o L') (hX : QXe (pX p lp c e) qr r ch t' t2) (hl : LsA C t2 lp (us ++ [tN t']) c' e') (hc : 2 * c' ≤ 3 * (us.length + 1) + 20) (h0 : 0 < c') (he : (0 < c ∧ e' = e) ∨ (tN t' ≤ e' ∧ e' < tN t2)) (hp : tI t2 p 2 = bI (s && s') ∧ tI t2 p 0 = tI t' p 0 ∧ tR t2 p 1 = some lp ∧ tK t2 p = 5) (hK : tK t2 (tN t') = 9) (hN : tN t' < tN t2) (hQ : L'.1 = 0 → Lc.1 = 0 ∧ QR C t2 y 1 [] (fun z => rg (tN t') (tN t2) z ∧ z ≠ e') [tN t'] false) (hB : BG t' t2 (k - j) 50 30) (hjk : j < k) : SS C qr r tp ch b n o t t2 p lp i L k L' (s && s') (qApp x y) (us ++ [tN t']) c' e' := by
  obtain ⟨hC0, hX0, ⟨l1, l2, l3⟩, hQ0, hus, ⟨p1, p2, p3, p4⟩, h1, h2, h3⟩ := h
  have hN0 := hX0.1
  unfold BG at hB
  have hlen : (us ++ [tN t']).length = us.length + 1 := by simp
  refine ⟨hC, hX0.up hX (fun v hv => ?_), ⟨hl, by rw [hlen]; exact hc, fun _ => ?_⟩, fun z => ?_, fun z hz => ?_, ⟨hp.1, hp.2.1.trans p2, hp.2.2.1, hp.2.2.2⟩, by rw [hlen]; omega, by omega, by omega⟩
  · unfold pX at hv
    rcases List.mem_cons.mp hv with hv | hv
    · exact Or.inl (by simp [hv])
    rcases List.mem_cons.mp hv with hv | hv
    · exact Or.inl (by simp [hv])
    · by_cases hc0 : 0 < c
      · rw [if_pos hc0] at hv
        exact Or.inr (by rw [List.mem_singleton.mp hv]; exact (l3 hc0).1)
      · rw [if_neg hc0] at hv; cases hv
  · rcases he with ⟨z1, z2⟩ | ⟨z1, z2⟩
    · have := l3 z1; omega
    · omega
  · obtain ⟨z1, z2⟩ := hQ z
    obtain ⟨w1, w2, w3⟩ := hQ0 z1
    have a1 : QR C t2 x 1 [p, lp, e] (rg (tN t) (tN t')) us false := QR.frameL (t := t') (t' := t2) (by omega) _ _ _ _ _ _ w2 (by decide) (by decide) w3 (fun v hv v3 => hX.same hv.2 (nX (fun zz => v3 (by simp [zz])) (fun zz => v3 (by simp [zz])) (fun _ zz => v3 (by simp [zz]))) (by have := hv.1; omega) (by have := hv.1; omega) (by have := hv.1; omega))
    have a2 : QR C t2 x 1 [p, lp, e'] (rg (tN t) (tN t2)) us false := QR.avL _ _ _ _ _ _ _ _ w2 (by decide) (by decide) a1 (fun v hv => ⟨hv.1, by have := hv.2; omega⟩) (fun v hv => by
      simp only [List.mem_cons, List.not_mem_nil, or_false] at hv ⊢
      rcases hv with rfl | rfl | rfl
      · exact Or.inl (Or.inl rfl)
      · exact Or.inl (Or.inr (Or.inl rfl))
      · rcases he with ⟨q1, q2⟩ | ⟨q1, -⟩
        · exact Or.inl (Or.inr (Or.inr q2))
        · exact Or.inr (fun w => by have := w.2; omega))
    obtain ⟨b1, b2, b3⟩ := QR.app (F := rg (tN t) (tN t2)) (av := [p, lp, e']) (by decide) (by decide) (fun v hv => ⟨by have := hv.1.1; omega, hv.1.2⟩) (fun v hv w => by
      simp only [List.mem_cons, List.not_mem_nil, or_false] at hv
      have w1 := w.1.1
      have w3 := w.2
      rcases hv with rfl | rfl | rfl
      · omega
      · omega
      · exact w3 rfl) z2 x us false w2 a2
    exact ⟨w1, b2, b1⟩
  · rcases List.mem_append.mp hz with hz | hz
    · obtain ⟨z1, z2⟩ := hus z hz
      have zn : z ∉ pX p lp c e := nX (fun zz => by rw [zz, p4] at z1; cases z1) (fun zz => by rw [zz, l1.1] at z1; cases z1) (fun c0 zz => by rw [zz, (l1.kd c0).1] at z1; cases z1)
      exact ⟨(hX.2.1 z z2 zn).1.trans z1, by omega⟩
    · rw [List.mem_singleton.mp hz]; exact ⟨hK, hN⟩
set_option maxHeartbeats 2000000 in
theorem q55 {strict : Bool} {p lp : Nat} (hf : f ≤ 16) (ih : ∀ f0, f = f0 + 1 → P63 C qr r tp ch b n (E + 8) f0) (h : CQ t qr r tp ch b n i (16 - f) L) (hi : i < n) (hp : tK t p = 5 ∧ tR t p 1 = some lp ∧ p < tN t ∧ tI t p 2 = 1) (hl : LsA C t lp [] 0 0)
    (kk : KPt C qr r tp ch b n (16 - f) t p lp i L (sgS b n f (orN b n f) strict (i + 1) L) Post) : CalG C mtab (E + 13) 55 [svR (some qr), svR (some p), svI (bI strict)] t Post := by
  obtain ⟨k1, k2⟩ := kk
  have hqN := h.2.2.2.1
  have hrN := h.1.2.2.2.2.2.1
  have hcN := h.1.2.2.2.2.1
  have hlN := hl.2.2.2.2.1
  have hpN := hp.2.2.1
  have hn : n ≤ 1200 := h.1.1.2.2.2.2.2.2.1
  have hv := h.2.2.1
  have hK := h.1.1.1
  have hs1 := sk_le (b := b) (n := n) (i := i + 1) (by omega)
  have slo1 := sk_lo (b := b) (n := n) (i := i + 1)
  refine cal55 (fun m l3 l4 t' => SL C qr r tp ch b n f strict t p lp i L m l3 l4 t') ?_ ?_
  · have hC1 := h.to (j := i + 1) (by omega)
    refine ⟨hv.1, onS hv.2.1 ⟨hK, onS hv.2.1 ⟨hK, ?_⟩⟩⟩
    rw [h.1.1.2.2.2.2.2.1, nI_1]
    have hC2 := hC1.to hs1
    have hS : SS C qr r tp ch b n (16 - f) t (sI (sI t r 4 (nI (i + 1))) r 4 (nI (sk b n (i + 1)))) p lp i L (sk b n (i + 1)) L true qN [] 0 0 := by
      have nl := h.nk hl.1 (by omega)
      have hs : ∀ y, y ≠ r → sameAt t (sI (sI t r 4 (nI (i + 1))) r 4 (nI (sk b n (i + 1)))) y := fun y hy => (sameAt_sI hy).trans (sameAt_sI hy)
      have hX2 : QXe [p, lp] qr r ch t (sI (sI t r 4 (nI (i + 1))) r 4 (nI (sk b n (i + 1)))) := QXe.rx ((QX.rx (RX.I (Or.inr rfl))).trans (QX.rx (RX.I (Or.inr rfl))))
      have b3 : tN (sI (sI t r 4 (nI (i + 1))) r 4 (nI (sk b n (i + 1)))) = tN t := by rw [sIN, sIN]
      have b4 : tU (sI (sI t r 4 (nI (i + 1))) r 4 (nI (sk b n (i + 1)))) = tU t := by rw [sIU, sIU]
      revert hC2 hX2 hs b3 b4
      generalize sI (sI t r 4 (nI (i + 1))) r 4 (nI (sk b n (i + 1))) = t2
      intro hC2 hs hX2 b3 b4
      have sp := hs p (h.nk hp.1 (by omega)).2.1
      exact ⟨hC2, hX2, ⟨hl.frame (by omega) (hs lp nl.2.1) (fun z => absurd z (Nat.lt_irrefl _)), by simp, fun z => absurd z (Nat.lt_irrefl _)⟩, fun z => ⟨z, rfl, rfl⟩, fun z hz => (by cases hz), ⟨(sp.2.2.1 2).trans hp.2.2.2, sp.2.2.1 0, (sp.2.2.2.2 1).trans hp.2.1, sp.1.trans hp.1⟩, by simp; omega, by omega, by omega⟩
    have hat1 := hC1.1.1.2.2.2.2.2.1
    have hv1 := hC1.2.2.1
    have hK1 := hC1.1.1.1
    revert hC1 hS hat1 hv1 hK1
    generalize sI t r 4 (nI (i + 1)) = t1
    intro hC1 hS hat1 hv1 hK1
    refine ⟨hv1.1, onS hv1.2.1 ⟨hK1, hv1.1, onS hv1.2.1 ⟨hK1, r87 hC1.1.1 hC1.2.1 ⟨rfl, ?_⟩⟩⟩⟩
    rw [hat1]
    exact ⟨n - sk b n (i + 1), rfl, rfl, rfl, n + 1, sk b n (i + 1), i + 1, L, true, qN, [], 0, 0, rfl, rfl, rfl, by omega, by omega, hS, rfl⟩
  · rintro m l3 l4 t' ⟨g, j, hh, Lc, s, x, us, c, e, rfl, rfl, rfl, hg, hhn, hS, hsp⟩
    have hC := hS.1
    have hv' := hC.2.2.1
    have hK' := hC.1.1.1
    have hjn := hC.2.1
    have hlen := hS.2.2.2.2.2.2.1
    obtain ⟨g0, rfl⟩ : ∃ g0, g = g0 + 1 := ⟨g - 1, by omega⟩
    rw [sgF] at hsp
    have seg : (pk b n j = 46 ∨ pk b n j = 91) → CalG C mtab (E + 12) 56 [svR (some qr), svR (some p), svI (bI strict)] t' (aftV (fun v9 t10 => v9 = none ∧ tK t10 qr = 6 ∧ onR (tR t10 qr 0) (fun a14 => tK t10 a14 = 7 ∧ tK t10 qr = 6 ∧ onR (tR t10 qr 0) (fun a15 => tK t10 a15 = 7 ∧ CalG C mtab (E + 12) 87 [svR (some a15)] t10 (aftV (fun v16 t17 => v16 = none ∧ ∃ k, k < n - j ∧ some qr = some qr ∧ some p = some p ∧ bI strict = bI strict ∧ SL C qr r tp ch b n f strict t p lp i L k (tI t10 a14 4) (nI us.length + (1 : Int32)) t17) (fun k18 q19 t20 => Post (.inr (k18, q19)) t20))))) (fun k11 q12 t13 => Post (.inr (k11, q12)) t13)) := by
      intro hpk
      have hlt : j < n := by rcases hpk with z | z <;> exact (pk_nn z (by decide)).1
      rw [if_pos hpk] at hsp
      obtain ⟨-, hX, ⟨l1, l2, l3⟩, hQ, hus, ⟨p1, p2, p3, p4⟩, h1, h2, h3⟩ := hS
      have hS : SS C qr r tp ch b n (16 - f) t t' p lp i L j Lc s x us c e := ⟨hC, hX, ⟨l1, l2, l3⟩, hQ, hus, ⟨p1, p2, p3, p4⟩, h1, h2, h3⟩
      have hN0 := hX.1
      refine q56 (E := E) (s0 := s) hf ih hC hlt ⟨p4, p3, by omega, p1⟩ l1 l2 (by omega) hus ⟨fun k L' y s' e2 t2 c' e' hC2 hX2 hl2 hc2 h02 he2 hp2 hK2 hN2 hQ2 hjk hB2 => ?_, fun w q e2 t2 hD hB => ?_⟩
      · rw [e2] at hsp
        have hS2 := hS.next hqN hrN hcN hpN hlN hC2 hX2 hl2 hc2 h02 he2 hp2 hK2 hN2 hQ2 hB2 hjk
        have hkn := hC2.2.1
        have hs2 := sk_le (b := b) hkn
        have slo2 := sk_lo (b := b) (n := n) (i := k)
        have hS3 := hS2.to hrN (k := sk b n k) slo2 hs2
        refine ⟨rfl, hC2.2.2.1.1, onS hC2.2.2.1.2.1 ⟨hC2.1.1.1, hC2.2.2.1.1, onS hC2.2.2.1.2.1 ⟨hC2.1.1.1, r87 hC2.1.1 hkn ⟨rfl, ?_⟩⟩⟩⟩
        rw [hC2.1.1.2.2.2.2.2.1]
        exact ⟨n - sk b n k, by omega, rfl, rfl, rfl, g0, sk b n k, k, L', s && s', qApp x y, us ++ [tN t'], c', e', rfl, rfl, by rw [nI_1]; simp, by omega, hkn, hS3, hsp⟩
      · rw [e2] at hsp
        refine k2 w q hsp.symm t2 (QDe.up hX hD (fun v hv => ?_)) ?_
        · unfold pX at hv
          rcases List.mem_cons.mp hv with hv | hv
          · exact Or.inl (by simp [hv])
          rcases List.mem_cons.mp hv with hv | hv
          · exact Or.inl (by simp [hv])
          · by_cases hc0 : 0 < c
            · rw [if_pos hc0] at hv
              exact Or.inr (by rw [List.mem_singleton.mp hv]; exact (l3 hc0).1)
            · rw [if_neg hc0] at hv; cases hv
        · unfold BG at hB ⊢
          omega
    refine ⟨hv'.1, onS hv'.2.1 ⟨hK', ?_⟩⟩
    rw [hC.1.1.2.2.2.2.1]
    refine ⟨fun z => ?_, fun _ => ⟨hv'.1, onS hv'.2.1 ⟨hK', r85 hC.1.1 ⟨fun e46 => ⟨hv'.1, seg (Or.inl e46)⟩, fun e46 => ⟨hv'.1, onS hv'.2.1 ⟨hK', r85 hC.1.1 ⟨fun e91 => ⟨hv'.1, seg (Or.inr e91)⟩, fun e91 => ?_⟩⟩⟩⟩⟩⟩⟩
    · have : n ≤ us.length := (nI_leI (by omega) (by omega)).mp z
      omega
    · rw [if_neg (fun z => z.elim e46 e91)] at hsp
      exact k1 j hh Lc s x hsp.symm t' us c e hS hhn
end QSS
