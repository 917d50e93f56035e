/-! readBrackets -/
def KB (C : Cx) (qr r tp ch : Nat) (b : By) (n o : Nat) (t : Ht) (a l i : Nat) (L : LT) (sp : (Nat × LT × QF × Bool) ⊕ (Nat × Nat)) (rc rs : Nat) (Post : OutT → Ht → Prop) : Prop :=
  (∀ j L' y s, sp = .inl (j, L', y, s) → ∀ t' us c e, CQ t' qr r tp ch b n j o L' → QXe [l] qr r ch t t' → LsA C t' l us c e → 2 * c ≤ 3 * us.length + 20 → (0 < c ∧ tN t ≤ e ∧ e < tN t') → (L'.1 = 0 → L.1 = 0 ∧ qL y = true ∧ QR C t' y 2 [a, l, e] (rg (tN t) (tN t')) us false) → i < j → BG t t' (j - i) rc rs → Post (.inl (some (svI (bI s)))) t') ∧
  (∀ w p, sp = .inr (w, p) → ∀ t', QDe [l] qr r ch t t' w p → BG t t' (n + 1 - i) rc rs → Post (.inr (200, 0)) t')
/-- the state of the brackets of a segment a: its list so far -/
def BS (C : Cx) (qr r tp ch : Nat) (b : By) (n o : Nat) (t t' : Ht) (a l i j : Nat) (L Lc : LT) (x1 y : QF) (us : List Nat) (c e : Nat) : Prop :=
  CQ t' qr r tp ch b n j o Lc ∧ QXe [l] qr r ch t t' ∧ (LsA C t' l us c e ∧ 2 * c ≤ 3 * us.length + 20 ∧ 0 < c ∧ tN t ≤ e ∧ e < tN t') ∧ (Lc.1 = 0 → L.1 = 0 ∧ qL y = true ∧ QR C t' y 2 [a, l, e] (rg (tN t) (tN t')) us false) ∧
  ((∀ z ∈ us, tK t' z = 10 ∧ z < tN t') ∧ SK t' (tN t) x1 ∧ 2 * us.length + i ≤ j ∧ tN t < tN t') ∧ tN t' + 60 ≤ tN t + 40 * (j - i) ∧ tU t' + 980 ≤ tU t + 600 * (j - i)
section QB2
variable {C : Cx} {d E : Nat} {Post : OutT → Ht → Prop} {t t1 t' : Ht} {qr r tp ch : Nat} {b : By} {n i o f : Nat} {L : LT}
theorem nob_s {x : Int32} (h : x = 34 ∨ x = 39 ∨ x = 45) : isBl x = false := by rcases h with rfl | rfl | rfl <;> decide
theorem seQ_nb {orD : Nat → LT → Qs} {j : Nat} {L' : LT} {x : QF} (h : seQ b n f orD true i L = .inl (j, L', x)) : isBl (pk b n i) = false := by
  unfold seQ at h
  by_cases h1 : atStr b n i = true
  · unfold atStr at h1
    rcases Bool.or_eq_true_iff.mp h1 with z | z
    · exact nob_s (Or.inl (of_decide_eq_true z))
    · exact nob_s (Or.inr (Or.inl (of_decide_eq_true z)))
  · rw [if_neg h1] at h
    by_cases h2 : atInt b n i = true
    · unfold atInt at h2
      rcases Bool.or_eq_true_iff.mp h2 with z | z
      · exact nob_s (Or.inr (Or.inr (of_decide_eq_true z)))
      · have := (dgt_sk z).1
        cases hb : isBl (pk b n i) with
        | false => rfl
        | true =>
          have h3 := sk_yes hb
          have h4 := sk_lo (b := b) (n := n) (i := i + 1)
          omega
    · rw [if_neg h2, if_pos rfl] at h
      cases h
set_option maxHeartbeats 2000000 in
theorem q58 {strict : Bool} {a l : Nat} (hf : f ≤ 16) (ih : ∀ f0, f = f0 + 1 → P63 C qr r tp ch b n (E + 8) f0) (h : CQ t qr r tp ch b n i (16 - f) L) (hi : i < n) (ha : tK t a = 9 ∧ tR t a 0 = some l ∧ a < tN t) (hl : LsA C t l [] 0 0)
    (kk : KB C qr r tp ch b n (16 - f) t a l i L (bkQ b n f (orN b n f) strict i L) 60 950 Post) : CalG C mtab (E + 11) 58 [svR (some qr), svR (some a), svI (bI strict)] t Post := by
  obtain ⟨k1, k2⟩ := kk
  obtain ⟨n1, n2, n3, n4, n5, n6⟩ := h.ne
  have hv := h.2.2.1
  have hK := h.1.1.1
  have hn : n ≤ 1200 := h.1.1.2.2.2.2.2.2.1
  have hqN := h.2.2.2.1
  have hrN := h.1.2.2.2.2.2.1
  have hcN := h.1.2.2.2.2.1
  have htN := h.1.2.2.2.2.2.2
  have hlN := hl.2.2.2.2.1
  have al : a ≠ l := fun z => by have := hl.1; rw [← z, ha.1] at this; cases this
  have aq : a ≠ qr ∧ a ≠ r ∧ a ≠ ch := by
    refine ⟨fun z => ?_, fun z => ?_, fun z => ?_⟩
    · have := ha.1; rw [z, hv.1] at this; cases this
    · have := ha.1; rw [z, hK] at this; cases this
    · have := ha.1; rw [z, h.1.2.2.1] at this; cases this
  have lq : l ≠ qr ∧ l ≠ r ∧ l ≠ ch ∧ l ≠ tp := by
    have hl1 := hl.1
    refine ⟨fun z => ?_, fun z => ?_, fun z => ?_, fun z => ?_⟩
    · rw [z, hv.1] at hl1; cases hl1
    · rw [z, hK] at hl1; cases hl1
    · rw [z, h.1.2.2.1] at hl1; cases hl1
    · rw [z, h.1.1.2.2.1] at hl1; cases hl1
  have hs1 := sk_le (b := b) (n := n) (i := i + 1) (by omega)
  have slo1 := sk_lo (b := b) (n := n) (i := i + 1)
  generalize hi1 : (if strict then i + 1 else sk b n (i + 1)) = i1
  have hi1b : i + 1 ≤ i1 ∧ i1 ≤ n := by
    rw [← hi1]; split <;> omega
  have sa_a : ∀ {t' : Ht}, QXe [l] qr r ch t t' → tK t' a = 9 ∧ tR t' a 0 = some l := fun {t'} hx => by
    have s := hx.same ha.2.2 (by simp [al]) aq.1 aq.2.1 aq.2.2
    exact ⟨s.1.trans ha.1, (s.2.2.2.2 0).trans ha.2.1⟩
  generalize hfl : (!(isBl (pk b n (i + 1)))) = fl
  have hspec : bkQ b n f (orN b n f) strict i L = (match seQ b n f (orN b n f) strict i1 L with
      | .inr e => .inr e
      | .inl (j, L', x) => if strict then (if pk b n j = 93 then .inl (j + 1, L', qP x qN, isSel1 x) else .inr (1, j)) else
        match slF b n f (orN b n f) (n + 1) j L' (qP x qN) with
        | .inr e => .inr e
        | .inl (k, L'', y) => .inl (k, L'', y, fl && decide (pk b n j = 93) && isSel1 x)) := by
    unfold bkQ; rw [hi1, hfl]; rfl
  refine cal58 (fun m l3 t' => m = 4 * n + 40 ∧ l3 = bI fl ∧ t' = sI t r 4 (nI (i + 1))) (fun m l3 t' => m = 4 * n + 39 ∧ l3 = bI fl ∧ t' = sI t r 4 (nI i1))
    (fun m l3 l4 t' => m = 4 * n + 38 ∧ ∃ x1 j1 L1 us c e, seQ b n f (orN b n f) strict i1 L = .inl (j1, L1, x1) ∧ l3 = bI (fl && decide (pk b n j1 = 93)) ∧ l4 = some (tN t) ∧ us.length = 1 ∧ BS C qr r tp ch b n (16 - f) t t' a l i j1 L L1 x1 (qP x1 qN) us c e)
    (fun m l3 l4 l5 t' => ∃ x1 j1 L1 j Lc y us c e q, m = 4 * (n - j) + 10 ∧ l5 = nI q ∧ q + 1 ≤ us.length ∧ seQ b n f (orN b n f) strict i1 L = .inl (j1, L1, x1) ∧ l3 = bI (fl && decide (pk b n j1 = 93)) ∧ l4 = some (tN t) ∧ BS C qr r tp ch b n (16 - f) t t' a l i j L Lc x1 y us c e ∧
      ((strict = true ∧ j = j1 ∧ Lc = L1 ∧ y = qP x1 qN) ∨ (strict = false ∧ ∃ g, n < g + j ∧ bkQ b n f (orN b n f) strict i L = (match slF b n f (orN b n f) g j Lc y with
        | .inr e => .inr e
        | .inl (k, L'', y) => .inl (k, L'', y, fl && decide (pk b n j1 = 93) && isSel1 x1)))))
    (fun m l3 l4 l5 t' => m = 1 ∧ ∃ x1 j Lc y us c e fg s, l3 = bI fg ∧ l4 = some (tN t) ∧ BS C qr r tp ch b n (16 - f) t t' a l i j L Lc x1 y us c e ∧ bkQ b n f (orN b n f) strict i L = (if pk b n j = 93 then .inl (j + 1, Lc, y, s) else .inr (1, j)) ∧ (pk b n j = 93 → s = (fg && isSel1 x1))) ?_ ?_ ?_ ?_ ?_ ?_
  · have hC1 := h.to (j := i + 1) (by omega)
    refine ⟨hv.1, onS hv.2.1 ⟨hK, onS hv.2.1 ⟨hK, ?_⟩⟩⟩
    rw [h.1.1.2.2.2.2.2.1, nI_1]
    refine ⟨hv.1, onS h.in ⟨hK, r86 hC1.1.1 ?_⟩⟩
    cases hb : isBl (pk b n (i + 1)) with
    | true =>
      rw [hb] at hfl
      refine ⟨fun z => absurd z (by decide), fun _ => ⟨4 * n + 40, rfl, rfl, rfl, rfl, ?_, rfl⟩⟩
      rw [← hfl]; rfl
    | false =>
      rw [hb] at hfl
      refine ⟨fun _ => ⟨4 * n + 40, rfl, rfl, rfl, rfl, ?_, rfl⟩, fun z => absurd rfl z⟩
      rw [← hfl]; rfl
  · rintro m l3 t' ⟨rfl, rfl, rfl⟩
    have hC1 := h.to (j := i + 1) (by omega)
    cases strict with
    | true =>
      rw [if_pos rfl] at hi1
      subst hi1
      exact ⟨fun z => absurd z (by decide), fun _ => ⟨4 * n + 39, by omega, rfl, rfl, rfl, rfl, rfl, rfl⟩⟩
    | false =>
      rw [if_neg (by decide)] at hi1
      subst hi1
      refine ⟨fun _ => ⟨hv.1, onS h.in ⟨hK, r87 hC1.1.1 hC1.2.1 ⟨rfl, 4 * n + 39, by omega, rfl, rfl, rfl, rfl, rfl, ?_⟩⟩⟩, fun z => absurd rfl z⟩
      rw [sI_sI]
  · rintro m l3 t' ⟨rfl, rfl, rfl⟩
    have hC1 := h.to hi1b.2
    have hX1 : QX qr r ch t (sI t r 4 (nI i1)) := QX.rx (RX.I (Or.inr rfl))
    have c1 : tN (sI t r 4 (nI i1)) = tN t := rfl
    have c2 : tU (sI t r 4 (nI i1)) = tU t := rfl
    have hl1 : LsA C (sI t r 4 (nI i1)) l [] 0 0 := hl.frame (Nat.le_refl _) (sameAt_sI lq.2.1) (fun z => absurd z (Nat.lt_irrefl _))
    revert hC1 hX1 c1 c2 hl1
    generalize sI t r 4 (nI i1) = t1
    intro hC1 hX1 c1 c2 hl1
    refine ⟨hC1.2.2.1.1, q59 (E := E) hf ih hC1 ⟨fun j L' x e t2 hC2 hX2 hQ hS hN2 hij hB => ?_, fun w p e t2 hD hB => ?_⟩⟩
    · rw [c1] at hQ hS hN2 ⊢
      have hX02 : QXe [l] qr r ch t t2 := QXe.rx (hX1.trans hX2)
      have sl := hX2.same (x := l) (by omega) lq.1 lq.2.1 lq.2.2.1
      have hl2 : LsA C t2 l [] 0 0 := hl1.frame hX2.1 sl (fun z => absurd z (Nat.lt_irrefl _))
      obtain ⟨ka, ra⟩ := sa_a hX02
      unfold BG at hB
      refine ⟨ka, onS ra ⟨hl2.1, qadd (kd := 10) (d := E + 2) hl2 (by omega) (by simp) (fun z hz => by cases hz) ⟨hS.1, hN2⟩ (Or.inr (Or.inl rfl)) (fun t3 c' e' g1 g2 g3 g4 g5 => ?_)⟩⟩
      have g5' : e' = tN t2 ∧ tN t3 = tN t2 + 1 ∧ tU t3 = tU t2 + 10 := by
        rcases g5 with ⟨q1, -⟩ | ⟨q1, q2, -, q4⟩
        · omega
        · exact ⟨q1, q2, q4 rfl rfl⟩
      have hs3 : ∀ x, x < tN t2 → x ≠ l → sameAt t2 t3 x := fun x x1 x2 => g4 x x1 x2 (fun z => absurd z (Nat.lt_irrefl _))
      have hC3 : CQ t3 qr r tp ch b n j (16 - f) L' := hC2.old (by omega) (fun x x1 x2 => hs3 x x1 (by rcases x2 with rfl | rfl | rfl | rfl <;> (intro z; first | exact lq.1 z.symm | exact lq.2.1 z.symm | exact lq.2.2.1 z.symm | exact lq.2.2.2 z.symm)))
      have su := hs3 (tN t) hN2 (by omega)
      have hS3 : SK t3 (tN t) x := by
        obtain ⟨s1, z, s2, s3, s4⟩ := hS
        exact ⟨su.1.trans s1, z, (su.2.2.1 0).trans s2, s3, s4⟩
      have hX3 : QXe [l] qr r ch t t3 := hX02.up (QXe.of (X := [l]) (by omega) (fun x x1 x2 => hs3 x x1 (by simpa using x2))) (fun x hx => Or.inl hx)
      have hBS : BS C qr r tp ch b n (16 - f) t t3 a l i j L L' x (qP x qN) [tN t] c' e' := by
        refine ⟨hC3, hX3, ⟨g1, g2, g3, by omega, by omega⟩, fun z => ?_, ⟨fun z hz => ?_, hS3, ?_, by omega⟩, by omega, by omega⟩
        · obtain ⟨z1, z2, z3⟩ := hQ z
          refine ⟨z1, rfl, ?_⟩
          show QR C t3 (.append x .nil) 2 [a, l, e'] (rg (tN t) (tN t3)) [tN t] false
          unfold QR
          rw [if_neg (by decide), if_neg (by decide)]
          refine ⟨tN t, [], rfl, ⟨rg (tN t) (tN t2), fun y hy => ⟨hy.1, by have := hy.2; omega⟩, fun y hy w => ?_, QR.frame (t := t2) (t' := t3) (by omega) _ _ _ _ _ _ z3 (fun y hy => hs3 y hy.2 (by have := hy.1; omega))⟩, rfl⟩
          simp only [List.mem_cons, List.not_mem_nil, or_false] at hy
          have w1 := w.1
          have w2 := w.2
          rcases hy with rfl | rfl | rfl <;> omega
        · rw [List.mem_singleton.mp hz]; exact ⟨hS3.1, by omega⟩
        · show 2 * 1 + i ≤ j; omega
      have fin : ∀ l3', l3' = bI (fl && decide (pk b n j = 93)) → ∃ k, k < 4 * n + 39 ∧ some qr = some qr ∧ some a = some a ∧ bI strict = bI strict ∧ k = 4 * n + 38 ∧ ∃ x1 j1 L1 us c e, seQ b n f (orN b n f) strict i1 L = .inl (j1, L1, x1) ∧ l3' = bI (fl && decide (pk b n j1 = 93)) ∧ some (tN t) = some (tN t) ∧ us.length = 1 ∧ BS C qr r tp ch b n (16 - f) t t3 a l i j1 L L1 x1 (qP x1 qN) us c e := fun l3' hl3 => ⟨4 * n + 38, by omega, rfl, rfl, rfl, rfl, x, j, L', [tN t], c', e', e, hl3, rfl, rfl, hBS⟩
      refine ⟨fun z => fin 0 ?_, fun z => ⟨hC3.2.2.1.1, onS hC3.2.2.1.2.1 ⟨hC3.1.1.1, r85 hC3.1.1 ⟨fun e93 => fin 1 ?_, fun e93 => fin 0 ?_⟩⟩⟩⟩
      · rw [bI_0.mp z]; rfl
      · have hft : fl = true := by
          cases hq : fl with
          | true => rfl
          | false => rw [hq] at z; exact absurd rfl z
        rw [hft, decide_eq_true e93]; rfl
      · rw [decide_eq_false e93]; cases fl <;> rfl
    · rw [e] at hspec
      refine k2 w p hspec t2 (QDe.of (QXe.rx hX1) hD) ?_
      unfold BG at hB ⊢
      omega
  · rintro m l3 l4 t' ⟨rfl, x1, j1, L1, us, c, e, hse, rfl, rfl, hu1, hB⟩
    have hj : i < j1 ∧ j1 ≤ n := by have := hB.2.2.2.2.1.2.2.1; have := hB.1.2.1; omega
    refine ⟨4 * (n - j1) + 10, by omega, rfl, rfl, rfl, x1, j1, L1, j1, L1, _, us, c, e, 0, rfl, rfl, by omega, hse, rfl, rfl, hB, ?_⟩
    cases hst : strict with
    | true => exact Or.inl ⟨rfl, rfl, rfl, rfl⟩
    | false =>
      refine Or.inr ⟨rfl, n + 1, by omega, ?_⟩
      rw [hst] at hspec hse
      rw [hspec, hse]
      exact if_neg (by decide)
  · rintro m l3 l4 l5 t' ⟨x1, j1, L1, j, Lc, y, us, c, e, q, rfl, rfl, hq, hse, rfl, rfl, hB, hAB⟩
    obtain ⟨hC, hX, ⟨hls, hcap, hc0, he1, he2⟩, hQ, ⟨hus, hS, hlen, hN⟩, hb1, hb2⟩ := hB
    have hv' := hC.2.2.1
    have hK' := hC.1.1.1
    have hjn := hC.2.1
    obtain ⟨ka, ra⟩ := sa_a hX
    refine ⟨hv'.1, onS hv'.2.1 ⟨hK', ?_⟩⟩
    rw [hC.1.1.2.2.2.2.1]
    refine ⟨fun z => ?_, fun _ => ?_⟩
    · have : n ≤ q := (nI_leI (by omega) (by omega)).mp z
      omega
    · rcases hAB with ⟨rfl, rfl, rfl, rfl⟩ | ⟨rfl, g, hg, hsp⟩
      · refine ⟨fun z => absurd z (by decide), fun _ => ⟨1, by omega, rfl, rfl, rfl, rfl, x1, j, Lc, _, us, c, e, _, isSel1 x1, rfl, rfl, ⟨hC, hX, ⟨hls, hcap, hc0, he1, he2⟩, hQ, ⟨hus, hS, hlen, hN⟩, hb1, hb2⟩, ?_, fun e93 => ?_⟩⟩
        · rw [hspec, hse]; exact if_pos rfl
        · have hnb := seQ_nb hse
          rw [if_pos rfl] at hi1
          rw [← hi1] at hnb
          rw [hnb] at hfl
          rw [← hfl, decide_eq_true e93]; rfl
      · obtain ⟨g0, rfl⟩ : ∃ g0, g = g0 + 1 := ⟨g - 1, by omega⟩
        rw [slF] at hsp
        have hsj := sk_le (b := b) hjn
        have sloj := sk_lo (b := b) (n := n) (i := j)
        refine ⟨fun _ => ⟨hv'.1, onS hv'.2.1 ⟨hK', r91 hC.1.1 hjn (fun e44 => ?_) (fun e44 => ?_)⟩⟩, fun z => absurd rfl z⟩
        · rw [if_pos e44] at hsp
          have hlt := sk_lt1 (by decide) e44
          have hs2 := sk_le (b := b) (n := n) (i := sk b n j + 1) (by omega)
          have slo2 := sk_lo (b := b) (n := n) (i := sk b n j + 1)
          have hC1 := hC.to hs2
          have hX1 : QX qr r ch t' (sI t' r 4 (nI (sk b n (sk b n j + 1)))) := QX.rx (RX.I (Or.inr rfl))
          have c1 : tN (sI t' r 4 (nI (sk b n (sk b n j + 1)))) = tN t' := rfl
          have c2 : tU (sI t' r 4 (nI (sk b n (sk b n j + 1)))) = tU t' := rfl
          have ka1 : tK (sI t' r 4 (nI (sk b n (sk b n j + 1)))) a = 9 ∧ tR (sI t' r 4 (nI (sk b n (sk b n j + 1)))) a 0 = some l := ⟨ka, ra⟩
          revert hC1 hX1 c1 c2 ka1
          generalize sI t' r 4 (nI (sk b n (sk b n j + 1))) = t1
          intro hC1 hX1 c1 c2 ka1
          refine ⟨fun z => absurd z (by decide), fun _ => ⟨ka1.1, hC1.2.2.1.1, q59 (E := E) (strict := false) hf ih hC1 ⟨fun j2 L2 x2 e2 t2 hC2 hX2 hQ2 hS2 hN2 hij hB2 => ?_, fun w p e2 t2 hD hB2 => ?_⟩⟩⟩
          · rw [e2] at hsp
            rw [c1] at hQ2 hS2 hN2 ⊢
            have hX12 : QX qr r ch t' t2 := hX1.trans hX2
            have sl := hX12.same (x := l) hls.2.2.2.2.1 lq.1 lq.2.1 lq.2.2.1
            have se := hX12.same (x := e) he2 (by omega) (by omega) (by omega)
            have hls2 : LsA C t2 l us c e := hls.frame hX12.1 sl (fun _ => se)
            have hus2 : ∀ z ∈ us, tK t2 z = 10 ∧ z < tN t2 := fun z hz => by
              have hz1 := hus z hz
              exact ⟨(hX12.2.1 z hz1.2).1.trans hz1.1, by have := hX12.1; omega⟩
            unfold BG at hB2
            have hNN := hX12.1
            refine onS ka1.2 ⟨hls2.1, qadd (kd := 10) (d := E + 2) hls2 hcap (by omega) hus2 ⟨hS2.1, hN2⟩ (Or.inr (Or.inl rfl)) (fun t3 c' e' g1 g2 g3 g4 g5 => ?_)⟩
            have hN3 : tN t2 ≤ tN t3 ∧ tN t3 ≤ tN t2 + 1 ∧ tU t3 ≤ tU t2 + 910 ∧ tN t ≤ e' ∧ e' < tN t3 := by
              rcases g5 with ⟨q1, q2, q3, q4, q5⟩ | ⟨q1, q2, q3, q4⟩ <;> omega
            have eNe : ∀ x, x < tN t2 → tK t2 x = 10 → x ≠ l ∧ x ≠ e := fun x x1 x2 => by
              refine ⟨fun z => ?_, fun z => ?_⟩
              · have := hls2.1; rw [← z, x2] at this; cases this
              · rcases hls2.2.2.2.2.2 with ⟨w, -⟩ | ⟨-, -, -, -, w, -, -⟩
                · omega
                · rw [← z, x2] at w; cases w
            have hC3 : CQ t3 qr r tp ch b n j2 (16 - f) L2 := hC2.old (by omega) (fun x y1 y2 => g4 x y1 (by rcases y2 with rfl | rfl | rfl | rfl <;> (intro z; first | exact lq.1 z.symm | exact lq.2.1 z.symm | exact lq.2.2.1 z.symm | exact lq.2.2.2 z.symm)) (fun _ => by rcases y2 with rfl | rfl | rfl | rfl <;> omega))
            have hX3 : QXe [l] qr r ch t t3 := (hX.up (QXe.rx (X := [l]) hX12) (fun x hx => Or.inl hx)).up (QXe.of (X := [l, e]) (by omega) (fun x y1 y2 => g4 x y1 (fun z => y2 (by simp [z])) (fun _ z => y2 (by simp [z])))) (fun x hx => by
              simp only [List.mem_cons, List.not_mem_nil, or_false] at hx
              rcases hx with rfl | rfl
              · exact Or.inl (by simp)
              · exact Or.inr he1)
            have s1K : tK t2 (tN t) = 10 := (hX12.2.1 _ hN).1.trans hS.1
            have su := g4 (tN t) (by omega) (eNe _ (by omega) s1K).1 (fun _ => (eNe _ (by omega) s1K).2)
            have su0 := hX12.same (x := tN t) hN (by omega) (by omega) (by omega)
            have hS3 : SK t3 (tN t) x1 := by
              obtain ⟨s1, z, s2, s3, s4⟩ := hS
              exact ⟨su.1.trans (su0.1.trans s1), z, (su.2.2.1 0).trans ((su0.2.2.1 0).trans s2), s3, s4⟩
            have hlen2 : (us ++ [tN t']).length = us.length + 1 := by simp
            have hBS : BS C qr r tp ch b n (16 - f) t t3 a l i j2 L L2 x1 (qApp y x2) (us ++ [tN t']) c' e' := by
              refine ⟨hC3, hX3, ⟨g1, g2, g3, hN3.2.2.2.1, hN3.2.2.2.2⟩, fun z => ?_, ⟨fun z hz => ?_, hS3, by rw [hlen2]; omega, by omega⟩, by omega, by omega⟩
              · obtain ⟨z1, z2, z3⟩ := hQ2 z
                obtain ⟨w1, w2, w3⟩ := hQ z1
                have a1 : QR C t3 y 2 [a, l, e] (rg (tN t) (tN t')) us false := QR.frameL (t := t') (t' := t3) (by omega) _ _ _ _ _ _ w2 (by decide) (by decide) w3 (fun v hv v3 => (hX12.same hv.2 (by have := hv.1; omega) (by have := hv.1; omega) (by have := hv.1; omega)).trans (g4 v (by have := hv.2; omega) (fun zz => v3 (by simp [zz])) (fun _ zz => v3 (by simp [zz]))))
                have a2 : QR C t3 y 2 [a, l, e'] (rg (tN t) (tN t3)) us false := QR.avL _ _ _ _ _ _ _ _ w2 (by decide) (by decide) a1 (fun v hv => ⟨hv.1, by have := hv.2; omega⟩) (fun v hv => by
                  simp only [List.mem_cons, List.not_mem_nil, or_false] at hv ⊢
                  rcases hv with rfl | rfl | rfl
                  · exact Or.inl (Or.inl rfl)
                  · exact Or.inl (Or.inr (Or.inl rfl))
                  · rcases g5 with ⟨q1, q2, -⟩ | ⟨q1, -⟩
                    · exact Or.inl (Or.inr (Or.inr q2))
                    · exact Or.inr (fun w => by have := w.2; omega))
                have a3 : QR C t3 x2 2 [] (rg (tN t') (tN t2)) [tN t'] false := QR.frame (t := t2) (t' := t3) (by omega) _ _ _ _ _ _ z3 (fun v hv => g4 v hv.2 (by have := hv.1; omega) (fun _ => by have := hv.1; omega))
                obtain ⟨b1, b2, b3⟩ := QR.app (F := rg (tN t) (tN t3)) (av := [a, l, e']) (by decide) (by decide) (fun v hv => ⟨by have := hv.1; omega, by have := hv.2; omega⟩) (fun v hv w => by
                  simp only [List.mem_cons, List.not_mem_nil, or_false] at hv
                  have w1 := w.1
                  have w2 := w.2
                  rcases hv with rfl | rfl | rfl
                  · omega
                  · omega
                  · rcases g5 with ⟨q1, q2, -⟩ | ⟨q1, -⟩ <;> omega) a3 y us false w2 a2
                exact ⟨w1, b2, b1⟩
              · rcases List.mem_append.mp hz with hz | hz
                · obtain ⟨z1, z2⟩ := hus2 z hz
                  have := eNe z z2 z1
                  exact ⟨(g4 z z2 this.1 (fun _ => this.2)).1.trans z1, by omega⟩
                · rw [List.mem_singleton.mp hz]
                  have := eNe (tN t') hN2 hS2.1
                  exact ⟨(g4 _ hN2 this.1 (fun _ => this.2)).1.trans hS2.1, by omega⟩
            exact ⟨4 * (n - j2) + 10, by have := hC3.2.1; omega, rfl, rfl, rfl, x1, j1, L1, j2, L2, _, us ++ [tN t'], c', e', q + 1, rfl, nI_1 q, by rw [hlen2]; omega, hse, rfl, rfl, hBS, Or.inr ⟨rfl, g0, by omega, hsp⟩⟩
          · rw [e2] at hsp
            refine k2 w p hsp t2 (QDe.of (hX.up (QXe.rx (X := [l]) hX1) (fun x hx => Or.inl hx)) hD) ?_
            unfold BG at hB2 ⊢
            omega
        · rw [if_neg e44] at hsp
          have hC1 := hC.to hsj
          refine ⟨fun _ => ⟨1, by omega, rfl, rfl, rfl, rfl, x1, sk b n j, Lc, y, us, c, e, _, fl && decide (pk b n j1 = 93) && isSel1 x1, rfl, rfl, ⟨hC1, hX.up (QXe.rx (X := [l]) (QX.rx (RX.I (Or.inr rfl)))) (fun x hx => Or.inl hx), ⟨hls.frame (Nat.le_refl _) (sameAt_sI lq.2.1) (fun _ => sameAt_sI (by omega)), hcap, hc0, he1, he2⟩, fun z => ?_, ⟨fun z hz => hus z hz, ?_, by omega, hN⟩, by show tN t' + 60 ≤ _; omega, by show tU t' + 980 ≤ _; omega⟩, ?_, fun _ => rfl⟩, fun z => absurd rfl z⟩
          · obtain ⟨z1, z2, z3⟩ := hQ z
            exact ⟨z1, z2, QR.frame (t := t') (t' := sI t' r 4 (nI (sk b n j))) (Nat.le_refl _) _ _ _ _ _ _ z3 (fun v hv => sameAt_sI (by have := hv.1; omega))⟩
          · obtain ⟨s1, z, s2, s3, s4⟩ := hS
            exact ⟨s1, z, (sI_at (by omega)).trans s2, s3, s4⟩
          · rw [hsp]
            by_cases e93 : pk b n (sk b n j) = 93
            · rw [if_pos e93, if_pos e93]
            · rw [if_neg e93, if_neg e93]
  · rintro m l3 l4 l5 t' ⟨rfl, x1, j, Lc, y, us, c, e, fg, s, rfl, rfl, hB, hsp, hs⟩
    obtain ⟨hC, hX, ⟨hls, hcap, hc0, he1, he2⟩, hQ, ⟨hus, hS, hlen, hN⟩, hb1, hb2⟩ := hB
    have hv' := hC.2.2.1
    have hK' := hC.1.1.1
    have hjn := hC.2.1
    refine ⟨hv'.1, onS hv'.2.1 ⟨hK', r88 hC.1.1 (fun e93 => ?_) (fun e93 => ?_)⟩⟩
    · rw [if_pos e93] at hsp
      have hlt := (pk_nn e93 (by decide)).1
      have hC1 := hC.to (j := j + 1) (by omega)
      have hS1 : SK (sI t' r 4 (nI (j + 1))) (tN t) x1 := by
        obtain ⟨s1, z, s2, s3, s4⟩ := hS
        exact ⟨s1, z, (sI_at (by omega)).trans s2, s3, s4⟩
      have hs' := hs e93
      have fin : ∀ v, v = bI s → Post (.inl (some (svI v))) (sI t' r 4 (nI (j + 1))) := fun v hv => by
        rw [hv]
        refine k1 _ _ _ _ hsp _ us c e hC1 (hX.up (QXe.rx (X := [l]) (QX.rx (RX.I (Or.inr rfl)))) (fun x hx => Or.inl hx)) (hls.frame (Nat.le_refl _) (sameAt_sI lq.2.1) (fun _ => sameAt_sI (by omega))) hcap ⟨hc0, he1, he2⟩ (fun z => ?_) (by omega) ⟨by show tN t' + 60 ≤ _; omega, by show tU t' + 950 ≤ _; omega⟩
        obtain ⟨z1, z2, z3⟩ := hQ z
        exact ⟨z1, z2, QR.frame (t := t') (t' := sI t' r 4 (nI (j + 1))) (Nat.le_refl _) _ _ _ _ _ _ z3 (fun v hv => sameAt_sI (by have := hv.1; omega))⟩
      refine ⟨rfl, fun z => ⟨Or.inl rfl, fin 0 ?_⟩, fun z => ⟨hS1.1, q110 hS1 ?_⟩⟩
      · rw [hs', bI_0.mp z]; rfl
      · have hft : fg = true := by
          cases hq : fg with
          | true => rfl
          | false => rw [hq] at z; exact absurd rfl z
        rw [hft] at hs'
        cases h1 : isSel1 x1 with
        | true => exact ⟨fun z => absurd z (by decide), fun _ => ⟨Or.inr rfl, fin 1 (by rw [hs', h1]; rfl)⟩⟩
        | false => exact ⟨fun _ => ⟨Or.inl rfl, fin 0 (by rw [hs', h1]; rfl)⟩, fun z => absurd rfl z⟩
    · rw [if_neg e93] at hsp
      obtain ⟨g1, g2, g3⟩ := hC.bad (w := 1) (p := j) RX.rfl' rfl rfl
      refine k2 1 j hsp _ (QDe.of hX g1) ⟨?_, ?_⟩
      · show tN t' + 1 + 60 ≤ _; omega
      · show tU t' + 6 + 950 ≤ _; omega
end QB2
