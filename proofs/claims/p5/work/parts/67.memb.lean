/-! MEMBERS, by the component -/
section ME
variable {C : Cx} {E f p : Nat} {Post : OutT → Ht → Prop} {t0 t t' : Ht} {vr r tp ch : Nat} {b : By} {n i : Nat} {G : GT} {V : VT} {c : Nat}
theorem CV.bd {w q : Nat} (h : CV C t0 t vr r tp ch b n i G V c) (hB : BD r ch t t' w q) : FV vr r ch t0 t' w q := ⟨h.2.2.2.2.1.ry hB.1, hB.2.2.2.1, hB.2.2.2.2⟩
theorem CV.in {k : Nat} {y : Int32} (h : CV C t0 t vr r tp ch b n i G V c) : tR (sI t r k y) vr 0 = some r := h.2.2.1.2.1
set_option maxHeartbeats 400000 in
/-- readMember -/
theorem r127 (ih : P120 C t0 vr r tp ch b n (E + 8) f) (h : CV C t0 t vr r tp ch b n i G V c) (hp : p < c) (hk : eK (V p) = 6) (hdp : eD (V p) + 1 = 31 - f)
    (k1 : ∀ j c' V', mbS b n (vaS b n (wnS b n true) f (some p)) p i c V = .inl (j, c', V') → ∀ t' G', CV C t0 t' vr r tp ch b n j G' V' c' → (∀ x, x < c → gA G' x = gA G x) → A1 (tN t0) t t' → tN t' + 8 ≤ tN t + 8 * (j - i) → tU t' + 600 ≤ tU t + 600 * (j - i) → Post (.inl none) t')
    (k2 : ∀ w q, mbS b n (vaS b n (wnS b n true) f (some p)) p i c V = .inr (w, q) → ∀ t', FV vr r ch t0 t' w q → tN t' ≤ tN t + 8 * (n + 1 - i) → tU t' ≤ tU t + 600 * (n + 1 - i) → Post (.inr (200, 0)) t') : CalG C mtab (E + 9) 127 [svR (some vr), svR (some (gA G p))] t Post := by
  have hn : n ≤ 1200 := h.1.1.2.2.2.2.2.2.1
  have hb := h.1.1.2.2.2.2.2.2.2.2.1
  have hK := h.1.1.1
  have hv := h.2.2.1
  have hin := h.2.1
  have hrT := h.2.2.2.1.2.1
  have hcT := h.2.2.2.1.2.2.1
  have hTN := h.2.2.2.2.1.1
  refine cal127 (fun m l2 t' => m = 2 ∧ l2 = nI i ∧ t' = t ∧ pk b n i = 34) (fun m l2 l3 t' => m = 1 ∧ ∃ cs j0 a, l3 = some a ∧ pk b n i = 34 ∧ stS b n 34 (i + 1) = .inl (cs, j0) ∧ hasN V p cs = false ∧ CV C t0 t' vr r tp ch b n j0 G V c ∧ chR t' (tN t0) (some a) (some cs) ∧ A1 (tN t0) t t' ∧ tN t' = tN t + 1 ∧ tU t' = tU t + cs.length) ?_ ?_ ?_
  · unfold vc127
    rw [hv.2.1]
    refine ⟨hv.1, hK, hv.1, hK, r85 h.1.1 ⟨fun e => ⟨2, rfl, rfl, rfl, h.1.1.2.2.2.2.2.1, rfl, e⟩, fun e => ⟨hv.1, ?_⟩⟩⟩
    rw [hv.2.1, h.1.1.2.2.2.2.2.1]
    obtain ⟨g1, g2, g3⟩ := h.bad (w := 1) (p := i) RX.rfl' rfl rfl
    exact ⟨hK, c83 hK (k2 1 i (if_neg e) _ g1 (by show tN t + 1 ≤ _; omega) (by show tU t + 6 ≤ _; omega))⟩
  · rintro m l2 t' ⟨rfl, rfl, rfl, e34⟩
    unfold vc127_29
    rw [hv.2.1]
    have hlt := (pk_nn e34 (by decide)).1
    refine ⟨hv.1, hK, r95 (q := 34) (Or.inl rfl) h.1 hlt e34 (fun cs j0 es t2 x1 x2 x3 x4 x5 => ?_) (fun q es t2 hB => ?_)⟩
    · obtain ⟨s1, s2, s3, s4⟩ := stS_ok hb hn (by decide) es
      have hC2 := h.rx x1 x4 s2
      have hv2 := hC2.2.2.1
      have hK2 := hC2.1.1.1
      have hy : chR t2 (tN t0) (some (tN t')) (some cs) := ⟨tN t', rfl, hTN, by omega, x5⟩
      refine ⟨(hC2.2.2.2.2.2.1.1 p hp).1.1.2.2, r31 hC2.2.2.2.2.2.1 hp hy s4 ?_⟩
      rw [if_pos hk]
      cases hf : fndN V p cs with
      | none => exact ⟨1, by decide, rfl, rfl, rfl, cs, j0, tN t', rfl, e34, es, by rw [hasN_f, hf]; rfl, hC2, hy, A1.rx x1 hrT hcT, x2, x3⟩
      | some z =>
        refine ⟨hv2.1, ?_⟩
        rw [hv2.2.1]
        obtain ⟨g1, g2, g3⟩ := hC2.bad (w := 2) (p := i) RX.rfl' rfl rfl
        refine ⟨hK2, c83 hK2 (k2 2 i ?_ _ g1 (by show tN t2 + 1 ≤ _; omega) (by show tU t2 + 6 ≤ _; omega))⟩
        have hN : hasN V p cs = true := by rw [hasN_f, hf]; rfl
        unfold mbS
        rw [if_pos e34, es]
        exact if_pos hN
    · refine k2 1 q ?_ _ (h.bd hB) (by have := hB.2.1; omega) (by have := hB.2.2.1; omega)
      unfold mbS
      rw [if_pos e34, es]
  · rintro m l2 l3 t' ⟨rfl, cs, j0, a, rfl, e34, es, hN, hC2, hy, hA, x2, x3⟩
    obtain ⟨s1, s2, s3, s4⟩ := stS_ok hb hn (by decide) es
    have hK2 := hC2.1.1.1
    have hv2 := hC2.2.2.1
    have hs := sk_le (b := b) s2
    have slo := sk_lo (b := b) (n := n) (i := j0)
    have hC3 := hC2.to hs
    have hm : ∀ {R : Rs}, (if pk b n (sk b n j0) = 58 then (match vaS b n (wnS b n true) f (some p) (sk b n (sk b n j0 + 1)) c V with
        | .inr e => .inr e
        | .inl (j, c', V') => .inl (j, c', vAdo V' p c (some cs))) else .inr (1, sk b n j0)) = R → mbS b n (vaS b n (wnS b n true) f (some p)) p i c V = R := by
      intro R hR
      unfold mbS
      rw [if_pos e34, es]
      rw [← hR]
      exact if_neg (by rw [hN]; exact Bool.false_ne_true)
    unfold vc127_54
    rw [hv2.2.1]
    refine ⟨hv2.1, hK2, r87 hC2.1.1 hC2.2.1 ⟨rfl, hv2.1, ?_⟩⟩
    rw [hC2.in]
    refine ⟨hK2, r88 hC3.1.1 (fun e => ⟨rfl, hv2.1, ?_⟩) (fun e => ?_)⟩
    · rw [if_pos e] at hm
      have hlt := sk_lt1 (by decide) e
      have hs2 := sk_le (b := b) (n := n) (i := sk b n j0 + 1) (by omega)
      have slo2 := sk_lo (b := b) (n := n) (i := sk b n j0 + 1)
      have hC4 := hC2.to (j := sk b n j0 + 1) (by omega)
      have hC5 := hC2.to hs2
      rw [sI_sI, hC2.in]
      refine ⟨hK2, r87 hC4.1.1 hC4.2.1 ⟨rfl, ?_⟩⟩
      rw [sI_sI]
      obtain ⟨np, wp, -⟩ := hC5.2.2.2.2.2.1.1 p hp
      have hd2 : tI (sI t' r 4 (nI (sk b n (sk b n j0 + 1)))) (gA G p) 2 + 1 = nI (31 - f) := by
        rw [np.2.1.2.2.1, nI_1, hdp]
      refine ⟨np.1.2.2, hv2.1, ?_⟩
      rw [hd2]
      refine ih _ _ _ c G V (some p) _ rfl hC5 (fun z hz => by injection hz with hz; omega) (fun j c1 V1 e2 t3 G1 hC6 hg1 ha1 b1 b2 => ?_) (fun w q2 e2 t3 hF b1 b2 => ?_)
      · have hfw : Fwd n (vaS b n (wnS b n true) f (some p)) := vaS_inv hb hn wnS_fwd f (some p)
        obtain ⟨w1, w2, w3, w4, w5, w6⟩ := hfw _ _ _ _ _ _ hs2 e2
        have hp1 : p < c1 := by omega
        have eVp : V1 p = V p := w4 p hp
        have egp1 : gA G1 p = gA G p := hg1 p hp
        have hKp1 := (hC6.2.2.2.2.2.1.1 p hp1).1.1.2.2
        have hlen : (eS (V1 p)).length < c1 := by rw [eVp]; have := wp.2.2.2.2.1; omega
        have hA2 : A1 (tN t0) t' t3 := (A1.at hrT).trans ha1
        have hy2 : chR t3 (tN t0) (some a) (some cs) := hy.frame hA2.1 hA2.2
        rw [← egp1]
        refine ⟨hKp1, r30 hC6.2.2.2.2.2.1 hp1 w3 hp (by rw [eVp, hk]; decide) hy2 (fun z hz => by injection hz with hz; subst hz; exact s4) hlen w5 (fun t4 G2 hV2 hg2 had => ⟨rfl, ?_⟩)⟩
        have hC7 : CV C t0 t4 vr r tp ch b n j G2 (vAdo V1 p c (some cs)) c1 := hC6.old had.1 (fun x hx => had.2.2.2.2 x (by have := hC6.2.2.2.2.1.1; omega) (Or.inl hx)) hV2 (fun x _ => hg2 x)
        have c1' : tN (sI t' r 4 (nI (sk b n (sk b n j0 + 1)))) = tN t' := rfl
        have c2' : tU (sI t' r 4 (nI (sk b n (sk b n j0 + 1)))) = tU t' := rfl
        have a2 := had.2.1
        have a4 := had.2.2.2.1
        refine k1 _ _ _ (hm (by rw [e2])) t4 G2 hC7 (fun x hx => by rw [hg2, hg1 x hx]) (hA.trans (hA2.trans (A1.ad had))) ?_ ?_
        · omega
        · omega
      · have c1' : tN (sI t' r 4 (nI (sk b n (sk b n j0 + 1)))) = tN t' := rfl
        have c2' : tU (sI t' r 4 (nI (sk b n (sk b n j0 + 1)))) = tU t' := rfl
        exact k2 w q2 (hm (by rw [e2])) t3 hF (by omega) (by omega)
    · rw [if_neg e] at hm
      obtain ⟨g1, g2, g3⟩ := hC2.bad (w := 1) (p := sk b n j0) (RX.I (r := r) (ch := ch) (x := nI (sk b n j0)) (Or.inr rfl)) rfl rfl
      exact k2 1 _ (hm rfl) _ g1 (by show tN t' + 1 ≤ _; omega) (by show tU t' + 6 ≤ _; omega)
set_option maxHeartbeats 400000 in
/-- readMembers -/
theorem r126 (ih : P120 C t0 vr r tp ch b n (E + 8) f) (h : CV C t0 t vr r tp ch b n i G V c) (hi : i < n) (hp : p < c) (hk : eK (V p) = 6) (hdp : eD (V p) + 1 = 31 - f) {L : Rs}
    (hL : L = if pk b n (sk b n (i + 1)) = 125 then .inl (sk b n (i + 1) + 1, c, V) else obF b n (vaS b n (wnS b n true) f (some p)) p (n + 1) (sk b n (i + 1)) c V)
    (k1 : ∀ j c' V', L = .inl (j, c', V') → ∀ t' G', CV C t0 t' vr r tp ch b n j G' V' c' → (∀ x, x < c → gA G' x = gA G x) → A1 (tN t0) t t' → tN t' + 4 ≤ tN t + 8 * (j - i) → tU t' + 494 ≤ tU t + 600 * (j - i) → Post (.inl none) t')
    (k2 : ∀ w q, L = .inr (w, q) → ∀ t', FV vr r ch t0 t' w q → tN t' + 2 ≤ tN t + 8 * (n + 1 - i) → tU t' + 14 ≤ tU t + 600 * (n + 1 - i) → Post (.inr (200, 0)) t') : CalG C mtab (E + 10) 126 [svR (some vr), svR (some (gA G p))] t Post := by
  have hs := sk_le (b := b) (n := n) (i := i + 1) (by omega)
  have lo := sk_lo (b := b) (n := n) (i := i + 1)
  have hn : n ≤ 1200 := h.1.1.2.2.2.2.2.2.1
  have hb := h.1.1.2.2.2.2.2.2.2.2.1
  have hrT := h.2.2.2.1.2.1
  have hfw : Fwd n (vaS b n (wnS b n true) f (some p)) := vaS_inv hb hn wnS_fwd f (some p)
  refine cal126 (fun m l2 l3 t' => ∃ i' c' V' G' q, CV C t0 t' vr r tp ch b n i' G' V' c' ∧ l3 = nI q ∧ q ≤ 301 ∧ KF (tN t0) t t' i i' c c' p G G' V V' ∧
    ((l2 = 1 ∧ m = 2 * (n - i') + 1 ∧ q + 1 ≤ c' ∧ ∃ g, n < g + i' ∧ L = obF b n (vaS b n (wnS b n true) f (some p)) p g i' c' V') ∨ (l2 = 0 ∧ m = 0 ∧ L = exB b n 125 i' c' V'))) ?_ ?_
  · refine ⟨h.2.2.1.1, r124 (by decide) h hi (fun e => ?_) (fun e => ?_)⟩
    · rw [if_pos e] at hL
      have hlt := sk_lt1 (by decide) e
      refine ⟨fun z => absurd z (by decide), fun _ => k1 _ _ _ hL _ G (h.to (by omega)) (fun _ _ => rfl) (A1.at hrT) ?_ ?_⟩
      · show tN t + 4 ≤ _; omega
      · show tU t + 494 ≤ _; omega
    · rw [if_neg e] at hL
      refine ⟨fun _ => ⟨2 * (n - sk b n (i + 1)) + 1, rfl, rfl, _, c, V, G, 0, h.to hs, rfl, by decide, ⟨by omega, Nat.le_refl _, fun _ _ => rfl, eEq.rfl', ?_, ?_, A1.at hrT⟩, Or.inl ⟨rfl, rfl, by omega, n + 1, by omega, hL⟩⟩, fun z => absurd rfl z⟩
      · show tN t + 8 ≤ _; omega
      · show tU t + 600 ≤ _; omega
  · rintro m l2 l3 t' ⟨i', c', V', G', q, hC, rfl, hq, ⟨f1, f2, f3, f4, f5, f6, f7⟩, hAB⟩
    have hK := hC.1.1.1
    have hv := hC.2.2.1
    have fin : L = exB b n 125 i' c' V' → CalG C mtab (E + 9) 88 [svR (some r), svI (125 : Int32)] t' (aftV (fun v2 t3 => v2 = none ∧ Post (.inl none) t3) (fun k4 q5 t6 => Post (.inr (k4, q5)) t6)) := fun hL' => by
      unfold exB at hL'
      refine r88c (E := E + 1) (by decide) hC (fun e hC' => ?_) (fun e t2 g1 g2 g3 => ?_)
      · rw [if_pos e] at hL'
        have := (pk_nn e (by decide)).1
        refine k1 _ _ _ hL' _ G' hC' f3 (f7.trans (A1.at hrT)) ?_ ?_
        · show tN t' + 4 ≤ _; omega
        · show tU t' + 494 ≤ _; omega
      · rw [if_neg e] at hL'
        exact k2 _ _ hL' _ g1 (by have := hC.2.1; omega) (by have := hC.2.1; omega)
    unfold vc126_14
    rw [hv.2.1]
    rcases hAB with ⟨rfl, rfl, hqc, g, hg, hL'⟩ | ⟨rfl, rfl, hL'⟩
    · have hc300 := hC.2.2.2.2.2.1.2.2
      refine ⟨fun z => absurd z (nI_nlt (b := q) (a := 300) (by omega) (by decide)), fun _ => ⟨fun z => absurd z (by decide), fun _ => ⟨hv.1, ?_⟩⟩⟩
      have egp : gA G' p = gA G p := f3 p hp
      have hk6 : eK (V' p) = 6 := by
        have : eK (V' p) = eK (V p) := congrArg (fun z => z.1) f4.1
        rw [this]; exact hk
      have hd6 : eD (V' p) + 1 = 31 - f := by
        have : eD (V' p) = eD (V p) := congrArg (fun z => z.2.2.1) f4.1
        rw [this]; exact hdp
      obtain ⟨g0, rfl⟩ : ∃ g0, g = g0 + 1 := ⟨g - 1, by have := hC.2.1; omega⟩
      rw [obF] at hL'
      rw [← egp]
      refine r127 ih hC (by omega) hk6 hd6 (fun j c1 V1 e t1 G1 hC1 hg1 ha1 b1 b2 => ?_) (fun w q2 e t1 hF b1 b2 => ?_)
      · rw [e] at hL'
        obtain ⟨w1, w2, w3, w4, w5⟩ := mbS_inv hb hn hfw (by omega) e
        have hv1 := hC1.2.2.1
        refine ⟨rfl, hv1.1, ?_⟩
        rw [hv1.2.1]
        have hkf : ∀ {i'' : Nat} {y : Int32}, j ≤ i'' → KF (tN t0) t (sI t1 r 4 y) i i'' c c1 p G G1 V V1 := fun {i'' y} hij => ⟨by omega, by omega, fun x hx => by rw [hg1 x (by omega), f3 x hx], f4.trans w5, by show tN t1 + 8 ≤ _; omega, by show tU t1 + 600 ≤ _; omega, f7.trans (ha1.trans (A1.at hrT))⟩
        have slo := sk_lo (b := b) (n := n) (i := j)
        refine ⟨hC1.1.1.1, r91c (E := E + 1) hC1 (fun e2 hC3 => ?_) (fun e2 hC3 => ?_)⟩
        · have hlt := sk_lt1 (by decide) e2
          have slo2 := sk_lo (b := b) (n := n) (i := sk b n j + 1)
          have hL2 : L = obF b n (vaS b n (wnS b n true) f (some p)) p g0 (sk b n (sk b n j + 1)) c1 V1 := by rw [hL']; exact if_pos e2
          exact ⟨2 * (n - sk b n (sk b n j + 1)) + 1, by omega, rfl, rfl, _, c1, _, G1, q + 1, hC3, nI_1 q, by omega, hkf (by omega), Or.inl ⟨rfl, rfl, by omega, g0, by omega, hL2⟩⟩
        · have hL2 : L = exB b n 125 (sk b n j) c1 V1 := by rw [hL']; exact if_neg e2
          exact ⟨0, by omega, rfl, rfl, _, c1, _, G1, q + 1, hC3, nI_1 q, by omega, hkf slo, Or.inr ⟨rfl, rfl, hL2⟩⟩
      · rw [e] at hL'
        have := hC.2.1
        exact k2 w q2 hL' t1 hF (by omega) (by omega)
    · exact ⟨fun _ => ⟨hv.1, hK, fin hL'⟩, fun _ => ⟨fun _ => ⟨hv.1, hK, fin hL'⟩, fun z => absurd rfl z⟩⟩
end ME
