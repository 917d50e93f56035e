/-! readNode AND whole, by the component -/
section WH
variable {C : Cx} {d E f p : Nat} {Post : OutT → Ht → Prop} {t0 t t' : Ht} {vr r tp ch : Nat} {b : By} {n i : Nat} {G : GT} {V : VT} {c : Nat}
/-- kindBegunBy -/
theorem p121 {x : Int32} (k : Post (.inl (some (svI (oIx (kdB x))))) t) : CalG C mtab (d + 2) 121 [svI x] t Post := by
  unfold kdB at k
  refine cal121 ⟨fun e => ?_, fun e => ?_⟩
  · rw [if_pos e] at k; exact k
  rw [if_neg e] at k
  refine ⟨fun e => ?_, fun e => ?_⟩
  · rw [if_pos e] at k; exact k
  rw [if_neg e] at k
  refine ⟨fun e => ?_, fun e => ?_⟩
  · rw [if_pos e] at k; exact k
  rw [if_neg e] at k
  refine ⟨fun e => ?_, fun e => ?_⟩
  · rw [if_pos e] at k; exact k
  rw [if_neg e] at k
  refine ⟨fun e => ?_, fun e => ?_⟩
  · rw [if_pos e] at k; exact k
  rw [if_neg e] at k
  refine ⟨fun e => ?_, fun e => ?_⟩
  · rw [if_pos e] at k; exact k
  rw [if_neg e] at k
  refine ⟨fun e => ?_, fun e => ?_⟩
  · rw [if_pos e] at k; exact k
  rw [if_neg e] at k
  refine c142 ⟨fun e => ?_, fun e => ?_⟩
  · rw [if_pos e] at k; exact k
  · rw [if_neg e] at k; exact k
set_option maxHeartbeats 800000 in
/-- readNode -/
theorem r120 (hf : f ≤ 30) (ih : ∀ f0, f = f0 + 1 → P120 C t0 vr r tp ch b n (E + 8) f0 ∧ P120 C t0 vr r tp ch b n (E + 9) f0) : P120 C t0 vr r tp ch b n (E + 12) f := by
  intro Post t i c G V u a ha h hu k1 k2
  subst ha
  have hn : n ≤ 1200 := h.1.1.2.2.2.2.2.2.1
  have hb := h.1.1.2.2.2.2.2.2.2.2.1
  have hK := h.1.1.1
  have hv := h.2.2.1
  have hin := h.2.1
  have hat := h.1.1.2.2.2.2.2.1
  obtain ⟨n1, n2, n3, n4⟩ := h.ne
  have hTN := h.2.2.2.2.1.1
  have hvT := h.2.2.2.1.1
  have bad : ∀ w : Nat, vaS b n (wnS b n true) f u i c V = .inr (w, i) → CalG C mtab (E + 11) 83 [svR (some r), svI (nI w), svI (nI i)] t (aftV (fun v16 t17 => v16 = none ∧ False) (fun k18 q19 t20 => Post (.inr (k18, q19)) t20)) := fun w e => by
    obtain ⟨g1, g2, g3⟩ := h.bad (w := w) (p := i) RX.rfl' rfl rfl
    exact c83 hK (k2 w i e _ g1 (by show tN t + 1 ≤ _; omega) (by show tU t + 6 ≤ _; omega))
  have weak : ∀ {w : Nat} {x y : Int32} {K : Ht → Prop}, x = nI w → y = nI i → CalG C mtab (E + 11) 83 [svR (some r), svI (nI w), svI (nI i)] t (aftV (fun v16 t17 => v16 = none ∧ False) (fun k18 q19 t20 => Post (.inr (k18, q19)) t20)) → CalG C mtab (E + 11) 83 [svR (some r), svI x, svI y] t (aftV (fun v16 t17 => v16 = none ∧ K t17) (fun k18 q19 t20 => Post (.inr (k18, q19)) t20)) := by
    rintro w x y K rfl rfl ⟨q, q1, o, t1, q2, q3⟩
    refine ⟨q, q1, o, t1, ?_, q3⟩
    rcases o with o | o
    · exact q2.2.elim
    · exact q2
  refine cal120b (fun m l3 t' => m = 3 ∧ t' = t ∧ ∃ k, l3 = nI k ∧ kdB (pk b n i) = some k) (fun m l3 t' => m = 2 ∧ t' = t ∧ ∃ k, l3 = nI k ∧ kdB (pk b n i) = some k ∧ c < 300 ∧ 0 < f)
    (fun m l3 l4 t' => m = 1 ∧ l4 = some (tN t) ∧ ∃ k f0, kdB (pk b n i) = some k ∧ c < 300 ∧ f = f0 + 1 ∧ CV C t0 (sR t' vr 2 (some (tN t))) vr r tp ch b n i (up1 G c (tN t, tN t + 1, 0, 0)) (up1 V c (ePen k u (30 - f0) c)) (c + 1) ∧ A1 (tN t0) t (sR t' vr 2 (some (tN t))) ∧ tN t' ≤ tN t + 2 ∧ tU t' ≤ tU t + 14) ?_ ?_ ?_ ?_
  · unfold vc120b
    rw [hv.2.1]
    refine ⟨hv.1, hK, r85 h.1.1 (p121 ?_)⟩
    cases hkd : kdB (pk b n i) with
    | none =>
      refine ⟨fun _ => ⟨hv.1, hv.1, ?_⟩, fun e => absurd rfl e⟩
      rw [hv.2.1]
      exact ⟨hK, hK, weak rfl hat (bad 1 (by cases f <;> (rw [vaS, hkd])))⟩
    | some k =>
      have hk := kdB_lt hb hkd
      refine ⟨fun e => ?_, fun _ => ⟨3, rfl, rfl, rfl, rfl, rfl, k, rfl, rfl⟩⟩
      have e' : nI k = -1 := e
      exact absurd (show nI k < 0 by rw [e']; decide) (nI_pos (by omega))
  · rintro m l3 t' ⟨rfl, rfl, k, rfl, hkd⟩
    have hc300 := h.2.2.2.2.2.1.2.2
    unfold vc120b_31
    rw [hv.2.1, hv.2.2.1]
    refine ⟨hv.1, fun e => ⟨hv.1, hv.1, hK, hK, weak rfl hat (bad 4 ?_)⟩, fun e => ⟨fun e2 => ⟨2, by decide, rfl, rfl, rfl, rfl, rfl, k, rfl, hkd, ?_, ?_⟩, fun e2 => ⟨hv.1, hv.1, hK, hK, weak rfl hat (bad 4 ?_)⟩⟩⟩
    · have : 300 ≤ c := (nI_leI (a := 300) (b := c) (by decide) (by omega)).mp e
      cases f with
      | zero => rw [vaS, hkd]
      | succ f => rw [vaS, hkd]; exact if_pos this
    · rcases Nat.lt_or_ge c 300 with z | z
      · exact z
      · exact absurd (nI_le z (by omega)) e
    · have : 31 - f ≤ 30 := (nI_leI (a := 31 - f) (b := 30) (by omega) (by decide)).mp e2
      omega
    · have : f = 0 := by
        rcases Nat.eq_zero_or_pos f with z | z
        · exact z
        · exact absurd (nI_le (a := 31 - f) (b := 30) (by omega) (by decide)) e2
      subst this
      rw [vaS, hkd]
  · rintro m l3 t' ⟨rfl, rfl, k, rfl, hkd, hc, hf0⟩
    obtain ⟨f0, rfl⟩ : ∃ f0, f = f0 + 1 := ⟨f - 1, by omega⟩
    have hk := kdB_lt hb hkd
    have hvN : ¬ vr = tN t' := by omega
    unfold vc120b_62
    rw [show tI (tNew t' 3 0 11) vr 1 = nI c by simp [ht, hvN, hv.2.2.1], show (31 - (f0 + 1)) = 30 - f0 by omega]
    refine ⟨by simp [ht, hvN, hv.1], r26 hk.2 (fun t2 hF => ?_)⟩
    have sv2 := hF.1 vr (by omega)
    have v12 : tK t2 vr = 12 := sv2.1.trans hv.1
    have hN2 : tN t2 ≤ tN t' + 2 ∧ tU t2 ≤ tU t' + 14 ∧ tN t' + 1 ≤ tN t2 := by
      rcases hF.2.2.2 with ⟨-, q2, q3, -⟩ | ⟨-, q2, q3, -⟩ <;> omega
    have e1 : tI t2 vr 1 = nI c := (sv2.2.2.1 1).trans hv.2.2.1
    have e2 : tR t2 vr 2 = (if c = 0 then none else some (gA G (c - 1))) := (sv2.2.2.2.2 2).trans hv.2.2.2
    refine ⟨rfl, v12, v12, v12, ?_⟩
    rw [e1, nI_1]
    have e3 : tR (sI t2 vr 1 (nI (c + 1))) vr 2 = (if c = 0 then none else some (gA G (c - 1))) := e2
    rw [e3]
    by_cases hc0 : c = 0
    · rw [if_pos hc0]
      obtain ⟨g1, g2⟩ := h.made (t5 := sR (sI t2 vr 1 (nI (c + 1))) vr 2 (some (tN t'))) hc hk.2 (by omega : 30 - f0 ≤ 30) hu hF rfl (fun x x1 _ => (sameAt_sI x1).trans (sameAt_sR x1)) (fun q hq => by omega) rfl rfl (fun _ => rfl) (fun k hk => by simp [ht, hk]) (by simp [ht]) (fun k hk => by simp [ht, hk]) (by simp [ht])
      exact ⟨1, by decide, rfl, rfl, rfl, rfl, rfl, k, f0, hkd, hc, rfl, g1, g2, hN2.1, hN2.2.1⟩
    · rw [if_neg hc0]
      have hg := (h.2.2.2.2.2.1.1 (c - 1) (by omega)).1.1
      have hlv : gA G (c - 1) ≠ vr := by omega
      have hlv' : ¬ vr = gA G (c - 1) := fun e => hlv e.symm
      have hln : ¬ gA G (c - 1) = tN t' := by omega
      refine ⟨v12, (hF.1 _ hg.2.1).1.trans hg.2.2, ?_⟩
      obtain ⟨g1, g2⟩ := h.made (t5 := sR (sR (sI t2 vr 1 (nI (c + 1))) (gA G (c - 1)) 10 (some (tN t'))) vr 2 (some (tN t'))) hc hk.2 (by omega : 30 - f0 ≤ 30) hu hF rfl (fun x x1 x2 => (sameAt_sI x1).trans ((sameAt_sR (x2 (c - 1) (by omega))).trans (sameAt_sR x1)))
        (fun q hq => by
          have : q = c - 1 := by omega
          subst this
          refine ⟨⟨rfl, rfl, fun k => ?_, fun k => rfl, fun k hk => ?_⟩, ?_⟩
          · simp [ht, hlv]
          · simp [ht, hlv, hk]
          · simp [ht, hlv]) rfl rfl (fun _ => rfl) (fun k hk => by simp [ht, hk]) (by simp [ht]) (fun k hk => by simp [ht, hk, hlv']) (by simp [ht])
      exact ⟨1, by decide, rfl, rfl, rfl, rfl, rfl, k, f0, hkd, hc, rfl, g1, g2, hN2.1, hN2.2.1⟩
  · rintro m l3 l4 t' ⟨rfl, rfl, k, f0, hkd, hc, rfl, hC, hA, hN, hU⟩
    obtain ⟨ih1, ih2⟩ := ih f0 rfl
    have hk := kdB_lt hb hkd
    have hself := up1_eq (f := V) (a := c) (x := ePen k u (30 - f0) c)
    have eA : gA (up1 G c (tN t, tN t + 1, 0, 0)) c = tN t := by unfold gA; rw [up1_eq]
    have hvS : vaS b n (wnS b n true) (f0 + 1) u i c V = rsL c (rsS b n (wnS b n true) (vaS b n (wnS b n true) f0 (some c)) k i c (up1 V c (eMk k u (30 - f0) 0 [] c))) := by
      rw [vaS, hkd]; exact if_neg (by omega)
    refine ⟨hC.2.2.1.1, hC.2.2.1.1, ?_⟩
    have key := r122 (E := E) (Post := aftV (fun v1 t2 => v1 = none ∧ tK t2 vr = 12 ∧ onR (some (tN t)) (fun a6 => tK t2 a6 = 3 ∧ Post (.inl (some (svR (some (tN t))))) (sI t2 a6 9 ((tI t2 vr 1) - (1 : Int32))))) (fun k3 q4 t5 => Post (.inr (k3, q4)) t5)) (k := k) (u := u) ih1 ih2 hC hk.1 hself (by omega) hkd rfl ?_ ?_
    · rw [eA] at key; exact key
    · intro j c' V' e t2 G2 hC2 hg hA2 b1 b2
      rw [up1_up1] at e
      have hfw : Fwd n (vaS b n (wnS b n true) f0 (some c)) := vaS_inv hb hn wnS_fwd f0 (some c)
      obtain ⟨w1, w2, w3, w4, w5, w6⟩ := rsS_inv hb hn wnS_fwd hfw hk.1 e
      have eA2 : gA G2 c = tN t := by rw [hg c (by omega), eA]
      obtain ⟨nc, wc, -⟩ := hC2.2.2.2.2.2.1.1 c w3
      have hKc := nc.1.2.2
      have hs : ∀ x, x ≠ gA G2 c → sameAt t2 (sI t2 (gA G2 c) 9 (nI (c' - 1))) x := fun x hx => sameAt_sI hx
      have hV2 : NV C (tN t0) (sI t2 (gA G2 c) 9 (nI (c' - 1))) G2 (up1 V' c (eLst (V' c) (c' - 1))) c' := by
        refine NV.slot hC2.2.2.2.2.2.1 w3 rfl hs rfl (fun k hk => by simp [ht, hk]) (fun _ _ => rfl) rfl rfl rfl rfl rfl (fun _ => rfl) nc.2.1.2.2.2.2 ?_ (by simp [ht]; rfl) wc.2.2.2.2.2.2.1 (fun _ => Or.inl rfl)
        exact nc.2.2.1.1.frame (Nat.le_refl _) (fun x _ _ x3 => hs x (fun z => by rw [z, hKc] at x3; cases x3))
      obtain ⟨g1, g2⟩ := hC2.slot (t' := sI t2 (gA G2 c) 9 (nI (c' - 1))) w3 rfl hs hV2
      have ev : tI t2 vr 1 - 1 = nI (c' - 1) := by
        rw [hC2.2.2.1.2.2.1, show c' = (c' - 1) + 1 by omega, nI_s1]; rfl
      refine ⟨rfl, hC2.2.2.1.1, ?_⟩
      show tK t2 (tN t) = 3 ∧ _
      rw [ev, ← eA2]
      have c1' : tN (sR t' vr 2 (some (tN t))) = tN t' := rfl
      have c2' : tU (sR t' vr 2 (some (tN t))) = tU t' := rfl
      refine ⟨hKc, k1 j c' _ (by rw [hvS, e]; rfl) _ G2 g1 (fun x hx => ?_) (hA.trans (hA2.trans g2)) ?_ ?_⟩
      · rw [hg x (by omega)]; unfold gA; rw [up1_ne (by omega)]
      · show tN t2 + 2 ≤ _; omega
      · show tU t2 + 480 ≤ _; omega
    · intro w q e t2 hF b1 b2
      rw [up1_up1] at e
      have c1' : tN (sR t' vr 2 (some (tN t))) = tN t' := rfl
      have c2' : tU (sR t' vr 2 (some (tN t))) = tU t' := rfl
      exact k2 w q (by rw [hvS, e]; rfl) t2 hF (by omega) (by omega)
theorem r120all : ∀ (f : Nat), f ≤ 30 → ∀ E, P120 C t0 vr r tp ch b n (E + 12 + 4 * f) f := by
  intro f
  induction f with
  | zero => intro _ E; exact r120 (by omega) (fun f0 h => by omega)
  | succ f ih =>
    intro hf E
    have h1 := ih (by omega) E
    have h2 := ih (by omega) (E + 1)
    have := r120 (C := C) (t0 := t0) (vr := vr) (r := r) (tp := tp) (ch := ch) (b := b) (n := n) (E := E + 4 + 4 * f) (f := f + 1) hf (fun f0 h => by
      have : f = f0 := by omega
      subst this
      rw [show E + 12 + 4 * f = E + 4 + 4 * f + 8 by omega] at h1
      rw [show E + 1 + 12 + 4 * f = E + 4 + 4 * f + 9 by omega] at h2
      exact ⟨h1, h2⟩)
    rw [show E + 12 + 4 * (f + 1) = E + 4 + 4 * f + 12 by omega]
    exact this
/-- what the reader of a value may change, by its first word -/
def W0 (C : Cx) (t : Ht) (vr r tp ch : Nat) (b : By) (n : Nat) : Prop := RB t r tp ch b n 0 ∧ (tK t vr = 12 ∧ tR t vr 0 = some r) ∧ vr < tN t
set_option maxHeartbeats 800000 in
/-- whole -/
theorem r119 (V : VT) (h : W0 C t vr r tp ch b n)
    (k1 : ∀ j c V', whS b n (wnS b n true) V = .inl (j, c, V') → ∀ t' G, VF vr r ch t t' → NV C (tN t) t' G V' c → 0 < c → tI t' r 5 = tI t r 5 → tI t' r 6 = tI t r 6 → tN t' ≤ tN t + 8 * n → tU t' ≤ tU t + 600 * n → Post (.inl (some (svR (some (gA G 0))))) t')
    (k2 : ∀ w q, whS b n (wnS b n true) V = .inr (w, q) → ∀ t', FV vr r ch t t' w q → tN t' ≤ tN t + 8 * (n + 1) → tU t' ≤ tU t + 600 * (n + 1) → Post (.inr (200, 0)) t') : CalG C mtab (d + 140) 119 [svR (some vr)] t Post := by
  obtain ⟨hB, ⟨v1, v2⟩, hvN⟩ := h
  have hn : n ≤ 1200 := hB.1.2.2.2.2.2.2.1
  have hb := hB.1.2.2.2.2.2.2.2.2.1
  have hK := hB.1.1
  have hvr : ¬ r = vr := fun e => by rw [e, v1] at hK; cases hK
  have hvt : ¬ tp = vr := fun e => by have := hB.1.2.2.1; rw [e, v1] at this; cases this
  have hvc : ¬ ch = vr := fun e => by have := hB.2.2.1; rw [e, v1] at this; cases this
  have hs0 : ∀ x, x ≠ vr → sameAt t (sR (sI t vr 1 0) vr 2 none) x := fun x hx => (sameAt_sI hx).trans (sameAt_sR hx)
  have hCV : CV C t (sR (sI t vr 1 0) vr 2 none) vr r tp ch b n 0 (fun _ => (0, 0, 0, 0)) V 0 := by
    have sr := hs0 r hvr
    have st := hs0 tp hvt
    have sc := hs0 ch hvc
    obtain ⟨⟨g1, g2, g3, g4, g5, g6, g7, g8, g9, g10⟩, g11, g12, g13, g14, g15, g16⟩ := hB
    refine ⟨⟨⟨sr.1.trans g1, (sr.2.2.2.2 0).trans g2, st.1.trans g3, st.2.1.trans g4, (sr.2.2.1 3).trans g5, (sr.2.2.1 4).trans g6, g7, g8, g9, fun k hk => by rw [st.2.2.1 k]; exact g10 k hk⟩, (sr.2.2.2.2 1).trans g11, sc.1.trans g12, sc.2.1.trans g13, g14, g15, g16⟩, Nat.zero_le _, ⟨v1, ?_, ?_, ?_⟩, ⟨hvN, g15, g14, g16⟩, ⟨Nat.le_refl _, fun x hx => ?_⟩, ⟨fun j hj => absurd hj (Nat.not_lt_zero _), fun j _ hj => absurd hj (Nat.not_lt_zero _), by omega⟩, sr.2.2.1 5, sr.2.2.1 6⟩
    · simp [ht, v2]
    · simp [ht]; rfl
    · simp [ht]
    · refine ⟨rfl, rfl, fun _ => rfl, fun k z => ?_, fun k _ _ z => ?_⟩
      · rw [(by simp [ht] : tR (sR (sI t vr 1 0) vr 2 none) x k = if x = vr ∧ k = 2 then none else tR t x k), if_neg (by omega)]
      · rw [(by simp [ht] : tI (sR (sI t vr 1 0) vr 2 none) x k = if x = vr ∧ k = 1 then 0 else tI t x k), if_neg (by omega)]
  have hs := sk_le (b := b) (n := n) (i := 0) (by omega)
  have hC1 := hCV.to hs
  have hfw : Fwd n (vaS b n (wnS b n true) 30 none) := vaS_inv hb hn wnS_fwd 30 none
  have rall := r120all (C := C) (t0 := t) (vr := vr) (r := r) (tp := tp) (ch := ch) (b := b) (n := n) 30 (by omega) (d + 7)
  rw [show d + 7 + 12 + 4 * 30 = d + 139 by omega] at rall
  have cN : ∀ y, tN (sI (sR (sI t vr 1 0) vr 2 none) r 4 y) = tN t := fun _ => rfl
  have cU : ∀ y, tU (sI (sR (sI t vr 1 0) vr 2 none) r 4 y) = tU t := fun _ => rfl
  refine cal119 ?_
  unfold vc119
  rw [hCV.2.2.1.2.1]
  refine ⟨v1, v1, v1, hK, r87 hCV.1.1 hCV.2.1 ⟨rfl, v1, ?_⟩⟩
  refine rall _ _ _ 0 _ V none none rfl hC1 (fun p hp => by cases hp) (fun j c V' e t' G' hC2 _ _ b1 b2 => ?_) (fun w q e t' hF b1 b2 => ?_)
  · obtain ⟨w1, w2, w3, w4, w5, w6⟩ := hfw _ _ _ _ _ _ hs e
    have hs2 := sk_le (b := b) (n := n) (i := j) w2
    have hC3 := hC2.to hs2
    have hv2 := hC2.2.2.1
    have hK2 := hC2.1.1.1
    rw [cN] at b1
    rw [cU] at b2
    refine ⟨hv2.1, ?_⟩
    rw [hv2.2.1]
    refine ⟨hK2, r87 hC2.1.1 hC2.2.1 ⟨rfl, hv2.1, ?_⟩⟩
    rw [hC2.in]
    refine ⟨hK2, r88 hC3.1.1 (fun e2 => ⟨rfl, ?_⟩) (fun e2 => ?_)⟩
    · have hjn : n ≤ sk b n j := by
        rcases Nat.lt_or_ge (sk b n j) n with z | z
        · rw [pkI z] at e2
          have := hb (sk b n j)
          exact absurd (show nI (b (sk b n j)) < 0 by rw [e2]; decide) (nI_pos (by omega))
        · exact z
      have hry : RY r ch t' (sI (sI t' r 4 (nI (sk b n j))) r 4 (nI (sk b n j + 1))) := ((RX.I (Or.inr rfl)).trans (RX.I (Or.inr rfl))).y
      have hrx : RX r ch t' (sI (sI t' r 4 (nI (sk b n j))) r 4 (nI (sk b n j + 1))) := (RX.I (Or.inr rfl)).trans (RX.I (Or.inr rfl))
      have hw : whS b n (wnS b n true) V = .inl (sk b n j, c, V') := by
        unfold whS; rw [e]; exact if_neg (by omega)
      have hrT := hC2.2.2.2.1.2.1
      have hcT := hC2.2.2.2.1.2.2.1
      have hTN := hC2.2.2.2.2.1.1
      refine k1 _ _ _ hw _ G' (hC2.2.2.2.2.1.ry hry) (hC2.2.2.2.2.2.1.frame (Nat.le_refl _) (fun x x1 x2 _ => hrx.same x2 (by omega) (by omega))) (by omega) ?_ ?_ ?_ ?_
      · rw [show tI (sI (sI t' r 4 (nI (sk b n j))) r 4 (nI (sk b n j + 1))) r 5 = tI t' r 5 by simp [ht]]
        exact hC2.2.2.2.2.2.2.1.trans rfl
      · rw [show tI (sI (sI t' r 4 (nI (sk b n j))) r 4 (nI (sk b n j + 1))) r 6 = tI t' r 6 by simp [ht]]
        exact hC2.2.2.2.2.2.2.2.trans rfl
      · show tN t' ≤ _; omega
      · show tU t' ≤ _; omega
    · have hjn : sk b n j < n := by
        rcases Nat.lt_or_ge (sk b n j) n with z | z
        · exact z
        · rw [pkO z] at e2; exact absurd rfl e2
      have hw : whS b n (wnS b n true) V = .inr (1, sk b n j) := by
        unfold whS; rw [e]; exact if_pos hjn
      obtain ⟨g1, g2, g3⟩ := hC2.bad (w := 1) (p := sk b n j) (RX.I (r := r) (ch := ch) (x := nI (sk b n j)) (Or.inr rfl)) rfl rfl
      exact k2 _ _ hw _ g1 (by show tN t' + 1 ≤ _; omega) (by show tU t' + 6 ≤ _; omega)
  · have hw : whS b n (wnS b n true) V = .inr (w, q) := by
      unfold whS; rw [e]
    rw [cN] at b1
    rw [cU] at b2
    exact k2 _ _ hw _ hF (by omega) (by omega)
end WH
