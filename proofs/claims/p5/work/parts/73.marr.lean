/-! array, OF THE REFERENCE -/
theorem dgt_sk {b : By} {n p : Nat} (h : dgt b n p = true) : sk b n p = p ∧ p < n ∧ ∀ x : Nat, x < 48 ∨ 57 < x → x < 256 → ¬ pk b n p = nI x := by
  obtain ⟨h1, h2, h3⟩ := dgt_lt h
  have key : ∀ x : Nat, x < 48 ∨ 57 < x → x < 256 → ¬ pk b n p = nI x := fun x hx hx2 e => by
    rw [pkI h1] at e
    have := (nI_eq (by omega) (by omega)).mp e
    omega
  refine ⟨sk_no ?_, h1, key⟩
  have a1 := key 32 (by omega) (by omega)
  have a2 := key 9 (by omega) (by omega)
  have a3 := key 10 (by omega) (by omega)
  have a4 := key 13 (by omega) (by omega)
  unfold isBl
  have e1 : ¬ pk b n p = 32 := a1
  have e2 : ¬ pk b n p = 9 := a2
  have e3 : ¬ pk b n p = 10 := a3
  have e4 : ¬ pk b n p = 13 := a4
  simp [e1, e2, e3, e4]
/-- a fault w at p of the reading x: told, or behind a 0 with a digit behind it -/
def Flt (b : By) (n : Nat) (x : Rs) (w p : Nat) : Prop := x = .inr (w, p) ∨ (w = 1 ∧ ∃ c' V', x = .inl (p, c', V') ∧ dgt b n p = true)
def P174 (C : Cx) (M S : Nat) (b : By) (n D f : Nat) : Prop := ∀ (Post : OutT → Ht → Prop) (t : Ht) (i c q : Nat) (V : VT) (u : Option Nat), VS t M S b n i q V c → (∀ p, u = some p → p < c) →
  (∀ j c' V', vaS b n (wnS b n true) f u i c V = .inl (j, c', V') → ∀ t' q', VS t' M S b n j q' V' c' → q ≤ q' → AG S (M + 3) c q t t' → MZ M S t t' → tI t' (S + 4) c = -1 → Post (.inl (some (svI (nI c)))) t') →
  (∀ w p, Flt b n (vaS b n (wnS b n true) f u i c V) w p → ∀ t', FZ M S t t' w p → Post (.inr (16, M + 1)) t') →
  CalG C mtab D 174 [svR (some M), svI (oIx u), svI (nI (31 - f))] t Post
/-- what the kids' reading keeps -/
def KZ (M S p q q' i i' c c' : Nat) (t t' : Ht) (V V' : VT) : Prop := i < i' ∧ c ≤ c' ∧ q ≤ q' ∧ eEq (V p) (V' p) ∧ AG S (M + 3) p q t t' ∧ MZ M S t t' ∧ tI t' (S + 4) p = tI t (S + 4) p
section MA
variable {C : Cx} {E f p : Nat} {Post : OutT → Ht → Prop} {t : Ht} {M S : Nat} {b : By} {n i q : Nat} {V : VT} {c : Nat}
theorem mN {x : Nat} (h : VS t M S b n i q V c) (k1 : pk b n i = nI x → Post (.inl (some (svI 1))) t) (k2 : ¬ pk b n i = nI x → Post (.inl (some (svI 0))) t) : CalG C mtab (E + 3) 157 [svR (some M), svI (nI x)] t Post := by
  refine m157 h.1.1 ?_
  by_cases e : pk b n i = nI x
  · rw [decide_eq_true e]; exact k1 e
  · rw [decide_eq_false e]; exact k2 e
/-- blanks are skipped -/
theorem mBl (h : VS t M S b n i q V c) (k : VS (sI t M 5 (nI (sk b n i))) M S b n (sk b n i) q V c → MX M (M + 1) (M + 3) q t (sI t M 5 (nI (sk b n i))) → Post (.inl none) (sI t M 5 (nI (sk b n i)))) : CalG C mtab (E + 4) 160 [svR (some M)] t Post :=
  m160 h.1.1 h.2.1 (k (h.to sk_lo (sk_le h.2.1)) h.mx)
theorem KZ.x {q' i' i'' c' : Nat} {t1 t2 : Ht} {V' : VT} (h : KZ M S p q q' i i' c c' t t1 V V') (hx : MX M (M + 1) (M + 3) q' t1 t2) (hS : S = M + 4 ∨ S = M + 17) (hi : i' ≤ i'') (hq : 2400 ≤ q') : KZ M S p q q' i i'' c c' t t2 V V' := by
  obtain ⟨h1, h2, h3, h4, h5, h6, h7⟩ := h
  have hg : AG S (M + 3) (p + 1) q' t1 t2 := AG.x hx hS
  exact ⟨by omega, h2, h3, h4, h5.trans hg (by omega) h3, h6.trans (MZ.x hx hq), (hg.1 4 p (by omega) (by omega) (by omega)).trans h7⟩
theorem need_c {x i' q' c' : Nat} {t1 : Ht} {V' : VT} (hx : x < 256) (h : VS t1 M S b n i' q' V' c') (k1 : pk b n i' = nI x → VS (sI t1 M 5 (nI (i' + 1))) M S b n (i' + 1) q' V' c' → MX M (M + 1) (M + 3) q' t1 (sI t1 M 5 (nI (i' + 1))) → Post (.inl none) (sI t1 M 5 (nI (i' + 1)))) (k2 : ¬ pk b n i' = nI x → ∀ t2, FZ M S t1 t2 1 i' → Post (.inr (16, M + 1)) t2) :
    CalG C mtab (E + 4) 159 [svR (some M), svI (nI x)] t1 Post := by
  refine m159 h.1.1 (fun e => k1 e (h.to (by omega) ?_) h.mx) (fun e => k2 e _ FZ.mb)
  exact (pk_nn e (nI_pos (by omega))).1
set_option maxHeartbeats 1000000 in
/-- array -/
theorem m176 {t0 : Ht} (ih : P174 C M S b n (E + 8) f) (ht0 : t0 = sI t (S + 1) p 5) (h : VS t0 M S b n i q V (p + 1)) (hi : i < n) (hk : eK (V p) = 5) (hdp : eD (V p) + 1 = 31 - f) {L : Rs}
    (hL : L = if pk b n (sk b n (i + 1)) = 93 then .inl (sk b n (i + 1) + 1, p + 1, V) else elF b n (vaS b n (wnS b n true) f (some p)) p (n + 1) (sk b n (i + 1)) (p + 1) V)
    (k1 : ∀ j c' V', L = .inl (j, c', V') → ∀ t' q', VS t' M S b n j q' V' c' → q ≤ q' → AG S (M + 3) p q t0 t' → MZ M S t0 t' → tI t' (S + 4) p = tI t0 (S + 4) p → Post (.inl none) t')
    (k2 : ∀ w z, L = .inr (w, z) → ∀ t', FZ M S t0 t' w z → Post (.inr (16, M + 1)) t') : CalG C mtab (E + 9) 176 [svR (some M), svI (nI p), svI (nI (eD (V p)))] t Post := by
  have hs := sk_le (b := b) (n := n) (i := i + 1) (by omega)
  have lo := sk_lo (b := b) (n := n) (i := i + 1)
  have hn : n ≤ 1200 := h.1.1.2.2.2.2.2.2.2.2.1
  have hb := h.1.1.2.2.2.2.2.2.2.2.2.2.1
  have hc3 := h.2.2.2.2.1.2.2
  have hfw : Fwd n (vaS b n (wnS b n true) f (some p)) := vaS_inv hb hn wnS_fwd f (some p)
  have hS := h.2.2.1
  have hS0 := hS.1
  have cp : (nI p).toNatClampNeg = p := nI_clamp (by omega)
  have h0 : KZ M S p q q i (i + 1) (p + 1) (p + 1) t0 t0 V V := ⟨by omega, Nat.le_refl _, Nat.le_refl _, eEq.rfl', AG.rfl', MZ.rfl', rfl⟩
  have q24 := h.2.2.2.2.2.1
  refine cal176 (fun m l3 t' => ∃ i' c' V' q', VS t' M S b n i' q' V' c' ∧ KZ M S p q q' i i' (p + 1) c' t0 t' V V' ∧
      ((l3 = 1 ∧ m = 2 * (n - i') + 2 ∧ ∃ g, n < g + i' ∧ L = elF b n (vaS b n (wnS b n true) f (some p)) p g i' c' V') ∨ (l3 = 0 ∧ m = 1 ∧ L = exB b n 93 i' c' V')))
    (fun m l3 t' => m = 0 ∧ ∃ i' c' V' q', VS t' M S b n i' q' V' c' ∧ KZ M S p q q' i i' (p + 1) c' t0 t' V V' ∧ L = exB b n 93 i' c' V') ?_ ?_ ?_
  · have hK : tK t M = 17 := by have := hS.2.1; rw [ht0] at this; exact this
    have h11 : tR t M 11 = some S := by have := hS.2.2.1; rw [ht0] at this; exact this
    have h15 : tK t S = 15 := by have := hS.2.2.2.1; rw [ht0] at this; exact this
    have hA : tR t S 0 = some (S + 1 + 0) ∧ tL t (S + 1 + 0) = 300 := by have := hS.2.2.2.2.1 0 (by omega); rw [ht0] at this; exact this
    have hA2 : tK t (S + 1 + 0) = 101 := by have := hS.2.2.2.2.2.1 0 (by omega); rw [ht0] at this; exact this
    refine ⟨hK, onS h11 ⟨h15, onS hA.1 ⟨hA2, by rw [hA.2]; exact vp_in_nI (by omega) (by decide), ?_⟩⟩⟩
    rw [cp, show S + 1 + 0 = S + 1 from rfl, ← ht0]
    refine ⟨hS.2.1, hS.2.1, hS.2.1, ?_⟩
    rw [h.1.1.2.2.2.2.2.2.2.1, nI_1]
    have hv1 := h.to (j := i + 1) (by omega) (by omega)
    refine mBl hv1 (fun hv2 hx2 => ⟨rfl, hS.2.1, mN (x := 93) hv2 (fun e => ?_) (fun e => ?_)⟩)
    · have e' : pk b n (sk b n (i + 1)) = 93 := e
      rw [if_pos e'] at hL
      have hlt := sk_lt1 (by decide) e'
      refine ⟨fun z => absurd z (by decide), fun _ => ⟨hS.2.1, hS.2.1, ?_⟩⟩
      rw [hv2.1.1.2.2.2.2.2.2.2.1, nI_1]
      have hv3 := hv2.to (j := sk b n (i + 1) + 1) (by omega) (by omega)
      have hz := ((h0.x h.mx hS0 (Nat.le_refl _) q24).x hx2 hS0 (i'' := sk b n (i + 1)) lo q24).x (hv2.mx (x := nI (sk b n (i + 1) + 1))) hS0 (i'' := sk b n (i + 1) + 1) (by omega) q24
      exact k1 _ _ _ hL _ q hv3 (Nat.le_refl _) hz.2.2.2.2.1 hz.2.2.2.2.2.1 hz.2.2.2.2.2.2
    · have e' : ¬ pk b n (sk b n (i + 1)) = 93 := e
      rw [if_neg e'] at hL
      have hz := (h0.x h.mx hS0 (Nat.le_refl _) q24).x hx2 hS0 (i'' := sk b n (i + 1)) lo q24
      exact ⟨fun _ => ⟨2 * (n - sk b n (i + 1)) + 2, rfl, rfl, rfl, _, p + 1, V, q, hv2, hz, Or.inl ⟨rfl, rfl, n + 1, by omega, hL⟩⟩, fun z => absurd rfl z⟩
  · rintro m l3 t' ⟨i', c', V', q', hv, hz, hAB⟩
    have hS' := hv.2.2.1
    rcases hAB with ⟨rfl, rfl, g, hg, hL'⟩ | ⟨rfl, rfl, hL'⟩
    · refine ⟨fun z => absurd z (by decide), fun _ => ⟨hS'.2.1, ?_⟩⟩
      obtain ⟨z1, z2, z3, z4, z5, z6, z7⟩ := hz
      have hi' := hv.2.1
      obtain ⟨g0, rfl⟩ : ∃ g0, g = g0 + 1 := ⟨g - 1, by omega⟩
      rw [elF] at hL'
      have hd : nI (eD (V p)) + 1 = nI (31 - f) := by rw [nI_1, hdp]
      rw [hd]
      have q24' := hv.2.2.2.2.2.1
      obtain ⟨-, Qp⟩ := hv.2.2.2.1 p (by omega)
      refine ih _ t' i' c' q' V' (some p) hv (fun z hz => by injection hz with hz; omega) (fun j c1 V1 e t1 q1 hv1 hq1 ha1 hm1 hnx => ⟨hv1.2.2.1.2.1, ?_⟩) (fun w z e t1 hF => ?_)
      · rw [e] at hL'
        obtain ⟨w1, w2, w3, w4, w5, w6⟩ := hfw _ _ _ _ _ _ hi' e
        have hU := vaS_up hb hn wnS_fwd e
        have eVp : V1 p = V' p := w4 p (by omega)
        have hk5 : eK (V1 p) = 5 := by
          rw [eVp]
          have : eK (V' p) = eK (V p) := congrArg (fun z => z.1) z4.1
          rw [this]; exact hk
        refine m175 (nm := none) hv1 (by omega) w3 (by omega) (by omega) hnx hU (fun x hx => by rw [eVp] at hx; exact (Qp.2.2.1 x hx).2.1) (fun z => by omega) (fun cs hcs => by cases hcs) (fun t2 hv2 hm2 ha2 hp2 => ⟨rfl, hv2.2.2.1.2.1, ?_⟩)
        have slo := sk_lo (b := b) (n := n) (i := j)
        have hkz : KZ M S p q q1 i j (p + 1) c1 t0 t2 V (vAdo V1 p c' none) := by
          refine ⟨by omega, by omega, by omega, by rw [vAdo_p, eVp]; exact z4.trans ⟨rfl, rfl, rfl⟩, (z5.trans ha1 (by omega) z3).trans ha2 (Nat.le_refl _) (by omega), z6.trans (hm1.trans hm2), ?_⟩
          rw [hp2, ha1.1 4 p (by omega) (by omega) (by omega), z7]
        have q24'' := hv2.2.2.2.2.2.1
        refine mBl hv2 (fun hv3 hx3 => ⟨rfl, hv2.2.2.1.2.1, mN (x := 44) hv3 (fun e2 => ?_) (fun e2 => ?_)⟩)
        · have e' : pk b n (sk b n j) = 44 := e2
          have hlt := sk_lt1 (by decide) e'
          refine ⟨fun z => absurd z (by decide), fun _ => ⟨hv2.2.2.1.2.1, hv2.2.2.1.2.1, hv2.2.2.1.2.1, ?_⟩⟩
          rw [hv3.1.1.2.2.2.2.2.2.2.1, nI_1]
          have hv4 := hv3.to (j := sk b n j + 1) (by omega) (by omega)
          have slo2 := sk_lo (b := b) (n := n) (i := sk b n j + 1)
          refine mBl hv4 (fun hv5 hx5 => ⟨rfl, ?_⟩)
          have hL2 : L = elF b n (vaS b n (wnS b n true) f (some p)) p g0 (sk b n (sk b n j + 1)) c1 (vAdo V1 p c' none) := by rw [hL']; exact if_pos e'
          exact ⟨2 * (n - sk b n (sk b n j + 1)) + 2, by omega, rfl, rfl, rfl, _, c1, _, q1, hv5, ((hkz.x hx3 hv2.2.2.1.1 slo q24'').x hv3.mx hv2.2.2.1.1 (i'' := sk b n j + 1) (by omega) q24'').x hx5 hv2.2.2.1.1 slo2 q24'', Or.inl ⟨rfl, rfl, g0, by omega, hL2⟩⟩
        · have e' : ¬ pk b n (sk b n j) = 44 := e2
          have hL2 : L = exB b n 93 (sk b n j) c1 (vAdo V1 p c' none) := by rw [hL']; exact if_neg e'
          exact ⟨fun _ => ⟨1, by omega, rfl, rfl, rfl, _, c1, _, q1, hv3, hkz.x hx3 hv2.2.2.1.1 slo q24'', Or.inr ⟨rfl, rfl, hL2⟩⟩, fun z => absurd rfl z⟩
      · refine k2 w z ?_ t1 (FZ.of z6 hF)
        rcases e with e | ⟨rfl, c1, V1, e, hd⟩
        · rw [e] at hL'; exact hL'
        · rw [e] at hL'
          obtain ⟨d1, d2, d3⟩ := dgt_sk hd
          rw [hL']
          show (if pk b n (sk b n z) = 44 then _ else if pk b n (sk b n z) = 93 then _ else _) = _
          rw [d1, if_neg (show ¬ pk b n z = 44 from d3 44 (by omega) (by omega)), if_neg (show ¬ pk b n z = 93 from d3 93 (by omega) (by omega))]
    · exact ⟨fun _ => ⟨0, by omega, rfl, rfl, rfl, rfl, i', c', V', q', hv, hz, hL'⟩, fun z => absurd rfl z⟩
  · rintro m l3 t' ⟨rfl, i', c', V', q', hv, hz, hL'⟩
    unfold exB at hL'
    have hS' := hv.2.2.1
    have q24' := hv.2.2.2.2.2.1
    refine ⟨hS'.2.1, need_c (x := 93) (by omega) hv (fun e hv2 hx2 => ⟨rfl, ?_⟩) (fun e t2 hF => ?_)⟩
    · have e' : pk b n i' = 93 := e
      rw [if_pos e'] at hL'
      have hz2 := hz.x hx2 hS'.1 (i'' := i' + 1) (by omega) q24'
      exact k1 _ _ _ hL' _ q' hv2 hz.2.2.1 hz2.2.2.2.2.1 hz2.2.2.2.2.2.1 hz2.2.2.2.2.2.2
    · have e' : ¬ pk b n i' = 93 := e
      rw [if_neg e'] at hL'
      exact k2 _ _ hL' _ (FZ.of hz.2.2.2.2.2.1 hF)
end MA
