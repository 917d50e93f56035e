/-! ELEMENTS AND MEMBERS, by the component -/
/-- arrays of ints of the reading stand as they were -/
def A1 (T : Nat) (t t' : Ht) : Prop := tN t ≤ tN t' ∧ ∀ x, T ≤ x → x < tN t → tK t x = 101 → sameAt t t' x
theorem A1.rfl' {T : Nat} {t : Ht} : A1 T t t := ⟨Nat.le_refl _, fun _ _ _ _ => sameAt.rfl'⟩
theorem A1.trans {T : Nat} {t t1 t2 : Ht} (h : A1 T t t1) (g : A1 T t1 t2) : A1 T t t2 := by
  refine ⟨by have := h.1; have := g.1; omega, fun x x1 x2 x3 => ?_⟩
  have s1 := h.2 x x1 x2 x3
  exact s1.trans (g.2 x x1 (by have := h.1; omega) (by rw [s1.1]; exact x3))
theorem A1.rx {T r ch : Nat} {t t' : Ht} (h : RX r ch t t') (hr : r < T) (hc : ch < T) : A1 T t t' := ⟨h.1, fun x x1 x2 _ => h.same x2 (by omega) (by omega)⟩
theorem A1.at {T r : Nat} {t : Ht} {y : Int32} (hr : r < T) : A1 T t (sI t r 4 y) := A1.rx (r := r) (ch := r) (RX.I (Or.inr rfl)) hr hr
theorem A1.ad {T : Nat} {t t' : Ht} (h : AdF T t t') : A1 T t t' := ⟨h.1, fun x _ x2 x3 => h.2.2.2.2 x x2 (Or.inr (by rw [x3]; decide))⟩
def P120 (C : Cx) (t0 : Ht) (vr r tp ch : Nat) (b : By) (n D f : Nat) : Prop := ∀ (Post : OutT → Ht → Prop) (t : Ht) (i c : Nat) (G : GT) (V : VT) (u a : Option Nat), a = u.map (gA G) → CV C t0 t vr r tp ch b n i G V c → (∀ p, u = some p → p < c) →
  (∀ j c' V', vaS b n (wnS b n true) f u i c V = .inl (j, c', V') → ∀ t' G', CV C t0 t' vr r tp ch b n j G' V' c' → (∀ x, x < c → gA G' x = gA G x) → A1 (tN t0) t t' → tN t' + 2 ≤ tN t + 8 * (j - i) → tU t' + 480 ≤ tU t + 600 * (j - i) → Post (.inl (some (svR (some (gA G' c))))) t') →
  (∀ w p, vaS b n (wnS b n true) f u i c V = .inr (w, p) → ∀ t', FV vr r ch t0 t' w p → tN t' ≤ tN t + 8 * (n + 1 - i) → tU t' ≤ tU t + 600 * (n + 1 - i) → Post (.inr (200, 0)) t') →
  CalG C mtab D 120 [svR (some vr), svR a, svI (nI (31 - f))] t Post
section EL
variable {C : Cx} {E f p : Nat} {Post : OutT → Ht → Prop} {t0 t t' : Ht} {vr r tp ch : Nat} {b : By} {n i : Nat} {G : GT} {V : VT} {c : Nat}
theorem wnS_fwd : ∀ i j m N, wnS b n true i = .inl (j, m, N) → i < j ∧ j ≤ n := fun _ _ _ _ h => wnS_le h
/-- what the kids' reading keeps -/
def KF (T : Nat) (t t' : Ht) (i i' c c' p : Nat) (G G' : GT) (V V' : VT) : Prop := i < i' ∧ c ≤ c' ∧ (∀ x, x < c → gA G' x = gA G x) ∧ eEq (V p) (V' p) ∧ tN t' + 8 ≤ tN t + 8 * (i' - i) ∧ tU t' + 600 ≤ tU t + 600 * (i' - i) ∧ A1 T t t'
def exB (b : By) (n : Nat) (x : Int32) (i' c' : Nat) (V' : VT) : Rs := if pk b n i' = x then .inl (i' + 1, c', V') else .inr (1, i')
/-- the bracket that closes -/
theorem r88c {t1 : Ht} {x : Int32} {i' c' : Nat} {G' : GT} {V' : VT} (hx : ¬ x < 0) (h : CV C t0 t1 vr r tp ch b n i' G' V' c') (k1 : pk b n i' = x → CV C t0 (sI t1 r 4 (nI (i' + 1))) vr r tp ch b n (i' + 1) G' V' c' → Post (.inl none) (sI t1 r 4 (nI (i' + 1)))) (k2 : ¬ pk b n i' = x → ∀ t2, FV vr r ch t0 t2 1 i' → tN t2 = tN t1 + 1 → tU t2 = tU t1 + 6 → Post (.inr (200, 0)) t2) :
    CalG C mtab (E + 8) 88 [svR (some r), svI x] t1 (aftV (fun v2 t3 => v2 = none ∧ Post (.inl none) t3) (fun k4 q5 t6 => Post (.inr (k4, q5)) t6)) := by
  refine r88 h.1.1 (fun e => ⟨rfl, k1 e (h.to ?_)⟩) (fun e => ?_)
  · exact (pk_nn e hx).1
  · obtain ⟨g1, g2, g3⟩ := h.bad (w := 1) (p := i') RX.rfl' rfl rfl
    exact k2 e _ g1 g2 g3
theorem r91c {t1 : Ht} {i' c' : Nat} {G' : GT} {V' : VT} (h : CV C t0 t1 vr r tp ch b n i' G' V' c') {g : OutT → Ht → Prop}
    (k1 : pk b n (sk b n i') = 44 → CV C t0 (sI t1 r 4 (nI (sk b n (sk b n i' + 1)))) vr r tp ch b n (sk b n (sk b n i' + 1)) G' V' c' → g (.inl (some (svI 1))) (sI t1 r 4 (nI (sk b n (sk b n i' + 1)))))
    (k2 : ¬ pk b n (sk b n i') = 44 → CV C t0 (sI t1 r 4 (nI (sk b n i'))) vr r tp ch b n (sk b n i') G' V' c' → g (.inl (some (svI 0))) (sI t1 r 4 (nI (sk b n i')))) : CalG C mtab (E + 8) 91 [svR (some r)] t1 g := by
  refine r91 h.1.1 h.2.1 (fun e => k1 e (h.to ?_)) (fun e => k2 e (h.to (sk_le h.2.1)))
  exact sk_le (sk_lt1 (by decide) e)
set_option maxHeartbeats 400000 in
/-- readElements -/
theorem r125 (ih : P120 C t0 vr r tp ch b n (E + 8) f) (h : CV C t0 t vr r tp ch b n i G V c) (hi : i < n) (hp : p < c) (hk : eK (V p) = 5) (hdp : eD (V p) + 1 = 31 - f) {L : Rs}
    (hL : L = if pk b n (sk b n (i + 1)) = 93 then .inl (sk b n (i + 1) + 1, c, V) else elF b n (vaS b n (wnS b n true) f (some p)) p (n + 1) (sk b n (i + 1)) c V)
    (k1 : ∀ j c' V', L = .inl (j, c', V') → ∀ t' G', CV C t0 t' vr r tp ch b n j G' V' c' → (∀ x, x < c → gA G' x = gA G x) → A1 (tN t0) t t' → tN t' + 4 ≤ tN t + 8 * (j - i) → tU t' + 494 ≤ tU t + 600 * (j - i) → Post (.inl none) t')
    (k2 : ∀ w q, L = .inr (w, q) → ∀ t', FV vr r ch t0 t' w q → tN t' + 2 ≤ tN t + 8 * (n + 1 - i) → tU t' + 14 ≤ tU t + 600 * (n + 1 - i) → Post (.inr (200, 0)) t') : CalG C mtab (E + 9) 125 [svR (some vr), svR (some (gA G p))] t Post := by
  have hs := sk_le (b := b) (n := n) (i := i + 1) (by omega)
  have lo := sk_lo (b := b) (n := n) (i := i + 1)
  have hn : n ≤ 1200 := h.1.1.2.2.2.2.2.2.1
  have hb := h.1.1.2.2.2.2.2.2.2.2.1
  have hfw : Fwd n (vaS b n (wnS b n true) f (some p)) := vaS_inv hb hn wnS_fwd f (some p)
  refine cal125 (fun m l2 l3 t' => ∃ i' c' V' G' q, CV C t0 t' vr r tp ch b n i' G' V' c' ∧ l3 = nI q ∧ q ≤ 301 ∧ KF (tN t0) t t' i i' c c' p G G' V V' ∧
    ((l2 = 1 ∧ m = 2 * (n - i') + 1 ∧ q + 1 ≤ c' ∧ ∃ g, n < g + i' ∧ L = elF b n (vaS b n (wnS b n true) f (some p)) p g i' c' V') ∨ (l2 = 0 ∧ m = 0 ∧ L = exB b n 93 i' c' V'))) ?_ ?_
  · refine ⟨h.2.2.1.1, r124 (by decide) h hi (fun e => ?_) (fun e => ?_)⟩
    · rw [if_pos e] at hL
      have hlt := sk_lt1 (by decide) e
      refine ⟨fun z => absurd z (by decide), fun _ => k1 _ _ _ hL _ G (h.to (by omega)) (fun _ _ => rfl) (A1.at h.2.2.2.1.2.1) ?_ ?_⟩
      · show tN t + 4 ≤ _; omega
      · show tU t + 494 ≤ _; omega
    · rw [if_neg e] at hL
      refine ⟨fun _ => ⟨2 * (n - sk b n (i + 1)) + 1, rfl, rfl, _, c, V, G, 0, h.to hs, rfl, by decide, ⟨by omega, Nat.le_refl _, fun _ _ => rfl, eEq.rfl', ?_, ?_, A1.at h.2.2.2.1.2.1⟩, Or.inl ⟨rfl, rfl, by omega, n + 1, by omega, hL⟩⟩, fun z => absurd rfl z⟩
      · show tN t + 8 ≤ _; omega
      · show tU t + 600 ≤ _; omega
  · rintro m l2 l3 t' ⟨i', c', V', G', q, hC, rfl, hq, ⟨f1, f2, f3, f4, f5, f6, f7⟩, hAB⟩
    have hK := hC.1.1.1
    have hv := hC.2.2.1
    have fin : L = exB b n 93 i' c' V' → CalG C mtab (E + 8) 88 [svR (some r), svI (93 : Int32)] t' (aftV (fun v2 t3 => v2 = none ∧ Post (.inl none) t3) (fun k4 q5 t6 => Post (.inr (k4, q5)) t6)) := fun hL' => by
      unfold exB at hL'
      refine r88c (by decide) hC (fun e hC' => ?_) (fun e t2 g1 g2 g3 => ?_)
      · rw [if_pos e] at hL'
        have := (pk_nn e (by decide)).1
        refine k1 _ _ _ hL' _ G' hC' f3 (f7.trans (A1.at h.2.2.2.1.2.1)) ?_ ?_
        · show tN t' + 4 ≤ _; omega
        · show tU t' + 494 ≤ _; omega
      · rw [if_neg e] at hL'
        exact k2 _ _ hL' _ g1 (by have := hC.2.1; omega) (by have := hC.2.1; omega)
    unfold vc125_14
    rw [hv.2.1]
    rcases hAB with ⟨rfl, rfl, hqc, g, hg, hL'⟩ | ⟨rfl, rfl, hL'⟩
    · have hc300 := hC.2.2.2.2.2.1.2.2
      refine ⟨fun z => absurd z (nI_nlt (b := q) (a := 300) (by omega) (by decide)), fun _ => ⟨fun z => absurd z (by decide), fun _ => ?_⟩⟩
      obtain ⟨np, wp, -⟩ := hC.2.2.2.2.2.1.1 p (by omega)
      have egp : gA G' p = gA G p := f3 p hp
      unfold NE at np
      rw [egp] at np
      have hKp := np.1.2.2
      have hd2 : tI t' (gA G p) 2 + 1 = nI (31 - f) := by
        rw [np.2.1.2.2.1, nI_1]
        have : eD (V' p) = eD (V p) := congrArg (fun z => z.2.2.1) f4.1
        rw [this, hdp]
      refine ⟨hKp, hv.1, ?_⟩
      rw [hd2]
      obtain ⟨g0, rfl⟩ : ∃ g0, g = g0 + 1 := ⟨g - 1, by have := hC.2.1; omega⟩
      rw [elF] at hL'
      refine ih _ t' i' c' G' V' (some p) _ (by rw [← egp]; rfl) hC (fun z hz => by injection hz with hz; omega) (fun j c1 V1 e t1 G1 hC1 hg1 ha1 b1 b2 => ?_) (fun w q2 e t1 hF b1 b2 => ?_)
      · rw [e] at hL'
        obtain ⟨w1, w2, w3, w4, w5, w6⟩ := hfw _ _ _ _ _ _ hC.2.1 e
        have hp1 : p < c1 := by omega
        have eVp : V1 p = V' p := w4 p (by omega)
        have hk5 : eK (V1 p) = 5 := by
          rw [eVp]
          have : eK (V' p) = eK (V p) := congrArg (fun z => z.1) f4.1
          rw [this]; exact hk
        have egp1 : gA G1 p = gA G p := by rw [hg1 p (by omega)]; exact egp
        have hKp1 := (hC1.2.2.2.2.2.1.1 p hp1).1.1.2.2
        rw [egp1] at hKp1
        have hlen : (eS (V1 p)).length < c1 := by rw [eVp]; have := wp.2.2.2.2.1; omega
        refine ⟨hKp1, ?_⟩
        have hadd := r30 (d := E) (y := none) (nm := none) (Post := aftV (fun v21 t22 => v21 = none ∧ tK t22 vr = 12 ∧ onR (tR t22 vr 0) (fun a26 => tK t22 a26 = 7 ∧ CalG C mtab (E + 8) 91 [svR (some a26)] t22 (aftV (fun v27 t28 => rI v27 (fun x32 => ∃ k, k < 2 * (n - i') + 1 ∧ some vr = some vr ∧ some (gA G p) = some (gA G p) ∧ ∃ i'' c'' V'' G'' q', CV C t0 t28 vr r tp ch b n i'' G'' V'' c'' ∧ nI q + 1 = nI q' ∧ q' ≤ 301 ∧ KF (tN t0) t t28 i i'' c c'' p G G'' V V'' ∧ ((x32 = 1 ∧ k = 2 * (n - i'') + 1 ∧ q' + 1 ≤ c'' ∧ ∃ g, n < g + i'' ∧ L = elF b n (vaS b n (wnS b n true) f (some p)) p g i'' c'' V'') ∨ (x32 = 0 ∧ k = 0 ∧ L = exB b n 93 i'' c'' V'')))) (fun k29 q30 t31 => Post (.inr (k29, q30)) t31)))) (fun k23 q24 t25 => Post (.inr (k23, q24)) t25)) hC1.2.2.2.2.2.1 hp1 w3 (by omega) (by omega) (rfl : chR t1 (tN t0) none none) (fun cs hcs => by cases hcs) hlen w5 ?_
        · rw [egp1] at hadd; exact hadd
        · intro t2 G2 hV2 hg2 had
          have ⟨a1, a2, a3, a4, a5⟩ := had
          have hC2 : CV C t0 t2 vr r tp ch b n j G2 (vAdo V1 p c' none) c1 := hC1.old a1 (fun x hx => a5 x (by have := hC1.2.2.2.2.1.1; omega) (Or.inl hx)) hV2 (fun x _ => hg2 x)
          have hv2 := hC2.2.2.1
          refine ⟨rfl, hv2.1, ?_⟩
          rw [hv2.2.1]
          have hkf : ∀ {i'' : Nat} {y : Int32}, j ≤ i'' → KF (tN t0) t (sI t2 r 4 y) i i'' c c1 p G G2 V (vAdo V1 p c' none) := fun {i'' y} hij => ⟨by omega, by omega, fun x hx => by rw [hg2, hg1 x (by omega), f3 x hx], by rw [vAdo_p, eVp]; exact f4.trans ⟨rfl, rfl, rfl⟩, by show tN t2 + 8 ≤ _; omega, by show tU t2 + 600 ≤ _; omega, f7.trans (ha1.trans ((A1.ad had).trans (A1.at h.2.2.2.1.2.1)))⟩
          have slo := sk_lo (b := b) (n := n) (i := j)
          refine ⟨hC2.1.1.1, r91c hC2 (fun e2 hC3 => ?_) (fun e2 hC3 => ?_)⟩
          · have hlt := sk_lt1 (by decide) e2
            have slo2 := sk_lo (b := b) (n := n) (i := sk b n j + 1)
            have hL2 : L = elF b n (vaS b n (wnS b n true) f (some p)) p g0 (sk b n (sk b n j + 1)) c1 (vAdo V1 p c' none) := by rw [hL']; exact if_pos e2
            exact ⟨2 * (n - sk b n (sk b n j + 1)) + 1, by omega, rfl, rfl, _, c1, _, G2, q + 1, hC3, nI_1 q, by omega, hkf (by omega), Or.inl ⟨rfl, rfl, by omega, g0, by omega, hL2⟩⟩
          · have hL2 : L = exB b n 93 (sk b n j) c1 (vAdo V1 p c' none) := by rw [hL']; exact if_neg e2
            exact ⟨0, by omega, rfl, rfl, _, c1, _, G2, q + 1, hC3, nI_1 q, by omega, hkf slo, Or.inr ⟨rfl, rfl, hL2⟩⟩
      · rw [e] at hL'
        have := hC.2.1
        exact k2 w q2 hL' t1 hF (by omega) (by omega)
    · exact ⟨fun _ => ⟨hv.1, hK, fin hL'⟩, fun _ => ⟨fun _ => ⟨hv.1, hK, fin hL'⟩, fun z => absurd rfl z⟩⟩
end EL
