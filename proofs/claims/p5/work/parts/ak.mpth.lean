/-! THE REFERENCE'S CALLS ON WHAT WAS FOUND -/
section RTZ
variable {C : Cx} {d : Nat} {Post : OutT → Ht → Prop} {t0 t t' t2 : Ht} {M S P : Nat} {V : VT} {c o : Nat} {l : List Nat}
/-- isFound -/
theorem m235 {x1 : Int32} (hK : tK t M = 17) (h24 : tI t M 24 = nI l.length) (hl : l.length ≤ 1000) (k0 : Post (.inl (some (svI (0 : Int32)))) t) (k1 : ∀ i, i < l.length → x1 = nI i → Post (.inl (some (svI (1 : Int32)))) t) : CalG C mtab (d + 1) 235 [svR (some M), svI x1] t Post := by
  refine cal235 ⟨fun _ => ⟨Or.inl rfl, k0⟩, fun e => ⟨hK, fun _ => ⟨Or.inl rfl, k0⟩, fun e2 => ⟨Or.inr rfl, ?_⟩⟩⟩
  obtain ⟨i, hi, rfl⟩ := nI_of e
  rw [h24] at e2
  exact k1 i (Nat.not_le.mp (fun z => e2 (nI_le z (by omega)))) rfl
/-- what holds of what was found: nothing, or nodes of the value -/
def FdI (t : Ht) (M S P : Nat) (V : VT) (c : Nat) : Prop := OSh t M ∧ ((tI t M 24 = 0) ∨ (G0 t M S P V c ∧ VOK V c ∧ FdM M c t))
def OuI (t : Ht) (M : Nat) : Prop := ∃ o, tI t M 35 = nI o ∧ o ≤ 7800
theorem FdI.of (h : FdI t M S P V c) : ∃ l : List Nat, l.length ≤ 1000 ∧ tI t M 24 = nI l.length ∧ (l ≠ [] → G0 t M S P V c ∧ VOK V c ∧ (∀ x ∈ l, x < c) ∧ ∀ k, k < l.length → tI t (M + 48) k = nI (l.getD k 0)) := by
  obtain ⟨hO, h | ⟨h1, h2, l, h3, h4, h5, h6⟩⟩ := h
  · exact ⟨[], by decide, h, fun z => absurd rfl z⟩
  · exact ⟨l, h3, h5, fun _ => ⟨h1, h2, h4, h6⟩⟩
theorem GU.at (h : tI t M 35 = nI o) (ho : o ≤ 7800) : GU t M t o := ⟨MU.rfl', h, ho⟩
theorem G0.dep (H : G0 t M S P V c) : ∀ i, i < c → eD (V i) ≤ 30 := fun i hi => (H.2.1 i hi).2.2.1
theorem ne_nil {i : Nat} (h : i < l.length) : l ≠ [] := fun e => by rw [e] at h; exact absurd h (Nat.not_lt_zero _)
/-- text -/
theorem mText {x1 : Int32} (hF : FdI t M S P V c) (hU : OuI t M) (kk : ∀ r t', MUw M t t' → OuI t' M → Post (.inl (some (svI r))) t') : CalG C mtab (d + 36) 246 [svR (some M), svI x1] t Post := by
  have hO := hF.1
  have hK := hO.1
  obtain ⟨l, l1, l2, l3⟩ := hF.of
  refine cal246 ⟨hK, hK, m235 (l := l) (d := d + 34) hK ((sI_at (by omega)).trans l2) l1 ⟨fun _ => kk _ _ (MUw.of (MU.I (Or.inl rfl))) ?_, fun z => absurd rfl z⟩ (fun i hi e => ⟨fun z => absurd z (by decide), fun _ => ⟨hK, hK, ?_⟩⟩)⟩
  · obtain ⟨o, h1, h2⟩ := hU
    exact ⟨o, (sI_at (by omega)).trans h1, h2⟩
  · subst e
    obtain ⟨H, hv, m1, m2⟩ := l3 (ne_nil hi)
    have h : GU t M (sI (sI t M 0 0) M 35 0) 0 := ⟨(MU.I (Or.inl rfl)).trans (MU.I (Or.inr rfl)), sI_eq, by decide⟩
    rw [show tR (sI (sI t M 0 0) M 35 0) = tR t from rfl, hO.2.2.2.1]
    refine ⟨hO.2.2.2.2.1, by rw [show tL (sI (sI t M 0 0) M 35 0) = tL t from rfl, hO.2.2.2.2.2]; exact vp_in_nI (by omega) (by decide), hK, ?_⟩
    have hx := m1 _ (kid_mem hi)
    have hm := (hv.2.1 _ hx).2.2.2 30
    rw [nI_clamp (by omega), sI_at (by omega), sI_at (by omega), m2 i hi]
    exact m245 H hv hO 30 _ 0 _ _ hx (by have := (hv.2.1 _ hx).2.2.1; omega) h (by omega) (fun t2 o2 h2 ho2 => ⟨rfl, by rw [h2.1.2.2.1]; exact hK, kk _ _ (MUw.of h2.1) ⟨o2, h2.2⟩⟩)
set_option maxHeartbeats 2000000 in
/-- path -/
theorem mPath {x1 : Int32} (hF : FdI t M S P V c) (hU : OuI t M) (kk : ∀ r t', MUw M t t' → OuI t' M → Post (.inl (some (svI r))) t') : CalG C mtab (d + 4) 244 [svR (some M), svI x1] t Post := by
  have hO := hF.1
  have hK := hO.1
  obtain ⟨l, l1, l2, l3⟩ := hF.of
  by_cases hne : l = []
  · refine cal244 (fun _ _ _ _ => False) (fun _ _ _ _ => False) ⟨hK, hK, m235 (l := l) (d := d + 2) hK ((sI_at (by omega)).trans l2) l1 ⟨fun _ => kk _ _ (MUw.of (MU.I (Or.inl rfl))) ?_, fun z => absurd rfl z⟩ (fun i hi e => absurd hne (ne_nil hi))⟩ (fun _ _ _ _ z => z.elim) (fun _ _ _ _ z => z.elim)
    obtain ⟨o, h1, h2⟩ := hU
    exact ⟨o, (sI_at (by omega)).trans h1, h2⟩
  obtain ⟨H, hv, m1, m2⟩ := l3 hne
  have hc := H.2.2.2.2
  have hdp := H.dep
  obtain ⟨wy, hwy⟩ : ∃ wy : Nat → Nat → Ht → Prop, wy = fun x m t' => (∀ k, k < m → eU (V (anc V x k)) ≠ none) ∧ ∀ k, k < m → tI t' (M + 51) k = nI (anc V x k) := ⟨_, rfl⟩
  refine cal244 (fun n l2 l3 t' => ∃ x m, x < c ∧ n = 100 - m ∧ l2 = nI m ∧ l3 = nI (anc V x m) ∧ MUw M t t' ∧ tI t' M 35 = nI 1 ∧ wy x m t') (fun n l2 l3 t' => ∃ x m o' t1, x < c ∧ n ≤ m ∧ l2 = nI m ∧ l3 = nI n - 1 ∧ MUw M t t1 ∧ GU t1 M t' o' ∧ o' + asm V x n ≤ 1 + asm V x m ∧ wy x m t1) ?_ ?_ ?_
  · refine ⟨hK, hK, m235 (l := l) (d := d + 2) hK ((sI_at (by omega)).trans l2) l1 ⟨fun _ => kk _ _ (MUw.of (MU.I (Or.inl rfl))) ?_, fun z => absurd rfl z⟩ (fun i hi e => ⟨fun z => absurd z (by decide), fun _ => ⟨hK, hK, ?_⟩⟩)⟩
    · obtain ⟨o, h1, h2⟩ := hU
      exact ⟨o, (sI_at (by omega)).trans h1, h2⟩
    · subst e
      have h : GU t M (sI (sI t M 0 0) M 35 0) 0 := ⟨(MU.I (Or.inl rfl)).trans (MU.I (Or.inr rfl)), sI_eq, by decide⟩
      refine m239 (d := d + 2) hO h (by decide) (fun t2 h2 => ⟨rfl, kU H h2, ?_⟩)
      rw [h2.1.2.2.2.2.1, hO.2.2.2.1]
      refine ⟨by rw [h2.1.2.2.1]; exact hO.2.2.2.2.1, by rw [h2.1.2.2.2.1, hO.2.2.2.2.2]; exact vp_in_nI (by omega) (by decide), ?_⟩
      rw [nI_clamp (by omega), h2.1.2.2.2.2.2.2 (M + 48) i (Or.inl (by omega)) (by omega), m2 i hi]
      refine ⟨_, rfl, rfl, _, 0, m1 _ (kid_mem hi), rfl, rfl, rfl, MUw.of h2.1, h2.2.1, ?_⟩
      rw [hwy]
      exact ⟨fun k hk => absurd hk (Nat.not_lt_zero _), fun k hk => absurd hk (Nat.not_lt_zero _)⟩
  · rintro n l2 l3 t' ⟨x, m, hx, rfl, rfl, rfl, hM, h35, hw⟩
    have hw0 := hw
    rw [hwy] at hw
    obtain ⟨a1, a2, a3⟩ := anc_ok hv hx hdp m hw.1
    have d1 := hdp x hx
    have d2 := (hv.2.1 _ a1).2.2.1
    have H' := H.w hM
    have hO' := hO.w hM
    have h' : GU t' M t' 1 := GU.at h35 (by decide)
    have Ra := H'.2.1 _ a1
    refine ⟨kU H' h', gU4 H' h' a1 ?_⟩
    rw [rU H' h' (k := 5) (by decide) a1, Ra.1.1.2.2.2.1]
    cases hu : eU (V (anc V x m)) with
    | none =>
      exact ⟨fun _ => ⟨m, by omega, rfl, rfl, x, m, 1, t', hx, Nat.le_refl _, rfl, rfl, hM, h', Nat.le_refl _, hw0⟩, fun z => absurd rfl z⟩
    | some p =>
      have hp := (hv.up a1 hu).1
      have e : anc V x (m + 1) = p := by rw [anc, hu]; rfl
      refine ⟨fun z => absurd z (nI_m1 (by omega)), fun _ => ⟨kU H' h', ?_⟩⟩
      rw [hO'.2.2.1.1]
      refine ⟨hO'.2.2.1.2.1, by rw [hO'.2.2.1.2.2]; exact vp_in_nI (by omega) (by decide), ?_⟩
      rw [nI_clamp (show m < _ by omega)]
      have hM2 : MUw M t (sI t' (M + 51) m (nI (anc V x m))) := hM.trans MUw.A
      have H2 := H.w hM2
      have h35' : tI (sI t' (M + 51) m (nI (anc V x m))) M 35 = nI 1 := (sI_at (by omega)).trans h35
      have h2 : GU (sI t' (M + 51) m (nI (anc V x m))) M (sI t' (M + 51) m (nI (anc V x m))) 1 := GU.at h35' (by decide)
      refine ⟨kU H2 h2, gU4 H2 h2 a1 ?_⟩
      rw [rU H2 h2 (k := 5) (by decide) a1, (H2.2.1 _ a1).1.1.2.2.2.1, hu, show nI m + 1 = nI (m + 1) from nI_add m 1]
      refine ⟨100 - (m + 1), by omega, rfl, rfl, x, m + 1, hx, rfl, rfl, by rw [e]; rfl, hM2, h35', ?_⟩
      rw [hwy]
      refine ⟨fun k hk => ?_, fun k hk => ?_⟩
      · by_cases ek : k = m
        · rw [ek, hu]; simp
        · exact hw.1 k (by omega)
      · by_cases ek : k = m
        · rw [ek, sI_eq]
        · rw [sI_at (by omega)]; exact hw.2 k (by omega)
  · rintro n l2 l3 t' ⟨x, m, o', t1, hx, hj, rfl, rfl, hM, h', ho', hw⟩
    have hw0 := hw
    rw [hwy] at hw
    have H1 := H.w hM
    have hO1 := hO.w hM
    obtain ⟨b1, b2, b3⟩ := anc_ok hv hx hdp m hw.1
    have d1 := hdp x hx
    have d2 := (hv.2.1 _ b1).2.2.1
    have tb := (hv.2.1 _ b1).2.2.2 (31 - eD (V (anc V x m)))
    cases n with
    | zero => exact ⟨fun _ => ⟨kU H1 h', kk _ _ (hM.trans (MUw.of h'.1)) ⟨o', h'.2⟩⟩, fun z => absurd (by decide) z⟩
    | succ j =>
      have ej : nI (j + 1) - 1 = nI j := by rw [show nI (j + 1) - 1 = nI (j + 1) - nI 1 from rfl, nI_sub (by omega)]; rfl
      rw [ej]
      obtain ⟨p, hu⟩ := Option.ne_none_iff_exists'.mp (hw.1 j (by omega))
      obtain ⟨a1, a2, a3⟩ := anc_ok hv hx hdp j (fun k hk => hw.1 k (by omega))
      obtain ⟨u1, u2, u3, u4, u5, u6⟩ := hv.up a1 hu
      have Ra := H1.2.1 _ a1
      have Rp := H1.2.1 _ u1
      rw [asm] at ho'
      have hn1 : 1 ≤ naC (V (anc V x j)) := by unfold naC; split <;> omega
      refine ⟨fun z => absurd z (nI_nlt (a := j) (b := 0) (Nat.zero_le _) (by omega)), fun _ => ⟨kU H1 h', m239 (d := d + 2) hO1 h' (by omega) (fun t2 h2 => ⟨rfl, kU H1 h2, ?_⟩)⟩⟩
      have w2 : tI t2 (M + 51) j = nI (anc V x j) := (h2.1.2.2.2.2.2.2 _ _ (Or.inl (by omega)) (by omega)).trans (hw.2 j (by omega))
      have hK2 := kU H1 h2
      have f10 : tR t2 M 10 = some S := by rw [h2.1.2.2.2.2.1]; exact H1.1.2.2.2.1.1
      have f15 : tK t2 S = 15 := by rw [h2.1.2.2.1]; exact H1.1.2.2.2.1.2.1
      have f36 : tR t2 M 36 = some (M + 51) ∧ tK t2 (M + 51) = 101 ∧ tL t2 (M + 51) = 31 := by
        rw [h2.1.2.2.1, h2.1.2.2.2.1, h2.1.2.2.2.2.1]; exact hO1.2.2.1
      have fS : ∀ k, k < 11 → tR t2 S k = some (S + 1 + k) ∧ tK t2 (S + 1 + k) = 101 ∧ tL t2 (S + 1 + k) = 300 := fun k hk => by
        rw [h2.1.2.2.1, h2.1.2.2.2.1, h2.1.2.2.2.2.1]
        exact ⟨(H1.1.2.2.2.1.2.2.1 k (by omega)).1, H1.1.2.2.2.1.2.2.2.1 k hk, (H1.1.2.2.2.1.2.2.1 k (by omega)).2⟩
      have vj : vp_in (nI j) (tL t2 (M + 51)) := by rw [f36.2.2]; exact vp_in_nI (by omega) (by decide)
      -- what is behind the step's own part
      have fin : ∀ {t3 : Ht} {o3 : Nat}, GU t1 M t3 o3 → o3 + 1 + asm V x j ≤ 1 + asm V x m → tK t3 M = 17 ∧ CalG C mtab (d + 3) 239 [svR (some M), svI (93 : Int32)] t3 (aftV (fun v35 t36 => v35 = none ∧ ∃ k, k < j + 1 ∧ some M = some M ∧ x1 = x1 ∧ ∃ x' m' o'' t1', x' < c ∧ k ≤ m' ∧ nI m = nI m' ∧ nI j + (-1 : Int32) = nI k - 1 ∧ MUw M t t1' ∧ GU t1' M t36 o'' ∧ o'' + asm V x' k ≤ 1 + asm V x' m' ∧ wy x' m' t1') (fun k37 q38 t39 => Post (.inr (k37, q38)) t39)) := by
        intro t3 o3 h3 ho3
        exact ⟨kU H1 h3, m239 (d := d + 2) hO1 h3 (by omega) (fun t4 h4 => ⟨rfl, j, by omega, rfl, rfl, x, m, _, t1, hx, by omega, rfl, (Int32.sub_eq_add_neg _ _).symm, hM, h4, by omega, hw0⟩)⟩
      have e5 : tI t2 (S + 1 + 4) (nI (anc V x j)).toNatClampNeg = nI p := (rU H1 h2 (k := 5) (by decide) a1).trans (Ra.1.1.2.2.2.1.trans (by rw [hu]; rfl))
      have e1 : tI t2 (S + 1 + 0) (nI p).toNatClampNeg = nI (eK (V p)) := (rU H1 h2 (k := 1) (by decide) u1).trans Rp.1.1.1
      have va : ∀ k, k < 11 → vp_in (nI (anc V x j)) (tL t2 (S + 1 + k)) := fun k hk => by rw [(fS k hk).2.2]; exact vp_in_nI (by omega) (by decide)
      rw [f10, f36.1]
      refine ⟨f15, hK2, f15, hK2, f36.2.1, vj, ?_⟩
      rw [nI_clamp (show j < _ by omega), w2, (fS 4 (by decide)).1]
      refine ⟨(fS 4 (by decide)).2.1, va 4 (by decide), ?_⟩
      rw [e5, (fS 0 (by decide)).1]
      refine ⟨(fS 0 (by decide)).2.1, by rw [(fS 0 (by decide)).2.2]; exact vp_in_nI (by omega) (by decide), ?_⟩
      rw [e1]
      refine ⟨fun e => ⟨hK2, f15, hK2, f36.2.1, vj, ?_⟩, fun e => ⟨hK2, f15, hK2, f36.2.1, vj, ?_⟩⟩
      · have e : eK (V p) = 5 := (nI_eq (b := 5) (by have := Rp.2.1; omega) (by decide)).mp e
        obtain ⟨i, hi, hX⟩ := u4 e
        rw [(fS 6 (by decide)).1, w2]
        have e7 : tI t2 (S + 1 + 6) (nI (anc V x j)).toNatClampNeg = nI i := (rU H1 h2 (k := 7) (by decide) a1).trans (Ra.1.1.2.2.2.2.2.1 i hX)
        refine ⟨(fS 6 (by decide)).2.1, va 6 (by decide), hK2, ?_⟩
        rw [e7, nI_l (by omega)]
        have hli : (lN i).toInt = (i : Int) := lN_toInt (by omega)
        have h0 : (if (lN i).toInt < 0 then 1 else 0) = 0 := if_neg (by rw [hli]; omega)
        exact m241 (d := d + 1) (k := 3) hO1 h2 (by decide) (by rw [hli]; show (i : Int).natAbs < 1000; omega) (by rw [h0]; omega) (fun t3 o3 h3 ho3 => ⟨rfl, fin h3 (by rw [h0] at ho3; omega)⟩)
      · have e6 : eK (V p) = 6 := by
          have := Rp.2.1
          have : eK (V p) ≠ 5 := fun z => e (by rw [z]; rfl)
          omega
        obtain ⟨cs, hcs⟩ := Option.ne_none_iff_exists'.mp (u5 e6)
        have hna : naC (V (anc V x j)) = 4 + 6 * cs.length := by unfold naC; rw [hcs]
        obtain ⟨p', q1, q2, q3, q4, -⟩ := Ra.1.2.1.2 cs hcs
        have e10 : tI t2 (S + 1 + 9) (nI (anc V x j)).toNatClampNeg = nI p' := (rU H1 h2 (k := 10) (by decide) a1).trans q1
        have e11 : tI t2 (S + 1 + 10) (nI (anc V x j)).toNatClampNeg = nI cs.length := (rU H1 h2 (k := 11) (by decide) a1).trans q2
        rw [(fS 9 (by decide)).1, w2]
        refine ⟨(fS 9 (by decide)).2.1, va 9 (by decide), hK2, f15, hK2, f36.2.1, vj, ?_⟩
        rw [(fS 10 (by decide)).1, w2]
        refine ⟨(fS 10 (by decide)).2.1, va 10 (by decide), hK2, ?_⟩
        rw [e10, e11]
        exact m243 (d := d) H1 hO1 h2 (by omega) (by omega) (fun t3 o3 h3 ho3 => ⟨rfl, fin h3 (by omega)⟩)
/-- number -/
theorem mNumber {x1 : Int32} (hF : FdI t M S P V c) (hU : OuI t M) (kk : ∀ r t', MUw M t t' → OuI t' M → Post (.inl (some (svJ r))) t') : CalG C mtab (d + 2) 238 [svR (some M), svI x1] t Post := by
  have hO := hF.1
  have hK := hO.1
  obtain ⟨l, l1, l2, l3⟩ := hF.of
  have hM : MUw M t (sI t M 0 0) := MUw.of (MU.I (Or.inl rfl))
  have hU' : OuI (sI t M 0 0) M := by
    obtain ⟨o, h1, h2⟩ := hU
    exact ⟨o, (sI_at (by omega)).trans h1, h2⟩
  refine cal238 ⟨hK, hK, m235 (l := l) (d := d) hK ((sI_at (by omega)).trans l2) l1 ⟨fun _ => kk _ _ hM hU', fun z => absurd rfl z⟩ (fun i hi e => ⟨fun z => absurd z (by decide), fun _ => ⟨hK, ?_⟩⟩)⟩
  subst e
  obtain ⟨H, hv, m1, m2⟩ := l3 (ne_nil hi)
  have H' := H.w hM
  have hO' := hO.w hM
  have hc := H.2.2.2.2
  have hx := m1 _ (kid_mem hi)
  have w2 : tI (sI t M 0 0) (M + 48) i = nI (l.getD i 0) := (sI_at (by omega)).trans (m2 i hi)
  have f15 : tK (sI t M 0 0) S = 15 := H'.1.2.2.2.1.2.1
  have vi : vp_in (nI i) (tL (sI t M 0 0) (M + 48)) := by rw [hO'.2.2.2.2.2]; exact vp_in_nI (by omega) (by decide)
  have fS := H'.1.2.2.2.1.2.2
  rw [H'.1.2.2.2.1.1, hO'.2.2.2.1]
  refine ⟨f15, hK, hO'.2.2.2.2.1, vi, ?_⟩
  rw [nI_clamp (show i < _ by omega), w2, (fS.1 0 (by decide)).1]
  refine ⟨fS.2.1 0 (by decide), by rw [(fS.1 0 (by decide)).2]; exact vp_in_nI (by omega) (by decide), fun _ => ⟨hK, f15, hK, hO'.2.2.2.2.1, vi, ?_⟩, fun _ => kk _ _ hM hU'⟩
  rw [(fS.1 11 (by decide)).1, w2]
  exact ⟨fS.2.2, by rw [(fS.1 11 (by decide)).2]; exact vp_in_nI (by omega) (by decide), kk _ _ hM hU'⟩
set_option maxHeartbeats 2000000 in
/-- found -/
theorem mFound {x1 x2 : Int32} (hF : FdI t M S P V c) (hU : OuI t M) (kk : ∀ r t', MUw M t t' → OuI t' M → Post (.inl (some (svI r))) t') : CalG C mtab (d + 2) 237 [svR (some M), svI x1, svI x2] t Post := by
  have hO := hF.1
  have hK := hO.1
  obtain ⟨l, l1, l2, l3⟩ := hF.of
  have hM : MUw M t (sI t M 0 0) := MUw.of (MU.I (Or.inl rfl))
  have hU' : OuI (sI t M 0 0) M := by
    obtain ⟨o, h1, h2⟩ := hU
    exact ⟨o, (sI_at (by omega)).trans h1, h2⟩
  refine cal237 ⟨hK, hK, m235 (l := l) (d := d) hK ((sI_at (by omega)).trans l2) l1 ⟨fun _ => kk _ _ hM hU', fun z => absurd rfl z⟩ (fun i hi e => ⟨fun z => absurd z (by decide), fun _ => ⟨hK, ?_⟩⟩)⟩
  subst e
  obtain ⟨H, hv, m1, m2⟩ := l3 (ne_nil hi)
  have H' := H.w hM
  have hO' := hO.w hM
  have hc := H.2.2.2.2
  have hx := m1 _ (kid_mem hi)
  have w2 : tI (sI t M 0 0) (M + 48) i = nI (l.getD i 0) := (sI_at (by omega)).trans (m2 i hi)
  have hK2 : tK (sI t M 0 0) M = 17 := hK
  have f10 := H'.1.2.2.2.1.1
  have f15 : tK (sI t M 0 0) S = 15 := H'.1.2.2.2.1.2.1
  have fS := H'.1.2.2.2.1.2.2
  have k : ∀ r, Post (.inl (some (svI r))) (sI t M 0 0) := fun r => kk r _ hM hU'
  have hR := (H'.2.1 _ hx).1.1.2.2.2.1
  have hRU := fun p (e : eU (V (l.getD i 0)) = some p) => (hv.up hx e).1
  have vi : vp_in (nI i) (tL (sI t M 0 0) (M + 48)) := by rw [hO'.2.2.2.2.2]; exact vp_in_nI (by omega) (by decide)
  generalize sI t M 0 0 = t2 at *
  generalize l.getD i 0 = y at *
  have vk : ∀ k, k < 12 → vp_in (nI y) (tL t2 (S + 1 + k)) := fun k hk => by rw [(fS.1 k hk).2]; exact vp_in_nI (by omega) (by decide)
  have v0 := vk 0 (by decide)
  have v4 := vk 4 (by decide)
  have v5 := vk 5 (by decide)
  have v6 := vk 6 (by decide)
  have s0 := (fS.1 0 (by decide)).1
  have s4 := (fS.1 4 (by decide)).1
  have s5 := (fS.1 5 (by decide)).1
  have s6 := (fS.1 6 (by decide)).1
  have s7 := (fS.1 7 (by decide)).1
  have q0 := fS.2.1 0 (by decide)
  have q4 := fS.2.1 4 (by decide)
  have q5 := fS.2.1 5 (by decide)
  have q6 := fS.2.1 6 (by decide)
  have st : CalG C mtab (d + 1) 236 [svR (some M), svI (nI y)] t2 (aftV (fun v t' => rI v (fun x => Post (.inl (some (svI x))) t')) (fun k q t' => Post (.inr (k, q)) t')) := by
    refine cal236 ⟨hK2, ?_⟩
    rw [f10]
    refine ⟨f15, ?_⟩
    rw [s7]
    exact ⟨fS.2.1 7 (by decide), vk 7 (by decide), k _⟩
  rw [hO'.2.2.2.1]
  refine ⟨hO'.2.2.2.2.1, vi, hK2, ?_⟩
  rw [nI_clamp (show i < _ by omega), w2]
  have vp : ∀ p, eU (V y) = some p → vp_in (nI p) (tL t2 (S + 1 + 0)) := fun p e => by
    have := hRU p e
    rw [(fS.1 0 (by decide)).2]; exact vp_in_nI (by omega) (by decide)
  have e4 : tI t2 (S + 1 + 4) (nI y).toNatClampNeg = oIx (eU (V y)) := by rw [nI_clamp (by omega)]; exact hR
  simp only [onR, f10, s4, s0, s5, s6, e4]
  cases hu : eU (V y) with
  | none => 
    repeat' (first
      | exact k _
      | exact st
      | refine ⟨by assumption, ?_⟩
      | refine ⟨fun z => absurd rfl z, ?_⟩
      | refine ⟨fun _ => ?_, fun _ => ?_⟩
      | exact (by contradiction))
  | some p =>
    have vpp := vp p hu
    repeat' (first
      | exact k _
      | exact st
      | refine ⟨by assumption, ?_⟩
      | exact vpp
      | refine ⟨vpp, ?_⟩
      | refine ⟨fun _ => ?_, fun _ => ?_⟩)
/-- out -/
theorem mOut {x1 : Int32} (hO : OSh t M) (hU : OuI t M) (kk : ∀ r t', MUw M t t' → OuI t' M → Post (.inl (some (svI r))) t') : CalG C mtab (d + 1) 247 [svR (some M), svI x1] t Post := by
  have hK := hO.1
  obtain ⟨o, h1, h2⟩ := hU
  have hM : ∀ v, MUw M t (sI t M 0 v) := fun v => MUw.of (MU.I (Or.inl rfl))
  have hU' : ∀ v, OuI (sI t M 0 v) M := fun v => ⟨o, (sI_at (by omega)).trans h1, h2⟩
  have bad : br ((tI (sI t M 0 1) M 0) ≤ 0) (tK (sI t M 0 1) M = 17 ∧ onR (tR (sI t M 0 1) M 34) (fun a1 => tK (sI t M 0 1) a1 = 100 ∧ vp_in x1 (tL (sI t M 0 1) a1) ∧ Post (.inl (some (svI ((tI (sI t M 0 1) a1 (x1).toNatClampNeg) &&& (255 : Int32))))) (sI t M 0 1))) (Post (.inl (some (svI (0 : Int32)))) (sI t M 0 1)) := by
    rw [sI_eq]
    exact ⟨fun z => absurd z (by decide), fun _ => kk _ _ (hM _) (hU' _)⟩
  refine cal247 ⟨fun _ => ⟨hK, hK, bad⟩, fun e => ⟨hK, fun e2 => ⟨hK, hK, ?_⟩, fun _ => ⟨hK, hK, bad⟩⟩⟩
  rw [sI_eq]
  refine ⟨fun _ => ⟨hK, ?_⟩, fun z => absurd (by decide) z⟩
  obtain ⟨i, hi, rfl⟩ := nI_of e
  rw [h1] at e2
  have hio : i < o := (nI_ltI (by omega) (by omega)).mp e2
  rw [show tR (sI t M 0 0) = tR t from rfl, hO.2.1.1]
  exact ⟨hO.2.1.2.1, by rw [show tL (sI t M 0 0) = tL t from rfl, hO.2.1.2.2]; exact vp_in_nI (by omega) (by decide), kk _ _ (hM _) (hU' _)⟩
/-- about -/
theorem mAbout {x1 : Int32} (hO : OSh t M) (hS : tR t M 10 = some S ∧ tK t S = 15) (hP : tR t M 16 = some P ∧ tK t P = 14) (hU : OuI t M) (kk : ∀ r t', MUw M t t' → OuI t' M → Post (.inl (some (svI r))) t') : CalG C mtab (d + 1) 248 [svR (some M), svI x1] t Post := by
  have hK := hO.1
  have hM : MUw M t (sI t M 0 0) := MUw.of (MU.I (Or.inl rfl))
  have hU' : OuI (sI t M 0 0) M := by
    obtain ⟨o, h1, h2⟩ := hU
    exact ⟨o, (sI_at (by omega)).trans h1, h2⟩
  have k : ∀ r, Post (.inl (some (svI r))) (sI t M 0 0) := fun r => kk r _ hM hU'
  refine cal248 ⟨hK, ?_⟩
  rw [show tR (sI t M 0 0) = tR t from rfl, show tK (sI t M 0 0) = tK t from rfl, hS.1, hP.1]
  exact ⟨fun _ => ⟨hK, fun _ => k _, fun _ => ⟨hK, hS.2, k _⟩⟩, fun _ => ⟨fun _ => ⟨hK, fun _ => k _, fun _ => ⟨hK, hS.2, k _⟩⟩, fun _ => ⟨fun _ => ⟨hK, fun _ => k _, fun _ => ⟨hK, hP.2, k _⟩⟩, fun _ => ⟨fun _ => ⟨hK, fun _ => k _, fun _ => ⟨hK, hP.2, fun _ => k _, fun _ => k _⟩⟩, fun _ => ⟨fun _ => ⟨hK, k _⟩, fun _ => ⟨fun _ => ⟨hK, k _⟩, fun _ => ⟨fun _ => ⟨hK, k _⟩, fun _ => ⟨fun _ => ⟨hK, k _⟩, fun _ => k _⟩⟩⟩⟩⟩⟩⟩⟩
end RTZ
