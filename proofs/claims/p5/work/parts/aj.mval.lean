/-! THE REFERENCE'S TEXTS: sayValue, text, path; found, number, out, about -/
section RTY
variable {C : Cx} {d : Nat} {Post : OutT → Ht → Prop} {t0 t t' t2 : Ht} {M S P : Nat} {V : VT} {c o : Nat}
theorem drop_gt {l : List Nat} {j : Nat} (h : j < l.length) : l.drop j = l.getD j 0 :: l.drop (j + 1) := drop_get h
theorem kdg_of {z : Int64} (h : bgC z = 0) : z.toInt.natAbs < 10 ^ (max 1 (dgd 17 z.toInt.natAbs)) ∧ max 1 (dgd 17 z.toInt.natAbs) ≤ 17 := by
  unfold bgC at h
  have h1 : z.toInt.natAbs < 10 ^ 17 := by
    rcases Nat.lt_or_ge z.toInt.natAbs (10 ^ 17) with e | e
    · exact e
    · rw [if_neg (by omega)] at h; omega
  have h2 := dgd_lt 17 _ h1
  have h3 := dgd_le 17 z.toInt.natAbs
  exact ⟨Nat.lt_of_lt_of_le h2 (Nat.pow_le_pow_right (by decide) (by omega)), by omega⟩
set_option maxHeartbeats 2000000 in
/-- sayValue -/
theorem m245 (H : G0 t0 M S P V c) (hv : VOK V c) (hO : OSh t0 M) : ∀ (f x o : Nat) (t : Ht) (Post : OutT → Ht → Prop), x < c → 31 ≤ f + eD (V x) → GU t0 M t o → o + tcS V f x ≤ 7800 → (∀ t' o', GU t0 M t' o' → o' ≤ o + tcS V f x → Post (.inl none) t') → CalG C mtab (d + f + 5) 245 [svR (some M), svI (nI x)] t Post := by
  have hc := H.2.2.2.2
  intro f
  induction f with
  | zero =>
    intro x o t Post hx hf
    have := (H.2.1 x hx).2.2.1
    omega
  | succ f ih =>
    intro x o t Post hx hf h ho kk
    rw [show d + (f + 1) + 5 = d + f + 5 + 1 by omega]
    have R := H.2.1 x hx
    have N := hv.2.1 x hx
    have hK := kU H h
    have hT : tcS V (f + 1) x = owC (V x) + smL (fun y => naC (V y) + tcS V f y) (eS (V x)) := rfl
    have hmx := N.2.2.2 (f + 1)
    obtain ⟨k, hk⟩ : ∃ k, k = eK (V x) := ⟨_, rfl⟩
    have hk7 : k < 7 := by rw [hk]; exact R.2.1
    have hsl := H.sl hx
    refine cal245 (fun n l2 l3 t' => 5 ≤ k ∧ (l2 = 0 → k = 6) ∧ ∃ m o', n = (eS (V x)).length - m ∧ m ≤ (eS (V x)).length ∧ l3 = oIx (eS (V x))[m]? ∧ GU t0 M t' o' ∧ o' + smL (fun y => naC (V y) + tcS V f y) ((eS (V x)).drop m) ≤ o + 1 + smL (fun y => naC (V y) + tcS V f y) (eS (V x))) ?_ ?_
    · refine ⟨hK, gU0 H h hx ?_⟩
      rw [rU H h (k := 1) (by decide) hx, R.1.1.1, ← hk]
      have low : k < 5 → tcS V (f + 1) x = owC (V x) := fun z => by
        rw [hT, N.1.2.2.1 (by omega)]; rfl
      refine ⟨fun e => ?_, fun e0 => ⟨fun e => ?_, fun e1 => ⟨fun e => ?_, fun e2 => ⟨fun e => ?_, fun e3 => ⟨fun e => ?_, fun e4 => ?_⟩⟩⟩⟩⟩
      · have e : k = 0 := (nI_eq (b := 0) (by omega) (by decide)).mp e
        have hw := low (by omega)
        have how : owC (V x) = 4 := by unfold owC; rw [← hk, e]; rfl
        have hl : lenTx.getD 4 0 = 4 := by decide
        exact ⟨hK, m240 (d := d + f) (n := 4) (by decide) hO h (by omega) (fun t2 h2 => ⟨rfl, kk t2 _ h2 (by omega)⟩)⟩
      · have e : k = 1 := (nI_eq (b := 1) (by omega) (by decide)).mp e
        have hw := low (by omega)
        have how : owC (V x) = 5 := by unfold owC; rw [← hk, e]; rfl
        have hl : lenTx.getD 2 0 = 5 := by decide
        exact ⟨hK, m240 (d := d + f) (n := 2) (by decide) hO h (by omega) (fun t2 h2 => ⟨rfl, kk t2 _ h2 (by omega)⟩)⟩
      · have e : k = 2 := (nI_eq (b := 2) (by omega) (by decide)).mp e
        have hw := low (by omega)
        have how : owC (V x) = 4 := by unfold owC; rw [← hk, e]; rfl
        have hl : lenTx.getD 7 0 = 4 := by decide
        exact ⟨hK, m240 (d := d + f) (n := 7) (by decide) hO h (by omega) (fun t2 h2 => ⟨rfl, kk t2 _ h2 (by omega)⟩)⟩
      · have e : k = 3 := (nI_eq (b := 3) (by omega) (by decide)).mp e
        have hw := low (by omega)
        have how : owC (V x) = kdg (eJ (V x)) + bgC (eJ (V x)) := by unfold owC; rw [← hk, e]; rfl
        have hbg : bgC (eJ (V x)) = 0 := by
          rcases Nat.lt_or_ge (eJ (V x)).toInt.natAbs (10 ^ 17) with z | z
          · unfold bgC; rw [if_pos z]
          · have : bgC (eJ (V x)) = 100000 := by unfold bgC; rw [if_neg (by omega)]
            omega
        obtain ⟨g1, g2⟩ := kdg_of hbg
        refine ⟨hK, gU11 H h hx ⟨hK, ?_⟩⟩
        rw [rUJ H h (k := 12) (by decide) hx, R.1.1.2.2.2.2.2.2.2]
        have hkd : kdg (eJ (V x)) = max 1 (dgd 17 (eJ (V x)).toInt.natAbs) + (if (eJ (V x)).toInt < 0 then 1 else 0) := rfl
        exact m241 (d := d + f + 3) hO h ⟨Nat.le_max_left _ _, g2⟩ g1 (by omega) (fun t2 o2 h2 ho2 => ⟨rfl, kk t2 o2 h2 (by omega)⟩)
      · have e : k = 4 := (nI_eq (b := 4) (by omega) (by decide)).mp e
        have hw := low (by omega)
        have how : owC (V x) = 2 + 6 * (eC (V x)).length := by unfold owC; rw [← hk, e]; rfl
        obtain ⟨p, p1, p2, p3, -⟩ := R.1.2.1.1 (by omega)
        refine ⟨hK, gU8 H h hx ⟨hK, gU5 H h hx ⟨hK, ?_⟩⟩⟩
        have hsz : szE (V x) = (eC (V x)).length := by unfold szE; rw [if_pos (by omega)]
        rw [rU H h (k := 9) (by decide) hx, rU H h (k := 6) (by decide) hx, p1, R.1.1.2.2.2.2.1, hsz]
        exact m243 (d := d + f + 2) H hO h (by omega) (by omega) (fun t2 o2 h2 ho2 => ⟨rfl, kk t2 o2 h2 (by omega)⟩)
      · have n0 : k ≠ 0 := fun z => e0 (by rw [z]; rfl)
        have n1 : k ≠ 1 := fun z => e1 (by rw [z]; rfl)
        have n2 : k ≠ 2 := fun z => e2 (by rw [z]; rfl)
        have n3 : k ≠ 3 := fun z => e3 (by rw [z]; rfl)
        have n4 : k ≠ 4 := fun z => e4 (by rw [z]; rfl)
        have how : owC (V x) = 2 := by unfold owC; rw [← hk, if_neg (by omega), if_neg n3, if_neg n4]
        have go : ∀ {l2 y : Int32}, (l2 = 0 → k = 6) → tK t M = 17 ∧ CalG C mtab (d + f + 5) 239 [svR (some M), svI y] t (aftV (fun v19 t20 => v19 = none ∧ tK t20 M = 17 ∧ onR (tR t20 M 10) (fun a24 => tK t20 a24 = 15 ∧ onR (tR t20 a24 1) (fun a25 => tK t20 a25 = 101 ∧ vp_in (nI x) (tL t20 a25) ∧ ∃ n, some M = some M ∧ nI x = nI x ∧ 5 ≤ k ∧ (l2 = 0 → k = 6) ∧ ∃ m o', n = (eS (V x)).length - m ∧ m ≤ (eS (V x)).length ∧ tI t20 a25 (nI x).toNatClampNeg = oIx (eS (V x))[m]? ∧ GU t0 M t20 o' ∧ o' + smL (fun y => naC (V y) + tcS V f y) ((eS (V x)).drop m) ≤ o + 1 + smL (fun y => naC (V y) + tcS V f y) (eS (V x))))) (fun k21 q22 t23 => Post (.inr (k21, q22)) t23)) := by
          intro l2 y hl
          refine ⟨hK, m239 (d := d + f + 4) hO h (by omega) (fun t2 h2 => ⟨rfl, kU H h2, gU1 H h2 hx ?_⟩)⟩
          rw [rU H h2 (k := 2) (by decide) hx, R.1.1.2.1]
          exact ⟨_, rfl, rfl, by omega, hl, 0, o + 1, rfl, Nat.zero_le _, rfl, h2, by rw [List.drop_zero]; omega⟩
        refine ⟨hK, gU0 H h hx ?_⟩
        rw [rU H h (k := 1) (by decide) hx, R.1.1.1, ← hk]
        refine ⟨fun e5 => ⟨fun z => absurd z (by decide), fun _ => go (fun z => absurd z (by decide))⟩, fun e5 => ⟨fun _ => go (fun _ => ?_), fun z => absurd rfl z⟩⟩
        have : k ≠ 5 := fun z => e5 (by rw [z]; rfl)
        omega
    · rintro n l2 l3 t' ⟨hk5, hl2, m, o', rfl, hm, rfl, h', ho'⟩
      have hK' := kU H h'
      have hsn : 0 ≤ smL (fun y => naC (V y) + tcS V f y) ((eS (V x)).drop m) := Nat.zero_le _
      have how : owC (V x) = 2 := by unfold owC; rw [← hk, if_neg (by omega), if_neg (by omega), if_neg (by omega)]
      by_cases z : m < (eS (V x)).length
      · have hkx := (H.kid hx z).1
        have Rk := H.2.1 _ hkx
        rw [oIx_get z]
        rw [drop_gt z, smL] at ho'
        have ho' : o' + (naC (V ((eS (V x)).getD m 0)) + tcS V f ((eS (V x)).getD m 0) + smL (fun y => naC (V y) + tcS V f y) ((eS (V x)).drop (m + 1))) ≤ o + 1 + smL (fun y => naC (V y) + tcS V f y) (eS (V x)) := ho'
        have hfk : 31 ≤ f + eD (V ((eS (V x)).getD m 0)) := by
          have := (N.1.2.1 m z).2.2.2
          omega
        generalize hy : (eS (V x)).getD m 0 = y at *
        -- the kid's own text, and the next
        have one : ∀ {t3 : Ht} {o3 : Nat}, GU t0 M t3 o3 → o3 + tcS V f y + smL (fun y => naC (V y) + tcS V f y) ((eS (V x)).drop (m + 1)) ≤ o + 1 + smL (fun y => naC (V y) + tcS V f y) (eS (V x)) → tK t3 M = 17 ∧ CalG C mtab (d + f + 5) 245 [svR (some M), svI (nI y)] t3 (aftV (fun v34 t35 => v34 = none ∧ tK t35 M = 17 ∧ onR (tR t35 M 10) (fun a39 => tK t35 a39 = 15 ∧ onR (tR t35 a39 3) (fun a40 => tK t35 a40 = 101 ∧ vp_in (nI y) (tL t35 a40) ∧ ∃ n, n < (eS (V x)).length - m ∧ some M = some M ∧ nI x = nI x ∧ 5 ≤ k ∧ (l2 = 0 → k = 6) ∧ ∃ m o', n = (eS (V x)).length - m ∧ m ≤ (eS (V x)).length ∧ tI t35 a40 (nI y).toNatClampNeg = oIx (eS (V x))[m]? ∧ GU t0 M t35 o' ∧ o' + smL (fun y => naC (V y) + tcS V f y) ((eS (V x)).drop m) ≤ o + 1 + smL (fun y => naC (V y) + tcS V f y) (eS (V x))))) (fun k36 q37 t38 => Post (.inr (k36, q37)) t38)) := by
          intro t3 o3 h3 ho3
          refine ⟨kU H h3, ih y o3 t3 _ hkx hfk h3 (by omega) (fun t4 o4 h4 ho4 => ⟨rfl, kU H h4, gU3 H h4 hkx ?_⟩)⟩
          have hn := R.1.2.2 m z
          rw [hy] at hn
          rw [rU H h4 (k := 4) (by decide) hkx, hn]
          exact ⟨_, (by omega : (eS (V x)).length - (m + 1) < (eS (V x)).length - m), rfl, rfl, hk5, hl2, m + 1, o4, rfl, by omega, rfl, h4, by omega⟩
        -- the name, where it has one
        have nam : ∀ {t3 : Ht} {o3 : Nat}, l2 = 0 → GU t0 M t3 o3 → o3 + (naC (V y) - 1) + tcS V f y + smL (fun y => naC (V y) + tcS V f y) ((eS (V x)).drop (m + 1)) ≤ o + 1 + smL (fun y => naC (V y) + tcS V f y) (eS (V x)) → tK t3 M = 17 ∧ onR (tR t3 M 10) (fun a20 => tK t3 a20 = 15 ∧ onR (tR t3 a20 9) (fun a21 => tK t3 a21 = 101 ∧ vp_in (nI y) (tL t3 a21) ∧ tK t3 M = 17 ∧ onR (tR t3 M 10) (fun a22 => tK t3 a22 = 15 ∧ onR (tR t3 a22 10) (fun a23 => tK t3 a23 = 101 ∧ vp_in (nI y) (tL t3 a23) ∧ tK t3 M = 17 ∧ CalG C mtab (d + f + 5) 243 [svR (some M), svI (tI t3 a21 (nI y).toNatClampNeg), svI (tI t3 a23 (nI y).toNatClampNeg), svI (34 : Int32)] t3 (aftV (fun v24 t25 => v24 = none ∧ tK t25 M = 17 ∧ CalG C mtab (d + f + 5) 239 [svR (some M), svI (58 : Int32)] t25 (aftV (fun v29 t30 => v29 = none ∧ tK t30 M = 17 ∧ CalG C mtab (d + f + 5) 245 [svR (some M), svI (nI y)] t30 (aftV (fun v34 t35 => v34 = none ∧ tK t35 M = 17 ∧ onR (tR t35 M 10) (fun a39 => tK t35 a39 = 15 ∧ onR (tR t35 a39 3) (fun a40 => tK t35 a40 = 101 ∧ vp_in (nI y) (tL t35 a40) ∧ ∃ n, n < (eS (V x)).length - m ∧ some M = some M ∧ nI x = nI x ∧ 5 ≤ k ∧ (l2 = 0 → k = 6) ∧ ∃ m o', n = (eS (V x)).length - m ∧ m ≤ (eS (V x)).length ∧ tI t35 a40 (nI y).toNatClampNeg = oIx (eS (V x))[m]? ∧ GU t0 M t35 o' ∧ o' + smL (fun y => naC (V y) + tcS V f y) ((eS (V x)).drop m) ≤ o + 1 + smL (fun y => naC (V y) + tcS V f y) (eS (V x))))) (fun k36 q37 t38 => Post (.inr (k36, q37)) t38))) (fun k31 q32 t33 => Post (.inr (k31, q32)) t33))) (fun k26 q27 t28 => Post (.inr (k26, q27)) t28)))))) := by
          intro t3 o3 e0 h3 ho3
          have e6 := hl2 e0
          obtain ⟨cs, hcs⟩ := Option.ne_none_iff_exists'.mp (R.2.2.2.2.2.2.2.2.2 (by omega) y (by rw [← hy]; exact kid_mem z))
          have hna : naC (V y) = 4 + 6 * cs.length := by unfold naC; rw [hcs]
          obtain ⟨p, q1, q2, q3, q4, -⟩ := Rk.1.2.1.2 cs hcs
          have hK3 := kU H h3
          refine ⟨hK3, gU9 H h3 hkx ⟨hK3, gU10 H h3 hkx ⟨hK3, ?_⟩⟩⟩
          rw [rU H h3 (k := 10) (by decide) hkx, rU H h3 (k := 11) (by decide) hkx, q1, q2]
          exact m243 (d := d + f + 2) H hO h3 (by omega) (by omega) (fun t4 o4 h4 ho4 => ⟨rfl, kU H h4, m239 (d := d + f + 4) hO h4 (by omega) (fun t5 h5 => ⟨rfl, one h5 (by omega)⟩)⟩)
        have hn1 : 1 ≤ naC (V y) := by unfold naC; split <;> omega
        refine ⟨fun e => absurd e (nI_m1 (by omega)), fun _ => ⟨hK', gU1 H h' hx ⟨fun e => ⟨fun e0 => nam e0 h' (by omega), fun e0 => one h' (by omega)⟩, fun e => ⟨hK', m239 (d := d + f + 4) hO h' (by omega) (fun t3 h3 => ⟨rfl, fun e0 => nam e0 h3 (by omega), fun e0 => one h3 (by omega)⟩)⟩⟩⟩⟩
      · rw [oIx_no (by omega)]
        have hend : ∀ {y : Int32}, tK t' M = 17 ∧ CalG C mtab (d + f + 5) 239 [svR (some M), svI y] t' (aftV (fun v1 t2 => v1 = none ∧ Post (.inl none) t2) (fun k3 q4 t5 => Post (.inr (k3, q4)) t5)) := ⟨hK', m239 (d := d + f + 4) hO h' (by omega) (fun t2 h2 => ⟨rfl, kk t2 _ h2 (by omega)⟩)⟩
        exact ⟨fun _ => ⟨fun _ => hend, fun _ => hend⟩, fun e => absurd rfl e⟩
end RTY
