/-! object, OF THE REFERENCE -/
theorem nI_subA (a b : Nat) : nI (a + b) - nI a = nI b := by
  rw [Nat.add_comm a b, ← nI_add]; exact Int32.add_sub_cancel _ _
theorem VQ.len {V : VT} {c p : Nat} (Qp : VQ V c p) : (eS (V p)).length ≤ c := by
  rcases Nat.eq_zero_or_pos (eS (V p)).length with z | z
  · omega
  · have key : ∀ y, y < (eS (V p)).length → y ≤ (eS (V p)).getD y 0 := by
      intro y
      induction y with
      | zero => intro _; omega
      | succ y ih =>
        intro hy
        have := Qp.2.2.2.1 y (y + 1) (by omega) hy
        have := ih (by omega)
        omega
    have k1' := key ((eS (V p)).length - 1) (by omega)
    have k2' := (Qp.2.2.1 _ (kid_mem (l := eS (V p)) (i := (eS (V p)).length - 1) (by omega))).2.1
    omega
section MOb
variable {C : Cx} {E f p : Nat} {Post : OutT → Ht → Prop} {t : Ht} {M S : Nat} {b : By} {n i q : Nat} {V : VT} {c : Nat}
theorem RT.nm {ch k x lo : Nat} {v : Int32} (h : RT t S ch V c lo q) (hk : eN (V k) = none) (hx : x = 10 ∨ x = 11) (hc : ch < S) : RT (sI t (S + x) k v) S ch V c lo q := by
  intro j hj
  obtain ⟨⟨⟨a1, a2, a3, a4, a5, a6, a7, a8⟩, ⟨b1, b2⟩, b3⟩, hQ⟩ := h j hj
  have rd : ∀ y z, y ≠ 10 ∧ y ≠ 11 → tI (sI t (S + x) k v) (S + y) z = tI t (S + y) z := fun y z hy => sI_at (by omega)
  have rc : ∀ z, tI (sI t (S + x) k v) ch z = tI t ch z := fun z => sI_at (by omega)
  refine ⟨⟨⟨(rd 1 j (by omega)).trans a1, (rd 2 j (by omega)).trans a2, (rd 3 j (by omega)).trans a3, (rd 5 j (by omega)).trans a4, (rd 6 j (by omega)).trans a5, fun y hy => (rd 7 j (by omega)).trans (a6 y hy), (rd 8 j (by omega)).trans a7, a8⟩, ⟨fun z => ?_, fun cs z => ?_⟩, fun y hy => (rd 4 _ (by omega)).trans (b3 y hy)⟩, hQ⟩
  · obtain ⟨y, y1, y2⟩ := b1 z
    exact ⟨y, (rd 9 j (by omega)).trans y1, y2.eq (Nat.le_refl _) (fun w _ _ => rc w)⟩
  · obtain ⟨y, y1, y2, y3⟩ := b2 cs z
    have hjk : j ≠ k := fun e => by rw [e, hk] at z; cases z
    exact ⟨y, (sI_at (by omega)).trans y1, (sI_at (by omega)).trans y2, y3.eq (Nat.le_refl _) (fun w _ _ => rc w)⟩
theorem VS.nm {k x : Nat} {v : Int32} (h : VS t M S b n i q V c) (hk : eN (V k) = none) (hx : x = 10 ∨ x = 11) : VS (sI t (S + x) k v) M S b n i q V c := by
  obtain ⟨hB, hi, hS, hR, ⟨h1, h2, h3⟩, h4, h5⟩ := h
  have hS0 := hS.1
  exact ⟨hB.I (by omega) (by omega), hi, hS, hR.nm hk hx (by omega), ⟨(sI_at (by omega)).trans h1, (sI_at (by omega)).trans h2, h3⟩, h4, h5⟩
set_option maxHeartbeats 1600000 in
/-- object -/
theorem m177 {t0 : Ht} (ih : P174 C M S b n (E + 8) f) (ht0 : t0 = sI t (S + 1) p 6) (h : VS t0 M S b n i q V (p + 1)) (hi : i < n) (hk : eK (V p) = 6) (hdp : eD (V p) + 1 = 31 - f) {L : Rs}
    (hL : L = if pk b n (sk b n (i + 1)) = 125 then .inl (sk b n (i + 1) + 1, p + 1, V) else obF b n (vaS b n (wnS b n true) f (some p)) p (n + 1) (sk b n (i + 1)) (p + 1) V)
    (k1 : ∀ j c' V', L = .inl (j, c', V') → ∀ t' q', VS t' M S b n j q' V' c' → q ≤ q' → AG S (M + 3) p q t0 t' → MZ M S t0 t' → tI t' (S + 4) p = tI t0 (S + 4) p → Post (.inl none) t')
    (k2 : ∀ w z, L = .inr (w, z) → ∀ t', FZ M S t0 t' w z → Post (.inr (16, M + 1)) t') : CalG C mtab (E + 9) 177 [svR (some M), svI (nI p), svI (nI (eD (V p)))] t Post := by
  have hs := sk_le (b := b) (n := n) (i := i + 1) (by omega)
  have lo := sk_lo (b := b) (n := n) (i := i + 1)
  have hn : n ≤ 1200 := h.1.1.2.2.2.2.2.2.2.2.1
  have hb := h.1.1.2.2.2.2.2.2.2.2.2.2.1
  have hc3 := h.2.2.2.2.1.2.2
  have hfw : Fwd n (vaS b n (wnS b n true) f (some p)) := vaS_inv hb hn wnS_fwd f (some p)
  have hS := h.2.2.1
  have hS0 := hS.1
  have cp : (nI p).toNatClampNeg = p := nI_clamp (by omega)
  have h0 : KZ M S p q q i (i + 1) (p + 1) (p + 1) t0 t0 V V := ⟨by omega, Nat.le_refl _, Nat.le_refl _, eEq.rfl', AG.rfl', MZ.rfl', rfl⟩
  have q24 := h.2.2.2.2.2.1
  refine cal177 (fun m l3 t' => ∃ i' c' V' q', VS t' M S b n i' q' V' c' ∧ KZ M S p q q' i i' (p + 1) c' t0 t' V V' ∧
      ((l3 = 1 ∧ m = 1000 * (n - i') + 700 ∧ ∃ g, n < g + i' ∧ L = obF b n (vaS b n (wnS b n true) f (some p)) p g i' c' V') ∨ (l3 = 0 ∧ m = 1 ∧ L = exB b n 125 i' c' V')))
    (fun m l3 l4 l5 l6 l7 t' => ∃ i' c' V' q' cs j0 x g, m = 1000 * (n - i') + 600 - x ∧ x ≤ (eS (V' p)).length ∧ i' < n ∧ l3 = 1 ∧ l4 = nI i' ∧ l5 = nI q' ∧ l6 = nI cs.length ∧ l7 = oIx ((eS (V' p))[x]?) ∧ VS t' M S b n j0 (q' + cs.length) V' c' ∧ KZ M S p q (q' + cs.length) i j0 (p + 1) c' t0 t' V V' ∧ pk b n i' = 34 ∧ stS b n 34 (i' + 1) = .inl (cs, j0) ∧ CH t' (M + 3) q' cs 2400 (q' + cs.length) ∧ n < g + 1 + i' ∧ L = obF b n (vaS b n (wnS b n true) f (some p)) p (g + 1) i' c' V' ∧ ∀ y, y < x → eN (V' ((eS (V' p)).getD y 0)) ≠ some cs)
    (fun m l3 l4 l5 l6 l7 t' => ∃ i' c' V' q' cs j0 g, m = 1000 * (n - i') + 200 ∧ i' < n ∧ l3 = 1 ∧ l4 = nI i' ∧ l5 = nI q' ∧ l6 = nI cs.length ∧ VS t' M S b n j0 (q' + cs.length) V' c' ∧ KZ M S p q (q' + cs.length) i j0 (p + 1) c' t0 t' V V' ∧ pk b n i' = 34 ∧ stS b n 34 (i' + 1) = .inl (cs, j0) ∧ CH t' (M + 3) q' cs 2400 (q' + cs.length) ∧ n < g + 1 + i' ∧ L = obF b n (vaS b n (wnS b n true) f (some p)) p (g + 1) i' c' V' ∧ hasN V' p cs = false)
    (fun m l3 t' => m = 0 ∧ ∃ i' c' V' q', VS t' M S b n i' q' V' c' ∧ KZ M S p q q' i i' (p + 1) c' t0 t' V V' ∧ L = exB b n 125 i' c' V') ?_ ?_ ?_ ?_ ?_
  · have hK : tK t M = 17 := by have := hS.2.1; rw [ht0] at this; exact this
    have h11 : tR t M 11 = some S := by have := hS.2.2.1; rw [ht0] at this; exact this
    have h15 : tK t S = 15 := by have := hS.2.2.2.1; rw [ht0] at this; exact this
    have hA : tR t S 0 = some (S + 1 + 0) ∧ tL t (S + 1 + 0) = 300 := by have := hS.2.2.2.2.1 0 (by omega); rw [ht0] at this; exact this
    have hA2 : tK t (S + 1 + 0) = 101 := by have := hS.2.2.2.2.2.1 0 (by omega); rw [ht0] at this; exact this
    refine ⟨hK, onS h11 ⟨h15, onS hA.1 ⟨hA2, by rw [hA.2]; exact vp_in_nI (by omega) (by decide), ?_⟩⟩⟩
    rw [cp, show S + 1 + 0 = S + 1 from rfl, ← ht0]
    refine ⟨hS.2.1, hS.2.1, hS.2.1, ?_⟩
    rw [h.1.1.2.2.2.2.2.2.2.1, nI_1]
    have hv1 := h.to (j := i + 1) (by omega) (by omega)
    refine mBl hv1 (fun hv2 hx2 => ⟨rfl, hS.2.1, mN (x := 125) hv2 (fun e => ?_) (fun e => ?_)⟩)
    · have e' : pk b n (sk b n (i + 1)) = 125 := e
      rw [if_pos e'] at hL
      have hlt := sk_lt1 (by decide) e'
      refine ⟨fun z => absurd z (by decide), fun _ => ⟨hS.2.1, hS.2.1, ?_⟩⟩
      rw [hv2.1.1.2.2.2.2.2.2.2.1, nI_1]
      have hv3 := hv2.to (j := sk b n (i + 1) + 1) (by omega) (by omega)
      have hz := ((h0.x h.mx hS0 (Nat.le_refl _) q24).x hx2 hS0 (i'' := sk b n (i + 1)) lo q24).x (hv2.mx (x := nI (sk b n (i + 1) + 1))) hS0 (i'' := sk b n (i + 1) + 1) (by omega) q24
      exact k1 _ _ _ hL _ q hv3 (Nat.le_refl _) hz.2.2.2.2.1 hz.2.2.2.2.2.1 hz.2.2.2.2.2.2
    · have e' : ¬ pk b n (sk b n (i + 1)) = 125 := e
      rw [if_neg e'] at hL
      have hz := (h0.x h.mx hS0 (Nat.le_refl _) q24).x hx2 hS0 (i'' := sk b n (i + 1)) lo q24
      exact ⟨fun _ => ⟨1000 * (n - sk b n (i + 1)) + 700, rfl, rfl, rfl, _, p + 1, V, q, hv2, hz, Or.inl ⟨rfl, rfl, n + 1, by omega, hL⟩⟩, fun z => absurd rfl z⟩
  · rintro m l3 t' ⟨i', c', V', q', hv, hz, hAB⟩
    have hS' := hv.2.2.1
    rcases hAB with ⟨rfl, rfl, g, hg, hL'⟩ | ⟨rfl, rfl, hL'⟩
    · refine ⟨fun z => absurd z (by decide), fun _ => ⟨hS'.2.1, hS'.2.1, mN (x := 34) hv (fun e => ?_) (fun e => ?_)⟩⟩
      · have e34 : pk b n i' = 34 := e
        have hlt := (pk_nn e34 (by decide)).1
        have hq' := hv.2.2.2.2.2.2
        have q24' := hv.2.2.2.2.2.1
        obtain ⟨g0, rfl⟩ : ∃ g0, g = g0 + 1 := ⟨g - 1, by omega⟩
        refine ⟨fun z => absurd z (by decide), fun _ => ⟨hS'.2.1, m169 (qt := 34) (Or.inl rfl) hv.1 hlt e34 (by omega) (fun cs j0 es t2 hsm => ?_) (fun z es t2 hbm => ?_)⟩⟩
        · obtain ⟨s1, s2, s3, s4⟩ := stS_ok hb hn (by decide) es
          have hv2 := hv.x hsm.1 hsm.2.1 hsm.2.2.1 s2 (by omega) (by omega)
          have hS2 := hv2.2.2.1
          obtain ⟨Rp, Qp⟩ := hv2.2.2.2.1 p (by have := hz.2.1; omega)
          have hz2 : KZ M S p q (q' + cs.length) i j0 (p + 1) c' t0 t2 V V' := by
            obtain ⟨y1, y2, y3, y4, y5, y6, y7⟩ := hz.x hsm.1 hS'.1 (i'' := j0) (by omega) q24'
            exact ⟨y1, y2, by omega, y4, y5, y6, y7⟩
          refine ⟨hS2.2.1, hS2.2.1, onS hS2.2.2.1 ⟨hS2.2.2.2.1, onS (hS2.2.2.2.2.1 1 (by omega)).1 ⟨hS2.2.2.2.2.2.1 1 (by omega), ?_, 1000 * (n - i') + 600 - 0, by omega, rfl, rfl, rfl, i', c', V', q', cs, j0, 0, g0, rfl, Nat.zero_le _, hlt, rfl, hv.1.1.2.2.2.2.2.2.2.1, rfl, ?_, ?_, hv2, hz2, e34, es, ⟨q24', Nat.le_refl _, hsm.2.2.2⟩, by omega, hL', fun y hy => absurd hy (Nat.not_lt_zero _)⟩⟩⟩
          · rw [(hS2.2.2.2.2.1 1 (by omega)).2]; exact vp_in_nI (by omega) (by decide)
          · rw [hsm.2.2.1, nI_subA]
          · rw [cp]; exact Rp.1.2.1
        · refine k2 1 z ?_ t2 (FZ.of hz.2.2.2.2.2.1 (FZ.bm hbm q24'))
          rw [hL', obF]
          unfold mbS
          rw [if_pos e34, es]
      · have e34 : ¬ pk b n i' = 34 := e
        have hi'n := hv.2.1
        obtain ⟨g0, rfl⟩ : ∃ g0, g = g0 + 1 := ⟨g - 1, by omega⟩
        refine ⟨fun _ => ⟨hS'.2.1, mBad hv.1.1 (k2 1 i' ?_ _ (FZ.of hz.2.2.2.2.2.1 FZ.mb))⟩, fun z => absurd rfl z⟩
        rw [hL', obF]
        unfold mbS
        rw [if_neg e34]
    · exact ⟨fun _ => ⟨0, by omega, rfl, rfl, rfl, rfl, i', c', V', q', hv, hz, hL'⟩, fun z => absurd rfl z⟩
  · rintro m l3 l4 l5 l6 l7 t' ⟨i', c', V', q', cs, j0, x, g, rfl, hx, hlt, rfl, rfl, rfl, rfl, rfl, hv, hz, e34, es, hch, hg, hL', hall⟩
    have hS' := hv.2.2.1
    have hpc : p < c' := by have := hz.2.1; omega
    obtain ⟨Rp, Qp⟩ := hv.2.2.2.1 p hpc
    have hk6 : eK (V' p) = 6 := by
      have : eK (V' p) = eK (V p) := congrArg (fun z => z.1) hz.2.2.2.1.1
      rw [this]; exact hk
    have hlen := Qp.len
    have hc300' := hv.2.2.2.2.1.2.2
    obtain ⟨s1, s2, s3, s4⟩ := stS_ok hb hn (by decide) es
    by_cases hxl : x < (eS (V' p)).length
    · rw [kid_get hxl]
      have hkm := Qp.2.2.1 _ (kid_mem hxl)
      generalize hkid : (eS (V' p)).getD x 0 = kid at hkm
      have hkm2 : kid ∈ eS (V' p) := by rw [← hkid]; exact kid_mem hxl
      have hc300 := hv.2.2.2.2.1.2.2
      obtain ⟨Rk, Qk⟩ := hv.2.2.2.1 kid hkm.2.1
      have hnn := Qp.2.2.2.2.2.2.2.2 hk6 kid hkm2
      obtain ⟨csk, hcsk⟩ := Option.ne_none_iff_exists'.mp hnn
      obtain ⟨z, r1, r2, r3⟩ := Rk.2.1.2 csk hcsk
      have hin : vp_in (nI kid) 300 := vp_in_nI (by omega) (by decide)
      have ck : (nI kid).toNatClampNeg = kid := nI_clamp (by omega)
      have hhi := hv.2.2.2.2.2.2
      have hj0n := hv.2.1
      refine ⟨fun e => ?_, fun _ => ⟨hS'.2.1, onS hS'.2.2.1 ⟨hS'.2.2.2.1, onS (hS'.2.2.2.2.1 9 (by omega)).1 ⟨hS'.2.2.2.2.2.1 9 (by omega), ?_, hS'.2.1, onS hS'.2.2.1 ⟨hS'.2.2.2.1, onS (hS'.2.2.2.2.1 10 (by omega)).1 ⟨hS'.2.2.2.2.2.1 10 (by omega), ?_, hS'.2.1, ?_⟩⟩⟩⟩⟩⟩
      · have e' : nI kid = -1 := e
        exact absurd (show nI kid < 0 by rw [e']; decide) (nI_pos (by omega))
      · rw [(hS'.2.2.2.2.1 9 (by omega)).2]; exact hin
      · rw [(hS'.2.2.2.2.1 10 (by omega)).2]; exact hin
      · show CalG C mtab (E + 8) 170 [svR (some M), svI (nI q'), svI (nI cs.length), svI (tI t' (S + 1 + 9) (nI kid).toNatClampNeg), svI (tI t' (S + 1 + 10) (nI kid).toNatClampNeg)] t' _
        rw [ck, show S + 1 + 9 = S + 10 by omega, show S + 1 + 10 = S + 11 by omega, r1, r2]
        refine m170 hS'.2.1 hv.1.2.1 hv.1.2.2.1 hv.1.2.2.2.1 hch r3 (by omega) (by omega) s4 (Qk.2.2.2.2.2.1 csk hcsk) ?_
        by_cases ecs : cs = csk
        · rw [decide_eq_true ecs]
          refine ⟨fun z => absurd z (by decide), fun _ => ⟨hS'.2.1, c153 (s := M + 1) hS'.2.1 hv.1.1.2.1 hv.1.1.2.2.1 ⟨hv.1.1.2.2.1, k2 2 i' ?_ _ (FZ.of hz.2.2.2.2.2.1 FZ.mb)⟩⟩⟩
          have hN : hasN V' p cs = true := by
            unfold hasN
            rw [List.any_eq_true]
            exact ⟨kid, hkm2, by rw [hcsk, ecs]; simp⟩
          rw [hL', obF]
          unfold mbS
          rw [if_pos e34, es]
          show (match (if hasN V' p cs then _ else _ : Rs) with | .inr e => _ | .inl (j, c', V') => _) = _
          rw [if_pos hN]
        · rw [decide_eq_false ecs]
          refine ⟨fun _ => ⟨hS'.2.1, onS hS'.2.2.1 ⟨hS'.2.2.2.1, onS (hS'.2.2.2.2.1 3 (by omega)).1 ⟨hS'.2.2.2.2.2.1 3 (by omega), ?_, 1000 * (n - i') + 600 - (x + 1), by omega, rfl, rfl, rfl, i', c', V', q', cs, j0, x + 1, g, rfl, by omega, hlt, rfl, rfl, rfl, rfl, ?_, hv, hz, e34, es, hch, hg, hL', fun y hy => ?_⟩⟩⟩, fun z => absurd rfl z⟩
          · rw [(hS'.2.2.2.2.1 3 (by omega)).2]; exact hin
          · show tI t' (S + 1 + 3) (nI kid).toNatClampNeg = _
            rw [ck, show S + 1 + 3 = S + 4 by omega, ← hkid]
            exact Rp.2.2 x hxl
          · by_cases ey : y = x
            · rw [ey, hkid, hcsk]
              intro z
              injection z with z
              exact ecs z.symm
            · exact hall y (by omega)
    · have hxe : x = (eS (V' p)).length := by omega
      have hno : (eS (V' p))[x]? = none := List.getElem?_eq_none (by omega)
      rw [hno]
      have hN : hasN V' p cs = false := by
        unfold hasN
        rw [List.any_eq_false]
        intro y hy
        obtain ⟨w, hw, rfl⟩ := List.getElem_of_mem hy
        have := hall w (by omega)
        have eg : (eS (V' p)).getD w 0 = (eS (V' p))[w] := by simp [hw]
        rw [eg] at this
        simp [this]
      exact ⟨fun _ => ⟨1000 * (n - i') + 200, by omega, rfl, rfl, rfl, i', c', V', q', cs, j0, g, rfl, hlt, rfl, rfl, rfl, rfl, hv, hz, e34, es, hch, hg, hL', hN⟩, fun z => absurd rfl z⟩
  · rintro m l3 l4 l5 l6 l7 t' ⟨i', c', V', q', cs, j0, g, rfl, hlt, rfl, rfl, rfl, rfl, hv, hz, e34, es, hch, hg, hL', hN⟩
    have hS' := hv.2.2.1
    have hj0n := hv.2.1
    have slo := sk_lo (b := b) (n := n) (i := j0)
    have q24' := hv.2.2.2.2.2.1
    obtain ⟨s1, s2, s3, s4⟩ := stS_ok hb hn (by decide) es
    obtain ⟨z1, z2, z3, z4, z5, z6, z7⟩ := id hz
    have hmb : mbS b n (vaS b n (wnS b n true) f (some p)) p i' c' V' = if pk b n (sk b n j0) = 58 then (match vaS b n (wnS b n true) f (some p) (sk b n (sk b n j0 + 1)) c' V' with
        | .inr e => .inr e
        | .inl (j, c1, V1) => .inl (j, c1, vAdo V1 p c' (some cs))) else .inr (1, sk b n j0) := by
      unfold mbS
      rw [if_pos e34, es]
      exact if_neg (by rw [hN]; exact Bool.false_ne_true)
    rw [obF, hmb] at hL'
    refine ⟨hS'.2.1, mBl hv (fun hv2 hx2 => ⟨rfl, hS'.2.1, need_c (x := 58) (by omega) hv2 (fun e hv3 hx3 => ⟨rfl, hS'.2.1, mBl hv3 (fun hv4 hx4 => ⟨rfl, hS'.2.1, ?_⟩)⟩) (fun e t2 hF => ?_)⟩)⟩
    · have e' : pk b n (sk b n j0) = 58 := e
      rw [if_pos e'] at hL'
      have hlt2 := sk_lt1 (by decide) e'
      have slo2 := sk_lo (b := b) (n := n) (i := sk b n j0 + 1)
      have hs2 := sk_le (b := b) (n := n) (i := sk b n j0 + 1) (by omega)
      have hz4 := ((hz.x hx2 hS'.1 (i'' := sk b n j0) slo q24').x hx3 hS'.1 (i'' := sk b n j0 + 1) (by omega) q24').x hx4 hS'.1 slo2 q24'
      have hd : nI (eD (V p)) + 1 = nI (31 - f) := by rw [nI_1, hdp]
      rw [hd]
      have hx24 : MX M (M + 1) (M + 3) (q' + cs.length) t' _ := hx2.trans (hx3.trans hx4)
      have hch4 := hch.eq (Nat.le_refl _) (fun k _ hk => hx24.2.2.2.2.2.2.2 k hk)
      revert hz4 hv4 hch4
      generalize sI (sI (sI t' M 5 (nI (sk b n j0))) M 5 (nI (sk b n j0 + 1))) M 5 (nI (sk b n (sk b n j0 + 1))) = t4
      intro hv4 hz4 hch4
      obtain ⟨-, Qp⟩ := hv4.2.2.2.1 p (by omega)
      refine ih _ t4 _ c' _ V' (some p) hv4 (fun z hz => by injection hz with hz; omega) (fun j c1 V1 e2 t1 q1 hv1 hq1 ha1 hm1 hnx => ?_) (fun w z e2 t1 hF => ?_)
      · rw [e2] at hL'
        obtain ⟨w1, w2, w3, w4, w5, w6⟩ := hfw _ _ _ _ _ _ hs2 e2
        have hU := vaS_up hb hn wnS_fwd e2
        have eVp : V1 p = V' p := w4 p (by omega)
        have hk6 : eK (V1 p) = 6 := by
          rw [eVp]
          have : eK (V' p) = eK (V p) := congrArg (fun z => z.1) z4.1
          rw [this]; exact hk
        have hS1 := hv1.2.2.1
        have hc1 := hv1.2.2.2.2.1.2.2
        have hin : vp_in (nI c') 300 := vp_in_nI (by omega) (by decide)
        have ck : (nI c').toNatClampNeg = c' := nI_clamp (by omega)
        have hv5 := (hv1.nm (v := nI q') w6 (Or.inl rfl)).nm (v := nI cs.length) w6 (Or.inr rfl)
        have hS10 := hS1.1
        have hch5 : CH (sI (sI t1 (S + 10) c' (nI q')) (S + 11) c' (nI cs.length)) (M + 3) q' cs 2400 q1 := by
          refine hch4.eq hq1 (fun k _ hk => ?_)
          rw [sI_at (by omega), sI_at (by omega)]
          exact ha1.2.2 k hk
        refine ⟨hS1.2.1, onS hS1.2.2.1 ⟨hS1.2.2.2.1, onS (hS1.2.2.2.2.1 9 (by omega)).1 ⟨hS1.2.2.2.2.2.1 9 (by omega), ?_, hS1.2.1, onS hS1.2.2.1 ⟨hS1.2.2.2.1, onS (hS1.2.2.2.2.1 10 (by omega)).1 ⟨hS1.2.2.2.2.2.1 10 (by omega), ?_, hS1.2.1, ?_⟩⟩⟩⟩⟩
        · rw [(hS1.2.2.2.2.1 9 (by omega)).2]; exact hin
        · show vp_in _ (tL t1 (S + 1 + 10)); rw [(hS1.2.2.2.2.1 10 (by omega)).2]; exact hin
        · rw [ck, show S + 1 + 9 = S + 10 by omega, show S + 1 + 10 = S + 11 by omega]
          have hag5 : AG S (M + 3) c' q1 t1 (sI (sI t1 (S + 10) c' (nI q')) (S + 11) c' (nI cs.length)) := (AG.I hS10 (by omega) (by omega) (Or.inr (Nat.le_refl _))).trans (AG.I hS10 (by omega) (by omega) (Or.inr (Nat.le_refl _))) (Nat.le_refl _) (Nat.le_refl _)
          have hmz5 : MZ M S t1 (sI (sI t1 (S + 10) c' (nI q')) (S + 11) c' (nI cs.length)) := (MZ.I (by omega) (by omega)).trans (MZ.I (by omega) (by omega))
          have hnx5 : tI (sI (sI t1 (S + 10) c' (nI q')) (S + 11) c' (nI cs.length)) (S + 4) c' = -1 := by rw [sI_at (by omega), sI_at (by omega)]; exact hnx
          have h10 : tI (sI (sI t1 (S + 10) c' (nI q')) (S + 11) c' (nI cs.length)) (S + 10) c' = nI q' := by rw [sI_at (by omega)]; exact sI_eq
          have h11 : tI (sI (sI t1 (S + 10) c' (nI q')) (S + 11) c' (nI cs.length)) (S + 11) c' = nI cs.length := sI_eq
          have hp5 : tI (sI (sI t1 (S + 10) c' (nI q')) (S + 11) c' (nI cs.length)) (S + 4) p = tI t1 (S + 4) p := by rw [sI_at (by omega), sI_at (by omega)]
          revert hv5 hch5 hag5 hmz5 hnx5 h10 h11 hp5
          generalize sI (sI t1 (S + 10) c' (nI q')) (S + 11) c' (nI cs.length) = t5
          intro hv5 hch5 hag5 hmz5 hnx5 h10 h11 hp5
          refine m175 (nm := some cs) hv5 (by omega) w3 (by omega) (by omega) hnx5 hU (fun x hx => by rw [eVp] at hx; exact (Qp.2.2.1 x hx).2.1) (fun _ => by simp) (fun ds hds => by injection hds with hds; subst hds; exact ⟨s4, q', h10, h11, hch5⟩) (fun t2 hv6 hm2 ha2 hp2 => ⟨rfl, hv6.2.2.1.2.1, ?_⟩)
          have slo3 := sk_lo (b := b) (n := n) (i := j)
          obtain ⟨y1, y2, y3, y4, y5, y6, y7⟩ := hz4
          have hkz : KZ M S p q q1 i j (p + 1) c1 t0 t2 V (vAdo V1 p c' (some cs)) := by
            refine ⟨by omega, by omega, by omega, by rw [vAdo_p, eVp]; exact y4.trans ⟨rfl, rfl, rfl⟩, ((y5.trans ha1 (by omega) y3).trans hag5 (by omega) (by omega)).trans ha2 (Nat.le_refl _) (by omega), y6.trans (hm1.trans (hmz5.trans hm2)), ?_⟩
            rw [hp2, hp5, ha1.1 4 p (by omega) (by omega) (by omega), y7]
          have q24'' := hv6.2.2.2.2.2.1
          refine mBl hv6 (fun hv7 hx7 => ⟨rfl, hv6.2.2.1.2.1, mN (x := 44) hv7 (fun e3 => ?_) (fun e3 => ?_)⟩)
          · have e3' : pk b n (sk b n j) = 44 := e3
            have hlt3 := sk_lt1 (by decide) e3'
            refine ⟨fun z => absurd z (by decide), fun _ => ⟨hv6.2.2.1.2.1, hv6.2.2.1.2.1, hv6.2.2.1.2.1, ?_⟩⟩
            rw [hv7.1.1.2.2.2.2.2.2.2.1, nI_1]
            have hv8 := hv7.to (j := sk b n j + 1) (by omega) (by omega)
            have slo4 := sk_lo (b := b) (n := n) (i := sk b n j + 1)
            refine mBl hv8 (fun hv9 hx9 => ⟨rfl, ?_⟩)
            have hL2 : L = obF b n (vaS b n (wnS b n true) f (some p)) p g (sk b n (sk b n j + 1)) c1 (vAdo V1 p c' (some cs)) := by rw [hL']; exact if_pos e3'
            exact ⟨1000 * (n - sk b n (sk b n j + 1)) + 700, by omega, rfl, rfl, rfl, _, c1, _, q1, hv9, ((hkz.x hx7 hv6.2.2.1.1 slo3 q24'').x hv7.mx hv6.2.2.1.1 (i'' := sk b n j + 1) (by omega) q24'').x hx9 hv6.2.2.1.1 slo4 q24'', Or.inl ⟨rfl, rfl, g, by omega, hL2⟩⟩
          · have e3' : ¬ pk b n (sk b n j) = 44 := e3
            have hL2 : L = exB b n 125 (sk b n j) c1 (vAdo V1 p c' (some cs)) := by rw [hL']; exact if_neg e3'
            exact ⟨fun _ => ⟨1, by omega, rfl, rfl, rfl, _, c1, _, q1, hv7, hkz.x hx7 hv6.2.2.1.1 slo3 q24'', Or.inr ⟨rfl, rfl, hL2⟩⟩, fun z => absurd rfl z⟩
      · refine k2 w z ?_ t1 (FZ.of hz4.2.2.2.2.2.1 hF)
        rcases e2 with e2 | ⟨rfl, c1, V1, e2, hd⟩
        · rw [e2] at hL'; exact hL'
        · rw [e2] at hL'
          obtain ⟨d1, d2, d3⟩ := dgt_sk hd
          rw [hL']
          show (if pk b n (sk b n z) = 44 then _ else if pk b n (sk b n z) = 125 then _ else _) = _
          rw [d1, if_neg (show ¬ pk b n z = 44 from d3 44 (by omega) (by omega)), if_neg (show ¬ pk b n z = 125 from d3 125 (by omega) (by omega))]
    · have e' : ¬ pk b n (sk b n j0) = 58 := e
      rw [if_neg e'] at hL'
      exact k2 _ _ hL' _ (FZ.of z6 (FZ.of (MZ.x hx2 q24') hF))
  · rintro m l3 t' ⟨rfl, i', c', V', q', hv, hz, hL'⟩
    unfold exB at hL'
    have hS' := hv.2.2.1
    have q24' := hv.2.2.2.2.2.1
    refine ⟨hS'.2.1, need_c (x := 125) (by omega) hv (fun e hv2 hx2 => ⟨rfl, ?_⟩) (fun e t2 hF => ?_)⟩
    · have e' : pk b n i' = 125 := e
      rw [if_pos e'] at hL'
      have hz2 := hz.x hx2 hS'.1 (i'' := i' + 1) (by omega) q24'
      exact k1 _ _ _ hL' _ q' hv2 hz.2.2.1 hz2.2.2.2.2.1 hz2.2.2.2.2.2.1 hz2.2.2.2.2.2.2
    · have e' : ¬ pk b n i' = 125 := e
      rw [if_neg e'] at hL'
      exact k2 _ _ hL' _ (FZ.of hz.2.2.2.2.2.1 hF)
end MOb
