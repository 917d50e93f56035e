/-! AND, OR: one part more -/
section QL2
variable {C : Cx} {X : List Nat} {d E : Nat} {P : OutT → Ht → Prop} {t tb t1 t' : Ht} {qr r tp ch : Nat} {b : By} {n i o f rc rs : Nat} {L : LT}
theorem LBs.to {kt j k c e : Nat} {Lc : LT} {y : QF} {us : List Nat} (h : LBs C X qr r tp ch b n o rc rs t tb t' kt i L j Lc y us c e) (hr : r < tN t) (htb : tN t ≤ tN tb) (hjk : j ≤ k) (hk : k ≤ n) : LBs C X qr r tp ch b n o rc rs t tb (sI t' r 4 (nI k)) kt i L k Lc y us c e := by
  obtain ⟨hC, hX', ⟨l1, l2, l3, l4, l5⟩, hQ, ⟨hus, hp, hm⟩, ⟨a1, a2, a3, a4⟩, hij, hb1, hb2⟩ := h
  have hC1 := hC.to hk
  have hX1 : QX qr r ch tb (sI t' r 4 (nI k)) := hX'.trans (QX.rx (RX.I (Or.inr rfl)))
  have hs : ∀ y, y ≠ r → sameAt t' (sI t' r 4 (nI k)) y := fun y hy => sameAt_sI hy
  have b3 : tN (sI t' r 4 (nI k)) = tN t' := sIN
  have b4 : tU (sI t' r 4 (nI k)) = tU t' := sIU
  revert hC1 hX1 hs b3 b4
  generalize sI t' r 4 (nI k) = t2
  intro hC1 hX1 hs b3 b4
  have sT := hs (tN tb) (by omega)
  refine ⟨hC1, hX1, ⟨l1.frame (by omega) (hs _ (by omega)) (fun _ => hs e (by omega)), l2, l3, l4, by omega⟩, fun z => ?_, ⟨fun z hz => ?_, hp, hm⟩, ⟨sT.1.trans a1, (sT.2.2.1 0).trans a2, (sT.2.2.1 3).trans a3, (sT.2.2.2.2 2).trans a4⟩, by omega, by omega, by omega⟩
  · obtain ⟨z1, z2, z3, z4⟩ := hQ z
    rw [b3]
    exact ⟨z1, z2, z3, QR.frame (t := t') (t' := t2) (by omega) _ _ _ _ _ _ z4 (fun v hv => hs v (by have := hv.1.1; omega))⟩
  · obtain ⟨z1, z2, z3, z4⟩ := hus z hz
    exact ⟨(hs z (by omega)).1.trans z1, by omega, z3, z4⟩
/-- the first part -/
theorem LBs.first {kt j u : Nat} {L2 : LT} {x : QF} {t3 t2 : Ht} {F0 : Nat → Prop} {p : Int32} (hF : FTl C tb t3 (nI kt) p) (htb : tN t ≤ tN tb) (hqN : qr < tN t) (hrN : r < tN t) (hcN : ch < tN t) (htN : tp < tN t) (hXb : ∀ z ∈ X, z < tN tb) (hC : CQ t2 qr r tp ch b n j o L2) (hX2 : QX qr r ch t3 t2) (hF0 : ∀ z, F0 z → hg X (tN t) (tN t2) z) (hT : ¬ F0 (tN tb)) (hl : ¬ F0 (tN tb + 1)) (hQ : L2.1 = 0 → L.1 = 0 ∧ isTg x = true ∧ QR C t2 x 3 [] F0 [u] false) (hu : tK t2 u = 11 ∧ tN t ≤ u ∧ u < tN t2 ∧ u ∉ X ∧ u ≠ tN tb) (hij : i < j) (hb1 : tN t2 + 1 + rc ≤ tN t + 40 * (j - i)) (hb2 : tU t2 + 10 + rs ≤ tU t + 600 * (j - i)) (k : ∀ t4 c e, LBs C X qr r tp ch b n o rc rs t tb t4 kt i L j L2 (qP x qN) [u] c e → P (.inl (some (svI 1))) t4) : CalG C mtab (d + 8) 273 [svR (some (tN tb + 1)), svR (some u)] t2 P := by
  obtain ⟨f1, ⟨f2, f3⟩, f4, f5, f6, f7, f8, f9⟩ := hF
  have hN2 := hX2.1
  have sT := hX2.same (x := tN tb) (by omega) (by omega) (by omega) (by omega)
  have sl := hX2.same (x := tN tb + 1) (by omega) (by omega) (by omega) (by omega)
  have hl2 : LsA C t2 (tN tb + 1) [] 0 0 := f9.frame hN2 sl (fun z => absurd z (Nat.lt_irrefl _))
  have ul : u ≠ tN tb + 1 := fun z => by have := hl2.1; rw [← z, hu.1] at this; cases this
  refine qadd (kd := 11) (d := d) hl2 (by omega) (by simp) (fun z hz => by cases hz) ⟨hu.1, hu.2.2.1⟩ (Or.inr (Or.inr rfl)) (fun t4 c' e' g1 g2 g3 g4 g5 => k t4 c' e' ?_)
  have g5' : e' = tN t2 ∧ tN t4 = tN t2 + 1 ∧ tU t4 = tU t2 + 10 := by
    rcases g5 with ⟨q1, -⟩ | ⟨q1, q2, -, q4⟩
    · omega
    · exact ⟨q1, q2, q4 rfl rfl⟩
  have hs4 : ∀ x, x < tN t2 → x ≠ tN tb + 1 → sameAt t2 t4 x := fun x x1 x2 => g4 x x1 x2 (fun z => absurd z (Nat.lt_irrefl _))
  have sT4 := sT.trans (hs4 (tN tb) (by omega) (by omega))
  refine ⟨hC.old (by omega) (fun z z1 z2 => hs4 z z1 (by rcases z2 with rfl | rfl | rfl | rfl <;> omega)), ((QX.of (by omega) f1).trans hX2).up (by omega) (fun z hz => hs4 z (by omega) (by omega)), ⟨g1, g2, g3, by omega, by omega⟩, fun z => ?_, ⟨fun z hz => ?_, by simp, by simp⟩, ⟨sT4.1.trans f4, (sT4.2.2.1 0).trans f5, (sT4.2.2.1 3).trans f7, (sT4.2.2.2.2 2).trans f8⟩, hij, by omega, by omega⟩
  · obtain ⟨z1, z2, z3⟩ := hQ z
    refine ⟨z1, rfl, ⟨x, .nil, rfl, z2⟩, ?_⟩
    show QR C t4 (.append x .nil) 3 [tN tb, tN tb + 1, e'] (hg X (tN t) (tN t4)) [u] false
    unfold QR
    rw [if_neg (by decide), if_neg (by decide)]
    refine ⟨u, [], rfl, ⟨F0, fun y hy => ⟨⟨(hF0 y hy).1.1, by have := (hF0 y hy).1.2; omega⟩, (hF0 y hy).2⟩, fun y hy w => ?_, QR.frame (t := t2) (t' := t4) (by omega) _ _ _ _ _ _ z3 (fun y hy => hs4 y (hF0 y hy).1.2 (fun q => hl (by rw [← q]; exact hy)))⟩, rfl⟩
    simp only [List.mem_cons, List.not_mem_nil, or_false] at hy
    rcases hy with rfl | rfl | rfl
    · exact hT w
    · exact hl w
    · have := (hF0 _ w).1.2; omega
  · rw [List.mem_singleton.mp hz]
    exact ⟨(hs4 u hu.2.2.1 ul).1.trans hu.1, by omega, hu.2.1, hu.2.2.2.1⟩
set_option maxHeartbeats 1000000 in
/-- one part more -/
theorem LBs.next {kt j k u c e : Nat} {Lc L2 : LT} {x2 y : QF} {us : List Nat} {t2 : Ht} (h : LBs C X qr r tp ch b n o rc rs t tb t1 kt i L j Lc y us c e) (htb : tN t ≤ tN tb) (hqN : qr < tN t) (hrN : r < tN t) (hcN : ch < tN t) (htN : tp < tN t) (hXb : ∀ z ∈ X, z < tN tb) (hC2 : CQ t2 qr r tp ch b n k o L2) (hX2 : QX qr r ch t1 t2) (hQ2 : L2.1 = 0 → Lc.1 = 0 ∧ isTg x2 = true ∧ QR C t2 x2 3 [] (rg (tN t1) (tN t2)) [u] false) (hu : tK t2 u = 11 ∧ tN t1 ≤ u ∧ u < tN t2) (hlen : us.length ≤ 600) (hij : i < k) (hb1 : tN t2 + 1 + rc ≤ tN t + 40 * (k - i)) (hb2 : tU t2 + 910 + rs ≤ tU t + 600 * (k - i)) (kk : ∀ t4 c e, LBs C X qr r tp ch b n o rc rs t tb t4 kt i L k L2 (qApp y x2) (us ++ [u]) c e → P (.inl (some (svI 1))) t4) : CalG C mtab (d + 8) 273 [svR (some (tN tb + 1)), svR (some u)] t2 P := by
  obtain ⟨hC, hX', ⟨l1, l2, l3, l4, l5⟩, hQ, ⟨hus, hp, hm⟩, ⟨a1, a2, a3, a4⟩, hij0, hc1, hc2⟩ := h
  have hN1 := hX'.1
  have hN2 := hX2.1
  have sT := hX2.same (x := tN tb) (by omega) (by omega) (by omega) (by omega)
  have sl := hX2.same (x := tN tb + 1) (by omega) (by omega) (by omega) (by omega)
  have se := hX2.same (x := e) l5 (by omega) (by omega) (by omega)
  have hls2 : LsA C t2 (tN tb + 1) us c e := l1.frame hN2 sl (fun _ => se)
  have hus2 : ∀ z ∈ us, tK t2 z = 11 ∧ z < tN t2 := fun z hz => by
    have hz1 := hus z hz
    exact ⟨(hX2.2.1 z hz1.2.1).1.trans hz1.1, by omega⟩
  have eNe : ∀ x, tK t2 x = 11 → x ≠ tN tb + 1 ∧ x ≠ e := fun x x2 => by
    refine ⟨fun z => ?_, fun z => ?_⟩
    · have := hls2.1; rw [← z, x2] at this; cases this
    · have := (hls2.kd l3).1; rw [← z, x2] at this; cases this
  refine qadd (kd := 11) (d := d) hls2 l2 hlen hus2 ⟨hu.1, hu.2.2⟩ (Or.inr (Or.inr rfl)) (fun t3 c' e' g1 g2 g3 g4 g5 => kk t3 c' e' ?_)
  have hN3 : tN t2 ≤ tN t3 ∧ tN t3 ≤ tN t2 + 1 ∧ tU t3 ≤ tU t2 + 910 ∧ tN tb + 2 ≤ e' ∧ e' < tN t3 := by
    rcases g5 with ⟨q1, q2, q3, q4, q5⟩ | ⟨q1, q2, q3, q4⟩ <;> omega
  have hlen2 : (us ++ [u]).length = us.length + 1 := by simp
  have sT3 := sT.trans (g4 (tN tb) (by omega) (by omega) (fun _ => by omega))
  refine ⟨hC2.old (by omega) (fun z z1 z2 => g4 z z1 (by rcases z2 with rfl | rfl | rfl | rfl <;> omega) (fun _ => by rcases z2 with rfl | rfl | rfl | rfl <;> omega)), (hX'.trans hX2).up (by omega) (fun z hz => g4 z (by omega) (by omega) (fun _ => by omega)), ⟨g1, g2, g3, hN3.2.2.2.1, hN3.2.2.2.2⟩, fun z => ?_, ⟨fun z hz => ?_, by rw [hlen2]; omega, by rw [hlen2]; omega⟩, ⟨sT3.1.trans a1, (sT3.2.2.1 0).trans a2, (sT3.2.2.1 3).trans a3, (sT3.2.2.2.2 2).trans a4⟩, hij, by omega, by omega⟩
  · obtain ⟨z1, z2, z3⟩ := hQ2 z
    obtain ⟨w1, w2, ⟨x0, y0, w4, w5⟩, w3⟩ := hQ z1
    have b1 : QR C t3 y 3 [tN tb, tN tb + 1, e] (hg X (tN t) (tN t1)) us false := QR.frameL (t := t1) (t' := t3) (by omega) _ _ _ _ _ _ w2 (by decide) (by decide) w3 (fun v hv v3 => (hX2.same hv.1.2 (by have := hv.1.1; omega) (by have := hv.1.1; omega) (by have := hv.1.1; omega)).trans (g4 v (by have := hv.1.2; omega) (fun zz => v3 (by simp [zz])) (fun _ zz => v3 (by simp [zz]))))
    have b2 : QR C t3 y 3 [tN tb, tN tb + 1, e'] (hg X (tN t) (tN t3)) us false := QR.avL _ _ _ _ _ _ _ _ w2 (by decide) (by decide) b1 (fun v hv => ⟨⟨hv.1.1, by have := hv.1.2; omega⟩, hv.2⟩) (fun v hv => by
      simp only [List.mem_cons, List.not_mem_nil, or_false] at hv ⊢
      rcases hv with rfl | rfl | rfl
      · exact Or.inl (Or.inl rfl)
      · exact Or.inl (Or.inr (Or.inl rfl))
      · rcases g5 with ⟨q1, q2, -⟩ | ⟨q1, -⟩
        · exact Or.inl (Or.inr (Or.inr q2))
        · exact Or.inr (fun w => by have := w.1.2; omega))
    have b3 : QR C t3 x2 3 [] (rg (tN t1) (tN t2)) [u] false := QR.frame (t := t2) (t' := t3) (by omega) _ _ _ _ _ _ z3 (fun v hv => g4 v hv.2 (by have := hv.1; omega) (fun _ => by have := hv.1; omega))
    obtain ⟨d1, d2, d3⟩ := QR.app (F := hg X (tN t) (tN t3)) (av := [tN tb, tN tb + 1, e']) (by decide) (by decide) (fun v hv => ⟨⟨by have := hv.1; omega, by have := hv.2; omega⟩, fun w => by have := hXb _ w; have := hv.1; omega⟩) (fun v hv w => by
      simp only [List.mem_cons, List.not_mem_nil, or_false] at hv
      have w1 := w.1
      have w2 := w.2
      rcases hv with rfl | rfl | rfl
      · omega
      · omega
      · rcases g5 with ⟨q1, q2, -⟩ | ⟨q1, -⟩ <;> omega) b3 y us false w2 b2
    exact ⟨w1, d2, ⟨x0, qApp y0 x2, by rw [w4]; rfl, w5⟩, d1⟩
  · rcases List.mem_append.mp hz with hz | hz
    · have hz0 := hus z hz
      obtain ⟨z1, z2⟩ := hus2 z hz
      have := eNe z z1
      exact ⟨(g4 z z2 this.1 (fun _ => this.2)).1.trans z1, by omega, hz0.2.2.1, hz0.2.2.2⟩
    · rw [List.mem_singleton.mp hz]
      have := eNe u hu.1
      exact ⟨(g4 u hu.2.2 this.1 (fun _ => this.2)).1.trans hu.1, by omega, by omega, fun w => by have := hXb _ w; omega⟩
end QL2
