/-! readFunction, its steps -/
section QF2
variable {C : Cx} {d E : Nat} {Post : OutT → Ht → Prop} {t t1 t' : Ht} {qr r tp ch : Nat} {b : By} {n i o f : Nat} {L : LT}
theorem OKx.eq2 {u : Nat} {x : QF} (h : OKx t u x) (hN : tN t ≤ tN t') (su : sameAt t t' u) (h5' : ∀ v, tK t v = 5 → sameAt t t' v) : OKx t' u x := by
  obtain ⟨kd, sg, ⟨h1, h2, h3, h4⟩, h5⟩ := h
  refine ⟨kd, sg, ⟨su.1.trans h1, (su.2.2.1 0).trans h2, h3, fun z => ?_⟩, h5⟩
  obtain ⟨v, v1, v2, v3, v4⟩ := h4 z
  have sv := h5' v v2
  exact ⟨v, (su.2.2.2.2 7).trans v1, sv.1.trans v2, (sv.2.2.1 2).trans v3, by omega⟩
theorem AA.eq {k : Nat} {Lc Lx : LT} {x : QF} {lg : Bool} (h : AA C t t' Lc x lg) (hC : CQ t' qr r tp ch b n k o Lx) (hq : qr < tN t) (hr : r < tN t) (hs : ∀ z, z ≠ r → z ≠ qr → sameAt t' t1 z) (hN : tN t1 = tN t') : AA C t t1 Lc x lg := by
  obtain ⟨u, u1, u2, u3, u4, u5, u6⟩ := h
  have su := hs u (by omega) (by omega)
  have sa := hs (tN t) (by omega) (by omega)
  refine ⟨u, (sa.2.2.2.2 5).trans u1, u2, by omega, su.1.trans u4, fun z => ?_, fun z => (su.2.2.1 0).trans (u6 z)⟩
  obtain ⟨z1, z2, z3⟩ := u5 z
  refine ⟨z1, z2.eq2 (by omega) su (fun v hv => ?_), fun y => ?_⟩
  · have := hC.nk hv (by omega)
    exact hs v this.2.1 this.1
  · rw [hN]
    exact QR.frame (t := t') (t' := t1) (by omega) _ _ _ _ _ _ (z3 y) (fun v hv => hs v (by have := hv.1; omega) (by have := hv.1; omega))
theorem AS.to {kf j0 k k' mm : Nat} {Lc : LT} {x : QF} {lg : Bool} (h : AS C qr r tp ch b n o t t' kf i j0 L k Lc mm x lg) (hq : qr < tN t) (hr : r < tN t) (hk : k ≤ k') (hk' : k' ≤ n) : AS C qr r tp ch b n o t (sI t' r 4 (nI k')) kf i j0 L k' Lc mm x lg := by
  obtain ⟨hC, hX, hF, hL, hA, h1, h2, h3⟩ := h
  have hC1 := hC.to hk'
  have hX1 : QX qr r ch t (sI t' r 4 (nI k')) := hX.trans (QX.rx (RX.I (Or.inr rfl)))
  have hs : ∀ y, y ≠ r → sameAt t' (sI t' r 4 (nI k')) y := fun y hy => sameAt_sI hy
  have b3 : tN (sI t' r 4 (nI k')) = tN t' := sIN
  have b4 : tU (sI t' r 4 (nI k')) = tU t' := sIU
  revert hC1 hX1 hs b3 b4
  generalize sI t' r 4 (nI k') = t1
  intro hC1 hX1 hs b3 b4
  exact ⟨hC1, hX1, hF.eq (hs _ (by omega)) (hs _ (by omega)) (by omega), hL, fun z => (hA z).eq hC hq hr (fun y y1 _ => hs y y1) b3, by omega, by omega, by omega⟩
/-- one more argument -/
theorem AS.arg {kf j0 k j u mm : Nat} {Lc L' : LT} {x y : QF} {lg ly : Bool} {t3 : Ht} (h : AS C qr r tp ch b n o t t' kf i j0 L k Lc mm x lg) (hq : qr < tN t) (hr : r < tN t) (hc : ch < tN t) (ht' : tp < tN t) (hC : CQ t3 qr r tp ch b n j o L') (hX : QX qr r ch t' t3) (hL : L'.1 = 0 → Lc.1 = 0) (hf : ly = false → isTg y = true ∧ OKx t3 u y ∧ (L'.1 = 0 → QR C t3 y 7 [] (rg (tN t') (tN t3)) [u] false)) (ht : ly = true → tI t3 u 0 = 9) (hu : tK t3 u = 11 ∧ tN t' ≤ u ∧ u < tN t3) (hkj : k < j) (hB : BG t' t3 (j - k) 20 200) : tK t3 (tN t) = 11 ∧ AS C qr r tp ch b n o t (sR t3 (tN t) 5 (some u)) kf i j0 L j L' (mm + 1) (if mm = 0 then y else x) (if mm = 0 then ly else lg) := by
  obtain ⟨hC0, hX0, ⟨⟨a1, a2, a3, a4⟩, b1, b2, b3, b4, b5, b6⟩, hL0, hA, h1, h2, h3⟩ := h
  have sa := hX.same (x := tN t) (by omega) (by omega) (by omega) (by omega)
  have sb := hX.same (x := tN t + 1) (by omega) (by omega) (by omega) (by omega)
  have hN3 := hX.1
  unfold BG at hB
  have k11 := sa.1.trans a1
  refine ⟨k11, ?_⟩
  have hs : ∀ z, z ≠ tN t → sameAt t3 (sR t3 (tN t) 5 (some u)) z := fun z hz => sameAt_sR hz
  have c1 : tK (sR t3 (tN t) 5 (some u)) = tK t3 := sRK
  have c2 : tN (sR t3 (tN t) 5 (some u)) = tN t3 := sRN
  have c3 : tU (sR t3 (tN t) 5 (some u)) = tU t3 := sRU
  have c4 : tI (sR t3 (tN t) 5 (some u)) = tI t3 := sRI
  have c5 : tR (sR t3 (tN t) 5 (some u)) (tN t) 5 = some u := sR_eq
  have c6 : tR (sR t3 (tN t) 5 (some u)) (tN t) 8 = tR t3 (tN t) 8 := sR_at (by omega)
  revert hs c1 c2 c3 c4 c5 c6
  generalize sR t3 (tN t) 5 (some u) = t4
  intro hs c1 c2 c3 c4 c5 c6
  have sb4 := sb.trans (hs (tN t + 1) (by omega))
  refine ⟨hC.old (by omega) (fun z _ hz => hs z (by rcases hz with rfl | rfl | rfl | rfl <;> omega)), (hX0.trans hX).up (by omega) (fun z hz => hs z (by omega)), ⟨⟨by rw [c1]; exact k11, by rw [c4]; exact (sa.2.2.1 0).trans a2, by rw [c4]; exact (sa.2.2.1 1).trans a3, c6.trans ((sa.2.2.2.2 8).trans a4)⟩, sb4.1.trans b1, (sb4.2.2.1 0).trans b2, (sb4.2.2.2.2 4).trans b3, (sb4.2.2.2.2 6).trans b4, b5, by omega⟩, fun z => hL0 (hL z), fun hm => ?_, by omega, by omega, by omega⟩
  have hm0 : mm = 0 := by omega
  rw [if_pos hm0, if_pos hm0]
  have su := hs u (by omega)
  refine ⟨u, c5, by omega, by omega, su.1.trans hu.1, fun z => ?_, fun z => (su.2.2.1 0).trans (ht z)⟩
  obtain ⟨z1, z2, z3⟩ := hf z
  refine ⟨z1, z2.eq2 (by omega) su (fun v hv => hs v (fun w => by rw [w, k11] at hv; cases hv)), fun w => ?_⟩
  have q := QR.frame (t := t3) (t' := t4) (by omega) _ _ _ _ _ _ (z3 w) (fun v hv => hs v (by have := hv.1; omega))
  cases y with
  | tag k0 y0 => exact q.wide (by decide) (by decide) (fun v hv => ⟨by have := hv.1; omega, by have := hv.2; omega⟩)
  | _ => cases z1
/-- what wants says of the argument -/
theorem AA.wants {k : Nat} {Lc : LT} {x : QF} {lg : Bool} (h : AA C t t' Lc x lg) (hk : k ≤ 3) : ∃ u kd sg, tR t' (tN t) 5 = some u ∧ OK t' u kd sg ∧ wants k x lg = (if kfN k = 5 then isCk kd sg else (decide (kfN k = 6 ∨ kfN k = 7) && decide (kd = 4))) := by
  obtain ⟨u, u1, u2, u3, u4, u5, u6⟩ := h
  cases lg with
  | true =>
    refine ⟨u, 9, false, u1, ⟨u4, u6 rfl, by omega, fun z => by omega⟩, ?_⟩
    have : k = 0 ∨ k = 1 ∨ k = 2 ∨ k = 3 := by omega
    rcases this with rfl | rfl | rfl | rfl <;> rfl
  | false =>
    obtain ⟨z1, ⟨kd, sg, z2, z3, z4, z5, z6⟩, z7⟩ := u5 rfl
    refine ⟨u, kd, sg, u1, z2, ?_⟩
    show (!false && (if k = 1 then isCmp x else decide (k = 2 ∨ k = 3) && isPth x)) = _
    rw [z3, z6]
    have : k = 0 ∨ k = 1 ∨ k = 2 ∨ k = 3 := by omega
    rcases this with rfl | rfl | rfl | rfl <;> simp [kfN]
end QF2
