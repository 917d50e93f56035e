/-! slice, OF THE REFERENCE -/
section MQ3
variable {C : Cx} {d : Nat} {Post : OutT → Ht → Prop} {t t1 t' : Ht} {M P : Nat} {b : By} {n i q c o i' q' c' o' : Nat} {L L' : LT} {X : List Nat}
/-- a slice's part -/
def SLI (t : Ht) (P a : Nat) (p r : Option (Bool × Nat)) (L : LT) : Prop := tI t (P + 1) a = 4 ∧ tI t (P + 5) a = nI ((if p.isSome then 1 else 0) + (if r.isSome then 2 else 0)) ∧ (L.1 = 0 → ∀ m N, p = some (m, N) → tJ t (P + 6) a = sgR m N) ∧ (L.1 = 0 → ∀ m N, r = some (m, N) → tJ t (P + 7) a = sgR m N) ∧ tI t (P + 4) a = -1
theorem SLI.go {a : Nat} {p r : Option (Bool × Nat)} (h : SLI t P a p r L) (hs : SQa t t' P a ∧ tI t' (P + 4) a = tI t (P + 4) a) (hL : L'.1 = 0 → L.1 = 0) : SLI t' P a p r L' := by
  obtain ⟨h1, h2, h3, h4, h5⟩ := h
  exact ⟨(hs.1.1 1 (by omega)).trans h1, (hs.1.1 5 (by omega)).trans h2, fun z m N e => (hs.1.2 6 (by omega)).trans (h3 (hL z) m N e), fun z m N e => (hs.1.2 7 (by omega)).trans (h4 (hL z) m N e), hs.2.trans h5⟩
theorem SQa.I {a x k : Nat} {v : Int32} (h : x < P + 1 ∨ P + 5 < x) : SQa t (sI t x k v) P a ∧ tI (sI t x k v) (P + 4) a = tI t (P + 4) a := ⟨⟨fun j hj => sI_at (by omega), fun _ _ => rfl⟩, sI_at (by omega)⟩
theorem unO_q (o : Option (Bool × Nat)) : unO (qOpt o) = o.map (fun z => sgR z.1 z.2) := by
  cases o with
  | none => rfl
  | some z => obtain ⟨m, N⟩ := z; show some (unI (qI m N)) = _; rw [unI_qI]; rfl
theorem nI_or3 {w v : Nat} {x : Int32} (hw : w ≤ 3) (hx : x = nI w) (hv : (v = 4 ∧ w ≤ 3) ∨ (v = 2 ∧ w ≤ 1)) : x ||| nI v = nI (w + v) := by
  subst hx
  rw [nI_or (by omega) (by omega)]
  rcases hv with ⟨rfl, h⟩ | ⟨rfl, h⟩
  · obtain rfl | rfl | rfl | rfl : w = 0 ∨ w = 1 ∨ w = 2 ∨ w = 3 := by omega
    all_goals rfl
  · obtain rfl | rfl : w = 0 ∨ w = 1 := by omega
    all_goals rfl
set_option maxHeartbeats 1000000 in
theorem m188 {p : Option (Bool × Nat)} {t0 : Ht} {i0 q0 a : Nat} {L0 : LT} (h : GO M P b n [] t0 i0 q0 a t i q (a + 1) o L) (hc : a < 2400) (hi : pk b n i = 58) (hL : L.1 = 0 → L0.1 = 0) (ho : tI t (P + 5) a = nI (if p.isSome then 1 else 0)) (hj : L.1 = 0 → ∀ m N, p = some (m, N) → tJ t (P + 6) a = sgR m N) (hx : tI t (P + 4) a = -1) (kk : KQ M P b n o [] 2 0 1 true false true t0 i0 q0 a L0 (slQ b n p i L) Post) : CalG C mtab (d + 6) 188 [svR (some M), svI (nI a)] t Post := by
  obtain ⟨k1, k2⟩ := kk
  have hP := h.1.2.2.1.1
  have v : vp_in (nI a) 2400 := vin h.1 hc
  have cl : (nI a).toNatClampNeg = a := nI_clamp (by omega)
  have hi0 := h.2.2.2.1
  have nilX : ∀ z ∈ ([] : List Nat), z ∈ ([] : List Nat) ∨ a ≤ z := fun z hz => by cases hz
  have fin : ∀ (t5 : Ht) (j : Nat) (q5 : Nat) (L1 : LT) (r s : Option (Bool × Nat)), GO M P b n [] t0 i0 q0 a t5 j q5 (a + 1) o L1 → i < j → (L1.1 = 0 → L.1 = 0) → tI t5 (P + 1) a = 4 → tI t5 (P + 5) a = nI ((if p.isSome then 1 else 0) + (if r.isSome then 2 else 0) + (if s.isSome then 4 else 0)) → (L1.1 = 0 → (∀ m N, p = some (m, N) → tJ t5 (P + 6) a = sgR m N) ∧ (∀ m N, r = some (m, N) → tJ t5 (P + 7) a = sgR m N) ∧ ∀ m N, s = some (m, N) → tJ t5 (P + 8) a = sgR m N) → tI t5 (P + 4) a = -1 → slQ b n p i L = .inl (j, L1, qSli p r s) → Post (.inl (some (svI (nI a)))) t5 := by
    intro t5 j q5 L1 r s hG hij hl e1 e5 ej e4 hsp
    refine k1 j L1 _ hsp t5 j q5 (a + 1) a hG ⟨by omega, Nat.le_refl _, rfl, fun _ => rfl⟩ (fun _ z => ⟨hL (hl z), rfl, ?_⟩) ⟨fun _ => e1, fun z => by omega⟩ ⟨Nat.le_refl _, by omega, e4⟩ (by omega) (fun z => by cases z)
    refine QM.mk (m := 2) (k := 4) (us := []) (F1 := fun _ => False) (by decide) (by decide) (by decide) ⟨Nat.le_refl _, by omega⟩ (fun _ z => z.elim) (fun z => z) ?_ (Or.inl rfl)
    unfold HM
    rw [if_neg (by decide), if_pos rfl, if_neg (by decide), if_neg (by decide), if_neg (by decide), if_pos rfl]
    obtain ⟨z1, z2, z3⟩ := ej z
    have un : ∀ (o : Option (Bool × Nat)) (x : Int64) (y : Int64), (∀ m N, o = some (m, N) → y = sgR m N) → unO (qOpt o) = some x → y = x := fun o x y hy hx => by
      rw [unO_q] at hx
      cases o with
      | none => cases hx
      | some w => obtain ⟨m, N⟩ := w; injection hx with hx; rw [hy m N rfl]; exact hx
    have is : ∀ o : Option (Bool × Nat), (unO (qOpt o)).isSome = o.isSome := fun o => by rw [unO_q]; cases o <;> rfl
    refine ⟨e1, ?_⟩
    show tI t5 (P + 5) a = nI ((if (unO (qOpt p)).isSome then 1 else 0) + (if (unO (qOpt r)).isSome then 2 else 0) + (if (unO (qOpt s)).isSome then 4 else 0)) ∧ (∀ z, unO (qOpt p) = some z → tJ t5 (P + 6) a = z) ∧ (∀ z, unO (qOpt r) = some z → tJ t5 (P + 7) a = z) ∧ (∀ z, unO (qOpt s) = some z → tJ t5 (P + 8) a = z)
    rw [is, is, is]
    exact ⟨e5, fun x hx => un p x _ z1 hx, fun x hx => un r x _ z2 hx, fun x hx => un s x _ z3 hx⟩
  have tail : ∀ (t5 : Ht) (j q5 : Nat) (L1 : LT) (r : Option (Bool × Nat)), GO M P b n [] t0 i0 q0 a t5 j q5 (a + 1) o L1 → i < j → (L1.1 = 0 → L.1 = 0) → SLI t5 P a p r L1 → slQ b n p i L = slT b n p r j L1 →
      CalG C mtab (d + 5) 157 [svR (some M), svI (58 : Int32)] t5 (aftV (fun v19 t20 => rI v19 (fun x24 => br (x24 = 0) (Post (.inl (some (svI (nI a)))) t20) (tK t20 M = 17 ∧ tK t20 M = 17 ∧ tK (sI t20 M 5 ((tI t20 M 5) + (1 : Int32))) M = 17 ∧ CalG C mtab (d + 5) 160 [svR (some M)] (sI t20 M 5 ((tI t20 M 5) + (1 : Int32))) (aftV (fun v25 t26 => v25 = none ∧ tK t26 M = 17 ∧ CalG C mtab (d + 5) 186 [svR (some M)] t26 (aftV (fun v30 t31 => rI v30 (fun x35 => br (x35 = 0) (Post (.inl (some (svI (nI a)))) t31) (tK t31 M = 17 ∧ onR (tR t31 M 17) (fun a36 => tK t31 a36 = 14 ∧ tK t31 M = 17 ∧ CalG C mtab (d + 5) 185 [svR (some M)] t31 (aftV (fun v37 t38 => rJ v37 (fun x42 => onR (tR t31 a36 7) (fun a43 => tK t38 a43 = 102 ∧ vp_in (nI a) (tL t38 a43) ∧ tK (sJ t38 a43 a x42) M = 17 ∧ onR (tR (sJ t38 a43 a x42) M 17) (fun a44 => tK (sJ t38 a43 a x42) a44 = 14 ∧ onR (tR (sJ t38 a43 a x42) a44 4) (fun a45 => tK (sJ t38 a43 a x42) a45 = 101 ∧ vp_in (nI a) (tL (sJ t38 a43 a x42) a45) ∧ onR (tR (sJ t38 a43 a x42) a44 4) (fun a46 => tK (sJ t38 a43 a x42) a46 = 101 ∧ vp_in (nI a) (tL (sJ t38 a43 a x42) a46) ∧ Post (.inl (some (svI (nI a)))) (sI (sJ t38 a43 a x42) a46 a ((tI (sJ t38 a43 a x42) a45 a) ||| (4 : Int32))))))))) (fun k39 q40 t41 => Post (.inr (k39, q40)) t41)))))) (fun k32 q33 t34 => Post (.inr (k32, q33)) t34))) (fun k27 q28 t29 => Post (.inr (k27, q28)) t29))))) (fun k21 q22 t23 => Post (.inr (k21, q22)) t23)) := by
    intro t5 j q5 L1 r hG hij hl hS hsp
    unfold slT at hsp
    have h5 := hG.1
    refine mqI h5 (fun e58 => ⟨fun z => absurd z (by decide), fun _ => ⟨h5.K, h5.K, h5.K, ?_⟩⟩) (fun e58 => ⟨fun _ => ?_, fun z => absurd rfl z⟩)
    · rw [if_pos e58] at hsp
      have hjn := (pk_nn e58 (by decide)).1
      rw [h5.at, nI_1]
      have slo := sk_lo (b := b) (n := n) (i := j + 1)
      refine mqB (hG.to (j := j + 1) (by omega) (by omega) (by have := h5.2.2.2.2.2.1; omega)) (fun hG2 => ⟨rfl, hG2.1.K, ?_⟩)
      rw [sI_sI] at hG2 ⊢
      have hS2 : SLI (sI t5 M 5 (nI (sk b n (j + 1)))) P a p r L1 := hS.go (SQa.I (by omega)) (fun z => z)
      revert hG2 hS2
      generalize sI t5 M 5 (nI (sk b n (j + 1))) = t6
      intro hG2 hS2
      refine m186 hG2.1 ?_
      cases hai : atInt b n (sk b n (j + 1)) with
      | false =>
        rw [hai, if_neg (by decide)] at hsp
        exact ⟨fun _ => fin t6 _ q5 L1 r none hG2 (by omega) hl hS2.1 hS2.2.1 (fun z => ⟨hS2.2.2.1 z, hS2.2.2.2.1 z, fun m N e => by cases e⟩) hS2.2.2.2.2 hsp, fun z => absurd rfl z⟩
      | true =>
        rw [hai, if_pos rfl] at hsp
        refine ⟨fun z => absurd z (by decide), fun _ => ⟨hG2.1.K, onS hG2.1.r17 ⟨hG2.1.k14, hG2.1.K, m185 hG2.1 (fun k L2 m N e2 hjk t7 g1 g2 g3 => onS hG2.1.a7.1 ?_) (fun w pp e2 t7 hF => ?_)⟩⟩⟩
        · rw [e2] at hsp
          have h7 := g1.1
          have hS3 : SLI t7 P a p r L2 := hS2.go ⟨(g1.sq (by omega)).1, (g1.sq (by omega)).2 (by simp)⟩ (fun z => (g2 z).1)
          refine ⟨h7.a7.2.1, by rw [h7.a7.2.2]; exact v, h7.K, onS h7.r17 ⟨h7.k14, onS h7.a4.1 ⟨h7.a4.2.1, ?_, onS h7.a4.1 ⟨h7.a4.2.1, ?_, ?_⟩⟩⟩⟩
          · show vp_in (nI a) (tL t7 (P + 5)); rw [h7.a4.2.2]; exact v
          · show vp_in (nI a) (tL t7 (P + 5)); rw [h7.a4.2.2]; exact v
          have w3 : (if p.isSome then 1 else 0) + (if r.isSome then 2 else 0) ≤ 3 := by split <;> split <;> omega
          refine fin _ k q5 L2 r (some (m, N)) (((hG2.trans g1 (fun z hz => by cases hz)).J (by omega) (Nat.le_refl _)).I (Or.inl (by omega))) (by omega) (fun z => hl ((g2 z).1)) ?_ ?_ (fun z => ⟨fun m' N' e => ?_, fun m' N' e => ?_, fun m' N' e => ?_⟩) ?_ hsp
          · rw [sI_at (by omega)]; exact hS3.1
          · rw [sI_eq]; exact nI_or3 w3 hS3.2.1 (Or.inl ⟨rfl, w3⟩)
          · show tJ (sJ t7 (P + 8) a _) (P + 6) a = _; rw [sJ_at (by omega)]; exact hS3.2.2.1 z m' N' e
          · show tJ (sJ t7 (P + 8) a _) (P + 7) a = _; rw [sJ_at (by omega)]; exact hS3.2.2.2.1 z m' N' e
          · injection e with e
            injection e with e3 e4
            subst e3 e4
            show tJ (sJ t7 (P + 8) a _) (P + 8) a = _; rw [sJ_eq]; exact (g2 z).2
          · rw [sI_at (by omega)]; exact hS3.2.2.2.2
        · refine k2 w pp ?_ t7 (FQ.of hG2 hF)
          rcases e2 with e2 | ⟨rfl, L2, m, N, e2, e3⟩
          · rw [e2] at hsp; exact Or.inl hsp
          · rw [e2] at hsp; exact Or.inr ⟨rfl, pp, L2, _, hsp, (dgt_sk e3).1.symm, fun _ => rfl, Or.inl e3, fun _ => e3⟩
    · rw [if_neg e58] at hsp
      exact fin t5 j q5 L1 r none hG hij hl hS.1 hS.2.1 (fun z => ⟨hS.2.2.1 z, hS.2.2.2.1 z, fun m N e => by cases e⟩) hS.2.2.2.2 hsp
  have hlt := (pk_nn hi (by decide)).1
  refine cal188 ⟨h.1.K, onS h.1.r17 ⟨h.1.k14, onS h.1.a0.1 ⟨h.1.a0.2.1, by rw [h.1.a0.2.2]; exact v, h.1.K, ?_⟩⟩⟩
  rw [cl]
  have hG1 : GO M P b n [] t0 i0 q0 a (sI t (P + 1) a 4) i q (a + 1) o L := h.I (Or.inl (by omega))
  have hS1 : SLI (sI t (P + 1) a 4) P a p none L := ⟨sI_eq, (sI_at (by omega)).trans ho, hj, (fun _ m N e => by cases e), (sI_at (by omega)).trans hx⟩
  revert hG1 hS1
  generalize sI t (P + 1) a 4 = t1
  intro hG1 hS1
  refine mqN (by decide) hG1 (fun _ hG2 => ⟨rfl, hG2.1.K, ?_⟩) (fun e => absurd hi e)
  have slo := sk_lo (b := b) (n := n) (i := i + 1)
  refine mqB hG2 (fun hG3 => ⟨rfl, hG3.1.K, ?_⟩)
  rw [sI_sI] at hG3 ⊢
  have hS3 : SLI (sI t1 M 5 (nI (sk b n (i + 1)))) P a p none L := hS1.go (SQa.I (by omega)) (fun z => z)
  revert hG3 hS3
  generalize sI t1 M 5 (nI (sk b n (i + 1))) = t3
  intro hG3 hS3
  refine m186 hG3.1 ?_
  cases hai : atInt b n (sk b n (i + 1)) with
  | false =>
    refine ⟨fun _ => ⟨hG3.1.K, tail t3 _ q L none hG3 (by omega) (fun z => z) hS3 ?_⟩, fun z => absurd rfl z⟩
    unfold slQ
    rw [hai]; exact if_neg (by decide)
  | true =>
    refine ⟨fun z => absurd z (by decide), fun _ => ⟨hG3.1.K, onS hG3.1.r17 ⟨hG3.1.k14, hG3.1.K, m185 hG3.1 (fun k L2 m N e2 hjk t7 g1 g2 g3 => onS hG3.1.a6.1 ?_) (fun w pp e2 t7 hF => ?_)⟩⟩⟩
    · have h7 := g1.1
      have hS4 : SLI t7 P a p none L2 := hS3.go ⟨(g1.sq (by omega)).1, (g1.sq (by omega)).2 (by simp)⟩ (fun z => (g2 z).1)
      refine ⟨h7.a6.2.1, by rw [h7.a6.2.2]; exact v, h7.K, onS h7.r17 ⟨h7.k14, onS h7.a4.1 ⟨h7.a4.2.1, ?_, onS h7.a4.1 ⟨h7.a4.2.1, ?_, h7.K, ?_⟩⟩⟩⟩
      · show vp_in (nI a) (tL t7 (P + 5)); rw [h7.a4.2.2]; exact v
      · show vp_in (nI a) (tL t7 (P + 5)); rw [h7.a4.2.2]; exact v
      have w1 : (if p.isSome then 1 else 0) ≤ 1 := by split <;> omega
      have hG5 : GO M P b n [] t0 i0 q0 a (sI (sJ t7 (P + 7) a (tJ t7 M 8)) (P + 5) a (tI (sJ t7 (P + 7) a (tJ t7 M 8)) (P + 5) a ||| 2)) k q (a + 1) o L2 := ((hG3.trans g1 (fun z hz => by cases hz)).J (by omega) (Nat.le_refl _)).I (Or.inl (by omega))
      have hS5 : SLI (sI (sJ t7 (P + 7) a (tJ t7 M 8)) (P + 5) a (tI (sJ t7 (P + 7) a (tJ t7 M 8)) (P + 5) a ||| 2)) P a p (some (m, N)) L2 := by
        refine ⟨?_, ?_, fun z m' N' e => ?_, fun z m' N' e => ?_, ?_⟩
        · rw [sI_at (by omega)]; exact hS4.1
        · rw [sI_eq]; exact nI_or3 (by omega) hS4.2.1 (Or.inr ⟨rfl, w1⟩)
        · show tJ (sJ t7 (P + 7) a _) (P + 6) a = _; rw [sJ_at (by omega)]; exact hS4.2.2.1 z m' N' e
        · injection e with e
          injection e with e3 e4
          subst e3 e4
          show tJ (sJ t7 (P + 7) a _) (P + 7) a = _; rw [sJ_eq]; exact (g2 z).2
        · rw [sI_at (by omega)]; exact hS4.2.2.2.2
      revert hG5 hS5
      generalize sI (sJ t7 (P + 7) a (tJ t7 M 8)) (P + 5) a (tI (sJ t7 (P + 7) a (tJ t7 M 8)) (P + 5) a ||| 2) = t8
      intro hG5 hS5
      have slo2 := sk_lo (b := b) (n := n) (i := k)
      refine mqB hG5 (fun hG6 => ⟨rfl, hG6.1.K, tail _ _ q L2 (some (m, N)) hG6 (by omega) (fun z => (g2 z).1) (hS5.go (SQa.I (by omega)) (fun z => z)) ?_⟩)
      unfold slQ
      rw [hai, if_pos rfl, e2]
    · refine k2 w pp ?_ t7 (FQ.of hG3 hF)
      rcases e2 with e2 | ⟨rfl, L2, m, N, e2, e3⟩
      · left
        unfold slQ
        rw [hai, if_pos rfl, e2]
      · obtain ⟨d1, d2, d3⟩ := dgt_sk e3
        refine Or.inr ⟨rfl, pp, L2, qSli p (some (m, N)) none, ?_, d1.symm, fun _ => rfl, Or.inl e3, fun _ => e3⟩
        unfold slQ
        rw [hai, if_pos rfl, e2]
        show slT b n p (some (m, N)) (sk b n pp) L2 = _
        rw [d1]
        unfold slT
        exact if_neg (d3 58 (by omega) (by omega))
end MQ3
