/-! segments, path, OF THE REFERENCE -/
section MQ8
variable {C : Cx} {d E f : Nat} {Post : OutT → Ht → Prop} {t t1 t' : Ht} {M P : Nat} {b : By} {n i q c o i' q' c' o' : Nat} {L L' : LT} {X : List Nat}
theorem hdI_no {us : List Nat} (h : ∀ z ∈ us, z < 2400) : hdI us = -1 ↔ us = [] := by
  cases us with
  | nil => exact ⟨fun _ => rfl, fun _ => rfl⟩
  | cons a r =>
    have := h a (by simp)
    exact ⟨fun e => absurd e (nI_m1 (by omega)), fun e => by cases e⟩
theorem bI_and {x y : Bool} : bI (x && y) = if bI x = 0 then 0 else bI y := by cases x <;> rfl
theorem sI_cm {t : Ht} {a a' k k' : Nat} {v v' : Int32} (h : a ≠ a') : sI (sI t a k v) a' k' v' = sI (sI t a' k' v') a k v := by
  obtain ⟨n, u, kk, l, i, j, r⟩ := t
  have e : up2 (up2 i a k v) a' k' v' = up2 (up2 i a' k' v') a k v := by
    funext b m
    unfold up2
    by_cases c : b = a' ∧ m = k'
    · rw [if_pos c, if_neg (fun w => h (w.1.symm.trans c.1)), if_pos c]
    · rw [if_neg c, if_neg c]
  show (n, u, kk, l, up2 (up2 i a k v) a' k' v', j, r) = (n, u, kk, l, up2 (up2 i a' k' v') a k v, j, r)
  rw [e]
/-- the heap of t' in which a segment's one is set -/
theorem SGr.mk {strict dp s2 : Bool} {i1 q1 a j2 q2 c2 u : Nat} {us2 : List Nat} {L1 L2 : LT} {y : QF} {t2 : Ht} (g : GO M P b n [] t1 i1 q1 a t' j2 q2 c2 (16 - f) L2) (hP : P = M + 30 ∨ P = M + 39) (ht : t2 = sI t' (P + 2) a (nI u)) (he : tI t' (P + 1) a = 0 ∧ tI t' (P + 4) a = -1 ∧ tI t' (P + 5) a = bI dp) (hy : L2.1 = 0 → L1.1 = 0 ∧ qL y = true ∧ QM t' P (M + 3) 2400 q2 y 2 (rg (a + 1) c2) (u :: us2)) (h21 : tI t' M 21 = bI s2) (hij : i1 < j2) (hac : a < c2) (hcb : c2 ≤ a + 2 * (j2 - i1)) (hs : sgQ b n f (orN b n f) strict i1 L1 = .inl (j2, L2, qT (if dp then 1 else 0) y, s2 && ((if dp then 1 else 0) == 0))) : SGr M P b n f strict t1 i1 q1 a L1 t2 j2 L2 (qT (if dp then 1 else 0) y) (s2 && ((if dp then 1 else 0) == 0)) := by
  subst ht
  refine ⟨q2, c2, u, us2, dp, y, s2, rfl, rfl, g.I (Or.inl ⟨by omega, by omega, Or.inl (Nat.le_refl _)⟩), ⟨?_, sI_eq, ?_, ?_⟩, fun z => ?_, ?_, hij, hac, hcb, hs⟩
  · rw [sI_at (by omega)]; exact he.1
  · rw [sI_at (by omega)]; exact he.2.1
  · rw [sI_at (by omega)]; exact he.2.2
  · obtain ⟨z1, z2, z3⟩ := hy z
    exact ⟨z1, z2, z3.fr (fun v hv => ⟨(SQa.w (Or.inr (Or.inr (by have := hv.1; omega)))).1, fun _ => (SQa.w (Or.inr (Or.inr (by have := hv.1; omega)))).2⟩) (fun k _ _ => sI_at (by omega)) (Nat.le_refl _)⟩
  · rw [sI_at (by omega)]; exact h21
set_option maxHeartbeats 2000000 in
theorem m192 {strict whole : Bool} (hf : f ≤ 16) (ih : ∀ f0, f = f0 + 1 → P210 C M P b n (E + 8) f0) (h : PS t M P b n i q c (16 - f) L) (hc : c + 1 ≤ 2 * i) (kk : KSg M P b n (16 - f) whole t i q c L (sgS b n f (orN b n f) strict i L) Post) : CalG C mtab (E + 11) 192 [svR (some M), svI (bI strict), svI (bI whole)] t Post := by
  have hn := h.hn
  have hin := h.2.1
  have hP := h.2.2.1.1
  have hq := h.2.2.2.2.2.1
  obtain ⟨k1, k2⟩ := kk
  obtain ⟨S, hsp⟩ : ∃ S, S = sgS b n f (orN b n f) strict i L := ⟨_, rfl⟩
  rw [← hsp] at k1 k2
  have sb : ∀ x : Bool, ¬ bI x = 0 → x = true := fun x hx => by
    cases x with
    | true => rfl
    | false => exact absurd rfl hx
  refine cal192 (fun m l3 l4 l5 l6 l7 t' => ∃ h q' c' L' s x us g, l3 = hdI us ∧ l4 = laI us ∧ l5 = bI s ∧ l6 = nI us.length ∧ SGl M P b n (16 - f) t i q c L t' h q' c' L' x us ∧ ((l7 = 1 ∧ m = 6 * (n + 1 - h) + 5 ∧ n < g + h ∧ S = sgF b n f (orN b n f) strict g (sk b n h) h L' s x) ∨ (l7 = 0 ∧ m = 0 ∧ S = .inl (sk b n h, h, L', s, x) ∧ (whole = true → sk b n h = h))))
    (fun m l3 l4 l5 l6 l7 l8 t' => ∃ i1 q1 a L1 s x us g, l5 = bI s ∧ l7 = 1 ∧ m = 6 * (n + 1 - i1) + 4 ∧ (pk b n i1 = 91 ∨ pk b n i1 = 46) ∧ SGa M P b n f strict t i q c L S l3 l4 l6 t' i1 q1 a L1 s x us g)
    (fun m l3 l4 l5 l6 l7 l8 l9 t' => ∃ i1 q1 a L1 s x us g t1 dp p, l5 = bI s ∧ l7 = 1 ∧ m = 6 * (n + 1 - i1) + 3 ∧ l9 = nI a ∧ SGa M P b n f strict t i q c L S l3 l4 l6 t1 i1 q1 a L1 s x us g ∧ GO M P b n [] t1 i1 q1 a t' p q1 (a + 1) (16 - f) L1 ∧ p = i1 + 1 + (if dp then 1 else 0) ∧ (tI t' (P + 1) a = 0 ∧ tI t' (P + 4) a = -1 ∧ tI t' (P + 5) a = bI dp) ∧ tI t' M 21 = 1 ∧ sgQ b n f (orN b n f) strict i1 L1 = (if dp = true ∧ pk b n p = 91 then mkQ 1 (bkQ b n f (orN b n f) false p L1) else mkQ (if dp then 1 else 0) (dtQ b n strict p L1)))
    (fun m l3 l4 l5 l6 l7 l8 l9 t' => ∃ i1 q1 a L1 s x us g t1 j2 L2 z s3, l5 = bI s ∧ l7 = 1 ∧ m = 6 * (n + 1 - i1) + 2 ∧ l9 = nI a ∧ SGa M P b n f strict t i q c L S l3 l4 l6 t1 i1 q1 a L1 s x us g ∧ SGr M P b n f strict t1 i1 q1 a L1 t' j2 L2 z s3)
    (fun m l3 l4 l5 l6 l7 l8 l9 t' => ∃ i1 q1 a L1 s x us g t1 j2 L2 z s3, l5 = bI (s && s3) ∧ l7 = 1 ∧ m = 6 * (n + 1 - i1) + 1 ∧ l9 = nI a ∧ SGa M P b n f strict t i q c L S l3 l4 l6 t1 i1 q1 a L1 s x us g ∧ SGr M P b n f strict t1 i1 q1 a L1 t' j2 L2 z s3) ?_ ?_ ?_ ?_ ?_ ?_
  · have hG1 : GO M P b n [] t i q c (sI (sI t M 21 1) P 10 0) i q c (16 - f) L := ((GO.rfl' h).I (Or.inr (Or.inr ⟨rfl, Or.inl rfl⟩))).I (Or.inr (Or.inl ⟨rfl, by omega⟩))
    refine ⟨h.K, Or.inr rfl, h.K, onS h.r17 ⟨h.k14, 6 * (n + 1 - i) + 5, rfl, rfl, rfl, i, q, c, L, true, qN, [], n + 1, rfl, rfl, rfl, rfl, ⟨hG1, fun z => ⟨z, rfl, by unfold qN QM; rfl⟩, by simp, (fun z hz => by cases hz), by omega⟩, Or.inl ⟨rfl, rfl, by omega, hsp⟩⟩⟩
  · rintro m l3 l4 l5 l6 l7 t' ⟨h2, q', c', L', s, x, us, g, rfl, rfl, rfl, rfl, hS, hw⟩
    have hG := hS.1
    have h' := hG.1
    have slo := sk_lo (b := b) (n := n) (i := h2)
    have hih := hG.2.2.2.1
    refine ⟨fun e7 => ?_, fun e7 => ?_⟩
    · rcases hw with hw | ⟨-, rfl, e, hwh⟩
      · rw [hw.1] at e7; exact absurd e7 (by decide)
      refine ⟨h'.K, by cases s <;> simp [bI], h'.K, onS h'.r17 ⟨h'.k14, ?_⟩⟩
      refine (k1 _ _ _ _ _ e rfl).2 hwh _ q' c' us ⟨(hG.I (Or.inr (Or.inr ⟨rfl, Or.inl rfl⟩))).I (Or.inr (Or.inl ⟨rfl, by omega⟩)), fun z => ?_, hS.2.2⟩ ?_ sI_eq
      · obtain ⟨z1, z2, z3⟩ := hS.2.1 z
        refine ⟨z1, z2, z3.fr (fun v hv => ⟨⟨fun k hk => ?_, fun _ _ => rfl⟩, fun _ => ?_⟩) (fun k _ _ => ?_) (Nat.le_refl _)⟩
        all_goals rw [sI_at (by omega), sI_at (by omega)]
      · rw [sI_at (by omega)]; exact sI_eq
    · obtain ⟨rfl, rfl, hg, e⟩ := hw.resolve_right (fun w => e7 w.1)
      obtain ⟨g0, rfl⟩ : ∃ g0, g = g0 + 1 := ⟨g - 1, by have := h'.2.1; omega⟩
      have hhn := h'.2.1
      have hskn := sk_le (b := b) hhn
      refine ⟨h'.K, h'.K, mqB hG (fun hG1 => ⟨rfl, hG1.1.K, ?_⟩)⟩
      have hS1 : SGl M P b n (16 - f) t i q c L (sI t' M 5 (nI (sk b n h2))) (sk b n h2) q' c' L' x us := by
        refine ⟨hG1, fun z => ?_, hS.2.2.1, hS.2.2.2.1, by have := hS.2.2.2.2; omega⟩
        obtain ⟨z1, z2, z3⟩ := hS.2.1 z
        exact ⟨z1, z2, z3.fr (fun v hv => ⟨(SQa.w (Or.inl (by omega))).1, fun _ => (SQa.w (Or.inl (by omega))).2⟩) (fun k _ _ => sI_at (by omega)) (Nat.le_refl _)⟩
      have e0 : tI t' M 5 = nI h2 := h'.at
      have t90 : pk b n (sk b n h2) = 91 ∨ pk b n (sk b n h2) = 46 → ∃ k, k < 6 * (n + 1 - h2) + 5 ∧ some M = some M ∧ bI strict = bI strict ∧ bI whole = bI whole ∧ ∃ i1 q1 a L1 s' x us' g, bI s = bI s' ∧ (1 : Int32) = 1 ∧ k = 6 * (n + 1 - i1) + 4 ∧ (pk b n i1 = 91 ∨ pk b n i1 = 46) ∧ SGa M P b n f strict t i q c L S (hdI us) (laI us) (nI us.length) (sI t' M 5 (nI (sk b n h2))) i1 q1 a L1 s' x us' g := fun hp => by
        have hlt : sk b n h2 < n := by rcases hp with hp | hp <;> exact (pk_nn hp (by decide)).1
        refine ⟨6 * (n + 1 - sk b n h2) + 4, by omega, rfl, rfl, rfl, sk b n h2, q', c', L', s, x, us, g0, rfl, rfl, rfl, hp, rfl, rfl, rfl, hS1, hlt, by omega, ?_, by have := hS.2.2.2.2; omega⟩
        rw [e, sgF_st (by rcases hp with hp | hp; exact Or.inr hp; exact Or.inl hp)]
      have stop : ¬ pk b n (sk b n h2) = 91 → ¬ pk b n (sk b n h2) = 46 → S = .inl (sk b n h2, h2, L', s, x) := fun a1 a2 => by
        rw [e, sgF, if_neg (fun w => w.elim a2 a1)]
      have back : ¬ pk b n (sk b n h2) = 91 → ¬ pk b n (sk b n h2) = 46 → (whole = true → sk b n h2 = h2) → ∃ k, k < 6 * (n + 1 - h2) + 5 ∧ some M = some M ∧ bI strict = bI strict ∧ bI whole = bI whole ∧ ∃ h q' c' L' s' x us' g, hdI us = hdI us' ∧ laI us = laI us' ∧ bI s = bI s' ∧ nI us.length = nI us'.length ∧ SGl M P b n (16 - f) t i q c L (sI t' M 5 (nI h2)) h q' c' L' x us' ∧ (((0 : Int32) = 1 ∧ k = 6 * (n + 1 - h) + 5 ∧ n < g + h ∧ S = sgF b n f (orN b n f) strict g (sk b n h) h L' s' x) ∨ ((0 : Int32) = 0 ∧ k = 0 ∧ S = .inl (sk b n h, h, L', s', x) ∧ (whole = true → sk b n h = h))) := fun a1 a2 hw => by
        refine ⟨0, by omega, rfl, rfl, rfl, h2, q', c', L', s, x, us, 0, rfl, rfl, rfl, rfl, ⟨hG.to (by omega) hhn h'.2.2.2.2.2.1.2, fun z => ?_, hS.2.2⟩, Or.inr ⟨rfl, rfl, stop a1 a2, hw⟩⟩
        obtain ⟨z1, z2, z3⟩ := hS.2.1 z
        exact ⟨z1, z2, z3.fr (fun v hv => ⟨(SQa.w (Or.inl (by omega))).1, fun _ => (SQa.w (Or.inl (by omega))).2⟩) (fun k _ _ => sI_at (by omega)) (Nat.le_refl _)⟩
      rw [e0]
      refine mqI hG1.1 (fun a1 => ⟨fun z => absurd z (by decide), fun _ => t90 (Or.inl a1)⟩) (fun a1 => ⟨fun _ => ⟨hG1.1.K, mqI hG1.1 (fun a2 => ⟨fun z => absurd z (by decide), fun _ => t90 (Or.inr a2)⟩) (fun a2 => ⟨fun _ => ⟨fun w0 => ⟨hG1.1.K, ?_⟩, fun w0 => ⟨hG1.1.K, fun w1 => ⟨hG1.1.K, ?_⟩, fun w1 => ⟨hG1.1.K, ?_⟩⟩⟩, fun z => absurd rfl z⟩)⟩, fun z => absurd rfl z⟩)
      · rw [sI_sI]; exact back a1 a2 (fun w => by rw [w] at w0; exact absurd w0 (by decide))
      · rw [sI_sI]
        refine back a1 a2 (fun _ => ?_)
        rw [sI_eq] at w1
        have := (nI_leI (a := sk b n h2) (b := h2) (by omega) (by omega)).mp w1
        omega
      · refine mqF hG1 (fun t2 hF => (k1 _ _ _ _ _ (stop a1 a2) rfl).1 (sb _ w0) (fun e2 => w1 ?_) t2 hF)
        rw [sI_eq, e2]; exact (nI_leI (by omega) (by omega)).mpr (Nat.le_refl _)
  · rintro m l3 l4 l5 l6 l7 l8 t' ⟨i1, q1, a, L1, s, x, us, g, rfl, rfl, rfl, hp, hA⟩
    have hA' := hA
    obtain ⟨rfl, rfl, rfl, hS, hi1, hg, e, ha⟩ := hA
    have hG := hS.1
    have h' := hG.1
    have ca : (nI a).toNatClampNeg = a := nI_clamp (by omega)
    have va : vp_in (nI a) 2400 := vin h' (by omega)
    refine ⟨h'.K, m181 h' (by omega) (fun t2 g1 g2 g3 => ⟨g1.1.K, Or.inr rfl, g1.1.K, ?_⟩)⟩
    have hG2 : GO M P b n [] t' i1 q1 a (sI t2 M 21 1) i1 q1 (a + 1) (16 - f) L1 := g1.I (Or.inr (Or.inr ⟨rfl, Or.inl rfl⟩))
    have p2 : NPt (sI t2 M 21 1) P a 0 := by
      obtain ⟨z1, z2, z3, z4, z5⟩ := g2
      exact ⟨(sI_at (by omega)).trans z1, (sI_at (by omega)).trans z2, (sI_at (by omega)).trans z3, (sI_at (by omega)).trans z4, (sI_at (by omega)).trans z5⟩
    have p21 : tI (sI t2 M 21 1) M 21 = 1 := sI_eq
    revert hG2 p2 p21
    generalize sI t2 M 21 1 = t3
    intro hG2 p2 p21
    refine mqI hG2.1 (fun a1 => ⟨fun z => absurd z (by decide), fun _ => ⟨hG2.1.K, onS hG2.1.r17 ⟨hG2.1.k14, hG2.1.K, ?_⟩⟩⟩) (fun a1 => ⟨fun _ => ⟨hG2.1.K, hG2.1.K, hG2.1.K, ?_⟩, fun z => absurd rfl z⟩)
    · have hq : sgQ b n f (orN b n f) strict i1 L1 = mkQ 0 (bkQ b n f (orN b n f) strict i1 L1) := by unfold sgQ; rw [if_pos a1]
      refine m190 (E := E) hf ih hG2.1 hi1 (by omega) p21 ⟨fun j L2 y s2 e2 t4 q2 c2 u us2 r1 r2 r3 r4 r5 r6 => onS hG2.1.a1.1 ?_, fun w p e2 t4 hF => k2 w p ?_ t4 (FQ.of (hG.trans hG2 (fun z hz => by cases hz)) hF)⟩
      · have h4 := r1.1
        have sq := r1.sq (z := a) (by omega)
        refine ⟨h4.a1.2.1, by rw [h4.a1.2.2]; exact va, 6 * (n + 1 - i1) + 2, by omega, rfl, rfl, rfl, i1, q1, a, L1, s, x, us, g, t', j, L2, _, _, rfl, rfl, rfl, rfl, hA', SGr.mk (dp := false) (hG2.trans r1 (fun z hz => by cases hz)) hP (by rw [ca]) ⟨(sq.1.1 1 (by omega)).trans p2.1, (sq.2 (by simp)).trans p2.2.2.2.1, (sq.1.1 5 (by omega)).trans p2.2.2.2.2⟩ r3 r5 r2 (by omega) (by omega) ?_⟩
        rw [hq, e2]; rfl
      · rw [e, hq, e2]; rfl
    · have a2 : pk b n i1 = 46 := hp.elim (fun w => absurd w a1) id
      rw [hG2.1.at, nI_1]
      have hq1 := hG2.1.2.2.2.2.2.1
      have hG3 : GO M P b n [] t' i1 q1 a (sI t3 M 5 (nI (i1 + 1))) (i1 + 1) q1 (a + 1) (16 - f) L1 := hG2.to (by omega) (by omega) (by omega)
      have p3 : NPt (sI t3 M 5 (nI (i1 + 1))) P a 0 := by
        obtain ⟨z1, z2, z3, z4, z5⟩ := p2
        exact ⟨(sI_at (by omega)).trans z1, (sI_at (by omega)).trans z2, (sI_at (by omega)).trans z3, (sI_at (by omega)).trans z4, (sI_at (by omega)).trans z5⟩
      have p31 : tI (sI t3 M 5 (nI (i1 + 1))) M 21 = 1 := (sI_at (by omega)).trans p21
      revert hG3 p3 p31
      generalize sI t3 M 5 (nI (i1 + 1)) = t4
      intro hG3 p3 p31
      have one : ¬ (strict = false ∧ pk b n (i1 + 1) = 46) → ∃ k, k < 6 * (n + 1 - i1) + 4 ∧ some M = some M ∧ bI strict = bI strict ∧ bI whole = bI whole ∧ ∃ i1' q1 a' L1 s' x us' g t1 dp p, bI s = bI s' ∧ (1 : Int32) = 1 ∧ k = 6 * (n + 1 - i1') + 3 ∧ nI a = nI a' ∧ SGa M P b n f strict t i q c L S (hdI us) (laI us) (nI us.length) t1 i1' q1 a' L1 s' x us' g ∧ GO M P b n [] t1 i1' q1 a' t4 p q1 (a' + 1) (16 - f) L1 ∧ p = i1' + 1 + (if dp then 1 else 0) ∧ (tI t4 (P + 1) a' = 0 ∧ tI t4 (P + 4) a' = -1 ∧ tI t4 (P + 5) a' = bI dp) ∧ tI t4 M 21 = 1 ∧ sgQ b n f (orN b n f) strict i1' L1 = (if dp = true ∧ pk b n p = 91 then mkQ 1 (bkQ b n f (orN b n f) false p L1) else mkQ (if dp then 1 else 0) (dtQ b n strict p L1)) := fun hno => by
        refine ⟨6 * (n + 1 - i1) + 3, by omega, rfl, rfl, rfl, i1, q1, a, L1, s, x, us, g, t', false, i1 + 1, rfl, rfl, rfl, rfl, hA', hG3, rfl, ⟨p3.1, p3.2.2.2.1, p3.2.2.2.2⟩, p31, ?_⟩
        unfold sgQ
        rw [if_neg a1, if_neg hno, if_neg (fun w => by cases w.1)]; rfl
      refine mqI hG3.1 (fun b1 => ⟨fun z => absurd z (by decide), fun _ => ⟨fun w0 => ⟨hG3.1.K, hG3.1.K, hG3.1.K, ?_⟩, fun w0 => one (fun w => by rw [w.1] at w0; exact absurd rfl w0)⟩⟩) (fun b1 => ⟨fun _ => one (fun w => b1 w.2), fun z => absurd rfl z⟩)
      have hlt2 := (pk_nn b1 (by decide)).1
      rw [hG3.1.at, nI_1]
      have hst := bI_0.mp w0
      have hG4 : GO M P b n [] t' i1 q1 a (sI t4 M 5 (nI (i1 + 2))) (i1 + 2) q1 (a + 1) (16 - f) L1 := hG3.to (by omega) (by omega) (by omega)
      refine onS hG4.1.r17 ⟨hG4.1.k14, onS hG4.1.a4.1 ⟨hG4.1.a4.2.1, by rw [hG4.1.a4.2.2]; exact va, 6 * (n + 1 - i1) + 3, by omega, rfl, rfl, rfl, i1, q1, a, L1, s, x, us, g, t', true, i1 + 2, rfl, rfl, rfl, rfl, hA', ?_, rfl, ⟨?_, ?_, ?_⟩, ?_, ?_⟩⟩
      · rw [ca]; exact hG4.I (Or.inl ⟨by omega, by omega, Or.inl (Nat.le_refl _)⟩)
      · rw [ca, sI_at (by omega), sI_at (by omega)]; exact p3.1
      · rw [ca, sI_at (by omega), sI_at (by omega)]; exact p3.2.2.2.1
      · rw [ca]; exact sI_eq
      · rw [sI_at (by omega), sI_at (by omega)]; exact p31
      · unfold sgQ
        rw [if_neg a1, if_pos ⟨hst, b1⟩]
        by_cases w : pk b n (i1 + 2) = 91
        · rw [if_pos w, if_pos ⟨rfl, w⟩]
        · rw [if_neg w, if_neg (fun z => w z.2)]; rfl
  · rintro m l3 l4 l5 l6 l7 l8 l9 t' ⟨i1, q1, a, L1, s, x, us, g, t1, dp, p, rfl, rfl, rfl, rfl, hA, hG, rfl, he, h21, hq⟩
    have hA' := hA
    obtain ⟨rfl, rfl, rfl, hS, hi1, hg, e, ha⟩ := hA
    have h' := hG.1
    have hG0 := hS.1
    have hpn := h'.2.1
    have ca : (nI a).toNatClampNeg = a := nI_clamp (by omega)
    have va : vp_in (nI a) 2400 := vin h' (by omega)
    have dp1 : (if dp then 1 else 0) ≤ 1 := by split <;> omega
    have e5 : tI t' (P + 5) a = bI dp := he.2.2
    -- a name
    have mem : ¬ (dp = true ∧ pk b n (i1 + 1 + (if dp then 1 else 0)) = 91) → ¬ (strict = false ∧ pk b n (i1 + 1 + (if dp then 1 else 0)) = 42) → CalG C mtab (E + 10) 191 [svR (some M)] t' (aftV (fun v10 t11 => rI v10 (fun x15 => onR (tR t' P 1) (fun a16 => tK t11 a16 = 101 ∧ vp_in (nI a) (tL t11 a16) ∧ ∃ k, k < 6 * (n + 1 - i1) + 3 ∧ some M = some M ∧ bI strict = bI strict ∧ bI whole = bI whole ∧ ∃ i1' q1 a' L1 s' x us' g t1 j2 L2 z s3, bI s = bI s' ∧ (1 : Int32) = 1 ∧ k = 6 * (n + 1 - i1') + 2 ∧ nI a = nI a' ∧ SGa M P b n f strict t i q c L S (hdI us) (laI us) (nI us.length) t1 i1' q1 a' L1 s' x us' g ∧ SGr M P b n f strict t1 i1' q1 a' L1 (sI t11 a16 (nI a).toNatClampNeg x15) j2 L2 z s3))) (fun k12 q13 t14 => Post (.inr (k12, q13)) t14)) := by
      intro n1 n2
      rw [if_neg n1] at hq
      unfold dtQ at hq
      rw [if_neg n2] at hq
      refine m191 h' (by omega) (fun cs j e2 t2 r1 r2 r3 r4 => onS h'.a1.1 ?_) (fun pp e2 t2 hF => k2 1 pp ?_ t2 (FQ.of (hG0.trans hG (fun z hz => by cases hz)) hF))
      · rw [e2] at hq
        have h2 := r1.1
        have sq := r1.sq (z := a) (by omega)
        refine ⟨h2.a1.2.1, by rw [h2.a1.2.2]; exact va, 6 * (n + 1 - i1) + 2, by omega, rfl, rfl, rfl, i1, q1, a, L1, s, x, us, g, t1, j, L1, _, _, rfl, rfl, rfl, rfl, hA', SGr.mk (dp := dp) (s2 := true) (us2 := []) (u := a + 1) (y := qP (qNam cs) qN) (hG.trans r1 (fun z hz => by cases hz)) hP (by rw [ca]) ⟨(sq.1.1 1 (by omega)).trans he.1, (sq.2 (by simp)).trans he.2.1, (sq.1.1 5 (by omega)).trans he.2.2⟩ (fun z => ⟨z, rfl, ?_⟩) (r4.trans h21) (by omega) (by omega) (by omega) hq⟩
        show QM t2 P (M + 3) 2400 (q1 + cs.length) (.append (qNam cs) .nil) 2 (rg (a + 1) (a + 1 + 1)) [a + 1]
        unfold QM
        rw [if_neg (by decide)]
        refine ⟨a + 1, [], rfl, rfl, r3.2.2, ⟨rg (a + 1) (a + 1 + 1), fun _ z => z, ⟨Nat.le_refl _, by omega⟩, (fun z hz => by cases hz), QM.mk (m := 2) (k := 1) (us := []) (F1 := fun _ => False) (by decide) (by decide) (by decide) ⟨Nat.le_refl _, by omega⟩ (fun _ z => z.elim) (fun z => z) ?_ (Or.inl rfl)⟩, by unfold QM; rfl⟩
        unfold HM
        rw [if_neg (by decide), if_pos rfl, if_pos rfl, unC_qC]
        exact ⟨r3.1, r3.2.1⟩
      · rw [e2] at hq
        rw [e, hq]; rfl
    -- brackets behind ..
    have brk : dp = true → pk b n (i1 + 1 + (if dp then 1 else 0)) = 91 → CalG C mtab (E + 10) 190 [svR (some M), svI (0 : Int32)] t' (aftV (fun v10 t11 => rI v10 (fun x15 => onR (tR t' P 1) (fun a16 => tK t11 a16 = 101 ∧ vp_in (nI a) (tL t11 a16) ∧ ∃ k, k < 6 * (n + 1 - i1) + 3 ∧ some M = some M ∧ bI strict = bI strict ∧ bI whole = bI whole ∧ ∃ i1' q1 a' L1 s' x us' g t1 j2 L2 z s3, bI s = bI s' ∧ (1 : Int32) = 1 ∧ k = 6 * (n + 1 - i1') + 2 ∧ nI a = nI a' ∧ SGa M P b n f strict t i q c L S (hdI us) (laI us) (nI us.length) t1 i1' q1 a' L1 s' x us' g ∧ SGr M P b n f strict t1 i1' q1 a' L1 (sI t11 a16 (nI a).toNatClampNeg x15) j2 L2 z s3))) (fun k12 q13 t14 => Post (.inr (k12, q13)) t14)) := by
      intro n1 n2
      rw [if_pos ⟨n1, n2⟩] at hq
      have hlt := (pk_nn n2 (by decide)).1
      refine m190 (E := E) (strict := false) hf ih h' hlt (by omega) h21 ⟨fun j L2 y s2 e2 t2 q2 c2 u us2 r1 r2 r3 r4 r5 r6 => onS h'.a1.1 ?_, fun w pp e2 t2 hF => k2 w pp ?_ t2 (FQ.of (hG0.trans hG (fun z hz => by cases hz)) hF)⟩
      · rw [e2] at hq
        have h2 := r1.1
        have sq := r1.sq (z := a) (by omega)
        refine ⟨h2.a1.2.1, by rw [h2.a1.2.2]; exact va, 6 * (n + 1 - i1) + 2, by omega, rfl, rfl, rfl, i1, q1, a, L1, s, x, us, g, t1, j, L2, _, _, rfl, rfl, rfl, rfl, hA', SGr.mk (dp := true) (s2 := s2) (us2 := us2) (u := u) (y := y) (hG.trans r1 (fun z hz => by cases hz)) hP (by rw [ca]) ⟨(sq.1.1 1 (by omega)).trans he.1, (sq.2 (by simp)).trans he.2.1, (sq.1.1 5 (by omega)).trans (he.2.2.trans (by rw [n1]))⟩ r3 r5 (by omega) (by omega) (by omega) hq⟩
      · rw [e2] at hq
        rw [e, hq]; rfl
    have rest : ¬ (strict = false ∧ pk b n (i1 + 1 + (if dp then 1 else 0)) = 42) → (tK t' M = 17 ∧ onR (tR t' M 17) (fun a7 => tK t' a7 = 14 ∧ onR (tR t' a7 4) (fun a8 => tK t' a8 = 101 ∧ vp_in (nI a) (tL t' a8) ∧ br ((tI t' a8 (nI a).toNatClampNeg) = (1 : Int32)) (tK t' M = 17 ∧ CalG C mtab (E + 10) 157 [svR (some M), svI (91 : Int32)] t' (aftV (fun v17 t18 => rI v17 (fun x22 => br (x22 = 0) (tK t18 M = 17 ∧ onR (tR t18 M 17) (fun a23 => tK t18 a23 = 14 ∧ tK t18 M = 17 ∧ CalG C mtab (E + 10) 191 [svR (some M)] t18 (aftV (fun v24 t25 => rI v24 (fun x29 => onR (tR t18 a23 1) (fun a30 => tK t25 a30 = 101 ∧ vp_in (nI a) (tL t25 a30) ∧ ∃ k, k < 6 * (n + 1 - i1) + 3 ∧ some M = some M ∧ bI strict = bI strict ∧ bI whole = bI whole ∧ ∃ i1' q1 a' L1 s' x us' g t1 j2 L2 z s3, bI s = bI s' ∧ (1 : Int32) = 1 ∧ k = 6 * (n + 1 - i1') + 2 ∧ nI a = nI a' ∧ SGa M P b n f strict t i q c L S (hdI us) (laI us) (nI us.length) t1 i1' q1 a' L1 s' x us' g ∧ SGr M P b n f strict t1 i1' q1 a' L1 (sI t25 a30 (nI a).toNatClampNeg x29) j2 L2 z s3))) (fun k26 q27 t28 => Post (.inr (k26, q27)) t28)))) (tK t18 M = 17 ∧ onR (tR t18 M 17) (fun a31 => tK t18 a31 = 14 ∧ tK t18 M = 17 ∧ CalG C mtab (E + 10) 190 [svR (some M), svI (0 : Int32)] t18 (aftV (fun v32 t33 => rI v32 (fun x37 => onR (tR t18 a31 1) (fun a38 => tK t33 a38 = 101 ∧ vp_in (nI a) (tL t33 a38) ∧ ∃ k, k < 6 * (n + 1 - i1) + 3 ∧ some M = some M ∧ bI strict = bI strict ∧ bI whole = bI whole ∧ ∃ i1' q1 a' L1 s' x us' g t1 j2 L2 z s3, bI s = bI s' ∧ (1 : Int32) = 1 ∧ k = 6 * (n + 1 - i1') + 2 ∧ nI a = nI a' ∧ SGa M P b n f strict t i q c L S (hdI us) (laI us) (nI us.length) t1 i1' q1 a' L1 s' x us' g ∧ SGr M P b n f strict t1 i1' q1 a' L1 (sI t33 a38 (nI a).toNatClampNeg x37) j2 L2 z s3))) (fun k34 q35 t36 => Post (.inr (k34, q35)) t36)))))) (fun k19 q20 t21 => Post (.inr (k19, q20)) t21))) (tK t' M = 17 ∧ onR (tR t' M 17) (fun a9 => tK t' a9 = 14 ∧ tK t' M = 17 ∧ CalG C mtab (E + 10) 191 [svR (some M)] t' (aftV (fun v10 t11 => rI v10 (fun x15 => onR (tR t' a9 1) (fun a16 => tK t11 a16 = 101 ∧ vp_in (nI a) (tL t11 a16) ∧ ∃ k, k < 6 * (n + 1 - i1) + 3 ∧ some M = some M ∧ bI strict = bI strict ∧ bI whole = bI whole ∧ ∃ i1' q1 a' L1 s' x us' g t1 j2 L2 z s3, bI s = bI s' ∧ (1 : Int32) = 1 ∧ k = 6 * (n + 1 - i1') + 2 ∧ nI a = nI a' ∧ SGa M P b n f strict t i q c L S (hdI us) (laI us) (nI us.length) t1 i1' q1 a' L1 s' x us' g ∧ SGr M P b n f strict t1 i1' q1 a' L1 (sI t11 a16 (nI a).toNatClampNeg x15) j2 L2 z s3))) (fun k12 q13 t14 => Post (.inr (k12, q13)) t14))))))) := by
      intro n2
      refine ⟨h'.K, onS h'.r17 ⟨h'.k14, onS h'.a4.1 ⟨h'.a4.2.1, by rw [h'.a4.2.2]; exact va, ?_⟩⟩⟩
      refine ⟨fun w => ⟨h'.K, ?_⟩, fun w => ⟨h'.K, onS h'.r17 ⟨h'.k14, h'.K, mem (fun z => ?_) n2⟩⟩⟩
      · rw [ca, e5] at w
        have hd : dp = true := sb dp (fun z => by rw [z] at w; exact absurd w (by decide))
        exact mqI h' (fun b1 => ⟨fun z => absurd z (by decide), fun _ => ⟨h'.K, onS h'.r17 ⟨h'.k14, h'.K, brk hd b1⟩⟩⟩) (fun b1 => ⟨fun _ => ⟨h'.K, onS h'.r17 ⟨h'.k14, h'.K, mem (fun z => b1 z.2) n2⟩⟩, fun z => absurd rfl z⟩)
      · rw [ca, e5, z.1] at w; exact w rfl
    refine ⟨h'.K, mqI h' (fun b1 => ⟨fun z => absurd z (by decide), fun _ => ⟨fun w0 => ⟨h'.K, h'.K, h'.K, ?_⟩, fun w0 => rest (fun w => by rw [w.1] at w0; exact absurd rfl w0)⟩⟩) (fun b1 => ⟨fun _ => rest (fun w => b1 w.2), fun z => absurd rfl z⟩)⟩
    have hst := bI_0.mp w0
    have hlt := (pk_nn b1 (by decide)).1
    rw [h'.at, nI_1]
    have hq1 := h'.2.2.2.2.2.1
    rw [if_neg (fun z => by rw [z.2] at b1; exact absurd b1 (by decide))] at hq
    unfold dtQ at hq
    have hsb : strict = false ∧ pk b n (i1 + 1 + (if dp then 1 else 0)) = 42 := ⟨hst, b1⟩
    rw [if_pos hsb] at hq
    have hG3 : GO M P b n [] t1 i1 q1 a (sI t' M 5 (nI (i1 + 1 + (if dp then 1 else 0) + 1))) (i1 + 1 + (if dp then 1 else 0) + 1) q1 (a + 1) (16 - f) L1 := hG.to (by omega) (by omega) (by omega)
    refine onS hG3.1.r17 ⟨hG3.1.k14, hG3.1.K, m181 hG3.1 (by omega) (fun t2 g1 g2 g3 => onS hG3.1.a1.1 ⟨g1.1.a1.2.1, by rw [g1.1.a1.2.2]; exact va, g1.1.K, Or.inl rfl, 6 * (n + 1 - i1) + 2, by omega, rfl, rfl, rfl, i1, q1, a, L1, s, x, us, g, t1, i1 + 1 + (if dp then 1 else 0) + 1, L1, qT (if dp then 1 else 0) (qP qAll qN), (false && ((if dp then 1 else 0) == 0)), rfl, rfl, rfl, rfl, hA', ?_⟩)⟩
    rw [ca]
    have sq := g1.sq (z := a) (by omega)
    refine SGr.mk (t' := sI t2 M 21 0) (dp := dp) (s2 := false) (us2 := []) (u := a + 1) (y := qP qAll qN) (q2 := q1) (c2 := a + 1 + 1) ((hG3.trans g1 (fun z hz => by cases hz)).I (Or.inr (Or.inr ⟨rfl, Or.inl rfl⟩))) hP (sI_cm (by omega)) ⟨?_, ?_, ?_⟩ (fun z => ⟨z, rfl, ?_⟩) sI_eq (by omega) (by omega) (by omega) hq
    · rw [sI_at (by omega), sq.1.1 1 (by omega), sI_at (by omega)]; exact he.1
    · rw [sI_at (by omega), sq.2 (by simp), sI_at (by omega)]; exact he.2.1
    · rw [sI_at (by omega), sq.1.1 5 (by omega), sI_at (by omega)]; exact he.2.2
    · show QM _ P (M + 3) 2400 q1 (.append qAll .nil) 2 (rg (a + 1) (a + 1 + 1)) [a + 1]
      unfold QM
      rw [if_neg (by decide)]
      refine ⟨a + 1, [], rfl, rfl, (sI_at (by omega)).trans g2.2.2.2.1, ⟨rg (a + 1) (a + 1 + 1), fun _ z => z, ⟨Nat.le_refl _, by omega⟩, (fun z hz => by cases hz), QM.mk (m := 2) (k := 2) (us := []) (F1 := fun _ => False) (by decide) (by decide) (by decide) ⟨Nat.le_refl _, by omega⟩ (fun _ z => z.elim) (fun z => z) ?_ (Or.inl rfl)⟩, by unfold QM; rfl⟩
      unfold HM
      rw [if_neg (by decide), if_pos rfl, if_neg (by decide), if_pos rfl]
      exact ⟨(sI_at (by omega)).trans g2.1, trivial⟩
  · rintro m l3 l4 l5 l6 l7 l8 l9 t' ⟨i1, q1, a, L1, s, x, us, g, t1, j2, L2, z, s3, rfl, rfl, rfl, rfl, hA, hR⟩
    have hR' := hR
    obtain ⟨q2, c2, u, us2, dp, y, s2, rfl, rfl, hG, he, hy, h21, hij, hac, hcb, hq⟩ := hR
    have h' := hG.1
    have hpc := h'.2.2.2.2.2.2.2
    have ca : (nI a).toNatClampNeg = a := nI_clamp (by omega)
    have va : vp_in (nI a) 2400 := vin h' (by omega)
    have out : ∀ l5 : Int32, l5 = bI (s && (s2 && ((if dp then 1 else 0) == 0))) → ∃ k, k < 6 * (n + 1 - i1) + 2 ∧ some M = some M ∧ bI strict = bI strict ∧ bI whole = bI whole ∧ ∃ i1' q1 a' L1 s' x us g t1 j2 L2 z s3, l5 = bI (s' && s3) ∧ (1 : Int32) = 1 ∧ k = 6 * (n + 1 - i1') + 1 ∧ nI a = nI a' ∧ SGa M P b n f strict t i q c L S l3 l4 l6 t1 i1' q1 a' L1 s' x us g ∧ SGr M P b n f strict t1 i1' q1 a' L1 t' j2 L2 z s3 := fun l5 hl => ⟨6 * (n + 1 - i1) + 1, by omega, rfl, rfl, rfl, i1, q1, a, L1, s, x, us, g, t1, j2, L2, _, _, hl, rfl, rfl, rfl, hA, hR'⟩
    refine ⟨fun w => out _ ?_, fun w => ⟨h'.K, fun w2 => out _ ?_, fun w2 => ⟨h'.K, onS h'.r17 ⟨h'.k14, onS h'.a4.1 ⟨h'.a4.2.1, by rw [h'.a4.2.2]; exact va, ?_⟩⟩⟩⟩⟩
    · rw [bI_0.mp w]; rfl
    · rw [h21] at w2
      rw [bI_0.mp w2]; cases s <;> rfl
    · rw [ca, he.2.2.2]
      rw [h21] at w2
      have e1 := sb _ w
      have e2 := sb _ w2
      refine ⟨fun w3 => out _ ?_, fun w3 => out _ ?_⟩
      · rw [e1, e2, bI_0.mp w3]; rfl
      · rw [e1, e2, sb _ w3]; rfl
  · rintro m l3 l4 l5 l6 l7 l8 l9 t' ⟨i1, q1, a, L1, s, x, us, g, t1, j2, L2, z, s3, rfl, rfl, rfl, rfl, hA, hR⟩
    obtain ⟨rfl, rfl, rfl, hS, hi1, hg, e, ha⟩ := hA
    have hR' := hR
    obtain ⟨q2, c2, u, us2, dp, y, s2, hz, hs3, hG, he, hy, h21, hij, hac, hcb, hq⟩ := hR'
    have h' := hG.1
    have hpc := h'.2.2.2.2.2.2.2
    have hsz : ∀ w ∈ us, w < 2400 := fun w hw => by have := hS.2.2.2.1 w hw; omega
    rw [hq] at e
    have hjn := h'.2.1
    refine ⟨fun w => ?_, fun w => ⟨h'.K, onS h'.r17 ⟨h'.k14, onS h'.a3.1 ⟨h'.a3.2.1, ?_, ?_⟩⟩⟩⟩
    · have hus := (hdI_no hsz).mp w
      subst hus
      obtain ⟨q3, c3, hN⟩ := hS.next hR (t2 := t') rfl
      exact ⟨6 * (n + 1 - j2) + 5, by omega, rfl, rfl, rfl, j2, q3, c3, L2, s && s3, qApp x z, [a], g, rfl, rfl, rfl, rfl, hN, Or.inl ⟨rfl, rfl, by omega, e⟩⟩
    · have hne : us ≠ [] := fun z => w ((hdI_no hsz).mpr z)
      obtain ⟨la, hla⟩ : ∃ la, us.getLast? = some la := by
        cases hc : us.getLast? with
        | none => rw [List.getLast?_eq_none_iff] at hc; exact absurd hc hne
        | some w => exact ⟨w, rfl⟩
      have hlt := hsz la (List.mem_of_getLast? hla)
      rw [h'.a3.2.2, laI, hla]
      exact vin h' hlt
    · have hne : us ≠ [] := fun z => w ((hdI_no hsz).mpr z)
      obtain ⟨la, hla⟩ : ∃ la, us.getLast? = some la := by
        cases hc : us.getLast? with
        | none => rw [List.getLast?_eq_none_iff] at hc; exact absurd hc hne
        | some w => exact ⟨w, rfl⟩
      have hlt := hsz la (List.mem_of_getLast? hla)
      have cl : (laI us).toNatClampNeg = la := by rw [laI, hla]; exact nI_clamp (by omega)
      rw [cl]
      obtain ⟨q3, c3, hN⟩ := hS.next hR (t2 := sI t' (P + 4) la (nI a)) (by rw [hla])
      refine ⟨6 * (n + 1 - j2) + 5, by omega, rfl, rfl, rfl, j2, q3, c3, L2, s && s3, qApp x z, us ++ [a], g, (hdI_app hne).symm, ?_, rfl, ?_, hN, Or.inl ⟨rfl, rfl, by omega, e⟩⟩
      · unfold laI; simp; rfl
      · rw [nI_1]; simp
end MQ8
