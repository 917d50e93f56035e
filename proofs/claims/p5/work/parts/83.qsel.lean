/-! SELECTORS, by the component -/
def OKx (t : Ht) (a : Nat) (x : QF) : Prop := ∃ kd sg, OK t a kd sg ∧ isCmp x = isCk kd sg ∧ isLit x = decide (kd = 3) ∧ isFun x = isFk kd ∧ isPth x = decide (kd = 4)
def KS (C : Cx) (qr r tp ch : Nat) (b : By) (n o : Nat) (t : Ht) (i : Nat) (L : LT) (sp : Qs) (Post : OutT → Ht → Prop) : Prop :=
  (∀ j L' x, sp = .inl (j, L', x) → ∀ t', CQ t' qr r tp ch b n j o L' → QX qr r ch t t' → (L'.1 = 0 → L.1 = 0 ∧ isTg x = true ∧ QR C t' x 2 [] (rg (tN t) (tN t')) [tN t] false) → SK t' (tN t) x → tN t < tN t' → i < j → BG t t' (j - i) 30 400 → Post (.inl (some (svR (some (tN t))))) t') ∧
  (∀ w p, sp = .inr (w, p) → ∀ t', QD qr r ch t t' w p → BG t t' (n + 1 - i) 30 400 → Post (.inr (200, 0)) t')
def KO (C : Cx) (qr r tp ch : Nat) (b : By) (n o : Nat) (t : Ht) (i : Nat) (L : LT) (sp : Qs) (Post : OutT → Ht → Prop) : Prop :=
  (∀ j L' x, sp = .inl (j, L', x) → ∀ t' a, CQ t' qr r tp ch b n j o L' → QX qr r ch t t' → (L'.1 = 0 → L.1 = 0 ∧ QR C t' x 7 [] (rg (tN t) (tN t')) [a] false) → OKx t' a x → isTg x = true → (tN t ≤ a ∧ a < tN t' ∧ tI t' a 1 = nI i) → i < j → BG t t' (j - i) 34 450 → Post (.inl (some (svR (some a)))) t') ∧
  (∀ w p, sp = .inr (w, p) → ∀ t', QD qr r ch t t' w p → BG t t' (n + 1 - i) 34 450 → Post (.inr (200, 0)) t')
def KFm (C : Cx) (qr r tp ch : Nat) (b : By) (n o rc rs : Nat) (t : Ht) (i : Nat) (L : LT) (sp : Qs) (Post : OutT → Ht → Prop) : Prop :=
  (∀ j L' x, sp = .inl (j, L', x) → ∀ t' a, CQ t' qr r tp ch b n j o L' → QX qr r ch t t' → (L'.1 = 0 → L.1 = 0 ∧ isTg x = true ∧ QR C t' x 3 [] (rg (tN t) (tN t')) [a] false) → (tK t' a = 11 ∧ tN t ≤ a ∧ a < tN t') → i < j → BG t t' (j - i) rc rs → Post (.inl (some (svR (some a)))) t') ∧
  (∀ w p, sp = .inr (w, p) → ∀ t', QD qr r ch t t' w p → BG t t' (n + 1 - i) rc rs → Post (.inr (200, 0)) t')
def KA (C : Cx) (qr r tp ch : Nat) (b : By) (n o : Nat) (t : Ht) (i : Nat) (L : LT) (sp : (Nat × LT × QF × Bool) ⊕ (Nat × Nat)) (Post : OutT → Ht → Prop) : Prop :=
  (∀ j L' x lg, sp = .inl (j, L', x, lg) → ∀ t' a, CQ t' qr r tp ch b n j o L' → QX qr r ch t t' → (L'.1 = 0 → L.1 = 0) → (lg = false → isTg x = true ∧ OKx t' a x ∧ (L'.1 = 0 → QR C t' x 7 [] (rg (tN t) (tN t')) [a] false)) → (lg = true → tI t' a 0 = 9) → (tK t' a = 11 ∧ tN t ≤ a ∧ a < tN t') → i < j → BG t t' (j - i) 20 200 → Post (.inl (some (svR (some a)))) t') ∧
  (∀ w p, sp = .inr (w, p) → ∀ t', QD qr r ch t t' w p → BG t t' (n + 1 - i) 20 200 → Post (.inr (200, 0)) t')
def P63 (C : Cx) (qr r tp ch : Nat) (b : By) (n D f : Nat) : Prop := ∀ (Post : OutT → Ht → Prop) (t : Ht) (i : Nat) (L : LT), CQ t qr r tp ch b n i (16 - f) L → KFm C qr r tp ch b n (16 - f) 20 200 t i L ((leQ b n f).1 i L) Post → CalG C mtab D 63 [svR (some qr), svR none] t Post
def P79 (C : Cx) (qr r tp ch : Nat) (b : By) (n D f : Nat) : Prop := ∀ (Post : OutT → Ht → Prop) (t : Ht) (i : Nat) (L : LT), CQ t qr r tp ch b n i (16 - f) L → KA C qr r tp ch b n (16 - f) t i L ((leQ b n f).2 i L) Post → CalG C mtab D 79 [svR (some qr)] t Post
theorem sIK {t : Ht} {a k : Nat} {x : Int32} : tK (sI t a k x) = tK t := rfl
theorem sIN {t : Ht} {a k : Nat} {x : Int32} : tN (sI t a k x) = tN t := rfl
theorem sIU {t : Ht} {a k : Nat} {x : Int32} : tU (sI t a k x) = tU t := rfl
theorem sIJ {t : Ht} {a k : Nat} {x : Int32} : tJ (sI t a k x) = tJ t := rfl
theorem sIR {t : Ht} {a k : Nat} {x : Int32} : tR (sI t a k x) = tR t := rfl
section QSE
variable {C : Cx} {d E : Nat} {Post : OutT → Ht → Prop} {t t' : Ht} {qr r tp ch : Nat} {b : By} {n i o f : Nat} {L : LT}
/-- a slice's cell -/
def SCl (t : Ht) (a : Nat) (x1 : Int32) (x2 : Int64) (he : Bool) (e : Int64) (st : Int64) : Prop := tK t a = 10 ∧ tI t a 0 = 3 ∧ tI t a 2 = x1 ∧ tI t a 3 = bI he ∧ tJ t a 4 = x2 ∧ (he = true → tJ t a 5 = e) ∧ tJ t a 6 = st
theorem SCl.eq {a : Nat} {x1 : Int32} {x2 e st : Int64} {he : Bool} (h : SCl t a x1 x2 he e st) (hs : sameAt t t' a) : SCl t' a x1 x2 he e st := by
  obtain ⟨h1, h2, h3, h4, h5, h6, h7⟩ := h
  exact ⟨hs.1.trans h1, (hs.2.2.1 0).trans h2, (hs.2.2.1 2).trans h3, (hs.2.2.1 3).trans h4, (hs.2.2.2.1 4).trans h5, fun z => (hs.2.2.2.1 5).trans (h6 z), (hs.2.2.2.1 6).trans h7⟩
theorem SCl.q {a : Nat} {F : Nat → Prop} {x1 : Int32} {x2 e st : Int64} {he : Bool} {p q s : Option (Bool × Nat)} (h : SCl t a x1 x2 he e st) (hp : x1 = bI p.isSome) (hp2 : ∀ m N, p = some (m, N) → x2 = sgR m N) (hq : he = q.isSome) (hq2 : ∀ m N, q = some (m, N) → e = sgR m N) (hs : s = none → st = 1) (hs2 : ∀ m N, s = some (m, N) → st = sgR m N) (hF : F a) : QR C t (qSli p q s) 2 [] F [a] false := by
  obtain ⟨g1, g2, g3, g4, g5, g6, g7⟩ := h
  refine QR.mk (k := 4) (us := []) (av' := []) (F1 := fun _ => False) (by decide) (by decide) hF (fun _ z => z.elim) ?_ (Or.inl rfl)
  unfold HL
  rw [if_neg (by decide), if_neg (by decide), if_pos rfl, if_neg (by decide), if_neg (by decide), if_neg (by decide), if_pos rfl]
  have un : ∀ o : Option (Bool × Nat), unO (qOpt o) = o.map (fun z => sgR z.1 z.2) := fun o => by
    cases o with
    | none => rfl
    | some z => obtain ⟨m, N⟩ := z; show some (unI (qI m N)) = _; rw [unI_qI]; rfl
  refine ⟨g1, g2, ?_⟩
  show tI t a 2 = bI (unO (qOpt p)).isSome ∧ tI t a 3 = bI (unO (qOpt q)).isSome ∧ (∀ z, unO (qOpt p) = some z → tJ t a 4 = z) ∧ (∀ z, unO (qOpt q) = some z → tJ t a 5 = z) ∧ tJ t a 6 = (unO (qOpt s)).getD 1
  rw [un, un, un]
  refine ⟨?_, ?_, fun z hz => ?_, fun z hz => ?_, ?_⟩
  · rw [g3, hp]; cases p <;> rfl
  · rw [g4, hq]; cases q <;> rfl
  · cases p with
    | none => cases hz
    | some y => obtain ⟨m, N⟩ := y; injection hz with hz; rw [g5, hp2 m N rfl]; exact hz
  · cases q with
    | none => cases hz
    | some y => obtain ⟨m, N⟩ := y; injection hz with hz; rw [g6 hq, hq2 m N rfl]; exact hz
  · cases s with
    | none => rw [g7, hs rfl]; rfl
    | some y => obtain ⟨m, N⟩ := y; rw [g7, hs2 m N rfl]; rfl
theorem skQ {a : Nat} {x1 : Int32} {x2 e st : Int64} {he : Bool} {p q s : Option (Bool × Nat)} (h : SCl t a x1 x2 he e st) : SK t a (qSli p q s) := ⟨h.1, 3, h.2.1, by omega, rfl⟩
theorem inQ_lt {mz : Bool} {j : Nat} {L' : LT} {m : Bool} {N : Nat} (h : inQ b n mz i L = .inl (j, L', m, N)) : (L'.1 = 0 → L.1 = 0) := by
  unfold inQ at h
  split at h
  · cases h
  · injection h with h
    injection h with q1 h
    injection h with q2 h
    intro z
    rw [← q2] at z
    split at z
    · unfold noteL at z
      split at z
      · cases z
      · exact z
    · exact z
set_option maxHeartbeats 1000000 in
/-- readSlice -/
theorem q61 {p : Option (Bool × Nat)} {x1 : Int32} {x2 : Int64} (h : CQ t qr r tp ch b n i o L) (hi : pk b n i = 58) (hx1 : x1 = bI p.isSome) (hx2 : L.1 = 0 → ∀ m N, p = some (m, N) → x2 = sgR m N) (kk : KS C qr r tp ch b n o t i L (slQ b n p i L) Post) : CalG C mtab (d + 5) 61 [svR (some qr), svI x1, svJ x2] t Post := by
  obtain ⟨k1, k2⟩ := kk
  have hlt := (pk_nn hi (by decide)).1
  have hn : n ≤ 1200 := h.1.1.2.2.2.2.2.2.1
  obtain ⟨n1, n2, n3, n4, n5, n6⟩ := h.ne
  have hqN := h.2.2.2.1
  have hrN := h.1.2.2.2.2.2.1
  have hcN := h.1.2.2.2.2.1

  have fin : ∀ (t5 t6 : Ht) (he : Bool) (e st : Int64) (j : Nat) (L1 : LT) (q s : Option (Bool × Nat)), CQ t5 qr r tp ch b n j o L1 → QX qr r ch t t5 → tN t5 = tN t + 1 → tU t5 = tU t + 8 → tN t6 = tN t5 → tU t6 = tU t5 → (∀ x, x ≠ tN t → sameAt t5 t6 x) → SCl t6 (tN t) x1 x2 he e st → slQ b n p i L = .inl (j, L1, qSli p q s) → (L1.1 = 0 → L.1 = 0 ∧ he = q.isSome ∧ (∀ m N, q = some (m, N) → e = sgR m N) ∧ (s = none → st = 1) ∧ (∀ m N, s = some (m, N) → st = sgR m N)) → i < j → Post (.inl (some (svR (some (tN t))))) t6 := by
    intro t5 t6 he e st j L1 q s hC hX hN hU hN6 hU6 hs hS hsp hL hij
    refine k1 j L1 _ hsp t6 (hC.old (by omega) (fun x x1 x2 => hs x (by rcases x2 with rfl | rfl | rfl | rfl <;> first | omega | (have := h.1.2.2.2.2.2.2; omega)))) (hX.up (by omega) (fun x hx => hs x (by omega))) (fun z => ?_) (skQ hS) (by omega) hij ⟨by omega, by omega⟩
    obtain ⟨z1, z2, z3, z4, z5⟩ := hL z
    exact ⟨z1, rfl, hS.q hx1 (hx2 z1) z2 z3 z4 z5 ⟨Nat.le_refl _, by omega⟩⟩

  have tail : ∀ (t5 : Ht) (he : Bool) (e : Int64) (j : Nat) (L1 : LT) (q : Option (Bool × Nat)), CQ t5 qr r tp ch b n j o L1 → QX qr r ch t t5 → tN t5 = tN t + 1 → tU t5 = tU t + 8 → SCl t5 (tN t) x1 x2 he e 1 → (L1.1 = 0 → L.1 = 0 ∧ he = q.isSome ∧ (∀ m N, q = some (m, N) → e = sgR m N)) → i < j →
      slQ b n p i L = slT b n p q j L1 →
      CalG C mtab (d + 4) 85 [svR (some r)] t5 (aftV (fun v21 t22 => rI v21 (fun x26 => br (x26 = (58 : Int32)) (tK t22 qr = 6 ∧ onR (tR t22 qr 0) (fun a27 => tK t22 a27 = 7 ∧ onR (tR t22 qr 0) (fun a28 => tK t22 a28 = 7 ∧ tK (sI t22 a28 4 ((tI t22 a27 4) + (1 : Int32))) qr = 6 ∧ onR (tR (sI t22 a28 4 ((tI t22 a27 4) + (1 : Int32))) qr 0) (fun a29 => tK (sI t22 a28 4 ((tI t22 a27 4) + (1 : Int32))) a29 = 7 ∧ CalG C mtab (d + 4) 87 [svR (some a29)] (sI t22 a28 4 ((tI t22 a27 4) + (1 : Int32))) (aftV (fun v30 t31 => v30 = none ∧ tK t31 qr = 6 ∧ CalG C mtab (d + 4) 53 [svR (some qr)] t31 (aftV (fun v35 t36 => rI v35 (fun x40 => br (x40 = 0) (tK t36 (tN t) = 10 ∧ Post (.inl (some (svR (some (tN t))))) (sJ t36 (tN t) 6 (1 : Int64))) (tK t36 qr = 6 ∧ CalG C mtab (d + 4) 52 [svR (some qr), svI (0 : Int32)] t36 (aftV (fun v41 t42 => rJ v41 (fun x46 => tK t42 (tN t) = 10 ∧ Post (.inl (some (svR (some (tN t))))) (sJ t42 (tN t) 6 x46))) (fun k43 q44 t45 => Post (.inr (k43, q44)) t45))))) (fun k37 q38 t39 => Post (.inr (k37, q38)) t39))) (fun k32 q33 t34 => Post (.inr (k32, q33)) t34)))))) (Post (.inl (some (svR (some (tN t))))) t22))) (fun k23 q24 t25 => Post (.inr (k23, q24)) t25)) := by
    intro t5 he e j L1 q hC hX hN hU hS hL hij hsp
    unfold slT at hsp
    have hv := hC.2.2.1
    have hK := hC.1.1.1
    have hjn := hC.2.1
    refine r85 hC.1.1 ⟨fun e58 => ⟨hv.1, ?_⟩, fun e58 => ?_⟩
    · rw [if_pos e58] at hsp
      have hl2 := (pk_nn e58 (by decide)).1
      have hs := sk_le (b := b) (n := n) (i := j + 1) (by omega)
      have slo := sk_lo (b := b) (n := n) (i := j + 1)
      have hC1 := hC.to (j := j + 1) (by omega)
      have hC2 := hC.to hs
      rw [hv.2.1]
      refine ⟨hK, hK, hv.1, ?_⟩
      rw [hC.1.1.2.2.2.2.2.1, nI_1, hC.in]
      refine ⟨hK, r87 hC1.1.1 hC1.2.1 ⟨rfl, hv.1, ?_⟩⟩
      rw [sI_sI]
      have sa : sameAt t5 (sI t5 r 4 (nI (sk b n (j + 1)))) (tN t) := sameAt_sI (by omega)
      have hX2 : QX qr r ch t (sI t5 r 4 (nI (sk b n (j + 1)))) := hX.trans (QX.rx (RX.I (Or.inr rfl)))
      have hS2 := hS.eq sa
      have c1 : tN (sI t5 r 4 (nI (sk b n (j + 1)))) = tN t + 1 := hN
      have c2 : tU (sI t5 r 4 (nI (sk b n (j + 1)))) = tU t + 8 := hU
      revert hC2 hX2 hS2 c1 c2
      generalize sI t5 r 4 (nI (sk b n (j + 1))) = t6
      intro hC2 hX2 hS2 c1 c2
      refine q53 hC2 ?_
      cases hai : atInt b n (sk b n (j + 1)) with
      | false =>
        rw [hai, if_neg (by decide)] at hsp
        refine ⟨fun _ => ⟨hS2.1, ?_⟩, fun z => absurd rfl z⟩
        refine fin t6 _ he e 1 (sk b n (j + 1)) L1 q none hC2 hX2 c1 c2 rfl rfl (fun x hx => sameAt_sJ hx) ?_ hsp (fun z => ?_) (by omega)
        · obtain ⟨z1, z2, z3, z4, z5, z6, z7⟩ := hS2
          exact ⟨z1, z2, z3, z4, (sJ_at (by omega)).trans z5, fun y => (sJ_at (by omega)).trans (z6 y), sJ_eq⟩
        · obtain ⟨z1, z2, z3⟩ := hL z
          exact ⟨z1, z2, z3, fun _ => rfl, fun m N y => by cases y⟩
      | true =>
        rw [hai, if_pos rfl] at hsp
        refine ⟨fun z => absurd z (by decide), fun _ => ⟨hC2.2.2.1.1, ?_⟩⟩
        refine q52 (mz := false) hC2 (fun k L2 m N e2 hlt2 t7 hC3 hX3 g1 g2 g3 => ?_) (fun w pp e2 t7 hD hB => ?_)
        · rw [e2] at hsp
          have sa2 := hX3.same (x := tN t) (by omega) (by omega) (by omega) (by omega)
          have hS3 := hS2.eq sa2
          refine ⟨hS3.1, fin t7 _ he e (sgC m N) k L2 q (some (m, N)) hC3 (hX2.trans hX3) (by omega) (by omega) rfl rfl (fun x hx => sameAt_sJ hx) ?_ hsp (fun z => ?_) (by omega)⟩
          · obtain ⟨z1, z2, z3, z4, z5, z6, z7⟩ := hS3
            exact ⟨z1, z2, z3, z4, (sJ_at (by omega)).trans z5, fun y => (sJ_at (by omega)).trans (z6 y), sJ_eq⟩
          · obtain ⟨z1, z2, z3⟩ := hL (inQ_lt e2 z)
            refine ⟨z1, z2, z3, fun y => (by cases y), fun m' N' y => ?_⟩
            injection y with y
            injection y with y1 y2
            subst y1 y2
            exact sgC_R (g3 z)
        · rw [e2] at hsp
          refine k2 w pp hsp t7 (QD.of hX2 hD) ?_
          unfold BG at hB ⊢
          omega
    · rw [if_neg e58] at hsp
      refine fin t5 t5 he e 1 j L1 q none hC hX hN hU rfl rfl (fun _ _ => sameAt.rfl') hS hsp (fun z => ?_) hij
      obtain ⟨z1, z2, z3⟩ := hL z
      exact ⟨z1, z2, z3, fun _ => rfl, fun m N y => by cases y⟩
  refine cal61 ?_
  unfold vc61
  refine q109 (k := 3) (fun t2 hF => ⟨rfl, ?_⟩)
  obtain ⟨f1, ⟨f2, f3⟩, f4, f5, f6, f7, f8⟩ := hF
  have hC2 : CQ t2 qr r tp ch b n i o L := h.old (by omega) (fun x hx _ => f1 x hx)
  have hX2 : QX qr r ch t t2 := QX.of (by omega) f1
  have hx01 : x1 = 0 ∨ x1 = 1 := by rw [hx1]; cases p.isSome <;> simp [bI]
  have hv2 := hC2.2.2.1
  have hK2 := hC2.1.1.1
  refine ⟨f4, hx01, f4, hv2.1, ?_⟩

  have hC3 : CQ (sJ (sI t2 (tN t) 2 x1) (tN t) 4 x2) qr r tp ch b n i o L := hC2.old (Nat.le_refl _) (fun x _ hx => (sameAt_sI (by rcases hx with rfl | rfl | rfl | rfl <;> first | omega | (have := h.1.2.2.2.2.2.2; omega))).trans (sameAt_sJ (by rcases hx with rfl | rfl | rfl | rfl <;> first | omega | (have := h.1.2.2.2.2.2.2; omega))))
  have hX3 : QX qr r ch t (sJ (sI t2 (tN t) 2 x1) (tN t) 4 x2) := hX2.up (by show tN t ≤ tN t2; omega) (fun x hx => (sameAt_sI (by omega)).trans (sameAt_sJ (by omega)))
  have hS3 : SCl (sJ (sI t2 (tN t) 2 x1) (tN t) 4 x2) (tN t) x1 x2 false 0 1 := by
    refine ⟨f4, ?_, ?_, ?_, sJ_eq, fun z => (by cases z), ?_⟩
    · show tI (sI t2 (tN t) 2 x1) (tN t) 0 = 3; rw [sI_at (by omega)]; exact f5
    · show tI (sI t2 (tN t) 2 x1) (tN t) 2 = x1; exact sI_eq
    · show tI (sI t2 (tN t) 2 x1) (tN t) 3 = 0; rw [sI_at (by omega)]; exact f7
    · rw [sJ_at (by omega)]; exact f8
  have c1 : tN (sJ (sI t2 (tN t) 2 x1) (tN t) 4 x2) = tN t + 1 := f2
  have c2 : tU (sJ (sI t2 (tN t) 2 x1) (tN t) 4 x2) = tU t + 8 := f3
  revert hC3 hX3 hS3 c1 c2
  generalize sJ (sI t2 (tN t) 2 x1) (tN t) 4 x2 = t3
  intro hC3 hX3 hS3 c1 c2
  have hv3 := hC3.2.2.1
  have hK3 := hC3.1.1.1
  have hs := sk_le (b := b) (n := n) (i := i + 1) (by omega)
  have slo := sk_lo (b := b) (n := n) (i := i + 1)
  have hC4 := hC3.to (j := i + 1) (by omega)
  have hC5 := hC3.to hs
  rw [hv3.2.1]
  refine ⟨hK3, hK3, hv3.1, ?_⟩
  rw [hC3.1.1.2.2.2.2.2.1, nI_1, hC3.in]
  refine ⟨hK3, r87 hC4.1.1 hC4.2.1 ⟨rfl, hv3.1, ?_⟩⟩
  rw [sI_sI]
  have sa : sameAt t3 (sI t3 r 4 (nI (sk b n (i + 1)))) (tN t) := sameAt_sI (by omega)
  have hX5 : QX qr r ch t (sI t3 r 4 (nI (sk b n (i + 1)))) := hX3.trans (QX.rx (RX.I (Or.inr rfl)))
  have hS5 := hS3.eq sa
  have c3 : tN (sI t3 r 4 (nI (sk b n (i + 1)))) = tN t + 1 := c1
  have c4 : tU (sI t3 r 4 (nI (sk b n (i + 1)))) = tU t + 8 := c2
  revert hC5 hX5 hS5 c3 c4
  generalize sI t3 r 4 (nI (sk b n (i + 1))) = t5
  intro hC5 hX5 hS5 c3 c4
  have hv5 := hC5.2.2.1
  have hK5 := hC5.1.1.1
  refine q53 hC5 ?_
  cases hai : atInt b n (sk b n (i + 1)) with
  | false =>
    refine ⟨fun _ => ⟨hv5.1, ?_⟩, fun z => absurd rfl z⟩
    rw [hv5.2.1]
    refine ⟨hK5, tail t5 false 0 (sk b n (i + 1)) L none hC5 hX5 c3 c4 hS5 (fun z => ⟨z, rfl, fun m N y => by cases y⟩) (by omega) ?_⟩
    unfold slQ
    rw [hai]; exact if_neg (by decide)
  | true =>
    refine ⟨fun z => absurd z (by decide), fun _ => ⟨hS5.1, Or.inr rfl, (by rw [sIK]; exact hv5.1), ?_⟩⟩
    generalize ho6 : sI t5 (tN t) 3 1 = t6
    have hsm : ∀ x, x ≠ tN t → sameAt t5 t6 x := fun x hx => by rw [← ho6]; exact sameAt_sI hx
    have c5 : tN t6 = tN t + 1 := by rw [← ho6, sIN]; exact c3
    have c6 : tU t6 = tU t + 8 := by rw [← ho6, sIU]; exact c4
    have hC6 : CQ t6 qr r tp ch b n (sk b n (i + 1)) o L := hC5.old (by omega) (fun x _ hx => hsm x (by rcases hx with rfl | rfl | rfl | rfl <;> first | omega | (have := h.1.2.2.2.2.2.2; omega)))
    have hX6 : QX qr r ch t t6 := hX5.up (by omega) (fun x hx => hsm x (by omega))
    have h60 : tI t6 (tN t) 0 = 3 ∧ tI t6 (tN t) 2 = x1 ∧ tI t6 (tN t) 3 = 1 := by
      rw [← ho6]
      exact ⟨(sI_at (by omega)).trans hS5.2.1, (sI_at (by omega)).trans hS5.2.2.1, sI_eq⟩
    have h61 : tJ t6 (tN t) 4 = x2 ∧ tJ t6 (tN t) 6 = 1 ∧ tK t6 (tN t) = 10 := by
      rw [← ho6, sIJ, sIK]
      exact ⟨hS5.2.2.2.2.1, hS5.2.2.2.2.2.2, hS5.1⟩
    clear ho6
    refine q52 (mz := false) hC6 (fun j L2 m N e2 hlt2 t7 hC7 hX7 g1 g2 g3 => ?_) (fun w pp e2 t7 hD hB => ?_)
    · have sa2 := hX7.same (x := tN t) (by omega) (by omega) (by omega) (by omega)
      have hC8 : CQ (sJ t7 (tN t) 5 (sgC m N)) qr r tp ch b n j o L2 := hC7.old (Nat.le_refl _) (fun x _ hx => sameAt_sJ (by rcases hx with rfl | rfl | rfl | rfl <;> first | omega | (have := h.1.2.2.2.2.2.2; omega)))
      have hX8 : QX qr r ch t (sJ t7 (tN t) 5 (sgC m N)) := (hX6.trans hX7).up (by show tN t ≤ tN t7; omega) (fun x hx => sameAt_sJ (by omega))
      have hS8 : SCl (sJ t7 (tN t) 5 (sgC m N)) (tN t) x1 x2 true (sgC m N) 1 := ⟨sa2.1.trans h61.2.2, (sa2.2.2.1 0).trans h60.1, (sa2.2.2.1 2).trans h60.2.1, (sa2.2.2.1 3).trans h60.2.2, (sJ_at (by omega)).trans ((sa2.2.2.2.1 4).trans h61.1), fun _ => sJ_eq, (sJ_at (by omega)).trans ((sa2.2.2.2.1 6).trans h61.2.1)⟩
      have c7 : tN (sJ t7 (tN t) 5 (sgC m N)) = tN t + 1 := by show tN t7 = _; omega
      have c8 : tU (sJ t7 (tN t) 5 (sgC m N)) = tU t + 8 := by show tU t7 = _; omega
      refine ⟨hS8.1, hC8.2.2.1.1, ?_⟩
      revert hC8 hX8 hS8 c7 c8
      generalize sJ t7 (tN t) 5 (sgC m N) = t8
      intro hC8 hX8 hS8 c7 c8
      have hv8 := hC8.2.2.1
      have hK8 := hC8.1.1.1
      have hs2 := sk_le (b := b) hC8.2.1
      have slo2 := sk_lo (b := b) (n := n) (i := j)
      rw [hv8.2.1]
      refine ⟨hK8, r87 hC8.1.1 hC8.2.1 ⟨rfl, hv8.1, ?_⟩⟩
      have hC9 := hC8.to hs2
      have sa3 : sameAt t8 (sI t8 r 4 (nI (sk b n j))) (tN t) := sameAt_sI (by omega)
      have hX9 : QX qr r ch t (sI t8 r 4 (nI (sk b n j))) := hX8.trans (QX.rx (RX.I (Or.inr rfl)))
      have hS9 := hS8.eq sa3
      have c9 : tN (sI t8 r 4 (nI (sk b n j))) = tN t + 1 := c7
      have c10 : tU (sI t8 r 4 (nI (sk b n j))) = tU t + 8 := c8
      have cr : tR (sI t8 r 4 (nI (sk b n j))) qr 0 = some r := hv8.2.1
      rw [cr]
      refine ⟨hK8, tail _ true (sgC m N) (sk b n j) L2 (some (m, N)) hC9 hX9 c9 c10 hS9 (fun z => ⟨inQ_lt e2 z, rfl, fun m' N' y => ?_⟩) (by omega) ?_⟩
      · injection y with y
        injection y with y1 y2
        subst y1 y2
        exact sgC_R (g3 z)
      · unfold slQ
        rw [hai, if_pos rfl, e2]
    · refine k2 w pp ?_ t7 (QD.of hX6 hD) ?_
      · unfold slQ
        rw [hai, if_pos rfl, e2]
      · unfold BG at hB ⊢
        omega
end QSE
