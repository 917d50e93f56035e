/-! THE CLASS'S OUT: what stands while it is written (t0: the heap before) -/
/-- what the writing may change -/
def MC (B : Nat) (t t' : Ht) : Prop := tN t' = tN t ∧ tU t' = tU t ∧ tK t' = tK t ∧ tL t' = tL t ∧ tR t' = tR t ∧ (∀ x k, tJ t' x k = tJ t x k) ∧ (∀ x k, (x ≠ B + 8 ∨ k ≠ 1) → x ≠ B + 9 → tI t' x k = tI t x k)
def GCo (t0 : Ht) (B : Nat) (t : Ht) : Prop := MC B t0 t ∧ ∃ o, tI t (B + 8) 1 = nI o ∧ o ≤ 2400
def OCh (t : Ht) (B : Nat) : Prop := tK t (B + 8) = 4 ∧ tR t (B + 8) 0 = some (B + 9) ∧ tK t (B + 9) = 100 ∧ tL t (B + 9) = 2400
section COT
variable {C : Cx} {d : Nat} {Post : OutT → Ht → Prop} {t0 t t' t2 : Ht} {B T c : Nat} {G : GT} {V : VT}
theorem MC.rfl' : MC B t t := ⟨rfl, rfl, rfl, rfl, rfl, fun _ _ => rfl, fun _ _ _ _ => rfl⟩
theorem MC.trans (h : MC B t t') (g : MC B t' t2) : MC B t t2 := by
  obtain ⟨h1, h2, h3, h4, h5, h6, h7⟩ := h
  obtain ⟨g1, g2, g3, g4, g5, g6, g7⟩ := g
  exact ⟨g1.trans h1, g2.trans h2, g3.trans h3, g4.trans h4, g5.trans h5, fun x k => (g6 x k).trans (h6 x k), fun x k z1 z2 => (g7 x k z1 z2).trans (h7 x k z1 z2)⟩
theorem MC.I {v : Int32} : MC B t (sI t (B + 8) 1 v) := by
  refine ⟨rfl, rfl, rfl, rfl, rfl, fun _ _ => rfl, fun x j z1 z2 => sI_at ?_⟩
  rintro ⟨rfl, rfl⟩; omega
theorem MC.A {k : Nat} {v : Int32} : MC B t (sI t (B + 9) k v) := by
  refine ⟨rfl, rfl, rfl, rfl, rfl, fun _ _ => rfl, fun x j z1 z2 => sI_at ?_⟩
  rintro ⟨rfl, rfl⟩; exact z2 rfl
theorem MC.sa {x : Nat} (h : MC B t t') (h1 : x ≠ B + 8) (h2 : x ≠ B + 9) : sameAt t t' x :=
  ⟨by rw [h.2.2.1], by rw [h.2.2.2.1], fun k => h.2.2.2.2.2.2 x k (Or.inl h1) h2, fun k => h.2.2.2.2.2.1 x k, fun k => by rw [h.2.2.2.2.1]⟩
theorem kC (hO : OCh t0 B) (h : GCo t0 B t) : tK t (B + 8) = 4 := by rw [h.1.2.2.1]; exact hO.1
/-- put -/
theorem c38 {x1 : Int32} (hO : OCh t0 B) (h : GCo t0 B t) (k : ∀ t', GCo t0 B t' → Post (.inl none) t') : CalG C mtab (d + 1) 38 [svR (some (B + 8)), svI x1] t Post := by
  have hK := kC hO h
  obtain ⟨hM, o, h1, h2⟩ := h
  have r0 : tR t (B + 8) 0 = some (B + 9) := by rw [hM.2.2.2.2.1]; exact hO.2.1
  have k9 : tK t (B + 9) = 100 := by rw [hM.2.2.1]; exact hO.2.2.1
  have l9 : tL t (B + 9) = 2400 := by rw [hM.2.2.2.1]; exact hO.2.2.2
  refine cal38 ⟨hK, hK, ?_⟩
  rw [r0]
  refine ⟨by rw [k9]; decide, by rw [k9]; decide, ?_⟩
  rw [l9, h1]
  refine ⟨fun e => k t ⟨hM, o, h1, h2⟩, fun e => ⟨hK, hK, k9, ?_, hK, hK, ?_⟩⟩
  · have : o < 2400 := Nat.not_le.mp (fun z => e (nI_le z (by omega)))
    rw [l9]; exact vp_in_nI this (by decide)
  · have : o < 2400 := Nat.not_le.mp (fun z => e (nI_le z (by omega)))
    rw [sI_at (by omega), h1, show nI o + 1 = nI (o + 1) from nI_add o 1]
    exact k _ ⟨hM.trans (MC.A.trans MC.I), o + 1, sI_eq, this⟩
/-- putWord -/
theorem c39 {n : Nat} (hn : n < 10) (hO : OCh t0 B) (h : GCo t0 B t) (k : ∀ t', GCo t0 B t' → Post (.inl none) t') : CalG C mtab (d + 5) 39 [svR (some (B + 8)), svR (some (cS C n))] t Post := by
  have hl : lenTx.getD n 0 ≤ 20 := by rw [txW_len n hn]; exact txW_lt n hn
  refine cal39 (fun m l2 t' => ∃ j, m = lenTx.getD n 0 - j ∧ j ≤ lenTx.getD n 0 ∧ l2 = nI j ∧ GCo t0 B t') ?_ ?_
  · exact ⟨_, rfl, rfl, 0, rfl, Nat.zero_le _, rfl, h⟩
  · rintro m l2 t' ⟨j, rfl, hj, rfl, h'⟩
    refine ⟨⟨n, hn, rfl⟩, s254 hn ⟨fun e => k t' h', fun e => ?_⟩⟩
    have hj2 : j < lenTx.getD n 0 := Nat.not_le.mp (fun z => e (nI_le z (by omega)))
    refine ⟨⟨n, hn, rfl⟩, s255 hn hj2 ⟨kC hO h', c38 hO h' (fun t2 h2 => ⟨rfl, ?_⟩)⟩⟩
    exact ⟨_, (by omega : lenTx.getD n 0 - (j + 1) < lenTx.getD n 0 - j), rfl, rfl, j + 1, rfl, hj2, nI_1 j, h2⟩
/-- putWhole -/
theorem c40 {x1 : Int64} (hO : OCh t0 B) (h : GCo t0 B t) (k : ∀ t', GCo t0 B t' → Post (.inl none) t') : CalG C mtab (d + 2) 40 [svR (some (B + 8)), svJ x1] t Post := by
  have st : ∀ {z : Int64} {t' : Ht}, GCo t0 B t' → ∃ n, some (B + 8) = some (B + 8) ∧ x1 = x1 ∧ (∃ j, n = 100 - j ∧ j ≤ 17 ∧ (1 : Int64) = lN (10 ^ j) ∧ (0 : Int32) = nI j ∧ GCo t0 B t') := fun h' => ⟨_, rfl, rfl, 0, rfl, by omega, by decide, rfl, h'⟩
  refine cal40 (fun n l3 l5 l7 t' => ∃ j, n = 100 - j ∧ j ≤ 17 ∧ l5 = lN (10 ^ j) ∧ l7 = nI j ∧ GCo t0 B t') (fun n l3 l5 l7 t' => (n = 0 ∧ l5 = 0 ∧ GCo t0 B t') ∨ ∃ j, n = j + 1 ∧ j ≤ 17 ∧ l5 = lN (10 ^ j) ∧ GCo t0 B t') ?_ ?_ ?_
  · refine ⟨fun e => cal249 ⟨fun _ => st (z := x1) h, fun _ => st (z := x1) h⟩, fun e => ⟨kC hO h, c38 hO h (fun t2 h2 => ⟨rfl, cal249 ⟨fun _ => st (z := x1) h2, fun _ => st (z := x1) h2⟩⟩)⟩⟩
  · rintro n l3 l5 l7 t' ⟨j, rfl, hj, rfl, rfl, h'⟩
    refine ⟨fun e => ⟨j + 1, by omega, rfl, rfl, Or.inr ⟨j, rfl, hj, rfl, h'⟩⟩, fun e => ⟨p10c j (by omega), fun _ => ⟨j + 1, by omega, rfl, rfl, Or.inr ⟨j, rfl, hj, rfl, h'⟩⟩, fun _ => ?_⟩⟩
    have hj2 : j < 17 := Nat.not_le.mp (fun z => e (nI_le (a := 17) z (by omega)))
    rw [p10a j hj2]
    exact ⟨100 - (j + 1), by omega, rfl, rfl, j + 1, rfl, by omega, rfl, nI_1 j, h'⟩
  · rintro n l3 l5 l7 t' (⟨rfl, rfl, h'⟩ | ⟨j, rfl, hj, rfl, h'⟩)
    · exact ⟨fun _ => k t' h', fun e => absurd (by decide) e⟩
    · refine ⟨fun e => absurd ((lg_cmp_le _ _).mp e) (p10d j (by omega)), fun _ => ⟨p10c j (by omega), by decide, kC hO h', c38 hO h' (fun t2 h2 => ⟨rfl, by decide, ?_⟩)⟩⟩
      cases j with
      | zero => exact ⟨0, by omega, rfl, rfl, Or.inl ⟨rfl, by decide, h2⟩⟩
      | succ j =>
        rw [p10b j (by omega)]
        exact ⟨j + 1, by omega, rfl, rfl, Or.inr ⟨j, rfl, by omega, rfl, h2⟩⟩
/-- putControl -/
theorem c42 {x1 : Int32} (hO : OCh t0 B) (h : GCo t0 B t) (k : ∀ t', GCo t0 B t' → Post (.inl none) t') : CalG C mtab (d + 6) 42 [svR (some (B + 8)), svI x1] t Post := by
  have p : ∀ {y : Int32} {t' : Ht} {Q : Ht → Prop}, GCo t0 B t' → (∀ t2, GCo t0 B t2 → Q t2) → tK t' (B + 8) = 4 ∧ CalG C mtab (d + 5) 38 [svR (some (B + 8)), svI y] t' (aftV (fun v1 t2 => v1 = none ∧ Q t2) (fun k3 q4 t5 => Post (.inr (k3, q4)) t5)) := fun h' q => ⟨kC hO h', c38 (d := d + 4) hO h' (fun t2 h2 => ⟨rfl, q t2 h2⟩)⟩
  have w : ∀ {t' : Ht} {Q : Ht → Prop}, GCo t0 B t' → (∀ t2, GCo t0 B t2 → Q t2) → tK t' (B + 8) = 4 ∧ CalG C mtab (d + 5) 39 [svR (some (B + 8)), svR (some (cS C 8))] t' (aftV (fun v1 t2 => v1 = none ∧ Q t2) (fun k3 q4 t5 => Post (.inr (k3, q4)) t5)) := fun h' q => ⟨kC hO h', c39 (by decide) hO h' (fun t2 h2 => ⟨rfl, q t2 h2⟩)⟩
  refine cal42 ?_
  unfold vc42
  repeat' (first
    | exact k _ (by assumption)
    | refine p (by assumption) (fun t' h' => ?_)
    | refine w (by assumption) (fun t' h' => ?_)
    | refine ⟨fun _ => ?_, fun _ => ?_⟩)
/-- putCode -/
theorem c43 {x1 : Int32} (hO : OCh t0 B) (h : GCo t0 B t) (k : ∀ t', GCo t0 B t' → Post (.inl none) t') : CalG C mtab (d + 2) 43 [svR (some (B + 8)), svI x1] t Post := by
  have p : ∀ {y : Int32} {t' : Ht} {Q : Ht → Prop}, GCo t0 B t' → (∀ t2, GCo t0 B t2 → Q t2) → tK t' (B + 8) = 4 ∧ CalG C mtab (d + 1) 38 [svR (some (B + 8)), svI y] t' (aftV (fun v1 t2 => v1 = none ∧ Q t2) (fun k3 q4 t5 => Post (.inr (k3, q4)) t5)) := fun h' q => ⟨kC hO h', c38 hO h' (fun t2 h2 => ⟨rfl, q t2 h2⟩)⟩
  refine cal43 ?_
  unfold vc43
  repeat' (first
    | exact k _ (by assumption)
    | refine p (by assumption) (fun t' h' => ?_)
    | refine ⟨fun _ => ?_, fun _ => ?_⟩)
/-- putQuoted -/
theorem c41 {r : Option Nat} {x2 : Int32} (hO : OCh t0 B) (h : GCo t0 B t) (hr : ∀ a, r = some a → tK t0 a = 101 ∧ tL t0 a ≤ 1200) (k : ∀ t', GCo t0 B t' → Post (.inl none) t') : CalG C mtab (d + 7) 41 [svR (some (B + 8)), svR r, svI x2] t Post := by
  have p : ∀ {y : Int32} {t' : Ht} {Q : Ht → Prop}, GCo t0 B t' → (∀ t2, GCo t0 B t2 → Q t2) → tK t' (B + 8) = 4 ∧ CalG C mtab (d + 6) 38 [svR (some (B + 8)), svI y] t' (aftV (fun v1 t2 => v1 = none ∧ Q t2) (fun k3 q4 t5 => Post (.inr (k3, q4)) t5)) := fun h' q => ⟨kC hO h', c38 (d := d + 5) hO h' (fun t2 h2 => ⟨rfl, q t2 h2⟩)⟩
  refine cal41 (fun n l3 t' => ∃ j, n = 1300 - j ∧ j ≤ 1200 ∧ l3 = nI j ∧ GCo t0 B t') ?_ ?_
  · exact p h (fun t2 h2 => ⟨_, rfl, rfl, rfl, 0, rfl, by omega, rfl, h2⟩)
  · rintro n l3 t' ⟨j, rfl, hj, rfl, h'⟩
    cases r with
    | none => exact p h' k
    | some a =>
      obtain ⟨k1, k2⟩ := hr a rfl
      have k1' : tK t' a = 101 := by rw [h'.1.2.2.1]; exact k1
      have l1 : tL t' a = tL t0 a := by rw [h'.1.2.2.2.1]
      show 100 ≤ tK t' a ∧ tK t' a < 106 ∧ _
      rw [k1', l1]
      refine ⟨by decide, by decide, fun _ => p h' k, fun e => ?_⟩
      have hj2 : j < tL t0 a := Nat.not_le.mp (fun z => e (nI_le z (by omega)))
      have nx : ∀ t2, GCo t0 B t2 → ∃ k, k < 1300 - j ∧ some (B + 8) = some (B + 8) ∧ some a = some a ∧ x2 = x2 ∧ ∃ j', k = 1300 - j' ∧ j' ≤ 1200 ∧ nI j + 1 = nI j' ∧ GCo t0 B t2 := fun t2 h2 => ⟨1300 - (j + 1), by omega, rfl, rfl, rfl, j + 1, rfl, by omega, nI_1 j, h2⟩
      refine ⟨k1', by rw [l1]; exact vp_in_nI hj2 (by omega), fun _ => p h' (fun t2 h2 => p h2 nx), fun _ => ⟨fun _ => p h' (fun t2 h2 => p h2 nx), fun _ => ⟨fun _ => ⟨kC hO h', c43 (d := d + 4) hO h' (fun t2 h2 => ⟨rfl, nx t2 h2⟩)⟩, fun _ => ⟨kC hO h', c42 hO h' (fun t2 h2 => ⟨rfl, nx t2 h2⟩)⟩⟩⟩⟩
/-- a value stands -/
theorem MC.nv (h : MC B t t') (hB : B + 9 < T) (hN : NV C T t G V c) : NV C T t' G V c := hN.frame (Nat.le_of_eq h.1.symm) (fun x h1 _ _ => h.sa (by omega) (by omega))
theorem chR_a {r : Option Nat} {o : Option (List Nat)} (h : chR t T r o) (ho : ∀ cs, o = some cs → okC cs) : ∀ a, r = some a → tK t a = 101 ∧ tL t a ≤ 1200 := fun a e => by
  cases o with
  | none => have h : r = none := h; rw [h] at e; cases e
  | some cs =>
    obtain ⟨a', h1, -, -, h4⟩ := h
    rw [h1] at e
    injection e with e
    subst e
    exact ⟨h4.1, by rw [h4.2.1]; exact (ho cs rfl).1⟩
/-- putSteps -/
theorem c44 (hO : OCh t0 B) (hB : B + 9 < T) (hN : NV C T t0 G V c) : ∀ (f j : Nat) (t : Ht) (Post : OutT → Ht → Prop), j < c → f ≤ 30 → GCo t0 B t → (∀ t', GCo t0 B t' → Post (.inl none) t') → CalG C mtab (d + f + 8) 44 [svR (some (B + 8)), svR (some (gA G j)), svI (nI f)] t Post := by
  intro f
  induction f with
  | zero =>
    intro j t Post hj hf h k
    have E := ((h.1.nv hB hN).1 j hj).1
    have p : tK t (B + 8) = 4 ∧ CalG C mtab (d + 7) 38 [svR (some (B + 8)), svI (36 : Int32)] t (aftV (fun v1 t2 => v1 = none ∧ Post (.inl none) t2) (fun k3 q4 t5 => Post (.inr (k3, q4)) t5)) := ⟨kC hO h, c38 (d := d + 6) hO h (fun t2 h2 => ⟨rfl, k t2 h2⟩)⟩
    refine cal44 ⟨E.1.2.2, ?_⟩
    cases hu : tR t (gA G j) 1 with
    | none => exact p
    | some q => exact ⟨fun z => absurd z (by decide), fun _ => p⟩
  | succ f ih =>
    intro j t Post hj hf h k
    rw [show d + (f + 1) + 8 = d + f + 8 + 1 by omega]
    have hNt := h.1.nv hB hN
    obtain ⟨E, W, -⟩ := hNt.1 j hj
    have p : ∀ {y : Int32} {t' : Ht} {Q : Ht → Prop}, GCo t0 B t' → (∀ t2, GCo t0 B t2 → Q t2) → tK t' (B + 8) = 4 ∧ CalG C mtab (d + f + 8) 38 [svR (some (B + 8)), svI y] t' (aftV (fun v1 t2 => v1 = none ∧ Q t2) (fun k3 q4 t5 => Post (.inr (k3, q4)) t5)) := fun h' q => ⟨kC hO h', c38 (d := d + f + 7) hO h' (fun t2 h2 => ⟨rfl, q t2 h2⟩)⟩
    refine cal44 ⟨E.1.2.2, ?_⟩
    have eu := E.2.1.2.1
    cases hu : eU (V j) with
    | none =>
      rw [hu] at eu
      rw [show tR t (gA G j) 1 = none from eu]
      exact p h k
    | some q =>
      rw [hu] at eu
      have eu : tR t (gA G j) 1 = some (gA G q) := eu
      have hq : q < c := by have := W.2.2.1 q hu; omega
      rw [eu]
      refine ⟨fun _ => ⟨E.1.2.2, kC hO h, ?_⟩, fun _ => p h k⟩
      rw [eu, show nI (f + 1) - 1 = nI f by rw [show nI (f + 1) - 1 = nI (f + 1) - nI 1 from rfl, nI_sub (by omega)]; rfl]
      refine ih q t _ hq (by omega) h (fun t2 h2 => ⟨rfl, p h2 (fun t3 h3 => ?_)⟩)
      obtain ⟨E3, W3, -⟩ := (h3.1.nv hB hN).1 j hj
      have E0 := (hN.1 j hj).1
      refine ⟨E3.1.2.2, fun _ => ⟨E3.1.2.2, kC hO h3, c41 (d := d + f + 1) hO h3 (fun a ha => ?_) (fun t4 h4 => ⟨rfl, p h4 k⟩)⟩, fun _ => ⟨E3.1.2.2, kC hO h3, c40 (d := d + f + 6) hO h3 (fun t4 h4 => ⟨rfl, p h4 k⟩)⟩⟩
      have r7 : tR t3 (gA G j) 7 = tR t0 (gA G j) 7 := by rw [h3.1.2.2.2.2.1]
      rw [r7] at ha
      exact chR_a E0.2.2.1.2.1 (fun cs e => W3.2.2.2.2.2.2.2 cs e) a ha
/-- putValue, putKids -/
def P45 (C : Cx) (t0 : Ht) (B : Nat) (G : GT) (c d f : Nat) : Prop := ∀ (j : Nat) (t : Ht) (Post : OutT → Ht → Prop), j < c → GCo t0 B t → (∀ t', GCo t0 B t' → Post (.inl none) t') → CalG C mtab (d + 2 * f + 9) 45 [svR (some (B + 8)), svR (some (gA G j)), svI (nI f)] t Post
set_option maxHeartbeats 1000000 in
theorem c46 {f j : Nat} (hO : OCh t0 B) (hB : B + 9 < T) (hN : NV C T t0 G V c) (hV : VOK V c) (hf : f ≤ 30) (ih : ∀ f', f = f' + 1 → P45 C t0 B G c d f') (hj : j < c) (h5 : 5 ≤ eK (V j)) (h : GCo t0 B t) (k : ∀ t', GCo t0 B t' → Post (.inl none) t') : CalG C mtab (d + 2 * f + 8) 46 [svR (some (B + 8)), svR (some (gA G j)), svI (nI f)] t Post := by
  have p : ∀ {y : Int32} {t' : Ht} {Q : Ht → Prop}, GCo t0 B t' → (∀ t2, GCo t0 B t2 → Q t2) → tK t' (B + 8) = 4 ∧ CalG C mtab (d + 2 * f + 7) 38 [svR (some (B + 8)), svI y] t' (aftV (fun v1 t2 => v1 = none ∧ Q t2) (fun k3 q4 t5 => Post (.inr (k3, q4)) t5)) := fun h' q => ⟨kC hO h', c38 (d := d + 2 * f + 6) hO h' (fun t2 h2 => ⟨rfl, q t2 h2⟩)⟩
  have hk3 : ∀ {t'}, GCo t0 B t' → tK t' (gA G j) = 3 := fun h' => ((h'.1.nv hB hN).1 j hj).1.1.2.2
  refine cal46 (fun n l3 t' => ∃ m, n = 400 - m ∧ m ≤ 300 ∧ l3 = nI m ∧ GCo t0 B t') ?_ ?_
  · refine ⟨hk3 h, fun _ => p h (fun t2 h2 => ⟨_, rfl, rfl, rfl, 0, rfl, by omega, rfl, h2⟩), fun _ => p h (fun t2 h2 => ⟨_, rfl, rfl, rfl, 0, rfl, by omega, rfl, h2⟩)⟩
  · rintro n l3 t' ⟨m, rfl, hm, rfl, h'⟩
    have hNt := h'.1.nv hB hN
    have hvl : VLf C t' G V c (.inl j) (gA G j) := VLf.node hNt hj (hV.2.1 j hj).1
    have hsl : (eS (V j)).length ≤ 300 := hvl.2.2.2.2.2.1.1
    refine ⟨hk3 h', c27 (d := d + 2 * f + 5) hvl ⟨fun _ => ⟨hk3 h', fun _ => p h' k, fun _ => p h' k⟩, fun e => ⟨fun _ => ⟨hk3 h', fun _ => p h' k, fun _ => p h' k⟩, fun e2 => ⟨hk3 h', ?_⟩⟩⟩⟩
    have e : m < (eS (V j)).length := Nat.not_le.mp (fun z => e (nI_le z (by omega)))
    have hf0 : f ≠ 0 := fun z => e2 (by rw [z]; decide)
    obtain ⟨f', rfl⟩ : ∃ f', f = f' + 1 := ⟨f - 1, by omega⟩
    rw [nI_l (by omega)]
    have hki : kiV V (.inl j) (lN m) = some ((eS (V j)).getD m 0) := by
      unfold kiV
      have h1 : ¬ (lN m < 0 ∨ lN (knV V (.inl j)).length ≤ lN m) := by
        rintro (z | z)
        · rw [Int64.lt_iff_toInt_lt, lN_toInt (by omega), i64_0] at z; omega
        · have z := (lN_le (show (eS (V j)).length < 2 ^ 31 by omega) (by omega)).mp z
          omega
      rw [if_neg h1, lN_toInt (by omega)]
      rfl
    refine c28 (d := d + 2 * (f' + 1) + 3) hNt hvl ?_
    rw [hki]
    have hy : (eS (V j)).getD m 0 < c := hvl.2.2.2.2.2.1.2 _ (kid_mem e)
    generalize (eS (V j)).getD m 0 = y at hy
    show br _ _ _
    have ed : nI (f' + 1) - 1 = nI f' := by rw [show nI (f' + 1) - 1 = nI (f' + 1) - nI 1 from rfl, nI_sub (by omega)]; rfl
    rw [ed]
    have hky : ∀ {t'}, GCo t0 B t' → tK t' (gA G y) = 3 := fun h' => ((h'.1.nv hB hN).1 y hy).1.1.2.2
    have nx : ∀ t2, GCo t0 B t2 → ∃ k, k < 400 - m ∧ some (B + 8) = some (B + 8) ∧ some (gA G j) = some (gA G j) ∧ nI (f' + 1) = nI (f' + 1) ∧ ∃ m', k = 400 - m' ∧ m' ≤ 300 ∧ nI m + 1 = nI m' ∧ GCo t0 B t2 := fun t2 h2 => ⟨400 - (m + 1), by omega, rfl, rfl, rfl, m + 1, rfl, by omega, nI_1 m, h2⟩
    have val : ∀ {t3 : Ht}, GCo t0 B t3 → tK t3 (B + 8) = 4 ∧ CalG C mtab (d + 2 * (f' + 1) + 7) 45 [svR (some (B + 8)), svR (some (gA G y)), svI (nI f')] t3 (aftV (fun v54 t55 => v54 = none ∧ ∃ k, k < 400 - m ∧ some (B + 8) = some (B + 8) ∧ some (gA G j) = some (gA G j) ∧ nI (f' + 1) = nI (f' + 1) ∧ ∃ m', k = 400 - m' ∧ m' ≤ 300 ∧ nI m + 1 = nI m' ∧ GCo t0 B t55) (fun k56 q57 t58 => Post (.inr (k56, q57)) t58)) := fun {t3} h3 => ⟨kC hO h3, by rw [show d + 2 * (f' + 1) + 7 = d + 2 * f' + 9 by omega]; exact ih f' rfl y _ _ hy h3 (fun t4 h4 => ⟨rfl, nx t4 h4⟩)⟩
    have nam : ∀ {t3 : Ht}, GCo t0 B t3 → tK t3 (gA G y) = 3 ∧ tK t3 (B + 8) = 4 ∧ CalG C mtab (d + 2 * (f' + 1) + 7) 41 [svR (some (B + 8)), svR (tR t3 (gA G y) 7), svI (34 : Int32)] t3 (aftV (fun v44 t45 => v44 = none ∧ tK t45 (B + 8) = 4 ∧ CalG C mtab (d + 2 * (f' + 1) + 7) 38 [svR (some (B + 8)), svI (58 : Int32)] t45 (aftV (fun v49 t50 => v49 = none ∧ tK t50 (B + 8) = 4 ∧ CalG C mtab (d + 2 * (f' + 1) + 7) 45 [svR (some (B + 8)), svR (some (gA G y)), svI (nI f')] t50 (aftV (fun v54 t55 => v54 = none ∧ ∃ k, k < 400 - m ∧ some (B + 8) = some (B + 8) ∧ some (gA G j) = some (gA G j) ∧ nI (f' + 1) = nI (f' + 1) ∧ ∃ m', k = 400 - m' ∧ m' ≤ 300 ∧ nI m + 1 = nI m' ∧ GCo t0 B t55) (fun k56 q57 t58 => Post (.inr (k56, q57)) t58))) (fun k51 q52 t53 => Post (.inr (k51, q52)) t53))) (fun k46 q47 t48 => Post (.inr (k46, q47)) t48)) := fun {t3} h3 => by
      refine ⟨hky h3, kC hO h3, c41 (d := d + 2 * (f' + 1)) hO h3 (fun a ha => ?_) (fun t4 h4 => ⟨rfl, p h4 (fun t5 h5 => val h5)⟩)⟩
      obtain ⟨E0, W0, -⟩ := hN.1 y hy
      have r7 : tR t3 (gA G y) 7 = tR t0 (gA G y) 7 := by rw [h3.1.2.2.2.2.1]
      rw [r7] at ha
      exact chR_a E0.2.2.1.2.1 (fun cs e => W0.2.2.2.2.2.2.2 cs e) a ha
    exact ⟨fun _ => ⟨hk3 h', fun _ => nam h', fun _ => val h'⟩, fun _ => p h' (fun t3 h3 => ⟨hk3 h3, fun _ => nam h3, fun _ => val h3⟩)⟩
theorem c45s {f : Nat} (hO : OCh t0 B) (hB : B + 9 < T) (hN : NV C T t0 G V c) (hV : VOK V c) (hf : f ≤ 30) (ih : ∀ f', f = f' + 1 → P45 C t0 B G c d f') : P45 C t0 B G c d f := by
  intro j t Post hj h k
  have hNt := h.1.nv hB hN
  obtain ⟨E, W, -⟩ := hNt.1 j hj
  have hk3 := E.1.2.2
  have hK := kC hO h
  show CalG C mtab (d + 2 * f + 8 + 1) 45 _ t Post
  refine cal45 ⟨hk3, ?_⟩
  rw [E.2.1.1]
  refine ⟨fun _ => ⟨hK, c39 (d := d + 2 * f + 3) (by decide) hO h (fun t2 h2 => ⟨rfl, k t2 h2⟩)⟩, fun e0 => ⟨fun _ => ⟨hK, c39 (d := d + 2 * f + 3) (by decide) hO h (fun t2 h2 => ⟨rfl, k t2 h2⟩)⟩, fun e1 => ⟨fun _ => ⟨hK, c39 (d := d + 2 * f + 3) (by decide) hO h (fun t2 h2 => ⟨rfl, k t2 h2⟩)⟩, fun e2 => ⟨fun _ => ⟨hk3, hK, c40 (d := d + 2 * f + 6) hO h (fun t2 h2 => ⟨rfl, k t2 h2⟩)⟩, fun e3 => ⟨fun _ => ⟨hk3, hK, c41 (d := d + 2 * f + 1) hO h (fun a ha => ?_) (fun t2 h2 => ⟨rfl, k t2 h2⟩)⟩, fun e4 => ⟨hK, c46 hO hB hN hV hf ih hj ?_ h (fun t2 h2 => ⟨rfl, k t2 h2⟩)⟩⟩⟩⟩⟩⟩
  · obtain ⟨E0, W0, -⟩ := hN.1 j hj
    have r6 : tR t (gA G j) 6 = tR t0 (gA G j) 6 := by rw [h.1.2.2.2.2.1]
    rw [r6] at ha
    refine chR_a E0.2.2.1.1 (fun cs e => ?_) a ha
    unfold cOf at e
    split at e
    · split at e
      · injection e with e
        rw [← e]; exact W0.2.2.2.2.2.2.1
      · cases e
    · cases e
  · have n0 : eK (V j) ≠ 0 := fun z => e0 (by rw [z]; rfl)
    have n1 : eK (V j) ≠ 1 := fun z => e1 (by rw [z]; rfl)
    have n2 : eK (V j) ≠ 2 := fun z => e2 (by rw [z]; rfl)
    have n3 : eK (V j) ≠ 3 := fun z => e3 (by rw [z]; rfl)
    have n4 : eK (V j) ≠ 4 := fun z => e4 (by rw [z]; rfl)
    omega
theorem c45 (hO : OCh t0 B) (hB : B + 9 < T) (hN : NV C T t0 G V c) (hV : VOK V c) : ∀ f, f ≤ 30 → P45 C t0 B G c d f := by
  intro f
  induction f with
  | zero => intro hf; exact c45s hO hB hN hV hf (fun f' e => by omega)
  | succ f ih => intro hf; exact c45s hO hB hN hV hf (fun f' e => by injection e with e; rw [← e]; exact ih (by omega))
end COT
