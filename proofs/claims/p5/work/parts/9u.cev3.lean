/-! THE CLASS'S FINDER: an empty row; nodes -/
section CE3
variable {C : Cx} {d : Nat} {Post : OutT → Ht → Prop} {B T lk lk' c : Nat} {t1 t t' t2 : Ht} {G : GT} {V : VT} {O K K' : Nat → Prop}
theorem msR_eq (h : ∀ i, tR t' (B + 7) i = tR t (B + 7) i) : ∀ m, msR t' B m = msR t B m
  | 0 => rfl
  | m + 1 => by rw [msR, msR, msR_eq h m, h m]
theorem msR_set {ri r : Nat} (h0 : tR t (B + 7) ri = none) (h1 : tR t' (B + 7) ri = some r) (h : ∀ i, i ≠ ri → tR t' (B + 7) i = tR t (B + 7) i) : ∀ m, msR t' B m + (if ri < m then 1 else 0) = msR t B m
  | 0 => rfl
  | m + 1 => by
    have ih := msR_set h0 h1 h m
    rw [msR, msR]
    by_cases e : m = ri
    · subst e
      rw [h0, h1, if_neg (by simp : ¬ (some r : Option Nat) = none), if_pos (by omega : m < m + 1), if_pos (rfl : (none : Option Nat) = none)]
      rw [if_neg (by omega)] at ih
      omega
    · rw [h m e]
      by_cases w : ri < m
      · rw [if_pos w] at ih
        rw [if_pos (by omega : ri < m + 1)]
        omega
      · rw [if_neg w] at ih
        rw [if_neg (by omega : ¬ ri < m + 1)]
        omega
set_option maxHeartbeats 1000000 in
/-- emptyRow -/
theorem c8 {ri n : Nat} (h : ESt C B T t1 G V c O t lk) (hi : ri < 34) (k : ∀ t' r, ESt C B T t1 G V c O t' lk → EFr B O (Kb n ri) t t' → Rw t' G r [] → tR t' (B + 7) ri = some r → Post (.inl (some (svR (some r)))) t') : CalG C mtab (d + 2) 8 [svR (some (B + 6)), svI (nI ri)] t Post := by
  have hS := h.1
  have hB := h.hB
  have hR := h.rw
  have h2 := h.k2
  have r0 : tR t (B + 6) 0 = some (B + 7) := hS.2.2.1.2.2.2.2.1
  have k7 : tK t (B + 7) = 105 := hS.1.2.2.2.2.2.2.2.2.2.1
  have l7 : tL t (B + 7) = 34 := hS.1.2.2.2.2.2.2.2.2.2.2.1
  have v : vp_in (nI ri) 34 := vp_in_nI hi (by decide)
  have cl : (nI ri).toNatClampNeg = ri := nI_clamp (by omega)
  refine cal8 ⟨fun e => absurd e (nI_pos (by omega)), fun _ => ⟨h2, onS r0 ⟨by rw [k7]; decide, by rw [k7]; decide, fun _ => ⟨h2, onS r0 ⟨by rw [k7]; decide, by rw [k7]; decide, by rw [l7]; exact v, ?_⟩⟩, fun e => ?_⟩⟩⟩
  · rw [cl]
    cases hr : tR t (B + 7) ri with
    | none =>
      refine ⟨h2, cal105 ⟨by decide, by decide, ?_, rfl, ?_⟩⟩
      · simp [ht]
      have n1 : tN t ≠ B + 6 := by omega
      have n2 : tN t ≠ B + 7 := by omega
      -- the heap with the new row
      obtain ⟨t3, h3⟩ : ∃ t3, t3 = sR (tNew (tNew t 8 0 2) 104 1000 1000) (tN t) 0 (some (tN t + 1)) := ⟨_, rfl⟩
      show onR (tR t (B + 6) 0) (fun a14 => _)
      have eN1 : tN (tNew t 8 0 2) = tN t + 1 := rfl
      rw [eN1, ← h3]
      have s3 : ∀ x, x < tN t → sameAt t t3 x := fun x hx => by
        rw [h3]
        exact ((sameAt_new hx).trans (sameAt_new (by rw [eN1]; omega))).trans (sameAt_sR (by omega))
      have N3 : tN t3 = tN t + 2 := by rw [h3]; rfl
      have U3 : tU t3 = tU t + 1002 := by rw [h3]; rfl
      have q1 : tK t3 (tN t) = 8 := by rw [h3]; simp [ht]
      have q2 : tK t3 (tN t + 1) = 104 := by rw [h3]; simp [ht]
      have q3 : tL t3 (tN t + 1) = 1000 := by rw [h3]; simp [ht]
      have q4 : tR t3 (tN t) 0 = some (tN t + 1) := by rw [h3]; exact sR_eq
      have k7' : tK t3 (B + 7) = 105 := (s3 _ (by omega)).1.trans k7
      have l7' : tL t3 (B + 7) = 34 := (s3 _ (by omega)).2.1.trans l7
      have k6' : tK t3 (B + 6) = 2 := (s3 _ (by omega)).1.trans h2
      have r0' : tR t3 (B + 6) 0 = some (B + 7) := ((s3 _ (by omega)).2.2.2.2 0).trans r0
      clear h3
      refine onS r0 ⟨by rw [k7']; decide, by rw [k7']; decide, by rw [l7']; exact v, ?_, k6', onS (a := B + 7) ?_ ⟨by show 103 ≤ tK t3 (B + 7); rw [k7']; decide, by show tK t3 (B + 7) < 106; rw [k7']; decide, by show vp_in (nI ri) (tL t3 (B + 7)); rw [l7']; exact v, onS (a := tN t) sR_eq ⟨q1, k6', onS (a := B + 7) ?_ ⟨by show 103 ≤ tK t3 (B + 7); rw [k7']; decide, by show tK t3 (B + 7) < 106; rw [k7']; decide, by show vp_in (nI ri) (tL t3 (B + 7)); rw [l7']; exact v, ?_⟩⟩⟩⟩
      · show okA (tK t3 (B + 7)) (tK t3 (tN t))
        rw [k7', q1]; exact Or.inr (Or.inl ⟨rfl, rfl⟩)
      · rw [sR_at (by omega)]; exact r0'
      · show tR (sR t3 (B + 7) ri (some (tN t))) (B + 6) 0 = _
        rw [sR_at (by omega)]; exact r0'
      have e9 : tR (sI (sR t3 (B + 7) ri (some (tN t))) (tN t) 1 0) (B + 7) ri = some (tN t) := sR_eq
      rw [e9]
      have e7 : ∀ i, i ≠ ri → tR (sI (sR t3 (B + 7) ri (some (tN t))) (tN t) 1 0) (B + 7) i = tR t (B + 7) i := fun i hi' => by
        show tR (sR t3 (B + 7) ri (some (tN t))) (B + 7) i = _
        rw [sR_at (fun w => hi' w.2)]; exact (s3 _ (by omega)).2.2.2.2 i
      have sx : ∀ x, x < tN t → x ≠ B + 7 → sameAt t (sI (sR t3 (B + 7) ri (some (tN t))) (tN t) 1 0) x := fun x hx h7 => ((s3 x hx).trans (sameAt_sR h7)).trans (sameAt_sI (by omega))
      have ems := msR_set (t := t) (t' := sI (sR t3 (B + 7) ri (some (tN t))) (tN t) 1 0) hr e9 e7 34
      rw [if_pos hi] at ems
      have ef : EFr B O (Kb n ri) t (sI (sR t3 (B + 7) ri (some (tN t))) (tN t) 1 0) := by
        refine ⟨by show tN t ≤ tN t3; omega, fun x hx => ?_, fun x hx k1 k2 k3 k4 => ?_, ⟨fun k => (sx _ (by omega) (by omega)).2.2.2.2 k, fun k _ _ => (sx _ (by omega) (by omega)).2.2.1 k, fun i r' e => ?_⟩, fun i r' hi1 hi2 e => ?_, ?_, ?_⟩
        · by_cases e : x = B + 7
          · subst e
            exact ⟨(s3 _ hx).1, (s3 _ hx).2.1⟩
          · exact ⟨(sx x hx e).1, (sx x hx e).2.1⟩
        · have s := sx x hx k4
          exact ⟨s.2.2.1, s.2.2.2.2, fun k _ => s.2.2.2.1 k⟩
        · by_cases w : i = ri
          · subst w; rw [hr] at e; cases e
          · rw [e7 i w]; exact e
        · obtain ⟨p1, p2, p3, p4, p5⟩ := hR.1 i r' hi2 e
          refine ⟨sx r' (by omega) (fun w => ?_), sx (r' + 1) (by omega) (fun w => ?_)⟩
          · rw [w, k7] at p1; cases p1
          · rw [w, k7] at p3; cases p3
        · show tN t3 + _ ≤ _; omega
        · show tU t3 + _ ≤ _; omega
      have rws : RwS (sI (sR t3 (B + 7) ri (some (tN t))) (tN t) 1 0) B := by
        refine ⟨fun i r' hi1 e => ?_, fun i m' r' a1 a2 a3 e => ?_⟩
        · by_cases w : i = ri
          · subst w
            rw [e9] at e
            injection e with e
            subst e
            refine ⟨q1, ?_, q2, q3, by show tN t + 1 < tN t3; omega⟩
            show tR (sR t3 (B + 7) i (some (tN t))) (tN t) 0 = _
            rw [sR_at (by omega)]; exact q4
          · rw [e7 i w] at e
            obtain ⟨p1, p2, p3, p4, p5⟩ := hR.1 i r' hi1 e
            have s1 := sx r' (by omega) (fun w => by rw [w, k7] at p1; cases p1)
            have s2 := sx (r' + 1) (by omega) (fun w => by rw [w, k7] at p3; cases p3)
            exact ⟨s1.1.trans p1, (s1.2.2.2.2 0).trans p2, s2.1.trans p3, s2.2.1.trans p4, by show r' + 1 < tN t3; omega⟩
        · by_cases w : i = ri
          · subst w
            rw [e9] at e
            injection e with e
            rw [e7 m' (by omega)]
            intro z
            have := (hR.1 m' r' a2 z).2.2.2.2
            omega
          · rw [e7 i w] at e
            by_cases w2 : m' = ri
            · subst w2
              rw [e9]
              intro z
              injection z with z
              have := (hR.1 i r' a1 e).2.2.2.2
              omega
            · rw [e7 m' w2]; exact hR.2 i m' r' a1 a2 a3 e
      refine k _ (tN t) (h.go ef ?_ h.2.2.2.1 rws) ef ⟨q1, ?_, q2, q3, by show tN t + 1 < tN t3; omega, sI_eq, by simp, fun i hi' => by simp at hi'⟩ e9
      · exact ((sx _ (by omega) (by omega)).2.2.1 3).trans h.2.2.1
      · show tR (sR t3 (B + 7) ri (some (tN t))) (tN t) 0 = _
        rw [sR_at (by omega)]; exact q4
    | some r =>
      obtain ⟨p1, p2, p3, p4, p5⟩ := hR.1 ri r hi hr
      have m6 : r ≠ B + 6 := fun w => by rw [w, h2] at p1; cases p1
      have m7 : r ≠ B + 7 := fun w => by rw [w, k7] at p1; cases p1
      refine ⟨h2, onS r0 ⟨by rw [k7]; decide, by rw [k7]; decide, by rw [l7]; exact v, onS hr ⟨p1, h2, onS (a := B + 7) r0 ⟨by show 103 ≤ tK t (B + 7); rw [k7]; decide, by show tK t (B + 7) < 106; rw [k7]; decide, by show vp_in (nI ri) (tL t (B + 7)); rw [l7]; exact v, ?_⟩⟩⟩⟩
      have e9 : tR (sI t r 1 0) (B + 7) ri = some r := hr
      rw [e9]
      have ef : EFr B O (Kb n ri) t (sI t r 1 0) := by
        refine ⟨Nat.le_refl _, fun _ _ => ⟨rfl, rfl⟩, fun x hx k1 k2 k3 k4 => ⟨fun k => sI_at (fun w => by rw [w.1, p1] at k1; exact k1 rfl), fun _ => rfl, fun _ _ => rfl⟩, ⟨fun _ => rfl, fun k _ _ => sI_at (fun w => m6 w.1.symm), fun _ _ e => e⟩, fun i r' hi1 hi2 e => ?_, ?_⟩
        · obtain ⟨u1, u2, u3, u4, u5⟩ := hR.1 i r' hi2 e
          exact ⟨sameAt_sI (fun w => by rw [w] at e; exact hR.2 i ri r hi2 hi hi1.2 e hr), sameAt_sI (fun w => by rw [w, p1] at u3; cases u3)⟩
        · rw [msR_eq (fun _ => rfl)]
          exact ⟨Nat.le_refl _, Nat.le_refl _⟩
      exact k _ r (h.go ef ((sI_at (fun w => m6 w.1.symm)).trans h.2.2.1) h.2.2.2.1 hR) ef ⟨p1, p2, p3, p4, p5, sI_eq, by simp, fun i hi' => by simp at hi'⟩ e9
  · rw [l7] at e
    exact absurd (nI_lt hi (by decide)) e
/-- Row.get -/
theorem c106 {r i : Nat} {l : List Nat} (hr : Rw t G r l) (hi : i < l.length) (k : Post (.inl (some (svR (some (gA G (l.getD i 0)))))) t) : CalG C mtab (d + 1) 106 [svR (some r), svI (nI i)] t Post := by
  obtain ⟨r1, r2, r3, r4, r5, r6, r7, r8⟩ := hr
  refine cal106 ⟨fun e => absurd e (nI_pos (by omega)), fun _ => ⟨r1, fun e => ?_, fun _ => ⟨r1, onS r2 ⟨by rw [r3]; decide, by rw [r3]; decide, fun e => ?_, fun _ => ⟨r1, onS r2 ⟨by rw [r3]; decide, by rw [r3]; decide, by rw [r4]; exact vp_in_nI (by omega) (by decide), ?_⟩⟩⟩⟩⟩⟩
  · rw [r6] at e
    exact absurd e (nI_ge hi (by omega))
  · rw [r4] at e
    exact absurd e (nI_ge (a := i) (b := 1000) (by omega) (by omega))
  · rw [nI_clamp (by omega), r8 i hi]; exact k
end CE3
