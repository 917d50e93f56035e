/-! find, OF THE CLASS -/
section CFN
variable {C : Cx} {d : Nat} {Post : OutT → Ht → Prop} {t0 t t1 t' t2 t3 : Ht} {B T c : Nat} {G : GT} {V : VT}
theorem BSh.r6 {k : Nat} {v : Option Nat} (h : BSh t B) (hk : 1 ≤ k) : BSh (sR t (B + 6) k v) B := by
  obtain ⟨a, ⟨r0, r1, r2, r3, r4, r5⟩, ⟨s0, s1, s2, s3, s4, s5⟩, hB⟩ := h
  exact ⟨a, ⟨(sR_at (by omega)).trans r0, (sR_at (by omega)).trans r1, (sR_at (by omega)).trans r2, (sR_at (by omega)).trans r3, (sR_at (by omega)).trans r4, (sR_at (by omega)).trans r5⟩, ⟨(sR_at (by omega)).trans s0, (sR_at (by omega)).trans s1, (sR_at (by omega)).trans s2, (sR_at (by omega)).trans s3, (sR_at (by omega)).trans s4, (sR_at (by omega)).trans s5⟩, hB⟩
theorem msR_new {kd l u m : Nat} (hB : B + 7 < tN t) : ∀ n, msR (tNew t kd l u) B n = msR t B n := msR_eq (fun i => (sameAt_new hB).2.2.2.2 i)
/-- what find leaves -/
def CFd (C : Cx) (B : Nat) (t t' : Ht) : Prop := CInv C B t' ∧ (∀ x, x ≤ B + 62 → x ≠ B + 6 → x ≠ B + 7 → sameAt t t' x) ∧ tN t ≤ tN t' ∧ tN t' + 2 * msR t' B 34 ≤ tN t + 2 * msR t B 34 + 1 ∧ tU t' + 1002 * msR t' B 34 ≤ tU t + 1002 * msR t B 34 + 6
set_option maxHeartbeats 2000000 in
theorem cFind (h : CInv C B t) (k : ∀ r t', CFd C B t t' → Post (.inl (some (svI r))) t') : CalG C mtab (d + 330) 133 [svR (some B)] t Post := by
  have h0 := h
  obtain ⟨⟨hS, hR, hU, hN, hK⟩, lo, hi, hq, hv⟩ := h
  have h13 := hS.1.1
  have same : CFd C B t t := ⟨h0, fun _ _ _ _ => sameAt.rfl', Nat.le_refl _, by omega, by omega⟩
  refine cal133 ⟨h13, ?_⟩
  rcases hv with ⟨v1, -⟩ | ⟨T, t1, G, V, c, v1, -, v3⟩
  · rw [v1]; exact k _ t same
  rw [v1.1]
  refine ⟨h13, ?_⟩
  rcases hq with q1 | ⟨q, g, x, q1⟩
  · rw [q1]; exact k _ t same
  rw [q1.1]
  refine ⟨h13, h13, h13, ?_⟩
  have h6 : tK t (B + 6) = 2 := hS.1.2.2.2.2.2.2.2.2.1
  rw [hS.2.1.2.2.2.2.1]
  refine ⟨h6, ?_⟩
  have v3 : hi ≤ T ∨ tN t1 ≤ lo := by
    rcases v3 with z | z
    · rw [q1.1] at z; cases z
    · exact z
  obtain ⟨t2, ht2⟩ : ∃ t2, t2 = sI (sR (sR t (B + 6) 1 (some (gA G 0))) (B + 6) 2 none) (B + 6) 3 0 := ⟨_, rfl⟩
  have sm : ∀ x, x ≠ B + 6 → sameAt t t2 x := fun x hx => by
    rw [ht2]; exact ((sameAt_sR hx).trans (sameAt_sR hx)).trans (sameAt_sI hx)
  have eN : tN t2 = tN t := by rw [ht2]; rfl
  have eU : tU t2 = tU t := by rw [ht2]; rfl
  have eK : tK t2 = tK t := by rw [ht2]; rfl
  have hS2 : BSh t2 B := by rw [ht2]; exact (hS.r6 (by decide)).r6 (by decide)
  have hR2 : RwS t2 B := hR.fr (Nat.le_of_eq eN.symm) hK (fun k => (sm (B + 7) (by omega)).2.2.2.2 k) (fun x h1 h2 => sm x (by omega))
  have hq2 : CIq C B t2 lo hi q g x := q1.fr (Nat.le_of_eq eN.symm) ((sm B (by omega)).2.2.2.2 9) (fun x h1 h2 => sm x (by omega))
  have hv2 : CIv C B t2 T t1 G V c := v1.fr (Nat.le_of_eq eN.symm) ((sm B (by omega)).2.2.2.2 8) (fun x h1 h2 => sm x (by omega))
  obtain ⟨O, hO⟩ : ∃ O : Nat → Prop, O = fun z => rg lo hi z ∧ OwF t2 z := ⟨_, rfl⟩
  have hOz : ∀ z, O z → rg lo hi z := fun z hz => by rw [hO] at hz; exact hz.1
  have hE : ESt C B T t1 G V c O t2 0 := by
    refine ⟨hS2, ?_, ?_, by decide, ⟨hv2.2.1, by have := hv2.2.2.1; omega, hv2.2.2.2.1, hv2.2.2.2.2.1, fun z hz => ?_⟩, hv2.2.2.2.2.2.1, hR2, fun j hj => ⟨(hv2.2.2.2.2.2.2.1 j hj).1, (hv2.2.2.2.2.2.2.1 j hj).2.1⟩⟩
    · rw [ht2]; show tR (sR (sR t (B + 6) 1 (some (gA G 0))) (B + 6) 2 none) (B + 6) 1 = _
      rw [sR_at (by omega), sR_eq]
    · rw [ht2]; exact sI_eq
    · have := hOz z hz
      unfold rg at this
      omega
  have hQC : QCt t2 (rg lo hi) O := ⟨fun z hz => by have := hz.2; have := q1.2.2.2.1; omega, fun z hz => by rw [hO] at hz; exact ⟨hz.2, by have := hz.1.2; have := q1.2.2.2.1; omega⟩, fun z hz hw => by rw [hO]; exact ⟨hz, hw⟩⟩
  have hm2 : msR t2 B 34 = msR t B 34 := msR_eq (fun i => (sm (B + 7) (by omega)).2.2.2.2 i) 34
  have bk : ∀ x, B ≤ x → x ≤ B + 9 → tK t x ≠ 8 ∧ tK t x ≠ 104 := fun x _ h2 => hK x (by omega)
  -- what stands behind the finder
  have core : ∀ {O' K : Nat → Prop} {t3 : Ht} {lk : Nat}, EFr B O' K t2 t3 → (∀ z, O' z → O z) → ESt C B T t1 G V c O t3 lk → (∀ x, x ≤ B + 62 → x ≠ B + 6 → x ≠ B + 7 → sameAt t t3 x) ∧ CIq C B t3 lo hi q g x ∧ CIv C B t3 T t1 G V c ∧ (∃ o, tI t3 (B + 8) 1 = nI o ∧ o ≤ 2400) ∧ (∀ x, x ≤ B + 62 → tK t3 x ≠ 8 ∧ tK t3 x ≠ 104) ∧ tN t ≤ tN t3 ∧ tN t3 + 2 * msR t3 B 34 ≤ tN t + 2 * msR t B 34 ∧ tU t3 + 1002 * msR t3 B 34 ≤ tU t + 1002 * msR t B 34 := by
    intro O' K t3 lk hF hOO hE3
    have hF0 := hF
    obtain ⟨g1, g2, g3, ⟨g4, g5, g6⟩, g7, g8, g9⟩ := hF
    rw [eN] at g1 g2 g3 g8
    rw [eU, hm2] at g9
    rw [hm2] at g8
    rw [eK] at g2 g3
    have fx : ∀ x, x ≤ B + 62 → x ≠ B + 6 → x ≠ B + 7 → sameAt t t3 x := fun x h1 h2 h3 => by
      obtain ⟨a1, a2, a3⟩ := g3 x (by omega) (hK x h1).1 (hK x h1).2 h2 h3
      have a0 := g2 x (by omega)
      have s := sm x h2
      have hnO : ¬ O' x := fun w => by
        have := hOz x (hOO x w)
        unfold rg at this
        have := q1.2.2.1
        omega
      exact ⟨a0.1, a0.2.trans s.2.1, fun k => (a1 k).trans (s.2.2.1 k), fun k => (a3 k (Or.inl hnO)).trans (s.2.2.2.1 k), fun k => (a2 k).trans (s.2.2.2.2 k)⟩
    refine ⟨fx, ⟨((fx B (by omega) (by omega) (by omega)).2.2.2.2 9).trans q1.1, hq2.2.1.go hQC hE hF0 hOO, q1.2.2.1, by have := q1.2.2.2.1; omega, q1.2.2.2.2⟩, ⟨((fx B (by omega) (by omega) (by omega)).2.2.2.2 8).trans v1.1, v1.2.1, v1.2.2.1, hE3.2.2.2.2.1.2.2.1, hE3.2.2.2.2.1.2.2.2.1, v1.2.2.2.2.2⟩, ?_, fun x hx => by rw [(g2 x (by omega)).1]; exact hK x hx, g1, g8, g9⟩
    obtain ⟨o, o1, o2⟩ := hU
    exact ⟨o, ((fx (B + 8) (by omega) (by omega) (by omega)).2.2.1 1).trans o1, o2⟩
  show CalG C mtab (d + 329) 4 _ _ _
  refine cal4 ⟨h6, h6, h6, h6, ?_⟩
  rw [← ht2]
  have hg := q1.2.2.2.2
  show CalG C mtab (d + 327 + 1) 9 _ _ _
  refine (EVall (C := C) (B := B) (T := T) (t1 := t1) (G := G) (V := V) (c := c) (O := O) (.tag g x)).1.2.2.1 (rg lo hi) q 0 0 0 (d + 327) t2 _ hq2.2.1 hg.1 (by have := hg.2.1; show fdQ x 1 + 0 ≤ 16; omega) (by have := hg.2.2; show dqQ x 1 + 2 ≤ d + 327; omega) hE hQC hE.2.2.2.2.2.1 (fun v lk' _ t3 r ri hE3 hF3 hL3 _ => ?_) (fun e _ t5 he => ?_)
  · obtain ⟨f1, f2, f3, f4, f5, f6, f7, f8⟩ := core hF3 (fun z hz => hz.1) hE3
    have k6 : tK t3 (B + 6) = 2 := hE3.k2
    have hrw := hL3.1
    have hne := hrw.ne hE3
    have rr : tR (sR t3 (B + 6) 2 (some r)) (B + 6) 2 = some r := sR_eq
    refine ⟨k6, k6, cal3 (d := d + 327) ⟨k6, ?_⟩⟩
    rw [rr]
    refine ⟨k6, hrw.1, k _ _ ?_⟩
    have sx : ∀ x, x ≠ B + 6 → sameAt t3 (sR t3 (B + 6) 2 (some r)) x := fun x hx => sameAt_sR hx
    have hm : msR (sR t3 (B + 6) 2 (some r)) B 34 = msR t3 B 34 := msR_eq (fun i => (sx (B + 7) (by omega)).2.2.2.2 i) 34
    refine ⟨⟨⟨hE3.1.r6 (by decide), hE3.rw.fr (Nat.le_refl _) f5 (fun k => (sx (B + 7) (by omega)).2.2.2.2 k) (fun x h1 h2 => sx x (by omega)), f4, by show B + 62 < tN t3; omega, f5⟩, lo, hi, Or.inr ⟨q, g, x, f2.fr (Nat.le_refl _) ((sx B (by omega)).2.2.2.2 9) (fun x h1 h2 => sx x (by omega))⟩, Or.inr ⟨T, t1, G, V, c, f3.fr (Nat.le_refl _) ((sx B (by omega)).2.2.2.2 8) (fun x h1 h2 => sx x (by omega)), Or.inr ⟨r, v.1, rr, hrw.fr (Nat.le_refl _) (sx r hne.1) (sx (r + 1) hne.2.2.1), hL3.2.2.2⟩, Or.inr v3⟩⟩, fun x h1 h2 h3 => (f1 x h1 h2 h3).trans (sx x h2), f6, ?_, ?_⟩
    · rw [hm]; show tN t3 + _ ≤ _; omega
    · rw [hm]; show tU t3 + _ ≤ _; omega
  · obtain ⟨t6, hF6, hE6, -, rfl⟩ := he
    obtain ⟨f1, f2, f3, f4, f5, f6, f7, f8⟩ := core hF6 (fun z hz => hz) hE6
    have hB6 : B + 62 < tN t6 := by omega
    have sx : ∀ x, x < tN t6 → sameAt t6 (tNew t6 0 0 6) x := fun x hx => sameAt_new hx
    have eN6 : tN (tNew t6 0 0 6) = tN t6 + 1 := rfl
    have eU6 : tU (tNew t6 0 0 6) = tU t6 + 6 := rfl
    have hm : msR (tNew t6 0 0 6) B 34 = msR t6 B 34 := msR_new (m := 0) (by omega) 34
    have k6 : tK (tNew t6 0 0 6) (B + 6) = 2 := (sx (B + 6) (by omega)).1.trans hE6.k2
    have hEr : tR t6 (B + 6) 2 = none := by
      rw [hF6.2.2.2.1.1 2, ht2]
      show tR (sR (sR t (B + 6) 1 (some (gA G 0))) (B + 6) 2 none) (B + 6) 2 = none
      exact sR_eq
    refine ⟨rfl, k6, k _ _ ⟨⟨⟨hE6.1.of (by omega) (fun x h1 h2 => ⟨(sx x (by omega)).1, (sx x (by omega)).2.1⟩) (fun x k h1 h2 _ _ _ => (sx x (by omega)).2.2.2.2 k), hE6.rw.fr (by omega) f5 (fun k => (sx (B + 7) (by omega)).2.2.2.2 k) (fun x h1 h2 => sx x h1), ?_, by omega, fun x hx => by rw [(sx x (by omega)).1]; exact f5 x hx⟩, lo, hi, Or.inr ⟨q, g, x, f2.fr (by omega) ((sx B (by omega)).2.2.2.2 9) (fun x h1 h2 => sx x h1)⟩, Or.inr ⟨T, t1, G, V, c, f3.fr (by omega) ((sx B (by omega)).2.2.2.2 8) (fun x h1 h2 => sx x h1), Or.inl (((sx (B + 6) (by omega)).2.2.2.2 2).trans hEr), Or.inr v3⟩⟩, fun x h1 h2 h3 => (f1 x h1 h2 h3).trans (sx x (by omega)), by omega, ?_, ?_⟩⟩
    · obtain ⟨o, o1, o2⟩ := f4
      exact ⟨o, ((sx (B + 8) (by omega)).2.2.1 1).trans o1, o2⟩
    · rw [hm]; omega
    · rw [hm]; omega
end CFN
