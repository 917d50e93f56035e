section P1C
variable {C : Cx} {d : Nat} {Post : OutT → Ht → Prop} {t : Ht} {B : Nat}
theorem c129 {x0 a : Nat} {x1 x2 x3 x4 x5 : Int32} {v : Nat} (hx : tK t x0 = 13) (hr : tR t x0 0 = some a) (ha : tK t a = 100) (hl : tL t a = 1200) (hne : x0 ≠ a) (hv : (tI t x0 6).toInt = v) (hv4 : v + 20 ≤ 1200)
    (k : ∀ t', TF x0 a 6 t t' → (tI t' x0 6).toInt = ((v + 20 : Nat) : Int) → Post (.inl (some (svI (tI t' x0 6)))) t') : CalG C mtab (d + 2) 129 [svR (some x0), svI x1, svI x2, svI x3, svI x4, svI x5] t Post := by
  refine cal129 ?_
  have e20 : (20 : Int32).toInt = 20 := rfl
  have e12 : (1200 : Int32).toInt = 1200 := rfl
  have h20 : (tI t x0 6 + (20 : Int32)).toInt = (tI t x0 6).toInt + 20 := by rw [i_add (by rw [e20]; omega) (by rw [e20]; omega), e20]
  unfold vc129 br
  rw [i_le, h20, e12]
  refine ⟨hx, fun _ => ⟨hx, ?_⟩, fun e => absurd (by omega) e⟩
  refine c140 hx hr ha hl hne hv (by omega) (fun t2 T2 v2 => ?_)
  have K2 : tK t2 = tK t := T2.2.2.1
  have L2 : tL t2 = tL t := T2.2.2.2.1
  have R2 : tR t2 = tR t := T2.2.2.2.2.1
  refine ⟨rfl, by rw [K2]; exact hx, c140 (by rw [K2]; exact hx) (by rw [R2]; exact hr) (by rw [K2]; exact ha) (by rw [L2]; exact hl) hne v2 (by omega) (fun t3 T3 v3 => ?_)⟩
  have T3' := T2.trans T3
  have K3 : tK t3 = tK t := T3'.2.2.1
  have L3 : tL t3 = tL t := T3'.2.2.2.1
  have R3 : tR t3 = tR t := T3'.2.2.2.2.1
  refine ⟨rfl, by rw [K3]; exact hx, c140 (by rw [K3]; exact hx) (by rw [R3]; exact hr) (by rw [K3]; exact ha) (by rw [L3]; exact hl) hne v3 (by omega) (fun t4 T4 v4 => ?_)⟩
  have T4' := T3'.trans T4
  have K4 : tK t4 = tK t := T4'.2.2.1
  have L4 : tL t4 = tL t := T4'.2.2.2.1
  have R4 : tR t4 = tR t := T4'.2.2.2.2.1
  refine ⟨rfl, by rw [K4]; exact hx, c140 (by rw [K4]; exact hx) (by rw [R4]; exact hr) (by rw [K4]; exact ha) (by rw [L4]; exact hl) hne v4 (by omega) (fun t5 T5 v5 => ?_)⟩
  have T5' := T4'.trans T5
  have K5 : tK t5 = tK t := T5'.2.2.1
  have L5 : tL t5 = tL t := T5'.2.2.2.1
  have R5 : tR t5 = tR t := T5'.2.2.2.2.1
  refine ⟨rfl, by rw [K5]; exact hx, c140 (by rw [K5]; exact hx) (by rw [R5]; exact hr) (by rw [K5]; exact ha) (by rw [L5]; exact hl) hne v5 (by omega) (fun t6 T6 v6 => ?_)⟩
  have T6' := T5'.trans T6
  have K6 : tK t6 = tK t := T6'.2.2.1
  exact ⟨rfl, by rw [K6]; exact hx, k t6 T6' v6⟩
theorem f129 {x1 x2 x3 x4 x5 : Int32} (h : FP t B) (k : ∀ t', KP B t t' → Post (.inl (some (svI 20))) t') : CalG C mtab (d + 2) 129 [svR (some B), svI x1, svI x2, svI x3, svI x4, svI x5] t Post := by
  unfold FP at h
  refine c129 (a := B + 1) (v := 0) h.1 h.2.2.2.2.2.2.2.2.1 h.2.1 h.2.2.1 (by omega) (by simp only [h]; rfl) (by omega) (fun t' T v => ?_)
  have e : tI t' B 6 = 20 := i_eq.mpr (by rw [v]; rfl)
  rw [e]
  refine k t' ⟨fun q h1 _ => T.same (by omega) (by omega), ?_, ?_, ?_, ?_⟩
  · rw [T.1]; exact Nat.le_refl _
  · rw [T.1]; exact Nat.le_succ _
  · rw [T.2.1]; exact Nat.le_refl _
  · rw [T.2.1]; exact Nat.le_add_right _ _
/-! json and query of a text of no byte -/
def beg0 (t : Ht) (B : Nat) : Ht := sI (sI (sI (sI (sI (sI t (B + 2) 3 0) (B + 2) 4 0) (B + 2) 5 0) (B + 2) 6 (-1)) B 6 0) B 7 1
theorem f141n {x : Int32} (h : FP t B) (hx : ¬ x = 0) (k : Post (.inl (some (svI 0))) t) : CalG C mtab (d + 3) 141 [svR (some B), svI x] t Post := by
  refine cal141 ?_
  unfold FP at h
  unfold vc141 br
  simp only [h, onR, true_and]
  refine ⟨fun _ => ⟨Or.inl trivial, k⟩, fun e => ⟨fun e2 => absurd ?_ hx, fun _ => ⟨Or.inl trivial, k⟩⟩⟩
  rw [i_lt] at e
  rw [i_le] at e2
  rw [i_eq]
  omega
theorem f141 (h : FP t B) (k : Post (.inl (some (svI 1))) (beg0 t B)) : CalG C mtab (d + 3) 141 [svR (some B), svI 0] t Post := by
  refine cal141 ?_
  have h' := h
  unfold FP at h'
  unfold vc141 br
  simp only [h', onR, true_and]
  refine ⟨fun e => absurd e (by decide), fun _ => ⟨fun _ => ?_, fun e => absurd (Int32.le_refl 0) e⟩⟩
  refine c82 (a := B + 2) (b := B + 1) h'.2.2.2.1 h'.2.2.2.2.2.2.2.2.2.2.2.2.2.2.2.2.1 h'.2.1 h'.2.2.1 ?_
  exact ⟨rfl, h'.1, h'.1, Or.inr trivial, Or.inr trivial, k⟩
theorem f120 {a r : Nat} (hk : tK t a = 12) (hr : tR t a 0 = some r) (hkr : tK t r = 7) (h4 : tI t r 4 = 0) (h3 : tI t r 3 = 0) (k : Post (.inr (200, 0)) (tNew (sI (sI t r 5 1) r 6 0) 0 0 6)) : CalG C mtab (d + 3) 120 [svR (some a), svR none, svI 1] t Post := by
  refine cal120 ?_
  unfold vc120
  rw [hr]
  refine ⟨hk, hkr, ?_⟩
  refine c85e (b := 0) hkr (by rw [h4]; decide) (by rw [h3, h4]; decide) ?_
  refine c121n ?_
  refine ⟨fun _ => ⟨hk, hk, ?_⟩, fun e => absurd rfl e⟩
  rw [hr]
  refine ⟨hkr, hkr, ?_⟩
  rw [h4]
  exact c83 hkr k
theorem f119 {a r : Nat} (hk : tK t a = 12) (hr : tR t a 0 = some r) (hne : r ≠ a) (hkr : tK t r = 7) (h4 : tI t r 4 = 0) (h3 : tI t r 3 = 0) (k : Post (.inr (200, 0)) (tNew (sI (sI (sR (sI t a 1 0) a 2 none) r 5 1) r 6 0) 0 0 6)) : CalG C mtab (d + 4) 119 [svR (some a)] t Post := by
  refine cal119 ?_
  unfold vc119
  have hr' : tR (sR (sI t a 1 0) a 2 none) a 0 = some r := by simp only [ht]; rw [if_neg (by omega)]; exact hr
  have h4' : tI (sR (sI t a 1 0) a 2 none) r 4 = 0 := by simp only [ht]; rw [if_neg (by omega)]; exact h4
  have h3' : tI (sR (sI t a 1 0) a 2 none) r 3 = 0 := by simp only [ht]; rw [if_neg (by omega)]; exact h3
  rw [hr']
  refine ⟨hk, hk, hk, hkr, ?_⟩
  refine c87e hkr (by rw [h3', h4']; decide) ?_
  exact ⟨rfl, hk, f120 hk hr' hkr h4' h3' k⟩
theorem KP.of_fault {t' : Ht} (h1 : tN t' = tN t + 1) (h2 : tU t' = tU t + 6) (h3 : ∀ q, B + 10 ≤ q → q < tN t → sameAt t t' q) : KP B t t' := ⟨h3, by omega, by omega, by omega, by omega⟩
theorem beg0_same {q : Nat} (h : B + 10 ≤ q) : sameAt t (beg0 t B) q := by
  unfold beg0
  exact (sameAt_sI (by omega)).trans ((sameAt_sI (by omega)).trans ((sameAt_sI (by omega)).trans ((sameAt_sI (by omega)).trans ((sameAt_sI (by omega)).trans (sameAt_sI (by omega))))))
set_option maxHeartbeats 200000 in
theorem f130 {x : Int32} (h : FP t B) (hn : B + 10 ≤ tN t) (k : ∀ t', KP B t t' → Post (.inl (some (svI (if x = 0 then 1 else -1)))) t') : CalG C mtab (d + 5) 130 [svR (some B), svI x] t Post := by
  refine cal130 ?_
  have h' := h
  unfold FP at h'
  unfold vc130
  refine ⟨h'.1, ?_⟩
  by_cases hx : x = 0
  · subst hx
    refine f141 h ?_
    refine ⟨fun e => absurd e (by decide), fun _ => ?_⟩
    have r2 : tR (beg0 t B) B 2 = some (B + 4) := by simp only [beg0, ht]; exact h'.2.2.2.2.2.2.2.2.2.2.1
    have r4 : tR (beg0 t B) (B + 4) 0 = some (B + 2) := by simp only [beg0, ht]; simp only [h']
    have i4 : tI (beg0 t B) (B + 2) 4 = 0 := by simp [beg0, ht]
    have i3 : tI (beg0 t B) (B + 2) 3 = 0 := by simp [beg0, ht]
    have kB : tK (beg0 t B) = tK t := by simp only [beg0, ht]
    rw [r2]
    refine ⟨by rw [kB]; exact h'.1, by rw [kB]; simp only [h'], ?_⟩
    refine f119 (a := B + 4) (r := B + 2) (by rw [kB]; simp only [h']) r4 (by omega) (by rw [kB]; simp only [h']) i4 i3 ?_
    have n1 : ¬ B = tN t := by omega
    have n2 : ¬ B + 2 = tN t := by omega
    refine ⟨rfl, ?_, ?_⟩
    · simp [ht, beg0, n1, h']
    · have e1 : tR (tNew (sI (sI (sR (sI (beg0 t B) (B + 4) 1 0) (B + 4) 2 none) (B + 2) 5 1) (B + 2) 6 0) 0 0 6) B 1 = some (B + 2) := by simp [ht, beg0, n1, h']
      rw [e1]
      refine ⟨by simp [ht, beg0, n2, h'], ?_⟩
      have e2 : tI (tNew (sI (sI (sR (sI (beg0 t B) (B + 4) 1 0) (B + 4) 2 none) (B + 2) 5 1) (B + 2) 6 0) 0 0 6) (B + 2) 5 = 1 := by simp [ht, beg0, n2]
      rw [e2]
      have kk := k _ (KP.of_fault (t' := tNew (sI (sI (sR (sI (beg0 t B) (B + 4) 1 0) (B + 4) 2 none) (B + 2) 5 1) (B + 2) 6 0) 0 0 6) (by simp only [ht, beg0]) (by simp only [ht, beg0]) (fun q h1 h2 => ?_))
      · rw [if_pos rfl] at kk
        exact kk
      exact (beg0_same h1).trans ((sameAt_sI (by omega)).trans ((sameAt_sR (by omega)).trans ((sameAt_sI (by omega)).trans ((sameAt_sI (by omega)).trans (sameAt_new (by simp only [ht, beg0]; exact h2))))))
  · refine f141n h hx ?_
    refine ⟨fun _ => ?_, fun e => absurd rfl e⟩
    have := k t KP.rfl'
    rw [if_neg hx] at this
    exact this
theorem f49 {a r : Nat} (hk : tK t a = 6) (hr : tR t a 0 = some r) (hne : r ≠ a) (hkr : tK t r = 7) (h4 : tI t r 4 = 0) (h3 : tI t r 3 = 0) (k : Post (.inr (200, 0)) (tNew (sI (sI (sI (sI (sI t a 1 0) a 2 0) a 3 (-1)) r 5 1) r 6 0) 0 0 6)) : CalG C mtab (d + 2) 49 [svR (some a)] t Post := by
  refine cal49 ?_
  unfold vc49
  have hr' : tR (sI (sI (sI t a 1 0) a 2 0) a 3 (-1)) a 0 = some r := hr
  have h4' : tI (sI (sI (sI t a 1 0) a 2 0) a 3 (-1)) r 4 = 0 := by simp [ht, hne, h4]
  have h3' : tI (sI (sI (sI t a 1 0) a 2 0) a 3 (-1)) r 3 = 0 := by simp [ht, hne, h3]
  rw [hr']
  refine ⟨hk, hk, hk, hk, hkr, ?_⟩
  refine c85e (b := 0) hkr (by rw [h4']; decide) (by rw [h3', h4']; decide) ?_
  refine ⟨fun e => absurd e (by decide), fun _ => ⟨hk, hk, ?_⟩⟩
  rw [hr']
  refine ⟨hkr, hkr, ?_⟩
  rw [h4']
  exact c83 hkr k
set_option maxHeartbeats 200000 in
theorem f131 {x : Int32} (h : FP t B) (hn : B + 10 ≤ tN t) (k : ∀ t', KP B t t' → Post (.inl (some (svI (if x = 0 then 1 else -1)))) t') : CalG C mtab (d + 5) 131 [svR (some B), svI x] t Post := by
  refine cal131 ?_
  have h' := h
  unfold FP at h'
  unfold vc131
  refine ⟨h'.1, ?_⟩
  by_cases hx : x = 0
  · subst hx
    refine f141 h ?_
    refine ⟨fun e => absurd e (by decide), fun _ => ?_⟩
    have r3 : tR (beg0 t B) B 3 = some (B + 5) := by simp [beg0, ht, h']
    have r5 : tR (beg0 t B) (B + 5) 0 = some (B + 2) := by simp [beg0, ht, h']
    have i4 : tI (beg0 t B) (B + 2) 4 = 0 := by simp [beg0, ht]
    have i3 : tI (beg0 t B) (B + 2) 3 = 0 := by simp [beg0, ht]
    have kB : tK (beg0 t B) = tK t := by simp only [beg0, ht]
    rw [r3]
    refine ⟨by rw [kB]; exact h'.1, by rw [kB]; simp only [h'], ?_⟩
    refine f49 (a := B + 5) (r := B + 2) (by rw [kB]; simp only [h']) r5 (by omega) (by rw [kB]; simp only [h']) i4 i3 ?_
    have n1 : ¬ B = tN t := by omega
    have n2 : ¬ B + 2 = tN t := by omega
    refine ⟨rfl, ?_, ?_⟩
    · simp [ht, beg0, n1, h']
    · have e1 : tR (tNew (sI (sI (sI (sI (sI (beg0 t B) (B + 5) 1 0) (B + 5) 2 0) (B + 5) 3 (-1)) (B + 2) 5 1) (B + 2) 6 0) 0 0 6) B 1 = some (B + 2) := by simp [ht, beg0, n1, h']
      rw [e1]
      refine ⟨by simp [ht, beg0, n2, h'], ?_⟩
      have e2 : tI (tNew (sI (sI (sI (sI (sI (beg0 t B) (B + 5) 1 0) (B + 5) 2 0) (B + 5) 3 (-1)) (B + 2) 5 1) (B + 2) 6 0) 0 0 6) (B + 2) 5 = 1 := by simp [ht, beg0, n2]
      rw [e2]
      have kk := k _ (KP.of_fault (t' := tNew (sI (sI (sI (sI (sI (beg0 t B) (B + 5) 1 0) (B + 5) 2 0) (B + 5) 3 (-1)) (B + 2) 5 1) (B + 2) 6 0) 0 0 6) (by simp only [ht, beg0]) (by simp only [ht, beg0]) (fun q h1 h2 => ?_))
      · rw [if_pos rfl] at kk
        exact kk
      exact (beg0_same h1).trans ((sameAt_sI (by omega)).trans ((sameAt_sI (by omega)).trans ((sameAt_sI (by omega)).trans ((sameAt_sI (by omega)).trans ((sameAt_sI (by omega)).trans (sameAt_new (by simp only [ht, beg0]; exact h2)))))))
  · refine f141n h hx ?_
    refine ⟨fun _ => ?_, fun e => absurd rfl e⟩
    have := k t KP.rfl'
    rw [if_neg hx] at this
    exact this
end P1C
