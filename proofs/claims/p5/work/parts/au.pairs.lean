/-! BOTH TOGETHER: the other calls -/
section PAI
variable {C : Cx} {d E : Nat} {Post : OutT → Ht → Prop} {t t' t2 : Ht} {B M tp bn bu : Nat} {b : By}
theorem CalG.imp {j : Nat} {as : List SV} {P P' : OutT → Ht → Prop} (h : CalG C mtab d j as t P) (k : ∀ o t, P o t → P' o t) : CalG C mtab d j as t P' := by
  obtain ⟨q, h1, o, t1, h2, h3⟩ := h
  exact ⟨q, h1, o, t1, k o t1 h2, h3⟩
theorem aft_I {f f' : Int32 → Ht → Prop} {g : Nat → Nat → Ht → Prop} {o : OutT} (h : aftV (fun v t => rI v (fun r => f r t)) g o t) (k : ∀ r t, f r t → f' r t) : aftV (fun v t => rI v (fun r => f' r t)) g o t := by
  cases o with
  | inl v =>
    cases v with
    | none => exact h
    | some x =>
      cases x with
      | inl r => exact k r t h
      | inr y => cases y <;> exact h
  | inr e => exact h
theorem aft_J {f f' : Int64 → Ht → Prop} {g : Nat → Nat → Ht → Prop} {o : OutT} (h : aftV (fun v t => rJ v (fun r => f r t)) g o t) (k : ∀ r t, f r t → f' r t) : aftV (fun v t => rJ v (fun r => f' r t)) g o t := by
  cases o with
  | inl v =>
    cases v with
    | none => exact h
    | some x =>
      cases x with
      | inl r => exact h
      | inr y =>
        cases y with
        | inl r => exact k r t h
        | inr z => exact h
  | inr e => exact h
/-- the tape behind a feed -/
theorem tape_x {x1 x2 x3 x4 x5 : Int32} (hb : ∀ k, b k < 256) : ∃ b' : By, (∀ k, b' k < 256) ∧ (∀ k, k < tp → b' k = b k) ∧ ∀ j, j < 20 → wB x1 x2 x3 x4 x5 j &&& 255 = nI (b' (tp + j)) := by
  obtain ⟨f, hf⟩ := Classical.axiomOfChoice (r := fun (j : Nat) (n : Nat) => n < 256 ∧ wB x1 x2 x3 x4 x5 j &&& 255 = nI n) (fun j => byW_n (wd5 x1 x2 x3 x4 x5 j) (j % 4))
  refine ⟨fun k => if k < tp then b k else f (k - tp), fun k => ?_, fun k hk => if_pos hk, fun j hj => ?_⟩
  · show (if k < tp then b k else f (k - tp)) < 256
    split
    · exact hb k
    · exact (hf _).1
  · show _ = nI (if tp + j < tp then b (tp + j) else f (tp + j - tp))
    rw [if_neg (by omega), show tp + j - tp = j by omega]
    exact (hf j).2
set_option maxHeartbeats 1000000 in
/-- feed -/
theorem pFeed {x1 x2 x3 x4 x5 : Int32} {Q : Int32 → Int32 → Ht → Prop} (h : JS C B tp b t bn bu) (k : ∀ r t3, JE C B t3 (bn + 800) (bu + 12000) → Q r r t3) : CalG C mtab (d + 2) 129 [svR (some B), svI x1, svI x2, svI x3, svI x4, svI x5] t (aftV (fun v t2 => rI v (fun r => tK t2 (B + 10) = 17 ∧ CalG C mtab (d + 2) 154 [svR (some (B + 10)), svI x1, svI x2, svI x3, svI x4, svI x5] t2 (aftV (fun v' t3 => rI v' (fun r' => Q r r' t3)) (fun k q t5 => Post (.inr (k, q)) t5)))) (fun k q t5 => Post (.inr (k, q)) t5)) := by
  have hT := h.2.2.1
  have htp := hT.2.1
  have hTd := h.2.2.2.1
  have hM := h.2.1
  have h17 := hM.k17
  refine cFeed h.1.1.1 hT.1 htp (fun e => ⟨h17, mFeed (d := d + 1) hM.1.1 hTd.1 htp (fun _ => ?_) (fun e' => absurd e' (by omega))⟩) (fun e t2 hF h6 hW => ?_)
  · have g : MUw (B + 10) t (sI t (B + 10) 0 0) := MUw.of (MU.I (Or.inl rfl))
    exact k _ _ ((h.mu g (hM.2.1.fr (sI_at (by omega)))).up (by omega) (by omega))
  · have sx : ∀ x, x ≠ B → x ≠ B + 1 → sameAt t t2 x := fun x h1 h2 => hF.same h1 h2
    have hM2 : MInv t2 (B + 10) := hM.sm (fun x h1 h2 => sx x (by omega) (by omega))
    have s10 := sx (B + 10) (by omega) (by omega)
    refine ⟨hM2.k17, mFeed (d := d + 1) hM2.1.1 ((s10.2.2.1 3).trans hTd.1) htp (fun e' => absurd e (by omega)) (fun _ t3 hF3 h3 hW3 => k _ t3 ?_)⟩
    obtain ⟨b', b1, b2, b3⟩ := tape_x (tp := tp) (x1 := x1) (x2 := x2) (x3 := x3) (x4 := x4) (x5 := x5) hT.2.2.1
    have sy : ∀ x, x ≠ B + 10 → x ≠ B + 10 + 2 → sameAt t2 t3 x := fun x h1 h2 => (sameAt_sI h1).trans (hF3.same h1 h2)
    have g : MOu (B + 10) t2 t3 := ⟨hF3.1, hF3.2.1, fun x hx => sy x (by omega) (by omega), hF3.2.2.1, hF3.2.2.2.1⟩
    have mi : ∀ k, k ≠ 3 → k ≠ 0 → tI t3 (B + 10) k = tI t2 (B + 10) k := fun k h1 h2 => by
      rw [hF3.2.2.2.2.2.2 (B + 10) k (by omega) (Or.inr h1), sI_at (by omega)]
    have hM3 : MInv t3 (B + 10) := hM2.gen (fun x h1 h2 => ⟨by rw [hF3.2.2.1]; rfl, by rw [hF3.2.2.2.1]; rfl, fun k => by rw [hF3.2.2.2.2.1]; rfl⟩) (fun x k _ _ => by rw [hF3.2.2.2.2.2.1]; rfl) (fun x k h1 h2 => (sy x (by omega) (by omega)).2.2.1 k) (mi 12 (by decide) (by decide)) (mi 13 (by decide) (by decide)) (mi 24 (by decide) (by decide)) (hM2.2.1.fr (mi 35 (by decide) (by decide)))
    have hC2 : CInv C B t2 := by
      obtain ⟨o, o1, o2⟩ := h.1.1.2.2.1
      exact h.1.fr (Nat.le_of_eq hF.1.symm) (fun x h1 h2 => sx x (by omega) (by omega)) (fun x _ => ⟨by rw [hF.2.2.1], by rw [hF.2.2.2.1]⟩) (fun x k _ _ => by rw [hF.2.2.2.2.1]) ⟨o, ((sx (B + 8) (by omega) (by omega)).2.2.1 1).trans o1, o2⟩
    have sB := sy B (by omega) (by omega)
    have sT := sy (B + 1) (by omega) (by omega)
    have m7 : msR t3 B 34 = msR t B 34 := (msR_s (sy (B + 7) (by omega) (by omega))).trans (msR_s (sx (B + 7) (by omega) (by omega)))
    refine ⟨tp + 20, b', hC2.mo g, hM3, ⟨(sB.2.2.1 6).trans h6, e, b1, fun k hk => ?_⟩, ⟨h3, e, b1, fun k hk => ?_⟩, ?_, ?_, ?_⟩
    · rw [sT.2.2.1 k]
      by_cases z : k < tp
      · rw [hW.2 k z, b2 k z]; exact hT.2.2.2 k z
      · have := hW.1 (k - tp) (by omega)
        rw [show tp + (k - tp) = k by omega] at this
        rw [this, b3 (k - tp) (by omega), show tp + (k - tp) = k by omega]
    · by_cases z : k < tp
      · rw [hW3.2 k z, sI_at (by omega), (sx (B + 10 + 2) (by omega) (by omega)).2.2.1 k, b2 k z]; exact hTd.2.2.2 k z
      · have := hW3.1 (k - tp) (by omega)
        rw [show tp + (k - tp) = k by omega] at this
        rw [this, b3 (k - tp) (by omega), show tp + (k - tp) = k by omega]
    · unfold FRl
      rw [sB.2.2.1 7, (sy (B + 2) (by omega) (by omega)).2.2.1 5, (sy (B + 2) (by omega) (by omega)).2.2.1 6, mi 14 (by decide) (by decide), mi 15 (by decide) (by decide), hF.2.2.2.2.2.2 B 7 (by omega) (Or.inr (by decide)), (sx (B + 2) (by omega) (by omega)).2.2.1 5, (sx (B + 2) (by omega) (by omega)).2.2.1 6, s10.2.2.1 14, s10.2.2.1 15]
      exact h.2.2.2.2.1
    · rw [(sy (B + 62) (by omega) (by omega)).1, (sy (B + 62) (by omega) (by omega)).2.1, (sx (B + 62) (by omega) (by omega)).1, (sx (B + 62) (by omega) (by omega)).2.1]; exact h.2.2.2.2.2.1
    · have hb := h.2.2.2.2.2.2
      unfold BgJ at hb ⊢
      rw [m7, g.1, g.2.1, hF.1, hF.2.1]
      omega
/-- find -/
theorem pFind {Q : Int32 → Int32 → Ht → Prop} (h : JS C B tp b t bn bu) (k : ∀ r r' t3, JE C B t3 (bn + 1) (bu + 6) → Q r r' t3) : CalG C mtab (d + 1105) 133 [svR (some B)] t (aftV (fun v t2 => rI v (fun r => tK t2 (B + 10) = 17 ∧ CalG C mtab (d + 1105) 234 [svR (some (B + 10))] t2 (aftV (fun v' t3 => rI v' (fun r' => Q r r' t3)) (fun k q t5 => Post (.inr (k, q)) t5)))) (fun k q t5 => Post (.inr (k, q)) t5)) := by
  refine cFind (d := d + 775) h.1 (fun r t2 ⟨f1, f2, f3, f4, f5⟩ => ?_)
  have h2 : JS C B tp b t2 (bn + 1) (bu + 6) := h.c f1 (fun x h1 h2 => f2 x (by omega) (by omega) (by omega)) ⟨(f2 (B + 62) (by omega) (by omega) (by omega)).1, (f2 (B + 62) (by omega) (by omega) (by omega)).2.1⟩ (fun k _ => (f2 B (by omega) (by omega) (by omega)).2.2.1 k) (fun k => (f2 (B + 1) (by omega) (by omega) (by omega)).2.2.1 k) (fun k _ => (f2 (B + 2) (by omega) (by omega) (by omega)).2.2.1 k) f4 f5
  exact ⟨h2.2.1.k17, jFind h2.2.1 (fun r' t3 a1 a2 a3 a4 => k r r' t3 (h2.m a1 a2 a3 a4))⟩
/-- found -/
theorem pFound {x1 x2 : Int32} {Q : Int32 → Int32 → Ht → Prop} (h : JS C B tp b t bn bu) (k : ∀ r r' t3, JE C B t3 bn bu → Q r r' t3) : CalG C mtab (d + 4) 134 [svR (some B), svI x1, svI x2] t (aftV (fun v t2 => rI v (fun r => tK t2 (B + 10) = 17 ∧ CalG C mtab (d + 4) 237 [svR (some (B + 10)), svI x1, svI x2] t2 (aftV (fun v' t3 => rI v' (fun r' => Q r r' t3)) (fun k q t5 => Post (.inr (k, q)) t5)))) (fun k q t5 => Post (.inr (k, q)) t5)) := by
  obtain ⟨S, P, V, c, hf⟩ := h.2.1.fd
  exact cFound h.1 (fun r => ⟨h.2.1.k17, mFound (d := d + 2) hf h.2.1.2.1 (fun r' t3 a1 a2 => k r r' t3 (h.mu a1 a2))⟩)
/-- number -/
theorem pNumber {x1 : Int32} {Q : Int64 → Int64 → Ht → Prop} (h : JS C B tp b t bn bu) (k : ∀ r r' t3, JE C B t3 bn bu → Q r r' t3) : CalG C mtab (d + 3) 135 [svR (some B), svI x1] t (aftV (fun v t2 => rJ v (fun r => tK t2 (B + 10) = 17 ∧ CalG C mtab (d + 3) 238 [svR (some (B + 10)), svI x1] t2 (aftV (fun v' t3 => rJ v' (fun r' => Q r r' t3)) (fun k q t5 => Post (.inr (k, q)) t5)))) (fun k q t5 => Post (.inr (k, q)) t5)) := by
  obtain ⟨S, P, V, c, hf⟩ := h.2.1.fd
  exact cNumber h.1 (fun r => ⟨h.2.1.k17, mNumber (d := d + 1) hf h.2.1.2.1 (fun r' t3 a1 a2 => k r r' t3 (h.mu a1 a2))⟩)
/-- path -/
theorem pPath {x1 : Int32} {Q : Int32 → Int32 → Ht → Prop} (h : JS C B tp b t bn bu) (k : ∀ r r' t3, JE C B t3 bn bu → Q r r' t3) : CalG C mtab (d + 40) 136 [svR (some B), svI x1] t (aftV (fun v t2 => rI v (fun r => tK t2 (B + 10) = 17 ∧ CalG C mtab (d + 40) 244 [svR (some (B + 10)), svI x1] t2 (aftV (fun v' t3 => rI v' (fun r' => Q r r' t3)) (fun k q t5 => Post (.inr (k, q)) t5)))) (fun k q t5 => Post (.inr (k, q)) t5)) := by
  refine cPath h.1 (fun r t2 g ho => ?_)
  have h2 := h.mc g ho
  obtain ⟨S, P, V, c, hf⟩ := h2.2.1.fd
  exact ⟨h2.2.1.k17, mPath (d := d + 36) hf h2.2.1.2.1 (fun r' t3 a1 a2 => k r r' t3 (h2.mu a1 a2))⟩
/-- text -/
theorem pText {x1 : Int32} {Q : Int32 → Int32 → Ht → Prop} (h : JS C B tp b t bn bu) (k : ∀ r r' t3, JE C B t3 bn bu → Q r r' t3) : CalG C mtab (d + 70) 137 [svR (some B), svI x1] t (aftV (fun v t2 => rI v (fun r => tK t2 (B + 10) = 17 ∧ CalG C mtab (d + 70) 246 [svR (some (B + 10)), svI x1] t2 (aftV (fun v' t3 => rI v' (fun r' => Q r r' t3)) (fun k q t5 => Post (.inr (k, q)) t5)))) (fun k q t5 => Post (.inr (k, q)) t5)) := by
  refine cText h.1 (fun r t2 g ho => ?_)
  have h2 := h.mc g ho
  obtain ⟨S, P, V, c, hf⟩ := h2.2.1.fd
  exact ⟨h2.2.1.k17, mText (d := d + 34) hf h2.2.1.2.1 (fun r' t3 a1 a2 => k r r' t3 (h2.mu a1 a2))⟩
/-- out -/
theorem pOut {x1 : Int32} {Q : Int32 → Int32 → Ht → Prop} (h : JS C B tp b t bn bu) (k : ∀ r r' t3, JE C B t3 (bn + 1) (bu + 6) → Q r r' t3) : CalG C mtab (d + 5) 281 [svR (some B), svI x1, svR (some (B + 62))] t (aftV (fun v t2 => rI v (fun r => tK t2 (B + 10) = 17 ∧ CalG C mtab (d + 5) 247 [svR (some (B + 10)), svI x1] t2 (aftV (fun v' t3 => rI v' (fun r' => Q r r' t3)) (fun k q t5 => Post (.inr (k, q)) t5)))) (fun k q t5 => Post (.inr (k, q)) t5)) := by
  have hN := h.1.1.2.2.2.1
  have ho := h.1.1.2.2.1
  have fin : ∀ {r : Int32} {t2 : Ht}, JS C B tp b t2 (bn + 1) (bu + 6) → tK t2 (B + 10) = 17 ∧ CalG C mtab (d + 5) 247 [svR (some (B + 10)), svI x1] t2 (aftV (fun v' t3 => rI v' (fun r' => Q r r' t3)) (fun k q t5 => Post (.inr (k, q)) t5)) := fun {r t2} h2 => ⟨h2.2.1.k17, mOut (d := d + 4) h2.2.1.1.2.1 h2.2.1.2.1 (fun r' t3 a1 a2 => k r r' t3 (h2.mu a1 a2))⟩
  refine cOut h.1 h.2.2.2.2.2.1 (fin ?_) (fun v => fin ?_)
  · have sx : ∀ x, x < tN t → sameAt t (tNew t 0 0 6) x := fun x hx => sameAt_new hx
    have m7 : msR (tNew t 0 0 6) B 34 = msR t B 34 := msR_s (sx _ (by omega))
    obtain ⟨o, o1, o2⟩ := ho
    refine h.c (h.1.fr (Nat.le_succ _) (fun x h1 _ => sx x h1) (fun x hx => ⟨(sx x (by omega)).1, (sx x (by omega)).2.1⟩) (fun x k _ _ => (sx x (by omega)).2.2.2.2 k) ⟨o, ((sx (B + 8) (by omega)).2.2.1 1).trans o1, o2⟩) (fun x h1 h2 => sx x (by omega)) ⟨(sx _ (by omega)).1, (sx _ (by omega)).2.1⟩ (fun k _ => (sx B (by omega)).2.2.1 k) (fun k => (sx (B + 1) (by omega)).2.2.1 k) (fun k _ => (sx (B + 2) (by omega)).2.2.1 k) ?_ ?_
    · rw [m7]; show tN t + 1 + _ ≤ _; omega
    · rw [m7]; show tU t + 6 + _ ≤ _; omega
  · have sx : ∀ x, x ≠ B + 62 → sameAt t (sJ t (B + 62) 0 v) x := fun x hx => sameAt_sJ hx
    have m7 : msR (sJ t (B + 62) 0 v) B 34 = msR t B 34 := msR_s (sx _ (by omega))
    obtain ⟨o, o1, o2⟩ := ho
    refine h.c (h.1.fr (Nat.le_refl _) (fun x h1 h2 => sx x (by omega)) (fun x hx => ⟨rfl, rfl⟩) (fun x k _ _ => rfl) ⟨o, o1, o2⟩) (fun x h1 h2 => sx x (by omega)) ⟨rfl, rfl⟩ (fun k _ => rfl) (fun k => rfl) (fun k _ => rfl) ?_ ?_
    · rw [m7]; show tN t + _ ≤ _; omega
    · rw [m7]; show tU t + _ ≤ _; omega
/-- about -/
theorem pAbout {x1 : Int32} {Q : Int32 → Int32 → Ht → Prop} (h : JS C B tp b t bn bu) (k : ∀ r r' t3, JE C B t3 bn bu → Q r r' t3) : CalG C mtab (d + 3) 139 [svR (some B), svI x1] t (aftV (fun v t2 => rI v (fun r => tK t2 (B + 10) = 17 ∧ CalG C mtab (d + 3) 248 [svR (some (B + 10)), svI x1] t2 (aftV (fun v' t3 => rI v' (fun r' => Q r r' t3)) (fun k q t5 => Post (.inr (k, q)) t5)))) (fun k q t5 => Post (.inr (k, q)) t5)) := by
  have hM := h.2.1
  obtain ⟨f, hU, S, S', P, P', hTb, hV, hQ⟩ := h.2.1
  obtain ⟨⟨a1, a2, a3⟩, a4, a5, a6⟩ := hTb.mk2
  exact cAbout h.1 (fun r => ⟨f.1.1, mAbout (d := d + 2) f.2.1 ⟨hTb.2.2.1, (f.rw a2).1⟩ ⟨hTb.2.2.2.2.1, (f.pa a5).1⟩ hU (fun r' t3 b1 b2 => k r r' t3 (h.mu b1 b2))⟩)
end PAI
