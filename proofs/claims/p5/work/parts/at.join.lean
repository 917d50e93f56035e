/-! BOTH BETWEEN CALLS -/
/-- the fault that both tell -/
def FRl (t : Ht) (B : Nat) : Prop := (tI t B 7 = 0 ∧ tI t (B + 10) 14 = -1 ∧ tI t (B + 10) 15 = -1) ∨ (tI t B 7 ≠ 0 ∧ tI t (B + 2) 5 = tI t (B + 10) 14 ∧ tI t (B + 2) 6 = tI t (B + 10) 15)
def BgJ (t : Ht) (B tp bn bu : Nat) : Prop := tN t + 2 * msR t B 34 + 40 * tp ≤ bn ∧ tU t + 1002 * msR t B 34 + 600 * tp ≤ bu
def JS (C : Cx) (B tp : Nat) (b : By) (t : Ht) (bn bu : Nat) : Prop := CInv C B t ∧ MInv t (B + 10) ∧ TPc t B tp b ∧ TPd t (B + 10) tp b ∧ FRl t B ∧ (tK t (B + 62) = 102 ∧ tL t (B + 62) = 1) ∧ BgJ t B tp bn bu
def JE (C : Cx) (B : Nat) (t : Ht) (bn bu : Nat) : Prop := ∃ tp b, JS C B tp b t bn bu
section JON
variable {C : Cx} {d E : Nat} {Post : OutT → Ht → Prop} {t t' t2 : Ht} {B M tp bn bu : Nat} {b : By}
theorem CInv.mo (h : CInv C B t) (g : MOu (B + 10) t t') : CInv C B t' := by
  obtain ⟨g1, g2, g3, g4, g5⟩ := g
  have s8 := g3 (B + 8) (by omega)
  obtain ⟨o, o1, o2⟩ := h.1.2.2.1
  exact h.fr (Nat.le_of_eq g1.symm) (fun x h1 h2 => g3 x (by omega)) (fun x _ => ⟨by rw [g4], by rw [g5]⟩) (fun x k h1 h2 => (g3 x (by omega)).2.2.2.2 k) ⟨o, (s8.2.2.1 1).trans o1, o2⟩
theorem msR_s (h : sameAt t t' (B + 7)) : msR t' B 34 = msR t B 34 := msR_eq (fun i => h.2.2.2.2 i) 34
theorem BgJ.up {bn' bu' : Nat} (h : BgJ t B tp bn bu) (h1 : bn ≤ bn') (h2 : bu ≤ bu') : BgJ t B tp bn' bu' := ⟨Nat.le_trans h.1 h1, Nat.le_trans h.2 h2⟩
theorem JE.up {bn' bu' : Nat} (h : JE C B t bn bu) (h1 : bn ≤ bn') (h2 : bu ≤ bu') : JE C B t bn' bu' := by
  obtain ⟨tp, b, a1, a2, a3, a4, a5, a6, a7⟩ := h
  exact ⟨tp, b, a1, a2, a3, a4, a5, a6, a7.up h1 h2⟩
/-- a call of the reference that leaves the tape and the fault -/
theorem JS.m (h : JS C B tp b t bn bu) (hm : MInv t' (B + 10)) (g : MOu (B + 10) t t') (ht : ∀ k, tI t' (B + 10 + 2) k = tI t (B + 10 + 2) k) (hk : ∀ k, k = 3 ∨ k = 14 ∨ k = 15 → tI t' (B + 10) k = tI t (B + 10) k) : JE C B t' bn bu := by
  obtain ⟨a1, a2, ⟨c1, c2, c3, c4⟩, ⟨d1, d2, d3, d4⟩, a5, a6, a7⟩ := h
  have sB := g.2.2.1 B (by omega)
  have s1 := g.2.2.1 (B + 1) (by omega)
  have s2 := g.2.2.1 (B + 2) (by omega)
  have s7 := g.2.2.1 (B + 7) (by omega)
  refine ⟨tp, b, a1.mo g, hm, ⟨(sB.2.2.1 6).trans c1, c2, c3, fun k hk => by rw [s1.2.2.1 k]; exact c4 k hk⟩, ⟨(hk 3 (by omega)).trans d1, d2, d3, fun k hk => by rw [ht k]; exact d4 k hk⟩, ?_, by rw [g.2.2.2.1, g.2.2.2.2]; exact a6, ?_⟩
  · unfold FRl
    rw [sB.2.2.1 7, s2.2.2.1 5, s2.2.2.1 6, hk 14 (by omega), hk 15 (by omega)]
    exact a5
  · unfold BgJ
    rw [msR_s s7, g.1, g.2.1]; exact a7
/-- a call of the class that leaves tape and fault -/
theorem JS.c {dn du : Nat} (h : JS C B tp b t bn bu) (hc : CInv C B t') (hs : ∀ x, B + 10 ≤ x → x ≤ B + 61 → sameAt t t' x) (h62 : tK t' (B + 62) = tK t (B + 62) ∧ tL t' (B + 62) = tL t (B + 62)) (hB : ∀ k, k = 6 ∨ k = 7 → tI t' B k = tI t B k) (h1 : ∀ k, tI t' (B + 1) k = tI t (B + 1) k) (h2 : ∀ k, k = 5 ∨ k = 6 → tI t' (B + 2) k = tI t (B + 2) k) (hn : tN t' + 2 * msR t' B 34 ≤ tN t + 2 * msR t B 34 + dn) (hu : tU t' + 1002 * msR t' B 34 ≤ tU t + 1002 * msR t B 34 + du) : JS C B tp b t' (bn + dn) (bu + du) := by
  obtain ⟨a1, a2, ⟨c1, c2, c3, c4⟩, ⟨d1, d2, d3, d4⟩, a5, a6, a7, a8⟩ := h
  have sM := hs (B + 10) (by omega) (by omega)
  have sT := hs (B + 12) (by omega) (by omega)
  refine ⟨hc, a2.sm (fun x h1 h2 => hs x h1 (by omega)), ⟨(hB 6 (by omega)).trans c1, c2, c3, fun k hk => by rw [h1 k]; exact c4 k hk⟩, ⟨(sM.2.2.1 3).trans d1, d2, d3, fun k hk => by rw [show B + 10 + 2 = B + 12 from rfl, sT.2.2.1 k]; exact d4 k hk⟩, ?_, by rw [h62.1, h62.2]; exact a6, by unfold BgJ; omega⟩
  unfold FRl
  rw [hB 7 (by omega), h2 5 (by omega), h2 6 (by omega), sM.2.2.1 14, sM.2.2.1 15]
  exact a5
theorem JS.mc (h : JS C B tp b t bn bu) (g : MC B t t') (ho : ∃ o, tI t' (B + 8) 1 = nI o ∧ o ≤ 2400) : JS C B tp b t' bn bu := by
  have hc : CInv C B t' := h.1.fr (Nat.le_of_eq g.1.symm) (fun x h1 h2 => g.sa (by omega) (by omega)) (fun x _ => ⟨by rw [g.2.2.1], by rw [g.2.2.2.1]⟩) (fun x k _ _ => by rw [g.2.2.2.2.1]) ho
  have hm : msR t' B 34 = msR t B 34 := msR_s (g.sa (by omega) (by omega))
  exact h.c (dn := 0) (du := 0) hc (fun x h1 h2 => g.sa (by omega) (by omega)) ⟨by rw [g.2.2.1], by rw [g.2.2.2.1]⟩ (fun k _ => g.2.2.2.2.2.2 _ _ (Or.inl (by omega)) (by omega)) (fun k => g.2.2.2.2.2.2 _ _ (Or.inl (by omega)) (by omega)) (fun k _ => g.2.2.2.2.2.2 _ _ (Or.inl (by omega)) (by omega)) (by rw [hm, g.1]; omega) (by rw [hm, g.2.1]; omega)
/-- what a call of the reference leaves where only its texts change -/
theorem JS.mu (h : JS C B tp b t bn bu) (g : MUw (B + 10) t t') (hU : OuI t' (B + 10)) : JE C B t' bn bu :=
  h.m (h.2.1.mu g hU) g.ou (fun k => g.2.2.2.2.2.2 _ _ (Or.inl (by omega)) (by omega) (by omega)) (fun k hk => g.2.2.2.2.2.2 _ _ (Or.inr (by omega)) (by omega) (by omega))
theorem tp_x {x1 : Int32} {n : Nat} (hn : n ≤ tp) (htp : tp ≤ 1200) (e : x1 = nI n) (h : x1 < 0 ∨ ¬ x1 ≤ nI tp) : False := by
  rw [e] at h
  rcases h with h | h
  · exact absurd h (nI_nlt (b := 0) (Nat.zero_le _) (by omega))
  · exact h (nI_le hn (by omega))
theorem tp_n {x1 : Int32} {n m : Nat} (hn : n ≤ tp) (hm : m ≤ tp) (htp : tp ≤ 1200) (e : x1 = nI n) (e' : x1 = nI m) : m = n := (nI_eq (by omega) (by omega)).mp (e'.symm.trans e)
/-- behind json and query of both -/
theorem JS.rd {n w p : Nat} {v5 v6 : Int32} (h : JS C B tp b t bn bu) (hn : n ≤ tp) (hr : CJr C B t t' n) (h5 : tI t' (B + 2) 5 = v5) (h6 : tI t' (B + 2) 6 = v6) (hm : MInv t2 (B + 10)) (g : MOu (B + 10) t' t2) (m3 : tI t2 (B + 10) 3 = 0) (m14 : tI t2 (B + 10) 14 = v5) (m15 : tI t2 (B + 10) 15 = v6) : JE C B t2 (bn + 8) (bu + 600) := by
  obtain ⟨a1, a2, ⟨c1, c2, c3, c4⟩, -, a5, a6, a7, a8⟩ := h
  obtain ⟨r1, r2, ⟨r3, r4⟩, r5, r6, r7, r8⟩ := hr
  have sB := g.2.2.1 B (by omega)
  have s2 := g.2.2.1 (B + 2) (by omega)
  have s7 := g.2.2.1 (B + 7) (by omega)
  have s62 := r2 (B + 62) (by omega) (by omega)
  have hm7 : msR t' B 34 = msR t B 34 := msR_eq r8 34
  refine ⟨0, b, r1.mo g, hm, ⟨(sB.2.2.1 6).trans r3, by omega, c3, fun k hk => absurd hk (Nat.not_lt_zero _)⟩, ⟨m3, by omega, c3, fun k hk => absurd hk (Nat.not_lt_zero _)⟩, Or.inr ⟨?_, ?_, ?_⟩, by rw [g.2.2.2.1, g.2.2.2.2, s62.1, s62.2.1]; exact a6, ?_, ?_⟩
  · rw [sB.2.2.1 7, r4]; decide
  · rw [s2.2.2.1 5, h5, m14]
  · rw [s2.2.2.1 6, h6, m15]
  · rw [msR_s s7, g.1, hm7]; omega
  · rw [msR_s s7, g.2.1, hm7]; omega
theorem MInv.k17 (h : MInv t M) : tK t M = 17 := h.1.1.1
theorem TPd.sm (h : TPd t M tp b) (h1 : tI t' M 3 = tI t M 3) (h2 : ∀ k, tI t' (M + 2) k = tI t (M + 2) k) : TPd t' M tp b := ⟨h1.trans h.1, h.2.1, h.2.2.1, fun k hk => by rw [h2 k]; exact h.2.2.2 k hk⟩
/-- json -/
theorem pJson {x1 : Int32} {Q : Int32 → Int32 → Ht → Prop} (h : JS C B tp b t bn bu) (k : ∀ r t3, JE C B t3 (bn + 8) (bu + 600) → Q r r t3) : CalG C mtab (E + 141) 130 [svR (some B), svI x1] t (aftV (fun v t2 => rI v (fun r => tK t2 (B + 10) = 17 ∧ CalG C mtab (E + 141) 179 [svR (some (B + 10)), svI x1] t2 (aftV (fun v' t3 => rI v' (fun r' => Q r r' t3)) (fun k q t5 => Post (.inr (k, q)) t5)))) (fun k q t5 => Post (.inr (k, q)) t5)) := by
  have hT := h.2.2.1
  have htp := hT.2.1
  have hTd := h.2.2.2.1
  have hM := h.2.1
  have m2 : ∀ {t' n}, CJr C B t t' n → MInv t' (B + 10) ∧ TPd t' (B + 10) tp b := fun {t' n} hr => ⟨hM.sm (fun x h1 h2 => hr.2.1 x h1 (by omega)), hTd.sm ((hr.2.1 (B + 10) (by omega) (by omega)).2.2.1 3) (fun k => (hr.2.1 (B + 10 + 2) (by omega) (by omega)).2.2.1 k)⟩
  refine iJson h.1 hT (fun e => ⟨hM.k17, jJson (E := E + 69) hM hTd (fun _ t3 a1 a2 a3 a4 => k _ t3 ((h.m a1 a2 a3 a4).up (by omega) (by omega))) (fun n hn e' => (tp_x hn htp e' e).elim) (fun n hn e' => (tp_x hn htp e' e).elim)⟩) (fun n hn e w p he t' hr h5 h6 => ?_) (fun n hn e j c V' he t' hr h5 h6 => ?_)
  · obtain ⟨hm, ht⟩ := m2 hr
    refine ⟨hm.k17, jJson (E := E + 69) hm ht (fun e' => (tp_x hn htp e e').elim) (fun n' hn' e' w' p' he' t3 a1 a2 a3 a4 a5 => ?_) (fun n' hn' e' j c V' he' => ?_)⟩
    · have en := tp_n hn hn' htp e e'
      subst en
      rw [he] at he'
      injection he' with he'
      injection he' with e1 e2
      subst e1 e2
      exact k _ t3 (h.rd (w := w) (p := p) hn hr h5 h6 a1 a2 a3 a4 a5)
    · have en := tp_n hn hn' htp e e'
      subst en
      rw [he] at he'
      cases he'
  · obtain ⟨hm, ht⟩ := m2 hr
    refine ⟨hm.k17, jJson (E := E + 69) hm ht (fun e' => (tp_x hn htp e e').elim) (fun n' hn' e' w' p' he' => ?_) (fun n' hn' e' j' c' V'' he' t3 a1 a2 a3 a4 a5 => k _ t3 (h.rd (w := 0) (p := 0) hn hr h5 h6 a1 a2 a3 a4 a5))⟩
    have en := tp_n hn hn' htp e e'
    subst en
    rw [he] at he'
    cases he'
/-- query -/
theorem pQuery {x1 : Int32} {Q : Int32 → Int32 → Ht → Prop} (h : JS C B tp b t bn bu) (k : ∀ r t3, JE C B t3 (bn + 8) (bu + 600) → Q r r t3) : CalG C mtab (E + 231) 131 [svR (some B), svI x1] t (aftV (fun v t2 => rI v (fun r => tK t2 (B + 10) = 17 ∧ CalG C mtab (E + 231) 213 [svR (some (B + 10)), svI x1] t2 (aftV (fun v' t3 => rI v' (fun r' => Q r r' t3)) (fun k q t5 => Post (.inr (k, q)) t5)))) (fun k q t5 => Post (.inr (k, q)) t5)) := by
  have hT := h.2.2.1
  have htp := hT.2.1
  have hTd := h.2.2.2.1
  have hM := h.2.1
  have m2 : ∀ {t' n}, CJr C B t t' n → MInv t' (B + 10) ∧ TPd t' (B + 10) tp b := fun {t' n} hr => ⟨hM.sm (fun x h1 h2 => hr.2.1 x h1 (by omega)), hTd.sm ((hr.2.1 (B + 10) (by omega) (by omega)).2.2.1 3) (fun k => (hr.2.1 (B + 10 + 2) (by omega) (by omega)).2.2.1 k)⟩
  refine iQuery h.1 hT (fun e => ⟨hM.k17, jQuery (E := E + 1) hM hTd (fun _ t3 a1 a2 a3 a4 => k _ t3 ((h.m a1 a2 a3 a4).up (by omega) (by omega))) (fun n hn e' => (tp_x hn htp e' e).elim) (fun n hn e' => (tp_x hn htp e' e).elim)⟩) (fun n hn e w p he t' hr h5 h6 => ?_) (fun n hn e s x he t' hr h5 h6 => ?_)
  · obtain ⟨hm, ht⟩ := m2 hr
    refine ⟨hm.k17, jQuery (E := E + 1) hm ht (fun e' => (tp_x hn htp e e').elim) (fun n' hn' e' w' p' he' t3 a1 a2 a3 a4 a5 => ?_) (fun n' hn' e' s' x' he' => ?_)⟩
    · have en := tp_n hn hn' htp e e'
      subst en
      rw [he] at he'
      injection he' with he'
      injection he' with e1 e2
      subst e1 e2
      exact k _ t3 (h.rd (w := w) (p := p) hn hr h5 h6 a1 a2 a3 a4 a5)
    · have en := tp_n hn hn' htp e e'
      subst en
      rw [he] at he'
      cases he'
  · obtain ⟨hm, ht⟩ := m2 hr
    refine ⟨hm.k17, jQuery (E := E + 1) hm ht (fun e' => (tp_x hn htp e e').elim) (fun n' hn' e' w' p' he' => ?_) (fun n' hn' e' s' x' he' t3 a1 a2 a3 a4 a5 => k _ t3 (h.rd (w := 0) (p := 0) hn hr h5 h6 a1 a2 a3 a4 a5))⟩
    have en := tp_n hn hn' htp e e'
    subst en
    rw [he] at he'
    cases he'
/-- fault -/
theorem pFault {x1 : Int32} {Q : Int32 → Int32 → Ht → Prop} (h : JS C B tp b t bn bu) (k : ∀ r t3, JE C B t3 bn bu → Q r r t3) : CalG C mtab (d + 1) 132 [svR (some B), svI x1] t (aftV (fun v t2 => rI v (fun r => tK t2 (B + 10) = 17 ∧ CalG C mtab (d + 1) 180 [svR (some (B + 10)), svI x1] t2 (aftV (fun v' t3 => rI v' (fun r' => Q r r' t3)) (fun k q t5 => Post (.inr (k, q)) t5)))) (fun k q t5 => Post (.inr (k, q)) t5)) := by
  have hM := h.2.1
  have h17 := hM.k17
  have g : MUw (B + 10) t (sI t (B + 10) 0 0) := MUw.of (MU.I (Or.inl rfl))
  have kk : ∀ r, Q r r (sI t (B + 10) 0 0) := fun r => k r _ (h.mu g (hM.2.1.fr (sI_at (by omega))))
  refine cFault h.1.1.1 ⟨h17, cal180 ⟨h17, fun e0 => ⟨h17, ?_⟩, fun e0 => ⟨fun e1 => ⟨h17, ?_⟩, fun e1 => ?_⟩⟩⟩
  · rw [sI_at (by omega)]
    have : (if tI t B 7 = 0 then -1 else if x1 = 0 then tI t (B + 2) 5 else if x1 = 1 then tI t (B + 2) 6 else -1) = tI t (B + 10) 14 := by
      rcases h.2.2.2.2.1 with ⟨f1, f2, f3⟩ | ⟨f1, f2, f3⟩
      · rw [if_pos f1, f2]
      · rw [if_neg f1, if_pos e0, f2]
    rw [this]; exact kk _
  · rw [sI_at (by omega)]
    have : (if tI t B 7 = 0 then -1 else if x1 = 0 then tI t (B + 2) 5 else if x1 = 1 then tI t (B + 2) 6 else -1) = tI t (B + 10) 15 := by
      rcases h.2.2.2.2.1 with ⟨f1, f2, f3⟩ | ⟨f1, f2, f3⟩
      · rw [if_pos f1, f3]
      · rw [if_neg f1, if_neg e0, if_pos e1, f3]
    rw [this]; exact kk _
  · have : (if tI t B 7 = 0 then -1 else if x1 = 0 then tI t (B + 2) 5 else if x1 = 1 then tI t (B + 2) 6 else -1) = (-1 : Int32) := by
      rcases h.2.2.2.2.1 with ⟨f1, f2, f3⟩ | ⟨f1, f2, f3⟩
      · rw [if_pos f1]
      · rw [if_neg f1, if_neg e0, if_neg e1]
    rw [this]; exact kk _
end JON
