/-! value, the call -/
section MVM
variable {C : Cx} {d E f p : Nat} {t t' : Ht} {M S : Nat} {b : By} {n i q : Nat} {V : VT} {c : Nat}
/-- the new row, before its kind -/
def RW (S c dp : Nat) (u : Option Nat) (t' : Ht) : Prop := (tI t' (S + 2) c = -1 ∧ tI t' (S + 3) c = -1 ∧ tI t' (S + 4) c = -1) ∧ (tI t' (S + 5) c = oIx u ∧ tI t' (S + 6) c = 0) ∧ (tI t' (S + 8) c = nI dp ∧ tJ t' (S + 12) c = 0)
theorem RW.eq {dp : Nat} {u : Option Nat} (h : RW S c dp u t) (h1 : ∀ k, 2 ≤ k → k ≤ 8 → tI t' (S + k) c = tI t (S + k) c) (h2 : tJ t' (S + 12) c = tJ t (S + 12) c) : RW S c dp u t' := by
  obtain ⟨⟨a1, a2, a3⟩, ⟨a4, a5⟩, a6, a7⟩ := h
  exact ⟨⟨(h1 2 (by omega) (by omega)).trans a1, (h1 3 (by omega) (by omega)).trans a2, (h1 4 (by omega) (by omega)).trans a3⟩, ⟨(h1 5 (by omega) (by omega)).trans a4, (h1 6 (by omega) (by omega)).trans a5⟩, (h1 8 (by omega) (by omega)).trans a6, h2.trans a7⟩
theorem RW.x {dp q' : Nat} {u : Option Nat} (hS : S = M + 4 ∨ S = M + 17) (h : RW S c dp u t) (hx : MX M (M + 1) (M + 3) q' t t') : RW S c dp u t' :=
  h.eq (fun k _ _ => hx.2.2.2.2.2.2.1 _ _ (Or.inl (by omega)) (by omega) (Or.inl (by omega))) (hx.2.2.2.2.2.1 _ _ (Or.inl (by omega)))
set_option maxHeartbeats 4000000 in
theorem m174 (hf : f ≤ 30) (ih : ∀ f0, f = f0 + 1 → P174 C M S b n (E + 8) f0) : P174 C M S b n (E + 10) f := by
  intro Post t i c q V u h hu k1 k2
  have hn : n ≤ 1200 := h.1.1.2.2.2.2.2.2.2.2.1
  have hb := h.1.1.2.2.2.2.2.2.2.2.2.2.1
  obtain ⟨hS0, hK, h11, h15, hA, hA2, hA3⟩ := h.2.2.1
  have hin := h.2.1
  have q24 := h.2.2.2.2.2.1
  have qhi := h.2.2.2.2.2.2
  have hat := h.1.1.2.2.2.2.2.2.2.1
  have hs1 := h.1.1.2.1
  have h16 := h.1.1.2.2.1
  have hc300 := h.2.2.2.2.1.2.2
  have cc : c < 300 → (nI c).toNatClampNeg = c := fun z => nI_clamp (by omega)
  have cin : c < 300 → vp_in (nI c) 300 := fun z => vp_in_nI z (by decide)
  have lim : vaS b n (wnS b n true) f u i c V = .inr (4, i) → CalG C mtab (E + 9) 153 [svR (some M), svI (4 : Int32), svI (tI t M 5)] t (aftV (fun v2 t3 => rR v2 (fun x7 => onR x7 (fun a8 => tK t3 a8 = 16 ∧ Post (.inr (16, a8)) t3))) (fun k4 q5 t6 => Post (.inr (k4, q5)) t6)) := fun e => by
    rw [hat]
    exact c153 (s := M + 1) hK hs1 h16 ⟨h16, k2 4 i (Or.inl e) _ FZ.mb⟩
  refine cal174b (fun m l3 t' => m = 7 ∧ l3 = pk b n i ∧ t' = t ∧ ∃ k, kdB (pk b n i) = some k) (fun m l3 t' => m = 6 ∧ l3 = pk b n i ∧ t' = t ∧ c < 300 ∧ 0 < f ∧ ∃ k, kdB (pk b n i) = some k)
    (fun m l3 l4 t' => m = 5 ∧ l3 = pk b n i ∧ l4 = nI c ∧ c < 300 ∧ 0 < f ∧ (∃ k, kdB (pk b n i) = some k) ∧ SG M S b n i q c (31 - f) V t t')
    (fun m l3 l4 t' => m = 4 ∧ l3 = pk b n i ∧ l4 = nI c ∧ c < 300 ∧ 0 < f ∧ (∃ k, kdB (pk b n i) = some k) ∧ SG M S b n i q c (31 - f) V t t' ∧ (tI t' (S + 2) c = -1 ∧ tI t' (S + 3) c = -1 ∧ tI t' (S + 4) c = -1))
    (fun m l3 l4 t' => m = 3 ∧ l3 = pk b n i ∧ l4 = nI c ∧ c < 300 ∧ 0 < f ∧ (∃ k, kdB (pk b n i) = some k) ∧ SG M S b n i q c (31 - f) V t t' ∧ (tI t' (S + 2) c = -1 ∧ tI t' (S + 3) c = -1 ∧ tI t' (S + 4) c = -1) ∧ (tI t' (S + 5) c = oIx u ∧ tI t' (S + 6) c = 0))
    (fun m l3 l4 t' => m = 2 ∧ l3 = pk b n i ∧ l4 = nI c ∧ c < 300 ∧ 0 < f ∧ (∃ k, kdB (pk b n i) = some k) ∧ SG M S b n i q c (31 - f) V t t' ∧ RW S c (31 - f) u t')
    (fun m l3 l4 t' => m = 1 ∧ l3 = pk b n i ∧ l4 = nI c ∧ c < 300 ∧ 0 < f ∧ (∃ k, kdB (pk b n i) = some k) ∧ SG M S b n i q c (31 - f) V t t' ∧ RW S c (31 - f) u t')
    (fun m l3 l4 t' => m = 0 ∧ Post (.inl (some (svI l4))) t') ?_ ?_ ?_ ?_ ?_ ?_ ?_ ?_ ?_
  · refine ⟨hK, m156 h.1.1 (p172 ?_)⟩
    cases hkd : kdB (pk b n i) with
    | none =>
      refine ⟨fun _ => ⟨hK, mBad h.1.1 (k2 1 i (Or.inl ?_) _ FZ.mb)⟩, fun z => absurd rfl z⟩
      cases f <;> (rw [vaS, hkd])
    | some k => exact ⟨fun z => absurd z (by show ¬ (1 : Int32) = 0; decide), fun _ => ⟨7, rfl, rfl, rfl, rfl, rfl, rfl, k, rfl⟩⟩
  · rintro m l3 t' ⟨rfl, rfl, rfl, k, hkd⟩
    refine ⟨hK, onS h11 ⟨h15, ?_⟩⟩
    rw [h.2.2.2.2.1.1]
    refine ⟨fun e => ⟨hK, hK, lim ?_⟩, fun e => ⟨fun e2 => ⟨6, by decide, rfl, rfl, rfl, rfl, rfl, rfl, ?_, ?_, k, hkd⟩, fun e2 => ⟨hK, hK, lim ?_⟩⟩⟩
    · have : c = 300 := (nI_eq (b := 300) (by omega) (by decide)).mp e
      cases f with
      | zero => rw [vaS, hkd]
      | succ f => rw [vaS, hkd]; exact if_pos (by omega)
    · have : c ≠ 300 := fun z => e (by rw [z]; rfl)
      omega
    · have : 31 - f ≤ 30 := (nI_leI (a := 31 - f) (b := 30) (by omega) (by decide)).mp e2
      omega
    · have : f = 0 := by
        rcases Nat.eq_zero_or_pos f with z | z
        · exact z
        · exact absurd (nI_le (a := 31 - f) (b := 30) (by omega) (by decide)) e2
      subst this
      rw [vaS, hkd]
  · rintro m l3 t' ⟨rfl, rfl, rfl, hc, hf0, hkd⟩
    have e12 := h.2.2.2.2.1.1
    have e13 := h.2.2.2.2.1.2.1
    have hmx : mxD V c ≤ 30 := mxD_le (fun j hj => (h.2.2.2.1 j hj).2.2.1)
    refine ⟨hK, onS h11 ⟨h15, hK, onS h11 ⟨h15, onS h11 ⟨h15, hK, hK, onS h11 ⟨h15, ?_⟩⟩⟩⟩⟩
    rw [e12, nI_1, show tI (sI t' S 12 (nI (c + 1))) S 13 = nI (mxD V c) by rw [sI_at (by omega)]; exact e13]
    refine c250 (onS h11 ⟨h15, 5, by decide, rfl, rfl, rfl, rfl, rfl, rfl, hc, hf0, hkd, ?_, ?_, ?_, ?_, ?_⟩)
    · exact (h.1.I (by omega) (by omega)).I (by omega) (by omega)
    · exact (MZ.I (by omega) (by omega)).trans (MZ.I (by omega) (by omega))
    · exact (AG.I hS0 (by omega) (by omega) (Or.inl rfl)).trans (AG.I hS0 (by omega) (by omega) (Or.inl rfl)) (Nat.le_refl _) (Nat.le_refl _)
    · rw [sI_at (by omega)]; exact sI_eq
    · rw [sI_eq]
      split
      · rename_i z
        have : mxD V c < 31 - f := by
          rcases Nat.lt_or_ge (mxD V c) (31 - f) with y | y
          · exact y
          · exact absurd z (nI_nlt y (by omega))
        rw [Nat.max_eq_right (by omega)]
      · rename_i z
        have : 31 - f ≤ mxD V c := by
          rcases Nat.lt_or_ge (mxD V c) (31 - f) with y | y
          · exact absurd (nI_lt y (by omega)) z
          · exact y
        rw [Nat.max_eq_left this]
  · rintro m l3 l4 t' ⟨rfl, rfl, rfl, hc, hf0, hkd, hg⟩
    have g11 : tR t' M 11 = some S := by rw [hg.2.1.2.2.2.2.1]; exact h11
    have gK : tK t' M = 17 := by rw [hg.2.1.2.2.1]; exact hK
    have g15 : tK t' S = 15 := by rw [hg.2.1.2.2.1]; exact h15
    have gA : ∀ k, k < 11 → tR t' S k = some (S + 1 + k) ∧ tL t' (S + 1 + k) = 300 ∧ tK t' (S + 1 + k) = 101 := fun k hk => by rw [hg.2.1.2.2.2.2.1, hg.2.1.2.2.2.1, hg.2.1.2.2.1]; exact ⟨(hA k (by omega)).1, (hA k (by omega)).2, hA2 k hk⟩
    have ci : ∀ k, k < 11 → vp_in (nI c) (tL t' (S + 1 + k)) := fun k hk => by rw [(gA k hk).2.1]; exact cin hc
    refine ⟨gK, onS g11 ⟨g15, onS (gA 1 (by omega)).1 ⟨(gA 1 (by omega)).2.2, ci 1 (by omega), gK, onS g11 ⟨g15, onS (gA 2 (by omega)).1 ⟨(gA 2 (by omega)).2.2, ci 2 (by omega), gK, onS g11 ⟨g15, onS (gA 3 (by omega)).1 ⟨(gA 3 (by omega)).2.2, ci 3 (by omega), 4, by decide, rfl, rfl, rfl, rfl, rfl, rfl, hc, hf0, hkd, ?_⟩⟩⟩⟩⟩⟩⟩
    rw [cc hc, show S + 1 + 1 = S + 2 by omega, show S + 1 + 2 = S + 3 by omega, show S + 1 + 3 = S + 4 by omega]
    refine ⟨((hg.I hS0 (a := 2) (by omega) (by omega) (Nat.le_refl _)).I hS0 (a := 3) (by omega) (by omega) (Nat.le_refl _)).I hS0 (a := 4) (by omega) (by omega) (Nat.le_refl _), ?_, ?_, sI_eq⟩
    · rw [sI_at (by omega), sI_at (by omega)]; exact sI_eq
    · rw [sI_at (by omega)]; exact sI_eq
  · rintro m l3 l4 t' ⟨rfl, rfl, rfl, hc, hf0, hkd, hg, r1, r2, r3⟩
    have g11 : tR t' M 11 = some S := by rw [hg.2.1.2.2.2.2.1]; exact h11
    have gK : tK t' M = 17 := by rw [hg.2.1.2.2.1]; exact hK
    have g15 : tK t' S = 15 := by rw [hg.2.1.2.2.1]; exact h15
    have gA : ∀ k, k < 11 → tR t' S k = some (S + 1 + k) ∧ tL t' (S + 1 + k) = 300 ∧ tK t' (S + 1 + k) = 101 := fun k hk => by rw [hg.2.1.2.2.2.2.1, hg.2.1.2.2.2.1, hg.2.1.2.2.1]; exact ⟨(hA k (by omega)).1, (hA k (by omega)).2, hA2 k hk⟩
    have ci : ∀ k, k < 11 → vp_in (nI c) (tL t' (S + 1 + k)) := fun k hk => by rw [(gA k hk).2.1]; exact cin hc
    refine ⟨gK, onS g11 ⟨g15, onS (gA 4 (by omega)).1 ⟨(gA 4 (by omega)).2.2, ci 4 (by omega), gK, onS g11 ⟨g15, onS (gA 5 (by omega)).1 ⟨(gA 5 (by omega)).2.2, ci 5 (by omega), gK, onS g11 ⟨g15, onS (gA 6 (by omega)).1 ⟨(gA 6 (by omega)).2.2, ci 6 (by omega), 3, by decide, rfl, rfl, rfl, rfl, rfl, rfl, hc, hf0, hkd, ?_⟩⟩⟩⟩⟩⟩⟩
    rw [cc hc, show S + 1 + 4 = S + 5 by omega, show S + 1 + 5 = S + 6 by omega, show S + 1 + 6 = S + 7 by omega]
    refine ⟨((hg.I hS0 (a := 5) (by omega) (by omega) (Nat.le_refl _)).I hS0 (a := 6) (by omega) (by omega) (Nat.le_refl _)).I hS0 (a := 7) (by omega) (by omega) (Nat.le_refl _), ⟨?_, ?_, ?_⟩, ?_, ?_⟩
    · rw [sI_at (by omega), sI_at (by omega), sI_at (by omega)]; exact r1
    · rw [sI_at (by omega), sI_at (by omega), sI_at (by omega)]; exact r2
    · rw [sI_at (by omega), sI_at (by omega), sI_at (by omega)]; exact r3
    · rw [sI_at (by omega), sI_at (by omega)]; exact sI_eq
    · rw [sI_at (by omega)]; exact sI_eq
  · rintro m l3 l4 t' ⟨rfl, rfl, rfl, hc, hf0, hkd, hg, ⟨r1, r2, r3⟩, r4, r5⟩
    have g11 : tR t' M 11 = some S := by rw [hg.2.1.2.2.2.2.1]; exact h11
    have gK : tK t' M = 17 := by rw [hg.2.1.2.2.1]; exact hK
    have g15 : tK t' S = 15 := by rw [hg.2.1.2.2.1]; exact h15
    have gA : ∀ k, k < 11 → tR t' S k = some (S + 1 + k) ∧ tL t' (S + 1 + k) = 300 ∧ tK t' (S + 1 + k) = 101 := fun k hk => by rw [hg.2.1.2.2.2.2.1, hg.2.1.2.2.2.1, hg.2.1.2.2.1]; exact ⟨(hA k (by omega)).1, (hA k (by omega)).2, hA2 k hk⟩
    have gB : tR t' S 11 = some (S + 1 + 11) ∧ tL t' (S + 1 + 11) = 300 ∧ tK t' (S + 1 + 11) = 102 := by
      rw [hg.2.1.2.2.2.2.1, hg.2.1.2.2.2.1, hg.2.1.2.2.1]
      exact ⟨(hA 11 (by omega)).1, (hA 11 (by omega)).2, hA3⟩
    have ci : ∀ k, k < 11 → vp_in (nI c) (tL t' (S + 1 + k)) := fun k hk => by rw [(gA k hk).2.1]; exact cin hc
    have ciB : vp_in (nI c) (tL t' (S + 1 + 11)) := by rw [gB.2.1]; exact cin hc
    refine ⟨gK, onS g11 ⟨g15, onS (gA 7 (by omega)).1 ⟨(gA 7 (by omega)).2.2, ci 7 (by omega), gK, onS g11 ⟨g15, onS gB.1 ⟨gB.2.2, ciB, gK, onS g11 ⟨g15, onS (gA 8 (by omega)).1 ⟨(gA 8 (by omega)).2.2, ci 8 (by omega), 2, by decide, rfl, rfl, rfl, rfl, rfl, rfl, hc, hf0, hkd, ?_⟩⟩⟩⟩⟩⟩⟩
    rw [cc hc, show S + 1 + 7 = S + 8 by omega, show S + 1 + 8 = S + 9 by omega, show S + 1 + 11 = S + 12 by omega]
    refine ⟨((hg.I hS0 (a := 8) (by omega) (by omega) (Nat.le_refl _)).J (Nat.le_refl _)).I hS0 (a := 9) (by omega) (by omega) (Nat.le_refl _), ⟨⟨?_, ?_, ?_⟩, ⟨?_, ?_⟩, ?_, ?_⟩⟩
    · rw [sI_at (by omega)]; show tI (sI t' (S + 8) c (nI (31 - f))) (S + 2) c = -1; rw [sI_at (by omega)]; exact r1
    · rw [sI_at (by omega)]; show tI (sI t' (S + 8) c (nI (31 - f))) (S + 3) c = -1; rw [sI_at (by omega)]; exact r2
    · rw [sI_at (by omega)]; show tI (sI t' (S + 8) c (nI (31 - f))) (S + 4) c = -1; rw [sI_at (by omega)]; exact r3
    · rw [sI_at (by omega)]; show tI (sI t' (S + 8) c (nI (31 - f))) (S + 5) c = _; rw [sI_at (by omega)]; exact r4
    · rw [sI_at (by omega)]; show tI (sI t' (S + 8) c (nI (31 - f))) (S + 6) c = _; rw [sI_at (by omega)]; exact r5
    · rw [sI_at (by omega)]; show tI (sI t' (S + 8) c (nI (31 - f))) (S + 8) c = _; exact sI_eq
    · show tJ (sJ (sI t' (S + 8) c (nI (31 - f))) (S + 12) c 0) (S + 12) c = 0; exact sJ_eq
  · rintro m l3 l4 t' ⟨rfl, rfl, rfl, hc, hf0, hkd, hg, hr⟩
    have g11 : tR t' M 11 = some S := by rw [hg.2.1.2.2.2.2.1]; exact h11
    have gK : tK t' M = 17 := by rw [hg.2.1.2.2.1]; exact hK
    have g15 : tK t' S = 15 := by rw [hg.2.1.2.2.1]; exact h15
    have gA : ∀ k, k < 11 → tR t' S k = some (S + 1 + k) ∧ tL t' (S + 1 + k) = 300 ∧ tK t' (S + 1 + k) = 101 := fun k hk => by rw [hg.2.1.2.2.2.2.1, hg.2.1.2.2.2.1, hg.2.1.2.2.1]; exact ⟨(hA k (by omega)).1, (hA k (by omega)).2, hA2 k hk⟩
    have ci : ∀ k, k < 11 → vp_in (nI c) (tL t' (S + 1 + k)) := fun k hk => by rw [(gA k hk).2.1]; exact cin hc
    refine ⟨gK, onS g11 ⟨g15, onS (gA 9 (by omega)).1 ⟨(gA 9 (by omega)).2.2, ci 9 (by omega), gK, onS g11 ⟨g15, onS (gA 10 (by omega)).1 ⟨(gA 10 (by omega)).2.2, ci 10 (by omega), 1, by decide, rfl, rfl, rfl, rfl, rfl, rfl, hc, hf0, hkd, ?_⟩⟩⟩⟩⟩
    rw [cc hc, show S + 1 + 9 = S + 10 by omega, show S + 1 + 10 = S + 11 by omega]
    refine ⟨(hg.I hS0 (a := 10) (by omega) (by omega) (Nat.le_refl _)).I hS0 (a := 11) (by omega) (by omega) (Nat.le_refl _), hr.eq (fun k y1 y2 => ?_) rfl⟩
    rw [sI_at (by omega), sI_at (by omega)]
  · rintro m l3 l4 t' ⟨rfl, rfl, rfl, hc, hf0, ⟨k, hkd⟩, hg, hr⟩
    obtain ⟨f0, rfl⟩ : ∃ f0, f = f0 + 1 := ⟨f - 1, by omega⟩
    have edp : 31 - (f0 + 1) = 30 - f0 := by omega
    rw [edp] at hg hr ⊢
    have ih1 := ih f0 rfl
    have hkk := kdB_lt hb hkd
    have g11 : ∀ {t2 : Ht}, tR t2 = tR t' → tR t2 M 11 = some S := fun {t2} z => by rw [z, hg.2.1.2.2.2.2.1]; exact h11
    have gK : ∀ {t2 : Ht}, tK t2 = tK t' → tK t2 M = 17 := fun {t2} z => by rw [z, hg.2.1.2.2.1]; exact hK
    have g15 : ∀ {t2 : Ht}, tK t2 = tK t' → tK t2 S = 15 := fun {t2} z => by rw [z, hg.2.1.2.2.1]; exact h15
    have gA : ∀ {t2 : Ht}, tR t2 = tR t' → tL t2 = tL t' → tK t2 = tK t' → ∀ k, k < 11 → tR t2 S k = some (S + 1 + k) ∧ vp_in (nI c) (tL t2 (S + 1 + k)) ∧ tK t2 (S + 1 + k) = 101 := fun {t2} z1 z2 z3 k hk => by
      rw [z1, z2, z3, hg.2.1.2.2.2.2.1, hg.2.1.2.2.2.1, hg.2.1.2.2.1, (hA k (by omega)).2]
      exact ⟨(hA k (by omega)).1, cin hc, hA2 k hk⟩
    have gB : ∀ {t2 : Ht}, tR t2 = tR t' → tL t2 = tL t' → tK t2 = tK t' → tR t2 S 11 = some (S + 1 + 11) ∧ vp_in (nI c) (tL t2 (S + 1 + 11)) ∧ tK t2 (S + 1 + 11) = 102 := fun {t2} z1 z2 z3 => by
      rw [z1, z2, z3, hg.2.1.2.2.2.2.1, hg.2.1.2.2.2.1, hg.2.1.2.2.1, (hA 11 (by omega)).2]
      exact ⟨(hA 11 (by omega)).1, cin hc, hA3⟩
    have hvS : vaS b n (wnS b n true) (f0 + 1) u i c V = rsL c (rsS b n (wnS b n true) (vaS b n (wnS b n true) f0 (some c)) k i c (up1 V c (eMk k u (30 - f0) 0 [] c))) := by
      rw [vaS, hkd]; exact if_neg (by omega)
    have hat' := hg.1.1.2.2.2.2.2.2.2.1
    have hi := hkk.1
    have word : ∀ (m kk : Nat), m < 10 → kk < 3 → 0 < (txW m).length → txW (wdK kk) = txW m → k = kk → CalG C mtab (E + 9) 173 [svR (some M), svR (some (cS C m))] t' (aftV (fun v55 t56 => v55 = none ∧ tK t56 M = 17 ∧ onR (tR t56 M 11) (fun a60 => tK t56 a60 = 15 ∧ onR (tR t56 a60 0) (fun a61 => tK t56 a61 = 101 ∧ vp_in (nI c) (tL t56 a61) ∧ ∃ k, k < 1 ∧ some M = some M ∧ oIx u = oIx u ∧ nI (30 - f0) = nI (30 - f0) ∧ k = 0 ∧ Post (.inl (some (svI (nI c)))) (sI t56 a61 (nI c).toNatClampNeg (nI kk))))) (fun k57 q58 t59 => Post (.inr (k57, q58)) t59)) := by
      intro m kk hm hkk3 hlen hw hke
      subst hke
      have hvS2 : vaS b n (wnS b n true) (f0 + 1) u i c V = rsL c (match wdS b n (txW m) i with
          | .inr p => .inr (1, p)
          | .inl j => .inl (j, c + 1, up1 V c (eMk k u (30 - f0) 0 [] c))) := by
        rw [hvS]; unfold rsS; rw [if_pos hkk3, hw]; rfl
      refine m173 hm hg.1.1 (by omega) (fun j e => ⟨rfl, ?_⟩) (fun z e => ?_)
      · obtain ⟨l1, l2⟩ := wdS_le _ _ _ (txW_nn _ hm) (by omega) e
        have hx : MX M (M + 1) (M + 3) q t' (sI t' M 5 (nI j)) := MX.M (Or.inl rfl) (by omega)
        have hg2 := SG.x hS0 hg hx (by simp [ht]) (by rw [sI_at (by omega)]; exact hg.1.2.2.2.2) (j := j) (q' := q) (by omega) q24
        have hr2 := hr.x hS0 hx
        obtain ⟨a1, a2, a3⟩ := gA (t2 := sI t' M 5 (nI j)) rfl rfl rfl 0 (by omega)
        refine ⟨gK (t2 := sI t' M 5 (nI j)) rfl, onS (g11 (t2 := sI t' M 5 (nI j)) rfl) ⟨g15 (t2 := sI t' M 5 (nI j)) rfl, onS a1 ⟨a3, a2, 0, by decide, rfl, rfl, rfl, rfl, ?_⟩⟩⟩
        rw [cc hc, show S + 1 + 0 = S + 1 from rfl]
        revert hg2 hr2
        generalize sI t' M 5 (nI j) = t2
        intro hg2 hr2
        have hsg : SG M S b n j q c (30 - f0) V t t2 := hg2
        have hsg2 := hsg.I hS0 (a := 1) (k := c) (x := nI k) (by omega) (by omega) (Nat.le_refl _)
        have hr3 : RW S c (30 - f0) u (sI t2 (S + 1) c (nI k)) := hr2.eq (fun y _ _ => sI_at (by omega)) rfl
        refine k1 j (c + 1) (vLst (up1 V c (eMk k u (30 - f0) 0 [] c)) c c) (by rw [hvS2, e]; rfl) _ q (VS.lst (VS.push h hc hsg2.1 hsg2.2.1 hsg2.2.2.1 l2 (Nat.le_refl _) (by omega) hsg2.2.2.2.1 hsg2.2.2.2.2 sI_eq hr3.1.1 hr3.1.2.1 hr3.2.1.1 ?_ hr3.2.2.1 hr3.2.2.2 rfl rfl rfl (fun z => ?_) hkk.2 (by show 30 - f0 ≤ 30; omega) ⟨by show 0 ≤ 1200; omega, fun x hx => (by cases hx)⟩ hu)) (Nat.le_refl _) hsg2.2.2.1 hsg2.2.1 hr3.1.2.2
        · have hsz : szE (eMk k u (30 - f0) 0 [] c) = 0 := by
            unfold szE; split <;> rfl
          rw [hr3.2.1.2, hsz]; rfl
        · have z' : k = 4 := z
          omega
      · refine k2 1 z (Or.inl (by rw [hvS2, e]; rfl)) _ (FZ.of hg.2.1 (FZ.bm (q := q) (BM_of (by omega) (MX.M (Or.inl rfl) (by omega))) q24))
    refine ⟨fun e => ⟨gK rfl, word 4 0 (by decide) (by decide) (by decide) rfl ?_⟩, fun n110 => ⟨fun e => ⟨gK rfl, word 2 1 (by decide) (by decide) (by decide) rfl ?_⟩, fun n102 => ⟨fun e => ⟨gK rfl, word 7 2 (by decide) (by decide) (by decide) rfl ?_⟩, fun n116 => ⟨fun e => ?_, fun n34 => ⟨fun e => ⟨gK rfl, ?_⟩, fun n91 => ⟨fun e => ⟨gK rfl, ?_⟩, fun n123 => ⟨gK rfl, gK rfl, ?_⟩⟩⟩⟩⟩⟩⟩
    · rw [e] at hkd; rw [show kdB 110 = some 0 by decide] at hkd; injection hkd with hkd; exact hkd.symm
    · rw [e] at hkd; rw [show kdB 102 = some 1 by decide] at hkd; injection hkd with hkd; exact hkd.symm
    · rw [e] at hkd; rw [show kdB 116 = some 2 by decide] at hkd; injection hkd with hkd; exact hkd.symm
    · have hk4 : k = 4 := by rw [e] at hkd; rw [show kdB 34 = some 4 by decide] at hkd; injection hkd with hkd; exact hkd.symm
      subst hk4
      obtain ⟨a1, a2, a3⟩ := gA (t2 := t') rfl rfl rfl 0 (by omega)
      have hg4 := hg.I hS0 (a := 1) (k := c) (x := 4) (by omega) (by omega) (Nat.le_refl _)
      have hr4 : RW S c (30 - f0) u (sI t' (S + 1) c 4) := hr.eq (fun y _ _ => sI_at (by omega)) rfl
      have hk4 : tI (sI t' (S + 1) c 4) (S + 1) c = 4 := sI_eq
      refine ⟨gK rfl, onS (g11 rfl) ⟨g15 rfl, onS a1 ⟨a3, a2, gK rfl, onS (g11 rfl) ⟨g15 rfl, gK rfl, ?_⟩⟩⟩⟩
      rw [cc hc, show S + 1 + 0 = S + 1 from rfl]
      have c1 : tR (sI t' (S + 1) c 4) = tR t' := rfl
      have c2 : tK (sI t' (S + 1) c 4) = tK t' := rfl
      have c3 : tL (sI t' (S + 1) c 4) = tL t' := rfl
      revert hg4 hr4 hk4 c1 c2 c3
      generalize sI t' (S + 1) c 4 = t4
      intro hg4 hr4 hk4 c1 c2 c3
      refine m169 (qt := 34) (Or.inl rfl) hg4.1 hi e (by omega) (fun cs j es t2 hsm => ?_) (fun z es t2 hbm => ?_)
      · obtain ⟨s1, s2, s3, s4⟩ := stS_ok hb hn (by decide) es
        have hx := hsm.1
        have hg2 := SG.x hS0 hg4 hx hsm.2.1 hsm.2.2.1 (by omega) q24
        have hr2 := hr4.x hS0 hx
        have hk2 : tI t2 (S + 1) c = 4 := by rw [hx.2.2.2.2.2.2.1 _ _ (Or.inl (by omega)) (by omega) (Or.inl (by omega))]; exact hk4
        have d1 : tR t2 = tR t' := hx.2.2.2.2.1.trans c1
        have d2 : tK t2 = tK t' := hx.2.2.1.trans c2
        have d3 : tL t2 = tL t' := hx.2.2.2.1.trans c3
        have hch : CH t2 (M + 3) q cs 2400 (q + cs.length) := ⟨q24, Nat.le_refl _, hsm.2.2.2⟩
        have hc7 : tI t2 M 7 = nI (q + cs.length) := hsm.2.2.1
        obtain ⟨b1, b2, b3⟩ := gA d1 d3 d2 8 (by omega)
        have b1' : tR t4 S 8 = some (S + 1 + 8) := by rw [c1, ← d1]; exact b1
        refine onS b1' ⟨b3, b2, ?_⟩
        rw [show S + 1 + 8 = S + 9 by omega]
        have hB3 := hg2.1.I (a := S + 9) (k := c) (x := nI q) (by omega) (by omega)
        have hz3 := hg2.2.1.trans (MZ.I (M := M) (S := S) (a := S + 9) (k := c) (x := nI q) (by omega) (by omega))
        have ha3 := hg2.2.2.1.trans (AG.I (M := M) (S := S) (c := c) (q := q) (a := S + 9) (k := c) (x := nI q) hS0 (by omega) (by omega) (Or.inr (Nat.le_refl _))) (Nat.le_refl _) (Nat.le_refl _)
        have h12 : tI (sI t2 (S + 9) c (nI q)) S 12 = nI (c + 1) := (sI_at (by omega)).trans hg2.2.2.2.1
        have h13 : tI (sI t2 (S + 9) c (nI q)) S 13 = nI (max (mxD V c) (30 - f0)) := (sI_at (by omega)).trans hg2.2.2.2.2
        have hr3 : RW S c (30 - f0) u (sI t2 (S + 9) c (nI q)) := hr2.eq (fun y _ _ => sI_at (by omega)) rfl
        have hk3 : tI (sI t2 (S + 9) c (nI q)) (S + 1) c = 4 := (sI_at (by omega)).trans hk2
        have h9 : tI (sI t2 (S + 9) c (nI q)) (S + 9) c = nI q := sI_eq
        have h7 : tI (sI t2 (S + 9) c (nI q)) M 7 = nI (q + cs.length) := (sI_at (by omega)).trans hc7
        have hch3 : CH (sI t2 (S + 9) c (nI q)) (M + 3) q cs 2400 (q + cs.length) := hch.eq (Nat.le_refl _) (fun w _ _ => sI_at (by omega))
        have c1' : tR (sI t2 (S + 9) c (nI q)) = tR t' := d1
        have c2' : tK (sI t2 (S + 9) c (nI q)) = tK t' := d2
        have c3' : tL (sI t2 (S + 9) c (nI q)) = tL t' := d3
        revert hB3 hz3 ha3 h12 h13 hr3 hk3 h9 h7 hch3 c1' c2' c3'
        generalize sI t2 (S + 9) c (nI q) = t5
        intro hB3 hz3 ha3 h12 h13 hr3 hk3 h9 h7 hch3 c1' c2' c3'
        obtain ⟨x1, x2, x3⟩ := gA c1' c3' c2' 8 (by omega)
        obtain ⟨y1, y2, y3⟩ := gA c1' c3' c2' 5 (by omega)
        refine ⟨gK c2', onS (g11 c1') ⟨g15 c2', gK c2', gK c2', onS (g11 c1') ⟨g15 c2', onS x1 ⟨x3, x2, onS y1 ⟨y3, y2, ?_⟩⟩⟩⟩⟩
        rw [show S + 1 + 8 = S + 9 by omega, show S + 1 + 5 = S + 6 by omega, h9, h7, nI_subA]
        refine ⟨0, by decide, rfl, rfl, rfl, rfl, ?_⟩
        have hB6 := hB3.I (a := S + 6) (k := c) (x := nI cs.length) (by omega) (by omega)
        have hz6 := hz3.trans (MZ.I (M := M) (S := S) (a := S + 6) (k := c) (x := nI cs.length) (by omega) (by omega))
        have ha6 := ha3.trans (AG.I (M := M) (S := S) (c := c) (q := q) (a := S + 6) (k := c) (x := nI cs.length) hS0 (by omega) (by omega) (Or.inr (Nat.le_refl _))) (Nat.le_refl _) (Nat.le_refl _)
        obtain ⟨⟨r1, r2, r3⟩, ⟨r4, r5⟩, r6, r7⟩ := hr3
        refine k1 j (c + 1) (vLst (up1 V c (eMk 4 u (30 - f0) 0 cs c)) c c) ?_ _ (q + cs.length) (VS.lst (VS.push h hc hB6 hz6 ha6 s2 (by omega) (by omega) ((sI_at (by omega)).trans h12) ((sI_at (by omega)).trans h13) ((sI_at (by omega)).trans hk3) ((sI_at (by omega)).trans r1) ((sI_at (by omega)).trans r2) ((sI_at (by omega)).trans r4) sI_eq ((sI_at (by omega)).trans r6) r7 rfl rfl rfl (fun _ => ⟨q, (sI_at (by omega)).trans h9, hch3.eq (Nat.le_refl _) (fun w _ _ => sI_at (by omega))⟩) (by show 4 < 7; omega) (by show 30 - f0 ≤ 30; omega) s4 hu)) (by omega) ha6 hz6 ((sI_at (by omega)).trans r3)
        rw [hvS]; unfold rsS
        rw [if_neg (by decide), if_neg (by decide), if_pos rfl, up1_eq, es]
        show rsL c (.inl (j, c + 1, up1 (up1 V c (eMk 4 u (30 - f0) 0 [] c)) c (eMk 4 u (30 - f0) 0 cs c))) = _
        rw [up1_up1]; rfl
      · refine k2 1 z (Or.inl ?_) _ (FZ.of hg4.2.1 (FZ.bm hbm q24))
        rw [hvS]; unfold rsS
        rw [if_neg (by decide), if_neg (by decide), if_pos rfl, up1_eq, es]
        rfl
    · have hk5 : k = 5 := by rw [e] at hkd; rw [show kdB 91 = some 5 by decide] at hkd; injection hkd with hkd; exact hkd.symm
      subst hk5
      have hself := up1_eq (f := V) (a := c) (x := eMk 5 u (30 - f0) 0 [] c)
      have hg4 := hg.I hS0 (a := 1) (k := c) (x := 5) (by omega) (by omega) (Nat.le_refl _)
      have hr4 : RW S c (30 - f0) u (sI t' (S + 1) c 5) := hr.eq (fun y _ _ => sI_at (by omega)) rfl
      have hv4 : VS (sI t' (S + 1) c 5) M S b n i q (up1 V c (eMk 5 u (30 - f0) 0 [] c)) (c + 1) := VS.push h hc hg4.1 hg4.2.1 hg4.2.2.1 hin (Nat.le_refl _) qhi hg4.2.2.2.1 hg4.2.2.2.2 sI_eq hr4.1.1 hr4.1.2.1 hr4.2.1.1 hr4.2.1.2 hr4.2.2.1 hr4.2.2.2 rfl rfl rfl (fun z => absurd z (by show ¬ 5 = 4; omega)) (by show 5 < 7; omega) (by show 30 - f0 ≤ 30; omega) ⟨by show 0 ≤ 1200; omega, fun x hx => (by cases hx)⟩ hu
      have hr43 := hr4.1.2.2
      have key := m176 (C := C) (E := E) (Post := aftV (fun v22 t23 => v22 = none ∧ ∃ k, k < 1 ∧ some M = some M ∧ oIx u = oIx u ∧ nI (30 - f0) = nI (30 - f0) ∧ k = 0 ∧ Post (.inl (some (svI (nI c)))) t23) (fun k24 q25 t26 => Post (.inr (k24, q25)) t26)) ih1 rfl hv4 hi (by rw [hself]; rfl) (by rw [hself]; show 30 - f0 + 1 = _; omega) rfl ?_ ?_
      · rw [hself] at key; exact key
      · intro j c' V' eL t2 q' hv2 hq2 ha2 hz2 hn2
        have hva : vaS b n (wnS b n true) (f0 + 1) u i c V = .inl (j, c', vLst V' c (c' - 1)) := by
          rw [hvS]; unfold rsS
          rw [if_neg (by decide), if_neg (by decide), if_neg (by decide), if_pos rfl, eL]; rfl
        exact ⟨rfl, 0, by decide, rfl, rfl, rfl, rfl, k1 j c' _ hva t2 q' hv2.lst hq2 (hg4.2.2.1.trans ha2 (Nat.le_refl _) (Nat.le_refl _)) (hg4.2.1.trans hz2) (hn2.trans hr43)⟩
      · intro w z eL t2 hF
        refine k2 w z (Or.inl ?_) t2 (FZ.of hg4.2.1 hF)
        rw [hvS]; unfold rsS
        rw [if_neg (by decide), if_neg (by decide), if_neg (by decide), if_pos rfl, eL]; rfl
    · have hk6 : k = 6 := by rw [e] at hkd; rw [show kdB 123 = some 6 by decide] at hkd; injection hkd with hkd; exact hkd.symm
      subst hk6
      have hself := up1_eq (f := V) (a := c) (x := eMk 6 u (30 - f0) 0 [] c)
      have hg4 := hg.I hS0 (a := 1) (k := c) (x := 6) (by omega) (by omega) (Nat.le_refl _)
      have hr4 : RW S c (30 - f0) u (sI t' (S + 1) c 6) := hr.eq (fun y _ _ => sI_at (by omega)) rfl
      have hv4 : VS (sI t' (S + 1) c 6) M S b n i q (up1 V c (eMk 6 u (30 - f0) 0 [] c)) (c + 1) := VS.push h hc hg4.1 hg4.2.1 hg4.2.2.1 hin (Nat.le_refl _) qhi hg4.2.2.2.1 hg4.2.2.2.2 sI_eq hr4.1.1 hr4.1.2.1 hr4.2.1.1 hr4.2.1.2 hr4.2.2.1 hr4.2.2.2 rfl rfl rfl (fun z => absurd z (by show ¬ 6 = 4; omega)) (by show 6 < 7; omega) (by show 30 - f0 ≤ 30; omega) ⟨by show 0 ≤ 1200; omega, fun x hx => (by cases hx)⟩ hu
      have hr43 := hr4.1.2.2
      have key := m177 (C := C) (E := E) (Post := aftV (fun v22 t23 => v22 = none ∧ ∃ k, k < 1 ∧ some M = some M ∧ oIx u = oIx u ∧ nI (30 - f0) = nI (30 - f0) ∧ k = 0 ∧ Post (.inl (some (svI (nI c)))) t23) (fun k24 q25 t26 => Post (.inr (k24, q25)) t26)) ih1 rfl hv4 hi (by rw [hself]; rfl) (by rw [hself]; show 30 - f0 + 1 = _; omega) rfl ?_ ?_
      · rw [hself] at key; exact key
      · intro j c' V' eL t2 q' hv2 hq2 ha2 hz2 hn2
        have hva : vaS b n (wnS b n true) (f0 + 1) u i c V = .inl (j, c', vLst V' c (c' - 1)) := by
          rw [hvS]; unfold rsS
          rw [if_neg (by decide), if_neg (by decide), if_neg (by decide), if_neg (by decide), eL]; rfl
        exact ⟨rfl, 0, by decide, rfl, rfl, rfl, rfl, k1 j c' _ hva t2 q' hv2.lst hq2 (hg4.2.2.1.trans ha2 (Nat.le_refl _) (Nat.le_refl _)) (hg4.2.1.trans hz2) (hn2.trans hr43)⟩
      · intro w z eL t2 hF
        refine k2 w z (Or.inl ?_) t2 (FZ.of hg4.2.1 hF)
        rw [hvS]; unfold rsS
        rw [if_neg (by decide), if_neg (by decide), if_neg (by decide), if_neg (by decide), eL]; rfl
    · have hk3 := kdB_int hkd n110 n102 n116 n34 n91 n123
      subst hk3
      have hvS3 : vaS b n (wnS b n true) (f0 + 1) u i c V = rsL c (match wnS b n true i with
          | .inr p => .inr (1, p)
          | .inl (j, m, N) => if 9007199254740991 < N then .inr (3, i) else .inl (j, c + 1, up1 (up1 V c (eMk 3 u (30 - f0) 0 [] c)) c (eMk 3 u (30 - f0) (sgR m N) [] c))) := by
        rw [hvS]; unfold rsS
        rw [if_neg (by decide), if_pos rfl, up1_eq]; rfl
      refine m171 (mz := true) hg.1 (by omega) (fun j m N e t2 hnm hfar hnum => ⟨rfl, ?_⟩) (fun z e t2 hbm => ?_)
      · have hx := hnm.1
        have eS' : wnS b n true i = .inl (j, m, N) := by
          rcases wn_rel (b := b) (n := n) (mz := true) (i := i) with y | ⟨y1, y2, y3, y4, y5⟩
          · rw [← y]; exact e
          · rw [e] at y4; cases y4
        obtain ⟨l1, l2⟩ := wnS_le eS'
        have hg2 := SG.x hS0 hg hx hnm.2.1 hnm.2.2 (by omega) q24
        have hr2 := hr.x hS0 hx
        have d1 : tR t2 = tR t' := hx.2.2.2.2.1
        have d2 : tK t2 = tK t' := hx.2.2.1
        have d3 : tL t2 = tL t' := hx.2.2.2.1
        rw [eS'] at hvS3
        refine ⟨gK d2, ?_⟩
        rw [hfar]
        by_cases hN : 9007199254740991 < N
        · refine ⟨fun z => absurd z (by rw [decide_eq_true hN]; decide), fun _ => ⟨gK d2, ?_⟩⟩
          rw [hat']
          refine c153 (s := M + 1) (gK d2) (by rw [d1]; exact hg.1.1.2.1) (by rw [d2]; exact hg.1.1.2.2.1) ⟨by show tK t2 (M + 1) = 16; rw [d2]; exact hg.1.1.2.2.1, k2 3 i (Or.inl ?_) _ (FZ.of hg2.2.1 FZ.mb)⟩
          rw [hvS3]
          show rsL c (if 9007199254740991 < N then _ else _) = _
          rw [if_pos hN]; rfl
        · have hnum' := hnum (by omega)
          obtain ⟨a1, a2, a3⟩ := gA d1 d3 d2 0 (by omega)
          obtain ⟨b1, b2, b3⟩ := gB d1 d3 d2
          refine ⟨fun _ => ⟨gK d2, onS (g11 d1) ⟨g15 d2, onS a1 ⟨a3, a2, gK d2, onS (g11 d1) ⟨g15 d2, gK d2, onS b1 ⟨b3, b2, 0, by decide, rfl, rfl, rfl, rfl, ?_⟩⟩⟩⟩⟩, fun z => absurd (by rw [decide_eq_false hN]; rfl) z⟩
          rw [cc hc, show S + 1 + 0 = S + 1 from rfl, show S + 1 + 11 = S + 12 by omega, show tJ (sI t2 (S + 1) c 3) M 8 = sgR m N from hnum']
          have hsg : SG M S b n j q c (30 - f0) V t t2 := hg2
          have hsg2 := (hsg.I hS0 (a := 1) (k := c) (x := 3) (by omega) (by omega) (Nat.le_refl _)).J (k := c) (x := sgR m N) (Nat.le_refl _)
          obtain ⟨⟨r1, r2, r3⟩, ⟨r4, r5⟩, r6, r7⟩ := hr2
          refine k1 j (c + 1) (vLst (up1 V c (eMk 3 u (30 - f0) (sgR m N) [] c)) c c) ?_ _ q (VS.lst (VS.push h hc hsg2.1 hsg2.2.1 hsg2.2.2.1 l2 (Nat.le_refl _) (by omega) hsg2.2.2.2.1 hsg2.2.2.2.2 sI_eq ((sI_at (by omega)).trans r1) ((sI_at (by omega)).trans r2) ((sI_at (by omega)).trans r4) ((sI_at (by omega)).trans r5) ((sI_at (by omega)).trans r6) sJ_eq rfl rfl rfl (fun z => absurd z (by show ¬ 3 = 4; omega)) (by show 3 < 7; omega) (by show 30 - f0 ≤ 30; omega) ⟨by show 0 ≤ 1200; omega, fun x hx => (by cases hx)⟩ hu)) (Nat.le_refl _) hsg2.2.2.1 hsg2.2.1 ((sI_at (by omega)).trans r3)
          rw [hvS3]
          show rsL c (if 9007199254740991 < N then _ else _) = _
          rw [if_neg hN, up1_up1]; rfl
      · have hF : FZ M S t t2 1 z := FZ.of hg.2.1 (FZ.bm hbm q24)
        rcases wn_rel (b := b) (n := n) (mz := true) (i := i) with y | ⟨y1, y2, y3, y4, y5⟩
        · refine k2 1 z (Or.inl ?_) t2 hF
          rw [hvS3, ← y, e]; rfl
        · rw [e] at y4
          injection y4 with y4
          subst y4
          refine k2 1 z (Or.inr ⟨rfl, c + 1, vLst (up1 (up1 V c (eMk 3 u (30 - f0) 0 [] c)) c (eMk 3 u (30 - f0) (sgR y2 0) [] c)) c c, ?_, y5⟩) t2 hF
          rw [hvS3, y3]; rfl
  · rintro m l3 l4 t' ⟨rfl, hp⟩
    exact hp
theorem m174all : ∀ (f : Nat), f ≤ 30 → ∀ E, P174 C M S b n (E + 10 + 2 * f) f := by
  intro f
  induction f with
  | zero => intro _ E; exact m174 (by omega) (fun f0 h => by omega)
  | succ f ih =>
    intro hf E
    have h1 := ih (by omega) E
    have := m174 (C := C) (M := M) (S := S) (b := b) (n := n) (E := E + 2 + 2 * f) (f := f + 1) hf (fun f0 h => by
      have : f = f0 := by omega
      subst this
      rw [show E + 10 + 2 * f = E + 2 + 2 * f + 8 by omega] at h1
      exact h1)
    rw [show E + 10 + 2 * (f + 1) = E + 2 + 2 * f + 10 by omega]
    exact this
end MVM
