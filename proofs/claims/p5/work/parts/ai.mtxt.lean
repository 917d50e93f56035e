/-! THE REFERENCE'S TEXTS: what stands while they are written (t0: the heap before), and small steps -/
/-- what the writing may change -/
def MU (M : Nat) (t t' : Ht) : Prop := tN t' = tN t ∧ tU t' = tU t ∧ tK t' = tK t ∧ tL t' = tL t ∧ tR t' = tR t ∧ (∀ x k, tJ t' x k = tJ t x k) ∧
  (∀ x k, (x ≠ M ∨ (k ≠ 0 ∧ k ≠ 35)) → x ≠ M + 50 → tI t' x k = tI t x k)
/-- with the way of a path -/
def MUw (M : Nat) (t t' : Ht) : Prop := tN t' = tN t ∧ tU t' = tU t ∧ tK t' = tK t ∧ tL t' = tL t ∧ tR t' = tR t ∧ (∀ x k, tJ t' x k = tJ t x k) ∧
  (∀ x k, (x ≠ M ∨ (k ≠ 0 ∧ k ≠ 35)) → x ≠ M + 50 → x ≠ M + 51 → tI t' x k = tI t x k)
def GU (t0 : Ht) (M : Nat) (t : Ht) (o : Nat) : Prop := MU M t0 t ∧ tI t M 35 = nI o ∧ o ≤ 7800
def OSh (t : Ht) (M : Nat) : Prop := tK t M = 17 ∧ (tR t M 34 = some (M + 50) ∧ tK t (M + 50) = 100 ∧ tL t (M + 50) = 7800) ∧ (tR t M 36 = some (M + 51) ∧ tK t (M + 51) = 101 ∧ tL t (M + 51) = 31) ∧ (tR t M 25 = some (M + 48) ∧ tK t (M + 48) = 101 ∧ tL t (M + 48) = 1000)
section RTX
variable {C : Cx} {d : Nat} {Post : OutT → Ht → Prop} {t0 t t' t2 : Ht} {M S P : Nat} {V : VT} {c o : Nat}
theorem MU.rfl' : MU M t t := ⟨rfl, rfl, rfl, rfl, rfl, fun _ _ => rfl, fun _ _ _ _ => rfl⟩
theorem MU.trans (h : MU M t t') (g : MU M t' t2) : MU M t t2 := by
  obtain ⟨h1, h2, h3, h4, h5, h6, h7⟩ := h
  obtain ⟨g1, g2, g3, g4, g5, g6, g7⟩ := g
  exact ⟨g1.trans h1, g2.trans h2, g3.trans h3, g4.trans h4, g5.trans h5, fun x k => (g6 x k).trans (h6 x k), fun x k z1 z2 => (g7 x k z1 z2).trans (h7 x k z1 z2)⟩
theorem MU.I {k : Nat} {v : Int32} (hk : k = 0 ∨ k = 35) : MU M t (sI t M k v) := by
  refine ⟨rfl, rfl, rfl, rfl, rfl, fun _ _ => rfl, fun x j z1 z2 => sI_at ?_⟩
  rintro ⟨rfl, rfl⟩; omega
theorem MU.A {k : Nat} {v : Int32} : MU M t (sI t (M + 50) k v) := by
  refine ⟨rfl, rfl, rfl, rfl, rfl, fun _ _ => rfl, fun x j z1 z2 => sI_at ?_⟩
  rintro ⟨rfl, rfl⟩; omega
theorem MUw.of (h : MU M t t') : MUw M t t' := ⟨h.1, h.2.1, h.2.2.1, h.2.2.2.1, h.2.2.2.2.1, h.2.2.2.2.2.1, fun x k z1 z2 _ => h.2.2.2.2.2.2 x k z1 z2⟩
theorem MUw.trans (h : MUw M t t') (g : MUw M t' t2) : MUw M t t2 := by
  obtain ⟨h1, h2, h3, h4, h5, h6, h7⟩ := h
  obtain ⟨g1, g2, g3, g4, g5, g6, g7⟩ := g
  exact ⟨g1.trans h1, g2.trans h2, g3.trans h3, g4.trans h4, g5.trans h5, fun x k => (g6 x k).trans (h6 x k), fun x k z1 z2 z3 => (g7 x k z1 z2 z3).trans (h7 x k z1 z2 z3)⟩
theorem MUw.A {k : Nat} {v : Int32} : MUw M t (sI t (M + 51) k v) := by
  refine ⟨rfl, rfl, rfl, rfl, rfl, fun _ _ => rfl, fun x j z1 z2 z3 => sI_at ?_⟩
  rintro ⟨rfl, rfl⟩; exact z3 rfl
theorem OSh.w (h : OSh t M) (g : MUw M t t') : OSh t' M := by
  unfold OSh at h ⊢
  rw [g.2.2.1, g.2.2.2.1, g.2.2.2.2.1]; exact h
theorem G0.w (h : G0 t M S P V c) (g : MUw M t t') : G0 t' M S P V c := by
  obtain ⟨h1, h2, h3, h4, h5⟩ := h
  have hS := h1.2.2.2.2.2.2.1
  refine ⟨?_, ?_, h3, h4, h5⟩
  · unfold FSh at h1 ⊢
    rw [g.2.2.1, g.2.2.2.1, g.2.2.2.2.1]; exact h1
  · exact h2.to ⟨fun k j a1 a2 _ => g.2.2.2.2.2.2 _ _ (Or.inl (by omega)) (by omega) (by omega), fun j _ => g.2.2.2.2.2.1 _ _, fun k _ => g.2.2.2.2.2.2 _ _ (Or.inl (by omega)) (by omega) (by omega)⟩ (Nat.le_refl _)
theorem kU (H : G0 t0 M S P V c) (h : GU t0 M t o) : tK t M = 17 := by rw [h.1.2.2.1]; exact H.1.1

theorem gU0 (H : G0 t0 M S P V c) (h : GU t0 M t o) {x : Nat} (hx : x < c) {f : Nat → Prop} (hf : f (S + 1)) : onR (tR t M 10) (fun a => tK t a = 15 ∧ onR (tR t a 0) (fun b => tK t b = 101 ∧ vp_in (nI x) (tL t b) ∧ f b)) := by
  rw [h.1.2.2.1, h.1.2.2.2.1, h.1.2.2.2.2.1, H.1.2.2.2.1.1]
  refine ⟨H.1.2.2.2.1.2.1, ?_⟩
  rw [(H.1.2.2.2.1.2.2.1 0 (by decide)).1]
  exact ⟨H.1.2.2.2.1.2.2.2.1 0 (by decide), by rw [(H.1.2.2.2.1.2.2.1 0 (by decide)).2]; exact vp_in_nI (by have := H.2.2.2.2; omega) (by decide), hf⟩
theorem gU1 (H : G0 t0 M S P V c) (h : GU t0 M t o) {x : Nat} (hx : x < c) {f : Nat → Prop} (hf : f (S + 2)) : onR (tR t M 10) (fun a => tK t a = 15 ∧ onR (tR t a 1) (fun b => tK t b = 101 ∧ vp_in (nI x) (tL t b) ∧ f b)) := by
  rw [h.1.2.2.1, h.1.2.2.2.1, h.1.2.2.2.2.1, H.1.2.2.2.1.1]
  refine ⟨H.1.2.2.2.1.2.1, ?_⟩
  rw [(H.1.2.2.2.1.2.2.1 1 (by decide)).1]
  exact ⟨H.1.2.2.2.1.2.2.2.1 1 (by decide), by rw [(H.1.2.2.2.1.2.2.1 1 (by decide)).2]; exact vp_in_nI (by have := H.2.2.2.2; omega) (by decide), hf⟩
theorem gU2 (H : G0 t0 M S P V c) (h : GU t0 M t o) {x : Nat} (hx : x < c) {f : Nat → Prop} (hf : f (S + 3)) : onR (tR t M 10) (fun a => tK t a = 15 ∧ onR (tR t a 2) (fun b => tK t b = 101 ∧ vp_in (nI x) (tL t b) ∧ f b)) := by
  rw [h.1.2.2.1, h.1.2.2.2.1, h.1.2.2.2.2.1, H.1.2.2.2.1.1]
  refine ⟨H.1.2.2.2.1.2.1, ?_⟩
  rw [(H.1.2.2.2.1.2.2.1 2 (by decide)).1]
  exact ⟨H.1.2.2.2.1.2.2.2.1 2 (by decide), by rw [(H.1.2.2.2.1.2.2.1 2 (by decide)).2]; exact vp_in_nI (by have := H.2.2.2.2; omega) (by decide), hf⟩
theorem gU3 (H : G0 t0 M S P V c) (h : GU t0 M t o) {x : Nat} (hx : x < c) {f : Nat → Prop} (hf : f (S + 4)) : onR (tR t M 10) (fun a => tK t a = 15 ∧ onR (tR t a 3) (fun b => tK t b = 101 ∧ vp_in (nI x) (tL t b) ∧ f b)) := by
  rw [h.1.2.2.1, h.1.2.2.2.1, h.1.2.2.2.2.1, H.1.2.2.2.1.1]
  refine ⟨H.1.2.2.2.1.2.1, ?_⟩
  rw [(H.1.2.2.2.1.2.2.1 3 (by decide)).1]
  exact ⟨H.1.2.2.2.1.2.2.2.1 3 (by decide), by rw [(H.1.2.2.2.1.2.2.1 3 (by decide)).2]; exact vp_in_nI (by have := H.2.2.2.2; omega) (by decide), hf⟩
theorem gU4 (H : G0 t0 M S P V c) (h : GU t0 M t o) {x : Nat} (hx : x < c) {f : Nat → Prop} (hf : f (S + 5)) : onR (tR t M 10) (fun a => tK t a = 15 ∧ onR (tR t a 4) (fun b => tK t b = 101 ∧ vp_in (nI x) (tL t b) ∧ f b)) := by
  rw [h.1.2.2.1, h.1.2.2.2.1, h.1.2.2.2.2.1, H.1.2.2.2.1.1]
  refine ⟨H.1.2.2.2.1.2.1, ?_⟩
  rw [(H.1.2.2.2.1.2.2.1 4 (by decide)).1]
  exact ⟨H.1.2.2.2.1.2.2.2.1 4 (by decide), by rw [(H.1.2.2.2.1.2.2.1 4 (by decide)).2]; exact vp_in_nI (by have := H.2.2.2.2; omega) (by decide), hf⟩
theorem gU5 (H : G0 t0 M S P V c) (h : GU t0 M t o) {x : Nat} (hx : x < c) {f : Nat → Prop} (hf : f (S + 6)) : onR (tR t M 10) (fun a => tK t a = 15 ∧ onR (tR t a 5) (fun b => tK t b = 101 ∧ vp_in (nI x) (tL t b) ∧ f b)) := by
  rw [h.1.2.2.1, h.1.2.2.2.1, h.1.2.2.2.2.1, H.1.2.2.2.1.1]
  refine ⟨H.1.2.2.2.1.2.1, ?_⟩
  rw [(H.1.2.2.2.1.2.2.1 5 (by decide)).1]
  exact ⟨H.1.2.2.2.1.2.2.2.1 5 (by decide), by rw [(H.1.2.2.2.1.2.2.1 5 (by decide)).2]; exact vp_in_nI (by have := H.2.2.2.2; omega) (by decide), hf⟩
theorem gU6 (H : G0 t0 M S P V c) (h : GU t0 M t o) {x : Nat} (hx : x < c) {f : Nat → Prop} (hf : f (S + 7)) : onR (tR t M 10) (fun a => tK t a = 15 ∧ onR (tR t a 6) (fun b => tK t b = 101 ∧ vp_in (nI x) (tL t b) ∧ f b)) := by
  rw [h.1.2.2.1, h.1.2.2.2.1, h.1.2.2.2.2.1, H.1.2.2.2.1.1]
  refine ⟨H.1.2.2.2.1.2.1, ?_⟩
  rw [(H.1.2.2.2.1.2.2.1 6 (by decide)).1]
  exact ⟨H.1.2.2.2.1.2.2.2.1 6 (by decide), by rw [(H.1.2.2.2.1.2.2.1 6 (by decide)).2]; exact vp_in_nI (by have := H.2.2.2.2; omega) (by decide), hf⟩
theorem gU7 (H : G0 t0 M S P V c) (h : GU t0 M t o) {x : Nat} (hx : x < c) {f : Nat → Prop} (hf : f (S + 8)) : onR (tR t M 10) (fun a => tK t a = 15 ∧ onR (tR t a 7) (fun b => tK t b = 101 ∧ vp_in (nI x) (tL t b) ∧ f b)) := by
  rw [h.1.2.2.1, h.1.2.2.2.1, h.1.2.2.2.2.1, H.1.2.2.2.1.1]
  refine ⟨H.1.2.2.2.1.2.1, ?_⟩
  rw [(H.1.2.2.2.1.2.2.1 7 (by decide)).1]
  exact ⟨H.1.2.2.2.1.2.2.2.1 7 (by decide), by rw [(H.1.2.2.2.1.2.2.1 7 (by decide)).2]; exact vp_in_nI (by have := H.2.2.2.2; omega) (by decide), hf⟩
theorem gU8 (H : G0 t0 M S P V c) (h : GU t0 M t o) {x : Nat} (hx : x < c) {f : Nat → Prop} (hf : f (S + 9)) : onR (tR t M 10) (fun a => tK t a = 15 ∧ onR (tR t a 8) (fun b => tK t b = 101 ∧ vp_in (nI x) (tL t b) ∧ f b)) := by
  rw [h.1.2.2.1, h.1.2.2.2.1, h.1.2.2.2.2.1, H.1.2.2.2.1.1]
  refine ⟨H.1.2.2.2.1.2.1, ?_⟩
  rw [(H.1.2.2.2.1.2.2.1 8 (by decide)).1]
  exact ⟨H.1.2.2.2.1.2.2.2.1 8 (by decide), by rw [(H.1.2.2.2.1.2.2.1 8 (by decide)).2]; exact vp_in_nI (by have := H.2.2.2.2; omega) (by decide), hf⟩
theorem gU9 (H : G0 t0 M S P V c) (h : GU t0 M t o) {x : Nat} (hx : x < c) {f : Nat → Prop} (hf : f (S + 10)) : onR (tR t M 10) (fun a => tK t a = 15 ∧ onR (tR t a 9) (fun b => tK t b = 101 ∧ vp_in (nI x) (tL t b) ∧ f b)) := by
  rw [h.1.2.2.1, h.1.2.2.2.1, h.1.2.2.2.2.1, H.1.2.2.2.1.1]
  refine ⟨H.1.2.2.2.1.2.1, ?_⟩
  rw [(H.1.2.2.2.1.2.2.1 9 (by decide)).1]
  exact ⟨H.1.2.2.2.1.2.2.2.1 9 (by decide), by rw [(H.1.2.2.2.1.2.2.1 9 (by decide)).2]; exact vp_in_nI (by have := H.2.2.2.2; omega) (by decide), hf⟩
theorem gU10 (H : G0 t0 M S P V c) (h : GU t0 M t o) {x : Nat} (hx : x < c) {f : Nat → Prop} (hf : f (S + 11)) : onR (tR t M 10) (fun a => tK t a = 15 ∧ onR (tR t a 10) (fun b => tK t b = 101 ∧ vp_in (nI x) (tL t b) ∧ f b)) := by
  rw [h.1.2.2.1, h.1.2.2.2.1, h.1.2.2.2.2.1, H.1.2.2.2.1.1]
  refine ⟨H.1.2.2.2.1.2.1, ?_⟩
  rw [(H.1.2.2.2.1.2.2.1 10 (by decide)).1]
  exact ⟨H.1.2.2.2.1.2.2.2.1 10 (by decide), by rw [(H.1.2.2.2.1.2.2.1 10 (by decide)).2]; exact vp_in_nI (by have := H.2.2.2.2; omega) (by decide), hf⟩
theorem gU11 (H : G0 t0 M S P V c) (h : GU t0 M t o) {x : Nat} (hx : x < c) {f : Nat → Prop} (hf : f (S + 12)) : onR (tR t M 10) (fun a => tK t a = 15 ∧ onR (tR t a 11) (fun b => tK t b = 102 ∧ vp_in (nI x) (tL t b) ∧ f b)) := by
  rw [h.1.2.2.1, h.1.2.2.2.1, h.1.2.2.2.2.1, H.1.2.2.2.1.1]
  refine ⟨H.1.2.2.2.1.2.1, ?_⟩
  rw [(H.1.2.2.2.1.2.2.1 11 (by decide)).1]
  exact ⟨H.1.2.2.2.1.2.2.2.2, by rw [(H.1.2.2.2.1.2.2.1 11 (by decide)).2]; exact vp_in_nI (by have := H.2.2.2.2; omega) (by decide), hf⟩
theorem gUC (H : G0 t0 M S P V c) (h : GU t0 M t o) {x : Nat} (hx : x < 4800) {f : Nat → Prop} (hf : f (M + 3)) : onR (tR t M 6) (fun b => tK t b = 101 ∧ vp_in (nI x) (tL t b) ∧ f b) := by
  rw [h.1.2.2.1, h.1.2.2.2.1, h.1.2.2.2.2.1, H.1.2.2.1.1]
  exact ⟨H.1.2.2.1.2.1, by rw [H.1.2.2.1.2.2]; exact vp_in_nI hx (by decide), hf⟩
theorem rU (H : G0 t0 M S P V c) (h : GU t0 M t o) {k x : Nat} (hk : k ≤ 12) (hx : x < c) : tI t (S + k) (nI x).toNatClampNeg = tI t0 (S + k) x := by
  have := H.1.2.2.2.2.2.2.1
  have := H.2.2.2.2
  rw [nI_clamp (by omega)]
  exact h.1.2.2.2.2.2.2 _ _ (Or.inl (by omega)) (by omega)
theorem rUJ (H : G0 t0 M S P V c) (h : GU t0 M t o) {k x : Nat} (hk : k ≤ 12) (hx : x < c) : tJ t (S + k) (nI x).toNatClampNeg = tJ t0 (S + k) x := by
  have := H.1.2.2.2.2.2.2.1
  have := H.2.2.2.2
  rw [nI_clamp (by omega)]
  exact h.1.2.2.2.2.2.1 _ _
/-- put -/
theorem m239 {x1 : Int32} (hO : OSh t0 M) (h : GU t0 M t o) (ho : o < 7800) (k : ∀ t', GU t0 M t' (o + 1) → Post (.inl none) t') : CalG C mtab (d + 1) 239 [svR (some M), svI x1] t Post := by
  obtain ⟨o1, ⟨o2, o3, o4⟩, -⟩ := hO
  have hK : tK t M = 17 := by rw [h.1.2.2.1]; exact o1
  refine cal239 ⟨hK, hK, ?_⟩
  rw [h.2.1, h.1.2.2.2.2.1, o2]
  refine ⟨by rw [h.1.2.2.1]; exact o3, by rw [h.1.2.2.2.1, o4]; exact vp_in_nI ho (by decide), hK, hK, ?_⟩
  rw [sI_at (by omega), h.2.1, show nI o + 1 = nI (o + 1) from nI_add o 1]
  exact k _ ⟨h.1.trans (MU.A.trans (MU.I (Or.inr rfl))), sI_eq, by omega⟩
/-- say -/
theorem m240 {n : Nat} (hn : n < 10) (hO : OSh t0 M) (h : GU t0 M t o) (ho : o + lenTx.getD n 0 ≤ 7800) (k : ∀ t', GU t0 M t' (o + lenTx.getD n 0) → Post (.inl none) t') : CalG C mtab (d + 5) 240 [svR (some M), svR (some (cS C n))] t Post := by
  have hl : lenTx.getD n 0 ≤ 20 := by rw [txW_len n hn]; exact txW_lt n hn
  refine cal240 (fun m l2 t' => ∃ j, m = lenTx.getD n 0 - j ∧ j ≤ lenTx.getD n 0 ∧ l2 = nI j ∧ GU t0 M t' (o + j)) ?_ ?_
  · exact ⟨_, rfl, rfl, 0, rfl, Nat.zero_le _, rfl, h⟩
  · rintro m l2 t' ⟨j, rfl, hj, rfl, h'⟩
    refine ⟨⟨n, hn, rfl⟩, s254 hn ⟨fun e => ?_, fun e => ?_⟩⟩
    · have e : lenTx.getD n 0 ≤ j := (nI_leI (by omega) (by omega)).mp e
      rw [show j = lenTx.getD n 0 by omega] at h'
      exact k t' h'
    · have hj2 : j < lenTx.getD n 0 := Nat.not_le.mp (fun z => e (nI_le z (by omega)))
      refine ⟨⟨n, hn, rfl⟩, s255 hn hj2 ⟨by rw [h'.1.2.2.1]; exact hO.1, m239 hO h' (by omega) (fun t2 h2 => ⟨rfl, ?_⟩)⟩⟩
      exact ⟨_, (by omega : lenTx.getD n 0 - (j + 1) < lenTx.getD n 0 - j), rfl, rfl, j + 1, rfl, hj2, nI_1 j, by rw [← Nat.add_assoc]; exact h2⟩
theorem p10a : ∀ j, j < 17 → lN (10 ^ j) * 10 = lN (10 ^ (j + 1)) := by decide
theorem p10b : ∀ j, j < 17 → lN (10 ^ (j + 1)) / 10 = lN (10 ^ j) := by decide
theorem p10c : ∀ j, j < 18 → ¬ lN (10 ^ j) = 0 := by decide
theorem p10d : ∀ j, j < 18 → ¬ lN (10 ^ j) ≤ 0 := by decide
theorem p10t : ∀ j, j < 18 → (lN (10 ^ j)).toInt = ((10 ^ j : Nat) : Int) := by decide
theorem dv10 {z : Int64} {N j : Nat} (hz : z.toInt = (N : Int)) (hj : j < 18) : (z / lN (10 ^ j)).toInt = ((N / 10 ^ j : Nat) : Int) := by
  rw [Int64.toInt_div_of_ne_left _ _ (fun e => by rw [e] at hz; have : (Int64.minValue).toInt = -9223372036854775808 := by decide
                                                  omega), hz, p10t j hj]
  exact (Int.ofNat_tdiv _ _)
set_option maxHeartbeats 1000000 in
/-- sayNumber -/
theorem m241 {x1 : Int64} {k : Nat} (hO : OSh t0 M) (h : GU t0 M t o) (hk : 1 ≤ k ∧ k ≤ 17) (hx : x1.toInt.natAbs < 10 ^ k) (ho : o + k + (if x1.toInt < 0 then 1 else 0) ≤ 7800) (kk : ∀ t' o', GU t0 M t' o' → o' ≤ o + k + (if x1.toInt < 0 then 1 else 0) → Post (.inl none) t') : CalG C mtab (d + 2) 241 [svR (some M), svJ x1] t Post := by
  have hK : ∀ t' o', GU t0 M t' o' → tK t' M = 17 := fun t' o' h' => by rw [h'.1.2.2.1]; exact hO.1
  have h17 : (10 : Nat) ^ k ≤ 10 ^ 17 := Nat.pow_le_pow_right (by decide) hk.2
  obtain ⟨N, hN⟩ : ∃ N, N = x1.toInt.natAbs := ⟨_, rfl⟩
  rw [← hN] at hx
  have hN17 : N < 100000000000000000 := Nat.lt_of_lt_of_le hx h17
  obtain ⟨sg, hsg⟩ : ∃ sg, sg = if x1.toInt < 0 then 1 else 0 := ⟨_, rfl⟩
  rw [← hsg] at ho kk
  have st : ∀ {z : Int64} {t' : Ht} {o' : Nat}, z.toInt = (N : Int) → GU t0 M t' o' → o' ≤ o + sg → ∃ n, some M = some M ∧ x1 = x1 ∧ (∃ j o', n = 40 - j ∧ j < k ∧ z.toInt = (N : Int) ∧ (1 : Int64) = lN (10 ^ j) ∧ GU t0 M t' o' ∧ o' ≤ o + sg) := fun hz h' ho' => ⟨_, rfl, rfl, 0, _, rfl, by omega, hz, by decide, h', ho'⟩
  refine cal241 (fun n l3 l5 t' => ∃ j o', n = 40 - j ∧ j < k ∧ l3.toInt = (N : Int) ∧ l5 = lN (10 ^ j) ∧ GU t0 M t' o' ∧ o' ≤ o + sg) (fun n l3 l5 t' => (n = 0 ∧ l5 = 0 ∧ ∃ o', GU t0 M t' o' ∧ o' ≤ o + k + sg) ∨ ∃ j o', n = j + 1 ∧ j < k ∧ l5 = lN (10 ^ j) ∧ GU t0 M t' o' ∧ o' + j + 1 ≤ o + k + sg) ?_ ?_ ?_
  · refine ⟨fun e => ?_, fun e => ⟨hK t o h, m239 hO h (by omega) (fun t2 h2 => ⟨rfl, ?_⟩)⟩⟩
    · rw [lg_cmp_ge, Int64.le_iff_toInt_le, i64_0] at e
      have hz : x1.toInt = (N : Int) := by omega
      exact ⟨fun _ => st hz h (by omega), fun z => absurd (by rw [lg_cmp_ge, Int64.le_iff_toInt_le, i64_0]; exact e) z⟩
    · have e' : x1.toInt < 0 := by
        rw [lg_cmp_ge, Int64.le_iff_toInt_le, i64_0] at e; omega
      rw [if_pos e'] at hsg
      have hz : (-x1).toInt = (N : Int) := by
        rw [Int64.toInt_neg, Int.bmod_eq_of_le] <;> omega
      exact ⟨fun z => absurd z e, fun _ => st hz h2 (by omega)⟩
  · rintro n l3 l5 t' ⟨j, o', rfl, hj, hz, rfl, h', ho'⟩
    have hdv := dv10 hz (j := j) (by omega)
    refine ⟨p10c j (by omega), fun e => ?_, fun e => ?_⟩
    · exact ⟨j + 1, by omega, rfl, rfl, Or.inr ⟨j, o', rfl, hj, rfl, h', by omega⟩⟩
    · rw [lg_cmp_le, Int64.le_iff_toInt_le, hdv] at e
      have e9 : (9 : Int64).toInt = 9 := by decide
      rw [e9] at e
      have e : 10 ≤ N / 10 ^ j := by omega
      have h10 : 10 ^ (j + 1) ≤ N := by
        rw [Nat.pow_succ, Nat.mul_comm]
        exact (Nat.le_div_iff_mul_le (Nat.pow_pos (by decide))).mp e
      have hj2 : j + 1 < k := by
        rcases Nat.lt_or_ge (j + 1) k with z | z
        · exact z
        · have := Nat.pow_le_pow_right (n := 10) (by decide) z
          omega
      rw [p10a j (by omega)]
      exact ⟨40 - (j + 1), by omega, rfl, rfl, j + 1, o', rfl, hj2, hz, rfl, h', ho'⟩
  · rintro n l3 l5 t' (⟨rfl, rfl, o', h', ho'⟩ | ⟨j, o', rfl, hj, rfl, h', ho'⟩)
    · exact ⟨fun _ => kk t' o' h' ho', fun e => absurd (by decide) e⟩
    · refine ⟨fun e => absurd ((lg_cmp_le _ _).mp e) (p10d j (by omega)), fun _ => ⟨p10c j (by omega), by decide, hK t' o' h', m239 hO h' (by omega) (fun t2 h2 => ⟨rfl, by decide, ?_⟩)⟩⟩
      cases j with
      | zero => exact ⟨0, by omega, rfl, rfl, Or.inl ⟨rfl, by decide, _, h2, by omega⟩⟩
      | succ j =>
        rw [p10b j (by omega)]
        exact ⟨j + 1, by omega, rfl, rfl, Or.inr ⟨j, _, rfl, by omega, rfl, h2, by omega⟩⟩
/-- sayCharacter -/
theorem m242 {x1 x2 : Int32} (hO : OSh t0 M) (h : GU t0 M t o) (ho : o + 6 ≤ 7800) (kk : ∀ t' o', GU t0 M t' o' → o' ≤ o + 6 → Post (.inl none) t') : CalG C mtab (d + 2) 242 [svR (some M), svI x1, svI x2] t Post := by
  have hK : ∀ t' o', GU t0 M t' o' → tK t' M = 17 := fun t' o' h' => by rw [h'.1.2.2.1]; exact hO.1
  have p : ∀ {y : Int32} {t' : Ht} {o' : Nat} {Q : Ht → Prop}, GU t0 M t' o' → o' < o + 6 → (∀ t2, GU t0 M t2 (o' + 1) → Q t2) → tK t' M = 17 ∧ CalG C mtab (d + 1) 239 [svR (some M), svI y] t' (aftV (fun v1 t2 => v1 = none ∧ Q t2) (fun k3 q4 t5 => Post (.inr (k3, q4)) t5)) := fun h' ho' q => ⟨hK _ _ h', m239 hO h' (by omega) (fun t2 h2 => ⟨rfl, q t2 h2⟩)⟩
  refine cal242 ?_
  unfold vc242
  repeat' (first
    | exact kk _ _ (by assumption) (by omega)
    | refine p (by assumption) (by omega) (fun t' h' => ?_)
    | refine ⟨by decide, ?_⟩
    | refine ⟨fun _ => ?_, fun _ => ?_⟩)
/-- sayText -/
theorem m243 {p n : Nat} {x3 : Int32} (H : G0 t0 M S P V c) (hO : OSh t0 M) (h : GU t0 M t o) (hp : p + n ≤ 4800) (ho : o + 2 + 6 * n ≤ 7800) (kk : ∀ t' o', GU t0 M t' o' → o' ≤ o + 2 + 6 * n → Post (.inl none) t') : CalG C mtab (d + 3) 243 [svR (some M), svI (nI p), svI (nI n), svI x3] t Post := by
  refine cal243 (fun m l4 t' => ∃ j o', m = n - j ∧ j ≤ n ∧ l4 = nI j ∧ GU t0 M t' o' ∧ o' ≤ o + 1 + 6 * j) ?_ ?_
  · exact ⟨kU H h, m239 hO h (by omega) (fun t2 h2 => ⟨rfl, _, rfl, rfl, rfl, rfl, 0, o + 1, rfl, Nat.zero_le _, rfl, h2, by omega⟩)⟩
  · rintro m l4 t' ⟨j, o', rfl, hj, rfl, h', ho'⟩
    refine ⟨fun e => ⟨kU H h', m239 hO h' (by omega) (fun t2 h2 => ⟨rfl, kk t2 _ h2 (by omega)⟩)⟩, fun e => ⟨kU H h', ?_⟩⟩
    have hj2 : j < n := Nat.not_le.mp (fun z => e (nI_le z (by omega)))
    rw [nI_add]
    refine gUC H h' (by omega) ⟨kU H h', m242 hO h' (by omega) (fun t2 o2 h2 ho2 => ⟨rfl, ?_⟩)⟩
    exact ⟨_, (by omega : n - (j + 1) < n - j), rfl, rfl, rfl, rfl, j + 1, o2, rfl, hj2, nI_1 j, h2, by omega⟩
end RTX
