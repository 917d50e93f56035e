/-! THE CLASS BETWEEN CALLS -/
/-- the value that was read -/
def CIv (C : Cx) (B : Nat) (t : Ht) (T : Nat) (t1 : Ht) (G : GT) (V : VT) (c : Nat) : Prop := tR t B 8 = some (gA G 0) ∧ NV C T t1 G V c ∧ B + 62 < T ∧ tN t1 ≤ tN t ∧ (∀ x, T ≤ x → x < tN t1 → (tK t1 x = 3 ∨ tK t1 x = 1 ∨ tK t1 x = 103 ∨ tK t1 x = 101) → sameAt t1 t x) ∧ VOK V c
/-- the query that was read -/
def CIq (C : Cx) (B : Nat) (t : Ht) (lo hi q g : Nat) (x : QF) : Prop := tR t B 9 = some q ∧ QR C t (.tag g x) 0 [] (rg lo hi) [q] false ∧ B + 62 < lo ∧ hi ≤ tN t ∧ gdQ (.tag g x) 10 ∧ fdQ x 1 ≤ 16 ∧ dqQ x 1 ≤ 324
/-- what was found -/
def RsI (t : Ht) (B : Nat) (G : GT) (c : Nat) : Prop := tR t (B + 6) 2 = none ∨ ∃ r l, tR t (B + 6) 2 = some r ∧ Rw t G r l ∧ ∀ j ∈ l, j < c
/-- its own cells -/
def CFx (t : Ht) (B : Nat) : Prop := BSh t B ∧ RwS t B ∧ (∃ o, tI t (B + 8) 1 = nI o ∧ o ≤ 2400) ∧ B + 62 < tN t ∧ ∀ x, x ≤ B + 62 → tK t x ≠ 8 ∧ tK t x ≠ 104
def CInv (C : Cx) (B : Nat) (t : Ht) : Prop := CFx t B ∧ ∃ lo hi, (tR t B 9 = none ∨ ∃ q g x, CIq C B t lo hi q g x) ∧ ((tR t B 8 = none ∧ tR t (B + 6) 2 = none) ∨ ∃ T t1 G V c, CIv C B t T t1 G V c ∧ RsI t B G c ∧ (tR t B 9 = none ∨ hi ≤ T ∨ tN t1 ≤ lo))
section CIN
variable {C : Cx} {d : Nat} {Post : OutT → Ht → Prop} {t0 t t1 t' t2 : Ht} {B T c : Nat} {G : GT} {V : VT}
theorem Rw.fr {r : Nat} {l : List Nat} (h : Rw t G r l) (hN : tN t ≤ tN t') (h1 : sameAt t t' r) (h2 : sameAt t t' (r + 1)) : Rw t' G r l := by
  obtain ⟨a1, a2, a3, a4, a5, a6, a7, a8⟩ := h
  exact ⟨h1.1.trans a1, (h1.2.2.2.2 0).trans a2, h2.1.trans a3, h2.2.1.trans a4, by omega, (h1.2.2.1 1).trans a6, a7, fun i hi => (h2.2.2.2.2 i).trans (a8 i hi)⟩
theorem RwS.fr (h : RwS t B) (hN : tN t ≤ tN t') (hk : ∀ x, x ≤ B + 62 → tK t x ≠ 8 ∧ tK t x ≠ 104) (h7 : ∀ k, tR t' (B + 7) k = tR t (B + 7) k) (hs : ∀ x, x < tN t → B + 62 < x → sameAt t t' x) : RwS t' B := by
  refine ⟨fun i r hi e => ?_, fun i j r hi hj hij e => ?_⟩
  · rw [h7] at e
    obtain ⟨a1, a2, a3, a4, a5⟩ := h.1 i r hi e
    have hr : B + 62 < r := Nat.not_le.mp (fun z => (hk r z).1 a1)
    have s1 := hs r (by omega) hr
    have s2 := hs (r + 1) a5 (by omega)
    exact ⟨s1.1.trans a1, (s1.2.2.2.2 0).trans a2, s2.1.trans a3, s2.2.1.trans a4, by omega⟩
  · rw [h7] at e ⊢
    exact h.2 i j r hi hj hij e
theorem CIv.fr (h : CIv C B t T t1 G V c) (hN : tN t ≤ tN t') (h8 : tR t' B 8 = tR t B 8) (hs : ∀ x, x < tN t → B + 62 < x → sameAt t t' x) : CIv C B t' T t1 G V c := by
  obtain ⟨a1, a2, a3, a4, a5, a6⟩ := h
  exact ⟨h8.trans a1, a2, a3, by omega, fun x h1 h2 h3 => (a5 x h1 h2 h3).trans (hs x (by omega) (by omega)), a6⟩
theorem CIv.nv (h : CIv C B t T t1 G V c) : NV C T t G V c := h.2.1.frame h.2.2.2.1 h.2.2.2.2.1
theorem CIq.fr {lo hi q g : Nat} {x : QF} (h : CIq C B t lo hi q g x) (hN : tN t ≤ tN t') (h9 : tR t' B 9 = tR t B 9) (hs : ∀ x, x < tN t → B + 62 < x → sameAt t t' x) : CIq C B t' lo hi q g x := by
  obtain ⟨a1, a2, a3, a4, a5⟩ := h
  exact ⟨h9.trans a1, QR.frame (t := t) (t' := t') hN _ _ _ _ _ _ a2 (fun v hv => hs v (by have := hv.2; omega) (by have := hv.1; omega)), a3, by omega, a5⟩
theorem RsI.fr (h : RsI t B G c) (hN : tN t ≤ tN t') (hk : ∀ x, x ≤ B + 62 → tK t x ≠ 8 ∧ tK t x ≠ 104) (h6 : tR t' (B + 6) 2 = tR t (B + 6) 2) (hs : ∀ x, x < tN t → B + 62 < x → sameAt t t' x) : RsI t' B G c := by
  rcases h with h | ⟨r, l, h1, h2, h3⟩
  · exact Or.inl (h6.trans h)
  · have hr : B + 62 < r := Nat.not_le.mp (fun z => (hk r z).1 h2.1)
    have h5 := h2.2.2.2.2.1
    exact Or.inr ⟨r, l, h6.trans h1, h2.fr hN (hs r (by omega) hr) (hs (r + 1) h5 (by omega)), h3⟩
/-- a call that leaves value, query and rows -/
theorem CInv.fr (h : CInv C B t) (hN : tN t ≤ tN t') (hs : ∀ x, x < tN t → B + 62 < x → sameAt t t' x) (hf : ∀ x, x ≤ B + 62 → tK t' x = tK t x ∧ tL t' x = tL t x) (hr : ∀ x k, B ≤ x → x ≤ B + 9 → tR t' x k = tR t x k) (ho : ∃ o, tI t' (B + 8) 1 = nI o ∧ o ≤ 2400) : CInv C B t' := by
  obtain ⟨⟨f1, f2, f3, f4, f5⟩, lo, hi, q1, v1⟩ := h
  refine ⟨⟨f1.of hN (fun x h1 h2 => hf x (by omega)) (fun x k h1 h2 _ _ _ => hr x k h1 h2), f2.fr hN f5 (fun k => hr _ _ (by omega) (by omega)) hs, ho, by omega, fun x hx => by rw [(hf x hx).1]; exact f5 x hx⟩, lo, hi, ?_, ?_⟩
  · rcases q1 with q1 | ⟨q, g, x, q1⟩
    · exact Or.inl ((hr B 9 (by omega) (by omega)).trans q1)
    · exact Or.inr ⟨q, g, x, q1.fr hN (hr B 9 (by omega) (by omega)) hs⟩
  · rcases v1 with ⟨v1, v2⟩ | ⟨T, t1, G, V, c, v1, v2, v3⟩
    · exact Or.inl ⟨(hr B 8 (by omega) (by omega)).trans v1, (hr (B + 6) 2 (by omega) (by omega)).trans v2⟩
    · refine Or.inr ⟨T, t1, G, V, c, v1.fr hN (hr B 8 (by omega) (by omega)) hs, v2.fr hN f5 (hr (B + 6) 2 (by omega) (by omega)) hs, ?_⟩
      rw [hr B 9 (by omega) (by omega)]; exact v3
theorem CInv.och (h : CInv C B t) : OCh t B := ⟨h.1.1.1.2.2.2.2.2.2.2.2.2.2.2.1, h.1.1.2.2.1.2.2.2.2.2, h.1.1.1.2.2.2.2.2.2.2.2.2.2.2.2.1, h.1.1.1.2.2.2.2.2.2.2.2.2.2.2.2.2⟩
/-- result(i) -/
theorem c2g {x1 : Int32} (hK : tK t (B + 6) = 2) (h : RsI t B G c) (k0 : Post (.inl (some (svR none))) t) (k1 : ∀ j, j < c → Post (.inl (some (svR (some (gA G j))))) t) : CalG C mtab (d + 2) 2 [svR (some (B + 6)), svI x1] t Post := by
  refine cal2 ⟨hK, ?_⟩
  rcases h with h | ⟨r, l, h1, ⟨a1, a2, a3, a4, a5, a6, a7, a8⟩, h3⟩
  · rw [h]; exact k0
  · rw [h1]
    refine ⟨hK, a1, cal106 ⟨fun _ => k0, fun e => ⟨a1, fun _ => k0, fun e2 => ⟨a1, ?_⟩⟩⟩⟩
    rw [a2]
    refine ⟨by rw [a3]; decide, by rw [a3]; decide, fun _ => k0, fun e3 => ⟨a1, by rw [a3]; decide, by rw [a3]; decide, ?_⟩⟩
    obtain ⟨i, hi, rfl⟩ := nI_of e
    rw [a6] at e2
    have hil : i < l.length := Nat.not_le.mp (fun z => e2 (nI_le z (by omega)))
    refine ⟨by rw [a4]; exact vp_in_nI (by omega) (by decide), ?_⟩
    rw [nI_clamp (by omega), a8 i hil]
    exact k1 _ (h3 _ (kid_mem hil))
/-- what the calls on what was found need -/
theorem CInv.rs (h : CInv C B t) : (tR t B 8 = none ∧ tR t (B + 6) 2 = none) ∨ ∃ T G V c, RsI t B G c ∧ NV C T t G V c ∧ B + 62 < T ∧ VOK V c ∧ tR t B 8 = some (gA G 0) := by
  obtain ⟨-, lo, hi, -, v | ⟨T, t1, G, V, c, v1, v2, -⟩⟩ := h
  · exact Or.inl v
  · exact Or.inr ⟨T, G, V, c, v2, v1.nv, v1.2.2.1, v1.2.2.2.2.2, v1.1⟩
theorem c2n {x1 : Int32} (h : CInv C B t) (k0 : Post (.inl (some (svR none))) t) (k1 : ∀ T G V c j, NV C T t G V c → B + 62 < T → VOK V c → j < c → Post (.inl (some (svR (some (gA G j))))) t) : CalG C mtab (d + 2) 2 [svR (some (B + 6)), svI x1] t Post := by
  have hK : tK t (B + 6) = 2 := h.1.1.1.2.2.2.2.2.2.2.2.1
  rcases h.rs with ⟨v1, v2⟩ | ⟨T, G, V, c, v1, v2, v3, v4, -⟩
  · exact c2g (G := fun _ => (0, 0, 0, 0)) (c := 0) hK (Or.inl v2) k0 (fun j hj => absurd hj (Nat.not_lt_zero _))
  · exact c2g hK v1 k0 (fun j hj => k1 T G V c j v2 v3 v4 hj)
/-- found -/
theorem cFound {x1 x2 : Int32} (h : CInv C B t) (k : ∀ r, Post (.inl (some (svI r))) t) : CalG C mtab (d + 4) 134 [svR (some B), svI x1, svI x2] t Post := by
  have hS := h.1.1
  refine cal134 ⟨hS.1.1, ?_⟩
  rw [hS.2.1.2.2.2.2.1]
  refine ⟨hS.1.2.2.2.2.2.2.2.2.1, c2n (d := d + 1) h (k _) (fun T G V c j hN hT hv hj => ?_)⟩
  have E := (hN.1 j hj).1
  have k3 := E.1.2.2
  exact ⟨fun _ => ⟨k3, k _⟩, fun _ => ⟨fun _ => ⟨k3, c29 (d := d) (VLf.node hN hj (hv.2.1 j hj).1) (k _)⟩, fun _ => ⟨fun _ => ⟨k3, k _⟩, fun _ => ⟨fun _ => ⟨k3, k _⟩, fun _ => ⟨fun _ => ⟨k3, k _⟩, fun _ => k _⟩⟩⟩⟩⟩
/-- number -/
theorem cNumber {x1 : Int32} (h : CInv C B t) (k : ∀ r, Post (.inl (some (svJ r))) t) : CalG C mtab (d + 3) 135 [svR (some B), svI x1] t Post := by
  have hS := h.1.1
  refine cal135 ⟨hS.1.1, ?_⟩
  rw [hS.2.1.2.2.2.2.1]
  refine ⟨hS.1.2.2.2.2.2.2.2.2.1, c2n (d := d) h (k _) (fun T G V c j hN hT hv hj => ⟨((hN.1 j hj).1).1.2.2, k _⟩)⟩
/-- path, text -/
theorem cPath {x1 : Int32} (h : CInv C B t) (k : ∀ r t', MC B t t' → (∃ o, tI t' (B + 8) 1 = nI o ∧ o ≤ 2400) → Post (.inl (some (svI r))) t') : CalG C mtab (d + 40) 136 [svR (some B), svI x1] t Post := by
  have hS := h.1.1
  have hO := h.och
  have h13 := hS.1.1
  have h5 := hS.2.1.2.2.2.2.2
  refine cal136 ⟨h13, ?_⟩
  rw [hS.2.1.2.2.2.2.1]
  refine ⟨hS.1.2.2.2.2.2.2.2.2.1, c2n (d := d + 37) h (k _ _ MC.rfl' h.1.2.2.1) (fun T G V c j hN hT hv hj => ⟨h13, ?_⟩)⟩
  rw [h5]
  have g0 : GCo t B (sI t (B + 8) 1 0) := ⟨MC.I, 0, sI_eq, by decide⟩
  refine ⟨hO.1, cal35 ⟨hO.1, rfl, h13, ?_⟩⟩
  rw [show tR (sI t (B + 8) 1 0) = tR t from rfl, h5]
  refine ⟨hO.1, c44 (d := d + 1) hO (by omega) hN 30 j _ _ hj (Nat.le_refl _) g0 (fun t2 h2 => ⟨rfl, by rw [h2.1.2.2.1]; exact h13, ?_⟩)⟩
  rw [h2.1.2.2.2.2.1, h5]
  exact ⟨kC hO h2, k _ _ h2.1 h2.2⟩
theorem cText {x1 : Int32} (h : CInv C B t) (k : ∀ r t', MC B t t' → (∃ o, tI t' (B + 8) 1 = nI o ∧ o ≤ 2400) → Post (.inl (some (svI r))) t') : CalG C mtab (d + 70) 137 [svR (some B), svI x1] t Post := by
  have hS := h.1.1
  have hO := h.och
  have h13 := hS.1.1
  have h5 := hS.2.1.2.2.2.2.2
  refine cal137 ⟨h13, ?_⟩
  rw [hS.2.1.2.2.2.2.1]
  refine ⟨hS.1.2.2.2.2.2.2.2.2.1, c2n (d := d + 67) h (k _ _ MC.rfl' h.1.2.2.1) (fun T G V c j hN hT hv hj => ⟨h13, ?_⟩)⟩
  rw [h5]
  have g0 : GCo t B (sI t (B + 8) 1 0) := ⟨MC.I, 0, sI_eq, by decide⟩
  refine ⟨hO.1, cal35 ⟨hO.1, rfl, h13, ?_⟩⟩
  rw [show tR (sI t (B + 8) 1 0) = tR t from rfl, h5]
  refine ⟨hO.1, c45 (d := d) hO (by omega) hN hv 30 (Nat.le_refl _) j _ _ hj g0 (fun t2 h2 => ⟨rfl, by rw [h2.1.2.2.1]; exact h13, ?_⟩)⟩
  rw [h2.1.2.2.2.2.1, h5]
  exact ⟨kC hO h2, k _ _ h2.1 h2.2⟩
/-- has -/
theorem c36g {x1 : Int32} (hO : OCh t B) (hU : ∃ o, tI t (B + 8) 1 = nI o ∧ o ≤ 2400) (k0 : Post (.inl (some (svI (0 : Int32)))) t) (k1 : ∀ i, i < 2400 → x1 = nI i → Post (.inl (some (svI (1 : Int32)))) t) : CalG C mtab (d + 1) 36 [svR (some (B + 8)), svI x1] t Post := by
  obtain ⟨o, h1, h2⟩ := hU
  refine cal36 ⟨fun _ => ⟨Or.inl rfl, k0⟩, fun e => ⟨hO.1, fun _ => ⟨Or.inl rfl, k0⟩, fun e2 => ⟨hO.1, ?_⟩⟩⟩
  rw [hO.2.1]
  refine ⟨by rw [hO.2.2.1]; decide, by rw [hO.2.2.1]; decide, fun _ => ⟨Or.inl rfl, k0⟩, fun e3 => ⟨Or.inr rfl, ?_⟩⟩
  obtain ⟨i, hi, rfl⟩ := nI_of e
  rw [h1] at e2
  have : i < o := Nat.not_le.mp (fun z => e2 (nI_le z (by omega)))
  exact k1 i (by omega) rfl
/-- the law's own out -/
theorem cOut {x1 : Int32} {a : Nat} (h : CInv C B t) (ha : tK t a = 102 ∧ tL t a = 1) (k0 : Post (.inl (some (svI (1 : Int32)))) (tNew t 0 0 6)) (k1 : ∀ v, Post (.inl (some (svI (0 : Int32)))) (sJ t a 0 v)) : CalG C mtab (d + 5) 281 [svR (some B), svI x1, svR (some a)] t Post := by
  have hS := h.1.1
  have hO := h.och
  have h13 := hS.1.1
  have h5 := hS.2.1.2.2.2.2.2
  refine cal281 ⟨h13, cal138 ⟨h13, ?_⟩⟩
  rw [h5]
  refine ⟨hO.1, c36g (d := d + 2) hO h.1.2.2.1 ⟨fun _ => ⟨rfl, k0⟩, fun z => absurd rfl z⟩ (fun i hi e => ⟨fun z => absurd z (by decide), fun _ => ⟨h13, ?_⟩⟩)⟩
  rw [h5]
  refine ⟨hO.1, cal37 ⟨hO.1, c36g (d := d + 1) hO h.1.2.2.1 ⟨fun _ => ⟨ha.1, ?_, k1 _⟩, fun z => absurd rfl z⟩ (fun i' hi' e' => ⟨fun z => absurd z (by decide), fun _ => ⟨hO.1, ?_⟩⟩)⟩⟩
  · rw [ha.2]; exact vp_in_nI (n := 0) (by decide) (by decide)
  · rw [hO.2.1]
    refine ⟨hO.2.2.1, by rw [hO.2.2.2, e']; exact vp_in_nI hi' (by decide), ha.1, ?_, k1 _⟩
    rw [ha.2]; exact vp_in_nI (n := 0) (by decide) (by decide)
/-- deepest -/
theorem c33 (hN : NV C T t G V c) (hc : 0 < c) (k : ∀ r, Post (.inl (some (svI r))) t) : CalG C mtab (d + 2) 33 [svR (some (gA G 0))] t Post := by
  refine cal33 (fun n l1 l2 t' => t = t' ∧ ∃ m, n = c - m ∧ m ≤ c ∧ l2 = (if m < c then some (gA G m) else none)) ?_ ?_
  · exact ⟨_, rfl, rfl, 0, rfl, Nat.zero_le _, by rw [if_pos hc]⟩
  · rintro n l1 l2 _ ⟨rfl, m, rfl, hm, rfl⟩
    by_cases z : m < c
    · rw [if_pos z]
      obtain ⟨E, W, e10⟩ := hN.1 m z
      have k3 := E.1.2.2
      refine ⟨k3, ((hN.1 0 hc).1).1.2.2, fun _ => k _, fun _ => ⟨k3, cal250 ?_⟩⟩
      unfold vc250
      have nx : ∀ x : Int32, tK t (gA G m) = 3 ∧ ∃ k, k < c - m ∧ some (gA G 0) = some (gA G 0) ∧ t = t ∧ ∃ m', k = c - m' ∧ m' ≤ c ∧ tR t (gA G m) 10 = (if m' < c then some (gA G m') else none) := fun x => ⟨k3, c - (m + 1), by omega, rfl, rfl, m + 1, rfl, z, e10⟩
      exact ⟨fun _ => nx 0, fun _ => nx 0⟩
    · rw [if_neg z]
      exact k _
/-- about -/
theorem cAbout {x1 : Int32} (h : CInv C B t) (k : ∀ r, Post (.inl (some (svI r))) t) : CalG C mtab (d + 3) 139 [svR (some B), svI x1] t Post := by
  have hS := h.1.1
  have hO := h.och
  have h13 := hS.1.1
  have h6 : tK t (B + 6) = 2 := hS.1.2.2.2.2.2.2.2.2.1
  have v : nuR (tR t B 8) (Post (.inl (some (svI (-1 : Int32)))) t) (fun _ => tK t B = 13 ∧ onR (tR t B 8) (fun a30 => tK t a30 = 3 ∧ Post (.inl (some (svI ((tI t a30 9) + (1 : Int32))))) t)) := by
    rcases h.rs with ⟨v1, v2⟩ | ⟨T, G, V, c, v1, v2, v3, v4, v5⟩
    · rw [v1]; exact k _
    · rw [v5]; exact ⟨h13, ((v2.1 0 v4.1).1).1.2.2, k _⟩
  have v' : nuR (tR t B 8) (Post (.inl (some (svI (-1 : Int32)))) t) (fun _ => tK t B = 13 ∧ onR (tR t B 8) (fun a22 => tK t a22 = 3 ∧ CalG C mtab (d + 2) 33 [svR (some a22)] t (aftV (fun v23 t24 => rI v23 (fun x28 => Post (.inl (some (svI x28))) t24)) (fun k25 q26 t27 => Post (.inr (k25, q26)) t27)))) := by
    rcases h.rs with ⟨v1, v2⟩ | ⟨T, G, V, c, v1, v2, v3, v4, v5⟩
    · rw [v1]; exact k _
    · rw [v5]; exact ⟨h13, ((v2.1 0 v4.1).1).1.2.2, c33 v2 v4.1 (fun r => k r)⟩
  have qq : tR t B 9 = none ∨ ∃ a l us cc e, tR t B 9 = some a ∧ tK t a = 5 ∧ tR t a 1 = some l ∧ LsA C t l us cc e := by
    obtain ⟨-, lo, hi, q | ⟨q, g, x, hq⟩, -⟩ := h
    · exact Or.inl q
    · obtain ⟨-, p2, -, l, us, cc, e, p3, p4, -⟩ := hq.2.1.pth
      exact Or.inr ⟨q, l, us, cc, e, hq.1, p2, p3, p4⟩
  have rr : tR t (B + 6) 2 = none ∨ ∃ r, tR t (B + 6) 2 = some r ∧ tK t r = 8 := by
    rcases h.rs with ⟨v1, v2⟩ | ⟨T, G, V, c, v1 | ⟨r, l, v1, v2, -⟩, -⟩
    · exact Or.inl v2
    · exact Or.inl v1
    · exact Or.inr ⟨r, v1, v2.1⟩
  refine cal139 ⟨fun _ => ⟨h13, v⟩, fun _ => ⟨fun _ => ⟨h13, v'⟩, fun _ => ⟨fun _ => ⟨h13, ?_⟩, fun _ => ⟨fun _ => ⟨h13, ?_⟩, fun _ => ⟨fun _ => ⟨h13, onS hS.2.1.2.2.2.2.1 ⟨h6, k _⟩⟩, fun _ => ⟨fun _ => ⟨h13, onS hS.2.1.2.2.2.2.1 ⟨h6, ?_⟩⟩, fun _ => ⟨fun _ => ⟨h13, k _⟩, fun _ => ⟨fun _ => ⟨h13, onS hS.2.1.2.2.2.2.2 ⟨hO.1, k _⟩⟩, fun _ => k _⟩⟩⟩⟩⟩⟩⟩⟩
  · rcases qq with q | ⟨a, l, us, cc, e, q1, q2, q3, q4⟩
    · rw [q]; exact k _
    · rw [q1]
      refine ⟨h13, q2, ?_⟩
      rw [q3]
      exact ⟨q4.1, s269L (d := d + 1) q4 (k _)⟩
  · rcases qq with q | ⟨a, l, us, cc, e, q1, q2, q3, q4⟩
    · rw [q]; exact k _
    · rw [q1]
      exact ⟨h13, q2, fun _ => k _, fun _ => k _⟩
  · refine cal3 (d := d + 1) ⟨h6, ?_⟩
    rcases rr with q | ⟨r, q1, q2⟩
    · rw [q]; exact k _
    · rw [q1]; exact ⟨h6, q2, k _⟩
end CIN
