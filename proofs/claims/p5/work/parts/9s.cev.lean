/-! THE CLASS'S FINDER: its state -/
/-- a row of nodes -/
def Rw (t : Ht) (G : GT) (r : Nat) (l : List Nat) : Prop := tK t r = 8 ∧ tR t r 0 = some (r + 1) ∧ tK t (r + 1) = 104 ∧ tL t (r + 1) = 1000 ∧ r + 1 < tN t ∧ tI t r 1 = nI l.length ∧ l.length ≤ 1000 ∧ ∀ i, i < l.length → tR t (r + 1) i = some (gA G (l.getD i 0))
/-- the rows that there are -/
def RwS (t : Ht) (B : Nat) : Prop := (∀ i r, i < 34 → tR t (B + 7) i = some r → tK t r = 8 ∧ tR t r 0 = some (r + 1) ∧ tK t (r + 1) = 104 ∧ tL t (r + 1) = 1000 ∧ r + 1 < tN t) ∧ ∀ i j r, i < 34 → j < 34 → i ≠ j → tR t (B + 7) i = some r → tR t (B + 7) j ≠ some r
/-- how many rows are not made yet -/
def msR (t : Ht) (B : Nat) : Nat → Nat
  | 0 => 0
  | n + 1 => msR t B n + (if tR t (B + 7) n = none then 1 else 0)
/-- what finding may change: looks, rows but K, new rows; number 5 of the cells O -/
def EFr (B : Nat) (O K : Nat → Prop) (t t' : Ht) : Prop :=
  tN t ≤ tN t' ∧ (∀ x, x < tN t → tK t' x = tK t x ∧ tL t' x = tL t x) ∧
  (∀ x, x < tN t → tK t x ≠ 8 → tK t x ≠ 104 → x ≠ B + 6 → x ≠ B + 7 → (∀ k, tI t' x k = tI t x k) ∧ (∀ k, tR t' x k = tR t x k) ∧ ∀ k, (¬ O x ∨ k ≠ 5) → tJ t' x k = tJ t x k) ∧
  ((∀ k, tR t' (B + 6) k = tR t (B + 6) k) ∧ (∀ k, k ≠ 3 → k ≠ 4 → tI t' (B + 6) k = tI t (B + 6) k) ∧ ∀ i r, tR t (B + 7) i = some r → tR t' (B + 7) i = some r) ∧
  (∀ i r, K i → i < 34 → tR t (B + 7) i = some r → sameAt t t' r ∧ sameAt t t' (r + 1)) ∧
  (tN t' + 2 * msR t' B 34 ≤ tN t + 2 * msR t B 34 ∧ tU t' + 1002 * msR t' B 34 ≤ tU t + 1002 * msR t B 34)
/-- the value as it was read -/
def NVk (C : Cx) (T : Nat) (t1 t : Ht) (G : GT) (V : VT) (c : Nat) (O : Nat → Prop) (B : Nat) : Prop :=
  NV C T t1 G V c ∧ B + 9 < T ∧ tN t1 ≤ tN t ∧ (∀ x, T ≤ x → x < tN t1 → (tK t1 x = 3 ∨ tK t1 x = 1 ∨ tK t1 x = 103 ∨ tK t1 x = 101) → sameAt t1 t x) ∧ ∀ x, O x → x < T ∨ tN t1 ≤ x
def ESt (C : Cx) (B T : Nat) (t1 : Ht) (G : GT) (V : VT) (c : Nat) (O : Nat → Prop) (t : Ht) (lk : Nat) : Prop :=
  BSh t B ∧ tR t (B + 6) 1 = some (gA G 0) ∧ tI t (B + 6) 3 = nI lk ∧ lk ≤ 60000 ∧ NVk C T t1 t G V c O B ∧ 0 < c ∧ RwS t B ∧ ∀ j, j < c → NIv V j ∧ eL (V j) < c
section CEV
variable {C : Cx} {d : Nat} {Post : OutT → Ht → Prop} {B T lk lk' c : Nat} {t1 t t' t2 : Ht} {G : GT} {V : VT} {O K K' : Nat → Prop}
theorem NVk.nv (h : NVk C T t1 t G V c O B) : NV C T t G V c := h.1.frame h.2.2.1 h.2.2.2.1
theorem EFr.rfl' : EFr B O K t t := ⟨Nat.le_refl _, fun _ _ => ⟨rfl, rfl⟩, fun _ _ _ _ _ _ => ⟨fun _ => rfl, fun _ => rfl, fun _ _ => rfl⟩, ⟨fun _ => rfl, fun _ _ _ => rfl, fun _ _ h => h⟩, fun _ _ _ _ _ => ⟨sameAt.rfl', sameAt.rfl'⟩, ⟨Nat.le_refl _, Nat.le_refl _⟩⟩
theorem EFr.trans (hB : B + 9 < tN t) (hR : RwS t B) (h : EFr B O K t t') (g : EFr B O K' t' t2) (hl : ∀ i, K i → K' i) : EFr B O K t t2 := by
  obtain ⟨h1, h2, h3, ⟨h4, h5, h6⟩, h7, h8, h9⟩ := h
  obtain ⟨g1, g2, g3, ⟨g4, g5, g6⟩, g7, g8, g9⟩ := g
  refine ⟨by omega, fun x hx => ?_, fun x hx k1 k2 k3 k4 => ?_, ⟨fun k => (g4 k).trans (h4 k), fun k k1 k2 => (g5 k k1 k2).trans (h5 k k1 k2), fun i r e => g6 i r (h6 i r e)⟩, fun i r hi hi2 e => ?_, by omega, by omega⟩
  · have a := h2 x hx
    have b := g2 x (by omega)
    exact ⟨b.1.trans a.1, b.2.trans a.2⟩
  · have a := h2 x hx
    obtain ⟨a1, a2, a3⟩ := h3 x hx k1 k2 k3 k4
    obtain ⟨b1, b2, b3⟩ := g3 x (by omega) (by rw [a.1]; exact k1) (by rw [a.1]; exact k2) k3 k4
    exact ⟨fun k => (b1 k).trans (a1 k), fun k => (b2 k).trans (a2 k), fun k hk => (b3 k hk).trans (a3 k hk)⟩
  · obtain ⟨a1, a2⟩ := h7 i r hi hi2 e
    obtain ⟨b1, b2⟩ := g7 i r (hl i hi) hi2 (h6 i r e)
    exact ⟨a1.trans b1, a2.trans b2⟩
theorem EFr.le (h : EFr B O K t t') (hl : ∀ i, K' i → K i) : EFr B O K' t t' := by
  obtain ⟨h1, h2, h3, h4, h7, h8⟩ := h
  exact ⟨h1, h2, h3, h4, fun i r hi hi2 e => h7 i r (hl i hi) hi2 e, h8⟩
/-- the state goes on -/
theorem ESt.go (h : ESt C B T t1 G V c O t lk) (g : EFr B O K t t') (hlk : tI t' (B + 6) 3 = nI lk') (hl : lk' ≤ 60000) (hR : RwS t' B) : ESt C B T t1 G V c O t' lk' := by
  obtain ⟨hS, hr, hk, hl0, ⟨n1, n2, n3, n4, n5⟩, hc, hR0, hV⟩ := h
  obtain ⟨g1, g2, g3, ⟨g4, g5, g6⟩, g7, g8⟩ := g
  have hB := hS.2.2.2
  have bk : ∀ x, B ≤ x → x ≤ B + 9 → tK t x ≠ 8 ∧ tK t x ≠ 104 := fun x h1 h2 => by
    obtain ⟨⟨a0, a1, a1', a2, a3, a3', a4, a5, a6, a7, a7', a8, a9, a9'⟩, -⟩ := hS
    obtain rfl | rfl | rfl | rfl | rfl | rfl | rfl | rfl | rfl | rfl : x = B ∨ x = B + 1 ∨ x = B + 2 ∨ x = B + 3 ∨ x = B + 4 ∨ x = B + 5 ∨ x = B + 6 ∨ x = B + 7 ∨ x = B + 8 ∨ x = B + 9 := by omega
    · rw [a0]; decide
    · rw [a1]; decide
    · rw [a2]; decide
    · rw [a3]; decide
    · rw [a4]; decide
    · rw [a5]; decide
    · rw [a6]; decide
    · rw [a7]; decide
    · rw [a8]; decide
    · rw [a9]; decide
  refine ⟨hS.of g1 (fun x h1 h2 => g2 x (by omega)) (fun x k h1 h2 h7 h3 h4 => ?_), (g4 1).trans hr, hlk, hl, ⟨n1, n2, by omega, fun x h1 h2 h3 => ?_, n5⟩, hc, hR, hV⟩
  · by_cases e6 : x = B + 6
    · subst e6; exact g4 k
    exact (g3 x (by omega) (bk x h1 h2).1 (bk x h1 h2).2 e6 h7).2.1 k
  · have s := n4 x h1 h2 h3
    have kx : tK t x = tK t1 x := s.1
    obtain ⟨a1, a2, a3⟩ := g3 x (by omega) (by rw [kx]; rcases h3 with h3 | h3 | h3 | h3 <;> rw [h3] <;> decide) (by rw [kx]; rcases h3 with h3 | h3 | h3 | h3 <;> rw [h3] <;> decide) (by omega) (by omega)
    have a0 := g2 x (by omega)
    have hO : ¬ O x := fun w => by rcases n5 x w with w | w <;> omega
    exact ⟨a0.1.trans s.1, a0.2.trans s.2.1, fun k => (a1 k).trans (s.2.2.1 k), fun k => (a3 k (Or.inl hO)).trans (s.2.2.2.1 k), fun k => (a2 k).trans (s.2.2.2.2 k)⟩
end CEV
