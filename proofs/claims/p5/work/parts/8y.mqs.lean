/-! THE REFERENCE'S READING OF A QUERY: its state -/
def PSh (t : Ht) (M P : Nat) : Prop := (P = M + 30 ∨ P = M + 39) ∧ tR t M 17 = some P ∧ tK t P = 14 ∧ (∀ k, k < 8 → tR t P k = some (P + 1 + k) ∧ tL t (P + 1 + k) = 2400) ∧ (∀ k, k < 5 → tK t (P + 1 + k) = 101) ∧ (∀ k, k < 3 → tK t (P + 6 + k) = 102)
theorem PSh.eq {t t' : Ht} {M P : Nat} (h : PSh t M P) (h1 : tK t' = tK t) (h2 : tL t' = tL t) (h3 : tR t' = tR t) : PSh t' M P := by
  unfold PSh; rw [h1, h2, h3]; exact h
/-- at i; q characters, c parts are taken, o are open, L is the late fault -/
def PS (t : Ht) (M P : Nat) (b : By) (n i q c o : Nat) (L : LT) : Prop :=
  MB t M (M + 1) (M + 2) (M + 3) b n i q ∧ i ≤ n ∧ PSh t M P ∧ (tI t P 8 = nI c ∧ tI t M 18 = nI o) ∧ ((L.1 = 0 → tI t M 20 = -1) ∧ (L.1 ≠ 0 → tI t M 19 = nI L.1 ∧ tI t M 20 = nI L.2)) ∧ (2400 ≤ q ∧ q ≤ 2400 + i) ∧ (o ≤ 16 ∧ L.1 ≤ 4 ∧ L.2 ≤ 1200) ∧ c ≤ 2400
/-- what it may change -/
def MV (M P : Nat) (t t' : Ht) : Prop := tN t' = tN t ∧ tU t' = tU t ∧ tK t' = tK t ∧ tL t' = tL t ∧ tR t' = tR t ∧ (∀ x k, (x < P + 6 ∨ P + 8 < x) → (x ≠ M ∨ k ≠ 8) → tJ t' x k = tJ t x k) ∧
  (∀ x k, (x < P ∨ P + 5 < x) → (x ≠ M + 1 ∨ (k ≠ 6 ∧ k ≠ 7)) → (x ≠ M + 3 ∨ k < 2400) → (x ≠ M ∨ (k ≠ 5 ∧ k ≠ 7 ∧ k ≠ 9 ∧ (k < 18 ∨ 22 < k))) → tI t' x k = tI t x k)
def SQa (t t' : Ht) (P z : Nat) : Prop := (∀ k, k = 1 ∨ k = 2 ∨ k = 3 ∨ k = 5 → tI t' (P + k) z = tI t (P + k) z) ∧ ∀ k, k = 6 ∨ k = 7 ∨ k = 8 → tJ t' (P + k) z = tJ t (P + k) z
/-- parts below c stand, characters below q, but for the next ones of X -/
def TGm (P ch c q : Nat) (X : List Nat) (t t' : Ht) : Prop := (∀ z, z < c → SQa t t' P z ∧ (z ∉ X → tI t' (P + 4) z = tI t (P + 4) z)) ∧ ∀ k, k < q → tI t' ch k = tI t ch k
/-- the reading has gone on from t to t' -/
def GO (M P : Nat) (b : By) (n : Nat) (X : List Nat) (t : Ht) (i q c : Nat) (t' : Ht) (i' q' c' o' : Nat) (L' : LT) : Prop := PS t' M P b n i' q' c' o' L' ∧ MV M P t t' ∧ TGm P (M + 3) c q X t t' ∧ i ≤ i' ∧ q ≤ q' ∧ c ≤ c'
/-- a fault is told -/
def FQ (M P : Nat) (t t' : Ht) (w p : Nat) : Prop := MV M P t t' ∧ tI t' (M + 1) 6 = nI w ∧ tI t' (M + 1) 7 = nI p
section MQS
variable {C : Cx} {d : Nat} {Post : OutT → Ht → Prop} {t t1 t' : Ht} {M P : Nat} {b : By} {n i q c o i' q' c' o' : Nat} {L L' : LT} {X : List Nat}
theorem MV.rfl' : MV M P t t := ⟨rfl, rfl, rfl, rfl, rfl, fun _ _ _ _ => rfl, fun _ _ _ _ _ _ => rfl⟩
theorem MV.trans (h : MV M P t t1) (g : MV M P t1 t') : MV M P t t' := by
  obtain ⟨h1, h2, h3, h4, h5, h6, h7⟩ := h
  obtain ⟨g1, g2, g3, g4, g5, g6, g7⟩ := g
  exact ⟨g1.trans h1, g2.trans h2, g3.trans h3, g4.trans h4, g5.trans h5, fun x k z1 z2 => (g6 x k z1 z2).trans (h6 x k z1 z2), fun x k z1 z2 z3 z4 => (g7 x k z1 z2 z3 z4).trans (h7 x k z1 z2 z3 z4)⟩
theorem MV.I {x k : Nat} {v : Int32} (h : (P ≤ x ∧ x ≤ P + 5) ∨ (x = M + 1 ∧ (k = 6 ∨ k = 7)) ∨ (x = M ∧ (k = 5 ∨ k = 7 ∨ k = 9 ∨ (18 ≤ k ∧ k ≤ 22)))) : MV M P t (sI t x k v) := by
  refine ⟨rfl, rfl, rfl, rfl, rfl, fun _ _ _ _ => rfl, fun y j z1 z2 z3 z4 => sI_at ?_⟩
  rintro ⟨rfl, rfl⟩
  omega
theorem MV.J {x k : Nat} {v : Int64} (h : P + 6 ≤ x ∧ x ≤ P + 8) : MV M P t (sJ t x k v) := by
  refine ⟨rfl, rfl, rfl, rfl, rfl, fun y j z1 z2 => sJ_at ?_, fun _ _ _ _ _ _ => rfl⟩
  rintro ⟨rfl, rfl⟩
  omega
theorem MV.x (h : MX M (M + 1) (M + 3) q t t') (hq : 2400 ≤ q) : MV M P t t' := by
  obtain ⟨h1, h2, h3, h4, h5, h6, h7, h8⟩ := h
  refine ⟨h1, h2, h3, h4, h5, fun x k _ z => h6 x k z, fun x k z1 z2 z3 z4 => ?_⟩
  by_cases e : x = M + 3
  · rw [e]; exact h8 k (by omega)
  · exact h7 x k z2 e (by omega)
theorem SQa.s {z : Nat} (h : SQa t t' P z) : SPa t t' P 0 z := by
  refine ⟨h.1 1 (by omega), ?_, h.1 3 (by omega), h.1 5 (by omega), h.2 6 (by omega), h.2 7 (by omega), h.2 8 (by omega)⟩
  rw [h.1 2 (by omega)]
  split
  · simp [nI]
  · rfl
theorem TGm.rfl' : TGm P (M + 3) c q X t t := ⟨fun _ _ => ⟨⟨fun _ _ => rfl, fun _ _ => rfl⟩, fun _ => rfl⟩, fun _ _ => rfl⟩
theorem TGm.trans {Y : List Nat} (h : TGm P (M + 3) c q X t t1) (g : TGm P (M + 3) c' q' Y t1 t') (hc : c ≤ c') (hq : q ≤ q') (hY : ∀ z ∈ Y, z ∈ X ∨ c ≤ z) : TGm P (M + 3) c q X t t' := by
  refine ⟨fun z hz => ?_, fun k hk => (g.2 k (by omega)).trans (h.2 k hk)⟩
  obtain ⟨h1, h2⟩ := h.1 z hz
  obtain ⟨g1, g2⟩ := g.1 z (by omega)
  refine ⟨⟨fun k hk => (g1.1 k hk).trans (h1.1 k hk), fun k hk => (g1.2 k hk).trans (h1.2 k hk)⟩, fun hx => (g2 (fun w => ?_)).trans (h2 hx)⟩
  rcases hY z w with w | w
  · exact hx w
  · omega
theorem TGm.I {x k : Nat} {v : Int32} (h : x < P + 1 ∨ P + 5 < x ∨ c ≤ k ∨ (x = P + 4 ∧ k ∈ X)) (h2 : x ≠ M + 3 ∨ q ≤ k) : TGm P (M + 3) c q X t (sI t x k v) := by
  refine ⟨fun z hz => ⟨⟨fun j hj => sI_at ?_, fun _ _ => rfl⟩, fun hx => sI_at ?_⟩, fun j hj => sI_at ?_⟩
  · rintro ⟨rfl, rfl⟩
    rcases h with h | h | h | h
    · omega
    · omega
    · omega
    · have := h.1; omega
  · rintro ⟨rfl, rfl⟩
    rcases h with h | h | h | h
    · omega
    · omega
    · omega
    · exact hx h.2
  · rintro ⟨rfl, rfl⟩
    omega
theorem TGm.J {x k : Nat} {v : Int64} (h : c ≤ k) : TGm P (M + 3) c q X t (sJ t x k v) := by
  refine ⟨fun z hz => ⟨⟨fun _ _ => rfl, fun j hj => sJ_at ?_⟩, fun _ => rfl⟩, fun _ _ => rfl⟩
  rintro ⟨-, rfl⟩
  omega
theorem TGm.x (h : MX M (M + 1) (M + 3) q t t') (hP : P = M + 30 ∨ P = M + 39) : TGm P (M + 3) c q X t t' := by
  obtain ⟨h1, h2, h3, h4, h5, h6, h7, h8⟩ := h
  exact ⟨fun z _ => ⟨⟨fun k _ => h7 _ _ (by omega) (by omega) (by omega), fun k _ => h6 _ _ (by omega)⟩, fun _ => h7 _ _ (by omega) (by omega) (by omega)⟩, h8⟩
theorem PS.of (h : PS t M P b n i q c o L) (hv : MV M P t t') (h5 : tI t' M 5 = nI i') (h7 : tI t' M 7 = nI q') (h8 : tI t' P 8 = nI c') (h18 : tI t' M 18 = nI o') (hl : (L'.1 = 0 → tI t' M 20 = -1) ∧ (L'.1 ≠ 0 → tI t' M 19 = nI L'.1 ∧ tI t' M 20 = nI L'.2)) (hi : i' ≤ n) (hq : 2400 ≤ q' ∧ q' ≤ 2400 + i') (ho : o' ≤ 16 ∧ L'.1 ≤ 4 ∧ L'.2 ≤ 1200) (hc : c' ≤ 2400) : PS t' M P b n i' q' c' o' L' := by
  obtain ⟨⟨⟨m1, m2, m3, m4, m5, m6, m7, m8, m9, m10, m11, m12⟩, b1, b2, b3, b4⟩, hin, hS, hx⟩ := h
  obtain ⟨v1, v2, v3, v4, v5, v6, v7⟩ := hv
  have hP := hS.1
  refine ⟨⟨⟨by rw [v3]; exact m1, by rw [v5]; exact m2, by rw [v3]; exact m3, by rw [v5]; exact m4, by rw [v3]; exact m5, by rw [v4]; exact m6, ?_, h5, m9, by omega, m11, fun k hk => ?_⟩, by rw [v5]; exact b1, by rw [v3]; exact b2, by rw [v4]; exact b3, h7⟩, hi, hS.eq v3 v4 v5, ⟨h8, h18⟩, hl, hq, ho, hc⟩
  · rw [v7 M 4 (by omega) (by omega) (by omega) (by omega)]; exact m7
  · rw [v7 (M + 2) k (by omega) (by omega) (by omega) (by omega)]; exact m12 k hk
theorem PS.at (h : PS t M P b n i q c o L) : tI t M 5 = nI i := h.1.1.2.2.2.2.2.2.2.1
theorem PS.hn (h : PS t M P b n i q c o L) : n ≤ 1200 := h.1.1.2.2.2.2.2.2.2.2.1
theorem GO.rfl' (h : PS t M P b n i q c o L) : GO M P b n X t i q c t i q c o L := ⟨h, MV.rfl', TGm.rfl', Nat.le_refl _, Nat.le_refl _, Nat.le_refl _⟩
theorem GO.trans {Y : List Nat} {i1 q1 c1 o1 : Nat} {L1 : LT} (h : GO M P b n X t i q c t1 i1 q1 c1 o1 L1) (g : GO M P b n Y t1 i1 q1 c1 t' i' q' c' o' L') (hY : ∀ z ∈ Y, z ∈ X ∨ c ≤ z) : GO M P b n X t i q c t' i' q' c' o' L' := by
  obtain ⟨h1, h2, h3, h4, h5, h6⟩ := h
  obtain ⟨g1, g2, g3, g4, g5, g6⟩ := g
  exact ⟨g1, h2.trans g2, h3.trans g3 h6 h5 hY, by omega, by omega, by omega⟩
theorem FQ.of {w p i1 q1 c1 o1 : Nat} {L1 : LT} (h : GO M P b n X t i q c t1 i1 q1 c1 o1 L1) (g : FQ M P t1 t' w p) : FQ M P t t' w p := ⟨h.2.1.trans g.1, g.2⟩
theorem FQ.told {w p : Nat} : FQ M P t (mb t (M + 1) w p) w p := ⟨(MV.I (Or.inr (Or.inl ⟨rfl, Or.inl rfl⟩))).trans (MV.I (Or.inr (Or.inl ⟨rfl, Or.inr rfl⟩))), by unfold mb; rw [sI_at (by omega)]; exact sI_eq, by unfold mb; exact sI_eq⟩
theorem FQ.bm {w p : Nat} (h : BM M (M + 1) (M + 3) q t t' w p) (hq : 2400 ≤ q) : FQ M P t t' w p := ⟨MV.x h.1 hq, h.2.1, h.2.2⟩
/-- the place moves -/
theorem GO.to {j : Nat} (h : GO M P b n X t i q c t' i' q' c' o' L') (h1 : i ≤ j) (h2 : j ≤ n) (h3 : q' ≤ 2400 + j) : GO M P b n X t i q c (sI t' M 5 (nI j)) j q' c' o' L' := by
  obtain ⟨g1, g2, g3, g4, g5, g6⟩ := h
  have hP := g1.2.2.1.1
  refine ⟨g1.of (MV.I (Or.inr (Or.inr ⟨rfl, by omega⟩))) sI_eq ?_ ?_ ?_ ⟨fun z => ?_, fun z => ⟨?_, ?_⟩⟩ h2 ⟨g1.2.2.2.2.2.1.1, h3⟩ g1.2.2.2.2.2.2.1 g1.2.2.2.2.2.2.2, g2.trans (MV.I (Or.inr (Or.inr ⟨rfl, by omega⟩))), g3.trans (TGm.I (Or.inl (by omega)) (Or.inl (by omega))) (Nat.le_refl _) (Nat.le_refl _) (fun z hz => Or.inl hz), h1, g5, g6⟩
  · rw [sI_at (by omega)]; exact g1.1.2.2.2.2
  · rw [sI_at (by omega)]; exact g1.2.2.2.1.1
  · rw [sI_at (by omega)]; exact g1.2.2.2.1.2
  · rw [sI_at (by omega)]; exact g1.2.2.2.2.1.1 z
  · rw [sI_at (by omega)]; exact (g1.2.2.2.2.1.2 z).1
  · rw [sI_at (by omega)]; exact (g1.2.2.2.2.1.2 z).2
/-- characters and numbers are read -/
theorem GO.x {j q1 : Nat} {t2 : Ht} (h : GO M P b n X t i q c t' i' q' c' o' L') (hx : MX M (M + 1) (M + 3) q' t' t2) (h5 : tI t2 M 5 = nI j) (h7 : tI t2 M 7 = nI q1) (hj : i' ≤ j) (hn : j ≤ n) (hq : q' ≤ q1) (hqj : q1 ≤ 2400 + j) : GO M P b n X t i q c t2 j q1 c' o' L' := by
  obtain ⟨g1, g2, g3, g4, g5, g6⟩ := h
  have hP := g1.2.2.1.1
  have hq0 := g1.2.2.2.2.2.1
  obtain ⟨x1, x2, x3, x4, x5, x6, x7, x8⟩ := id hx
  refine ⟨g1.of (MV.x hx hq0.1) h5 h7 ?_ ?_ ⟨fun z => ?_, fun z => ⟨?_, ?_⟩⟩ hn ⟨by omega, hqj⟩ g1.2.2.2.2.2.2.1 g1.2.2.2.2.2.2.2, g2.trans (MV.x hx hq0.1), g3.trans (TGm.x (X := X) hx hP) g6 g5 (fun z hz => Or.inl hz), by omega, by omega, g6⟩
  · rw [x7 _ _ (by omega) (by omega) (by omega)]; exact g1.2.2.2.1.1
  · rw [x7 _ _ (by omega) (by omega) (by omega)]; exact g1.2.2.2.1.2
  · rw [x7 _ _ (by omega) (by omega) (by omega)]; exact g1.2.2.2.2.1.1 z
  · rw [x7 _ _ (by omega) (by omega) (by omega)]; exact (g1.2.2.2.2.1.2 z).1
  · rw [x7 _ _ (by omega) (by omega) (by omega)]; exact (g1.2.2.2.2.1.2 z).2
/-- a number is written that the state does not name -/
theorem GO.I {x k : Nat} {v : Int32} (h : GO M P b n X t i q c t' i' q' c' o' L') (h1 : (P + 1 ≤ x ∧ x ≤ P + 5 ∧ (c ≤ k ∨ (x = P + 4 ∧ k ∈ X))) ∨ (x = P ∧ k ≠ 8) ∨ (x = M ∧ (k = 21 ∨ k = 22))) : GO M P b n X t i q c (sI t' x k v) i' q' c' o' L' := by
  obtain ⟨g1, g2, g3, g4, g5, g6⟩ := h
  have hP := g1.2.2.1.1
  have hv : MV M P t' (sI t' x k v) := MV.I (by omega)
  refine ⟨g1.of hv ?_ ?_ ?_ ?_ ⟨fun z => ?_, fun z => ⟨?_, ?_⟩⟩ g1.2.1 g1.2.2.2.2.2.1 g1.2.2.2.2.2.2.1 g1.2.2.2.2.2.2.2, g2.trans hv, g3.trans (TGm.I ?_ (Or.inl (by omega))) (Nat.le_refl _) (Nat.le_refl _) (fun z hz => Or.inl hz), g4, g5, g6⟩
  · rw [sI_at (by omega)]; exact g1.at
  · rw [sI_at (by omega)]; exact g1.1.2.2.2.2
  · rw [sI_at (by omega)]; exact g1.2.2.2.1.1
  · rw [sI_at (by omega)]; exact g1.2.2.2.1.2
  · rw [sI_at (by omega)]; exact g1.2.2.2.2.1.1 z
  · rw [sI_at (by omega)]; exact (g1.2.2.2.2.1.2 z).1
  · rw [sI_at (by omega)]; exact (g1.2.2.2.2.1.2 z).2
  · rcases h1 with h1 | h1 | h1
    · rcases h1.2.2 with w | w
      · exact Or.inr (Or.inr (Or.inl w))
      · exact Or.inr (Or.inr (Or.inr w))
    · exact Or.inl (by omega)
    · exact Or.inl (by omega)
theorem GO.J {x k : Nat} {v : Int64} (h : GO M P b n X t i q c t' i' q' c' o' L') (h1 : P + 6 ≤ x ∧ x ≤ P + 8) (h2 : c ≤ k) : GO M P b n X t i q c (sJ t' x k v) i' q' c' o' L' := by
  obtain ⟨g1, g2, g3, g4, g5, g6⟩ := h
  have hv : MV M P t' (sJ t' x k v) := MV.J h1
  exact ⟨g1.of hv g1.at g1.1.2.2.2.2 g1.2.2.2.1.1 g1.2.2.2.1.2 g1.2.2.2.2.1 g1.2.1 g1.2.2.2.2.2.1 g1.2.2.2.2.2.2.1 g1.2.2.2.2.2.2.2, g2.trans hv, g3.trans (TGm.J (X := X) h2) (Nat.le_refl _) (Nat.le_refl _) (fun z hz => Or.inl hz), g4, g5, g6⟩
/-- what is open -/
theorem GO.op {o1 : Nat} (h : GO M P b n X t i q c t' i' q' c' o' L') (ho : o1 ≤ 16) : GO M P b n X t i q c (sI t' M 18 (nI o1)) i' q' c' o1 L' := by
  obtain ⟨g1, g2, g3, g4, g5, g6⟩ := h
  have hP := g1.2.2.1.1
  have hv : MV M P t' (sI t' M 18 (nI o1)) := MV.I (by omega)
  refine ⟨g1.of hv ?_ ?_ ?_ sI_eq ⟨fun z => ?_, fun z => ⟨?_, ?_⟩⟩ g1.2.1 g1.2.2.2.2.2.1 ⟨ho, g1.2.2.2.2.2.2.1.2⟩ g1.2.2.2.2.2.2.2, g2.trans hv, g3.trans (TGm.I (Or.inl (by omega)) (Or.inl (by omega))) (Nat.le_refl _) (Nat.le_refl _) (fun z hz => Or.inl hz), g4, g5, g6⟩
  · rw [sI_at (by omega)]; exact g1.at
  · rw [sI_at (by omega)]; exact g1.1.2.2.2.2
  · rw [sI_at (by omega)]; exact g1.2.2.2.1.1
  · rw [sI_at (by omega)]; exact g1.2.2.2.2.1.1 z
  · rw [sI_at (by omega)]; exact (g1.2.2.2.2.1.2 z).1
  · rw [sI_at (by omega)]; exact (g1.2.2.2.2.1.2 z).2
end MQS
