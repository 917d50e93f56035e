/-! query, OF THE REFERENCE -/
/-- the model's own cells -/
def MBs (t : Ht) (M : Nat) : Prop := tK t M = 17 ∧ tR t M 1 = some (M + 1) ∧ tK t (M + 1) = 16 ∧ tR t M 2 = some (M + 2) ∧ tK t (M + 2) = 100 ∧ tL t (M + 2) = 1200 ∧ tR t M 6 = some (M + 3) ∧ tK t (M + 3) = 101 ∧ tL t (M + 3) = 4800
/-- what is taped -/
def TPd (t : Ht) (M tp : Nat) (b : By) : Prop := tI t M 3 = nI tp ∧ tp ≤ 1200 ∧ (∀ k, b k < 256) ∧ ∀ k, k < tp → tI t (M + 2) k &&& 255 = nI (b k)
/-- what a query may change -/
def MWq (M P : Nat) (t t' : Ht) : Prop := tN t' = tN t ∧ tU t' = tU t ∧ tK t' = tK t ∧ tL t' = tL t ∧ (∀ x k, (x ≠ M ∨ (k ≠ 16 ∧ k ≠ 17)) → tR t' x k = tR t x k) ∧ (∀ x k, (x < P + 6 ∨ P + 8 < x) → (x ≠ M ∨ k ≠ 8) → tJ t' x k = tJ t x k) ∧
  (∀ x k, (x < P ∨ P + 5 < x) → (x ≠ M + 1 ∨ (k ≠ 6 ∧ k ≠ 7)) → (x ≠ M + 3 ∨ k < 1200) → (x ≠ M ∨ k = 1 ∨ k = 2 ∨ k = 6 ∨ k = 8 ∨ (10 ≤ k ∧ k ≤ 12) ∨ k = 16 ∨ k = 17 ∨ k = 23 ∨ 25 ≤ k) → tI t' x k = tI t x k)
section MQK
variable {C : Cx} {d E f f0 : Nat} {Post : OutT → Ht → Prop} {t t0 t1 t' : Ht} {M P P' : Nat} {b : By} {n i q c o i' q' c' o' tp : Nat} {L L' L0 L1 : LT} {X : List Nat}
theorem MWq.rfl' : MWq M P t t := ⟨rfl, rfl, rfl, rfl, fun _ _ _ => rfl, fun _ _ _ _ => rfl, fun _ _ _ _ _ _ => rfl⟩
theorem MWq.trans (h : MWq M P t t1) (g : MWq M P t1 t') : MWq M P t t' := by
  obtain ⟨h1, h2, h3, h4, h5, h6, h7⟩ := h
  obtain ⟨g1, g2, g3, g4, g5, g6, g7⟩ := g
  exact ⟨g1.trans h1, g2.trans h2, g3.trans h3, g4.trans h4, fun x k z => (g5 x k z).trans (h5 x k z), fun x k z1 z2 => (g6 x k z1 z2).trans (h6 x k z1 z2), fun x k z1 z2 z3 z4 => (g7 x k z1 z2 z3 z4).trans (h7 x k z1 z2 z3 z4)⟩
theorem MWq.I {x k : Nat} {v : Int32} (h : (P ≤ x ∧ x ≤ P + 5) ∨ (x = M + 3 ∧ 1200 ≤ k) ∨ (x = M ∧ (k = 0 ∨ (3 ≤ k ∧ k ≤ 5) ∨ k = 7 ∨ k = 9 ∨ (13 ≤ k ∧ k ≤ 15) ∨ (18 ≤ k ∧ k ≤ 22) ∨ k = 24))) : MWq M P t (sI t x k v) := by
  refine ⟨rfl, rfl, rfl, rfl, fun _ _ _ => rfl, fun _ _ _ _ => rfl, fun y j z1 z2 z3 z4 => sI_at ?_⟩
  rintro ⟨rfl, rfl⟩
  omega
theorem MWq.R {k : Nat} {v : Option Nat} (h : k = 16 ∨ k = 17) : MWq M P t (sR t M k v) := by
  refine ⟨rfl, rfl, rfl, rfl, fun y j z => sR_at ?_, fun _ _ _ _ => rfl, fun _ _ _ _ _ _ => rfl⟩
  rintro ⟨rfl, rfl⟩
  omega
theorem MWq.v (h : MV M P t t') : MWq M P t t' := by
  obtain ⟨h1, h2, h3, h4, h5, h6, h7⟩ := h
  exact ⟨h1, h2, h3, h4, fun x k _ => by rw [h5], h6, fun x k z1 z2 z3 z4 => h7 x k z1 z2 (by omega) (by omega)⟩
/-- a fault is told by the call -/
theorem mqTold {w p : Nat} (hM : tK t M = 17) (hs : tK t (M + 1) = 16) (h : FQ M P t t' w p) (k : ∀ t2, MWq M P t t2 → tR t2 = tR t → tI t2 M 14 = nI w → tI t2 M 15 = nI p → (∀ k, k < 2400 → tI t2 (M + 3) k = tI t (M + 3) k) → (∀ k, k = 0 ∨ k = 3 ∨ k = 13 ∨ k = 24 → tI t2 M k = tI t M k) → Post (.inl (some (svI (nI w)))) t2) (hP : P = M + 30 ∨ P = M + 39) : 16 = 16 ∧ tK t' (M + 1) = 16 ∧ tK t' (M + 1) = 16 ∧ tK t' M = 17 ∧ CalG C mtab (d + 1) 178 [svR (some M), svI (tI t' (M + 1) 6), svI (tI t' (M + 1) 7)] t' (aftV (fun v40 t41 => rI v40 (fun x45 => Post (.inl (some (svI x45))) t41)) (fun k42 q43 t44 => Post (.inr (k42, q43)) t44)) := by
  obtain ⟨hv, h6, h7⟩ := h
  have hv' := hv
  obtain ⟨v1, v2, v3, v4, v5, v6, v7⟩ := hv'
  have h16 : tK t' (M + 1) = 16 := by rw [v3]; exact hs
  have h17 : tK t' M = 17 := by rw [v3]; exact hM
  refine ⟨rfl, h16, h16, h17, c178 h17 ?_⟩
  rw [h6, h7]
  refine k _ ((MWq.v hv).trans ((MWq.I (Or.inr (Or.inr ⟨rfl, by omega⟩))).trans (MWq.I (Or.inr (Or.inr ⟨rfl, by omega⟩))))) v5 ?_ sI_eq (fun k hk => ?_) (fun k hk => ?_)
  · rw [sI_at (by omega)]; exact sI_eq
  · rw [sI_at (by omega), sI_at (by omega)]; exact v7 _ _ (by omega) (by omega) (by omega) (by omega)
  · rw [sI_at (by omega), sI_at (by omega)]; exact v7 _ _ (by omega) (by omega) (by omega) (by omega)
/-- what the caller of query needs -/
def KRq (M P P' : Nat) (b : By) (tp : Nat) (x1 : Int32) (t : Ht) (Post : OutT → Ht → Prop) : Prop :=
  ((x1 < 0 ∨ ¬ x1 ≤ nI tp) → Post (.inl (some (svI (-1 : Int32)))) (sI t M 0 0)) ∧
  (∀ n, n ≤ tp → x1 = nI n → ∀ w p, whQ b n = .inr (w, p) → ∀ t', MWq M P t t' → tR t' = tR t → (tI t' M 14 = nI w ∧ tI t' M 15 = nI p ∧ tI t' M 0 = 0 ∧ tI t' M 3 = 0 ∧ tI t' M 13 = tI t M 13 ∧ tI t' M 24 = tI t M 24) → (∀ k, k < 2400 → tI t' (M + 3) k = tI t (M + 3) k) → Post (.inl (some (svI (nI w)))) t') ∧
  (∀ n, n ≤ tp → x1 = nI n → ∀ s x, whQ b n = .inl (s, x) → ∀ t' c us, MWq M P t t' → (tR t' M 16 = some P ∧ tR t' M 17 = some P') → (tI t' M 14 = 0 ∧ tI t' M 15 = -1 ∧ tI t' M 0 = 0 ∧ tI t' M 3 = 0 ∧ tI t' M 13 = 1 ∧ tI t' M 24 = 0) → (tI t' P 9 = hdI us ∧ tI t' P 10 = nI us.length ∧ tI t' P 11 = bI s) → qL x = true → QM t' P (M + 3) 1200 2400 x 1 (rg 0 c) us → c ≤ 2 * n → Post (.inl (some (svI (0 : Int32)))) t')
set_option maxHeartbeats 2000000 in
theorem mQuery {x1 : Int32} (hb : MBs t M) (hS : PSh t M P) (hP' : tR t M 16 = some P') (hT : TPd t M tp b) (kk : KRq M P P' b tp x1 t Post) : CalG C mtab (E + 230) 213 [svR (some M), svI x1] t Post := by
  obtain ⟨k0, k1, k2⟩ := kk
  obtain ⟨b1, b2, b3, b4, b5, b6, b7, b8, b9⟩ := hb
  obtain ⟨T1, T2, T3, T4⟩ := hT
  have hP := hS.1
  have hr17 := hS.2.1
  have hn1 : ¬ M = P := by omega
  have hn2 : ¬ P = M := by omega
  have hn3 : ¬ M + 2 = P := by omega
  have hn4 : ¬ M + 3 = P := by omega
  by_cases hx : x1 < 0 ∨ ¬ x1 ≤ nI tp
  · refine cal213 (fun _ _ _ => False) (fun _ _ _ => False) ?_ (fun _ _ _ hf => hf.elim) (fun _ _ _ hf => hf.elim)
    have e3 : tI (sI t M 0 0) M 3 = nI tp := (sI_at (by omega)).trans T1
    refine ⟨b1, fun _ => k0 hx, fun a1 => ⟨b1, fun a2 => ?_, fun _ => k0 hx⟩⟩
    rw [e3] at a2
    exact absurd a2 (hx.resolve_left a1)
  have hx0 : ¬ x1 < 0 := fun z => hx (Or.inl z)
  have hx1 : x1 ≤ nI tp := Classical.byContradiction (fun z => hx (Or.inr z))
  obtain ⟨n, hn31, rfl⟩ := nI_of hx0
  have hnt : n ≤ tp := (nI_leI hn31 (by omega)).mp hx1
  have hn : n ≤ 1200 := by omega
  refine cal213 (fun m l2 t' => ∃ k t8 q' c us s x, l2 = nI (2400 + k) ∧ m = 10000 - k ∧ 2400 + k ≤ q' ∧ whQ b n = .inl (s, x) ∧ PS t8 M P b n n q' c 0 (0, 0) ∧ MWq M P t t8 ∧ tR t8 = tR t ∧ (tI t8 M 0 = 0 ∧ tI t8 M 3 = 0) ∧ (tI t8 P 9 = hdI us ∧ tI t8 P 10 = nI us.length ∧ tI t8 P 11 = bI s) ∧ qL x = true ∧ QM t8 P (M + 3) 2400 q' x 1 (rg 0 c) us ∧ c ≤ 2 * n ∧ (tN t' = tN t8 ∧ tU t' = tU t8 ∧ tK t' = tK t8 ∧ tL t' = tL t8 ∧ tR t' = tR t8 ∧ tJ t' = tJ t8) ∧ (∀ y j, (y ≠ M + 3 ∨ j < 1200 ∨ 1200 + k ≤ j) → tI t' y j = tI t8 y j) ∧ (∀ j, j < k → tI t' (M + 3) (1200 + j) = tI t8 (M + 3) (2400 + j)))
    (fun m l2 t' => ∃ z t9 c us s x, l2 = nI z ∧ m = 5000 - z ∧ z ≤ c ∧ c ≤ 2400 ∧ whQ b n = .inl (s, x) ∧ MWq M P t t9 ∧ tR t9 = tR t ∧ (tI t9 M 0 = 0 ∧ tI t9 M 3 = 0) ∧ tI t9 P 8 = nI c ∧ (tI t9 P 9 = hdI us ∧ tI t9 P 10 = nI us.length ∧ tI t9 P 11 = bI s) ∧ qL x = true ∧ (∃ q' t8, QM t8 P (M + 3) 2400 q' x 1 (rg 0 c) us ∧ (∀ z, SQa t8 t9 P z ∧ tI t9 (P + 4) z = tI t8 (P + 4) z) ∧ (∀ p cs, CH t8 (M + 3) p cs 2400 q' → CH t9 (M + 3) (p - 1200) cs 1200 2400 ∧ 1200 ≤ p)) ∧ c ≤ 2 * n ∧ (tN t' = tN t9 ∧ tU t' = tU t9 ∧ tK t' = tK t9 ∧ tL t' = tL t9 ∧ tR t' = tR t9 ∧ tJ t' = tJ t9) ∧ (∀ y j, (y ≠ P + 2 ∨ z ≤ j) → tI t' y j = tI t9 y j) ∧ (∀ j, j < z → tI t' (P + 2) j = if tI t9 (P + 1) j = 1 ∨ tI t9 (P + 1) j = 21 then tI t9 (P + 2) j - nI 1200 else tI t9 (P + 2) j)) ?_ ?_ ?_
  · have e3 : tI (sI t M 0 0) M 3 = nI tp := (sI_at (by omega)).trans T1
    refine ⟨b1, fun a1 => absurd a1 hx0, fun a1 => ⟨b1, fun a2 => ?_, fun a2 => by rw [e3] at a2; exact absurd hx1 a2⟩⟩
    refine ⟨b1, b1, b1, b1, b1, onS hr17 ⟨hS.2.2.1, b1, b1, b1, ?_⟩⟩
    have W1 : MWq M P t (sI (sI (sI (sI (sI (sI (sI (sI t M 0 0) M 3 0) M 4 (nI n)) M 5 0) M 7 2400) P 8 0) M 18 0) M 20 (-1)) := (((((((MWq.I (by omega)).trans (MWq.I (by omega))).trans (MWq.I (by omega))).trans (MWq.I (by omega))).trans (MWq.I (by omega))).trans (MWq.I (by omega))).trans (MWq.I (by omega))).trans (MWq.I (by omega))
    have p1 : PS (sI (sI (sI (sI (sI (sI (sI (sI t M 0 0) M 3 0) M 4 (nI n)) M 5 0) M 7 2400) P 8 0) M 18 0) M 20 (-1)) M P b n 0 2400 0 0 (0, 0) := by
      refine ⟨⟨⟨b1, b2, b3, b4, b5, b6, ?_, ?_, hn, by omega, T3, fun k hk => ?_⟩, b7, b8, b9, ?_⟩, by omega, hS.eq rfl rfl rfl, ⟨?_, ?_⟩, ⟨fun _ => sI_eq, fun z => absurd rfl z⟩, by omega, by decide, by omega⟩
      · simp [ht, hn1]
      · simp [ht, hn1]; rfl
      · have := T4 k (by omega)
        simpa [ht, hn3] using this
      · simp [ht, hn1]; rfl
      · simp [ht, hn2]; rfl
      · simp [ht]; rfl
    have c03 : tI (sI (sI (sI (sI (sI (sI (sI (sI t M 0 0) M 3 0) M 4 (nI n)) M 5 0) M 7 2400) P 8 0) M 18 0) M 20 (-1)) M 0 = 0 ∧ tI (sI (sI (sI (sI (sI (sI (sI (sI t M 0 0) M 3 0) M 4 (nI n)) M 5 0) M 7 2400) P 8 0) M 18 0) M 20 (-1)) M 3 = 0 ∧ tI (sI (sI (sI (sI (sI (sI (sI (sI t M 0 0) M 3 0) M 4 (nI n)) M 5 0) M 7 2400) P 8 0) M 18 0) M 20 (-1)) M 13 = tI t M 13 ∧ tI (sI (sI (sI (sI (sI (sI (sI (sI t M 0 0) M 3 0) M 4 (nI n)) M 5 0) M 7 2400) P 8 0) M 18 0) M 20 (-1)) M 24 = tI t M 24 := by
      refine ⟨?_, ?_, ?_, ?_⟩ <;> simp [ht, hn1]
    have cch : ∀ k, tI (sI (sI (sI (sI (sI (sI (sI (sI t M 0 0) M 3 0) M 4 (nI n)) M 5 0) M 7 2400) P 8 0) M 18 0) M 20 (-1)) (M + 3) k = tI t (M + 3) k := fun k => by simp [ht, hn4]
    have R1 : tR (sI (sI (sI (sI (sI (sI (sI (sI t M 0 0) M 3 0) M 4 (nI n)) M 5 0) M 7 2400) P 8 0) M 18 0) M 20 (-1)) = tR t := rfl
    revert W1 p1 c03 cch R1
    generalize sI (sI (sI (sI (sI (sI (sI (sI t M 0 0) M 3 0) M 4 (nI n)) M 5 0) M 7 2400) P 8 0) M 18 0) M 20 (-1) = t1
    intro W1 p1 c03 cch R1
    have told : ∀ w p t', whQ b n = .inr (w, p) → FQ M P t1 t' w p → 16 = 16 ∧ tK t' (M + 1) = 16 ∧ tK t' (M + 1) = 16 ∧ tK t' M = 17 ∧ CalG C mtab (E + 229) 178 [svR (some M), svI (tI t' (M + 1) 6), svI (tI t' (M + 1) 7)] t' (aftV (fun v40 t41 => rI v40 (fun x45 => Post (.inl (some (svI x45))) t41)) (fun k42 q43 t44 => Post (.inr (k42, q43)) t44)) := fun w p t' e hF =>
      mqTold p1.K p1.1.1.2.2.1 hF (fun t2 g1 g2 g3 g4 g5 g6 => k1 n hnt rfl w p e t2 (W1.trans g1) (g2.trans R1) ⟨g3, g4, (g6 0 (by omega)).trans c03.1, (g6 3 (by omega)).trans c03.2.1, (g6 13 (by omega)).trans c03.2.2.1, (g6 24 (by omega)).trans c03.2.2.2⟩ (fun k hk => (g5 k hk).trans (cch k))) hP
    have hG1 : GO M P b n [] t1 0 2400 0 t1 0 2400 0 0 (0, 0) := GO.rfl' p1
    refine mqN (by decide) hG1 (fun e36 hG2 => ⟨rfl, hG2.1.K, hG2.1.K, ?_⟩) (fun e36 t2 hF => told 1 0 t2 (by unfold whQ; rw [if_neg e36]) hF)
    have h0n := (pk_nn e36 (by decide)).1
    refine m192 (E := E + 218) (f := 16) (strict := false) (whole := true) (Nat.le_refl _) (fun f0 z => ?_) hG2.1 (by omega) ⟨fun j hh L' s x e ej => ⟨fun _ hjh t3 hF => told 1 j t3 (by unfold whQ; rw [if_pos e36, e]; exact if_neg (fun w => hjh w.1)) (FQ.of hG2 hF), fun hjh t8 q' c us hSG h21 h10 => ?_⟩, fun w p e t3 hF => told w p t3 (by unfold whQ; rw [if_pos e36, e]) (FQ.of hG2 hF)⟩
    · have : f0 = 15 := by omega
      subst this
      have := (mlv (C := C) (M := M) (P := P) (b := b) (n := n) 15 (by omega) (E + 42)).1
      rwa [show E + 218 + 8 = E + 42 + 11 * 15 + 19 by omega]
    have hjh := hjh rfl
    subst hjh
    obtain ⟨g, hx, hl, hm, hcb⟩ := hSG
    have hG3 := hG2.trans g (fun z hz => by cases hz)
    have h8 := hG3.1
    have hjn := h8.2.1
    have hsp : whQ b n = if j = n then (if L'.1 = 0 then .inl (s, x) else .inr L') else .inr (1, j) := by
      unfold whQ
      rw [if_pos e36, e]
      by_cases w : j = n
      · rw [if_pos w]; exact if_pos ⟨rfl, w⟩
      · rw [if_neg w]; exact if_neg (fun z => w z.2)
    refine onS hG2.1.r17 ⟨h8.k14, h8.K, h8.K, ?_⟩
    have hG4 : GO M P b n [] t1 0 2400 0 (sI t8 P 9 (hdI us)) j q' c (16 - 16) L' := hG3.I (Or.inr (Or.inl ⟨rfl, by omega⟩))
    have f9 : tI (sI t8 P 9 (hdI us)) P 9 = hdI us := sI_eq
    have f10 : tI (sI t8 P 9 (hdI us)) P 10 = nI us.length := (sI_at (by omega)).trans h10
    have f21 : tI (sI t8 P 9 (hdI us)) M 21 = bI s := (sI_at (by omega)).trans h21
    have fx : L'.1 = 0 → qL x = true ∧ QM (sI t8 P 9 (hdI us)) P (M + 3) 2400 q' x 1 (rg 0 c) us := fun z => by
      obtain ⟨-, z2, z3⟩ := hx z
      exact ⟨z2, z3.fr (fun v hv => ⟨(SQa.w (Or.inl (by omega))).1, fun _ => (SQa.w (Or.inl (by omega))).2⟩) (fun k _ _ => sI_at (by omega)) (Nat.le_refl _)⟩
    revert hG4 f9 f10 f21 fx
    generalize sI t8 P 9 (hdI us) = t9
    intro hG4 f9 f10 f21 fx
    have h9 := hG4.1
    have e4 : tI t9 M 4 = nI n := h9.1.1.2.2.2.2.2.2.1
    rw [e4, h9.at]
    have hv := hG4.2.1
    have vM : ∀ k, k = 0 ∨ k = 3 ∨ k = 13 ∨ k = 24 → tI t9 M k = tI t1 M k := fun k hk => hv.2.2.2.2.2.2 _ _ (by omega) (by omega) (by omega) (by omega)
    refine ⟨fun a3 => ⟨h9.K, fun a4 => ⟨h9.K, h9.K, onS h9.r17 ⟨h9.k14, ?_, ?_⟩⟩, fun a4 => ⟨h9.K, h9.K, h9.K, c178 h9.K ?_⟩⟩, fun a3 => ⟨h9.K, ?_⟩⟩
    · rw [f21]; cases s <;> simp [bI]
    · have ejn : j = n := by have := (nI_leI (by omega) (by omega)).mp a3; omega
      have L0 : L'.1 = 0 := Classical.byContradiction (fun z => by
        rw [(h9.2.2.2.2.1.2 z).2] at a4
        exact nI_m1 (by have := h9.2.2.2.2.2.2.1.2.2; omega) a4)
      rw [if_pos ejn, if_pos L0] at hsp
      subst ejn
      obtain ⟨z2, z3⟩ := fx L0
      have hG5 : GO M P b j [] t1 0 2400 0 (sI t9 P 11 (tI t9 M 21)) j q' c (16 - 16) L' := hG4.I (Or.inr (Or.inl ⟨rfl, by omega⟩))
      have p5 := hG5.1
      refine ⟨10000, rfl, rfl, 0, sI t9 P 11 (tI t9 M 21), q', c, us, s, x, rfl, rfl, p5.2.2.2.2.2.1.1, hsp, ?_, W1.trans (MWq.v hG5.2.1), ?_, ⟨?_, ?_⟩, ⟨?_, ?_, ?_⟩, z2, ?_, by omega, ⟨rfl, rfl, rfl, rfl, rfl, rfl⟩, fun _ _ _ => rfl, fun j hj => by omega⟩
      · refine p5.of MV.rfl' p5.at p5.1.2.2.2.2 p5.2.2.2.1.1 p5.2.2.2.1.2 ⟨fun _ => p5.2.2.2.2.1.1 L0, fun z => absurd rfl z⟩ p5.2.1 p5.2.2.2.2.2.1 ⟨by omega, by decide, by decide⟩ p5.2.2.2.2.2.2.2
      · exact hG5.2.1.2.2.2.2.1.trans R1
      · rw [sI_at (by omega), vM 0 (by omega)]; exact c03.1
      · rw [sI_at (by omega), vM 3 (by omega)]; exact c03.2.1
      · rw [sI_at (by omega)]; exact f9
      · rw [sI_at (by omega)]; exact f10
      · rw [sI_eq]; exact f21
      · exact z3.fr (fun v hv => ⟨(SQa.w (Or.inl (by omega))).1, fun _ => (SQa.w (Or.inl (by omega))).2⟩) (fun k _ _ => sI_at (by omega)) (Nat.le_refl _)
    · have ejn : j = n := by have := (nI_leI (by omega) (by omega)).mp a3; omega
      have L0 : ¬ L'.1 = 0 := fun z => a4 (h9.2.2.2.2.1.1 z)
      rw [if_pos ejn, if_neg L0] at hsp
      obtain ⟨l1, l2⟩ := h9.2.2.2.2.1.2 L0
      rw [l1, l2]
      refine k1 n hnt rfl L'.1 L'.2 hsp _ ((W1.trans (MWq.v hv)).trans ((MWq.I (by omega)).trans (MWq.I (by omega)))) (hv.2.2.2.2.1.trans R1) ⟨?_, sI_eq, ?_, ?_, ?_, ?_⟩ (fun k hk => ?_)
      · rw [sI_at (by omega)]; exact sI_eq
      · rw [sI_at (by omega), sI_at (by omega), vM 0 (by omega)]; exact c03.1
      · rw [sI_at (by omega), sI_at (by omega), vM 3 (by omega)]; exact c03.2.1
      · rw [sI_at (by omega), sI_at (by omega), vM 13 (by omega)]; exact c03.2.2.1
      · rw [sI_at (by omega), sI_at (by omega), vM 24 (by omega)]; exact c03.2.2.2
      · rw [sI_at (by omega), sI_at (by omega), hv.2.2.2.2.2.2 _ _ (by omega) (by omega) (by omega) (by omega)]; exact cch k
    · have ejn : ¬ j = n := fun w => a3 (by rw [w]; exact (nI_leI (by omega) (by omega)).mpr (Nat.le_refl _))
      rw [if_neg ejn] at hsp
      refine c158 (s := M + 1) h9.K h9.1.1.2.1 h9.1.1.2.2.1 ⟨h9.1.1.2.2.1, ?_⟩
      refine told 1 j _ hsp (FQ.of hG4 ?_)
      rw [h9.at]
      exact FQ.told
  · rintro m l2 t' ⟨k, t8, q', c, us, s, x, rfl, rfl, hk, hsp, p8, W8, R8, m8, q8, z2, z3, hcn, ⟨u1, u2, u3, u4, u5, u6⟩, f1, f2⟩
    have hq8 := p8.2.2.2.2.2.1
    have K' : tK t' M = 17 := by rw [u3]; exact p8.K
    have e7 : tI t' M 7 = nI q' := (f1 M 7 (by omega)).trans p8.1.2.2.2.2
    refine ⟨K', fun a1 => ?_, fun a1 => ⟨K', K', ?_⟩⟩
    · have hkq : q' = 2400 + k := by
        rw [e7] at a1
        have := (nI_leI (by omega) (by omega)).mp a1
        omega
      have W9 : MWq M P t8 t' := ⟨u1, u2, u3, u4, fun x k _ => by rw [u5], fun x k _ _ => by rw [u6], fun x k z1 z2 z3 z4 => f1 x k (by omega)⟩
      refine ⟨5000, by omega, rfl, rfl, 0, t', c, us, s, x, rfl, rfl, by omega, p8.2.2.2.2.2.2.2, hsp, W8.trans W9, u5.trans R8, ⟨(f1 _ _ (by omega)).trans m8.1, (f1 _ _ (by omega)).trans m8.2⟩, (f1 _ _ (by omega)).trans p8.2.2.2.1.1, ⟨(f1 _ _ (by omega)).trans q8.1, (f1 _ _ (by omega)).trans q8.2.1, (f1 _ _ (by omega)).trans q8.2.2⟩, z2, ⟨q', t8, z3, fun z => ⟨⟨fun k hk => f1 _ _ (by omega), fun k hk => by rw [u6]⟩, f1 _ _ (by omega)⟩, fun p cs hc => ⟨⟨?_, ?_, fun j hj => ?_⟩, ?_⟩⟩, hcn, ⟨rfl, rfl, rfl, rfl, rfl, rfl⟩, fun _ _ _ => rfl, fun j hj => by omega⟩
      · have := hc.1; omega
      · have := hc.2.1; have := hc.1; omega
      · have h1 := hc.1
        have h2 := hc.2.1
        have h3 := hc.2.2 j hj
        have := f2 (p + j - 2400) (by omega)
        rw [show 1200 + (p + j - 2400) = p - 1200 + j by omega, show 2400 + (p + j - 2400) = p + j by omega] at this
        rw [this]; exact h3
      · have := hc.1; omega
    · have hkq : 2400 + k < q' := by
        rcases Nat.lt_or_ge (2400 + k) q' with w | w
        · exact w
        · exact absurd (by rw [e7]; exact (nI_leI (by omega) (by omega)).mpr w) a1
      have r6 : tR t' M 6 = some (M + 3) := by rw [u5]; exact p8.1.2.1
      have k6 : tK t' (M + 3) = 101 := by rw [u3]; exact p8.1.2.2.1
      have l6 : tL t' (M + 3) = 4800 := by rw [u4]; exact p8.1.2.2.2.1
      have c1 : (nI (2400 + k)).toNatClampNeg = 2400 + k := nI_clamp (by omega)
      have e1200 : nI (2400 + k) - (1200 : Int32) = nI (1200 + k) := by
        have := nI_sub (p := 2400 + k) (s := 1200) (by omega)
        rw [show 2400 + k - 1200 = 1200 + k by omega] at this
        exact this
      have c2 : (nI (1200 + k)).toNatClampNeg = 1200 + k := nI_clamp (by omega)
      rw [e1200]
      refine onS r6 ⟨k6, by rw [l6]; exact vp_in_nI (by omega) (by decide), onS r6 ⟨k6, by rw [l6]; exact vp_in_nI (by omega) (by decide), ?_⟩⟩
      rw [c1, c2, nI_1]
      refine ⟨10000 - (k + 1), by omega, rfl, rfl, k + 1, t8, q', c, us, s, x, rfl, rfl, by omega, hsp, p8, W8, R8, m8, q8, z2, z3, hcn, ⟨u1, u2, u3, u4, u5, u6⟩, fun y j hy => ?_, fun j hj => ?_⟩
      · rw [sI_at (by omega)]; exact f1 y j (by omega)
      · by_cases ejk : j = k
        · subst ejk
          rw [sI_eq]; exact f1 _ _ (by omega)
        · rw [sI_at (by omega)]; exact f2 j (by omega)
  · rintro m l2 t' ⟨z, t9, c, us, s, x, rfl, rfl, hzc, hc24, hsp, W9, R9, m9, n9, q9, z2, ⟨q', t8, z3, y1, y2⟩, hcn, ⟨u1, u2, u3, u4, u5, u6⟩, f1, f2⟩
    have K' : tK t' M = 17 := by rw [u3, W9.2.2.1]; exact b1
    have r17 : tR t' M 17 = some P := by rw [u5, R9]; exact hr17
    have kP : tK t' P = 14 := by rw [u3, W9.2.2.1]; exact hS.2.2.1
    have e8 : tI t' P 8 = nI c := (f1 P 8 (by omega)).trans n9
    refine ⟨K', onS r17 ⟨kP, fun a1 => ?_, fun a1 => ⟨K', ?_⟩⟩⟩
    · have hzc' : z = c := by
        rw [e8] at a1
        have := (nI_leI (by omega) (by omega)).mp a1
        omega
      subst hzc'
      refine ⟨K', K', K', K', K', Or.inr rfl, K', K', c178 K' ?_⟩
      have r16 : tR t' M 16 = some P' := by rw [u5, R9]; exact hP'
      rw [r17, r16]
      have Wt : MWq M P t9 t' := ⟨u1, u2, u3, u4, fun x k _ => by rw [u5], fun x k _ _ => by rw [u6], fun x k z1 z2 z3 z4 => f1 x k (by omega)⟩
      have fin : ∀ t10, t10 = sI (sI (sI (sI (sR (sR t' M 16 (some P)) M 17 (some P')) M 13 1) M 24 0) M 14 0) M 15 (-1) → Post (.inl (some (svI (0 : Int32)))) t10 := by
        intro t10 ht10
        have Wf : MWq M P t' t10 := by
          rw [ht10]
          exact (((((MWq.R (Or.inl rfl)).trans (MWq.R (Or.inr rfl))).trans (MWq.I (by omega))).trans (MWq.I (by omega))).trans (MWq.I (by omega))).trans (MWq.I (by omega))
        have iP : ∀ y j, (y ≠ M ∨ (j ≠ 13 ∧ j ≠ 24 ∧ j ≠ 14 ∧ j ≠ 15)) → tI t10 y j = tI t' y j := fun y j hy => by
          rw [ht10, sI_at (by omega), sI_at (by omega), sI_at (by omega), sI_at (by omega)]; rfl
        have jP : tJ t10 = tJ t' := by rw [ht10]; rfl
        refine k2 n hnt rfl s x hsp t10 z us (W9.trans (Wt.trans Wf)) ⟨?_, ?_⟩ ⟨?_, ?_, ?_, ?_, ?_, ?_⟩ ⟨?_, ?_, ?_⟩ z2 ?_ hcn
        · rw [ht10]; show tR (sR (sR t' M 16 (some P)) M 17 (some P')) M 16 = _; rw [sR_at (by omega)]; exact sR_eq
        · rw [ht10]; show tR (sR (sR t' M 16 (some P)) M 17 (some P')) M 17 = _; exact sR_eq
        · rw [ht10, sI_at (by omega)]; exact sI_eq
        · rw [ht10]; exact sI_eq
        · rw [iP _ _ (by omega), f1 _ _ (by omega)]; exact m9.1
        · rw [iP _ _ (by omega), f1 _ _ (by omega)]; exact m9.2
        · rw [ht10, sI_at (by omega), sI_at (by omega), sI_at (by omega)]; exact sI_eq
        · rw [ht10, sI_at (by omega), sI_at (by omega)]; exact sI_eq
        · rw [iP _ _ (by omega), f1 _ _ (by omega)]; exact q9.1
        · rw [iP _ _ (by omega), f1 _ _ (by omega)]; exact q9.2.1
        · rw [iP _ _ (by omega), f1 _ _ (by omega)]; exact q9.2.2
        · refine QM.map (sh := 1200) (fun p cs hc => ?_) _ _ _ _ z3 (fun v hv => ⟨?_, ?_, ?_, ?_, ?_, ?_, ?_⟩) (fun v hv _ => ?_)
          · obtain ⟨w1, w2⟩ := y2 p cs hc
            refine ⟨w1.eq (Nat.le_refl _) (fun k _ _ => ?_), w2⟩
            rw [iP _ _ (by omega), f1 _ _ (by omega)]
          · rw [iP _ _ (by omega), f1 _ _ (by omega)]; exact (y1 v).1.1 1 (by omega)
          · rw [iP _ _ (by omega), f2 v hv.2, (y1 v).1.1 1 (by omega), (y1 v).1.1 2 (by omega)]
          · rw [iP _ _ (by omega), f1 _ _ (by omega)]; exact (y1 v).1.1 3 (by omega)
          · rw [iP _ _ (by omega), f1 _ _ (by omega)]; exact (y1 v).1.1 5 (by omega)
          · rw [jP, u6]; exact (y1 v).1.2 6 (by omega)
          · rw [jP, u6]; exact (y1 v).1.2 7 (by omega)
          · rw [jP, u6]; exact (y1 v).1.2 8 (by omega)
          · rw [iP _ _ (by omega), f1 _ _ (by omega)]; exact (y1 v).2
      exact fin _ rfl
    · have hzc' : z < c := by
        rcases Nat.lt_or_ge z c with w | w
        · exact w
        · exact absurd (by rw [e8]; exact (nI_leI (by omega) (by omega)).mpr w) a1
      have a0 : tR t' P 0 = some (P + 1) ∧ tK t' (P + 1) = 101 ∧ tL t' (P + 1) = 2400 := ⟨by rw [u5, R9]; exact (hS.2.2.2.1 0 (by omega)).1, by rw [u3, W9.2.2.1]; exact hS.2.2.2.2.1 0 (by omega), by rw [u4, W9.2.2.2.1]; exact (hS.2.2.2.1 0 (by omega)).2⟩
      have a1' : tR t' P 1 = some (P + 2) ∧ tK t' (P + 2) = 101 ∧ tL t' (P + 2) = 2400 := ⟨by rw [u5, R9]; exact (hS.2.2.2.1 1 (by omega)).1, by rw [u3, W9.2.2.1]; exact hS.2.2.2.2.1 1 (by omega), by rw [u4, W9.2.2.2.1]; exact (hS.2.2.2.1 1 (by omega)).2⟩
      have vz : vp_in (nI z) 2400 := vp_in_nI (by omega) (by decide)
      have cz : (nI z).toNatClampNeg = z := nI_clamp (by omega)
      have ek : tI t' (P + 1) z = tI t9 (P + 1) z := f1 _ _ (by omega)
      have eo : tI t' (P + 2) z = tI t9 (P + 2) z := f1 _ _ (by omega)
      have sh : (tI t9 (P + 1) z = 1 ∨ tI t9 (P + 1) z = 21) → ∃ k, k < 5000 - z ∧ some M = some M ∧ nI n = nI n ∧ ∃ z' t9 c us s x, nI z + 1 = nI z' ∧ k = 5000 - z' ∧ z' ≤ c ∧ c ≤ 2400 ∧ whQ b n = .inl (s, x) ∧ MWq M P t t9 ∧ tR t9 = tR t ∧ (tI t9 M 0 = 0 ∧ tI t9 M 3 = 0) ∧ tI t9 P 8 = nI c ∧ (tI t9 P 9 = hdI us ∧ tI t9 P 10 = nI us.length ∧ tI t9 P 11 = bI s) ∧ qL x = true ∧ (∃ q' t8, QM t8 P (M + 3) 2400 q' x 1 (rg 0 c) us ∧ (∀ z, SQa t8 t9 P z ∧ tI t9 (P + 4) z = tI t8 (P + 4) z) ∧ (∀ p cs, CH t8 (M + 3) p cs 2400 q' → CH t9 (M + 3) (p - 1200) cs 1200 2400 ∧ 1200 ≤ p)) ∧ c ≤ 2 * n ∧ (tN (sI t' (P + 2) z (tI t' (P + 2) z - 1200)) = tN t9 ∧ tU (sI t' (P + 2) z (tI t' (P + 2) z - 1200)) = tU t9 ∧ tK (sI t' (P + 2) z (tI t' (P + 2) z - 1200)) = tK t9 ∧ tL (sI t' (P + 2) z (tI t' (P + 2) z - 1200)) = tL t9 ∧ tR (sI t' (P + 2) z (tI t' (P + 2) z - 1200)) = tR t9 ∧ tJ (sI t' (P + 2) z (tI t' (P + 2) z - 1200)) = tJ t9) ∧ (∀ y j, (y ≠ P + 2 ∨ z' ≤ j) → tI (sI t' (P + 2) z (tI t' (P + 2) z - 1200)) y j = tI t9 y j) ∧ (∀ j, j < z' → tI (sI t' (P + 2) z (tI t' (P + 2) z - 1200)) (P + 2) j = if tI t9 (P + 1) j = 1 ∨ tI t9 (P + 1) j = 21 then tI t9 (P + 2) j - nI 1200 else tI t9 (P + 2) j) := fun hk => by
        refine ⟨5000 - (z + 1), by omega, rfl, rfl, z + 1, t9, c, us, s, x, by rw [nI_1], rfl, by omega, hc24, hsp, W9, R9, m9, n9, q9, z2, ⟨q', t8, z3, y1, y2⟩, hcn, ⟨u1, u2, u3, u4, u5, u6⟩, fun y j hy => ?_, fun j hj => ?_⟩
        · rw [sI_at (by omega)]; exact f1 y j (by omega)
        · by_cases e : j = z
          · subst e
            rw [sI_eq, if_pos hk, eo]; rfl
          · rw [sI_at (by omega)]; exact f2 j (by omega)
      refine onS r17 ⟨kP, onS a0.1 ⟨a0.2.1, by rw [a0.2.2]; exact vz, ?_⟩⟩
      rw [cz]
      refine ⟨fun k1' => ⟨K', onS r17 ⟨kP, onS a1'.1 ⟨a1'.2.1, by rw [a1'.2.2]; exact vz, onS a1'.1 ⟨a1'.2.1, by rw [a1'.2.2]; exact vz, ?_⟩⟩⟩⟩, fun k1' => ⟨K', onS r17 ⟨kP, onS a0.1 ⟨a0.2.1, by rw [a0.2.2]; exact vz, fun k21 => ⟨K', onS r17 ⟨kP, onS a1'.1 ⟨a1'.2.1, by rw [a1'.2.2]; exact vz, onS a1'.1 ⟨a1'.2.1, by rw [a1'.2.2]; exact vz, ?_⟩⟩⟩⟩, fun k21 => ?_⟩⟩⟩⟩
      · rw [ek] at k1'; exact sh (Or.inl k1')
      · rw [ek] at k21; exact sh (Or.inr k21)
      · rw [ek] at k1' k21
        refine ⟨5000 - (z + 1), by omega, rfl, rfl, z + 1, t9, c, us, s, x, by rw [nI_1], rfl, by omega, hc24, hsp, W9, R9, m9, n9, q9, z2, ⟨q', t8, z3, y1, y2⟩, hcn, ⟨u1, u2, u3, u4, u5, u6⟩, fun y j hy => f1 y j (by omega), fun j hj => ?_⟩
        by_cases e : j = z
        · subst e
          rw [if_neg (fun w => w.elim k1' k21)]; exact eo
        · exact f2 j (by omega)
end MQK
