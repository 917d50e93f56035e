/-! json, OF THE REFERENCE -/
/-- what a json may change -/
def MWj (M S : Nat) (t t' : Ht) : Prop := tN t' = tN t ∧ tU t' = tU t ∧ tK t' = tK t ∧ tL t' = tL t ∧ (∀ x k, (x ≠ M ∨ (k ≠ 10 ∧ k ≠ 11)) → tR t' x k = tR t x k) ∧ (∀ x k, x ≠ S + 12 → (x ≠ M ∨ k ≠ 8) → tJ t' x k = tJ t x k) ∧
  (∀ x k, (x < S ∨ S + 11 < x) → (x ≠ M + 1 ∨ (k ≠ 6 ∧ k ≠ 7)) → (x ≠ M + 3 ∨ (1200 ≤ k ∧ k < 2400)) → (x ≠ M ∨ k = 1 ∨ k = 2 ∨ k = 6 ∨ k = 8 ∨ k = 10 ∨ k = 11 ∨ k = 13 ∨ (16 ≤ k ∧ k ≤ 23) ∨ 25 ≤ k) → tI t' x k = tI t x k)
section MJS
variable {C : Cx} {d E f f0 : Nat} {Post : OutT → Ht → Prop} {t t0 t1 t' : Ht} {M S S' : Nat} {b : By} {n i q c tp : Nat} {V V' : VT}
theorem MWj.rfl' : MWj M S t t := ⟨rfl, rfl, rfl, rfl, fun _ _ _ => rfl, fun _ _ _ _ => rfl, fun _ _ _ _ _ _ => rfl⟩
theorem MWj.trans (h : MWj M S t t1) (g : MWj M S t1 t') : MWj M S t t' := by
  obtain ⟨h1, h2, h3, h4, h5, h6, h7⟩ := h
  obtain ⟨g1, g2, g3, g4, g5, g6, g7⟩ := g
  exact ⟨g1.trans h1, g2.trans h2, g3.trans h3, g4.trans h4, fun x k z => (g5 x k z).trans (h5 x k z), fun x k z1 z2 => (g6 x k z1 z2).trans (h6 x k z1 z2), fun x k z1 z2 z3 z4 => (g7 x k z1 z2 z3 z4).trans (h7 x k z1 z2 z3 z4)⟩
theorem MWj.I {x k : Nat} {v : Int32} (h : (S ≤ x ∧ x ≤ S + 11) ∨ (x = M ∧ (k = 0 ∨ (3 ≤ k ∧ k ≤ 5) ∨ k = 7 ∨ k = 9 ∨ k = 12 ∨ k = 14 ∨ k = 15 ∨ k = 24))) : MWj M S t (sI t x k v) := by
  refine ⟨rfl, rfl, rfl, rfl, fun _ _ _ => rfl, fun _ _ _ _ => rfl, fun y j z1 z2 z3 z4 => sI_at ?_⟩
  rintro ⟨rfl, rfl⟩
  omega
theorem MWj.R {k : Nat} {v : Option Nat} (h : k = 10 ∨ k = 11) : MWj M S t (sR t M k v) := by
  refine ⟨rfl, rfl, rfl, rfl, fun y j z => sR_at ?_, fun _ _ _ _ => rfl, fun _ _ _ _ _ _ => rfl⟩
  rintro ⟨rfl, rfl⟩
  omega
theorem MWj.z (h : MZ M S t t') : MWj M S t t' := by
  obtain ⟨h1, h2, h3, h4, h5, h6, h7⟩ := h
  exact ⟨h1, h2, h3, h4, fun x k _ => by rw [h5], h6, fun x k z1 z2 z3 z4 => h7 x k z1 z2 (by omega) (by omega)⟩
/-- a fault is told by the call -/
theorem mjTold {w p : Nat} (hM : tK t M = 17) (hs : tK t (M + 1) = 16) (h : FZ M S t t' w p) (k : ∀ t2, MWj M S t t2 → tR t2 = tR t → tI t2 M 14 = nI w → tI t2 M 15 = nI p → (∀ k, k < 2400 → tI t2 (M + 3) k = tI t (M + 3) k) → (∀ k, k = 0 ∨ k = 3 ∨ k = 12 ∨ k = 24 → tI t2 M k = tI t M k) → Post (.inl (some (svI (nI w)))) t2) (hS : S = M + 4 ∨ S = M + 17) : 16 = 16 ∧ tK t' (M + 1) = 16 ∧ tK t' (M + 1) = 16 ∧ tK t' M = 17 ∧ CalG C mtab (d + 1) 178 [svR (some M), svI (tI t' (M + 1) 6), svI (tI t' (M + 1) 7)] t' (aftV (fun v40 t41 => rI v40 (fun x45 => Post (.inl (some (svI x45))) t41)) (fun k42 q43 t44 => Post (.inr (k42, q43)) t44)) := by
  obtain ⟨hv, h6, h7⟩ := h
  have hv' := hv
  obtain ⟨v1, v2, v3, v4, v5, v6, v7⟩ := hv'
  have h16 : tK t' (M + 1) = 16 := by rw [v3]; exact hs
  have h17 : tK t' M = 17 := by rw [v3]; exact hM
  refine ⟨rfl, h16, h16, h17, c178 h17 ?_⟩
  rw [h6, h7]
  refine k _ ((MWj.z hv).trans ((MWj.I (Or.inr ⟨rfl, by omega⟩)).trans (MWj.I (Or.inr ⟨rfl, by omega⟩)))) v5 ?_ sI_eq (fun k hk => ?_) (fun k hk => ?_)
  · rw [sI_at (by omega)]; exact sI_eq
  · rw [sI_at (by omega), sI_at (by omega)]; exact v7 _ _ (by omega) (by omega) (by omega) (by omega)
  · rw [sI_at (by omega), sI_at (by omega)]; exact v7 _ _ (by omega) (by omega) (by omega) (by omega)
/-- the table with its texts moved -/
theorem RT.mv {q' : Nat} (h : RT t S (M + 3) V c 2400 q') (h1 : ∀ k j, 1 ≤ k → k ≤ 11 → k ≠ 9 → k ≠ 10 → j < c → tI t' (S + k) j = tI t (S + k) j) (h9 : ∀ j, j < c → tI t' (S + 9) j = tI t (S + 9) j - nI 2400) (h10 : ∀ j, j < c → tI t' (S + 10) j = tI t (S + 10) j - nI 2400) (hJ : ∀ j, j < c → tJ t' (S + 12) j = tJ t (S + 12) j) (hq : q' ≤ 3600) (hch : ∀ j, 2400 ≤ j → j < q' → tI t' (M + 3) (j - 2400) = tI t (M + 3) j) : RT t' S (M + 3) V c 0 1200 := by
  have ch : ∀ p cs, CH t (M + 3) p cs 2400 q' → CH t' (M + 3) (p - 2400) cs 0 1200 ∧ 2400 ≤ p := fun p cs hc => by
    obtain ⟨a1, a2, a3⟩ := hc
    refine ⟨⟨Nat.zero_le _, by omega, fun k hk => ?_⟩, a1⟩
    have := hch (p + k) (by omega) (by omega)
    rw [show p + k - 2400 = p - 2400 + k by omega] at this
    rw [this]; exact a3 k hk
  intro j hj
  obtain ⟨⟨⟨r1, r2, r3, r5, r6, r7, r8, r12⟩, ⟨s1, s2⟩, k4⟩, hq'⟩ := h j hj
  refine ⟨⟨⟨?_, ?_, ?_, ?_, ?_, fun x hx => ?_, ?_, ?_⟩, ⟨fun e => ?_, fun cs e => ?_⟩, fun i hi => ?_⟩, hq'⟩
  · rw [h1 1 j (by omega) (by omega) (by omega) (by omega) hj]; exact r1
  · rw [h1 2 j (by omega) (by omega) (by omega) (by omega) hj]; exact r2
  · rw [h1 3 j (by omega) (by omega) (by omega) (by omega) hj]; exact r3
  · rw [h1 5 j (by omega) (by omega) (by omega) (by omega) hj]; exact r5
  · rw [h1 6 j (by omega) (by omega) (by omega) (by omega) hj]; exact r6
  · rw [h1 7 j (by omega) (by omega) (by omega) (by omega) hj]; exact r7 x hx
  · rw [h1 8 j (by omega) (by omega) (by omega) (by omega) hj]; exact r8
  · rw [hJ j hj]; exact r12
  · obtain ⟨p, e1, e2⟩ := s1 e
    obtain ⟨w1, w2⟩ := ch p _ e2
    exact ⟨p - 2400, by rw [h9 j hj, e1, nI_sub w2], w1⟩
  · obtain ⟨p, e1, e2, e3⟩ := s2 cs e
    obtain ⟨w1, w2⟩ := ch p _ e3
    exact ⟨p - 2400, by rw [h10 j hj, e1, nI_sub w2], by rw [h1 11 j (by omega) (by omega) (by omega) (by omega) hj]; exact e2, w1⟩
  · have hk := (hq'.2.2.1 _ (kid_mem hi)).2.1
    rw [h1 4 _ (by omega) (by omega) (by omega) (by omega) hk]; exact k4 i hi
/-- what the caller of json needs -/
def KRj (M S S' : Nat) (b : By) (tp : Nat) (V : VT) (x1 : Int32) (t : Ht) (Post : OutT → Ht → Prop) : Prop :=
  ((x1 < 0 ∨ ¬ x1 ≤ nI tp) → Post (.inl (some (svI (-1 : Int32)))) (sI t M 0 0)) ∧
  (∀ n, n ≤ tp → x1 = nI n → ∀ w p, whS b n (wnS b n true) V = .inr (w, p) → ∀ t', MWj M S t t' → tR t' = tR t → (tI t' M 14 = nI w ∧ tI t' M 15 = nI p ∧ tI t' M 0 = 0 ∧ tI t' M 3 = 0 ∧ tI t' M 12 = tI t M 12 ∧ tI t' M 24 = tI t M 24) → (∀ k, k < 2400 → tI t' (M + 3) k = tI t (M + 3) k) → Post (.inl (some (svI (nI w)))) t') ∧
  (∀ n, n ≤ tp → x1 = nI n → ∀ j c V', whS b n (wnS b n true) V = .inl (j, c, V') → ∀ t', MWj M S t t' → (tR t' M 10 = some S ∧ tR t' M 11 = some S') → (tI t' M 14 = 0 ∧ tI t' M 15 = -1 ∧ tI t' M 0 = 0 ∧ tI t' M 3 = 0 ∧ tI t' M 12 = 1 ∧ tI t' M 24 = 0) → (tI t' S 12 = nI c ∧ tI t' S 13 = nI (mxD V' c) ∧ c ≤ 300) → RT t' S (M + 3) V' c 0 1200 → tI t' (S + 4) 0 = -1 → Post (.inl (some (svI (0 : Int32)))) t')
set_option maxHeartbeats 2000000 in
theorem mJson {x1 : Int32} (hb : MBs t M) (hS : MSh t M S) (hS' : tR t M 10 = some S') (hT : TPd t M tp b) (kk : KRj M S S' b tp V x1 t Post) : CalG C mtab (E + 72) 179 [svR (some M), svI x1] t Post := by
  obtain ⟨k0, k1, k2⟩ := kk
  obtain ⟨b1, b2, b3, b4, b5, b6, b7, b8, b9⟩ := hb
  obtain ⟨T1, T2, T3, T4⟩ := hT
  have hP := hS.1
  have hr11 := hS.2.2.1
  have hk15 := hS.2.2.2.1
  have hn1 : ¬ M = S := by omega
  have hn2 : ¬ S = M := by omega
  have hn3 : ¬ M + 2 = S := by omega
  have hn4 : ¬ M + 3 = S := by omega
  by_cases hx : x1 < 0 ∨ ¬ x1 ≤ nI tp
  · refine cal179b (fun _ _ _ => False) (fun _ _ _ => False) (fun _ _ _ => False) (fun _ _ _ => False) (fun _ _ _ => False) ?_ (fun _ _ _ hf => hf.elim) (fun _ _ _ hf => hf.elim) (fun _ _ _ hf => hf.elim) (fun _ _ _ hf => hf.elim) (fun _ _ _ hf => hf.elim)
    have e3 : tI (sI t M 0 0) M 3 = nI tp := (sI_at (by omega)).trans T1
    refine ⟨b1, fun _ => k0 hx, fun a1 => ⟨b1, fun a2 => ?_, fun _ => k0 hx⟩⟩
    rw [e3] at a2
    exact absurd a2 (hx.resolve_left a1)
  have hx0 : ¬ x1 < 0 := fun z => hx (Or.inl z)
  have hx1 : x1 ≤ nI tp := Classical.byContradiction (fun z => hx (Or.inr z))
  obtain ⟨n, hn31, rfl⟩ := nI_of hx0
  have hnt : n ≤ tp := (nI_leI hn31 (by omega)).mp hx1
  have hn : n ≤ 1200 := by omega
  refine cal179b (fun m _ t' => m = 20000 ∧ ∃ q' c V' j, whS b n (wnS b n true) V = .inl (j, c, V') ∧ VS t' M S b n n q' V' c ∧ MWj M S t t' ∧ tR t' = tR t ∧ (tI t' M 0 = 0 ∧ tI t' M 3 = 0) ∧ tI t' (S + 4) 0 = -1)
    (fun m l2 t' => ∃ k t8 q' c V' j, l2 = nI (2400 + k) ∧ m = 15000 - k ∧ 2400 + k ≤ q' ∧ whS b n (wnS b n true) V = .inl (j, c, V') ∧ VS t8 M S b n n q' V' c ∧ MWj M S t t8 ∧ tR t8 = tR t ∧ (tI t8 M 0 = 0 ∧ tI t8 M 3 = 0) ∧ tI t8 (S + 4) 0 = -1 ∧ (tN t' = tN t8 ∧ tU t' = tU t8 ∧ tK t' = tK t8 ∧ tL t' = tL t8 ∧ tR t' = tR t8 ∧ tJ t' = tJ t8) ∧ (∀ y j, (y ≠ M + 3 ∨ k ≤ j) → tI t' y j = tI t8 y j) ∧ (∀ j, j < k → tI t' (M + 3) j = tI t8 (M + 3) (2400 + j)))
    (fun m _ t' => m = 9000 ∧ ∃ t8 q' c V' j, q' ≤ 3600 ∧ whS b n (wnS b n true) V = .inl (j, c, V') ∧ RT t8 S (M + 3) V' c 2400 q' ∧ (tI t8 S 12 = nI c ∧ tI t8 S 13 = nI (mxD V' c) ∧ c ≤ 300) ∧ MWj M S t t' ∧ tR t' = tR t ∧ (tI t' M 0 = 0 ∧ tI t' M 3 = 0) ∧ tI t8 (S + 4) 0 = -1 ∧ tJ t' = tJ t8 ∧ (∀ y j, S ≤ y → y ≤ S + 11 → tI t' y j = tI t8 y j) ∧ (∀ j, 2400 ≤ j → j < q' → tI t' (M + 3) (j - 2400) = tI t8 (M + 3) j))
    (fun m l2 t' => ∃ z t9 t8 q' c V' j, l2 = nI z ∧ m = 5000 - z ∧ z ≤ c ∧ q' ≤ 3600 ∧ whS b n (wnS b n true) V = .inl (j, c, V') ∧ RT t8 S (M + 3) V' c 2400 q' ∧ (tI t8 S 12 = nI c ∧ tI t8 S 13 = nI (mxD V' c) ∧ c ≤ 300) ∧ MWj M S t t9 ∧ tR t9 = tR t ∧ (tI t9 M 0 = 0 ∧ tI t9 M 3 = 0) ∧ tI t8 (S + 4) 0 = -1 ∧ tJ t9 = tJ t8 ∧ (∀ y j, S ≤ y → y ≤ S + 11 → tI t9 y j = tI t8 y j) ∧ (∀ j, 2400 ≤ j → j < q' → tI t9 (M + 3) (j - 2400) = tI t8 (M + 3) j) ∧ (tN t' = tN t9 ∧ tU t' = tU t9 ∧ tK t' = tK t9 ∧ tL t' = tL t9 ∧ tR t' = tR t9 ∧ tJ t' = tJ t9) ∧ (∀ y j, ((y ≠ S + 9 ∧ y ≠ S + 10) ∨ z ≤ j) → tI t' y j = tI t9 y j) ∧ (∀ j, j < z → tI t' (S + 9) j = tI t9 (S + 9) j - nI 2400 ∧ tI t' (S + 10) j = tI t9 (S + 10) j - nI 2400))
    (fun m _ t' => m = 1 ∧ ∃ c V' j, whS b n (wnS b n true) V = .inl (j, c, V') ∧ MWj M S t t' ∧ tR t' = tR t ∧ (tI t' M 0 = 0 ∧ tI t' M 3 = 0) ∧ (tI t' S 12 = nI c ∧ tI t' S 13 = nI (mxD V' c) ∧ c ≤ 300) ∧ RT t' S (M + 3) V' c 0 1200 ∧ tI t' (S + 4) 0 = -1) ?_ ?_ ?_ ?_ ?_ ?_
  · have e3 : tI (sI t M 0 0) M 3 = nI tp := (sI_at (by omega)).trans T1
    refine ⟨b1, fun a1 => absurd a1 hx0, fun a1 => ⟨b1, fun a2 => ?_, fun a2 => by rw [e3] at a2; exact absurd hx1 a2⟩⟩
    refine ⟨b1, b1, b1, b1, b1, onS hr11 ⟨hk15, b1, onS hr11 ⟨hk15, b1, ?_⟩⟩⟩
    have W1 : MWj M S t (sI (sI (sI (sI (sI (sI (sI t M 0 0) M 3 0) M 4 (nI n)) M 5 0) M 7 2400) S 12 0) S 13 0) := ((((((MWj.I (by omega)).trans (MWj.I (by omega))).trans (MWj.I (by omega))).trans (MWj.I (by omega))).trans (MWj.I (by omega))).trans (MWj.I (by omega))).trans (MWj.I (by omega))
    have p1 : VS (sI (sI (sI (sI (sI (sI (sI t M 0 0) M 3 0) M 4 (nI n)) M 5 0) M 7 2400) S 12 0) S 13 0) M S b n 0 2400 V 0 := by
      refine ⟨⟨⟨b1, b2, b3, b4, b5, b6, ?_, ?_, hn, by omega, T3, fun k hk => ?_⟩, b7, b8, b9, ?_⟩, by omega, hS.eq rfl rfl rfl, fun j hj => by omega, ⟨?_, ?_, by omega⟩, by omega, by omega⟩
      · simp [ht, hn1]
      · simp [ht, hn1]; rfl
      · have := T4 k (by omega)
        simpa [ht, hn3] using this
      · simp [ht, hn1]; rfl
      · simp [ht]; rfl
      · simp [ht]; rfl
    have c03 : tI (sI (sI (sI (sI (sI (sI (sI t M 0 0) M 3 0) M 4 (nI n)) M 5 0) M 7 2400) S 12 0) S 13 0) M 0 = 0 ∧ tI (sI (sI (sI (sI (sI (sI (sI t M 0 0) M 3 0) M 4 (nI n)) M 5 0) M 7 2400) S 12 0) S 13 0) M 3 = 0 ∧ tI (sI (sI (sI (sI (sI (sI (sI t M 0 0) M 3 0) M 4 (nI n)) M 5 0) M 7 2400) S 12 0) S 13 0) M 12 = tI t M 12 ∧ tI (sI (sI (sI (sI (sI (sI (sI t M 0 0) M 3 0) M 4 (nI n)) M 5 0) M 7 2400) S 12 0) S 13 0) M 24 = tI t M 24 := by
      refine ⟨?_, ?_, ?_, ?_⟩ <;> simp [ht, hn1]
    have cch : ∀ k, tI (sI (sI (sI (sI (sI (sI (sI t M 0 0) M 3 0) M 4 (nI n)) M 5 0) M 7 2400) S 12 0) S 13 0) (M + 3) k = tI t (M + 3) k := fun k => by simp [ht, hn4]
    have R1 : tR (sI (sI (sI (sI (sI (sI (sI t M 0 0) M 3 0) M 4 (nI n)) M 5 0) M 7 2400) S 12 0) S 13 0) = tR t := rfl
    revert W1 p1 c03 cch R1
    generalize sI (sI (sI (sI (sI (sI (sI t M 0 0) M 3 0) M 4 (nI n)) M 5 0) M 7 2400) S 12 0) S 13 0 = t1
    intro W1 p1 c03 cch R1
    have told : ∀ w p t', whS b n (wnS b n true) V = .inr (w, p) → FZ M S t1 t' w p → 16 = 16 ∧ tK t' (M + 1) = 16 ∧ tK t' (M + 1) = 16 ∧ tK t' M = 17 ∧ CalG C mtab (E + 71) 178 [svR (some M), svI (tI t' (M + 1) 6), svI (tI t' (M + 1) 7)] t' (aftV (fun v40 t41 => rI v40 (fun x45 => Post (.inl (some (svI x45))) t41)) (fun k42 q43 t44 => Post (.inr (k42, q43)) t44)) := fun w p t' e hF =>
      mjTold p1.1.1.1 p1.1.1.2.2.1 hF (fun t2 g1 g2 g3 g4 g5 g6 => k1 n hnt rfl w p e t2 (W1.trans g1) (g2.trans R1) ⟨g3, g4, (g6 0 (by omega)).trans c03.1, (g6 3 (by omega)).trans c03.2.1, (g6 12 (by omega)).trans c03.2.2.1, (g6 24 (by omega)).trans c03.2.2.2⟩ (fun k hk => (g5 k hk).trans (cch k))) hP
    refine mBl p1 (fun p2 x2 => ⟨rfl, p2.1.1.1, ?_⟩)
    have z2 : MZ M S t1 (sI t1 M 5 (nI (sk b n 0))) := MZ.x x2 (Nat.le_refl _)
    have hsk0 := sk_le (b := b) (n := n) (i := 0) (by omega)
    have hd : P174 C M S b n (E + 1 + 10 + 2 * 30) 30 := m174all 30 (by omega) (E + 1)
    rw [show E + 1 + 10 + 2 * 30 = E + 71 by omega] at hd
    refine hd _ _ _ 0 2400 V none p2 (fun p e => by cases e) (fun j c V' e t3 q' p3 hq' a3 z3 e4 => ⟨p3.1.1.1, mBl p3 (fun p4 x4 => ⟨rfl, p4.1.1.1, p4.1.1.1, ?_⟩)⟩) (fun w p hF t3 f3 => ?_)
    · have hjn := p3.2.1
      have slo := sk_lo (b := b) (n := n) (i := j)
      have hq2 := p3.2.2.2.2.2
      have z4 : MZ M S t1 (sI t3 M 5 (nI (sk b n j))) := (z2.trans z3).trans (MZ.x x4 (by omega))
      have hsp : whS b n (wnS b n true) V = if sk b n j < n then .inr (1, sk b n j) else .inl (sk b n j, c, V') := by unfold whS; rw [e]
      have hM4 : tI (sI t3 M 5 (nI (sk b n j))) M 4 = nI n := p4.1.1.2.2.2.2.2.2.1
      have hM5 : tI (sI t3 M 5 (nI (sk b n j))) M 5 = nI (sk b n j) := p4.1.1.2.2.2.2.2.2.2.1
      have hsj := sk_le (b := b) hjn
      rw [hM4, hM5]
      refine ⟨fun a3' => ⟨20000, rfl, rfl, rfl, q', c, V', sk b n j, ?_, ?_, W1.trans (MWj.z z4), z4.2.2.2.2.1.trans R1, ⟨?_, ?_⟩, ?_⟩, fun a3' => ⟨p4.1.1.1, ?_⟩⟩
      · have : n ≤ sk b n j := (nI_leI (by omega) (by omega)).mp a3'
        rw [hsp, if_neg (by omega)]
      · have : n ≤ sk b n j := (nI_leI (by omega) (by omega)).mp a3'
        have en : sk b n j = n := by omega
        rw [en] at p4 ⊢
        exact p4
      · rw [z4.2.2.2.2.2.2 M 0 (by omega) (by omega) (by omega) (by omega)]; exact c03.1
      · rw [z4.2.2.2.2.2.2 M 3 (by omega) (by omega) (by omega) (by omega)]; exact c03.2.1
      · rw [sI_at (by omega)]; exact e4
      · have hlt : sk b n j < n := by
          rcases Nat.lt_or_ge (sk b n j) n with w | w
          · exact w
          · exact absurd ((nI_leI (by omega) (by omega)).mpr w) a3'
        rw [if_pos hlt] at hsp
        refine c158 (s := M + 1) p4.1.1.1 p4.1.1.2.1 p4.1.1.2.2.1 ⟨p4.1.1.2.2.1, ?_⟩
        refine told 1 (sk b n j) _ hsp (FZ.of z4 ?_)
        rw [hM5]
        exact FZ.mb
    · refine told w p t3 ?_ (FZ.of z2 f3)
      rcases hF with hF | ⟨rfl, c', V', hF, hdg⟩
      · unfold whS; rw [hF]
      · unfold whS
        rw [hF]
        obtain ⟨d1, d2, -⟩ := dgt_sk hdg
        show (if sk b n p < n then _ else _) = _
        rw [d1, if_pos d2]
  · rintro m l2 t' ⟨rfl, q', c, V', j, e, p8, W8, R8, m8, e4⟩
    exact ⟨15000, by omega, rfl, rfl, 0, t', q', c, V', j, rfl, rfl, by have := p8.2.2.2.2.2; omega, e, p8, W8, R8, m8, e4, ⟨rfl, rfl, rfl, rfl, rfl, rfl⟩, fun _ _ _ => rfl, fun j hj => by omega⟩
  · rintro m l2 t' ⟨k, t8, q', c, V', j, rfl, rfl, hk, e, p8, W8, R8, m8, e4, ⟨u1, u2, u3, u4, u5, u6⟩, f1, f2⟩
    have hq8 := p8.2.2.2.2.2
    have K' : tK t' M = 17 := by rw [u3]; exact p8.1.1.1
    have e7 : tI t' M 7 = nI q' := (f1 M 7 (by omega)).trans p8.1.2.2.2.2
    refine ⟨K', fun a1 => ?_, fun a1 => ⟨K', K', ?_⟩⟩
    · have hkq : q' = 2400 + k := by
        rw [e7] at a1
        have := (nI_leI (by omega) (by omega)).mp a1
        omega
      have W9 : MWj M S t8 t' := ⟨u1, u2, u3, u4, fun x k _ => by rw [u5], fun x k _ _ => by rw [u6], fun x k z1 z2 z3 z4 => f1 x k (by omega)⟩
      refine ⟨9000, by omega, rfl, rfl, rfl, t8, q', c, V', j, by omega, e, p8.2.2.2.1, p8.2.2.2.2.1, W8.trans W9, u5.trans R8, ⟨(f1 _ _ (by omega)).trans m8.1, (f1 _ _ (by omega)).trans m8.2⟩, e4, u6, fun y j h1 h2 => f1 _ _ (by omega), fun j hj hj2 => ?_⟩
      have := f2 (j - 2400) (by omega)
      rw [show 2400 + (j - 2400) = j by omega] at this
      exact this
    · have hkq : 2400 + k < q' := by
        rcases Nat.lt_or_ge (2400 + k) q' with w | w
        · exact w
        · exact absurd (by rw [e7]; exact (nI_leI (by omega) (by omega)).mpr w) a1
      have r6 : tR t' M 6 = some (M + 3) := by rw [u5]; exact p8.1.2.1
      have k6 : tK t' (M + 3) = 101 := by rw [u3]; exact p8.1.2.2.1
      have l6 : tL t' (M + 3) = 4800 := by rw [u4]; exact p8.1.2.2.2.1
      have c1 : (nI (2400 + k)).toNatClampNeg = 2400 + k := nI_clamp (by omega)
      have e2400 : nI (2400 + k) - (2400 : Int32) = nI k := by
        have := nI_sub (p := 2400 + k) (s := 2400) (by omega)
        rw [show 2400 + k - 2400 = k by omega] at this
        exact this
      have c2 : (nI k).toNatClampNeg = k := nI_clamp (by omega)
      rw [e2400]
      refine onS r6 ⟨k6, by rw [l6]; exact vp_in_nI (by omega) (by decide), onS r6 ⟨k6, by rw [l6]; exact vp_in_nI (by omega) (by decide), ?_⟩⟩
      rw [c1, c2, nI_1]
      refine ⟨15000 - (k + 1), by omega, rfl, rfl, k + 1, t8, q', c, V', j, rfl, rfl, by omega, e, p8, W8, R8, m8, e4, ⟨u1, u2, u3, u4, u5, u6⟩, fun y j hy => ?_, fun j hj => ?_⟩
      · rw [sI_at (by omega)]; exact f1 y j (by omega)
      · by_cases ejk : j = k
        · subst ejk
          rw [sI_eq]; exact f1 _ _ (by omega)
        · rw [sI_at (by omega)]; exact f2 j (by omega)
  · rintro m l2 t' ⟨rfl, t8, q', c, V', j, hq3, e, hR, hS3, W9, R9, m9, e4, uJ, fS, fc⟩
    exact ⟨5000, by omega, rfl, rfl, 0, t', t8, q', c, V', j, rfl, rfl, by omega, hq3, e, hR, hS3, W9, R9, m9, e4, uJ, fS, fc, ⟨rfl, rfl, rfl, rfl, rfl, rfl⟩, fun _ _ _ => rfl, fun j hj => by omega⟩
  · rintro m l2 t' ⟨z, t9, t8, q', c, V', j, rfl, rfl, hzc, hq3, e, hR, ⟨s12, s13, hc3⟩, W9, R9, m9, e4, uJ, fS, fc, ⟨u1, u2, u3, u4, u5, u6⟩, f1, f2⟩
    have K' : tK t' M = 17 := by rw [u3, W9.2.2.1]; exact b1
    have r11 : tR t' M 11 = some S := by rw [u5, R9]; exact hr11
    have kS : tK t' S = 15 := by rw [u3, W9.2.2.1]; exact hk15
    have e12 : tI t' S 12 = nI c := ((f1 S 12 (by omega)).trans (fS S 12 (by omega) (by omega))).trans s12
    refine ⟨K', onS r11 ⟨kS, fun a1 => ?_, fun a1 => ⟨K', ?_⟩⟩⟩
    · have hzc' : z = c := by
        rw [e12] at a1
        have := (nI_leI (by omega) (by omega)).mp a1
        omega
      subst hzc'
      have Wt : MWj M S t9 t' := ⟨u1, u2, u3, u4, fun x k _ => by rw [u5], fun x k _ _ => by rw [u6], fun x k z1 z2 z3 z4 => f1 x k (by omega)⟩
      refine ⟨1, by omega, rfl, rfl, rfl, z, V', j, e, W9.trans Wt, u5.trans R9, ⟨(f1 _ _ (by omega)).trans m9.1, (f1 _ _ (by omega)).trans m9.2⟩, ⟨e12, ((f1 S 13 (by omega)).trans (fS S 13 (by omega) (by omega))).trans s13, hc3⟩, hR.mv (fun k j h1 h2 h3 h4 hj => (f1 _ _ (by omega)).trans (fS _ _ (by omega) (by omega))) (fun j hj => ?_) (fun j hj => ?_) (fun j hj => by rw [u6, uJ]) hq3 (fun j h1 h2 => (f1 _ _ (by omega)).trans (fc j h1 h2)), ((f1 _ _ (by omega)).trans (fS _ _ (by omega) (by omega))).trans e4⟩
      · rw [(f2 j hj).1, fS _ _ (by omega) (by omega)]
      · rw [(f2 j hj).2, fS _ _ (by omega) (by omega)]
    · have hzc' : z < c := by
        rcases Nat.lt_or_ge z c with w | w
        · exact w
        · exact absurd (by rw [e12]; exact (nI_leI (by omega) (by omega)).mpr w) a1
      have ar : ∀ k, k < 11 → tR t' S k = some (S + 1 + k) ∧ tK t' (S + 1 + k) = 101 ∧ tL t' (S + 1 + k) = 300 := fun k hk => ⟨by rw [u5, R9]; exact (hS.2.2.2.2.1 k (by omega)).1, by rw [u3, W9.2.2.1]; exact hS.2.2.2.2.2.1 k hk, by rw [u4, W9.2.2.2.1]; exact (hS.2.2.2.2.1 k (by omega)).2⟩
      have a8 : tR t' S 8 = some (S + 9) ∧ tK t' (S + 9) = 101 ∧ tL t' (S + 9) = 300 := ar 8 (by omega)
      have a9 : tR t' S 9 = some (S + 10) ∧ tK t' (S + 10) = 101 ∧ tL t' (S + 10) = 300 := ar 9 (by omega)
      have vz : vp_in (nI z) 300 := vp_in_nI (by omega) (by decide)
      have cz : (nI z).toNatClampNeg = z := nI_clamp (by omega)
      refine onS r11 ⟨kS, onS a8.1 ⟨a8.2.1, by rw [a8.2.2]; exact vz, onS a8.1 ⟨a8.2.1, by rw [a8.2.2]; exact vz, K', onS r11 ⟨kS, onS a9.1 ⟨a9.2.1, ?_, onS a9.1 ⟨a9.2.1, ?_, ?_⟩⟩⟩⟩⟩⟩
      · show vp_in (nI z) (tL t' (S + 10)); rw [a9.2.2]; exact vz
      · show vp_in (nI z) (tL t' (S + 10)); rw [a9.2.2]; exact vz
      rw [cz, nI_1, sI_at (by omega)]
      refine ⟨5000 - (z + 1), by omega, rfl, rfl, z + 1, t9, t8, q', c, V', j, rfl, rfl, by omega, hq3, e, hR, ⟨s12, s13, hc3⟩, W9, R9, m9, e4, uJ, fS, fc, ⟨u1, u2, u3, u4, u5, u6⟩, fun y j hy => ?_, fun j hj => ?_⟩
      · rw [sI_at (by omega), sI_at (by omega)]; exact f1 y j (by omega)
      · by_cases ej : j = z
        · subst ej
          refine ⟨?_, ?_⟩
          · rw [sI_at (by omega), sI_eq, f1 _ _ (by omega)]; rfl
          · rw [sI_eq, f1 _ _ (by omega)]; rfl
        · rw [sI_at (by omega), sI_at (by omega), sI_at (by omega), sI_at (by omega)]; exact f2 j (by omega)
  · rintro m l2 t' ⟨rfl, c, V', j, e, W9, R9, m9, s9, hR, e4⟩
    have K' : tK t' M = 17 := by rw [W9.2.2.1]; exact b1
    have r11 : tR t' M 11 = some S := by rw [R9]; exact hr11
    have r10 : tR t' M 10 = some S' := by rw [R9]; exact hS'
    refine ⟨K', K', K', K', K', Or.inr rfl, K', K', c178 K' ?_⟩
    rw [r11, r10]
    have fin : ∀ t10, t10 = sI (sI (sI (sI (sR (sR t' M 10 (some S)) M 11 (some S')) M 12 1) M 24 0) M 14 0) M 15 (-1) → Post (.inl (some (svI (0 : Int32)))) t10 := by
      intro t10 ht10
      have Wf : MWj M S t' t10 := by
        rw [ht10]
        exact (((((MWj.R (Or.inl rfl)).trans (MWj.R (Or.inr rfl))).trans (MWj.I (by omega))).trans (MWj.I (by omega))).trans (MWj.I (by omega))).trans (MWj.I (by omega))
      have iP : ∀ y j, (y ≠ M ∨ (j ≠ 12 ∧ j ≠ 24 ∧ j ≠ 14 ∧ j ≠ 15)) → tI t10 y j = tI t' y j := fun y j hy => by
        rw [ht10, sI_at (by omega), sI_at (by omega), sI_at (by omega), sI_at (by omega)]; rfl
      have jP : tJ t10 = tJ t' := by rw [ht10]; rfl
      refine k2 n hnt rfl j c V' e t10 (W9.trans Wf) ⟨?_, ?_⟩ ⟨?_, ?_, ?_, ?_, ?_, ?_⟩ ⟨?_, ?_, s9.2.2⟩ ?_ ?_
      · rw [ht10]; show tR (sR (sR t' M 10 (some S)) M 11 (some S')) M 10 = _; rw [sR_at (by omega)]; exact sR_eq
      · rw [ht10]; show tR (sR (sR t' M 10 (some S)) M 11 (some S')) M 11 = _; exact sR_eq
      · rw [ht10, sI_at (by omega)]; exact sI_eq
      · rw [ht10]; exact sI_eq
      · rw [iP _ _ (by omega)]; exact m9.1
      · rw [iP _ _ (by omega)]; exact m9.2
      · rw [ht10, sI_at (by omega), sI_at (by omega), sI_at (by omega)]; exact sI_eq
      · rw [ht10, sI_at (by omega), sI_at (by omega)]; exact sI_eq
      · rw [iP _ _ (by omega)]; exact s9.1
      · rw [iP _ _ (by omega)]; exact s9.2.1
      · exact hR.to ⟨fun k j h1 h2 hj => iP _ _ (by omega), fun j hj => by rw [jP], fun k _ => iP _ _ (by omega)⟩ (Nat.le_refl _)
      · rw [iP _ _ (by omega)]; exact e4
    exact fin _ rfl
end MJS
