/-! THE STATE OF THE COMPONENT'S READING OF A VALUE, over the heap t0 at its start -/
def VF (vr r ch : Nat) (t0 t : Ht) : Prop := tN t0 ≤ tN t ∧ ∀ x, x < tN t0 → tK t x = tK t0 x ∧ tL t x = tL t0 x ∧ (∀ k, tJ t x k = tJ t0 x k) ∧ (∀ k, (x ≠ vr ∨ k ≠ 2) → tR t x k = tR t0 x k) ∧ (∀ k, x ≠ ch → (x ≠ r ∨ (k ≠ 2 ∧ k ≠ 4 ∧ k ≠ 5 ∧ k ≠ 6)) → (x ≠ vr ∨ k ≠ 1) → tI t x k = tI t0 x k)
def FV (vr r ch : Nat) (t0 t : Ht) (w p : Nat) : Prop := VF vr r ch t0 t ∧ tI t r 5 = nI w ∧ tI t r 6 = nI p
def CV (C : Cx) (t0 t : Ht) (vr r tp ch : Nat) (b : By) (n i : Nat) (G : GT) (V : VT) (c : Nat) : Prop :=
  RB t r tp ch b n i ∧ i ≤ n ∧ (tK t vr = 12 ∧ tR t vr 0 = some r ∧ tI t vr 1 = nI c ∧ tR t vr 2 = (if c = 0 then none else some (gA G (c - 1)))) ∧ (vr < tN t0 ∧ r < tN t0 ∧ ch < tN t0 ∧ tp < tN t0) ∧ VF vr r ch t0 t ∧ NV C (tN t0) t G V c ∧ (tI t r 5 = tI t0 r 5 ∧ tI t r 6 = tI t0 r 6)
section CVs
variable {C : Cx} {d : Nat} {Post : OutT → Ht → Prop} {t0 t t' : Ht} {vr r tp ch : Nat} {b : By} {n i : Nat} {G : GT} {V : VT} {c : Nat}
theorem VF.rfl' : VF vr r ch t t := ⟨Nat.le_refl _, fun _ _ => ⟨rfl, rfl, fun _ => rfl, fun _ _ => rfl, fun _ _ _ _ => rfl⟩⟩
theorem VF.ry (h : VF vr r ch t0 t) (hx : RY r ch t t') : VF vr r ch t0 t' := by
  refine ⟨by have := h.1; have := hx.1; omega, fun x hx0 => ?_⟩
  obtain ⟨h1, h2, h3, h4, h5⟩ := h.2 x hx0
  have hxt : x < tN t := by have := h.1; omega
  obtain ⟨g1, g2, g3, g4⟩ := hx.2.1 x hxt
  exact ⟨g1.trans h1, g2.trans h2, fun k => (g4 k).trans (h3 k), fun k z => (g3 k).trans (h4 k z), fun k z1 z2 z3 => (hx.2.2 x k hxt z1 z2).trans (h5 k z1 z2 z3)⟩
theorem VF.old (h : VF vr r ch t0 t) (hN : tN t ≤ tN t') (hs : ∀ x, x < tN t0 → sameAt t t' x) : VF vr r ch t0 t' := by
  refine ⟨by have := h.1; omega, fun x hx0 => ?_⟩
  obtain ⟨h1, h2, h3, h4, h5⟩ := h.2 x hx0
  obtain ⟨g1, g2, g3, g4, g5⟩ := hs x hx0
  exact ⟨g1.trans h1, g2.trans h2, fun k => (g4 k).trans (h3 k), fun k z => (g5 k).trans (h4 k z), fun k z1 z2 z3 => (g3 k).trans (h5 k z1 z2 z3)⟩
theorem RX.same (hx : RX r ch t t') {x : Nat} (h1 : x < tN t) (h2 : x ≠ r) (h3 : x ≠ ch) : sameAt t t' x := by
  obtain ⟨g1, g2, g3, g4⟩ := hx.2.1 x h1
  exact ⟨g1, g2, fun k => hx.2.2 x k h1 h3 (Or.inl h2), g4, g3⟩
theorem CV.ne (h : CV C t0 t vr r tp ch b n i G V c) : vr ≠ r ∧ vr ≠ ch ∧ r ≠ ch ∧ vr ≠ tp := by
  obtain ⟨hB, -, ⟨v1, -⟩, -⟩ := h
  refine ⟨fun e => ?_, fun e => ?_, hB.ne.1, fun e => ?_⟩
  · rw [e, hB.1.1] at v1; cases v1
  · rw [e, hB.2.2.1] at v1; cases v1
  · rw [e, hB.1.2.2.1] at v1; cases v1
/-- the reader has gone on -/
theorem CV.rx {j : Nat} (h : CV C t0 t vr r tp ch b n i G V c) (hx : RX r ch t t') (hj : tI t' r 4 = nI j) (hjn : j ≤ n) : CV C t0 t' vr r tp ch b n j G V c := by
  obtain ⟨n1, n2, n3, n4⟩ := h.ne
  obtain ⟨hB, hi, ⟨v1, v2, v3, v4⟩, ⟨o1, o2, o3, o4⟩, hF, hV, f1, f2⟩ := h
  have hn : n ≤ 1200 := hB.1.2.2.2.2.2.2.1
  have hN := hF.1
  have sv := hx.same (x := vr) (by omega) n1 n2
  refine ⟨hB.x hx hj (by omega), hjn, ⟨sv.1.trans v1, (sv.2.2.2.2 0).trans v2, (sv.2.2.1 1).trans v3, (sv.2.2.2.2 2).trans v4⟩, ⟨o1, o2, o3, o4⟩, hF.ry hx.y, hV.frame hx.1 (fun x x1 x2 _ => hx.same x2 (by omega) (by omega)), ?_, ?_⟩
  · exact (hx.2.2 r 5 (by omega) n3 (Or.inr (by decide))).trans f1
  · exact (hx.2.2 r 6 (by omega) n3 (Or.inr (by decide))).trans f2
theorem CV.to {j : Nat} (h : CV C t0 t vr r tp ch b n i G V c) (hj : j ≤ n) : CV C t0 (sI t r 4 (nI j)) vr r tp ch b n j G V c := h.rx (RX.I (Or.inr rfl)) (by simp [ht]) hj
/-- cells that were there at the start are not touched -/
theorem CV.old {G' : GT} {V' : VT} (h : CV C t0 t vr r tp ch b n i G V c) (hN : tN t ≤ tN t') (hs : ∀ x, x < tN t0 → sameAt t t' x) (hV : NV C (tN t0) t' G' V' c) (hA : ∀ j, j < c → gA G' j = gA G j) : CV C t0 t' vr r tp ch b n i G' V' c := by
  obtain ⟨hB, hi, ⟨v1, v2, v3, v4⟩, ⟨o1, o2, o3, o4⟩, hF, -, f1, f2⟩ := h
  have sv := hs vr o1
  have sr := hs r o2
  have sc := hs ch o3
  have st := hs tp o4
  obtain ⟨⟨g1, g2, g3, g4, g5, g6, g7, g8, g9, g10⟩, g11, g12, g13, g14, g15, g16⟩ := hB
  refine ⟨⟨⟨sr.1.trans g1, (sr.2.2.2.2 0).trans g2, st.1.trans g3, st.2.1.trans g4, (sr.2.2.1 3).trans g5, (sr.2.2.1 4).trans g6, g7, g8, g9, fun k hk => by rw [st.2.2.1 k]; exact g10 k hk⟩, (sr.2.2.2.2 1).trans g11, sc.1.trans g12, sc.2.1.trans g13, by omega, by omega, by omega⟩, hi, ⟨sv.1.trans v1, (sv.2.2.2.2 0).trans v2, (sv.2.2.1 1).trans v3, ?_⟩, ⟨o1, o2, o3, o4⟩, hF.old hN hs, hV, (sr.2.2.1 5).trans f1, (sr.2.2.1 6).trans f2⟩
  rw [sv.2.2.2.2 2, v4]
  by_cases e : c = 0
  · rw [if_pos e, if_pos e]
  · rw [if_neg e, if_neg e, hA _ (by omega)]
theorem RY.sub {t1 : Ht} (h : RX r ch t t1) (g : RY r ch t1 t') : RY r ch t t' := h.y.trans g
/-- a fault is told -/
theorem CV.bad {w p : Nat} {t1 : Ht} (h : CV C t0 t vr r tp ch b n i G V c) (hx : RX r ch t t1) (hN : tN t1 = tN t) (hU : tU t1 = tU t) : FV vr r ch t0 (flH t1 r (nI w) (nI p)) w p ∧ tN (flH t1 r (nI w) (nI p)) = tN t + 1 ∧ tU (flH t1 r (nI w) (nI p)) = tU t + 6 := by
  obtain ⟨g1, g2, g3, g4, g5⟩ := BD.fl (w := w) (p := p) hx hN hU h.1.2.2.2.2.2.1
  exact ⟨⟨h.2.2.2.2.1.ry g1, g4, g5⟩, g2, g3⟩
theorem lNneg_toInt {N : Nat} (h : N < 2 ^ 62) : (-(lN N)).toInt = -(N : Int) := by
  rw [Int64.toInt_neg, pk_lT (by omega)]
  rw [Int.bmod_eq_of_le] <;> omega
theorem f145_c (m : Bool) (N : Nat) : f145 (sgC m N) = bI (decide (9007199254740991 < N)) := by
  have hmin : min N 9007199254740992 < 2 ^ 62 := by omega
  have e1 : (9007199254740991 : Int64).toInt = 9007199254740991 := by decide
  have e2 : (-9007199254740991 : Int64).toInt = -9007199254740991 := by decide
  unfold f145
  simp only [lg_cmp_gt, lg_cmp_ge, Int64.lt_iff_toInt_lt, Int64.le_iff_toInt_le, e1, e2]
  unfold sgC
  cases m with
  | true =>
    simp only [if_true]
    rw [lNneg_toInt hmin]
    by_cases h : 9007199254740991 < N
    · rw [if_neg (by omega), if_neg (by omega)]; simp [h, bI]
    · rw [if_neg (by omega), if_pos (by omega)]; simp [h, bI]
  | false =>
    simp only [Bool.false_eq_true, if_false]
    rw [pk_lT (by omega)]
    by_cases h : 9007199254740991 < N
    · rw [if_pos (by omega)]; simp [h, bI]
    · rw [if_neg (by omega), if_pos (by omega)]; simp [h, bI]
theorem sgC_R {m : Bool} {N : Nat} (h : N ≤ 9007199254740991) : sgC m N = sgR m N := by
  unfold sgC sgR
  rw [Nat.min_eq_left (by omega)]
/-- readInt -/
theorem r123 (h : CV C t0 t vr r tp ch b n i G V c) (k1 : ∀ j m N, wnS b n true i = .inl (j, m, N) → N ≤ 9007199254740991 → Post (.inl (some (svJ (sgR m N)))) (sI t r 4 (nI j)))
    (k2 : ∀ j m N, wnS b n true i = .inl (j, m, N) → 9007199254740991 < N → Post (.inr (200, 0)) (flH (sI t r 4 (nI j)) r 3 (nI i))) (k3 : ∀ p, wnS b n true i = .inr p → Post (.inr (200, 0)) (flP t r p)) : CalG C mtab (d + 3) 123 [svR (some vr)] t Post := by
  obtain ⟨n1, n2, n3, n4⟩ := h.ne
  have hK := h.1.1.1
  have hv := h.2.2.1
  refine cal123 ?_
  unfold vc123
  rw [hv.2.1]
  refine ⟨hv.1, hK, hv.1, hK, r92 (mz := true) h.1.1 h.2.1 (fun j m N e => p145 ?_) k3⟩
  rw [f145_c]
  have e0 : tR (sI t r 4 (nI j)) vr 0 = some r := hv.2.1
  refine ⟨fun z => ?_, fun z => ⟨hv.1, ?_⟩⟩
  · have := bI_0.mp z
    simp at this
    show Post (.inl (some (svJ (sgC m N)))) _
    rw [sgC_R this]; exact k1 j m N e this
  · have hb : 9007199254740991 < N := by
      by_cases y : 9007199254740991 < N
      · exact y
      · exact absurd (by simp [y, bI]) z
    rw [e0, h.1.1.2.2.2.2.2.1]
    exact ⟨hK, c83 hK (k2 j m N e hb)⟩
/-- takesEmpty -/
theorem r124 {x : Int32} (hx : ¬ x < 0) (h : CV C t0 t vr r tp ch b n i G V c) (hi : i < n) (k1 : pk b n (sk b n (i + 1)) = x → Post (.inl (some (svI 1))) (sI t r 4 (nI (sk b n (i + 1) + 1)))) (k2 : ¬ pk b n (sk b n (i + 1)) = x → Post (.inl (some (svI 0))) (sI t r 4 (nI (sk b n (i + 1))))) : CalG C mtab (d + 4) 124 [svR (some vr), svI x] t Post := by
  have hK := h.1.1.1
  have hv := h.2.2.1
  have hs := sk_le (b := b) (n := n) (i := i + 1) (by omega)
  refine cal124 ?_
  unfold vc124
  rw [hv.2.1]
  have h1 := h.to (j := i + 1) (by omega)
  have h2 := h.to hs
  refine ⟨hv.1, hK, hK, ?_⟩
  rw [h.1.1.2.2.2.2.2.1, nI_1]
  refine ⟨hv.1, ?_⟩
  rw [show tR (sI t r 4 (nI (i + 1))) vr 0 = some r from hv.2.1]
  refine ⟨hK, r87 h1.1.1 h1.2.1 ⟨rfl, hv.1, ?_⟩⟩
  rw [sI_sI, show tR (sI t r 4 (nI (sk b n (i + 1)))) vr 0 = some r from hv.2.1]
  refine ⟨hK, r85 h2.1.1 ⟨fun e => ⟨hv.1, ?_⟩, fun e => ⟨Or.inl rfl, k2 e⟩⟩⟩
  rw [show tR (sI t r 4 (nI (sk b n (i + 1)))) vr 0 = some r from hv.2.1]
  refine ⟨hK, hK, Or.inr rfl, ?_⟩
  rw [h2.1.1.2.2.2.2.2.1, nI_1, sI_sI]
  exact k1 e
end CVs
