/-! readSegment -/
/-- what of a path changes when it gets one more segment -/
def pX (p lp c e : Nat) : List Nat := p :: lp :: (if 0 < c then [e] else [])
theorem nX {p lp c e x : Nat} (h1 : x ≠ p) (h2 : x ≠ lp) (h3 : 0 < c → x ≠ e) : x ∉ pX p lp c e := by
  unfold pX
  intro z
  rcases List.mem_cons.mp z with z | z
  · exact h1 z
  rcases List.mem_cons.mp z with z | z
  · exact h2 z
  · by_cases hc : 0 < c
    · rw [if_pos hc] at z; exact h3 hc (List.mem_singleton.mp z)
    · rw [if_neg hc] at z; cases z
theorem nX_ {p lp c e x : Nat} (h : x ∉ pX p lp c e) : x ≠ p ∧ x ≠ lp ∧ (0 < c → x ≠ e) := by
  unfold pX at h
  refine ⟨fun z => h (by simp [z]), fun z => h (by simp [z]), fun hc z => h ?_⟩
  rw [if_pos hc]; simp [z]
def KG (C : Cx) (qr r tp ch : Nat) (b : By) (n o : Nat) (t : Ht) (p lp c e : Nat) (us : List Nat) (s0 : Bool) (i : Nat) (L : LT) (sp : (Nat × LT × QF × Bool) ⊕ (Nat × Nat)) (Post : OutT → Ht → Prop) : Prop :=
  (∀ j L' y s, sp = .inl (j, L', y, s) → ∀ t' c' e', CQ t' qr r tp ch b n j o L' → QXe (pX p lp c e) qr r ch t t' → LsA C t' lp (us ++ [tN t]) c' e' → 2 * c' ≤ 3 * (us.length + 1) + 20 → 0 < c' → ((0 < c ∧ e' = e) ∨ (tN t ≤ e' ∧ e' < tN t')) → (tI t' p 2 = bI (s0 && s) ∧ tI t' p 0 = tI t p 0 ∧ tR t' p 1 = some lp ∧ tK t' p = 5) → tK t' (tN t) = 9 → tN t < tN t' → (L'.1 = 0 → L.1 = 0 ∧ QR C t' y 1 [] (fun z => rg (tN t) (tN t') z ∧ z ≠ e') [tN t] false) → i < j → BG t t' (j - i) 50 30 → Post (.inl none) t') ∧
  (∀ w q, sp = .inr (w, q) → ∀ t', QDe (pX p lp c e) qr r ch t t' w q → BG t t' (n + 1 - i) 50 30 → Post (.inr (200, 0)) t')
/-- the state of a segment: its cells are made and it hangs; d says whether it is deep -/
def SGm (C : Cx) (qr r tp ch : Nat) (b : By) (n o : Nat) (t t' : Ht) (p lp c e : Nat) (us : List Nat) (s0 : Bool) (L : LT) (d k c' e' : Nat) : Prop :=
  CQ t' qr r tp ch b n k o L ∧ QXe (pX p lp c e) qr r ch t t' ∧ (LsA C t' lp (us ++ [tN t]) c' e' ∧ 2 * c' ≤ 3 * (us.length + 1) + 20 ∧ 0 < c') ∧ ((0 < c ∧ e' = e ∧ e < tN t) ∨ e' = tN t + 2) ∧ (e' < tN t' ∧ tN t + 2 ≤ tN t' ∧ tN t' ≤ tN t + 3 ∧ tU t' ≤ tU t + 915) ∧ (tK t' (tN t) = 9 ∧ tI t' (tN t) 1 = nI d ∧ tR t' (tN t) 0 = some (tN t + 1) ∧ LsA C t' (tN t + 1) [] 0 0) ∧ (tK t' p = 5 ∧ tR t' p 1 = some lp ∧ tI t' p 2 = bI s0 ∧ tI t' p 0 = tI t p 0)
/-- the same with its selectors -/
def SH (C : Cx) (qr r tp ch : Nat) (b : By) (n o : Nat) (t t' : Ht) (p lp c e : Nat) (us : List Nat) (s0 : Bool) (i : Nat) (L : LT) (sp : (Nat × LT × QF × Bool) ⊕ (Nat × Nat)) (l4 : Int32) : Prop :=
  ∃ d j L' y s c' e', sp = mkQ d (.inl (j, L', y, s)) ∧ d ≤ 1 ∧ l4 = bI s ∧ CQ t' qr r tp ch b n j o L' ∧ QXe (pX p lp c e) qr r ch t t' ∧ (LsA C t' lp (us ++ [tN t]) c' e' ∧ 2 * c' ≤ 3 * (us.length + 1) + 20 ∧ 0 < c') ∧ ((0 < c ∧ e' = e) ∨ (tN t ≤ e' ∧ e' < tN t')) ∧ (tK t' p = 5 ∧ tR t' p 1 = some lp ∧ tI t' p 2 = bI s0 ∧ tI t' p 0 = tI t p 0) ∧ (tK t' (tN t) = 9 ∧ tI t' (tN t) 1 = nI d ∧ tN t < tN t') ∧ (L'.1 = 0 → L.1 = 0 ∧ QR C t' (qT d y) 1 [] (fun z => rg (tN t) (tN t') z ∧ z ≠ e') [tN t] false) ∧ i < j ∧ BG t t' (j - i) 50 30
section QSG
variable {C : Cx} {d E : Nat} {Post : OutT → Ht → Prop} {t t1 t' : Ht} {qr r tp ch : Nat} {b : By} {n i o f : Nat} {L : LT}
theorem LsA.kd {l c e : Nat} {us : List Nat} (h : LsA C t l us c e) (hc : 0 < c) : tK t e = 103 ∧ e < tN t := by
  rcases h.2.2.2.2.2 with ⟨z, -⟩ | ⟨-, -, -, z1, z2, -, -⟩
  · omega
  · exact ⟨z2, z1⟩
/-- kinds that a query's reader's own cells are not -/
theorem CQ.nk {x k : Nat} (h : CQ t qr r tp ch b n i o L) (hx : tK t x = k) (hk : k = 1 ∨ k = 5 ∨ k = 9 ∨ k = 10 ∨ k = 11 ∨ k = 103) : x ≠ qr ∧ x ≠ r ∧ x ≠ ch ∧ x ≠ tp := by
  refine ⟨fun z => ?_, fun z => ?_, fun z => ?_, fun z => ?_⟩
  · rw [z, h.2.2.1.1] at hx; omega
  · rw [z, h.1.1.1] at hx; omega
  · rw [z, h.1.2.2.1] at hx; omega
  · rw [z, h.1.1.2.2.1] at hx; omega
theorem SGm.go {p lp c e d k c' e' k' : Nat} {us : List Nat} {s0 : Bool} {t1 : Ht} (h : SGm C qr r tp ch b n o t t' p lp c e us s0 L d k c' e') (hr : r < tN t) (hp : p < tN t) (hlp : lp < tN t) (hC : CQ t1 qr r tp ch b n k' o L) (hX : QXe (pX p lp c e) qr r ch t t1) (hN : tN t1 = tN t') (hU : tU t1 = tU t') (hs : ∀ x, x ≠ r → sameAt t' t1 x) : SGm C qr r tp ch b n o t t1 p lp c e us s0 L d k' c' e' := by
  obtain ⟨hC0, hX0, ⟨l1, l2, l3⟩, he, ⟨m1, m2, m3, m4⟩, ⟨a1, a2, a3, a4⟩, ⟨p1, p2, p3, p4⟩⟩ := h
  have sl := hs lp (hC0.nk l1.1 (by omega)).2.1
  have se := hs e' (hC0.nk (l1.kd l3).1 (by omega)).2.1
  have sa := hs (tN t) (by omega)
  have sb := hs (tN t + 1) (by omega)
  have sp := hs p (hC0.nk p1 (by omega)).2.1
  exact ⟨hC, hX, ⟨l1.frame (by omega) sl (fun _ => se), l2, l3⟩, he, ⟨by omega, by omega, by omega, by omega⟩, ⟨sa.1.trans a1, (sa.2.2.1 1).trans a2, (sa.2.2.2.2 0).trans a3, a4.frame (by omega) sb (fun z => absurd z (Nat.lt_irrefl _))⟩, ⟨sp.1.trans p1, (sp.2.2.2.2 1).trans p2, (sp.2.2.1 2).trans p3, (sp.2.2.1 0).trans p4⟩⟩
theorem SGm.to {p lp c e d k c' e' k' : Nat} {us : List Nat} {s0 : Bool} (h : SGm C qr r tp ch b n o t t' p lp c e us s0 L d k c' e') (hr : r < tN t) (hp : p < tN t) (hlp : lp < tN t) (hk : k' ≤ n) : SGm C qr r tp ch b n o t (sI t' r 4 (nI k')) p lp c e us s0 L d k' c' e' :=
  h.go hr hp hlp (h.1.to hk) (h.2.1.trans (QXe.rx (QX.rx (RX.I (Or.inr rfl))))) rfl rfl (fun _ hx => sameAt_sI hx)
theorem SGm.deep {p lp c e d d' k c' e' : Nat} {us : List Nat} {s0 : Bool} {x : Int32} (h : SGm C qr r tp ch b n o t t' p lp c e us s0 L d k c' e') (hq : qr < tN t) (hr : r < tN t) (hc : ch < tN t) (htp : tp < tN t) (hp : p < tN t) (hlp : lp < tN t) (hx : x = nI d') : SGm C qr r tp ch b n o t (sI t' (tN t) 1 x) p lp c e us s0 L d' k c' e' := by
  obtain ⟨hC0, hX0, ⟨l1, l2, l3⟩, he, ⟨m1, m2, m3, m4⟩, ⟨a1, a2, a3, a4⟩, ⟨p1, p2, p3, p4⟩⟩ := h
  have hs : ∀ y, y ≠ tN t → sameAt t' (sI t' (tN t) 1 x) y := fun y hy => sameAt_sI hy
  have b1 : tK (sI t' (tN t) 1 x) = tK t' := sIK
  have b2 : tR (sI t' (tN t) 1 x) = tR t' := sIR
  have b3 : tN (sI t' (tN t) 1 x) = tN t' := sIN
  have b4 : tU (sI t' (tN t) 1 x) = tU t' := sIU
  have b5 : tI (sI t' (tN t) 1 x) (tN t) 1 = x := sI_eq
  revert hs b1 b2 b3 b4 b5
  generalize sI t' (tN t) 1 x = t1
  intro hs b1 b2 b3 b4 b5
  have sp := hs p (by omega)
  refine ⟨hC0.old (by omega) (fun y _ hy => hs y (by rcases hy with rfl | rfl | rfl | rfl <;> omega)), hX0.up (QXe.of (X := [tN t]) (by omega) (fun y _ hy => hs y (by simpa using hy))) (fun y hy => Or.inr (by rw [List.mem_singleton.mp hy]; exact Nat.le_refl _)), ⟨l1.frame (by omega) (hs lp (by omega)) (fun _ => hs e' (by omega)), l2, l3⟩, he, ⟨by omega, by omega, by omega, by omega⟩, ⟨by rw [b1]; exact a1, b5.trans hx, by rw [b2]; exact a3, a4.frame (by omega) (hs _ (by omega)) (fun z => absurd z (Nat.lt_irrefl _))⟩, ⟨sp.1.trans p1, (sp.2.2.2.2 1).trans p2, (sp.2.2.1 2).trans p3, (sp.2.2.1 0).trans p4⟩⟩
/-- its selectors are read -/
theorem SGm.tail {p lp c e d k c' e' rc rs : Nat} {us : List Nat} {s0 : Bool} {sp sp0 : (Nat × LT × QF × Bool) ⊕ (Nat × Nat)} {M : Int32 → Ht → Prop} (h : SGm C qr r tp ch b n o t t' p lp c e us s0 L d k c' e') (hqN : qr < tN t) (hrN : r < tN t) (hcN : ch < tN t) (hpN : p < tN t) (hlN : lp < tN t) (hsp : sp = mkQ d sp0) (hd : d ≤ 1) (hik : i ≤ k) (hr1 : 53 + 40 * i ≤ rc + 40 * k) (hr2 : 945 + 600 * i ≤ rs + 600 * k) (hM : ∀ x t4, SH C qr r tp ch b n o t t4 p lp c e us s0 i L sp x → M x t4)
    (k2 : ∀ w q, sp = .inr (w, q) → ∀ t', QDe (pX p lp c e) qr r ch t t' w q → BG t t' (n + 1 - i) 50 30 → Post (.inr (200, 0)) t') : KB C qr r tp ch b n o t' (tN t) (tN t + 1) k L sp0 rc rs (aftV (fun v t3 => rI v (fun x => M x t3)) (fun k q t => Post (.inr (k, q)) t)) := by
  obtain ⟨hC0, hX0, ⟨l1, l2, l3⟩, he, ⟨m1, m2, m3, m4⟩, ⟨a1, a2, a3, a4⟩, ⟨p1, p2, p3, p4⟩⟩ := h
  have hkn := hC0.2.1
  have upX : ∀ y ∈ [tN t + 1], y ∈ pX p lp c e ∨ tN t ≤ y := fun y hy => Or.inr (by rw [List.mem_singleton.mp hy]; omega)
  refine ⟨fun j L' y s e0 t4 us4 c4 e4 hC4 hX4 hl4 hcap4 he4 hQ4 hij hB => ?_, fun w q e0 t4 hD hB => ?_⟩
  · have nl := hC0.nk l1.1 (by omega)
    have ne := hC0.nk (l1.kd l3).1 (by omega)
    have np := hC0.nk p1 (by omega)
    have sl := hX4.same (x := lp) (by omega) (by simp; omega) nl.1 nl.2.1 nl.2.2.1
    have se := hX4.same (x := e') (by omega) (by simp; omega) ne.1 ne.2.1 ne.2.2.1
    have sp' := hX4.same (x := p) (by omega) (by simp; omega) np.1 np.2.1 np.2.2.1
    have sa := hX4.same (x := tN t) (by omega) (by simp) (by omega) (by omega) (by omega)
    have hN4 := hX4.1
    unfold BG at hB
    refine hM _ _ ⟨d, j, L', y, s, c', e', by rw [hsp, e0], hd, rfl, hC4, hX0.up hX4 upX, ⟨l1.frame hN4 sl (fun _ => se), l2, l3⟩, ?_, ⟨sp'.1.trans p1, (sp'.2.2.2.2 1).trans p2, (sp'.2.2.1 2).trans p3, (sp'.2.2.1 0).trans p4⟩, ⟨sa.1.trans a1, (sa.2.2.1 1).trans a2, by omega⟩, fun z => ?_, by omega, ⟨by omega, by omega⟩⟩
    · rcases he with ⟨z1, z2, z3⟩ | z
      · exact Or.inl ⟨z1, z2⟩
      · exact Or.inr ⟨by omega, by omega⟩
    · obtain ⟨z1, z2, z3⟩ := hQ4 z
      refine ⟨z1, QR.mk (k := d) (us := us4) (av' := [tN t, tN t + 1, e4]) (F1 := rg (tN t') (tN t4)) (by decide) (by decide) ⟨⟨Nat.le_refl _, by omega⟩, by omega⟩ (fun v hv => ⟨⟨by have := hv.1; omega, hv.2⟩, by have := hv.1; omega⟩) ?_ (Or.inr z3)⟩
      unfold HL
      rw [if_neg (by decide), if_pos rfl]
      exact ⟨sa.1.trans a1, (sa.2.2.1 1).trans a2, tN t + 1, e4, c4, (sa.2.2.2.2 0).trans a3, ⟨hl4, ⟨⟨by omega, by omega⟩, by omega⟩, fun _ => ⟨⟨by omega, by omega⟩, by omega⟩, hcap4⟩, rfl, z2⟩
  · refine k2 w q (by rw [hsp, e0]; rfl) t4 (QDe.up hX0 hD upX) ?_
    unfold BG at hB ⊢
    omega
end QSG
