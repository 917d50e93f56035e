/-! a whole query, by the component -/
/-- what the caller needs: a tree of the query from the path tN t on, or a fault -/
def KW (C : Cx) (qr r tp ch : Nat) (b : By) (n : Nat) (t : Ht) (Post : OutT → Ht → Prop) : Prop :=
  (∀ s x, whQ b n = .inl (s, x) → ∀ t', CQ t' qr r tp ch b n n 0 (0, 0) → QX qr r ch t t' → QR C t' (qT (1 + (if s then 2 else 0)) x) 0 [] (rg (tN t) (tN t')) [tN t] false → tN t < tN t' → tN t' ≤ tN t + 40 * n + 2 ∧ tU t' ≤ tU t + 600 * n + 16 → Post (.inl (some (svR (some (tN t))))) t') ∧
  (∀ w p, whQ b n = .inr (w, p) → ∀ t', QD qr r ch t t' w p → tN t' ≤ tN t + 40 * n + 2 ∧ tU t' ≤ tU t + 600 * n + 16 → Post (.inr (200, 0)) t')
section QWH
variable {C : Cx} {d E : Nat} {Post : OutT → Ht → Prop} {t t' : Ht} {qr r tp ch : Nat} {b : By} {n i o f : Nat} {L : LT}
set_option maxHeartbeats 1000000 in
theorem q49 (hR : RB t r tp ch b n 0) (hv0 : tK t qr = 6 ∧ tR t qr 0 = some r) (hqN : qr < tN t) (kk : KW C qr r tp ch b n t Post) : CalG C mtab (E + 230) 49 [svR (some qr)] t Post := by
  obtain ⟨k1, k2⟩ := kk
  have hK := hR.1.1
  have hn : n ≤ 1200 := hR.1.2.2.2.2.2.2.1
  have hrN := hR.2.2.2.2.2.1
  have hcN := hR.2.2.2.2.1
  have nr : r ≠ qr := fun e => by rw [e, hv0.1] at hK; cases hK
  have hC0 : CQ (sI (sI (sI t qr 1 0) qr 2 0) qr 3 (-1)) qr r tp ch b n 0 0 (0, 0) := by
    refine ⟨?_, Nat.zero_le _, ⟨hv0.1, hv0.2, ?_, ?_, fun z => absurd rfl z⟩, hqN, by omega, by decide, by decide⟩
    · obtain ⟨⟨a1, a2, a3, a4, a5, a6, a7⟩, b1⟩ := hR
      have ntp : tp ≠ qr := fun e => by rw [e, hv0.1] at a3; cases a3
      refine ⟨⟨a1, a2, a3, a4, ?_, ?_, a7.1, a7.2.1, a7.2.2.1, fun k hk => ?_⟩, b1⟩
      · simpa [ht, nr] using a5
      · simpa [ht, nr] using a6
      · have := a7.2.2.2 k hk
        simpa [ht, ntp] using this
    · simp [ht, nI]
    · simp [ht, nI]
  have hX0 : QX qr r ch t (sI (sI (sI t qr 1 0) qr 2 0) qr 3 (-1)) := (QX.I (Or.inl rfl)).trans ((QX.I (Or.inr (Or.inl rfl))).trans (QX.I (Or.inr (Or.inr rfl))))
  refine cal49 ⟨hv0.1, hv0.1, hv0.1, hv0.1, onS (a := r) hv0.2 ⟨hK, ?_⟩⟩
  have c1 : tN (sI (sI (sI t qr 1 0) qr 2 0) qr 3 (-1)) = tN t := rfl
  have c2 : tU (sI (sI (sI t qr 1 0) qr 2 0) qr 3 (-1)) = tU t := rfl
  revert hC0 hX0 c1 c2
  generalize sI (sI (sI t qr 1 0) qr 2 0) qr 3 (-1) = t0
  intro hC0 hX0 c1 c2
  have hv := hC0.2.2.1
  have hK0 := hC0.1.1.1
  refine r85 hC0.1.1 ⟨fun e36 => ?_, fun e36 => ⟨hv.1, hv.1, onS hv.2.1 ⟨hK0, onS hv.2.1 ⟨hK0, hC0.fl rfl hC0.1.1.2.2.2.2.2.1 (fun t7 hD hB => ?_)⟩⟩⟩⟩
  · have h0n := (pk_nn e36 (by decide)).1
    refine q47 (k := 1) (Or.inr rfl) (fun t3 hP => ?_)
    obtain ⟨g1, ⟨g2, g3⟩, g4, g5, g6, g7, g8⟩ := hP
    have hC3 : CQ t3 qr r tp ch b n 0 0 (0, 0) := hC0.old (by omega) (fun x hx _ => g1 x hx)
    have hX3 : QX qr r ch t t3 := hX0.trans (QX.of (by omega) g1)
    refine ⟨rfl, hC3.2.2.1.1, q55 (E := E + 216) (f := 16) (strict := false) (p := tN t0) (lp := tN t0 + 1) (Nat.le_refl _) (fun f0 z => ?_) hC3 h0n ⟨g4, g7, by omega, g6⟩ g8 ⟨fun j hh L' s x e t5 us c ee hS hhn => ?_, fun w q e t5 hD hB => ?_⟩⟩
    · have : f0 = 15 := by omega
      subst this
      have := (qlv (C := C) (qr := qr) (r := r) (tp := tp) (ch := ch) (b := b) (n := n) 15 (by omega) (E + 40)).1
      rwa [show E + 216 + 8 = E + 40 + 11 * 15 + 19 by omega]
    · obtain ⟨hC5, hX5, ⟨l1, l2, l3⟩, hQ, hus, ⟨p1, p2, p3, p4⟩, h1, h2, h3⟩ := hS
      have hN5 := hX5.1
      have hv5 := hC5.2.2.1
      have hK5 := hC5.1.1.1
      have hjn := hC5.2.1
      have hat := hC5.1.1.2.2.2.2.2.1
      have hen := hC5.1.1.2.2.2.2.1
      have up : ∀ x ∈ [tN t0, tN t0 + 1], x ∈ ([] : List Nat) ∨ tN t ≤ x := fun x hx => Or.inr (by simp only [List.mem_cons, List.not_mem_nil, or_false] at hx; omega)
      have hX : QX qr r ch t t5 := ((QXe.rx (X := []) hX3).up hX5 up).x
      have sp : whQ b n = if j = hh ∧ j = n then (if L'.1 = 0 then .inl (s, x) else .inr L') else .inr (1, j) := by
        unfold whQ
        rw [if_pos e36, e]
      have bad : ¬ (j = hh ∧ j = n) → ∀ (K : Option SV → Ht → Prop), CalG C mtab (E + 229) 83 [svR (some r), svI (1 : Int32), svI (tI t5 r 4)] t5 (aftV K (fun k q t => Post (.inr (k, q)) t)) := by
        intro hb K
        refine hC5.fl (w := 1) rfl hat (fun t7 hD hB => k2 1 j (by rw [sp, if_neg hb]) t7 (QD.of hX hD) ?_)
        unfold BG at hB
        omega
      refine ⟨hv5.1, onS hv5.2.1 ⟨hK5, fun ej => ⟨hv5.1, onS hv5.2.1 ⟨hK5, hv5.1, onS hv5.2.1 ⟨hK5, fun en => ⟨hv5.1, fun e0 => ?_, fun e0 => ⟨hv5.1, hv5.1, hv5.1, onS hv5.2.1 ⟨hK5, ?_⟩⟩⟩, fun en => ⟨hv5.1, hv5.1, onS hv5.2.1 ⟨hK5, onS hv5.2.1 ⟨hK5, bad (fun z => ?_) _⟩⟩⟩⟩⟩⟩, fun ej => ⟨hv5.1, hv5.1, onS hv5.2.1 ⟨hK5, onS hv5.2.1 ⟨hK5, bad (fun z => ?_) _⟩⟩⟩⟩⟩
      · rw [hat] at ej
        rw [hat, hen] at en
        have e1 : j = hh := (nI_eq (by omega) (by omega)).mp ej
        have e2 : j = n := (nI_eq (by omega) (by omega)).mp en
        have hl4 := hC5.2.2.2.2.2.1
        rw [hv5.2.2.2.1] at e0
        have e3 : L'.1 = 0 := (nI_eq (b := 0) (by omega) (by decide)).mp e0
        rw [if_pos ⟨e1, e2⟩, if_pos e3] at sp
        subst e2
        obtain ⟨-, z2, z3⟩ := hQ e3
        rw [c1]
        refine k1 s x sp t5 ⟨hC5.1, hC5.2.1, ⟨hv5.1, hv5.2.1, hv5.2.2.1, by rw [hv5.2.2.2.1, e3], fun z => absurd rfl z⟩, hC5.2.2.2.1, by omega, by decide, by decide⟩ hX ?_ (by omega) ⟨by omega, by omega⟩
        rw [← c1]
        refine QR.mk (m := 0) (k := 1 + (if s then 2 else 0)) (us := us) (av' := [tN t0, tN t0 + 1, ee]) (F1 := rg (tN t3) (tN t5)) (by decide) (by decide) ⟨by omega, by omega⟩ (fun v hv => ⟨by have := hv.1; omega, hv.2⟩) ?_ (Or.inr z3)
        unfold HL
        rw [if_pos rfl]
        refine ⟨p4, ?_, ?_, tN t0 + 1, ee, c, p3, ⟨l1, ⟨by omega, by omega⟩, fun y => ⟨by have := (l3 y).1; omega, (l3 y).2⟩, l2⟩, rfl, z2, by split <;> omega⟩
        · rw [p2, g5]; cases s <;> rfl
        · rw [p1]; cases s <;> rfl
      · rw [hat] at ej
        rw [hat, hen] at en
        have e1 : j = hh := (nI_eq (by omega) (by omega)).mp ej
        have e2 : j = n := (nI_eq (by omega) (by omega)).mp en
        rw [hv5.2.2.2.1] at e0 ⊢
        have e3 : ¬ L'.1 = 0 := fun z => e0 (by rw [z]; rfl)
        rw [hv5.2.2.2.2 e3]
        rw [if_pos ⟨e1, e2⟩, if_neg e3] at sp
        obtain ⟨b1, b2, b3⟩ := hC5.bad (w := L'.1) (p := L'.2) RX.rfl' rfl rfl
        exact c83 hK5 (k2 L'.1 L'.2 sp _ (QD.of hX b1) ⟨by show tN t5 + 1 ≤ _; omega, by show tU t5 + 6 ≤ _; omega⟩)
      · rw [hat, hen] at en
        exact en (by rw [z.2])
      · rw [hat] at ej
        exact ej (by rw [z.1])
    · refine k2 w q (by unfold whQ; rw [if_pos e36, e]) t5 (QDe.up (X := []) (QXe.rx hX3) hD (fun x hx => Or.inr (by simp only [List.mem_cons, List.not_mem_nil, or_false] at hx; omega))).x ?_
      unfold BG at hB
      omega
  · refine k2 1 0 (by unfold whQ; rw [if_neg e36]) t7 (QD.of hX0 hD) ?_
    unfold BG at hB
    omega
end QWH
