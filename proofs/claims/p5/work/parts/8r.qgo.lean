/-! goesOnAsOr -/
section QGO
variable {C : Cx} {d E : Nat} {Post : OutT → Ht → Prop} {t t' : Ht} {qr r tp ch : Nat} {b : By} {n i o f : Nat} {L : LT}
theorem q80 {a : Nat} {x : QF} (h : CQ t qr r tp ch b n i o L) (hO : OKx t a x) (k : Post (.inl (some (svI (bI (((decide (pk b n i = 38) || decide (pk b n i = 124)) && !isLit x) || (isCmp x && atOp b n i)))))) t) : CalG C mtab (d + 5) 80 [svR (some qr), svR (some a)] t Post := by
  have hv := h.2.2.1
  have hK := h.1.1.1
  obtain ⟨kd, sg, ok, o5, o6, -⟩ := hO
  have cmp : ((decide (pk b n i = 38) || decide (pk b n i = 124)) && !(isLit x)) = false → CalG C mtab (d + 4) 116 [svR (some a)] t (aftV (fun v2 t3 => rI v2 (fun x7 => br (x7 = 0) (((0 : Int32) = 0 ∨ (0 : Int32) = 1) ∧ Post (.inl (some (svI (0 : Int32)))) t3) (tK t3 qr = 6 ∧ CalG C mtab (d + 4) 71 [svR (some qr)] t3 (aftV (fun v8 t9 => rI v8 (fun x13 => br (x13 = 0) (((0 : Int32) = 0 ∨ (0 : Int32) = 1) ∧ Post (.inl (some (svI (0 : Int32)))) t9) (((1 : Int32) = 0 ∨ (1 : Int32) = 1) ∧ Post (.inl (some (svI (1 : Int32)))) t9))) (fun k10 q11 t12 => Post (.inr (k10, q11)) t12))))) (fun k4 q5 t6 => Post (.inr (k4, q5)) t6)) := by
    intro hz
    rw [hz] at k
    refine q116 ok ?_
    rw [← o5]
    cases hc : isCmp x with
    | false => rw [hc] at k; exact ⟨fun _ => ⟨Or.inl rfl, k⟩, fun z => absurd rfl z⟩
    | true =>
      rw [hc] at k
      refine ⟨fun z => absurd z (by decide), fun _ => ⟨hv.1, q71 h ?_⟩⟩
      cases ho : atOp b n i with
      | false => rw [ho] at k; exact ⟨fun _ => ⟨Or.inl rfl, k⟩, fun z => absurd rfl z⟩
      | true => rw [ho] at k; exact ⟨fun z => absurd z (by decide), fun _ => ⟨Or.inr rfl, k⟩⟩
  refine cal80 (fun m l2 t' => m = 0 ∧ t' = t ∧ l2 = bI (decide (pk b n i = 38) || decide (pk b n i = 124))) ?_ ?_
  · refine ⟨hv.1, onS hv.2.1 ⟨hK, r85 h.1.1 ⟨fun e38 => ⟨0, rfl, rfl, rfl, rfl, by rw [decide_eq_true e38]; rfl⟩, fun e38 => ⟨hv.1, onS hv.2.1 ⟨hK, r85 h.1.1 ⟨fun e124 => ⟨0, rfl, rfl, rfl, rfl, by rw [decide_eq_true e124, decide_eq_false e38]; rfl⟩, fun e124 => ⟨0, rfl, rfl, rfl, rfl, by rw [decide_eq_false e124, decide_eq_false e38]; rfl⟩⟩⟩⟩⟩⟩⟩
  · rintro m l2 t' ⟨rfl, rfl, rfl⟩
    refine ⟨fun z => ⟨ok.1, cmp ?_⟩, fun z => ⟨ok.1, ?_⟩⟩
    · rw [bI_0.mp z]; rfl
    · rw [ok.2.1]
      have hj : (decide (pk b n i = 38) || decide (pk b n i = 124)) = true := by
        cases hq : (decide (pk b n i = 38) || decide (pk b n i = 124)) with
        | true => rfl
        | false => rw [hq] at z; exact absurd rfl z
      refine ⟨fun e3 => ⟨ok.1, cmp ?_⟩, fun e3 => ⟨Or.inr rfl, ?_⟩⟩
      · have : kd = 3 := (nI_eq (b := 3) (by have := ok.2.2.1; omega) (by decide)).mp e3
        rw [o6, this]; simp
      · have : ¬ kd = 3 := fun w => e3 (by rw [w]; rfl)
        rw [hj, o6, decide_eq_false this] at k
        exact k
end QGO
