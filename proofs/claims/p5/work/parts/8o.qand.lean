/-! readAnd -/
/-- how an AND, an OR begins: at i with nothing read, or with an operand in hand; r0: its first part -/
def BGN (C : Cx) (X : List Nat) (qr r tp ch : Nat) (b : By) (n f : Nat) (t tb : Ht) (i : Nat) (L : LT) (x1 : Option Nat) (r0 : Qs) : Prop :=
  (x1 = none ∧ X = [] ∧ tb = t ∧ CQ t qr r tp ch b n i (16 - f) L ∧ r0 = baQ b n f (orN b n f) (agN b n f) i L) ∨ (∃ a x j L1, x1 = some a ∧ OH C X qr r tp ch b n (16 - f) t tb i L j L1 x a ∧ r0 = bfQ b n f (orN b n f) (agN b n f) x i j L1)
section QAN
variable {C : Cx} {X : List Nat} {d E : Nat} {Post : OutT → Ht → Prop} {t tb t1 t' : Ht} {qr r tp ch : Nat} {b : By} {n i o f : Nat} {L : LT}
theorem BGN.cq {x1 : Option Nat} {r0 : Qs} (h : BGN C X qr r tp ch b n f t tb i L x1 r0) : ∃ j L1, CQ tb qr r tp ch b n j (16 - f) L1 ∧ QX qr r ch t tb ∧ ∀ z ∈ X, z < tN tb := by
  rcases h with ⟨-, rfl, rfl, h, -⟩ | ⟨a, x, j, L1, -, h, -⟩
  · exact ⟨i, L, h, QX.rfl', fun z hz => by cases hz⟩
  · exact ⟨j, L1, h.1, h.2.1, h.2.2.2.2.2.1.2.2.2.1⟩
def lpQ (b : By) (n f g j : Nat) (L : LT) (y : QF) : Qs := qOne 11 (lsF b n 38 (baQ b n f (orN b n f) (agN b n f)) g j L y)
/-- the operand stays when a term with a list comes -/
theorem OH.push {j a kt : Nat} {L1 : LT} {x : QF} {t3 : Ht} {p : Int32} (h : OH C X qr r tp ch b n o t tb i L j L1 x a) (hF : FTl C tb t3 (nI kt) p) (hB : BG t t3 (j - i) 30 420) : OH C (tN tb :: (tN tb + 1) :: X) qr r tp ch b n o t t3 i L j L1 x a := by
  obtain ⟨hC, hX, hQ, hO, hT, ⟨a1, a2, a3, hXb, hXa⟩, hij, -⟩ := h
  obtain ⟨f1, ⟨f2, f3⟩, -⟩ := hF
  have sa := f1 a a2
  refine ⟨hC.old (by omega) (fun z hz _ => f1 z hz), hX.up (by have := hX.1; omega) (fun z hz => f1 z (by have := hX.1; omega)), fun z => ?_, ?_, hT, ⟨a1, by omega, (sa.2.2.1 1).trans a3, fun z hz => ?_, fun w => ?_⟩, hij, hB⟩
  · obtain ⟨z1, z2⟩ := hQ z
    refine ⟨z1, ?_⟩
    have q := QR.frame (t := tb) (t' := t3) (by omega) _ _ _ _ _ _ z2 (fun v hv => f1 v hv.1.2)
    cases x with
    | tag k0 x0 =>
      refine q.wide (by decide) (by decide) (fun v hv => ⟨⟨hv.1.1, by have := hv.1.2; omega⟩, fun w => ?_⟩)
      rcases List.mem_cons.mp w with w | w
      · have := hv.1.2; omega
      rcases List.mem_cons.mp w with w | w
      · have := hv.1.2; omega
      · exact hv.2 w
    | _ => cases hT.1
  · obtain ⟨kd, sg, ⟨o1, o2, o3, o4⟩, o5⟩ := hO
    refine ⟨kd, sg, ⟨sa.1.trans o1, (sa.2.2.1 0).trans o2, o3, fun z => ?_⟩, o5⟩
    obtain ⟨v, v1, v2, v3, hv⟩ := o4 z
    have sv := f1 v hv
    exact ⟨v, (sa.2.2.2.2 7).trans v1, sv.1.trans v2, (sv.2.2.1 2).trans v3, by omega⟩
  · rcases List.mem_cons.mp hz with w | w
    · omega
    rcases List.mem_cons.mp w with w | w
    · omega
    · have := hXb z w; omega
  · rcases List.mem_cons.mp w with w | w
    · omega
    rcases List.mem_cons.mp w with w | w
    · omega
    · exact hXa w
end QAN
