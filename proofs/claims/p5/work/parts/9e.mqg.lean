/-! all, any, OF THE REFERENCE -/
/-- an ALL, an ANY at k with its parts so far, the last one la -/
def LAm (M P : Nat) (b : By) (n o : Nat) (X : List Nat) (kd sm s : Nat) (tr : Bool) (t0 : Ht) (i q c : Nat) (L0 : LT) (t' : Ht) (p q' c' : Nat) (L' : LT) (y : QF) (k la : Nat) : Prop :=
  GO M P b n X t0 i q c t' p q' c' o L' ∧ (c ≤ k ∧ k < c' ∧ tI t' (P + 4) k = -1 ∧ tI t' (P + 1) k = nI kd) ∧ ((c ≤ la ∨ la ∈ X) ∧ la < c' ∧ la ≠ k) ∧
  (tr = true → k = c ∧ ∃ us, us.getLast? = some la ∧ tI t' (P + 2) k = hdI us ∧ (∀ z ∈ us, c + 1 ≤ z) ∧ (L'.1 = 0 → L0.1 = 0 ∧ qL y = true ∧ QM t' P (M + 3) 2400 q' y 3 (rg (c + 1) c') us)) ∧ i < p ∧ c' + sm ≤ c + 2 * (p - i) + s
section MQG
variable {C : Cx} {d E f f0 : Nat} {Post : OutT → Ht → Prop} {t t0 t1 t' : Ht} {M P : Nat} {b : By} {n i q c o i' q' c' o' : Nat} {L L' L0 L1 : LT} {X : List Nat}
theorem LAm.to {kd sm s p q' c' k la p2 : Nat} {tr : Bool} {y : QF} (h : LAm M P b n o X kd sm s tr t0 i q c L0 t' p q' c' L' y k la) (h1 : p ≤ p2) (h2 : p2 ≤ n) : LAm M P b n o X kd sm s tr t0 i q c L0 (sI t' M 5 (nI p2)) p2 q' c' L' y k la := by
  obtain ⟨g, hk, hl, ht, hip, hb⟩ := h
  have hP := g.1.2.2.1.1
  refine ⟨g.to (by omega) h2 (by have := g.1.2.2.2.2.2.1; omega), ⟨hk.1, hk.2.1, (sI_at (by omega)).trans hk.2.2.1, (sI_at (by omega)).trans hk.2.2.2⟩, hl, fun z => ?_, by omega, by omega⟩
  obtain ⟨z1, us, z2, z3, z4, z5⟩ := ht z
  refine ⟨z1, us, z2, (sI_at (by omega)).trans z3, z4, fun w => ?_⟩
  obtain ⟨w1, w2, w3⟩ := z5 w
  exact ⟨w1, w2, w3.fr (fun z hz => ⟨(SQa.w (Or.inl (by omega))).1, fun _ => (SQa.w (Or.inl (by omega))).2⟩) (fun k _ _ => sI_at (by omega)) (Nat.le_refl _)⟩
/-- one part more -/
theorem LAm.next {kd sm s p q' c' k la p1 i2 q2 c2 v s2 : Nat} {tr : Bool} {y x : QF} {L2 : LT} {t1 t2 : Ht} (h : LAm M P b n o X kd sm s tr t0 i q c L0 t' p q' c' L' y k la) (g1 : GO M P b n [] t' p q' c' t1 p1 q' c' o L') (g : GO M P b n [] t1 p1 q' c' t2 i2 q2 c2 o L2) (hx : L2.1 = 0 → L'.1 = 0 ∧ isTg x = true ∧ QM t2 P (M + 3) 2400 q2 x 3 (rg c' c2) [v]) (hv : c' ≤ v ∧ v < c2 ∧ tI t2 (P + 4) v = -1) (hp : p < p1 ∧ p1 ≤ i2) (hb2 : c2 ≤ c' + 2 * (i2 - p1) + s2) (hs2 : s2 ≤ 2) : LAm M P b n o X kd sm s tr t0 i q c L0 (sI t2 (P + 4) la (nI v)) i2 q2 c2 L2 (qApp y x) k v := by
  obtain ⟨h1, hk, hl, ht, hip, hb⟩ := h
  have gg := g1.trans g (fun z hz => by cases hz)
  have hP := g.1.2.2.1.1
  have sk := gg.sq (z := k) hk.2.1
  refine ⟨(h1.trans gg (fun z hz => by cases hz)).I (Or.inl ⟨by omega, by omega, hl.1.elim Or.inl (fun w => Or.inr ⟨rfl, w⟩)⟩), ⟨hk.1, by omega, ?_, ?_⟩, ⟨Or.inl (by omega), hv.2.1, by omega⟩, fun z => ?_, by omega, by omega⟩
  · rw [sI_at (fun w => hl.2.2 w.2.symm)]; exact (sk.2 (by simp)).trans hk.2.2.1
  · rw [sI_at (by omega)]; exact (sk.1.1 1 (by omega)).trans hk.2.2.2
  · obtain ⟨rfl, us, z2, z3, z4, z5⟩ := ht z
    have hne : us ≠ [] := fun w => by rw [w] at z2; cases z2
    refine ⟨rfl, us ++ [v], by simp, ?_, fun w hw => ?_, fun w => ?_⟩
    · rw [sI_at (by omega), hdI_app hne]; exact (sk.1.1 2 (by omega)).trans z3
    · rcases List.mem_append.mp hw with hw | hw
      · exact z4 w hw
      · rw [List.mem_singleton.mp hw]; omega
    · obtain ⟨w1, w2, w3⟩ := hx w
      obtain ⟨y1, y2, y3⟩ := z5 w1
      obtain ⟨a1, a2, a3⟩ := QM.app (t := t') (t' := sI t2 (P + 4) la (nI v)) (P := P) (ch := M + 3) (m := 3) (F := rg (k + 1) c') (F' := rg (k + 1) c2) (F2 := rg c' c2) (lo := 2400) (hi := q') (lo' := 2400) (hi' := q2) (y := x) (v := v) (by decide) (by decide) (fun p cs hc => hc.eq gg.2.2.2.2.1 (fun k k1 k2 => by rw [sI_at (by omega)]; exact gg.2.2.1.2 k k2))
        (fun z hz => ((gg.sq (z := z) hz.2).1.trans ⟨fun k hk => sI_at (by omega), fun _ _ => rfl⟩).s)
        (fun w => by have := w.2; omega)
        (w3.fr (fun z hz => ⟨⟨fun k hk => sI_at (by omega), fun _ _ => rfl⟩, fun _ => sI_at (by have := hz.1; omega)⟩) (fun k _ _ => sI_at (by omega)) (Nat.le_refl _))
        w2 ⟨hv.1, hv.2.1⟩ (by rw [sI_at (by omega)]; exact hv.2.2) (fun z hz => ⟨hz.1, by have := hz.2; omega⟩) (fun z hz => ⟨by have := hz.1; omega, hz.2⟩) y us y2 y3
        (fun z hz hz2 => by
          rw [z2] at hz2
          rw [sI_at (fun w => hz2 (by rw [w.2]))]
          exact (gg.sq (z := z) hz.2).2 (by simp))
        (fun z hz => by
          rw [z2] at hz
          injection hz with hz
          rw [← hz]
          exact sI_eq)
      exact ⟨y1, a2, a1⟩
/-- the tree of an ALL, an ANY -/
theorem LAm.tree {kd sm s p q' c' k la : Nat} {tr : Bool} {y : QF} (h : LAm M P b n o X kd sm s tr t0 i q c L0 t' p q' c' L' y k la) (hkd : kd = 10 ∨ kd = 11) (htr : tr = true) (hL : L'.1 = 0) : L0.1 = 0 ∧ isTg (qT kd y) = true ∧ QM t' P (M + 3) 2400 q' (qT kd y) 3 (rg c c') [k] := by
  obtain ⟨h1, hk, hl, ht, hip, hb⟩ := h
  obtain ⟨rfl, us, z2, z3, z4, z5⟩ := ht htr
  obtain ⟨w1, w2, w3⟩ := z5 hL
  refine ⟨w1, rfl, QM.mk (m := 3) (k := kd) (us := us) (F1 := rg (k + 1) c') (by decide) (by decide) (fun z => by omega) ⟨Nat.le_refl _, hk.2.1⟩ (fun z hz => ⟨by have := hz.1; omega, hz.2⟩) (fun z => by have := z.1; omega) ?_ (Or.inr ?_)⟩
  · unfold HM
    rw [if_neg (by decide), if_neg (by decide), if_pos rfl, if_pos hkd]
    exact ⟨hk.2.2.2, z3, w2⟩
  · have : cN 3 kd = 3 := by rcases hkd with rfl | rfl <;> rfl
    rw [this]; exact w3
/-- its first part is set -/
theorem LAm.first {kd sm s p q' c' k v : Nat} {tr : Bool} {x : QF} (g : GO M P b n X t0 i q c t' p q' c' o L') (hk : c ≤ k ∧ k < c' ∧ tI t' (P + 4) k = -1 ∧ tI t' (P + 1) k = nI kd) (hv : (c ≤ v ∨ v ∈ X) ∧ v < c' ∧ v ≠ k) (hx : tr = true → k = c ∧ c + 1 ≤ v ∧ tI t' (P + 4) v = -1 ∧ (L'.1 = 0 → L0.1 = 0 ∧ isTg x = true ∧ QM t' P (M + 3) 2400 q' x 3 (rg (c + 1) c') [v])) (hip : i < p) (hb : c' + sm ≤ c + 2 * (p - i) + s) : LAm M P b n o X kd sm s tr t0 i q c L0 (sI t' (P + 2) k (nI v)) p q' c' L' (qP x qN) k v := by
  have hP := g.1.2.2.1.1
  refine ⟨g.I (Or.inl ⟨by omega, by omega, Or.inl hk.1⟩), ⟨hk.1, hk.2.1, (sI_at (by omega)).trans hk.2.2.1, (sI_at (by omega)).trans hk.2.2.2⟩, hv, fun z => ?_, hip, hb⟩
  obtain ⟨rfl, z1, z4, z2⟩ := hx z
  refine ⟨rfl, [v], rfl, sI_eq, (fun w hw => by rw [List.mem_singleton.mp hw]; exact z1), fun w => ?_⟩
  obtain ⟨w1, w2, w3⟩ := z2 w
  refine ⟨w1, rfl, ?_⟩
  show QM _ P (M + 3) 2400 q' (.append x .nil) 3 (rg (k + 1) c') [v]
  unfold QM
  rw [if_neg (by decide)]
  refine ⟨v, [], rfl, w2, (sI_at (by omega)).trans z4, ⟨rg (k + 1) c', fun _ z => z, ⟨z1, hv.2.1⟩, (fun z hz => by cases hz), w3.fr (fun z hz => ⟨(SQa.w (Or.inr (Or.inr (by have := hz.1; omega)))).1, fun _ => (SQa.w (Or.inr (Or.inr (by have := hz.1; omega)))).2⟩) (fun k _ _ => sI_at (by omega)) (Nat.le_refl _)⟩, by unfold QM; rfl⟩
theorem lsF_skg {x : Int32} {rd : Nat → LT → Qs} {g j j' : Nat} {y : QF} (h : sk b n j = sk b n j') : lsF b n x rd (g + 1) j L y = lsF b n x rd (g + 1) j' L y := by rw [lsF, lsF, h]
/-- the spec's list from a stuck place -/
theorem lsF_stk {x : Int32} {rd : Nat → LT → Qs} {g j : Nat} {y : QF} (hx : x = 38 ∨ x = 124) (h : stk b n (sk b n j)) : lsF b n x rd (g + 1) j L y = .inl (sk b n j, L, y) := by
  rw [lsF, if_neg]
  rcases hx with rfl | rfl
  · exact (stk_no h).2.2.2.1
  · exact (stk_no h).2.2.2.2.1
end MQG
