/-! readFunction -/
/-- a function's cells -/
def FCl (t t' : Ht) (a kf i : Nat) : Prop := (tK t' a = 11 ∧ tI t' a 0 = nI kf ∧ tI t' a 1 = nI i ∧ tR t' a 8 = some (a + 1)) ∧ tK t' (a + 1) = 3 ∧ tI t' (a + 1) 0 = 3 ∧ tR t' (a + 1) 4 = none ∧ tR t' (a + 1) 6 = none ∧ tN t = a ∧ tN t + 2 ≤ tN t'
def kfN (k : Nat) : Nat := if k = 0 then 8 else k + 4
/-- its argument, if there was one -/
def AA (C : Cx) (t t' : Ht) (Lc : LT) (x : QF) (lg : Bool) : Prop := ∃ u, tR t' (tN t) 5 = some u ∧ tN t + 2 ≤ u ∧ u < tN t' ∧ tK t' u = 11 ∧ (lg = false → isTg x = true ∧ OKx t' u x ∧ (Lc.1 = 0 → QR C t' x 7 [] (rg (tN t + 2) (tN t')) [u] false)) ∧ (lg = true → tI t' u 0 = 9)
def AS (C : Cx) (qr r tp ch : Nat) (b : By) (n o : Nat) (t t' : Ht) (kf i j0 : Nat) (L : LT) (k : Nat) (Lc : LT) (mm : Nat) (x : QF) (lg : Bool) : Prop :=
  CQ t' qr r tp ch b n k o Lc ∧ QX qr r ch t t' ∧ FCl t t' (tN t) kf i ∧ (Lc.1 = 0 → L.1 = 0) ∧ (mm = 1 → AA C t t' Lc x lg) ∧ mm + j0 + 1 ≤ k ∧ tN t' + 38 ≤ tN t + 40 * (k - j0) ∧ tU t' + 580 ≤ tU t + 600 * (k - j0)
section QFU
variable {C : Cx} {d E : Nat} {Post : OutT → Ht → Prop} {t t1 t' : Ht} {qr r tp ch : Nat} {b : By} {n i o f : Nat} {L : LT}
theorem FCl.eq {a kf : Nat} (h : FCl t t' a kf i) (h1 : sameAt t' t1 a) (h2 : sameAt t' t1 (a + 1)) (hN : tN t' ≤ tN t1) : FCl t t1 a kf i := by
  obtain ⟨⟨a1, a2, a3, a4⟩, b1, b2, b3, b4, b5, b6⟩ := h
  exact ⟨⟨h1.1.trans a1, (h1.2.2.1 0).trans a2, (h1.2.2.1 1).trans a3, (h1.2.2.2.2 8).trans a4⟩, h2.1.trans b1, (h2.2.2.1 0).trans b2, (h2.2.2.2.2 4).trans b3, (h2.2.2.2.2 6).trans b4, b5, by omega⟩
theorem kfN_f {x y k : Nat} : (fnK b n x y = k) → kfN k = 5 ∨ kfN k = 6 ∨ kfN k = 7 ∨ kfN k = 8 := by
  intro h
  have : fnK b n x y ≤ 3 := by unfold fnK; split <;> (try split) <;> (try split) <;> omega
  unfold kfN
  split <;> omega
theorem isFk_k {k : Nat} (h : k = 5 ∨ k = 6 ∨ k = 7 ∨ k = 8) : isFk k = true := by rcases h with rfl | rfl | rfl | rfl <;> rfl
theorem noteL_n {k p : Nat} (hk : k ≠ 0) : (noteL L k p).1 ≠ 0 := by
  unfold noteL
  split
  · exact hk
  · rename_i z; exact fun y => z (Or.inl y)
/-- a function is read, and its argument isn't what it wants -/
theorem KO.f27 {sp : Qs} {j kf : Nat} {t2 : Ht} {L' : LT} (kk : KO C qr r tp ch b n o t i L sp Post) (he : sp = .inl (j, L', .tag 27 .nil)) (hL : L'.1 ≠ 0) (hk : kf = 5 ∨ kf = 6 ∨ kf = 7 ∨ kf = 8) (hC : CQ t2 qr r tp ch b n j o L') (hX : QX qr r ch t t2) (hF : FCl t t2 (tN t) kf i) (hij : i < j) (hB : BG t t2 (j - i) 34 450) : Post (.inl (some (svR (some (tN t))))) t2 := by
  obtain ⟨⟨a1, a2, a3, a4⟩, b1, b2, b3, b4, b5, b6⟩ := hF
  refine kk.1 j L' _ he t2 (tN t) hC hX (fun z => absurd z hL) ⟨kf, false, ⟨a1, a2, by omega, fun z => by omega⟩, ?_, ?_, ?_, ?_⟩ rfl ⟨Nat.le_refl _, by omega, a3⟩ hij hB
  all_goals rcases hk with rfl | rfl | rfl | rfl <;> rfl
theorem KO.f26 {sp : Qs} {j k kf : Nat} {x : QF} {t2 : Ht} {L' : LT} (kk : KO C qr r tp ch b n o t i L sp Post) (he : sp = .inl (j, L', .tag 26 (.tag k x))) (hL : L'.1 = 0 → L.1 = 0) (hk : 1 ≤ k ∧ k ≤ 3 ∧ kf = k + 4) (hC : CQ t2 qr r tp ch b n j o L') (hX : QX qr r ch t t2) (hF : FCl t t2 (tN t) kf i) (hA : AA C t t2 L' x false) (hij : i < j) (hB : BG t t2 (j - i) 34 450) : Post (.inl (some (svR (some (tN t))))) t2 := by
  obtain ⟨⟨a1, a2, a3, a4⟩, b1, b2, b3, b4, b5, b6⟩ := hF
  obtain ⟨u, u1, u2, u3, u4, u5, u6⟩ := hA
  obtain ⟨v1, v2, v3⟩ := u5 rfl
  have hkf : kf = 5 ∨ kf = 6 ∨ kf = 7 := by omega
  refine kk.1 j L' _ he t2 (tN t) hC hX (fun z => ⟨hL z, QR.mk (k := 26) (us := [u]) (av' := []) (F1 := rg (tN t + 2) (tN t2)) (by decide) (by decide) ⟨Nat.le_refl _, by omega⟩ (fun v hv => ⟨by have := hv.1; omega, hv.2⟩) ?_ (Or.inr ?_)⟩) ⟨kf, false, ⟨a1, a2, by omega, fun z => by omega⟩, ?_, ?_, ?_, ?_⟩ rfl ⟨Nat.le_refl _, by omega, a3⟩ hij hB
  · unfold HL
    rw [if_neg (by decide), if_neg (by decide), if_neg (by decide), if_neg (by decide), if_pos rfl, if_neg (by decide), if_neg (by decide), if_neg (by decide), if_neg (by decide), if_neg (by decide), if_neg (by decide), if_neg (by decide), if_pos rfl]
    refine ⟨a1, a4, ⟨by omega, by omega⟩, b1, b3, ?_, b2, b4, rfl, fun v hv w => ?_, u, u1, rfl, hk.1, hk.2.1⟩
    · rw [a2, hk.2.2]; rfl
    · simp only [List.mem_cons, List.not_mem_nil, or_false] at hv
      have := w.1
      rcases hv with rfl | rfl <;> omega
  · show QR C t2 (.tag k x) 8 [] (rg (tN t + 2) (tN t2)) [u] false
    unfold QR
    rw [if_neg (by decide), if_pos rfl]
    exact ⟨v1, v3 z⟩
  all_goals rcases hkf with rfl | rfl | rfl <;> rfl
end QFU
