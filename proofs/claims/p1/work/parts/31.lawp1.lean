/-! THE LAW OVER ONE CALL ON FRESH OBJECTS -/
section LP1
variable {C : Cx} {d : Nat} {t : Ht} {B : Nat}
theorem FM_same {t t' : Ht} {M : Nat} (h : FM t M) (k : ∀ q, M ≤ q → q < M + 52 → sameAt t t' q) : FM t' M := by
  have e0 := k M (Nat.le_refl _) (by omega)
  have e1 := k (M + 1) (by omega) (by omega)
  have e2 := k (M + 2) (by omega) (by omega)
  have e3 := k (M + 17) (by omega) (by omega)
  have e4 := k (M + 39) (by omega) (by omega)
  unfold FM at h ⊢
  unfold sameAt at e0 e1 e2 e3 e4
  simp only [e0, e1, e2, e3, e4]
  exact h
theorem FP_sameK {t t' : Ht} {M : Nat} (h : FP t B) (hM : B + 10 ≤ M) (k : ∀ b, b < M → sameK t t' b) : FP t' B := by
  have e0 := k B (by omega)
  have e1 := k (B + 1) (by omega)
  have e2 := k (B + 2) (by omega)
  have e4 := k (B + 4) (by omega)
  have e5 := k (B + 5) (by omega)
  have e6 := k (B + 6) (by omega)
  have e8 := k (B + 8) (by omega)
  unfold FP at h ⊢
  unfold sameK at e0 e1 e2 e4 e5 e6 e8
  simp only [e0, e1, e2, e4, e5, e6, e8]
  exact h
def L1P (B U : Nat) (o : OutT) (t : Ht) : Prop := o = .inl (some (svI 1)) ∧ tN t ≤ B + 64 ∧ tU t ≤ U + 101400
def L1I (B U : Nat) (n : Nat) (l1 l2 l3 : Option Nat) (l4 : Int32) (t : Ht) : Prop := l1 = some B ∧ l2 = some (B + 10) ∧ l3 = some (B + 62) ∧ tN t ≤ B + 64 ∧ tU t ≤ U + 101400 ∧
  ((n = 1 ∧ l4 = 0 ∧ FP t B ∧ FM t (B + 10) ∧ tN t = B + 63 ∧ tU t ≤ U + 101394) ∨ (n = 0 ∧ l4 = 6))
theorem L1I.end {U : Nat} {t' : Ht} (h1 : tN t' ≤ B + 64) (h2 : tU t' ≤ U + 101400) {P : Prop} (hp : P) : ∃ k, k < 1 ∧ P ∧ L1I B U k (some B) (some (B + 10)) (some (B + 62)) (0 + 6) t' :=
  ⟨0, Nat.zero_lt_one, hp, rfl, rfl, rfl, h1, h2, Or.inr ⟨rfl, rfl⟩⟩
set_option maxHeartbeats 1000000 in
theorem law1 {U : Nat} {t0 : Ht} (hL : (cX C).2.1 ≤ 6) (hB : tN t = B) (hU : tU t = U) : WG C MLw (d + 5 + 1) t0 (L1P B U) 0 [(0, svR (some (cX C).1))] [] t := by
  subst hB
  subst hU
  refine wgL (d := d + 5) (L1I (tN t) (tU t)) ?_ ?_
  · unfold vcL
    refine c128 (by simp [ht]) (by simp [ht]) (by simp [ht]) (by simp [ht]) (by simp [ht]) (by simp [ht]) (fun t1 F1 N1 U1 => ⟨rfl, ?_⟩)
    refine c151 (M := tN t1) (by simp [ht]) (by simp [ht]) (by simp [ht]) (fun t2 F2 N2 U2 S2 => ⟨rfl, by decide, by decide, 1, rfl, ?_⟩)
    have hU1 : tU t1 = tU t + 10 + 4855 := by rw [U1]; rfl
    have hU2 : tU t2 = tU t1 + 37 + 96491 := by rw [U2]; rfl
    rw [N1] at F2 S2 N2
    have s2 : ∀ b, b < tN t + 10 → sameK t1 t2 b := fun b hb => by
      have := S2 b hb
      refine ⟨this.1.trans ?_, this.2.1.trans ?_, fun j => (this.2.2.1 j).trans ?_, fun j => (this.2.2.2 j).trans ?_⟩ <;> (have hne : ¬ b = tN t1 := by omega) <;> simp [ht, hne]
    have F1' : FP t2 (tN t) := FP_sameK F1 (M := tN t + 10) (Nat.le_refl _) s2
    refine ⟨rfl, by rw [N1], by rw [N2], ?_, ?_, Or.inl ⟨rfl, rfl, ?_, ?_, ?_, ?_⟩⟩
    · show tN t2 + 1 ≤ _; omega
    · show tU t2 + 1 ≤ _; omega
    · refine FP_sameK F1' (M := tN t + 10) (Nat.le_refl _) (fun b hb => ?_)
      have hne : ¬ b = tN t2 := by omega
      refine ⟨?_, ?_, fun j => ?_, fun j => ?_⟩ <;> simp [ht, hne]
    · exact FM_same F2 (fun q h1 h2 => sameAt_new (by omega))
    · show tN t2 + 1 = _; omega
    · show tU t2 + 1 ≤ _; omega
  · rintro n l1 l2 l3 l4 t' ⟨rfl, rfl, rfl, hn, hu, hc⟩
    unfold vcL_23
    generalize hsc : cX C = sc
    rw [hsc] at hL
    obtain ⟨sb, L, xs⟩ := sc
    dsimp only at hL ⊢
    rcases hc with ⟨rfl, rfl, hF, hM, hN, hUu⟩ | ⟨rfl, rfl⟩
    · refine ⟨rfl, fun _ => ⟨Or.inr rfl, rfl, hn, hu⟩, fun hlt => ?_⟩
      have h6 : L = 6 := by
        have : L = 0 ∨ L = 1 ∨ L = 2 ∨ L = 3 ∨ L = 4 ∨ L = 5 ∨ L = 6 := by omega
        rcases this with rfl | rfl | rfl | rfl | rfl | rfl | rfl <;> first | rfl | exact absurd (by decide) hlt
      subst h6
      have v0 : vp_in 0 6 := by unfold vp_in; decide
      have v1 : vp_in (0 + 1) 6 := by unfold vp_in; decide
      have v2 : vp_in (0 + 2) 6 := by unfold vp_in; decide
      have v3 : vp_in (0 + 3) 6 := by unfold vp_in; decide
      have v4 : vp_in (0 + 4) 6 := by unfold vp_in; decide
      have v5 : vp_in (0 + 5) 6 := by unfold vp_in; decide
      have fm : ∀ t2, KP (tN t) t' t2 → FM t2 (tN t + 10) := fun t2 k => FM_same hM (fun q h1 h2 => k.1 q h1 (by omega))
      have en : ∀ t2 t3, KP (tN t) t' t2 → KM t2 t3 → ∃ k, k < 1 ∧ some sb = some sb ∧ L1I (tN t) (tU t) k (some (tN t)) (some (tN t + 10)) (some (tN t + 62)) (0 + 6) t3 := fun t2 t3 a b =>
        L1I.end (by have := a.2.2.1; have := b.1; omega) (by have := a.2.2.2.2; have := b.2; omega) rfl
      have hK := hF.1
      have hK2 : ∀ t2, KP (tN t) t' t2 → tK t2 (tN t + 10) = 17 := fun t2 k => (fm t2 k).1
      have r0 : KP (tN t) t' t' := KP.rfl'
      refine ⟨rfl, v0, fun _ => ?_, fun _ => ⟨fun _ => ?_, fun _ => ⟨fun _ => ?_, fun _ => ⟨fun _ => ?_, fun _ => ⟨fun _ => ?_, fun _ => ⟨fun _ => ?_, fun _ => ⟨fun _ => ?_, fun _ => ⟨fun _ => ?_, fun _ => ⟨fun _ => ?_, fun _ => ⟨fun _ => ?_, fun _ => ⟨fun _ => ?_, fun _ => ?_⟩⟩⟩⟩⟩⟩⟩⟩⟩⟩⟩
      · refine ⟨rfl, v1, rfl, v2, rfl, v3, rfl, v4, rfl, v5, hK, f129 hF (fun t2 k2 => ⟨rfl, v1, rfl, v2, rfl, v3, rfl, v4, rfl, v5, hK2 t2 k2, m154 (fm t2 k2) (fun t3 k3 => ⟨fun _ => en t2 t3 k2 k3, fun e => absurd rfl e⟩)⟩)⟩
      · refine ⟨rfl, v1, hK, f130 hF (by omega) (fun t2 k2 => ⟨rfl, v1, hK2 t2 k2, m179 (fm t2 k2) (fun t3 k3 => ⟨fun _ => en t2 t3 k2 k3, fun e => absurd rfl e⟩)⟩)⟩
      · refine ⟨rfl, v1, hK, f131 hF (by omega) (fun t2 k2 => ⟨rfl, v1, hK2 t2 k2, m213 (fm t2 k2) (fun t3 k3 => ⟨fun _ => en t2 t3 k2 k3, fun e => absurd rfl e⟩)⟩)⟩
      · refine ⟨rfl, v1, hK, f132 hF ⟨rfl, v1, hK2 t' r0, m180 hM (fun t3 k3 => ⟨fun _ => en t' t3 r0 k3, fun e => absurd rfl e⟩)⟩⟩
      · refine ⟨hK, f133 hF ⟨hK2 t' r0, m234 hM (fun t3 k3 => ⟨fun _ => en t' t3 r0 k3, fun e => absurd rfl e⟩)⟩⟩
      · refine ⟨rfl, v1, rfl, v2, hK, f134 hF ⟨rfl, v1, rfl, v2, hK2 t' r0, m237 hM (fun t3 k3 => ⟨fun _ => en t' t3 r0 k3, fun e => absurd rfl e⟩)⟩⟩
      · refine ⟨rfl, v1, hK, f135 hF ⟨rfl, v1, hK2 t' r0, m238 hM (fun t3 k3 => ⟨fun _ => en t' t3 r0 k3, fun e => absurd (by decide) e⟩)⟩⟩
      · refine ⟨rfl, v1, hK, f136 hF ⟨rfl, v1, hK2 t' r0, m244 hM (fun t3 k3 => ⟨fun _ => en t' t3 r0 k3, fun e => absurd rfl e⟩)⟩⟩
      · refine ⟨rfl, v1, hK, f137 hF ⟨rfl, v1, hK2 t' r0, m246 hM (fun t3 k3 => ⟨fun _ => en t' t3 r0 k3, fun e => absurd rfl e⟩)⟩⟩
      · have hM2 : FM (tNew t' 0 0 6) (tN t + 10) := FM_same hM (fun q h1 h2 => sameAt_new (by omega))
        refine ⟨rfl, v1, f281 hF ⟨rfl, v1, hM2.1, m247 hM2 ⟨hM2.1, cal152 ⟨hM2.1, ?_⟩⟩⟩⟩
        have e1 : tI (sI (tNew t' 0 0 6) (tN t + 10) 0 1) (tN t + 10) 0 = 1 := by simp [ht]
        rw [e1]
        refine ⟨fun _ => ⟨fun e => absurd e (by decide), fun _ => L1I.end ?_ ?_ rfl⟩, fun e => absurd rfl e⟩
        · show tN t' + 1 ≤ _; omega
        · show tU t' + 6 ≤ _; omega
      · refine ⟨rfl, v1, hK, f139 hF ⟨rfl, v1, hK2 t' r0, m248 hM (fun t3 k3 => ⟨fun _ => en t' t3 r0 k3, fun e => absurd rfl e⟩)⟩⟩
      · exact L1I.end hn hu rfl
    · refine ⟨rfl, fun _ => ⟨Or.inr rfl, rfl, hn, hu⟩, fun hlt => absurd ?_ hlt⟩
      have : L = 0 ∨ L = 1 ∨ L = 2 ∨ L = 3 ∨ L = 4 ∨ L = 5 ∨ L = 6 := by omega
      rcases this with rfl | rfl | rfl | rfl | rfl | rfl | rfl <;> decide
end LP1
