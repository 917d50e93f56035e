/-! OPERANDS, by the component: paths, literals -/
section QOD
variable {C : Cx} {d E : Nat} {Post : OutT → Ht → Prop} {t t1 t' : Ht} {qr r tp ch : Nat} {b : By} {n i o f : Nat} {L : LT}
theorem f143_t : ∀ c, c < 256 → f143 (nI c) = bI (decide (97 ≤ c) && decide (c ≤ 122)) := by decide +kernel
theorem f143_p (hb : ∀ k, b k < 256) : f143 (pk b n i) = bI (isSm b n i) := by
  unfold isSm
  by_cases h : i < n
  · rw [pkI h, f143_t _ (hb i)]; simp [h]
  · rw [pkO (Nat.not_lt.mp h)]; simp [h]; decide
set_option maxHeartbeats 1000000 in
/-- a path -/
theorem qpth {strict : Bool} {t2 : Ht} {k : Nat} {kx : Int32} (hf : f ≤ 16) (ih : ∀ f0, f = f0 + 1 → P63 C qr r tp ch b n (E + 8) f0) (h : CQ t qr r tp ch b n i (16 - f) L) (hi : i < n) (hF : FT t t2 (nI 4) (nI i)) (hkx : kx = nI k) (hk : k = if pk b n i = 36 then 1 else 0) (kk : KO C qr r tp ch b n (16 - f) t i L (ptQ b n f (orN b n f) strict i L) Post) : CalG C mtab (E + 13) 47 [svR (some (tN t2)), svI kx] (tNew t2 5 0 3) (aftV (fun v17 t18 => v17 = none ∧ tK t18 (tN t) = 11 ∧ tK (sR t18 (tN t) 7 (some (tN t2))) (tN t) = 11 ∧ tK (sR t18 (tN t) 7 (some (tN t2))) qr = 6 ∧ CalG C mtab (E + 13) 55 [svR (some qr), svR (tR (sR t18 (tN t) 7 (some (tN t2))) (tN t) 7), svI (bI strict)] (sR t18 (tN t) 7 (some (tN t2))) (aftV (fun v22 t23 => rI v22 (fun x27 => Post (.inl (some (svR (some (tN t))))) t23)) (fun k24 q25 t26 => Post (.inr (k24, q25)) t26))) (fun k19 q20 t21 => Post (.inr (k19, q20)) t21)) := by
  obtain ⟨k1, k2⟩ := kk
  have hqN := h.2.2.2.1
  have hrN := h.1.2.2.2.2.2.1
  have hcN := h.1.2.2.2.2.1
  have htN := h.1.2.2.2.2.2.2
  have hk2 : k = 0 ∨ k = 1 := by rw [hk]; split <;> omega
  obtain ⟨f1, ⟨f2, f3⟩, f4, f5, f6, f7⟩ := hF
  refine q47 (k := kx) (by rw [hkx]; rcases hk2 with z | z <;> rw [z] <;> simp [nI]) (fun t3 hP => ?_)
  obtain ⟨g1, ⟨g2, g3⟩, g4, g5, g6, g7, g8⟩ := hP
  have s3 := g1 (tN t) (by omega)
  have hs3 : ∀ x, x < tN t → sameAt t t3 x := fun x hx => (f1 x hx).trans (g1 x (by omega))
  have r7 : tR (sR t3 (tN t) 7 (some (tN t2))) (tN t) 7 = some (tN t2) := by simp [ht]
  have hs4 : ∀ x, x ≠ tN t → sameAt t3 (sR t3 (tN t) 7 (some (tN t2))) x := fun x hx => sameAt_sR hx
  have a4 : tK (sR t3 (tN t) 7 (some (tN t2))) (tN t) = 11 ∧ tI (sR t3 (tN t) 7 (some (tN t2))) (tN t) 0 = nI 4 ∧ tI (sR t3 (tN t) 7 (some (tN t2))) (tN t) 1 = nI i ∧ tI (sR t3 (tN t) 7 (some (tN t2))) (tN t) 3 = 0 := ⟨s3.1.trans f4, (s3.2.2.1 0).trans f5, (s3.2.2.1 1).trans f6, (s3.2.2.1 3).trans f7⟩
  have c3 : tN (sR t3 (tN t) 7 (some (tN t2))) = tN t3 := rfl
  have c4 : tU (sR t3 (tN t) 7 (some (tN t2))) = tU t3 := rfl
  refine ⟨rfl, s3.1.trans f4, ?_⟩
  rw [r7]
  revert r7 hs4 a4 c3 c4
  generalize sR t3 (tN t) 7 (some (tN t2)) = t4
  intro r7 hs4 a4 c3 c4
  obtain ⟨a1, a2, a3, a5⟩ := a4
  have hs : ∀ x, x < tN t → sameAt t t4 x := fun x hx => (hs3 x hx).trans (hs4 x (by omega))
  have hC4 : CQ t4 qr r tp ch b n i (16 - f) L := h.old (by omega) (fun x hx _ => hs x hx)
  have hX4 : QX qr r ch t t4 := QX.of (by omega) hs
  have sp := hs4 (tN t2) (by omega)
  have sl := hs4 (tN t2 + 1) (by omega)
  refine ⟨a1, hC4.2.2.1.1, q55 (E := E) (p := tN t2) (lp := tN t2 + 1) hf ih hC4 hi ⟨sp.1.trans g4, (sp.2.2.2.2 1).trans g7, by omega, (sp.2.2.1 2).trans g6⟩ (g8.frame (by omega) sl (fun z => absurd z (Nat.lt_irrefl _))) ⟨fun j hh L' s x e t5 us c ee hS hhn => ?_, fun w q e t5 hD hB => ?_⟩⟩
  · obtain ⟨hC5, hX5, ⟨l1, l2, l3⟩, hQ, hus, ⟨p1, p2, p3, p4⟩, h1, h2, h3⟩ := hS
    have hN5 := hX5.1
    have sa := hX5.same (x := tN t) (by omega) (by simp; omega) (by omega) (by omega) (by omega)
    have hX : QX qr r ch t t5 := ((QXe.rx (X := []) hX4).up hX5 (fun x hx => Or.inr (by simp only [List.mem_cons, List.not_mem_nil, or_false] at hx; omega))).x
    have b1 := sa.1.trans a1
    have b2 := (sa.2.2.1 0).trans a2
    have b3 := (sa.2.2.2.2 7).trans r7
    have pp : tI t5 (tN t2) 0 = nI k := p2.trans ((sp.2.2.1 0).trans (g5.trans hkx))
    have sp1 : ptQ b n f (orN b n f) strict i L = .inl (j, L', qT 25 (qT (k + (if s then 2 else 0)) x)) := by
      unfold ptQ; rw [e, hk]
    refine k1 j L' _ sp1 t5 (tN t) hC5 hX (fun z => ?_) ⟨4, s, ⟨b1, b2, by omega, fun _ => ⟨tN t2, b3, p4, p1, by omega⟩⟩, ?_, rfl, rfl, rfl⟩ rfl ⟨Nat.le_refl _, by omega, (sa.2.2.1 1).trans a3⟩ (by omega) ⟨by omega, by omega⟩
    · obtain ⟨z1, z2, z3⟩ := hQ z
      refine ⟨z1, QR.mk (k := 25) (us := [tN t2]) (av' := []) (F1 := rg (tN t + 1) (tN t5)) (by decide) (by decide) ⟨Nat.le_refl _, by omega⟩ (fun v hv => ⟨by have := hv.1; omega, hv.2⟩) ?_ (Or.inr ?_)⟩
      · unfold HL
        rw [if_neg (by decide), if_neg (by decide), if_neg (by decide), if_neg (by decide), if_pos rfl, if_pos rfl]
        refine ⟨b1, b2, (sa.2.2.1 3).trans a5, rfl, rfl, fun v hv w => ?_, tN t2, b3, rfl⟩
        rw [List.mem_singleton.mp hv] at w
        have := w.1
        omega
      · refine QR.mk (m := 0) (k := k + (if s then 2 else 0)) (us := us) (av' := [tN t2, tN t2 + 1, ee]) (F1 := rg (tN t4) (tN t5)) (by decide) (by decide) ⟨by omega, by omega⟩ (fun v hv => ⟨by have := hv.1; omega, hv.2⟩) ?_ (Or.inr z3)
        unfold HL
        rw [if_pos rfl]
        refine ⟨p4, ?_, ?_, tN t2 + 1, ee, c, p3, ⟨l1, ⟨by omega, by omega⟩, fun y => ⟨by have := (l3 y).1; omega, (l3 y).2⟩, l2⟩, rfl, z2, by split <;> omega⟩
        · rw [pp]; rcases hk2 with y | y <;> rw [y] <;> cases s <;> rfl
        · rw [p1]; rcases hk2 with y | y <;> rw [y] <;> cases s <;> rfl
    · show isCmp (.tag 25 (.tag (k + (if s then 2 else 0)) x)) = isCk 4 s
      rcases hk2 with y | y <;> rw [y] <;> cases s <;> rfl
  · have sp1 : ptQ b n f (orN b n f) strict i L = .inr (w, q) := by
      unfold ptQ; rw [e]
    refine k2 w q sp1 t5 (QDe.up (X := []) (QXe.rx hX4) hD (fun x hx => Or.inr (by simp only [List.mem_cons, List.not_mem_nil, or_false] at hx; omega))).x ?_
    unfold BG at hB ⊢
    omega
/-- a literal is read -/
theorem KO.lit {sp : Qs} {k0 j : Nat} {x : QF} {t2 : Ht} {L' : LT} (kk : KO C qr r tp ch b n o t i L sp Post) (he : sp = .inl (j, L', .tag k0 x)) (hk : k0 = 20 ∨ k0 = 21 ∨ k0 = 22 ∨ k0 = 23 ∨ k0 = 24) (hC : CQ t2 qr r tp ch b n j o L') (hX : QX qr r ch t t2) (hL : L'.1 = 0 → L.1 = 0) (hh : L'.1 = 0 → HL C t2 7 k0 x (rg (tN t) (tN t2)) (tN t) false [] [] (fun _ => False)) (ha : tK t2 (tN t) = 11 ∧ tI t2 (tN t) 0 = 3 ∧ tI t2 (tN t) 1 = nI i) (hN : tN t < tN t2) (hij : i < j) (hB : BG t t2 (j - i) 34 450) : Post (.inl (some (svR (some (tN t))))) t2 := by
  refine kk.1 j L' _ he t2 (tN t) hC hX (fun z => ⟨hL z, QR.mk (by decide) (by decide) ⟨Nat.le_refl _, by omega⟩ (fun _ z => z.elim) (hh z) (Or.inl ?_)⟩) ⟨3, false, ⟨ha.1, ha.2.1, by omega, fun z => by omega⟩, ?_, ?_, ?_, ?_⟩ rfl ⟨Nat.le_refl _, hN, ha.2.2⟩ hij hB
  · rcases hk with rfl | rfl | rfl | rfl | rfl <;> rfl
  all_goals rcases hk with rfl | rfl | rfl | rfl | rfl <;> rfl
/-- a word's -/
theorem KO.word {sp : Qs} {k0 kd j : Nat} {t1 t2 : Ht} (kk : KO C qr r tp ch b n o t i L sp Post) (he : sp = .inl (j, L, .tag k0 .nil)) (hk : (k0 = 22 ∧ kd = 2) ∨ (k0 = 23 ∧ kd = 1) ∨ (k0 = 24 ∧ kd = 0)) (hC : CQ t1 qr r tp ch b n j o L) (hX : QX qr r ch t t1) (hN : tN t1 = tN t) (hU : tU t1 = tU t) (hF : FLt t1 t2 kd (nI i)) (hij : i < j) : Post (.inl (some (svR (some (tN t))))) t2 := by
  obtain ⟨f1, ⟨f2, f3⟩, ⟨f4, f5, f6, f7⟩, f8, f9, f10, f11⟩ := hF
  rw [hN] at f1 f2 f4 f5 f6 f7 f8 f9 f10 f11
  refine KO.lit kk he (by omega) (hC.old (by omega) (fun x hx _ => f1 x (by omega))) (hX.up (by omega) f1) (fun z => z) (fun _ => ?_) ⟨f4, f5, f6⟩ (by omega) hij ⟨by omega, by omega⟩
  unfold HL
  rw [if_neg (by decide), if_neg (by decide), if_neg (by decide), if_neg (by decide), if_pos rfl]
  refine ⟨f4, ?_⟩
  rw [if_neg (by omega), if_neg (by omega)]
  refine ⟨f7, ⟨by omega, by omega⟩, f8, f10, ?_⟩
  rcases hk with ⟨rfl, rfl⟩ | ⟨rfl, rfl⟩ | ⟨rfl, rfl⟩
  · rw [if_neg (by decide), if_neg (by decide), if_pos rfl]; exact ⟨f5, f9, f11⟩
  · rw [if_neg (by decide), if_neg (by decide), if_neg (by decide), if_pos rfl]; exact ⟨f5, f9, f11⟩
  · rw [if_neg (by decide), if_neg (by decide), if_neg (by decide), if_neg (by decide), if_pos rfl]; exact ⟨f5, f9, f11⟩
end QOD
