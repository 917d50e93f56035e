/-! THE REFERENCE'S FIND: alike (safe: what it may change, and that it ends) -/
section RF3
variable {C : Cx} {d : Nat} {Post : OutT → Ht → Prop} {t0 t t' t2 : Ht} {M S P : Nat} {V : VT} {c lk lk' f : Nat} {l l' : List Nat} {bs : Nat}
def P231 (C : Cx) (t0 : Ht) (M : Nat) (V : VT) (c d f : Nat) : Prop := ∀ (a b : Vl) (x1 : Int32) (x2 : Int64) (x3 x4 x5 x6 : Int32) (x7 : Int64) (x8 x9 x10 : Int32) (lk : Nat) (t : Ht) (Post : OutT → Ht → Prop), GS t0 M t lk → VLg t0 M V c a x1 x2 x3 x4 x5 → VLg t0 M V c b x6 x7 x8 x9 x10 → (∀ i, a = .inl i → 31 ≤ f + eD (V i)) → 1 ≤ f →
  (∀ r lk' t', GS t0 M t' lk' → LK t0 V c M 36000 t t' → Post (.inl (some (svI (bI r)))) t') → (∀ t', MF M t0 t' → Post (.inr (16, M + 1)) t') → CalG C mtab (d + 3 * f + 3) 231 [svR (some M), svI x1, svJ x2, svI x3, svI x4, svI x5, svI x6, svJ x7, svI x8, svI x9, svI x10] t Post
/-- areSameValues -/
theorem m233 {x y : Nat} (H : G0 t0 M S P V c) (h : GS t0 M t lk) (hp : P231 C t0 M V c d f) (hx : x < c) (hy : y < c) (hf : 31 ≤ f + eD (V x)) (hf1 : 1 ≤ f) (k1 : ∀ r lk' t', GS t0 M t' lk' → LK t0 V c M 36000 t t' → Post (.inl (some (svI (bI r)))) t') (k2 : ∀ t', MF M t0 t' → Post (.inr (16, M + 1)) t') : CalG C mtab (d + 3 * f + 4) 233 [svR (some M), svI (nI x), svI (nI y)] t Post := by
  have hK := kM H h
  refine cal233 ⟨hK, gS0 H h hx ⟨hK, gS11 H h hx ⟨hK, gS8 H h hx ⟨hK, gS5 H h hx ⟨hK, gS0 H h hy ⟨hK, gS11 H h hy ⟨hK, gS8 H h hy ⟨hK, gS5 H h hy ⟨hK, ?_⟩⟩⟩⟩⟩⟩⟩⟩⟩
  simp only [rS H h (k := 1) (by decide) hx, rSJ H h (k := 12) (by decide) hx, rS H h (k := 9) (by decide) hx, rS H h (k := 6) (by decide) hx, rS H h (k := 1) (by decide) hy, rSJ H h (k := 12) (by decide) hy, rS H h (k := 9) (by decide) hy, rS H h (k := 6) (by decide) hy]
  exact hp (.inl x) (.inl y) _ _ _ _ _ _ _ _ _ _ lk t _ h (VLg.node H hx) (VLg.node H hy) (fun i e => by injection e with e; rw [← e]; exact hf) hf1 (fun r lk' t' h' hL => ⟨bI01, k1 r lk' t' h' hL⟩) k2
theorem mbV_in {i o : Nat} {cs : List Nat} (h : mbV V i cs = some o) : o ∈ eS (V i) := by
  unfold mbV at h
  split at h
  · exact List.mem_of_find?_eq_some h
  · cases h
/-- areAlike -/
theorem m232 {x y : Nat} (H : G0 t0 M S P V c) (h : GS t0 M t lk) (hp : P231 C t0 M V c d f) (hx : x < c) (hy : y < c) (hk5 : eK (V x) = 5 ∨ eK (V x) = 6) (hkk : eK (V x) = eK (V y)) (hlen : (eS (V x)).length = (eS (V y)).length) (hf : 30 ≤ f + eD (V x))
    (k1 : ∀ r lk' t', GS t0 M t' lk' → LK t0 V c M 36000 t t' → Post (.inl (some (svI (bI r)))) t') (k2 : ∀ t', MF M t0 t' → Post (.inr (16, M + 1)) t') : CalG C mtab (d + 3 * f + 5) 232 [svR (some M), svI (nI x), svI (nI y)] t Post := by
  have hc := H.2.2.2.2
  have Rx := H.2.1 x hx
  have Ry := H.2.1 y hy
  refine cal232 (fun n l3 l4 t' => ∃ m lk', n = (eS (V x)).length - m ∧ m ≤ (eS (V x)).length ∧ l4 = oIx (eS (V x))[m]? ∧ l3 = oIx (eS (V y))[m]? ∧ GS t0 M t' lk' ∧ LK t0 V c M 36000 t t') ?_ ?_
  · have hK := kM H h
    refine ⟨hK, gS1 H h hy ⟨hK, gS1 H h hx ?_⟩⟩
    rw [rS H h (k := 2) (by decide) hx, rS H h (k := 2) (by decide) hy, Rx.1.1.2.1, Ry.1.1.2.1]
    exact ⟨_, rfl, rfl, rfl, 0, lk, rfl, Nat.zero_le _, rfl, rfl, h, LK.rfl'⟩
  · rintro n l3 l4 t' ⟨m, lk', rfl, hm, rfl, rfl, h', hL⟩
    have hK := kM H h'
    by_cases z : m < (eS (V x)).length
    · have hkx := (H.kid hx z).1
      have zy : m < (eS (V y)).length := by omega
      have hky := (H.kid hy zy).1
      rw [oIx_get z, oIx_get zy]
      have hfk : 31 ≤ f + eD (V ((eS (V x)).getD m 0)) := by
        have := ((H.2.2.1 x hx).1.2.1 m z).2.2.2
        omega
      have hf1 : 1 ≤ f := by
        have := (H.2.1 _ hkx).2.2.1
        omega
      refine ⟨fun e => absurd e (nI_m1 (by omega)), fun _ => ⟨hK, gS0 H h' hx ?_⟩⟩
      rw [rS H h' (k := 1) (by decide) hx, Rx.1.1.1]
      have nx : ∀ t2 lk2, GS t0 M t2 lk2 → LK t0 V c M 36000 t t2 →
          br (nI ((eS (V y)).getD m 0) = (-1 : Int32)) (tK t2 M = 17 ∧ onR (tR t2 M 10) (fun a35 => tK t2 a35 = 15 ∧ onR (tR t2 a35 3) (fun a36 => tK t2 a36 = 101 ∧ vp_in (nI ((eS (V x)).getD m 0)) (tL t2 a36) ∧ (∃ k, k < (eS (V x)).length - m ∧ some M = some M ∧ nI x = nI x ∧ nI y = nI y ∧ ∃ m_1 lk', k = (eS (V x)).length - m_1 ∧ m_1 ≤ (eS (V x)).length ∧ tI t2 a36 (nI ((eS (V x)).getD m 0)).toNatClampNeg = oIx (eS (V x))[m_1]? ∧ (-1 : Int32) = oIx (eS (V y))[m_1]? ∧ GS t0 M t2 lk' ∧ LK t0 V c M 36000 t t2))))
          (tK t2 M = 17 ∧ onR (tR t2 M 10) (fun a31 => tK t2 a31 = 15 ∧ onR (tR t2 a31 3) (fun a32 => tK t2 a32 = 101 ∧ vp_in (nI ((eS (V y)).getD m 0)) (tL t2 a32) ∧ tK t2 M = 17 ∧ onR (tR t2 M 10) (fun a33 => tK t2 a33 = 15 ∧ onR (tR t2 a33 3) (fun a34 => tK t2 a34 = 101 ∧ vp_in (nI ((eS (V x)).getD m 0)) (tL t2 a34) ∧ (∃ k, k < (eS (V x)).length - m ∧ some M = some M ∧ nI x = nI x ∧ nI y = nI y ∧ ∃ m_1 lk', k = (eS (V x)).length - m_1 ∧ m_1 ≤ (eS (V x)).length ∧ tI t2 a34 (nI ((eS (V x)).getD m 0)).toNatClampNeg = oIx (eS (V x))[m_1]? ∧ tI t2 a32 (nI ((eS (V y)).getD m 0)).toNatClampNeg = oIx (eS (V y))[m_1]? ∧ GS t0 M t2 lk' ∧ LK t0 V c M 36000 t t2)))))) := by
        intro t2 lk2 h2 hL2
        have hK2 := kM H h2
        refine ⟨fun e => absurd e (nI_m1 (by omega)), fun _ => ⟨hK2, gS3 H h2 hky ⟨hK2, gS3 H h2 hkx ?_⟩⟩⟩
        refine ⟨_, (by omega : (eS (V x)).length - (m + 1) < (eS (V x)).length - m), rfl, rfl, rfl, m + 1, lk2, rfl, by omega, ?_, ?_, h2, hL2⟩
        · rw [rS H h2 (k := 4) (by decide) hkx]; exact Rx.1.2.2 m z
        · rw [rS H h2 (k := 4) (by decide) hky]; exact Ry.1.2.2 m zy
      refine ⟨fun e5 => ⟨fun e => absurd e (nI_m1 (by omega)), fun _ => ⟨hK, ?_⟩⟩, fun e5 => ⟨hK, gS9 H h' hkx ⟨hK, gS10 H h' hkx ⟨hK, ?_⟩⟩⟩⟩
      · refine m233 H h' hp hkx hky hfk hf1 (fun r lk2 t2 h2 hL2 => ⟨fun er => ?_, fun er => ?_⟩) k2
        · exact ⟨Or.inl rfl, k1 false lk2 t2 h2 (hL.trans hL2 (Nat.le_refl _))⟩
        · exact nx t2 lk2 h2 (hL.trans hL2 (Nat.le_refl _))
      · have e5 : eK (V x) = 6 := by
          rcases hk5 with z | z
          · exact absurd (by rw [z]; rfl) e5
          · exact z
        obtain ⟨cs, hcs⟩ := Option.ne_none_iff_exists'.mp (Rx.2.2.2.2.2.2.2.2.2 e5 _ (kid_mem z))
        obtain ⟨p, q1, q2, q3⟩ := (H.2.1 _ hkx).1.2.1.2 cs hcs
        have hok := (H.2.1 _ hkx).2.2.2.2.2.2.1 cs hcs
        rw [rS H h' (k := 10) (by decide) hkx, rS H h' (k := 11) (by decide) hkx, q1, q2]
        refine m219 H h' (d := d + 3 * f + 2) hy (by omega) (q3.wd (by decide)) hok ?_
        cases hm : mbV V y cs with
        | none => exact ⟨fun _ => ⟨Or.inl rfl, k1 false lk' t' h' hL⟩, fun e => absurd rfl e⟩
        | some o =>
          have hoc := (H.mem hy (mbV_in hm)).1
          refine ⟨fun e => absurd e (nI_m1 (by omega)), fun _ => ⟨hK, ?_⟩⟩
          refine m233 H h' hp hkx hoc hfk hf1 (fun r lk2 t2 h2 hL2 => ⟨fun er => ?_, fun er => ?_⟩) k2
          · exact ⟨Or.inl rfl, k1 false lk2 t2 h2 (hL.trans hL2 (Nat.le_refl _))⟩
          · exact nx t2 lk2 h2 (hL.trans hL2 (Nat.le_refl _))
    · rw [oIx_no (l := eS (V x)) (by omega)]
      exact ⟨fun _ => ⟨Or.inr rfl, k1 true lk' t' h' hL⟩, fun e => absurd rfl e⟩
/-- alike -/
theorem m231 (H : G0 t0 M S P V c) : ∀ f, P231 C t0 M V c d f := by
  intro f
  induction f with
  | zero => intro a b x1 x2 x3 x4 x5 x6 x7 x8 x9 x10 lk t Post h ha hb hf hf1; omega
  | succ f ih =>
    intro a b x1 x2 x3 x4 x5 x6 x7 x8 x9 x10 lk t Post h ha hb hf hf1 k1 k2
    obtain ⟨a0, rfl, a2, a3, a4, a5⟩ := ha
    obtain ⟨b0, rfl, b2, b3, b4, b5⟩ := hb
    show CalG C mtab (d + 3 * f + 5 + 1) 231 _ t Post
    refine cal231 ⟨fun e => absurd e (nI_m1 (by omega)), fun _ => ⟨fun e => absurd e (nI_m1 (by omega)), fun _ => ⟨kM H h, m214 H h (fun h' => ⟨rfl, ?_⟩) k2⟩⟩⟩
    have hK := kM H h'
    have hL : LK t0 V c M 36000 t (sI t M 23 (nI (lk + 1))) := LK.I
    generalize sI t M 23 (nI (lk + 1)) = t1 at h' hK hL ⊢
    have no : Post (.inl (some (svI 0))) t1 := k1 false _ t1 h' hL
    have yes : Post (.inl (some (svI 1))) t1 := k1 true _ t1 h' hL
    refine ⟨fun e => ?_, fun e => ⟨Or.inl rfl, no⟩⟩
    have e : kdV V a = kdV V b := (nI_eq (by omega) (by omega)).mp e
    have cont : 5 ≤ kdV V a → br (x4 = x9) (tK t1 M = 17 ∧ CalG C mtab (d + 3 * f + 5) 232 [svR (some M), svI x5, svI x10] t1 (aftV (fun v12 t13 => rI v12 (fun x17 => br (x17 = 0) (((0 : Int32) = 0 ∨ (0 : Int32) = 1) ∧ Post (.inl (some (svI (0 : Int32)))) t13) (((1 : Int32) = 0 ∨ (1 : Int32) = 1) ∧ Post (.inl (some (svI (1 : Int32)))) t13))) (fun k14 q15 t16 => Post (.inr (k14, q15)) t16))) (((0 : Int32) = 0 ∨ (0 : Int32) = 1) ∧ Post (.inl (some (svI (0 : Int32)))) t1) := by
      intro z5
      obtain ⟨x, rfl, rfl, rfl⟩ := a5 z5
      obtain ⟨y, rfl, rfl, rfl⟩ := b5 (by omega)
      have hx := a0 x rfl
      have hy := b0 y rfl
      have hlx := H.sl hx
      have hly := H.sl hy
      refine ⟨fun el => ?_, fun el => ⟨Or.inl rfl, no⟩⟩
      have el : (eS (V x)).length = (eS (V y)).length := (nI_eq (show (eS (V x)).length < _ by omega) (show (eS (V y)).length < _ by omega)).mp el
      have hff := hf x rfl
      refine ⟨hK, m232 H h' ih hx hy (by have a2 : eK (V x) < 7 := a2; have z5 : 5 ≤ eK (V x) := z5; omega) e el (by omega) (fun r lk2 t2 h2 hL2 => ?_) k2⟩
      exact ⟨fun w => ⟨Or.inl rfl, k1 false lk2 t2 h2 (hL.trans hL2 (Nat.le_refl _))⟩, fun w => ⟨Or.inr rfl, k1 true lk2 t2 h2 (hL.trans hL2 (Nat.le_refl _))⟩⟩
    refine ⟨fun e3 => ?_, fun e3 => ⟨fun e4 => ?_, fun e4 => ⟨fun e5 => cont (by have := (nI_eq (b := 5) (by omega) (by decide)).mp e5; omega), fun e5 => ⟨fun e6 => cont (by have := (nI_eq (b := 6) (by omega) (by decide)).mp e6; omega), fun e6 => ?_⟩⟩⟩⟩
    · exact ⟨fun w => ⟨Or.inr rfl, yes⟩, fun w => ⟨Or.inl rfl, no⟩⟩
    · have e4 : kdV V a = 4 := (nI_eq (b := 4) (by omega) (by decide)).mp e4
      obtain ⟨oa, p, rfl, rfl, ca⟩ := a4 e4
      obtain ⟨ob, q, rfl, rfl, cb⟩ := b4 (by omega)
      refine ⟨hK, m170 hK (by rw [h'.1.2.2.2.2.1]; exact H.1.2.2.1.1) (by rw [h'.1.2.2.1]; exact H.1.2.2.1.2.1) (by rw [h'.1.2.2.2.1]; exact H.1.2.2.1.2.2) (h'.1.ch ca) (h'.1.ch cb) (by decide) (by decide) oa ob ⟨bI01, k1 _ _ t1 h' hL⟩⟩
    · exact ⟨Or.inr rfl, yes⟩
end RF3
