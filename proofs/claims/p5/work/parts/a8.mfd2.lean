/-! THE REFERENCE'S FIND: named, element, within, the value at hand -/
section RF2
variable {C : Cx} {d : Nat} {Post : OutT → Ht → Prop} {t0 t t' t2 : Ht} {M S P : Nat} {V : VT} {c lk lk' : Nat} {l l' : List Nat} {bs : Nat}
theorem MF.ch {p lo hi : Nat} {cs : List Nat} (h : MF M t0 t) (g : CH t0 (M + 3) p cs lo hi) : CH t (M + 3) p cs lo hi := g.eq (Nat.le_refl _) (fun k _ _ => h.2.2.2.2.2.2 _ _ (Or.inl (by omega)) (Or.inl (by omega)) (by omega))
theorem CH.wd {ch p lo hi hi' : Nat} {cs : List Nat} (h : CH t ch p cs lo hi) (hh : hi ≤ hi') : CH t ch p cs 0 hi' := ⟨Nat.zero_le _, by have := h.2.1; omega, h.2.2⟩
theorem oIx_get {l : List Nat} {j : Nat} (h : j < l.length) : oIx l[j]? = nI (l.getD j 0) := by rw [kid_get h]; rfl
theorem oIx_no {l : List Nat} {j : Nat} (h : l.length ≤ j) : oIx l[j]? = -1 := by rw [List.getElem?_eq_none h]; rfl
theorem drop_get {l : List Nat} {j : Nat} (h : j < l.length) : l.drop j = l.getD j 0 :: l.drop (j + 1) := by
  rw [List.drop_eq_getElem_cons h]
  simp [h]
theorem G0.kid (H : G0 t0 M S P V c) {i j : Nat} (hi : i < c) (hj : j < (eS (V i)).length) : (eS (V i)).getD j 0 < c ∧ i < (eS (V i)).getD j 0 := by
  obtain ⟨h1, h2, -⟩ := (H.2.1 i hi).2.2.2.1 _ (kid_mem hj)
  exact ⟨h2, h1⟩
theorem G0.mem (H : G0 t0 M S P V c) {i x : Nat} (hi : i < c) (hx : x ∈ eS (V i)) : x < c ∧ i < x := by
  obtain ⟨h1, h2, -⟩ := (H.2.1 i hi).2.2.2.1 _ hx
  exact ⟨h2, h1⟩
theorem G0.sl (H : G0 t0 M S P V c) {i : Nat} (hi : i < c) : (eS (V i)).length ≤ 300 := by
  have hc := H.2.2.2.2
  have key : ∀ n, n ≤ (eS (V i)).length → n = 0 ∨ n ≤ (eS (V i)).getD (n - 1) 0 := by
    intro n
    induction n with
    | zero => intro _; exact Or.inl rfl
    | succ n ih =>
      intro hn
      right
      show n + 1 ≤ (eS (V i)).getD n 0
      rcases ih (by omega) with z | z
      · have := (H.kid hi (j := n) (by omega)).2; omega
      · by_cases e : n = 0
        · have := (H.kid hi (j := n) (by omega)).2; omega
        · have := (H.2.1 i hi).2.2.2.2.1 (n - 1) n (by omega) (by omega)
          omega
  rcases key _ (Nat.le_refl _) with z | z
  · omega
  · by_cases e : (eS (V i)).length = 0
    · omega
    · have := (H.kid hi (j := (eS (V i)).length - 1) (by omega)).1
      omega
section RD2
/-- named -/
theorem m219 (H : G0 t0 M S P V c) (h : GS t0 M t lk) {i p : Nat} {cs : List Nat} (hi : i < c) (h6 : eK (V i) = 6) (hp : CH t0 (M + 3) p cs 0 2400) (ho : okC cs) (k : Post (.inl (some (svI (oIx (mbV V i cs))))) t) : CalG C mtab (d + 2) 219 [svR (some M), svI (nI i), svI (nI p), svI (nI cs.length)] t Post := by
  have hK := kM H h
  have hc := H.2.2.2.2
  have R := H.2.1 i hi
  have hsl := H.sl hi
  unfold mbV at k
  rw [if_pos h6] at k
  refine cal219 (fun m l4 t' => t' = t ∧ ∃ j, m = (eS (V i)).length - j ∧ j ≤ (eS (V i)).length ∧ l4 = oIx (eS (V i))[j]? ∧ (eS (V i)).find? (fun k => eN (V k) == some cs) = ((eS (V i)).drop j).find? (fun k => eN (V k) == some cs)) ?_ ?_
  · refine ⟨hK, gS1 H h hi ?_⟩
    rw [rS H h (k := 2) (by decide) hi, R.1.1.2.1]
    exact ⟨_, rfl, rfl, rfl, rfl, rfl, 0, rfl, Nat.zero_le _, rfl, rfl⟩
  · rintro m l4 _ ⟨rfl, j, rfl, hj, rfl, e⟩
    by_cases z : j < (eS (V i)).length
    · have hk := H.kid hi z
      rw [oIx_get z]
      refine ⟨fun y => absurd y (nI_m1 (by omega)), fun _ => ?_⟩
      obtain ⟨cs', hcs⟩ := Option.ne_none_iff_exists'.mp (R.2.2.2.2.2.2.2.2.2 h6 _ (kid_mem z))
      obtain ⟨p', q1, q2, q3⟩ := (H.2.1 _ hk.1).1.2.1.2 cs' hcs
      have ho' := (H.2.1 _ hk.1).2.2.2.2.2.2.1 cs' hcs
      refine ⟨hK, gS9 H h hk.1 ⟨hK, gS10 H h hk.1 ⟨hK, ?_⟩⟩⟩
      rw [rS H h (k := 10) (by decide) hk.1, rS H h (k := 11) (by decide) hk.1, q1, q2]
      refine m170 hK (by rw [h.1.2.2.2.2.1]; exact H.1.2.2.1.1) (by rw [h.1.2.2.1]; exact H.1.2.2.1.2.1) (by rw [h.1.2.2.2.1]; exact H.1.2.2.1.2.2) (h.1.ch q3) (h.1.ch hp) (by decide) (by decide) ho' ho ?_
      rw [drop_get z, List.find?_cons, hcs] at e
      by_cases y : cs' = cs
      · subst y
        rw [show (some cs' == some cs') = true by simp] at e
        rw [e] at k
        rw [show decide (cs' = cs') = true by simp]
        exact ⟨fun z => absurd z (by decide), fun _ => k⟩
      · rw [show (some cs' == some cs) = false by simp [y]] at e
        rw [show decide (cs' = cs) = false by simp [y]]
        refine ⟨fun _ => ⟨hK, gS3 H h hk.1 ?_⟩, fun z => absurd rfl z⟩
        rw [rS H h (k := 4) (by decide) hk.1, R.1.2.2 j z]
        exact ⟨_, by omega, rfl, rfl, rfl, rfl, rfl, j + 1, rfl, by omega, rfl, e⟩
    · rw [oIx_no (by omega)]
      have ej : (eS (V i)).drop j = [] := List.drop_eq_nil_of_le (by omega)
      rw [ej] at e
      rw [e] at k
      exact ⟨fun _ => k, fun z => absurd rfl z⟩
/-- element -/
theorem m220 (H : G0 t0 M S P V c) (h : GS t0 M t lk) {i j : Nat} (hi : i < c) (hj : j < (eS (V i)).length) (k : Post (.inl (some (svI (nI ((eS (V i)).getD j 0))))) t) : CalG C mtab (d + 1) 220 [svR (some M), svI (nI i), svI (nI j)] t Post := by
  have hK := kM H h
  have hc := H.2.2.2.2
  have R := H.2.1 i hi
  have hsl := H.sl hi
  refine cal220 (fun m l3 l4 t' => t' = t ∧ ∃ y, m = j - y ∧ y ≤ j ∧ l3 = nI ((eS (V i)).getD y 0) ∧ l4 = nI y) ?_ ?_
  · refine ⟨hK, gS1 H h hi ?_⟩
    rw [rS H h (k := 2) (by decide) hi, R.1.1.2.1, oIx_get (by omega)]
    exact ⟨_, rfl, rfl, rfl, rfl, 0, rfl, Nat.zero_le _, rfl, rfl⟩
  · rintro m l3 l4 _ ⟨rfl, y, rfl, hy, rfl, rfl⟩
    refine ⟨fun z => ?_, fun z => ?_⟩
    · have : j ≤ y := (nI_leI (by omega) (by omega)).mp z
      have e : y = j := by omega
      rw [e]; exact k
    · have hy2 : y < j := Nat.not_le.mp (fun q => z (nI_le q (by omega)))
      have hk := H.kid hi (j := y) (by omega)
      refine ⟨hK, gS3 H h hk.1 ?_⟩
      rw [rS H h (k := 4) (by decide) hk.1, R.1.2.2 y (by omega), oIx_get (by omega), show nI y + 1 = nI (y + 1) from nI_add _ 1]
      exact ⟨_, by omega, rfl, rfl, rfl, rfl, y + 1, rfl, by omega, rfl, rfl⟩
/-- a node of the table, as a value -/
theorem VLg.node (H : G0 t0 M S P V c) {i : Nat} (hi : i < c) : VLg t0 M V c (.inl i) (tI t0 (S + 1) i) (tJ t0 (S + 12) i) (tI t0 (S + 9) i) (tI t0 (S + 6) i) (nI i) := by
  obtain ⟨⟨⟨a1, a2, a3, a4, a5, a6, a7, a8⟩, ⟨b1, b2⟩, b3⟩, ⟨v1, v2, v3, v4, v5, v6, v7, v8, v9⟩⟩ := H.2.1 i hi
  refine ⟨fun j e => by injection e with e; omega, a1, v1, fun z => a8, fun z => ?_, fun z => ?_⟩
  · obtain ⟨p, p1, p2⟩ := b1 z
    refine ⟨v5, p, p1, ?_, p2.wd (by decide)⟩
    rw [a5]
    unfold szE
    rw [if_pos (show eK (V i) = 4 from z)]; rfl
  · refine ⟨i, rfl, rfl, ?_⟩
    rw [a5]
    unfold szE
    have z' : 5 ≤ eK (V i) := z
    rw [if_neg (by omega)]; rfl
/-- ofValue -/
theorem m226 (H : G0 t0 M S P V c) (h : GS t0 M t lk) {i : Nat} (hi : i < c) (k : ∀ t', GS t0 M t' lk → LK t0 V c M 36000 t t' → VLs t0 M V c t' (some (.inl i)) → Post (.inl none) t') : CalG C mtab (d + 1) 226 [svR (some M), svI (nI i)] t Post := by
  have hK := kM H h
  refine cal226 ⟨hK, gS0 H h hi ?_⟩
  obtain ⟨u1, e1⟩ : ∃ u, u = sI t M 29 (tI t (S + 1) (nI i).toNatClampNeg) := ⟨_, rfl⟩
  rw [← e1]
  have h1 : GS t0 M u1 lk := by rw [e1]; exact h.I (by decide)
  refine ⟨hK, kM H h1, gS11 H h1 hi ⟨kM H h1, ?_⟩⟩
  obtain ⟨u2, e2⟩ : ∃ u, u = sJ u1 M 33 (tJ u1 (S + 12) (nI i).toNatClampNeg) := ⟨_, rfl⟩
  rw [← e2]
  have h2 : GS t0 M u2 lk := by rw [e2]; exact h1.J
  refine ⟨kM H h2, gS8 H h2 hi ⟨kM H h2, ?_⟩⟩
  obtain ⟨u3, e3⟩ : ∃ u, u = sI u2 M 30 (tI u2 (S + 9) (nI i).toNatClampNeg) := ⟨_, rfl⟩
  rw [← e3]
  have h3 : GS t0 M u3 lk := by rw [e3]; exact h2.I (by decide)
  refine ⟨kM H h3, gS5 H h3 hi ⟨kM H h3, ?_⟩⟩
  obtain ⟨u4, e4⟩ : ∃ u, u = sI u3 M 31 (tI u3 (S + 6) (nI i).toNatClampNeg) := ⟨_, rfl⟩
  rw [← e4]
  have h4 : GS t0 M u4 lk := by rw [e4]; exact h3.I (by decide)
  have fin : VLs t0 M V c (sI u4 M 32 (nI i)) (some (.inl i)) → Post (.inl none) (sI u4 M 32 (nI i)) := fun hv => by
    refine k _ (h4.I (by decide)) ⟨fun j _ => ?_, fun _ => ⟨_, hv⟩⟩ hv
    rw [sI_at (by omega), e4, sI_at (by omega), e3, sI_at (by omega), e2]
    show tI u1 (M + 49) j = _
    rw [e1, sI_at (by omega)]
  refine ⟨kM H h4, fin (Or.inr ⟨_, rfl, ?_⟩)⟩
  · have g := VLg.node H hi
    rw [rS H h (k := 1) (by decide) hi] at e1
    rw [rSJ H h1 (k := 12) (by decide) hi] at e2
    rw [rS H h2 (k := 9) (by decide) hi] at e3
    rw [rS H h3 (k := 6) (by decide) hi] at e4
    have q1 : tI (sI u4 M 32 (nI i)) M 29 = tI t0 (S + 1) i := by
      rw [sI_at (by omega), e4, sI_at (by omega), e3, sI_at (by omega), e2]
      show tI u1 M 29 = _
      rw [e1, sI_eq]
    have q2 : tJ (sI u4 M 32 (nI i)) M 33 = tJ t0 (S + 12) i := by
      show tJ u4 M 33 = _
      rw [e4]; show tJ u3 M 33 = _
      rw [e3]; show tJ u2 M 33 = _
      rw [e2, sJ_eq]
    have q3 : tI (sI u4 M 32 (nI i)) M 30 = tI t0 (S + 9) i := by
      rw [sI_at (by omega), e4, sI_at (by omega), e3, sI_eq]
    have q4 : tI (sI u4 M 32 (nI i)) M 31 = tI t0 (S + 6) i := by
      rw [sI_at (by omega), e4, sI_eq]
    rw [q1, q2, q3, q4, sI_eq]
    exact g
/-- ofNumber -/
theorem m227 (H : G0 t0 M S P V c) (h : GS t0 M t lk) {x : Int64} (k : ∀ t', GS t0 M t' lk → LK t0 V c M 36000 t t' → VLs t0 M V c t' (some (.inr (3, x, []))) → Post (.inl none) t') : CalG C mtab (d + 1) 227 [svR (some M), svJ x] t Post := by
  have hK := kM H h
  have h1 : GS t0 M (sI t M 29 3) lk := h.I (by decide)
  have hv : VLs t0 M V c (sJ (sI t M 29 3) M 33 x) (some (.inr (3, x, []))) := by
    refine Or.inr ⟨_, rfl, fun j e => (by cases e), ?_, (by show 3 < 7; decide), fun _ => sJ_eq, fun z => absurd z (by show ¬ 3 = 4; decide), fun z => absurd z (by show ¬ 5 ≤ 3; decide)⟩
    show tI (sI t M 29 3) M 29 = _
    rw [sI_eq]; rfl
  refine cal227 ⟨hK, hK, k _ h1.J ⟨fun j _ => ?_, fun _ => ⟨_, hv⟩⟩ hv⟩
  show tI (sI t M 29 3) (M + 49) j = _
  exact sI_at (by omega)
/-- within -/
theorem m221 {x lo hi : Int64} (k : Post (.inl (some (svJ (wiV x lo hi)))) t) : CalG C mtab (d + 1) 221 [svJ x, svJ lo, svJ hi] t Post := by
  unfold wiV at k
  refine cal221 ⟨fun z => ?_, fun z => ?_⟩
  · have z1 : ¬ x < lo := fun y => lg_le_not_lt ((lg_cmp_ge _ _).mp z) y
    rw [if_neg z1] at k
    refine ⟨fun y => ?_, fun y => ?_⟩
    · rw [if_neg (fun w => lg_le_not_lt ((lg_cmp_le _ _).mp y) w)] at k
      exact k
    · rw [if_pos (Int64.not_le.mp (fun w => y ((lg_cmp_le _ _).mpr w)))] at k
      exact k
  · rw [if_pos (Int64.not_le.mp (fun w => z ((lg_cmp_ge _ _).mpr w)))] at k
    exact k
end RD2
end RF2
