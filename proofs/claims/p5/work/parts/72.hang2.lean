/-! hang, the call -/
section HG2
variable {C : Cx} {d : Nat} {Post : OutT → Ht → Prop} {t t' : Ht} {M S : Nat} {b : By} {n i q : Nat} {V : VT} {c : Nat}
set_option maxHeartbeats 1000000 in
theorem m175 {p k : Nat} {nm : Option (List Nat)} (h : VS t M S b n i q V c) (hp : p < c) (hk : k < c) (hpk : p < k) (h5 : 5 ≤ eK (V p)) (hnx : tI t (S + 4) k = -1) (hU : eU (V k) = some p) (hlt : ∀ x ∈ eS (V p), x < k) (hn6 : eK (V p) = 6 → nm ≠ none)
    (hnm : ∀ cs, nm = some cs → okC cs ∧ ∃ z, tI t (S + 10) k = nI z ∧ tI t (S + 11) k = nI cs.length ∧ CH t (M + 3) z cs 2400 q)
    (kk : ∀ t', VS t' M S b n i q (vAdo V p k nm) c → MZ M S t t' → AG S (M + 3) p q t t' → tI t' (S + 4) p = tI t (S + 4) p → Post (.inl none) t') : CalG C mtab (d + 1) 175 [svR (some M), svI (nI p), svI (nI k)] t Post := by
  obtain ⟨hB, hi, hS, hR, ⟨h1, h2, h3⟩, h4, h6⟩ := h
  obtain ⟨hS0, hK, h11, h15, hA, hA2, hA3⟩ := hS
  obtain ⟨Rp, Qp⟩ := hR p hp
  obtain ⟨⟨a1, a2, a3, a4, a5, a6, a7, a8⟩, -, b3⟩ := Rp
  have hlen : szE (V p) = (eS (V p)).length := by unfold szE; rw [if_neg (by omega)]
  rw [hlen] at a5
  have hpin : vp_in (nI p) 300 := vp_in_nI (by omega) (by decide)
  have hkin : vp_in (nI k) 300 := vp_in_nI (by omega) (by decide)
  have cp : (nI p).toNatClampNeg = p := nI_clamp (by omega)
  have ck : (nI k).toNatClampNeg = k := nI_clamp (by omega)
  have hl : 0 < (eS (V p)).length → (eS (V p)).getD ((eS (V p)).length - 1) 0 < c ∧ p < (eS (V p)).getD ((eS (V p)).length - 1) 0 := fun z => by
    have := Qp.2.2.1 _ (kid_mem (l := eS (V p)) (i := (eS (V p)).length - 1) (by omega))
    exact ⟨this.2.1, this.1⟩
  generalize hks : eS (V p) = ks at *
  have fin : ∀ t2, (∃ y j, tN t2 = tN t ∧ t2 = sI (sI t (S + 7) k (nI ks.length)) (S + y) j (nI k) ∧ ((ks.length = 0 ∧ y = 2 ∧ j = p) ∨ (0 < ks.length ∧ y = 4 ∧ j = ks.getD (ks.length - 1) 0))) → Post (.inl none) (sI (sI t2 (S + 3) p (nI k)) (S + 6) p (nI (ks.length + 1))) := by
    rintro t2 ⟨y, j, -, rfl, hy⟩
    have hyr : 1 ≤ y ∧ y ≤ 11 ∧ y ≠ 7 ∧ y ≠ 3 ∧ y ≠ 6 := by omega
    have rd : ∀ x z, tI (sI (sI (sI (sI t (S + 7) k (nI ks.length)) (S + y) j (nI k)) (S + 3) p (nI k)) (S + 6) p (nI (ks.length + 1))) x z = if x = S + 6 ∧ z = p then nI (ks.length + 1) else if x = S + 3 ∧ z = p then nI k else if x = S + y ∧ z = j then nI k else if x = S + 7 ∧ z = k then nI ks.length else tI t x z := fun x z => by simp [ht]
    generalize ht2 : sI (sI (sI (sI t (S + 7) k (nI ks.length)) (S + y) j (nI k)) (S + 3) p (nI k)) (S + 6) p (nI (ks.length + 1)) = t4 at *
    have hz : MZ M S t t4 := by
      rw [← ht2]
      exact (MZ.I (by omega) (by omega)).trans ((MZ.I (by omega) (by omega)).trans ((MZ.I (by omega) (by omega)).trans (MZ.I (by omega) (by omega))))
    have hJ : tJ t4 = tJ t := by rw [← ht2]; rfl
    have hRT : RT t4 S (M + 3) (vAdo V p k nm) c 2400 q := by
      refine hR.hang hp hk hpk h5 hnx hU (by rw [hks]; exact hlt) hn6 hnm (fun x => ?_) hJ (fun x z x1 x2 y1 y2 y3 y4 y5 => ?_) ?_ ?_ ?_ ?_ ?_
      · rw [rd, if_neg (by omega), if_neg (by omega), if_neg (by omega), if_neg (by omega)]
      · rw [hks] at y5
        rw [rd, if_neg (by omega), if_neg (by omega), if_neg (by rintro ⟨z1, z2⟩; have : x = y := by omega
                                                                 omega), if_neg (by omega)]
      · rw [rd, if_neg (by omega), if_neg (by omega), if_neg (by omega), if_pos ⟨rfl, rfl⟩, hks]
      · rw [rd, if_neg (by omega), if_neg (by omega), hks]
        rcases hy with ⟨e1, rfl, rfl⟩ | ⟨e1, rfl, rfl⟩
        · rw [if_pos ⟨rfl, rfl⟩, List.length_eq_zero_iff.mp e1]; rfl
        · rw [if_neg (by omega), if_neg (by omega), a2, List.getElem?_append_left e1]
      · rw [rd, if_neg (by omega), if_pos ⟨rfl, rfl⟩]
      · rw [rd, if_pos ⟨rfl, rfl⟩, hks]
      · intro e0
        rw [hks] at e0 ⊢
        rcases hy with ⟨e1, rfl, rfl⟩ | ⟨e1, rfl, rfl⟩
        · omega
        · rw [rd, if_neg (by omega), if_neg (by omega), if_pos ⟨rfl, rfl⟩]
    have hag : AG S (M + 3) p q t t4 := by
      refine ⟨fun x z x1 x2 x3 => ?_, fun z _ => by rw [hJ], fun z _ => ?_⟩
      · have hjp : p ≤ j := by
          rcases hy with ⟨e1, -, rfl⟩ | ⟨e1, -, rfl⟩
          · omega
          · have := hl e1; omega
        rw [rd, if_neg (by omega), if_neg (by omega), if_neg (by omega), if_neg (by omega)]
      · rw [rd, if_neg (by omega), if_neg (by omega), if_neg (by omega), if_neg (by omega)]
    have hne : p ≠ k := by omega
    refine kk t4 ⟨hB.same hz.2.2.1 hz.2.2.2.1 hz.2.2.2.2.1 (fun z => ?_) (fun z => ?_), hi, MSh.eq ⟨hS0, hK, h11, h15, hA, hA2, hA3⟩ hz.2.2.1 hz.2.2.2.1 hz.2.2.2.2.1, hRT, ⟨?_, ?_, h3⟩, h4, h6⟩ hz hag ?_
    · rw [rd, if_neg (by omega), if_neg (by omega), if_neg (by omega), if_neg (by omega)]
    · rw [rd, if_neg (by omega), if_neg (by omega), if_neg (by omega), if_neg (by omega)]
    · rw [rd, if_neg (by omega), if_neg (by omega), if_neg (by omega), if_neg (by omega)]; exact h1
    · rw [rd, if_neg (by omega), if_neg (by omega), if_neg (by omega), if_neg (by omega), mxD_eq (V := V) (V' := vAdo V p k nm) (fun x _ => congrArg (fun z => z.2.2.1) (vAdo_1 hne).1)]; exact h2
    · rw [rd, if_neg (by omega), if_neg (by omega), if_neg ?_, if_neg (by omega)]
      rintro ⟨z1, z2⟩
      rcases hy with ⟨e1, rfl, -⟩ | ⟨e1, -, z3⟩
      · omega
      · have := hl e1; omega
  refine cal175 (fun m t' => m = 2 ∧ t' = sI t (S + 7) k (nI ks.length)) (fun m t' => m = 1 ∧ ∃ y j, tN t' = tN t ∧ t' = sI (sI t (S + 7) k (nI ks.length)) (S + y) j (nI k) ∧ ((ks.length = 0 ∧ y = 2 ∧ j = p) ∨ (0 < ks.length ∧ y = 4 ∧ j = ks.getD (ks.length - 1) 0))) ?_ ?_ ?_
  · refine ⟨hK, onS h11 ⟨h15, hK, onS h11 ⟨h15, onS (hA 5 (by omega)).1 ⟨hA2 5 (by omega), ?_, onS (hA 6 (by omega)).1 ⟨hA2 6 (by omega), ?_, 2, rfl, rfl, rfl, rfl, ?_⟩⟩⟩⟩⟩
    · rw [(hA 5 (by omega)).2]; exact hpin
    · rw [(hA 6 (by omega)).2]; exact hkin
    · rw [cp, ck, show S + 1 + 5 = S + 6 by omega, show S + 1 + 6 = S + 7 by omega, a5]
  · rintro m t' ⟨rfl, rfl⟩
    have e2 : tI (sI t (S + 7) k (nI ks.length)) (S + 2) p = oIx ks[0]? := by rw [sI_at (by omega)]; exact a2
    have e3 : tI (sI t (S + 7) k (nI ks.length)) (S + 3) p = oIx ks[ks.length - 1]? := by rw [sI_at (by omega)]; exact a3
    refine ⟨hK, onS h11 ⟨h15, onS (hA 1 (by omega)).1 ⟨hA2 1 (by omega), ?_, ?_⟩⟩⟩
    · show vp_in _ (tL t (S + 1 + 1)); rw [(hA 1 (by omega)).2]; exact hpin
    · rw [cp, show S + 1 + 1 = S + 2 by omega, e2]
      refine ⟨fun e => ?_, fun e => ?_⟩
      · have e0 : ks.length = 0 := by
          rcases Nat.eq_zero_or_pos ks.length with z | z
          · exact z
          · have hc0 := (Qp.2.2.1 (ks.getD 0 0) (by rw [hks]; exact kid_mem z)).2.1
            rw [kid_get z] at e
            have e' : nI (ks.getD 0 0) = -1 := e
            exact absurd (show nI (ks.getD 0 0) < 0 by rw [e']; decide) (nI_pos (by omega))
        refine ⟨hK, onS h11 ⟨h15, onS (hA 1 (by omega)).1 ⟨hA2 1 (by omega), ?_, 1, by decide, rfl, rfl, rfl, rfl, 2, p, rfl, ?_, Or.inl ⟨e0, rfl, rfl⟩⟩⟩⟩
        · show vp_in _ (tL t (S + 1 + 1)); rw [(hA 1 (by omega)).2]; exact hpin
        · rw [show S + 1 + 1 = S + 2 by omega]
      · have e0 : 0 < ks.length := by
          rcases Nat.eq_zero_or_pos ks.length with z | z
          · rw [List.length_eq_zero_iff.mp z] at e; exact absurd rfl e
          · exact z
        have hlc := hl e0
        rw [kid_get (l := ks) (i := ks.length - 1) (by omega)] at e3
        have e3' : tI (sI t (S + 7) k (nI ks.length)) (S + 3) p = nI (ks.getD (ks.length - 1) 0) := e3
        refine ⟨hK, onS h11 ⟨h15, hK, onS h11 ⟨h15, onS (hA 2 (by omega)).1 ⟨hA2 2 (by omega), ?_, onS (hA 3 (by omega)).1 ⟨hA2 3 (by omega), ?_, 1, by decide, rfl, rfl, rfl, rfl, 4, _, rfl, ?_, Or.inr ⟨e0, rfl, rfl⟩⟩⟩⟩⟩⟩
        · show vp_in _ (tL t (S + 1 + 2)); rw [(hA 2 (by omega)).2]; exact hpin
        · show vp_in _ (tL t (S + 1 + 3))
          rw [(hA 3 (by omega)).2, show S + 1 + 2 = S + 3 by omega, e3']
          exact vp_in_nI (by omega) (by decide)
        · rw [show S + 1 + 2 = S + 3 by omega, e3', show S + 1 + 3 = S + 4 by omega, nI_clamp (n := ks.getD (ks.length - 1) 0) (by omega)]
  · rintro m t' ⟨rfl, hy⟩
    have hy0 := hy
    obtain ⟨y, j, -, ht', hy⟩ := hy
    have hyr : 1 ≤ y ∧ y ≤ 11 ∧ y ≠ 7 ∧ y ≠ 3 ∧ y ≠ 6 := by omega
    have kR : tR t' = tR t := by rw [ht']; rfl
    have kK : tK t' = tK t := by rw [ht']; rfl
    have kL : tL t' = tL t := by rw [ht']; rfl
    have e6 : tI (sI t' (S + 3) p (nI k)) (S + 6) p = nI ks.length := by
      rw [sI_at (by omega), ht', sI_at (by omega), sI_at (by omega)]; exact a5
    have f := fin t' hy0
    clear ht' hy0
    have g11 : tR t' M 11 = some S := by rw [kR]; exact h11
    have gK : tK t' M = 17 := by rw [kK]; exact hK
    have g15 : tK t' S = 15 := by rw [kK]; exact h15
    have gA : ∀ k, k < 11 → tR t' S k = some (S + 1 + k) ∧ tL t' (S + 1 + k) = 300 ∧ tK t' (S + 1 + k) = 101 := fun k hk => by rw [kR, kL, kK]; exact ⟨(hA k (by omega)).1, (hA k (by omega)).2, hA2 k hk⟩
    refine ⟨gK, onS g11 ⟨g15, onS (gA 2 (by omega)).1 ⟨(gA 2 (by omega)).2.2, ?_, gK, onS g11 ⟨g15, onS (gA 5 (by omega)).1 ⟨(gA 5 (by omega)).2.2, ?_, onS (gA 5 (by omega)).1 ⟨(gA 5 (by omega)).2.2, ?_, ?_⟩⟩⟩⟩⟩⟩
    · rw [(gA 2 (by omega)).2.1]; exact hpin
    · show vp_in _ (tL t' (S + 1 + 5)); rw [(gA 5 (by omega)).2.1]; exact hpin
    · show vp_in _ (tL t' (S + 1 + 5)); rw [(gA 5 (by omega)).2.1]; exact hpin
    · rw [cp, show S + 1 + 2 = S + 3 by omega, show S + 1 + 5 = S + 6 by omega, e6, nI_1]
      exact f
end HG2
