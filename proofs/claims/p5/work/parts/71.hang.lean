/-! areSame AND hang, of the reference -/
section HG
variable {C : Cx} {d : Nat} {Post : OutT → Ht → Prop} {t t' : Ht} {M S : Nat} {b : By} {n i q : Nat} {V : VT} {c : Nat}
/-- areSame -/
theorem m170 {ch p p' lo lo' hi hi' : Nat} {cs cs' : List Nat} (hK : tK t M = 17) (hr : tR t M 6 = some ch) (hk : tK t ch = 101) (hl : tL t ch = 4800) (h1 : CH t ch p cs lo hi) (h2 : CH t ch p' cs' lo' hi') (hh : hi ≤ 4800) (hh' : hi' ≤ 4800) (ho : okC cs) (ho' : okC cs') (k : Post (.inl (some (svI (bI (decide (cs = cs')))))) t) : CalG C mtab (d + 1) 170 [svR (some M), svI (nI p), svI (nI cs.length), svI (nI p'), svI (nI cs'.length)] t Post := by
  have hc1 := ho.1
  have hc2 := ho'.1
  have hb1 := h1.2.1
  have hb2 := h2.2.1
  have fl : ¬ cs = cs' → Post (.inl (some (svI 0))) t := fun e => by rw [decide_eq_false e] at k; exact k
  have tr : cs = cs' → Post (.inl (some (svI 1))) t := fun e => by rw [decide_eq_true e] at k; exact k
  refine cal170 (fun m l5 l6 t' => t' = t ∧ ∃ j, l6 = nI j ∧ ((l5 = 1 ∧ m = cs.length + 1 - j ∧ cs.length = cs'.length ∧ j ≤ cs.length ∧ ∀ x, x < j → cs.getD x 0 = cs'.getD x 0) ∨ (l5 = 0 ∧ m = 0 ∧ ¬ cs = cs'))) ?_ ?_
  · refine ⟨fun e => ⟨cs.length + 1, rfl, rfl, rfl, rfl, rfl, rfl, 0, rfl, Or.inl ⟨rfl, rfl, (nI_eq (by omega) (by omega)).mp e, Nat.zero_le _, fun x hx => absurd hx (Nat.not_lt_zero _)⟩⟩, fun e => ⟨0, rfl, rfl, rfl, rfl, rfl, rfl, 0, rfl, Or.inr ⟨rfl, rfl, fun z => e (by rw [z])⟩⟩⟩
  · rintro m l5 l6 t' ⟨rfl, j, rfl, ⟨rfl, rfl, hlen, hj, hp⟩ | ⟨rfl, rfl, hne⟩⟩
    · refine ⟨fun z => absurd z (by decide), fun _ => ⟨fun z => ⟨Or.inr rfl, tr ?_⟩, fun z => ?_⟩⟩
      · have : cs.length ≤ j := (nI_leI (by omega) (by omega)).mp z
        exact eq_of_getD hlen (fun x hx => hp x (by omega))
      · have hj2 : j < cs.length := Nat.not_le.mp (fun y => z (nI_le y (by omega)))
        rw [nI_add, nI_add, hr]
        refine ⟨hK, hk, by rw [hl]; exact vp_in_nI (by omega) (by decide), hK, hk, by rw [hl]; exact vp_in_nI (by omega) (by decide), ?_⟩
        rw [nI_clamp (by omega), nI_clamp (by omega), h1.2.2 j hj2, h2.2.2 j (by omega), nI_1]
        refine ⟨fun e => ⟨cs.length + 1 - (j + 1), by omega, rfl, rfl, rfl, rfl, rfl, rfl, j + 1, rfl, Or.inl ⟨rfl, rfl, hlen, by omega, fun x hx => ?_⟩⟩, fun e => ⟨0, by omega, rfl, rfl, rfl, rfl, rfl, rfl, j + 1, rfl, Or.inr ⟨rfl, rfl, fun z => e (by rw [z])⟩⟩⟩
        by_cases y : x = j
        · subst y; exact (nI_eq (getD_lt ho) (getD_lt ho')).mp e
        · exact hp x (by omega)
    · exact ⟨fun _ => ⟨Or.inl rfl, fl hne⟩, fun z => absurd rfl z⟩
theorem vAdo_1 {p k x : Nat} {nm : Option (List Nat)} (hpk : p ≠ k) : (vAdo V p k nm x).1 = (V x).1 ∧ eC (vAdo V p k nm x) = eC (V x) := by
  unfold vAdo
  by_cases e : x = p
  · subst e; rw [up1_eq]; exact ⟨rfl, rfl⟩
  · rw [up1_ne e]
    by_cases e2 : x = k
    · subst e2; rw [up1_eq]; exact ⟨rfl, rfl⟩
    · rw [up1_ne e2]; exact ⟨rfl, rfl⟩
theorem vAdo_k {p k : Nat} {nm : Option (List Nat)} (hpk : p ≠ k) : vAdo V p k nm k = eNam (V k) nm (kIx (V p)) := by
  unfold vAdo
  rw [up1_ne (Ne.symm hpk), up1_eq]
set_option maxHeartbeats 1000000 in
/-- the table after hang -/
theorem RT.hang {p k : Nat} {nm : Option (List Nat)} {ch lo : Nat} (h : RT t S ch V c lo q) (hp : p < c) (hk : k < c) (hpk : p < k) (h5 : 5 ≤ eK (V p)) (hnx : tI t (S + 4) k = -1) (hU : eU (V k) = some p) (hlt : ∀ x ∈ eS (V p), x < k) (hn6 : eK (V p) = 6 → nm ≠ none)
    (hnm : ∀ cs, nm = some cs → okC cs ∧ ∃ z, tI t (S + 10) k = nI z ∧ tI t (S + 11) k = nI cs.length ∧ CH t ch z cs lo q) (hch : ∀ x, tI t' ch x = tI t ch x) (hJ : tJ t' = tJ t)
    (g1 : ∀ x j, 1 ≤ x → x ≤ 11 → (x ≠ 7 ∨ j ≠ k) → (x ≠ 2 ∨ j ≠ p) → (x ≠ 3 ∨ j ≠ p) → (x ≠ 6 ∨ j ≠ p) → (x ≠ 4 ∨ (eS (V p)).length = 0 ∨ j ≠ (eS (V p)).getD ((eS (V p)).length - 1) 0) → tI t' (S + x) j = tI t (S + x) j)
    (g7 : tI t' (S + 7) k = nI (eS (V p)).length) (g2 : tI t' (S + 2) p = oIx ((eS (V p) ++ [k])[0]?)) (g3 : tI t' (S + 3) p = nI k) (g6 : tI t' (S + 6) p = nI ((eS (V p)).length + 1)) (g4 : 0 < (eS (V p)).length → tI t' (S + 4) ((eS (V p)).getD ((eS (V p)).length - 1) 0) = nI k) : RT t' S ch (vAdo V p k nm) c lo q := by
  have hne : p ≠ k := by omega
  obtain ⟨Rp, Qp⟩ := h p hp
  obtain ⟨Rk, Qk⟩ := h k hk
  generalize hks : eS (V p) = ks at *
  have hl1 : ∀ x, x ∈ ks → p < x ∧ x < c ∧ eU (V x) = some p := fun x hx => Qp.2.2.1 x (by rw [hks]; exact hx)
  have hEU : ∀ x, eU (vAdo V p k nm x) = eU (V x) := fun x => congrArg (fun z => z.2.1) (vAdo_1 hne).1
  have hEK : ∀ x, eK (vAdo V p k nm x) = eK (V x) := fun x => congrArg (fun z => z.1) (vAdo_1 hne).1
  have hED : ∀ x, eD (vAdo V p k nm x) = eD (V x) := fun x => congrArg (fun z => z.2.2.1) (vAdo_1 hne).1
  have hEJ : ∀ x, eJ (vAdo V p k nm x) = eJ (V x) := fun x => congrArg (fun z => z.2.2.2) (vAdo_1 hne).1
  have hEC : ∀ x, eC (vAdo V p k nm x) = eC (V x) := fun x => (vAdo_1 hne).2
  have hENN : ∀ x, x ≠ k → eN (vAdo V p k nm x) = eN (V x) := fun x hx => by
    by_cases e : x = p
    · rw [e, vAdo_p]; rfl
    · rw [vAdo_lo e hx]
  have hCH : ∀ {z : Nat} {cs : List Nat}, CH t ch z cs lo q → CH t' ch z cs lo q := fun y => y.eq (Nat.le_refl _) (fun x _ _ => hch x)
  have hfar : ∀ j x, j < c → j ≠ p → x ∈ eS (V j) → ks.length = 0 ∨ x ≠ ks.getD (ks.length - 1) 0 := by
    intro j x hj hjp hx
    by_cases e : ks.length = 0
    · exact Or.inl e
    · refine Or.inr (fun z => ?_)
      have a1 := ((h j hj).2.2.2.1 x hx).2.2
      have a2 := (hl1 _ (kid_mem (l := ks) (i := ks.length - 1) (by omega))).2.2
      rw [← z, a1] at a2
      injection a2 with a2
      exact hjp a2
  intro j hj
  by_cases ejp : j = p
  · subst ejp
    have hE : eS (vAdo V j k nm j) = ks ++ [k] := by rw [vAdo_p]; show eS (V j) ++ [k] = _; rw [hks]
    have hX : eX (vAdo V j k nm j) = eX (V j) := by rw [vAdo_p]; rfl
    have hN : eN (vAdo V j k nm j) = eN (V j) := by rw [vAdo_p]; rfl
    obtain ⟨⟨a1, a2, a3, a4, a5, a6, a7, a8⟩, ⟨b1, b2⟩, b3⟩ := Rp
    obtain ⟨v1, v2, v3, v4, v5, v6, v7, v8, v9⟩ := Qp
    rw [hks] at b3 v4 v9
    refine ⟨?_, ?_⟩
    · unfold RE
      have hsz : szE (vAdo V j k nm j) = ks.length + 1 := by
        unfold szE
        rw [hEK, if_neg (by omega), hE, List.length_append]; rfl
      rw [hEK, hE, hEU, hX, hED, hEJ, hEC, hN, hsz, hJ]
      refine ⟨⟨(g1 1 j (by omega) (by omega) (Or.inl (by omega)) (Or.inl (by omega)) (Or.inl (by omega)) (Or.inl (by omega)) (Or.inl (by omega))).trans a1, g2, ?_, (g1 5 j (by omega) (by omega) (Or.inl (by omega)) (Or.inl (by omega)) (Or.inl (by omega)) (Or.inl (by omega)) (Or.inl (by omega))).trans a4, g6, fun x hx => (g1 7 j (by omega) (by omega) (Or.inr (by omega)) (Or.inl (by omega)) (Or.inl (by omega)) (Or.inl (by omega)) (Or.inl (by omega))).trans (a6 x hx), (g1 8 j (by omega) (by omega) (Or.inl (by omega)) (Or.inl (by omega)) (Or.inl (by omega)) (Or.inl (by omega)) (Or.inl (by omega))).trans a7, a8⟩, ⟨fun z => by omega, fun cs z => ?_⟩, fun x hx => ?_⟩
      · rw [g3, List.length_append]; simp; rfl
      · obtain ⟨y, y1, y2, y3⟩ := b2 cs z
        exact ⟨y, (g1 10 j (by omega) (by omega) (Or.inl (by omega)) (Or.inl (by omega)) (Or.inl (by omega)) (Or.inl (by omega)) (Or.inl (by omega))).trans y1, (g1 11 j (by omega) (by omega) (Or.inl (by omega)) (Or.inl (by omega)) (Or.inl (by omega)) (Or.inl (by omega)) (Or.inl (by omega))).trans y2, hCH y3⟩
      · rw [List.length_append] at hx
        have hx' : x < ks.length + 1 := hx
        by_cases e1 : x < ks.length
        · have eg : (ks ++ [k]).getD x 0 = ks.getD x 0 := by simp [List.getElem?_append_left e1]
          rw [eg]
          by_cases e2 : x + 1 < ks.length
          · rw [List.getElem?_append_left e2, ← b3 x e1]
            have := v4 x (ks.length - 1) (by omega) (by omega)
            exact g1 4 _ (by omega) (by omega) (Or.inl (by omega)) (Or.inl (by omega)) (Or.inl (by omega)) (Or.inl (by omega)) (Or.inr (Or.inr (by omega)))
          · have e3 : x = ks.length - 1 := by omega
            have e4 : x + 1 = ks.length := by omega
            rw [e4, e3, g4 (by omega)]
            simp; rfl
        · have e2 : x = ks.length := by omega
          have eg : (ks ++ [k]).getD x 0 = k := by rw [e2]; simp
          rw [eg]
          have e3 : (ks ++ [k])[x + 1]? = none := by rw [e2]; simp
          rw [e3]
          show tI t' (S + 4) k = -1
          rw [← hnx]
          refine g1 4 _ (by omega) (by omega) (Or.inl (by omega)) (Or.inl (by omega)) (Or.inl (by omega)) (Or.inl (by omega)) (Or.inr ?_)
          by_cases e5 : ks.length = 0
          · exact Or.inl e5
          · exact Or.inr (fun z => by have := hlt _ (kid_mem (l := ks) (i := ks.length - 1) (by omega)); omega)
    · unfold VQ
      rw [hEK, hE, hEU, hED, hEC, hN]
      refine ⟨v1, v2, fun x hx => ?_, fun x x' hx hx' => ?_, v5, v6, fun z => by omega, v8, fun z x hx => ?_⟩
      · rw [hEU]
        rcases List.mem_append.mp hx with hx | hx
        · exact hl1 x hx
        · rw [List.mem_singleton.mp hx]; exact ⟨hpk, hk, hU⟩
      · rw [List.length_append] at hx'
        have hx2 : x' < ks.length + 1 := hx'
        have eg : (ks ++ [k]).getD x 0 = ks.getD x 0 := by simp [List.getElem?_append_left (show x < ks.length by omega)]
        rw [eg]
        by_cases e1 : x' < ks.length
        · have eg' : (ks ++ [k]).getD x' 0 = ks.getD x' 0 := by simp [List.getElem?_append_left e1]
          rw [eg']; exact v4 x x' hx e1
        · have e2 : x' = ks.length := by omega
          have eg' : (ks ++ [k]).getD x' 0 = k := by rw [e2]; simp
          rw [eg']; exact hlt _ (kid_mem (by omega))
      · rcases List.mem_append.mp hx with hx | hx
        · rw [hENN x (by have := hlt x hx; omega)]; exact v9 z x hx
        · rw [List.mem_singleton.mp hx, vAdo_k hne]; exact hn6 z
  · obtain ⟨Rj, Qj⟩ := h j hj
    have hE : eS (vAdo V p k nm j) = eS (V j) := by
      by_cases e2 : j = k
      · rw [e2, vAdo_k hne]; rfl
      · rw [vAdo_lo ejp e2]
    have hsz : szE (vAdo V p k nm j) = szE (V j) := by unfold szE; rw [hEK, hEC, hE]
    obtain ⟨⟨a1, a2, a3, a4, a5, a6, a7, a8⟩, ⟨b1, b2⟩, b3⟩ := Rj
    obtain ⟨v1, v2, v3, v4, v5, v6, v7, v8, v9⟩ := Qj
    have gg : ∀ x, 1 ≤ x → x ≤ 11 → x ≠ 7 → x ≠ 4 → tI t' (S + x) j = tI t (S + x) j := fun x x1 x2 x3 x4 => g1 x j x1 x2 (Or.inl x3) (Or.inr ejp) (Or.inr ejp) (Or.inr ejp) (Or.inl x4)
    refine ⟨?_, ?_⟩
    · unfold RE
      rw [hEK, hE, hEU, hED, hEJ, hEC, hsz, hJ]
      refine ⟨⟨(gg 1 (by omega) (by omega) (by omega) (by omega)).trans a1, (gg 2 (by omega) (by omega) (by omega) (by omega)).trans a2, (gg 3 (by omega) (by omega) (by omega) (by omega)).trans a3, (gg 5 (by omega) (by omega) (by omega) (by omega)).trans a4, (gg 6 (by omega) (by omega) (by omega) (by omega)).trans a5, fun x hx => ?_, (gg 8 (by omega) (by omega) (by omega) (by omega)).trans a7, a8⟩, ⟨fun z => ?_, fun cs z => ?_⟩, fun x hx => ?_⟩
      · by_cases e2 : j = k
        · subst e2
          rw [vAdo_k hne] at hx
          have hx' : kIx (V p) = some x := hx
          unfold kIx at hx'
          split at hx'
          · injection hx' with hx'
            rw [g7, ← hx', hks]
          · cases hx'
        · rw [vAdo_lo ejp e2] at hx
          rw [g1 7 j (by omega) (by omega) (Or.inr e2) (Or.inl (by omega)) (Or.inl (by omega)) (Or.inl (by omega)) (Or.inl (by omega))]
          exact a6 x hx
      · obtain ⟨y, y1, y2⟩ := b1 z
        exact ⟨y, (gg 9 (by omega) (by omega) (by omega) (by omega)).trans y1, hCH y2⟩
      · by_cases e2 : j = k
        · subst e2
          rw [vAdo_k hne] at z
          have z' : nm = some cs := z
          obtain ⟨-, y, y1, y2, y3⟩ := hnm cs z'
          exact ⟨y, (gg 10 (by omega) (by omega) (by omega) (by omega)).trans y1, (gg 11 (by omega) (by omega) (by omega) (by omega)).trans y2, hCH y3⟩
        · rw [vAdo_lo ejp e2] at z
          obtain ⟨y, y1, y2, y3⟩ := b2 cs z
          exact ⟨y, (gg 10 (by omega) (by omega) (by omega) (by omega)).trans y1, (gg 11 (by omega) (by omega) (by omega) (by omega)).trans y2, hCH y3⟩
      · rw [← b3 x hx]
        exact g1 4 _ (by omega) (by omega) (Or.inl (by omega)) (Or.inl (by omega)) (Or.inl (by omega)) (Or.inl (by omega)) (Or.inr (hfar j _ hj ejp (kid_mem hx)))
    · unfold VQ
      rw [hEK, hE, hEU, hED, hEC]
      refine ⟨v1, v2, fun x hx => by rw [hEU]; exact v3 x hx, v4, v5, fun cs z => ?_, v7, v8, fun z x hx => ?_⟩
      · by_cases e2 : j = k
        · subst e2
          rw [vAdo_k hne] at z
          exact (hnm cs z).1
        · rw [vAdo_lo ejp e2] at z
          exact v6 cs z
      rw [hENN x (fun e => ?_)]
      · exact v9 z x hx
      · have := (v3 x hx).2.2
        rw [e, hU] at this
        injection this with this
        exact ejp this.symm
end HG
