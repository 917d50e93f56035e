/-! THE REFERENCE'S FIND: the pieces of the table, pathOf, down, nodes -/
theorem nI_2k : ∀ lv, lv < 18 → (2 : Int32) * nI lv * 1000 = nI (2000 * lv) := by decide
section RF5
variable {C : Cx} {d : Nat} {Post : OutT → Ht → Prop} {t0 t t' t2 : Ht} {M S P : Nat} {V : VT} {c lk lk' f D : Nat} {l l' : List Nat} {bs : Nat}
theorem Qm.app {x y : QF} {m : Nat} {us : List Nat} (hm : m ≠ 6) (h : Qm t0 M P (.append x y) m us) : ∃ u r, us = u :: r ∧ u < 2400 ∧ tI t0 (P + 4) u = hdI r ∧ Qm t0 M P x m [u] ∧ Qm t0 M P y m r ∧ isTg x = true := by
  obtain ⟨F, hF, h⟩ := h
  unfold QM at h
  rw [if_neg hm] at h
  obtain ⟨u, r, e, h1, h2, ⟨F1, f1, f2, f3, f4⟩, h5⟩ := h
  exact ⟨u, r, e, hF u (f1 u f2), h2, ⟨F1, fun z hz => hF z (f1 z hz), f4⟩, ⟨F, hF, h5⟩, h1⟩
theorem Qm.nil {m : Nat} {us : List Nat} (h : Qm t0 M P .nil m us) : us = [] := by
  obtain ⟨F, hF, h⟩ := h
  exact h
theorem Qm.tag {x : QF} {m k a : Nat} (h : Qm t0 M P (.tag k x) m [a]) (h5 : m ≠ 5) (h8 : m ≠ 8) (h7 : ¬ (m = 7 ∧ k = 25)) : a < 2400 ∧ ∃ us, HM t0 P (M + 3) 1200 2400 m k x a us ∧ (cN m k = 99 ∨ Qm t0 M P x (cN m k) us) := by
  obtain ⟨F, hF, h⟩ := h
  unfold QM at h
  rw [if_neg h5, if_neg h8, if_neg h7] at h
  obtain ⟨a', us, F1, e, f1, f2, f3, f4, f5⟩ := h
  injection e with e
  subst e
  refine ⟨hF a f1, us, f4, ?_⟩
  rcases f5 with f5 | f5
  · exact Or.inl f5
  · exact Or.inr ⟨F1, fun z hz => hF z (f2 z hz), f5⟩
theorem Qm.seg {x : QF} {g a : Nat} (h : Qm t0 M P (.tag g x) 1 [a]) : a < 2400 ∧ tI t0 (P + 5) a = nI g ∧ g < 2 ∧ ∃ us, tI t0 (P + 2) a = hdI us ∧ Qm t0 M P x 2 us := by
  obtain ⟨h1, us, h2, h3⟩ := h.tag (by decide) (by decide) (by omega)
  unfold HM at h2
  rw [if_pos rfl] at h2
  rcases h3 with h3 | h3
  · exact absurd h3 (by show ¬ cN 1 g = 99; unfold cN; rw [if_pos rfl]; decide)
  · have e : cN 1 g = 2 := by unfold cN; rw [if_pos rfl]
    rw [e] at h3
    exact ⟨h1, h2.2.1, h2.2.2.2.2, us, h2.2.2.1, h3⟩
theorem Qm.pth {x : QF} {g a : Nat} (h : Qm t0 M P (.tag g x) 10 [a]) : a < 2400 ∧ tI t0 (P + 1) a = 25 ∧ tI t0 (P + 5) a = nI (1 - g % 2) ∧ ∃ us, tI t0 (P + 2) a = hdI us ∧ Qm t0 M P x 1 us := by
  obtain ⟨h1, us, h2, h3⟩ := h.tag (by decide) (by decide) (by omega)
  unfold HM at h2
  rw [if_neg (by decide), if_neg (by decide), if_neg (by decide), if_pos rfl] at h2
  have e : cN 10 g = 1 := by unfold cN; rw [if_neg (by decide), if_neg (by decide), if_neg (by decide), if_pos rfl]
  rw [e] at h3
  rcases h3 with h3 | h3
  · exact absurd h3 (by decide)
  · exact ⟨h1, h2.1, h2.2.1, us, h2.2.2.2.1, h3⟩
/-- pathOf -/
theorem m225 {x : QF} {g : Nat} (H : G0 t0 M S P V c) (r1 : R1 C t0 M P V c x) : R10 C t0 M P V c (.tag g x) := by
  intro a nd lv lk D t Post hq hg hf hD h hnd k1 k2
  obtain ⟨q1, -, q3, us, q4, q5⟩ := hq.pth
  have hg : g < 4 ∧ (2 ≤ g → sgL x = true) ∧ gdQ x 1 := hg
  have hf : fdQ x 1 + lv ≤ 16 := hf
  have hD : dqQ x 1 + 2 + 40 * fdQ x 1 + 140 ≤ D := hD
  have hK := kM H h
  obtain ⟨D, rfl⟩ : ∃ D', D = D' + 1 := ⟨D - 1, by omega⟩
  refine cal225 ⟨hK, gP1 H h q1 ⟨hK, gP4 H h q1 ?_⟩⟩
  rw [rP H h (k := 2) (by decide) q1, rP H h (k := 5) (by decide) q1, q3, q4]
  exact ⟨fun e => ⟨hK, r1 us nd lv lk D t _ q5 hg.2.2 hf (by omega) h hnd k1 k2⟩, fun e => ⟨hK, r1 us 0 lv lk D t _ q5 hg.2.2 hf (by omega) h H.2.2.2.1 k1 k2⟩⟩
theorem LsM.I {k : Nat} {v : Int32} (h : LsM M c t bs l) (h1 : k ≠ 27) (h2 : k ≠ 28) : LsM M c (sI t M k v) bs l := ⟨(sI_at (by omega)).trans h.1, (sI_at (by omega)).trans h.2.1, h.2.2.1, fun k hk => (sI_at (by omega)).trans (h.2.2.2.1 k hk), h.2.2.2.2⟩
/-- down -/
theorem m217 {x : QF} {lv : Nat} {us : List Nat} (H : G0 t0 M S P V c) (r2 : R2 C t0 M P V c x) (hq : Qm t0 M P x 2 us) (hg : gdQ x 2) (hv : fdQ x 2 + lv ≤ 16) (hD : dqQ x 2 + 40 * fdQ x 2 + 105 ≤ D) : ∀ (f nd : Nat) (l : List Nat) (t : Ht) (lk : Nat) (Post : OutT → Ht → Prop), nd < c → 31 ≤ f + eD (V nd) → GS t0 M t lk → LsM M c t (2000 * lv + 1000) l →
    (∀ l' lk' t', GS t0 M t' lk' → LK t0 V c M (2000 * lv + 1000 + l.length) t t' → LsM M c t' (2000 * lv + 1000) l' → l.length ≤ l'.length → Post (.inl none) t') →
    (∀ t', MF M t0 t' → Post (.inr (16, M + 1)) t') → CalG C mtab (D + f) 217 [svR (some M), svI (hdI us), svI (nI nd), svI (nI lv)] t Post := by
  have hc := H.2.2.2.2
  intro f
  induction f with
  | zero =>
    intro nd l t lk Post hnd hf
    have := (H.2.1 nd hnd).2.2.1
    omega
  | succ f ih =>
    intro nd l t lk Post hnd hf h hl k1 k2
    have Rn := H.2.1 nd hnd
    have Nn := (H.2.2.1 nd hnd).1
    refine cal217 (d := D + f) (fun n l4 t' => ∃ m l2 lk2, n = (eS (V nd)).length - m ∧ m ≤ (eS (V nd)).length ∧ l4 = oIx (eS (V nd))[m]? ∧ GS t0 M t' lk2 ∧ LsM M c t' (2000 * lv + 1000) l2 ∧ LK t0 V c M (2000 * lv + 1000 + l.length) t t' ∧ l.length ≤ l2.length) ?_ ?_
    · refine ⟨kM H h, ?_⟩
      obtain ⟨D0, rfl⟩ : ∃ D0, D = D0 + 2 := ⟨D - 2, by omega⟩
      rw [show D0 + 2 + f = D0 + f + 2 by omega]
      refine m214 H h (fun h' => ⟨rfl, kM H h', ?_⟩) k2
      have hl1 : LsM M c (sI t M 23 (nI (lk + 1))) (2000 * lv + 1000) l := hl.I (by decide) (by decide)
      refine r2 us nd lv (lk + 1) _ l _ _ hq hg hv (by omega) h' hnd hl1 (fun l2 lk2 t2 h2 hL2 hl2 hle2 => ⟨rfl, kM H h2, gS1 H h2 hnd ?_⟩) k2
      rw [rS H h2 (k := 2) (by decide) hnd, Rn.1.1.2.1]
      exact ⟨_, rfl, rfl, rfl, rfl, 0, l2, lk2, rfl, Nat.zero_le _, rfl, h2, hl2, (LK.I).trans hL2 (Nat.le_refl _), hle2⟩
    · rintro n l4 t' ⟨m, l2, lk2, rfl, hm, rfl, h', hl', hL, hle2⟩
      by_cases z : m < (eS (V nd)).length
      · have hk := H.kid hnd z
        rw [oIx_get z]
        have hdk := (Nn.2.1 m z).2.2.2
        refine ⟨fun e => absurd e (nI_m1 (by omega)), fun _ => ⟨kM H h', ?_⟩⟩
        refine ih _ l2 t' lk2 _ hk.1 (by omega) h' hl' (fun l3 lk3 t3 h3 hL3 hl3 hle4 => ⟨rfl, kM H h3, gS3 H h3 hk.1 ?_⟩) k2
        rw [rS H h3 (k := 4) (by decide) hk.1, Rn.1.2.2 m z]
        exact ⟨_, (by omega : (eS (V nd)).length - (m + 1) < (eS (V nd)).length - m), rfl, rfl, rfl, rfl, m + 1, l3, lk3, rfl, by omega, rfl, h3, hl3, hL.trans hL3 (by omega), by omega⟩
      · rw [oIx_no (by omega)]
        exact ⟨fun _ => k1 l2 lk2 t' h' hL hl' hle2, fun e => absurd rfl e⟩
end RF5
