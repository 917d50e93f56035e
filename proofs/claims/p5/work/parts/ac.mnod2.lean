/-! THE REFERENCE'S FIND: nodes -/
section RF6
variable {C : Cx} {d : Nat} {Post : OutT → Ht → Prop} {t0 t t' t2 : Ht} {M S P : Nat} {V : VT} {c lk lk' f D lv : Nat} {l l' : List Nat} {bs : Nat}
theorem LsM.b (h : LsM M c t bs l) : LsM M c (sI t M 27 (nI bs)) bs l := ⟨sI_eq, (sI_at (by omega)).trans h.2.1, h.2.2.1, fun k hk => (sI_at (by omega)).trans (h.2.2.2.1 k hk), h.2.2.2.2⟩
theorem LsF.I {k : Nat} {v : Int32} (h : LsF M c t lv l) : LsF M c (sI t M k v) lv l := ⟨h.1, fun k hk => (sI_at (by omega)).trans (h.2.1 k hk), h.2.2⟩
theorem LsF.go {K : Nat} (h : LsF M c t lv l) (g : LK t0 V c M K t t') (hK : 2000 * lv + 1000 ≤ K) : LsF M c t' lv l := ⟨h.1, fun k hk => (g.1 _ (by have := h.1; omega)).trans (h.2.1 k hk), h.2.2⟩
theorem hdI_c {u : Nat} {r : List Nat} : hdI (u :: r) = nI u := rfl
/-- the segments that are left, behind part u -/
def NxS (C : Cx) (t0 : Ht) (M P : Nat) (V : VT) (c lv D : Nat) (y : QF) (r : List Nat) : Prop := Qm t0 M P y 1 r ∧ gdQ y 1 ∧ fdQ y 1 + lv ≤ 16 ∧ dqQ y 1 + 40 * fdQ y 1 + 139 ≤ D ∧ ∀ z ∈ qE y, ∀ g w, z = .tag g w → R2 C t0 M P V c w
set_option maxHeartbeats 1000000 in
theorem m216 {x : QF} (H : G0 t0 M S P V c) (r2 : ∀ z ∈ qE x, ∀ g w, z = .tag g w → R2 C t0 M P V c w) : R1 C t0 M P V c x := by
  intro us rt lv lk D t Post hq hg hf hD h hrt k1 k2
  have hc := H.2.2.2.2
  have hK := kM H h
  obtain ⟨D, rfl⟩ : ∃ D', D = D' + 1 := ⟨D - 1, by omega⟩
  have e2k := nI_2k lv (by omega)
  obtain ⟨J31, hJ31⟩ : ∃ J : Nat → Int32 → Int32 → Int32 → Int32 → Ht → Prop, J = fun n l4 l5 l6 l7 t' => ∃ (y : QF) (r l : List Nat) (lk' : Nat), n = 4000 * (qE y).length ∧ l4 = nI (2000 * lv) ∧ l5 = nI (2000 * lv + 1000) ∧ l6 = nI l.length ∧ l7 = hdI r ∧ NxS C t0 M P V c lv D y r ∧ GS t0 M t' lk' ∧ LK t0 V c M (2000 * lv) t t' ∧ LsF M c t' lv l := ⟨_, rfl⟩
  obtain ⟨J51, hJ51⟩ : ∃ J : Nat → Int32 → Int32 → Int32 → Int32 → Int32 → Ht → Prop, J = fun n l4 l5 l6 l7 l8 t' => ∃ (g : Nat) (w y : QF) (u : Nat) (r ws l acc : List Nat) (j lk' : Nat), n = 4000 * (qE y).length + 2000 + (l.length - j) ∧ (l4 = nI (2000 * lv) ∧ l5 = nI (2000 * lv + 1000) ∧ l6 = nI l.length ∧ l7 = nI u ∧ l8 = nI j ∧ j ≤ l.length) ∧ (u < 2400 ∧ tI t0 (P + 4) u = hdI r ∧ NxS C t0 M P V c lv D y r) ∧
    (tI t0 (P + 5) u = nI g ∧ g < 2 ∧ tI t0 (P + 2) u = hdI ws ∧ Qm t0 M P w 2 ws ∧ R2 C t0 M P V c w ∧ gdQ w 2 ∧ fdQ w 2 + lv ≤ 16 ∧ dqQ w 2 + 40 * fdQ w 2 + 139 ≤ D) ∧ GS t0 M t' lk' ∧ LK t0 V c M (2000 * lv) t t' ∧ LsF M c t' lv l ∧ LsM M c t' (2000 * lv + 1000) acc := ⟨_, rfl⟩
  obtain ⟨J142, hJ142⟩ : ∃ J : Nat → Int32 → Int32 → Int32 → Int32 → Int32 → Ht → Prop, J = fun n l4 l5 l6 l7 l8 t' => ∃ (y : QF) (u : Nat) (r l : List Nat) (j lk' : Nat), n = 4000 * (qE y).length + 1 + (l.length - j) ∧ (l4 = nI (2000 * lv) ∧ l5 = nI (2000 * lv + 1000) ∧ l6 = nI l.length ∧ l7 = nI u ∧ l8 = nI j ∧ j ≤ l.length) ∧ (u < 2400 ∧ tI t0 (P + 4) u = hdI r ∧ NxS C t0 M P V c lv D y r) ∧
    GS t0 M t' lk' ∧ LK t0 V c M (2000 * lv) t t' ∧ (l.length ≤ 1000 ∧ (∀ k, k < l.length → tI t' (M + 49) (2000 * lv + 1000 + k) = nI (l.getD k 0)) ∧ (∀ k, k < j → tI t' (M + 49) (2000 * lv + k) = nI (l.getD k 0)) ∧ ∀ x ∈ l, x < c) := ⟨_, rfl⟩
  refine cal216 J31 J51 J142 ?_ ?_ ?_ ?_
  · refine ⟨hK, ?_⟩
    rw [e2k]
    refine gL H h (by omega) ?_
    rw [nI_clamp (by omega), show nI (2000 * lv) + 1000 = nI (2000 * lv + 1000) from nI_add _ 1000]
    refine ⟨4000 * (qE x).length, rfl, rfl, rfl, rfl, ?_⟩
    rw [hJ31]
    refine ⟨x, us, [rt], lk, rfl, rfl, rfl, rfl, rfl, ⟨hq, hg, hf, by omega, r2⟩, h.L, LK.L (Nat.le_refl _), ⟨by show 1 ≤ 1000; decide, fun k hk => ?_, fun z hz => by rw [List.mem_singleton.mp hz]; exact hrt⟩⟩
    have hk : k < 1 := hk
    obtain rfl : k = 0 := by omega
    exact sI_eq
  · intro n l4 l5 l6 l7 t' hJ
    rw [hJ31] at hJ
    obtain ⟨y, r, l, lk', rfl, rfl, rfl, rfl, rfl, hN, h', hL, hF⟩ := hJ
    have hK' := kM H h'
    have hqL := gd_qL y 1 (by decide) hN.2.1
    cases y with
    | nil =>
      have := hN.1.nil
      subst this
      exact ⟨fun _ => k1 l lk' t' h' hL hF, fun e => absurd rfl e⟩
    | append s y =>
      obtain ⟨hq', hg', hf', hD', hr2⟩ := hN
      obtain ⟨u, r', rfl, hu, hnx, qs, qy, htg⟩ := hq'.app (by decide)
      obtain ⟨g, w, rfl⟩ : ∃ g w, s = .tag g w := by
        cases s with
        | tag g w => exact ⟨g, w, rfl⟩
        | _ => cases htg
      obtain ⟨-, s2, s3, ws, s4, s5⟩ := qs.seg
      have hg' : (g ≤ 1 ∧ gdQ w 2) ∧ gdQ y 1 := hg'
      have hf' : max (fdQ w 2) (fdQ y 1) + lv ≤ 16 := hf'
      have hD' : max (dqQ w 2 + 2) (dqQ y 1) + 40 * max (fdQ w 2) (fdQ y 1) + 139 ≤ D := hD'
      have n1 : NxS C t0 M P V c lv D y r' := ⟨qy, hg'.2, by omega, by omega, fun z hz => hr2 z (List.mem_cons_of_mem _ hz)⟩
      rw [hdI_c]
      refine ⟨fun e => absurd e (nI_m1 (by omega)), fun _ => ⟨hK', hK', ?_⟩⟩
      refine ⟨4000 * (qE y).length + 2000 + (l.length - 0), ?_, rfl, rfl, rfl, rfl, ?_⟩
      · show _ < 4000 * ((qE y).length + 1)
        have := hF.1
        omega
      rw [hJ51]
      refine ⟨g, w, y, u, r', ws, l, [], 0, lk', rfl, ⟨rfl, rfl, rfl, rfl, rfl, Nat.zero_le _⟩, ⟨hu, hnx, n1⟩, ⟨s2, s3, s4, s5, hr2 (.tag g w) (by show Std.Format.tag g w ∈ Std.Format.tag g w :: qE y; simp) g w rfl, hg'.1.2, by omega, by omega⟩, (h'.I (by decide)).I (by decide), (hL.trans LK.I (Nat.le_refl _)).trans LK.I (Nat.le_refl _), hF.I.I, ⟨?_, sI_eq, by show 0 ≤ 1000; omega, fun k hk => absurd hk (Nat.not_lt_zero _), fun z hz => by cases hz⟩⟩
      rw [sI_at (by omega), sI_eq]
    | _ => cases hqL
  · intro n l4 l5 l6 l7 l8 t' hJ
    rw [hJ51] at hJ
    obtain ⟨g, w, y, u, r, ws, l, acc, j, lk', rfl, ⟨rfl, rfl, rfl, rfl, rfl, hj⟩, ⟨hu, hnx, hN⟩, ⟨s2, s3, s4, s5, s6, s7, s8, s9⟩, h', hL, hF, hA⟩ := hJ
    have hK' := kM H h'
    have hl1 := hF.1
    refine ⟨fun e => ⟨hK', ?_⟩, fun e => ⟨hK', ?_⟩⟩
    · have e : l.length ≤ j := (nI_leI (by omega) (by omega)).mp e
      rw [hA.2.1]
      refine ⟨4000 * (qE y).length + 1 + (acc.length - 0), by have := hA.2.2.1; omega, rfl, rfl, rfl, rfl, ?_⟩
      rw [hJ142]
      exact ⟨y, u, r, acc, 0, lk', rfl, ⟨rfl, rfl, rfl, rfl, rfl, Nat.zero_le _⟩, ⟨hu, hnx, hN⟩, h', hL, ⟨hA.2.2.1, hA.2.2.2.1, fun k hk => absurd hk (Nat.not_lt_zero _), hA.2.2.2.2⟩⟩
    · have hj2 : j < l.length := Nat.not_le.mp (fun z => e (nI_le z (by omega)))
      rw [nI_add]
      refine gL H h' (by omega) ⟨hK', gP4 H h' hu ?_⟩
      have hmem := hF.2.2 _ (kid_mem hj2)
      rw [rP H h' (k := 5) (by decide) hu, nI_clamp (show 2000 * lv + j < _ by omega), hF.2.1 j hj2, s2, show nI j + 1 = nI (j + 1) from nI_add j 1]
      have nx : ∀ t2 lk2 acc2, GS t0 M t2 lk2 → LK t0 V c M (2000 * lv + 1000 + acc.length) t' t2 → LsM M c t2 (2000 * lv + 1000) acc2 → ∃ k, k < 4000 * (qE y).length + 2000 + (l.length - j) ∧ some M = some M ∧ hdI us = hdI us ∧ nI rt = nI rt ∧ nI lv = nI lv ∧ J51 k (nI (2000 * lv)) (nI (2000 * lv + 1000)) (nI l.length) (nI u) (nI (j + 1)) (sI t2 M 27 (nI (2000 * lv + 1000))) := by
        intro t2 lk2 acc2 h2 hL2 hA2
        refine ⟨4000 * (qE y).length + 2000 + (l.length - (j + 1)), by omega, rfl, rfl, rfl, rfl, ?_⟩
        rw [hJ51]
        exact ⟨g, w, y, u, r, ws, l, acc2, j + 1, lk2, rfl, ⟨rfl, rfl, rfl, rfl, rfl, hj2⟩, ⟨hu, hnx, hN⟩, ⟨s2, s3, s4, s5, s6, s7, s8, s9⟩, h2.I (by decide), (hL.trans hL2 (by omega)).trans LK.I (Nat.le_refl _), (hF.go hL2 (by omega)).I, hA2.b⟩
      refine ⟨fun eg => ⟨hK', gP1 H h' hu ⟨hK', ?_⟩⟩, fun eg => ⟨hK', gP1 H h' hu ⟨hK', ?_⟩⟩⟩
      · have eg : g = 1 := (nI_eq (b := 1) (by omega) (by decide)).mp eg
        rw [rP H h' (k := 2) (by decide) hu, s4]
        obtain ⟨D2, rfl⟩ : ∃ D2, D = D2 + 31 := ⟨D - 31, by omega⟩
        exact m217 H s6 s5 s7 s8 (by omega) 31 _ acc t' lk' _ hmem (by omega) h' hA (fun l3 lk3 t3 h3 hL3 hA3 hle3 => ⟨rfl, kM H h3, nx t3 lk3 l3 h3 hL3 hA3⟩) k2
      · have eg : ¬ g = 1 := fun z => eg (by rw [z]; rfl)
        rw [rP H h' (k := 2) (by decide) hu, s4]
        exact s6 ws _ lv lk' D acc t' _ s5 s7 s8 (by omega) h' hmem hA (fun l3 lk3 t3 h3 hL3 hA3 hle3 => ⟨rfl, kM H h3, nx t3 lk3 l3 h3 hL3 hA3⟩) k2
  · intro n l4 l5 l6 l7 l8 t' hJ
    rw [hJ142] at hJ
    obtain ⟨y, u, r, l, j, lk', rfl, ⟨rfl, rfl, rfl, rfl, rfl, hj⟩, ⟨hu, hnx, hN⟩, h', hL, ⟨a1, a2, a3, a4⟩⟩ := hJ
    have hK' := kM H h'
    refine ⟨fun e => ⟨hK', gP3 H h' hu ?_⟩, fun e => ⟨hK', hK', ?_⟩⟩
    · have e : l.length ≤ j := (nI_leI (by omega) (by omega)).mp e
      rw [rP H h' (k := 4) (by decide) hu, hnx]
      refine ⟨4000 * (qE y).length, by omega, rfl, rfl, rfl, rfl, ?_⟩
      rw [hJ31]
      exact ⟨y, r, l, lk', rfl, rfl, rfl, rfl, rfl, hN, h', hL, ⟨a1, fun k hk => a3 k (by omega), a4⟩⟩
    · have hj2 : j < l.length := Nat.not_le.mp (fun z => e (nI_le z (by omega)))
      rw [nI_add, nI_add]
      refine gL H h' (by omega) (gL H h' (by omega) ?_)
      rw [nI_clamp (show 2000 * lv + 1000 + j < _ by omega), nI_clamp (show 2000 * lv + j < _ by omega), a2 j hj2, show nI j + 1 = nI (j + 1) from nI_add j 1]
      refine ⟨4000 * (qE y).length + 1 + (l.length - (j + 1)), by omega, rfl, rfl, rfl, rfl, ?_⟩
      rw [hJ142]
      refine ⟨y, u, r, l, j + 1, lk', rfl, ⟨rfl, rfl, rfl, rfl, rfl, hj2⟩, ⟨hu, hnx, hN⟩, h'.L, hL.trans (LK.L (by omega)) (Nat.le_refl _), ⟨a1, fun k hk => ?_, fun k hk => ?_, a4⟩⟩
      · rw [sI_at (by omega)]; exact a2 k hk
      · by_cases ek : k = j
        · rw [ek, sI_eq]
        · rw [sI_at (by omega)]; exact a3 k (by omega)
end RF6
