/-! THE REFERENCE'S FIND: asked -/
section RF8
variable {C : Cx} {d : Nat} {Post : OutT → Ht → Prop} {t0 t t' t2 : Ht} {M S P : Nat} {V : VT} {c lk lk' f D lv : Nat} {l l' : List Nat} {bs : Nat}
theorem Qm.sel {x : QF} {g a : Nat} (h : Qm t0 M P (.tag g x) 2 [a]) : a < 2400 ∧ tI t0 (P + 1) a = nI g ∧ (g = 1 → PTx t0 P (M + 3) 1200 2400 a (unC x)) ∧ (g = 3 → tJ t0 (P + 6) a = unI x) ∧ (g = 4 → sliM t0 P a x) ∧ (g = 5 → ∃ u, tI t0 (P + 2) a = nI u ∧ Qm t0 M P x 3 [u]) := by
  obtain ⟨h1, us, h2, h3⟩ := h.tag (by decide) (by decide) (by omega)
  unfold HM at h2
  rw [if_neg (by decide), if_pos rfl] at h2
  obtain ⟨h2, h4⟩ := h2
  refine ⟨h1, h2, fun e => ?_, fun e => ?_, fun e => ?_, fun e => ?_⟩
  · rw [if_pos e] at h4; exact h4
  · rw [if_neg (by omega), if_neg (by omega), if_pos e] at h4; exact h4
  · rw [if_neg (by omega), if_neg (by omega), if_neg (by omega), if_pos e] at h4; exact h4
  · rw [if_neg (by omega), if_neg (by omega), if_neg (by omega), if_neg (by omega), if_pos e] at h4
    obtain ⟨-, u, h5, rfl⟩ := h4
    have ec : cN 2 g = 3 := by unfold cN; rw [if_neg (by decide), if_pos rfl, if_pos e]
    rw [ec] at h3
    rcases h3 with h3 | h3
    · exact absurd h3 (by decide)
    · exact ⟨u, h5, h3⟩
/-- the selectors that are left -/
def NxL (C : Cx) (t0 : Ht) (M P : Nat) (V : VT) (c lv D : Nat) (y : QF) (r : List Nat) : Prop := Qm t0 M P y 2 r ∧ gdQ y 2 ∧ fdQ y 2 + lv ≤ 16 ∧ dqQ y 2 + 40 * fdQ y 2 + 104 ≤ D ∧ ∀ z ∈ qE y, ∀ w, z = .tag 5 w → R3 C t0 M P V c w
set_option maxHeartbeats 4000000 in
/-- asked -/
theorem m218 {x : QF} (H : G0 t0 M S P V c) (r3 : ∀ z ∈ qE x, ∀ w, z = .tag 5 w → R3 C t0 M P V c w) : R2 C t0 M P V c x := by
  intro us nd lv lk D l t Post hq hg hf hD h hnd hl k1 k2
  have hc := H.2.2.2.2
  have hK := kM H h
  have hsl := H.sl hnd
  have Rn := H.2.1 nd hnd
  obtain ⟨D, rfl⟩ : ∃ D', D = D' + 1 := ⟨D - 1, by omega⟩
  obtain ⟨J3, hJ3⟩ : ∃ J : Nat → Int32 → Ht → Prop, J = fun n l4 t' => ∃ (y : QF) (r l2 : List Nat) (lk' : Nat), n = 1000 * (qE y).length ∧ l4 = hdI r ∧ NxL C t0 M P V c lv D y r ∧ GS t0 M t' lk' ∧ LsM M c t' (2000 * lv + 1000) l2 ∧ LK t0 V c M (2000 * lv + 1000 + l.length) t t' ∧ l.length ≤ l2.length := ⟨_, rfl⟩
  obtain ⟨J123, hJ123⟩ : ∃ J : Nat → Int32 → Int32 → Ht → Prop, J = fun n l4 l5 t' => ∃ (y : QF) (u : Nat) (r l2 : List Nat) (m lk' : Nat), n = 1000 * (qE y).length + 1 + ((eS (V nd)).length - m) ∧ m ≤ (eS (V nd)).length ∧ l4 = nI u ∧ l5 = oIx (eS (V nd))[m]? ∧ u < 2400 ∧ tI t0 (P + 4) u = hdI r ∧ NxL C t0 M P V c lv D y r ∧ GS t0 M t' lk' ∧ LsM M c t' (2000 * lv + 1000) l2 ∧ LK t0 V c M (2000 * lv + 1000 + l.length) t t' ∧ l.length ≤ l2.length := ⟨_, rfl⟩
  have NX : ∀ {n : Nat} {y : QF} {u : Nat} {r : List Nat}, u < 2400 → tI t0 (P + 4) u = hdI r → NxL C t0 M P V c lv D y r → 1000 * (qE y).length < n → ∀ t5 l5 lk5, GS t0 M t5 lk5 → LsM M c t5 (2000 * lv + 1000) l5 → LK t0 V c M (2000 * lv + 1000 + l.length) t t5 → l.length ≤ l5.length →
      tK t5 M = 17 ∧ onR (tR t5 M 16) (fun a => tK t5 a = 14 ∧ onR (tR t5 a 3) (fun b => tK t5 b = 101 ∧ vp_in (nI u) (tL t5 b) ∧ ∃ k, k < n ∧ some M = some M ∧ hdI us = hdI us ∧ nI nd = nI nd ∧ nI lv = nI lv ∧ J3 k (tI t5 b (nI u).toNatClampNeg) t5)) := by
    intro n y u r hu hnx hN hn t5 l5 lk5 h5 hl5 hL5 hle5
    refine ⟨kM H h5, gP3 H h5 hu ?_⟩
    rw [rP H h5 (k := 4) (by decide) hu, hnx, hJ3]
    exact ⟨_, hn, rfl, rfl, rfl, rfl, y, r, l5, lk5, rfl, rfl, hN, h5, hl5, hL5, hle5⟩
  refine cal218 J3 J123 ?_ ?_ ?_
  · show ∃ k, _
    rw [hJ3]
    exact ⟨_, rfl, rfl, rfl, rfl, x, us, l, lk, rfl, rfl, ⟨hq, hg, hf, by omega, r3⟩, h, hl, LK.rfl', Nat.le_refl _⟩
  · intro n l4 t' hJ
    rw [hJ3] at hJ
    obtain ⟨y, r, l2, lk', rfl, rfl, hN, h', hl', hL, hle⟩ := hJ
    have hqL := gd_qL y 2 (by decide) hN.2.1
    cases y with
    | nil =>
      have := hN.1.nil
      subst this
      exact ⟨fun _ => k1 l2 lk' t' h' hL hl' hle, fun e => absurd rfl e⟩
    | append s y =>
      obtain ⟨hq', hg', hf', hD', hr3⟩ := hN
      obtain ⟨u, r', rfl, hu, hnx, qs, qy, htg⟩ := hq'.app (by decide)
      obtain ⟨g, w, rfl⟩ : ∃ g w, s = .tag g w := by
        cases s with
        | tag g w => exact ⟨g, w, rfl⟩
        | _ => cases htg
      obtain ⟨-, s2, s3, s4, s5, s6⟩ := qs.sel
      have hg' : (1 ≤ g ∧ g ≤ 5 ∧ (g = 5 → gdQ w 3) ∧ (g = 4 → stQ w)) ∧ gdQ y 2 := hg'
      have hf' : max (fdQ (.tag g w) 12) (fdQ y 2) + lv ≤ 16 := hf'
      have hD' : max (dqQ (.tag g w) 12) (dqQ y 2) + 40 * max (fdQ (.tag g w) 12) (fdQ y 2) + 104 ≤ D := hD'
      have n1 : NxL C t0 M P V c lv D y r' := ⟨qy, hg'.2, by omega, by omega, fun z hz => hr3 z (List.mem_cons_of_mem _ hz)⟩
      have hn : 1000 * (qE y).length < 1000 * (qE (.append (.tag g w) y)).length := by show _ < 1000 * ((qE y).length + 1); omega
      have nx := NX hu hnx n1 hn
      rw [hdI_c]
      obtain ⟨D0, rfl⟩ : ∃ D0, D = D0 + 2 := ⟨D - 2, by omega⟩
      refine ⟨fun e => absurd e (nI_m1 (by omega)), fun _ => ⟨kM H h', m214 H h' (fun h1 => ⟨rfl, kM H h1, gP0 H h1 hu ?_⟩) k2⟩⟩
      have hl1 : LsM M c (sI t' M 23 (nI (lk' + 1))) (2000 * lv + 1000) l2 := hl'.I (by decide) (by decide)
      have hL1 : LK t0 V c M (2000 * lv + 1000 + l.length) t (sI t' M 23 (nI (lk' + 1))) := hL.trans LK.I (Nat.le_refl _)
      generalize sI t' M 23 (nI (lk' + 1)) = t1 at h1 hl1 hL1 ⊢
      have hK1 := kM H h1
      rw [rP H h1 (k := 1) (by decide) hu, s2]
      -- one that came
      have came : ∀ {j : Nat} {dd : Nat}, j < c → CalG C mtab (dd + 2) 215 [svR (some M), svI (nI j)] t1 (aftV (fun v107 t108 => v107 = none ∧ tK t108 M = 17 ∧ onR (tR t108 M 16) (fun a112 => tK t108 a112 = 14 ∧ onR (tR t108 a112 3) (fun a113 => tK t108 a113 = 101 ∧ vp_in (nI u) (tL t108 a113) ∧ ∃ k, k < 1000 * (qE (.append (.tag g w) y)).length ∧ some M = some M ∧ hdI us = hdI us ∧ nI nd = nI nd ∧ nI lv = nI lv ∧ J3 k (tI t108 a113 (nI u).toNatClampNeg) t108))) (fun k109 q110 t111 => Post (.inr (k109, q110)) t111)) := by
        intro j dd hj
        exact m215 H h1 hl1 (by omega) hj (fun t3 h3 hL3 hl3 => ⟨rfl, nx t3 _ _ h3 hl3 (hL1.trans hL3 (by omega)) (by rw [List.length_append]; omega)⟩) k2
      refine ⟨fun e1 => ?_, fun e1 => ⟨fun e2 => ?_, fun e2 => ⟨fun e3 => ?_, fun e3 => ⟨fun e4 => ?_, fun e4 => ?_⟩⟩⟩⟩
      · have e1 : g = 1 := (nI_eq (b := 1) (by omega) (by decide)).mp e1
        obtain ⟨p, p1, p2, p3, p4⟩ := s3 e1
        refine ⟨hK1, gS0 H h1 hnd ?_⟩
        rw [rS H h1 (k := 1) (by decide) hnd, Rn.1.1.1]
        refine ⟨fun e6 => ?_, fun e6 => ⟨fun _ => ?_, fun z => absurd rfl z⟩⟩
        · have e6 : eK (V nd) = 6 := (nI_eq (b := 6) (by have := Rn.2.1; omega) (by decide)).mp e6
          refine ⟨hK1, gP1 H h1 hu ⟨hK1, gP2 H h1 hu ⟨hK1, ?_⟩⟩⟩
          rw [rP H h1 (k := 2) (by decide) hu, rP H h1 (k := 3) (by decide) hu, p1, p2]
          refine m219 H h1 hnd e6 (p3.wd (by decide)) p4 ?_
          cases hm : mbV V nd (unC w) with
          | none => exact ⟨fun _ => nx t1 l2 _ h1 hl1 hL1 hle, fun z => absurd rfl z⟩
          | some j =>
            have hj := (H.mem hnd (mbV_in hm)).1
            exact ⟨fun z => absurd z (nI_m1 (by omega)), fun _ => ⟨hK1, came hj⟩⟩
        · exact nx t1 l2 _ h1 hl1 hL1 hle
      · have e2 : g = 2 := (nI_eq (b := 2) (by omega) (by decide)).mp e2
        refine ⟨hK1, gS1 H h1 hnd ?_⟩
        rw [rS H h1 (k := 2) (by decide) hnd, Rn.1.1.2.1, hJ123]
        exact ⟨1000 * (qE y).length + 1 + ((eS (V nd)).length - 0), by show _ < 1000 * ((qE y).length + 1); omega, rfl, rfl, rfl, rfl, y, u, r', l2, 0, lk' + 1, rfl, Nat.zero_le _, rfl, rfl, hu, hnx, n1, h1, hl1, hL1, hle⟩
      · have e3 : g = 3 := (nI_eq (b := 3) (by omega) (by decide)).mp e3
        have hz := s4 e3
        have hsz : eK (V nd) = 5 → tI t0 (S + 6) nd = nI (eS (V nd)).length := fun z => by
          rw [Rn.1.1.2.2.2.2.1]
          unfold szE
          rw [if_neg (by omega)]
        generalize unI w = zz at hz
        have IX : ∀ i : Int64, eK (V nd) = 5 → br (lg_cmp i (0 : Int64) < 0) (tK t1 M = 17 ∧ onR (tR t1 M 16) (fun a36 => tK t1 a36 = 14 ∧ onR (tR t1 a36 3) (fun a37 => tK t1 a37 = 101 ∧ vp_in (nI u) (tL t1 a37) ∧ ∃ k, k < 1000 * (qE (.append (.tag g w) y)).length ∧ some M = some M ∧ hdI us = hdI us ∧ nI nd = nI nd ∧ nI lv = nI lv ∧ J3 k (tI t1 a37 (nI u).toNatClampNeg) t1)))
            (tK t1 M = 17 ∧ onR (tR t1 M 10) (fun a38 => tK t1 a38 = 15 ∧ onR (tR t1 a38 5) (fun a39 => tK t1 a39 = 101 ∧ vp_in (nI nd) (tL t1 a39) ∧ br (0 ≤ lg_cmp i (tI t1 a39 (nI nd).toNatClampNeg).toInt64) (tK t1 M = 17 ∧ onR (tR t1 M 16) (fun a36 => tK t1 a36 = 14 ∧ onR (tR t1 a36 3) (fun a37 => tK t1 a37 = 101 ∧ vp_in (nI u) (tL t1 a37) ∧ ∃ k, k < 1000 * (qE (.append (.tag g w) y)).length ∧ some M = some M ∧ hdI us = hdI us ∧ nI nd = nI nd ∧ nI lv = nI lv ∧ J3 k (tI t1 a37 (nI u).toNatClampNeg) t1)))
              (tK t1 M = 17 ∧ CalG C mtab (D0 + 2) 220 [svR (some M), svI (nI nd), svI i.toInt32] t1 (aftV (fun v42 t43 => rI v42 (fun x47 => tK t43 M = 17 ∧ CalG C mtab (D0 + 2) 215 [svR (some M), svI x47] t43 (aftV (fun v107 t108 => v107 = none ∧ tK t108 M = 17 ∧ onR (tR t108 M 16) (fun a112 => tK t108 a112 = 14 ∧ onR (tR t108 a112 3) (fun a113 => tK t108 a113 = 101 ∧ vp_in (nI u) (tL t108 a113) ∧ ∃ k, k < 1000 * (qE (.append (.tag g w) y)).length ∧ some M = some M ∧ hdI us = hdI us ∧ nI nd = nI nd ∧ nI lv = nI lv ∧ J3 k (tI t108 a113 (nI u).toNatClampNeg) t108))) (fun k109 q110 t111 => Post (.inr (k109, q110)) t111)))) (fun k44 q45 t46 => Post (.inr (k44, q45)) t46)))))) := by
          intro i hk5
          refine ⟨fun ea => ?_, fun ea => ⟨hK1, gS5 H h1 hnd ?_⟩⟩
          · exact nx t1 l2 _ h1 hl1 hL1 hle
          · rw [lg_cmp_lt] at ea
            rw [rS H h1 (k := 6) (by decide) hnd, hsz hk5, nI_l (by omega)]
            refine ⟨fun eb => ?_, fun eb => ?_⟩
            · exact nx t1 l2 _ h1 hl1 hL1 hle
            · rw [lg_cmp_ge] at eb
              obtain ⟨m, hm, hmi, hmt⟩ := lN_of (x := i) (N := (eS (V nd)).length) ea (Int64.not_le.mp eb) (by omega)
              rw [hmi, lN_i]
              exact ⟨hK1, m220 H h1 hnd hm ⟨hK1, came (H.kid hnd hm).1⟩⟩
        refine ⟨hK1, gP5 H h1 hu ?_⟩
        rw [rPJ H h1 (k := 6) (by decide) hu, hz]
        have no5 : ¬ nI (eK (V nd)) = (5 : Int32) → tK t1 M = 17 ∧ onR (tR t1 M 16) (fun a36 => tK t1 a36 = 14 ∧ onR (tR t1 a36 3) (fun a37 => tK t1 a37 = 101 ∧ vp_in (nI u) (tL t1 a37) ∧ ∃ k, k < 1000 * (qE (.append (.tag g w) y)).length ∧ some M = some M ∧ hdI us = hdI us ∧ nI nd = nI nd ∧ nI lv = nI lv ∧ J3 k (tI t1 a37 (nI u).toNatClampNeg) t1)) := fun z => nx t1 l2 _ h1 hl1 hL1 hle
        refine ⟨fun ez => ⟨hK1, gP5 H h1 hu ⟨hK1, gS0 H h1 hnd ?_⟩⟩, fun ez => ⟨hK1, gP5 H h1 hu ⟨hK1, gS5 H h1 hnd ⟨hK1, gS0 H h1 hnd ?_⟩⟩⟩⟩
        · rw [rPJ H h1 (k := 6) (by decide) hu, hz, rS H h1 (k := 1) (by decide) hnd, Rn.1.1.1]
          exact ⟨fun e5 => IX zz ((nI_eq (b := 5) (by have := Rn.2.1; omega) (by decide)).mp e5), no5⟩
        · rw [rPJ H h1 (k := 6) (by decide) hu, hz, rS H h1 (k := 1) (by decide) hnd, Rn.1.1.1]
          exact ⟨fun e5 => IX _ ((nI_eq (b := 5) (by have := Rn.2.1; omega) (by decide)).mp e5), no5⟩
      · have e4 : g = 4 := (nI_eq (b := 4) (by omega) (by decide)).mp e4
        refine ⟨hK1, gS0 H h1 hnd ?_⟩
        rw [rS H h1 (k := 1) (by decide) hnd, Rn.1.1.1]
        refine ⟨fun e5 => ⟨hK1, ?_⟩, fun e5 => ?_⟩
        · have e5 : eK (V nd) = 5 := (nI_eq (b := 5) (by have := Rn.2.1; omega) (by decide)).mp e5
          obtain ⟨D1, rfl⟩ : ∃ D1, D0 = D1 + 1 := ⟨D0 - 1, by omega⟩
          exact m222 H h1 hnd e5 hu (s5 e4) (hg'.1.2.2.2 e4) hl1 (by omega) (fun l3 lk3 t3 h3 hL3 hl3 hle3 => ⟨rfl, nx t3 l3 lk3 h3 hl3 (hL1.trans hL3 (by omega)) (by omega)⟩) k2
        · exact nx t1 l2 _ h1 hl1 hL1 hle
      · have n1' : g ≠ 1 := fun z => e1 (by rw [z]; rfl)
        have n2' : g ≠ 2 := fun z => e2 (by rw [z]; rfl)
        have n3' : g ≠ 3 := fun z => e3 (by rw [z]; rfl)
        have n4' : g ≠ 4 := fun z => e4 (by rw [z]; rfl)
        have e5 : g = 5 := by omega
        subst e5
        obtain ⟨v, v1, v2⟩ := s6 rfl
        have hf2 : fdQ w 3 + 1 ≤ max (fdQ (.tag 5 w) 12) (fdQ y 2) := Nat.le_max_left (fdQ w 3 + 1) (fdQ y 2)
        have hd2 : dqQ w 3 + 2 ≤ max (dqQ (.tag 5 w) 12) (dqQ y 2) := Nat.le_max_left (dqQ w 3 + 2) (dqQ y 2)
        refine ⟨hK1, gP1 H h1 hu ⟨hK1, ?_⟩⟩
        rw [rP H h1 (k := 2) (by decide) hu, v1]
        show CalG C mtab (D0 + 1 + 1) _ _ _ _
        exact m223 H h1 (hr3 (.tag 5 w) (by show Std.Format.tag 5 w ∈ Std.Format.tag 5 w :: qE y; simp) w rfl) v2 (hg'.1.2.2.1 rfl) (by omega) (by omega) hnd hl1 (fun l3 lk3 t3 h3 hL3 hl3 hle3 => ⟨rfl, nx t3 l3 lk3 h3 hl3 (hL1.trans hL3 (by omega)) (by omega)⟩) k2
    | _ => cases hqL
  · intro n l4 l5 t' hJ
    rw [hJ123] at hJ
    obtain ⟨y, u, r, l2, m, lk', rfl, hm, rfl, rfl, hu, hnx, hN, h', hl', hL, hle⟩ := hJ
    by_cases z : m < (eS (V nd)).length
    · have hk := H.kid hnd z
      rw [oIx_get z]
      obtain ⟨D0, rfl⟩ : ∃ D0, D = D0 + 2 := ⟨D - 2, by have := hN.2.2.2.1; omega⟩
      refine ⟨fun e => absurd e (nI_m1 (by omega)), fun _ => ⟨kM H h', m215 H h' hl' (by omega) hk.1 (fun t3 h3 hL3 hl3 => ⟨rfl, kM H h3, gS3 H h3 hk.1 ?_⟩) k2⟩⟩
      rw [rS H h3 (k := 4) (by decide) hk.1, Rn.1.2.2 m z, hJ123]
      exact ⟨1000 * (qE y).length + 1 + ((eS (V nd)).length - (m + 1)), by omega, rfl, rfl, rfl, rfl, y, u, r, _, m + 1, lk', rfl, by omega, rfl, rfl, hu, hnx, hN, h3, hl3, hL.trans hL3 (by omega), by rw [List.length_append]; omega⟩
    · rw [oIx_no (by omega)]
      exact ⟨fun _ => NX hu hnx hN (by omega) t' l2 lk' h' hl' hL hle, fun e => absurd rfl e⟩
end RF8
