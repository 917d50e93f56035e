/-! THE REFERENCE'S FIND: comesTo, compares -/
section RF9
variable {C : Cx} {d : Nat} {Post : OutT → Ht → Prop} {t0 t t' t2 : Ht} {M S P : Nat} {V : VT} {c lk lk' f D lv : Nat} {l l' : List Nat} {bs : Nat}
theorem Qm.cmp {x y : QF} {op a : Nat} (h : Qm t0 M P (.tag 13 (.tag op (.append x y))) 3 [a]) : a < 2400 ∧ tI t0 (P + 1) a = 13 ∧ ∃ u v, tI t0 (P + 2) a = nI u ∧ tI t0 (P + 3) a = nI v ∧ Qm t0 M P x 7 [u] ∧ Qm t0 M P y 7 [v] := by
  obtain ⟨h1, us, h2, h3⟩ := h.tag (by decide) (by decide) (by omega)
  unfold HM at h2
  rw [if_neg (by decide), if_neg (by decide), if_pos rfl] at h2
  obtain ⟨h2, h4⟩ := h2
  rw [if_neg (by decide), if_neg (by decide), if_pos rfl] at h4
  obtain ⟨-, -, u, v, h5, h6, rfl⟩ := h4
  have e : cN 3 13 = 5 := by decide
  rw [e] at h3
  rcases h3 with h3 | ⟨F, hF, h3⟩
  · exact absurd h3 (by decide)
  · unfold QM at h3
    rw [if_pos rfl] at h3
    unfold QM at h3
    rw [if_pos rfl] at h3
    obtain ⟨u', v', e, -, -, ⟨F1, f1, f2⟩, ⟨F2, f3, f4⟩⟩ := h3
    injection e with e1 e
    injection e with e2 e
    subst e1 e2
    exact ⟨h1, h2, u, v, h5, h6, ⟨F1, fun z hz => hF z (f1 z hz), f2⟩, ⟨F2, fun z hz => hF z (f3 z hz), f4⟩⟩
theorem Qm.p25 {x : QF} {a : Nat} (h : Qm t0 M P (.tag 25 x) 7 [a]) : Qm t0 M P x 10 [a] := by
  obtain ⟨F, hF, h⟩ := h
  unfold QM at h
  rw [if_neg (by decide), if_neg (by decide), if_pos ⟨rfl, rfl⟩] at h
  exact ⟨F, hF, h.2⟩
theorem Qm.lit {x : QF} {g a : Nat} (h : Qm t0 M P (.tag g x) 7 [a]) (h5 : g ≠ 25) : a < 2400 ∧ tI t0 (P + 1) a = nI g ∧ (g = 21 → PTx t0 P (M + 3) 1200 2400 a (unC x)) := by
  obtain ⟨h1, us, h2, h3⟩ := h.tag (by decide) (by decide) (by omega)
  unfold HM at h2
  rw [if_neg (by decide), if_neg (by decide), if_neg (by decide), if_neg (by decide), if_pos rfl] at h2
  obtain ⟨h2, h4⟩ := h2
  refine ⟨h1, h2, fun e => ?_⟩
  rw [if_neg (by omega), if_pos e] at h4
  exact h4
theorem Qm.fun {y : QF} {k a : Nat} (h : Qm t0 M P (.tag 26 (.tag k y)) 7 [a]) : a < 2400 ∧ tI t0 (P + 5) a = nI k ∧ 1 ≤ k ∧ k ≤ 3 ∧ ∃ u, tI t0 (P + 2) a = nI u ∧ Qm t0 M P y 7 [u] := by
  obtain ⟨h1, us, h2, h3⟩ := h.tag (by decide) (by decide) (by omega)
  unfold HM at h2
  rw [if_neg (by decide), if_neg (by decide), if_neg (by decide), if_neg (by decide), if_pos rfl] at h2
  obtain ⟨h2, h4⟩ := h2
  rw [if_neg (by decide), if_neg (by decide), if_neg (by decide), if_pos rfl] at h4
  obtain ⟨h5, h6, h7, -, u, h8, rfl⟩ := h4
  have e : cN 7 26 = 8 := by decide
  rw [e] at h3
  rcases h3 with h3 | ⟨F, hF, h3⟩
  · exact absurd h3 (by decide)
  · unfold QM at h3
    rw [if_neg (by decide), if_pos rfl] at h3
    exact ⟨h1, h5, h6, h7, u, h8, F, hF, h3.2⟩
theorem gd10 {x : QF} (h : gdQ x 10) : ∃ g w, x = .tag g w := by
  cases x with
  | tag g w => exact ⟨g, w, rfl⟩
  | append a b => exact absurd h (by unfold gdQ; simp)
  | nil => exact absurd h (by unfold gdQ; simp)
  | _ => exact absurd h (by unfold gdQ; simp)
theorem CVm.no {k : Int32} (h : tI t M 29 = -1) : CVm t0 M V c t := ⟨none, Or.inl ⟨rfl, h⟩⟩
theorem CVm.kd {k : Nat} (hk : k < 3) (h : tI t M 29 = nI k) : CVm t0 M V c t := by
  refine ⟨some (.inr (k, 0, [])), Or.inr ⟨_, rfl, fun j e => (by cases e), h, ?_, fun z => ?_, fun z => ?_, fun z => ?_⟩⟩
  · show k < 7; omega
  · have z : k = 3 := z; omega
  · have z : k = 4 := z; omega
  · have z : 5 ≤ k := z; omega
set_option maxHeartbeats 1000000 in
/-- comesTo -/
theorem m228 {x : QF} {g : Nat} (H : G0 t0 M S P V c) (r10 : g = 25 → R10 C t0 M P V c x) (r26 : ∀ k y, x = .tag k y → R7 C t0 M P V c y ∧ ∀ w, y = .tag 25 w → R10 C t0 M P V c w) : R7 C t0 M P V c (.tag g x) := by
  intro a nd lv lk D t Post hq hg hf hD h hnd k1 k2
  obtain ⟨D, rfl⟩ : ∃ D', D = D' + 1 := ⟨D - 1, by omega⟩
  have hK := kM H h
  have e2k := nI_2k lv (by omega)
  have h1 : GS t0 M (sI t M 29 (-1)) lk := h.I (by decide)
  have hv1 : CVm t0 M V c (sI t M 29 (-1)) := CVm.no (k := 0) sI_eq
  have hL1 : LK t0 V c M 36000 t (sI t M 29 (-1)) := ⟨fun k _ => sI_at (by omega), fun _ => hv1⟩
  refine cal228 ?_
  unfold vc228
  generalize sI t M 29 (-1) = t1 at h1 hv1 hL1 ⊢
  have hK1 := kM H h1
  -- a number, the first of a list
  have num : ∀ {dd : Nat} {z : Int64} {t3 : Ht} {lk3 : Nat}, GS t0 M t3 lk3 → LK t0 V c M (2000 * lv) t t3 → CalG C mtab (dd + 1) 227 [svR (some M), svJ z] t3 (aftV (fun v54 t55 => v54 = none ∧ Post (.inl none) t55) (fun k56 q57 t58 => Post (.inr (k56, q57)) t58)) := by
    intro dd z t3 lk3 h3 hL3
    exact m227 H h3 (fun t' h' hL hv => ⟨rfl, k1 _ t' h' (hL3.trans hL (by omega)) ⟨_, hv⟩⟩)
  have fst : ∀ {dd : Nat} {t3 : Ht} {lk3 : Nat} {l : List Nat}, GS t0 M t3 lk3 → LK t0 V c M (2000 * lv) t t3 → LsF M c t3 lv l → 0 < l.length → tK t3 M = 17 ∧ onR (tR t3 M 26) (fun a42 => tK t3 a42 = 101 ∧ vp_in (((2 : Int32) * nI lv) * (1000 : Int32)) (tL t3 a42) ∧ tK t3 M = 17 ∧ CalG C mtab (dd + 1) 226 [svR (some M), svI (tI t3 a42 ((((2 : Int32) * nI lv) * (1000 : Int32))).toNatClampNeg)] t3 (aftV (fun v43 t44 => v43 = none ∧ Post (.inl none) t44) (fun k45 q46 t47 => Post (.inr (k45, q46)) t47))) := by
    intro dd t3 lk3 l h3 hL3 hF3 hl0
    rw [e2k]
    refine ⟨kM H h3, gL H h3 (by omega) ⟨kM H h3, ?_⟩⟩
    have this : tI t3 (M + 49) (2000 * lv) = nI (l.getD 0 0) := hF3.2.1 0 hl0
    rw [nI_clamp (by omega), this]
    exact m226 H h3 (hF3.2.2 _ (kid_mem hl0)) (fun t' h' hL hv => ⟨rfl, k1 _ t' h' (hL3.trans hL (by omega)) ⟨_, hv⟩⟩)
  obtain ⟨D, rfl⟩ : ∃ D', D = D' + 1 := ⟨D - 1, by omega⟩
  have hle : 2000 * lv ≤ 36000 := by omega
  by_cases g25 : g = 25
  · subst g25
    have hg : gdQ x 10 ∧ 2 ≤ tgN x := hg
    have hf : fdQ x 10 + lv ≤ 16 := hf
    have hD : dqQ x 10 + 2 + 40 * fdQ x 10 + 140 ≤ D + 1 + 1 := hD
    have hq := hq.p25
    obtain ⟨g', w, rfl⟩ := gd10 hg.1
    obtain ⟨q1, q2, -⟩ := hq.pth
    refine ⟨hK, hK1, gP0 H h1 q1 ?_⟩
    rw [rP H h1 (k := 1) (by decide) q1, q2]
    refine ⟨fun e => absurd e (by decide), fun _ => ⟨fun e => absurd e (by decide), fun _ => ⟨fun e => absurd e (by decide), fun _ => ⟨fun e => absurd e (by decide), fun _ => ⟨fun e => absurd e (by decide), fun _ => ⟨fun _ => ⟨hK1, ?_⟩, fun e => absurd rfl e⟩⟩⟩⟩⟩⟩
    refine r10 rfl a nd lv lk _ t1 _ hq hg.1 hf (by omega) h1 hnd (fun l lk3 t3 h3 hL3 hF3 => ?_) k2
    have hl3 := hF3.1
    have hL : LK t0 V c M (2000 * lv) t t3 := (hL1.le hle).trans hL3 (Nat.le_refl _)
    refine ⟨fun e => k1 lk3 t3 h3 hL (hL3.2 hv1), fun e => fst h3 hL hF3 ?_⟩
    rcases Nat.eq_zero_or_pos l.length with z | z
    · exact absurd (by rw [z]; decide) e
    · exact z
  · obtain ⟨q1, q2, q3⟩ := hq.lit g25
    have hg' : (if g = 25 then gdQ x 10 ∧ 2 ≤ tgN x else if g = 26 then gdQ x 8 else 20 ≤ g ∧ g ≤ 24) := hg
    rw [if_neg g25] at hg'
    refine ⟨hK, hK1, gP0 H h1 q1 ?_⟩
    rw [rP H h1 (k := 1) (by decide) q1, q2]
    have hg26 : g ≤ 26 := by
      by_cases z : g = 26
      · omega
      · rw [if_neg z] at hg'; omega
    refine ⟨fun e => ⟨hK1, gP5 H h1 q1 ⟨hK1, num h1 (hL1.le hle)⟩⟩, fun n20 => ⟨fun e => ?_, fun n21 => ⟨fun e => ?_, fun n22 => ⟨fun e => ?_, fun n23 => ⟨fun e => ?_, fun n24 => ⟨fun e => ?_, fun n25 => ?_⟩⟩⟩⟩⟩⟩
    · have e : g = 21 := (nI_eq (b := 21) (by omega) (by decide)).mp e
      obtain ⟨p, p1, p2, p3, p4⟩ := q3 e
      have h2 : GS t0 M (sI t1 M 29 4) lk := h1.I (by decide)
      refine ⟨hK1, kM H h2, gP1 H h2 q1 ⟨kM H h2, ?_⟩⟩
      rw [rP H h2 (k := 2) (by decide) q1, p1]
      have h3 : GS t0 M (sI (sI t1 M 29 4) M 30 (nI p)) lk := h2.I (by decide)
      refine ⟨kM H h3, gP2 H h3 q1 ⟨kM H h3, ?_⟩⟩
      rw [rP H h3 (k := 3) (by decide) q1, p2]
      have hv : CVm t0 M V c (sI (sI (sI t1 M 29 4) M 30 (nI p)) M 31 (nI (unC x).length)) := by
        refine ⟨some (.inr (4, 0, unC x)), Or.inr ⟨_, rfl, fun j e => (by cases e), ?_, ?_, fun z => ?_, fun _ => ⟨p4, p, ?_, sI_eq, p3.wd (by decide)⟩, fun z => ?_⟩⟩
        · rw [sI_at (by omega), sI_at (by omega), sI_eq]; rfl
        · show 4 < 7; decide
        · exact absurd z (by show ¬ 4 = 3; decide)
        · rw [sI_at (by omega), sI_eq]
        · exact absurd z (by show ¬ 5 ≤ 4; decide)
      exact k1 lk _ (h3.I (by decide)) ⟨fun k hk => by rw [sI_at (by omega), sI_at (by omega), sI_at (by omega)]; exact hL1.1 k (by omega), fun _ => hv⟩ hv
    · have hv : CVm t0 M V c (sI t1 M 29 2) := CVm.kd (k := 2) (by decide) sI_eq
      exact ⟨hK1, k1 lk _ (h1.I (by decide)) ⟨fun k hk => by rw [sI_at (by omega)]; exact hL1.1 k (by omega), fun _ => hv⟩ hv⟩
    · have hv : CVm t0 M V c (sI t1 M 29 1) := CVm.kd (k := 1) (by decide) sI_eq
      exact ⟨hK1, k1 lk _ (h1.I (by decide)) ⟨fun k hk => by rw [sI_at (by omega)]; exact hL1.1 k (by omega), fun _ => hv⟩ hv⟩
    · have hv : CVm t0 M V c (sI t1 M 29 0) := CVm.kd (k := 0) (by decide) sI_eq
      exact ⟨hK1, k1 lk _ (h1.I (by decide)) ⟨fun k hk => by rw [sI_at (by omega)]; exact hL1.1 k (by omega), fun _ => hv⟩ hv⟩
    · exact absurd ((nI_eq (b := 25) (by omega) (by decide)).mp e) g25
    · have g26 : g = 26 := by
        by_cases z : g = 26
        · exact z
        · rw [if_neg z] at hg'
          have : g ≠ 20 := fun z => n20 (by rw [z]; rfl)
          have : g ≠ 21 := fun z => n21 (by rw [z]; rfl)
          have : g ≠ 22 := fun z => n22 (by rw [z]; rfl)
          have : g ≠ 23 := fun z => n23 (by rw [z]; rfl)
          have : g ≠ 24 := fun z => n24 (by rw [z]; rfl)
          omega
      rw [if_pos g26] at hg'
      subst g26
      obtain ⟨k, y, rfl⟩ : ∃ k y, x = .tag k y := by
        cases x with
        | tag g w => exact ⟨g, w, rfl⟩
        | append a b => exact absurd hg' (by unfold gdQ; simp)
        | nil => exact absurd hg' (by unfold gdQ; simp)
        | _ => exact absurd hg' (by unfold gdQ; simp)
      have hg8 : (k = 1 ∧ gdQ y 7) ∨ ((k = 2 ∨ k = 3) ∧ gdQ y 9) := hg'
      have hf : fdQ y 7 + lv ≤ 16 := hf
      have hD : dqQ y 7 + 2 + 2 + 40 * fdQ y 7 + 140 ≤ D + 1 + 1 := hD
      obtain ⟨-, f2, f3, f4, u, f5, f6⟩ := hq.fun
      obtain ⟨r7, r9⟩ := r26 k y rfl
      refine ⟨hK1, gP1 H h1 q1 ⟨hK1, gP4 H h1 q1 ?_⟩⟩
      rw [rP H h1 (k := 2) (by decide) q1, rP H h1 (k := 5) (by decide) q1, f2, f5]
      refine ⟨fun e => ⟨hK1, ?_⟩, fun e => ⟨hK1, ?_⟩⟩
      · have e : k = 1 := (nI_eq (b := 1) (by omega) (by decide)).mp e
        have hgy : gdQ y 7 := by
          rcases hg8 with z | z
          · exact z.2
          · omega
        refine r7 u nd lv lk _ t1 _ f6 hgy hf (by omega) h1 hnd (fun lk3 t3 h3 hL3 hv3 => ?_) k2
        have hL : LK t0 V c M (2000 * lv) t t3 := (hL1.le hle).trans hL3 (Nat.le_refl _)
        refine ⟨rfl, kM H h3, fun _ => ⟨kM H h3, ?_⟩, fun _ => ⟨kM H h3, kM H h3, num h3 hL⟩⟩
        have hv : CVm t0 M V c (sI t3 M 29 (-1)) := CVm.no (k := 0) sI_eq
        exact k1 lk3 _ (h3.I (by decide)) ⟨fun k hk => by rw [sI_at (by omega)]; exact hL.1 k hk, fun _ => hv⟩ hv
      · have e : k ≠ 1 := fun z => e (by rw [z]; rfl)
        have hgy : gdQ y 9 := by
          rcases hg8 with z | z
          · omega
          · exact z.2
        obtain ⟨w, rfl, hgw⟩ : ∃ w, y = .tag 25 w ∧ gdQ w 10 := by
          cases y with
          | tag g w =>
            have hgy : g = 25 ∧ gdQ w 10 := hgy
            exact ⟨w, by rw [hgy.1], hgy.2⟩
          | append a b => exact absurd hgy (by unfold gdQ; simp)
          | nil => exact absurd hgy (by unfold gdQ; simp)
          | _ => exact absurd hgy (by unfold gdQ; simp)
        have hf : fdQ w 10 + lv ≤ 16 := hf
        have hD : dqQ w 10 + 2 + 2 + 2 + 40 * fdQ w 10 + 140 ≤ D + 1 + 1 := hD
        refine r9 w rfl u nd lv lk _ t1 _ f6.p25 hgw hf (by omega) h1 hnd (fun l lk3 t3 h3 hL3 hF3 => ?_) k2
        have hl3 := hF3.1
        have hL : LK t0 V c M (2000 * lv) t t3 := (hL1.le hle).trans hL3 (Nat.le_refl _)
        refine ⟨kM H h3, gP4 H h3 q1 ?_⟩
        rw [rP H h3 (k := 5) (by decide) q1, f2]
        refine ⟨fun _ => ⟨kM H h3, num h3 hL⟩, fun _ => ⟨fun e1 => fst h3 hL hF3 ?_, fun _ => k1 lk3 t3 h3 hL (hL3.2 hv1)⟩⟩
        have e1 : l.length = 1 := (nI_eq (b := 1) (by omega) (by decide)).mp e1
        omega
set_option maxHeartbeats 1000000 in
/-- compares -/
theorem m229 {x y : QF} {op a nd : Nat} (H : G0 t0 M S P V c) (rx : R7 C t0 M P V c x) (ry : R7 C t0 M P V c y) (hq : Qm t0 M P (.tag 13 (.tag op (.append x y))) 3 [a]) (hgx : gdQ x 7) (hgy : gdQ y 7) (hfx : fdQ x 7 + lv ≤ 16) (hfy : fdQ y 7 + lv ≤ 16) (hDx : dqQ x 7 + 40 * fdQ x 7 + 140 ≤ D) (hDy : dqQ y 7 + 40 * fdQ y 7 + 140 ≤ D) (h : GS t0 M t lk) (hnd : nd < c)
    (k1 : ∀ r lk' t', GS t0 M t' lk' → LK t0 V c M (2000 * lv) t t' → Post (.inl (some (svI (bI r)))) t') (k2 : ∀ t', MF M t0 t' → Post (.inr (16, M + 1)) t') : CalG C mtab (D + 1) 229 [svR (some M), svI (nI a), svI (nI nd), svI (nI lv)] t Post := by
  obtain ⟨q1, -, u, v, q2, q3, q4, q5⟩ := hq.cmp
  have hK := kM H h
  have hle : 2000 * lv ≤ 36000 := by omega
  obtain ⟨I, hI⟩ : ∃ I : Int32 → Int32 → Int32 → Int32 → Int64 → Ht → Prop, I = fun l4 l5 l6 l7 l8 t' => ∃ lk' o, GS t0 M t' lk' ∧ LK t0 V c M (2000 * lv) t t' ∧ VLh t0 M V c o l4 l8 l5 l6 l7 ∧ CVm t0 M V c t' := ⟨_, rfl⟩
  have b0 : Post (.inl (some (svI 0))) = Post (.inl (some (svI (bI false)))) := rfl
  have b1 : Post (.inl (some (svI 1))) = Post (.inl (some (svI (bI true)))) := rfl
  obtain ⟨D0, rfl⟩ : ∃ D0, D = D0 + 93 := ⟨D - 93, by omega⟩
  refine cal229 (fun n l4 l5 l6 l7 l8 l10 t' => I l4 l5 l6 l7 l8 t') (fun n l4 l5 l6 l7 l8 l10 t' => n = 5 ∧ I l4 l5 l6 l7 l8 t') (fun n l4 l5 l6 l7 l8 l10 l11 t' => n = 4 ∧ I l4 l5 l6 l7 l8 t') (fun n l4 l5 l6 l7 l8 l10 l11 l12 t' => n = 3 ∧ (∃ r, l12 = bI r) ∧ I l4 l5 l6 l7 l8 t') (fun n l4 l5 l6 l7 l8 l10 l11 l12 t' => n = 2 ∧ (∃ r, l12 = bI r) ∧ I l4 l5 l6 l7 l8 t') (fun n l4 l5 l6 l7 l8 l10 l11 l12 t' => n = 2 ∧ I l4 l5 l6 l7 l8 t') ?_ ?_ ?_ ?_ ?_ ?_ ?_
  · refine ⟨hK, gP1 H h q1 ⟨hK, ?_⟩⟩
    rw [rP H h (k := 2) (by decide) q1, q2]
    refine rx u nd lv lk _ t _ q4 hgx hfx (by omega) h hnd (fun lk4 t4 h4 hL4 hv4 => ?_) k2
    obtain ⟨o, hv4⟩ := hv4
    have hK4 := kM H h4
    refine ⟨rfl, hK4, hK4, hK4, hK4, hK4, hK4, gP2 H h4 q1 ⟨hK4, ?_⟩⟩
    rw [rP H h4 (k := 3) (by decide) q1, q3]
    refine ry v nd lv lk4 _ t4 _ q5 hgy hfy (by omega) h4 hnd (fun lk5 t5 h5 hL5 hv5 => ?_) k2
    have hi : I (tI t4 M 29) (tI t4 M 30) (tI t4 M 31) (tI t4 M 32) (tJ t4 M 33) t5 := by rw [hI]; exact ⟨lk5, o, h5, hL4.trans hL5 (Nat.le_refl _), hv4, hv5⟩
    refine ⟨rfl, kM H h5, gP4 H h5 q1 ⟨fun _ => ⟨0, rfl, rfl, rfl, rfl, hi⟩, fun _ => ⟨fun _ => ⟨0, rfl, rfl, rfl, rfl, hi⟩, fun _ => ⟨5, rfl, rfl, rfl, rfl, rfl, hi⟩⟩⟩⟩
  · intro n l4 l5 l6 l7 l8 l10 t' hi
    rw [hI] at hi
    obtain ⟨lk', o, h', hL', hv, o2, hv2⟩ := hi
    have hK' := kM H h'
    refine ⟨hK', hK', hK', hK', hK', hK', m231o H h' hv hv2 (fun r lk2 t2 h2 hL2 => ?_) k2⟩
    have hL := hL'.trans (hL2.le hle) (Nat.le_refl _)
    have y1 := k1 true lk2 t2 h2 hL
    have y0 := k1 false lk2 t2 h2 hL
    exact ⟨fun _ => ⟨fun _ => ⟨Or.inr rfl, y1⟩, fun _ => ⟨Or.inl rfl, y0⟩⟩, fun _ => ⟨fun _ => ⟨Or.inr rfl, y1⟩, fun _ => ⟨Or.inl rfl, y0⟩⟩⟩
  · rintro n l4 l5 l6 l7 l8 l10 t' ⟨rfl, hi⟩
    exact ⟨fun _ => ⟨4, by decide, rfl, rfl, rfl, rfl, rfl, hi⟩, fun _ => ⟨fun _ => ⟨4, by decide, rfl, rfl, rfl, rfl, rfl, hi⟩, fun _ => ⟨4, by decide, rfl, rfl, rfl, rfl, rfl, hi⟩⟩⟩
  · rintro n l4 l5 l6 l7 l8 l10 l11 t' ⟨rfl, hi⟩
    have hi0 := hi
    rw [hI] at hi
    obtain ⟨lk', o, h', hL', hv, o2, hv2⟩ := hi
    have hK' := kM H h'
    exact ⟨fun _ => ⟨hK', hK', hK', hK', hK', m230 (d := D0 + 92) H h' hv hv2 ⟨3, by decide, rfl, rfl, rfl, rfl, rfl, ⟨_, rfl⟩, hi0⟩⟩, fun _ => ⟨hK', hK', hK', hK', hK', m230 (d := D0 + 92) H h' hv2 hv ⟨3, by decide, rfl, rfl, rfl, rfl, rfl, ⟨_, rfl⟩, hi0⟩⟩⟩
  · rintro n l4 l5 l6 l7 l8 l10 l11 l12 t' ⟨rfl, hb, hi⟩
    exact ⟨fun _ => ⟨fun _ => ⟨2, by decide, rfl, rfl, rfl, rfl, rfl, hb, hi⟩, fun _ => ⟨fun _ => ⟨2, by decide, rfl, rfl, rfl, rfl, rfl, hb, hi⟩, fun _ => ⟨2, by decide, rfl, rfl, rfl, rfl, rfl, hi⟩⟩⟩, fun _ => ⟨2, by decide, rfl, rfl, rfl, rfl, rfl, hb, hi⟩⟩
  · rintro n l4 l5 l6 l7 l8 l10 l11 l12 t' ⟨rfl, ⟨r, rfl⟩, hi⟩
    rw [hI] at hi
    obtain ⟨lk', o, h', hL', hv, hv2⟩ := hi
    exact ⟨bI01, k1 r lk' t' h' hL'⟩
  · rintro n l4 l5 l6 l7 l8 l10 l11 l12 t' ⟨rfl, hi⟩
    rw [hI] at hi
    obtain ⟨lk', o, h', hL', hv, o2, hv2⟩ := hi
    have hK' := kM H h'
    exact ⟨fun _ => ⟨hK', hK', hK', hK', hK', hK', m231o H h' hv hv2 (fun r lk2 t2 h2 hL2 => ⟨bI01, k1 r lk2 t2 h2 (hL'.trans (hL2.le hle) (Nat.le_refl _))⟩) k2⟩, fun _ => ⟨hK', hK', hK', hK', hK', hK', m231o H h' hv2 hv (fun r lk2 t2 h2 hL2 => ⟨bI01, k1 r lk2 t2 h2 (hL'.trans (hL2.le hle) (Nat.le_refl _))⟩) k2⟩⟩
end RF9
