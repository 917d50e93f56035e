/-! THE REFERENCE'S FIND: isTrue; every piece of a query; find -/
section RFA
variable {C : Cx} {d : Nat} {Post : OutT → Ht → Prop} {t0 t t' t2 : Ht} {M S P : Nat} {V : VT} {c lk lk' f D lv : Nat} {l l' : List Nat} {bs : Nat}
set_option maxHeartbeats 1000000 in
/-- isTrue -/
theorem m224 {x : QF} {g : Nat} (H : G0 t0 M S P V c) (rl : ∀ z ∈ qE x, R3 C t0 M P V c z) (r12 : R3 C t0 M P V c x) (r13 : ∀ op y z, x = .tag op (.append y z) → R7 C t0 M P V c y ∧ R7 C t0 M P V c z) (r14 : R10 C t0 M P V c x) : R3 C t0 M P V c (.tag g x) := by
  intro a nd lv lk D t Post hq hg hf hD h hnd k1 k2
  obtain ⟨D, rfl⟩ : ∃ D', D = D' + 1 := ⟨D - 1, by omega⟩
  have hK := kM H h
  have hq0 := hq
  obtain ⟨q1, us, h2, h3⟩ := hq.tag (by decide) (by decide) (by omega)
  unfold HM at h2
  rw [if_neg (by decide), if_neg (by decide), if_pos rfl] at h2
  obtain ⟨q2, h4⟩ := h2
  have hg : (if g = 10 ∨ g = 11 then gdQ x 13 else if g = 12 then gdQ x 3 else if g = 13 then gdQ x 5 else if g = 14 then gdQ x 10 else False) := hg
  have hf : (if g = 10 ∨ g = 11 then fdQ x 13 else if g = 12 then fdQ x 3 else if g = 13 then fdQ x 5 else if g = 14 then fdQ x 10 else 0) + lv ≤ 16 := hf
  have hD : (if g = 10 ∨ g = 11 then dqQ x 13 + 2 else if g = 12 then dqQ x 3 + 2 else if g = 13 then dqQ x 5 + 2 else if g = 14 then dqQ x 10 + 2 else 45) + 40 * (if g = 10 ∨ g = 11 then fdQ x 13 else if g = 12 then fdQ x 3 else if g = 13 then fdQ x 5 else if g = 14 then fdQ x 10 else 0) + 140 ≤ D + 1 := hD
  obtain ⟨J, hJ⟩ : ∃ J : Nat → Int32 → Int32 → Ht → Prop, J = fun n l4 l5 t' => ∃ y r lk' b, n = (qE y).length ∧ l4 = bI b ∧ l5 = hdI r ∧ (Qm t0 M P y 3 r ∧ gdQ y 13 ∧ fdQ y 13 + lv ≤ 16 ∧ dqQ y 13 + 40 * fdQ y 13 + 140 ≤ D ∧ ∀ z ∈ qE y, R3 C t0 M P V c z) ∧ GS t0 M t' lk' ∧ LK t0 V c M (2000 * lv) t t' := ⟨_, rfl⟩
  have j0 : (g = 10 ∨ g = 11) → ∀ b, tK t M = 17 ∧ onR (tR t M 16) (fun a33 => tK t a33 = 14 ∧ onR (tR t a33 1) (fun a34 => tK t a34 = 101 ∧ vp_in (nI a) (tL t a34) ∧ ∃ k, some M = some M ∧ nI a = nI a ∧ nI nd = nI nd ∧ nI lv = nI lv ∧ J k (bI b) (tI t a34 (nI a).toNatClampNeg) t)) := by
    intro e b
    rw [if_pos e] at h4 hg hf hD
    rw [if_pos e] at hD
    refine ⟨hK, gP1 H h q1 ?_⟩
    rw [rP H h (k := 2) (by decide) q1, h4.1, hJ]
    have ec : cN 3 g = 3 := by
      unfold cN
      rw [if_neg (by decide), if_neg (by decide), if_pos rfl, if_neg (by omega), if_neg (by omega)]
    rw [ec] at h3
    rcases h3 with h3 | h3
    · exact absurd h3 (by decide)
    · exact ⟨_, rfl, rfl, rfl, rfl, x, us, lk, b, rfl, rfl, rfl, ⟨h3, hg, hf, by omega, rl⟩, h, LK.rfl'⟩
  have stp : ∀ {n : Nat} {y : QF} {r : List Nat} {lk' : Nat} {b : Bool} {t' : Ht} {F : Prop}, n = (qE y).length → (Qm t0 M P y 3 r ∧ gdQ y 13 ∧ fdQ y 13 + lv ≤ 16 ∧ dqQ y 13 + 40 * fdQ y 13 + 140 ≤ D ∧ ∀ z ∈ qE y, R3 C t0 M P V c z) → GS t0 M t' lk' → LK t0 V c M (2000 * lv) t t' → (hdI r = -1 → F) → (¬ hdI r = -1 → (tK t' M = 17 ∧ CalG C mtab D 224 [svR (some M), svI (hdI r), svI (nI nd), svI (nI lv)] t' (aftV (fun v1 t2 => rI v1 (fun x6 => tK t2 M = 17 ∧ onR (tR t2 M 16) (fun a7 => tK t2 a7 = 14 ∧ onR (tR t2 a7 3) (fun a8 => tK t2 a8 = 101 ∧ vp_in (hdI r) (tL t2 a8) ∧ ∃ k, k < n ∧ some M = some M ∧ nI a = nI a ∧ nI nd = nI nd ∧ nI lv = nI lv ∧ J k x6 (tI t2 a8 (hdI r).toNatClampNeg) t2)))) (fun k3 q4 t5 => Post (.inr (k3, q4)) t5))) → F) → F := by
    intro n y r lk' b t' F hn hy h' hL f1 f2
    obtain ⟨y1, y2, y3, y4, y5⟩ := hy
    have hqL := gd_qL y 13 (by decide) y2
    cases y with
    | nil =>
      have := y1.nil
      subst this
      exact f1 rfl
    | append s y =>
      obtain ⟨u, r', rfl, hu, hnx, qs, qy, htg⟩ := y1.app (by decide)
      have y2 : gdQ s 3 ∧ gdQ y 13 := y2
      have y3 : max (fdQ s 3) (fdQ y 13) + lv ≤ 16 := y3
      have y4 : max (dqQ s 3) (dqQ y 13) + 40 * max (fdQ s 3) (fdQ y 13) + 140 ≤ D := y4
      rw [hdI_c] at f2
      refine f2 (nI_m1 (by omega)) ⟨kM H h', y5 s (by show s ∈ s :: _; simp) u nd lv lk' D t' _ qs y2.1 (by omega) (by omega) h' hnd (fun b lk2 t2 h2 hL2 => ⟨kM H h2, gP3 H h2 hu ?_⟩) k2⟩
      rw [rP H h2 (k := 4) (by decide) hu, hnx, hJ]
      exact ⟨(qE y).length, by rw [hn]; show _ < (qE y).length + 1; omega, rfl, rfl, rfl, rfl, y, r', lk2, b, rfl, rfl, rfl, ⟨qy, y2.2, by omega, by omega, fun z hz => y5 z (List.mem_cons_of_mem _ hz)⟩, h2, hL.trans hL2 (Nat.le_refl _)⟩
    | _ => cases hqL
  have hg14 : g ≤ 14 := by
    by_cases e1 : g = 10 ∨ g = 11
    · omega
    rw [if_neg e1] at hg
    by_cases e2 : g = 12
    · omega
    rw [if_neg e2] at hg
    by_cases e3 : g = 13
    · omega
    rw [if_neg e3] at hg
    by_cases e4 : g = 14
    · omega
    rw [if_neg e4] at hg
    exact hg.elim
  refine cal224 J J ?_ ?_ ?_
  · refine ⟨hK, gP0 H h q1 ?_⟩
    rw [rP H h (k := 1) (by decide) q1, q2]
    have no : ¬ g = 10 → ¬ g = 11 → ¬ g = 12 → ¬ g = 13 → ¬ g = 14 → False := fun n1 n2 n3 n4 n5 => by
      rw [if_neg (by omega), if_neg n3, if_neg n4, if_neg n5] at hg
      exact hg
    refine ⟨fun e => j0 (Or.inl ((nI_eq (b := 10) (by omega) (by decide)).mp e)) false, fun n10 => ⟨fun e => j0 (Or.inr ((nI_eq (b := 11) (by omega) (by decide)).mp e)) true, fun n11 => ⟨fun e => ?_, fun n12 => ⟨fun e => ?_, fun n13 => ⟨fun e => ?_, fun n14 => ?_⟩⟩⟩⟩⟩
    · have e : g = 12 := (nI_eq (b := 12) (by omega) (by decide)).mp e
      subst e
      rw [if_neg (by decide), if_pos rfl] at h4 hg hf hD
      rw [if_neg (by decide), if_pos rfl] at hD
      obtain ⟨-, u, h5, rfl⟩ := h4
      rcases h3 with h3 | h3
      · exact absurd h3 (by decide)
      refine ⟨hK, gP1 H h q1 ⟨hK, ?_⟩⟩
      rw [rP H h (k := 2) (by decide) q1, h5]
      exact r12 u nd lv lk D t _ h3 hg hf (by omega) h hnd (fun b lk2 t2 h2 hL2 => ⟨fun _ => ⟨Or.inr rfl, k1 true lk2 t2 h2 hL2⟩, fun _ => ⟨Or.inl rfl, k1 false lk2 t2 h2 hL2⟩⟩) k2
    · have e : g = 13 := (nI_eq (b := 13) (by omega) (by decide)).mp e
      subst e
      rw [if_neg (by decide), if_neg (by decide), if_pos rfl] at hg hf hD
      rw [if_neg (by decide), if_neg (by decide), if_pos rfl] at hD
      obtain ⟨op, y, z, rfl⟩ : ∃ op y z, x = .tag op (.append y z) := by
        cases x with
        | tag op w =>
          have hg : 1 ≤ op ∧ op ≤ 6 ∧ gdQ w 6 := hg
          cases w with
          | append y z => exact ⟨op, y, z, rfl⟩
          | tag g w => exact absurd hg.2.2 (by unfold gdQ; simp)
          | nil => exact absurd hg.2.2 (by unfold gdQ; simp)
          | _ => exact absurd hg.2.2 (by unfold gdQ; simp)
        | append a b => exact absurd hg (by unfold gdQ; simp)
        | nil => exact absurd hg (by unfold gdQ; simp)
        | _ => exact absurd hg (by unfold gdQ; simp)
      have hg : 1 ≤ op ∧ op ≤ 6 ∧ (gdQ y 7 ∧ gdQ z 7) := hg
      have hf : max (fdQ y 7) (fdQ z 7) + lv ≤ 16 := hf
      have hD : max (dqQ y 7) (dqQ z 7) + 2 + 2 + 40 * max (fdQ y 7) (fdQ z 7) + 140 ≤ D + 1 := hD
      obtain ⟨ry, rz⟩ := r13 op y z rfl
      obtain ⟨D, rfl⟩ : ∃ D', D = D' + 1 := ⟨D - 1, by omega⟩
      exact ⟨hK, m229 H ry rz hq0 hg.2.2.1 hg.2.2.2 (by omega) (by omega) (by omega) (by omega) h hnd (fun b lk2 t2 h2 hL2 => ⟨bI01, k1 b lk2 t2 h2 hL2⟩) k2⟩
    · have e : g = 14 := (nI_eq (b := 14) (by omega) (by decide)).mp e
      subst e
      rw [if_neg (by decide), if_neg (by decide), if_neg (by decide), if_pos rfl] at h4 hg hf hD
      rw [if_neg (by decide), if_neg (by decide), if_neg (by decide), if_pos rfl] at hD
      obtain ⟨-, u, h5, rfl⟩ := h4
      rcases h3 with h3 | h3
      · exact absurd h3 (by decide)
      refine ⟨hK, gP1 H h q1 ⟨hK, ?_⟩⟩
      rw [rP H h (k := 2) (by decide) q1, h5]
      exact r14 u nd lv lk D t _ h3 hg hf (by omega) h hnd (fun l lk2 t2 h2 hL2 _ => ⟨fun _ => ⟨Or.inl rfl, k1 false lk2 t2 h2 hL2⟩, fun _ => ⟨Or.inr rfl, k1 true lk2 t2 h2 hL2⟩⟩) k2
    · exact (no (fun z => n10 (by rw [z]; rfl)) (fun z => n11 (by rw [z]; rfl)) (fun z => n12 (by rw [z]; rfl)) (fun z => n13 (by rw [z]; rfl)) (fun z => n14 (by rw [z]; rfl))).elim
  · intro n l4 l5 t' hj
    have hj0 := hj
    rw [hJ] at hj
    obtain ⟨y, r, lk', b, hn, rfl, rfl, hy, h', hL⟩ := hj
    refine stp (b := b) hn hy h' hL (fun e => ⟨fun _ => ⟨bI01, k1 b lk' t' h' hL⟩, fun z => absurd e z⟩) (fun e k => ⟨fun z => absurd z e, fun _ => ⟨fun _ => k, fun _ => ⟨bI01, k1 b lk' t' h' hL⟩⟩⟩)
  · intro n l4 l5 t' hj
    have hj0 := hj
    rw [hJ] at hj
    obtain ⟨y, r, lk', b, hn, rfl, rfl, hy, h', hL⟩ := hj
    refine stp (b := b) hn hy h' hL (fun e => ⟨fun _ => ⟨bI01, k1 b lk' t' h' hL⟩, fun z => absurd e z⟩) (fun e k => ⟨fun z => absurd z e, fun _ => ⟨fun _ => ⟨bI01, k1 b lk' t' h' hL⟩, fun _ => k⟩⟩)
end RFA
section RFB
variable (C : Cx) (t0 : Ht) (M P : Nat) (V : VT) (c : Nat)
def EVr (x : QF) : Prop := R1 C t0 M P V c x ∧ R2 C t0 M P V c x ∧ R10 C t0 M P V c x ∧ R3 C t0 M P V c x ∧ R7 C t0 M P V c x
def HEr : QF → Prop
  | .append x y => EVr C t0 M P V c (.append x y) ∧ HEr x ∧ HEr y
  | .tag g x => EVr C t0 M P V c (.tag g x) ∧ HEr x
  | x => EVr C t0 M P V c x
end RFB
section RFC
variable {C : Cx} {d : Nat} {Post : OutT → Ht → Prop} {t0 t t' t2 : Ht} {M S P : Nat} {V : VT} {c : Nat}
theorem HEr.top {x : QF} (h : HEr C t0 M P V c x) : EVr C t0 M P V c x := by
  cases x with
  | append a b => exact h.1
  | tag g a => exact h.1
  | _ => exact h
theorem HEr.el : ∀ {x : QF}, HEr C t0 M P V c x → ∀ z ∈ qE x, HEr C t0 M P V c z := by
  intro x
  induction x with
  | append a b _ ih =>
    intro h z hz
    rcases List.mem_cons.mp hz with rfl | hz
    · exact h.2.1
    · exact ih h.2.2 z hz
  | _ => intro _ z hz; cases hz
theorem HEall (H : G0 t0 M S P V c) : ∀ x : QF, HEr C t0 M P V c x := by
  intro x
  induction x with
  | append a b iha ihb =>
    have el : ∀ z ∈ qE (.append a b), HEr C t0 M P V c z := fun z hz => by
      rcases List.mem_cons.mp hz with rfl | hz
      · exact iha
      · exact ihb.el z hz
    have el2 : ∀ z ∈ qE (.append a b), ∀ g w, z = .tag g w → HEr C t0 M P V c w := fun z hz g w e => by
      have := el z hz
      rw [e] at this
      exact this.2
    exact ⟨⟨m216 H (fun z hz g w e => (el2 z hz g w e).top.2.1), m218 H (fun z hz w e => (el2 z hz 5 w e).top.2.2.2.1), fun _ _ _ _ _ _ _ _ hg => absurd hg (by unfold gdQ; simp), fun _ _ _ _ _ _ _ _ hg => absurd hg (by unfold gdQ; simp), fun _ _ _ _ _ _ _ _ hg => absurd hg (by unfold gdQ; simp)⟩, iha, ihb⟩
  | tag g x ih =>
    exact ⟨⟨m216 H (fun z hz => by cases hz), m218 H (fun z hz => by cases hz), m225 H ih.top.1, m224 H (fun z hz => (ih.el z hz).top.2.2.2.1) ih.top.2.2.2.1 (fun op y z e => by subst e; exact ⟨ih.2.2.1.top.2.2.2.2, ih.2.2.2.top.2.2.2.2⟩) ih.top.2.2.1, m228 H (fun _ => ih.top.2.2.1) (fun k y e => by subst e; exact ⟨ih.2.top.2.2.2.2, fun w e2 => by subst e2; exact ih.2.2.top.2.2.1⟩)⟩, ih⟩
  | _ => exact ⟨m216 H (fun z hz => by cases hz), m218 H (fun z hz => by cases hz), fun _ _ _ _ _ _ _ _ hg => absurd hg (by unfold gdQ; simp), fun _ _ _ _ _ _ _ _ hg => absurd hg (by unfold gdQ; simp), fun _ _ _ _ _ _ _ _ hg => absurd hg (by unfold gdQ; simp)⟩
/-- what find may change, with what it answers -/
def MFf (M : Nat) (t t' : Ht) : Prop := tN t' = tN t ∧ tU t' = tU t ∧ tK t' = tK t ∧ tL t' = tL t ∧ tR t' = tR t ∧ (∀ x k, (x ≠ M ∨ k ≠ 33) → tJ t' x k = tJ t x k) ∧
  (∀ x k, (x ≠ M ∨ (1 ≤ k ∧ k < 23) ∨ 34 ≤ k) → (x ≠ M + 1 ∨ (k ≠ 6 ∧ k ≠ 7)) → x ≠ M + 49 → x ≠ M + 48 → tI t' x k = tI t x k)
theorem MFf.of (h : MF M t t') : MFf M t t' := ⟨h.1, h.2.1, h.2.2.1, h.2.2.2.1, h.2.2.2.2.1, h.2.2.2.2.2.1, fun x k z1 z2 z3 _ => h.2.2.2.2.2.2 x k (by omega) z2 z3⟩
theorem MFf.trans (h : MFf M t t') (g : MFf M t' t2) : MFf M t t2 := by
  obtain ⟨h1, h2, h3, h4, h5, h6, h7⟩ := h
  obtain ⟨g1, g2, g3, g4, g5, g6, g7⟩ := g
  exact ⟨g1.trans h1, g2.trans h2, g3.trans h3, g4.trans h4, g5.trans h5, fun x k z => (g6 x k z).trans (h6 x k z), fun x k z1 z2 z3 z4 => (g7 x k z1 z2 z3 z4).trans (h7 x k z1 z2 z3 z4)⟩
theorem MFf.I {k : Nat} {v : Int32} (hk : k = 0 ∨ (23 ≤ k ∧ k ≤ 33)) : MFf M t (sI t M k v) := by
  refine ⟨rfl, rfl, rfl, rfl, rfl, fun _ _ _ => rfl, fun x j z1 z2 z3 z4 => sI_at ?_⟩
  rintro ⟨rfl, rfl⟩; omega
theorem MFf.F {k : Nat} {v : Int32} : MFf M t (sI t (M + 48) k v) := by
  refine ⟨rfl, rfl, rfl, rfl, rfl, fun _ _ _ => rfl, fun x j z1 z2 z3 z4 => sI_at ?_⟩
  rintro ⟨rfl, rfl⟩; exact z4 rfl
/-- the nodes found -/
def FdM (M c : Nat) (t : Ht) : Prop := ∃ l : List Nat, l.length ≤ 1000 ∧ (∀ x ∈ l, x < c) ∧ tI t M 24 = nI l.length ∧ ∀ k, k < l.length → tI t (M + 48) k = nI (l.getD k 0)
theorem G0.eq (H : G0 t M S P V c) (hK : tK t' = tK t) (hL : tL t' = tL t) (hR : tR t' = tR t) (hJ : ∀ x k, tJ t' x k = tJ t x k) (hI : ∀ x k, x ≠ M → tI t' x k = tI t x k) : G0 t' M S P V c := by
  obtain ⟨h1, h2, h3, h4, h5⟩ := H
  have hS := h1.2.2.2.2.2.2.1
  refine ⟨?_, ?_, h3, h4, h5⟩
  · unfold FSh at h1 ⊢
    rw [hK, hL, hR]; exact h1
  · exact h2.to ⟨fun k j a1 a2 _ => hI _ _ (by omega), fun j _ => hJ _ _, fun k _ => hI _ _ (by omega)⟩ (Nat.le_refl _)
theorem QM.same {x : QF} {m : Nat} {F : Nat → Prop} {us : List Nat} {lo hi : Nat} (h : QM t P (M + 3) lo hi x m F us) (hP : M < P) (hJ : ∀ x k, tJ t' x k = tJ t x k) (hI : ∀ x k, x ≠ M → tI t' x k = tI t x k) : QM t' P (M + 3) lo hi x m F us := by
  have e0 : ∀ y : Int32, y - nI 0 = y := fun y => Int32.sub_zero y
  refine QM.map (sh := 0) (fun p cs hc => ⟨hc.eq (Nat.le_refl _) (fun k _ _ => hI _ _ (by omega)), Nat.zero_le _⟩) x m F us h (fun z _ => ⟨hI _ _ (by omega), ?_, hI _ _ (by omega), hI _ _ (by omega), hJ _ _, hJ _ _, hJ _ _⟩) (fun z _ _ => hI _ _ (by omega))
  rw [e0, ite_self]
  exact hI _ _ (by omega)
/-- find, of the reference: without a value or a query -/
theorem mFind0 (hK : tK t M = 17) (hn : tI t M 12 = 0 ∨ tI t M 13 = 0) (k0 : Post (.inl (some (svI (-1 : Int32)))) (sI t M 0 0)) : CalG C mtab (d + 1) 234 [svR (some M)] t Post := by
  refine cal234 (fun _ _ _ _ => False) ⟨hK, hK, ?_⟩ (fun _ _ _ _ z => z.elim)
  rw [sI_at (by omega), sI_at (by omega)]
  exact ⟨fun _ => k0, fun e => ⟨hK, fun _ => k0, fun e2 => (hn.elim e e2).elim⟩⟩
set_option maxHeartbeats 1000000 in
/-- find, of the reference -/
theorem mFind1 {x : QF} {us : List Nat} {F : Nat → Prop} (H : G0 t M S P V c) (hF : tR t M 25 = some (M + 48) ∧ tK t (M + 48) = 101 ∧ tL t (M + 48) = 1000) (h12 : tI t M 12 ≠ 0) (h13 : tI t M 13 ≠ 0) (hF2 : ∀ z, F z → z < 2400) (hq : QM t P (M + 3) 1200 2400 x 1 F us) (h9 : tI t P 9 = hdI us) (hg : gdQ x 1) (hf : fdQ x 1 ≤ 16) (hd : dqQ x 1 ≤ 324)
    (k1 : ∀ r t', MFf M t t' → tI t' M 0 = 0 → FdM M c t' → Post (.inl (some (svI r))) t') : CalG C mtab (d + 1105) 234 [svR (some M)] t Post := by
  have hK : tK t M = 17 := H.1.1
  have hP := H.1.2.2.2.2.2.2.2
  obtain ⟨t1, ht1⟩ : ∃ t1, t1 = sI (sI (sI t M 0 0) M 23 0) M 24 0 := ⟨_, rfl⟩
  have hI1 : ∀ x k, x ≠ M → tI t1 x k = tI t x k := fun x k hx => by
    rw [ht1, sI_at (by omega), sI_at (by omega), sI_at (by omega)]
  have hJ1 : ∀ x k, tJ t1 x k = tJ t x k := fun x k => by rw [ht1]; rfl
  have hK1 : tK t1 = tK t := by rw [ht1]; rfl
  have hL1 : tL t1 = tL t := by rw [ht1]; rfl
  have hR1 : tR t1 = tR t := by rw [ht1]; rfl
  have H1 : G0 t1 M S P V c := H.eq hK1 hL1 hR1 hJ1 hI1
  have hq1 : Qm t1 M P x 1 us := ⟨F, hF2, hq.same (by omega) hJ1 hI1⟩
  have hfr : MFf M t t1 := by
    rw [ht1]
    exact ((MFf.I (Or.inl rfl)).trans (MFf.I (Or.inr (by decide)))).trans (MFf.I (Or.inr (by decide)))
  have h1 : GS t1 M t1 0 := ⟨MF.rfl', by rw [ht1, sI_at (by omega), sI_eq]; rfl, by decide⟩
  have h24 : tI t1 M 24 = 0 := by rw [ht1, sI_eq]
  have h00 : tI t1 M 0 = 0 := by rw [ht1, sI_at (by omega), sI_at (by omega), sI_eq]
  refine cal234 (fun n l1 l2 t' => ∃ l j, n = l.length - j ∧ j ≤ l.length ∧ l1 = nI l.length ∧ l2 = nI j ∧ MFf M t t' ∧ tI t' M 0 = 0 ∧ LsF M c t' 0 l ∧ ∀ k, k < j → tI t' (M + 48) k = nI (l.getD k 0)) ?_ ?_
  · refine ⟨hK, hK, ?_⟩
    rw [sI_at (by omega), sI_at (by omega)]
    refine ⟨fun e => absurd e h12, fun _ => ⟨hK, fun e => absurd e h13, fun _ => ⟨hK, hK, hK, ?_⟩⟩⟩
    rw [← ht1]
    rw [hR1, H.1.2.2.2.2.1.1]
    refine ⟨by rw [hK1]; exact H.1.2.2.2.2.1.2.1, by rw [hK1]; exact hK, ?_⟩
    rw [hI1 P 9 (by omega), h9]
    refine (HEall H1 x).top.1 us 0 0 0 _ t1 _ hq1 hg (by omega) (by omega) h1 H.2.2.2.1 (fun l lk2 t2 h2 hL2 hF2 => ⟨_, rfl, l, 0, rfl, Nat.zero_le _, rfl, rfl, hfr.trans (MFf.of h2.1), ?_, hF2, fun k hk => absurd hk (Nat.not_lt_zero _)⟩) (fun t2 h2 => ⟨rfl, ?_, ?_⟩)
    · exact (h2.1.2.2.2.2.2.2 M 0 (by omega) (by omega) (by omega)).trans h00
    · rw [h2.2.2.1]; exact H1.1.2.1.2
    · refine k1 _ t2 (hfr.trans (MFf.of h2)) ((h2.2.2.2.2.2.2 M 0 (by omega) (by omega) (by omega)).trans h00) ⟨[], by show 0 ≤ 1000; decide, fun x hx => (by cases hx), ?_, fun k hk => absurd hk (Nat.not_lt_zero _)⟩
      rw [h2.2.2.2.2.2.2 M 24 (by omega) (by omega) (by omega), h24]; rfl
  · rintro n l1 l2 t' ⟨l, j, rfl, hj, rfl, rfl, hfr', h0', hF', hfd⟩
    have hK' : tK t' M = 17 := by rw [hfr'.2.2.1]; exact hK
    have hl := hF'.1
    refine ⟨fun e => ⟨hK', ?_⟩, fun e => ⟨hK', hK', ?_⟩⟩
    · have e : l.length ≤ j := (nI_leI (by omega) (by omega)).mp e
      refine k1 _ _ (hfr'.trans (MFf.I (Or.inr (by decide)))) ((sI_at (by omega)).trans h0') ⟨l, hl, hF'.2.2, sI_eq, fun k hk => ?_⟩
      rw [sI_at (by omega)]; exact hfd k (by omega)
    · have hj2 : j < l.length := Nat.not_le.mp (fun z => e (nI_le z (by omega)))
      have a1 : tR t' M 26 = some (M + 49) ∧ tK t' (M + 49) = 101 ∧ tL t' (M + 49) = 36000 := by
        rw [hfr'.2.2.1, hfr'.2.2.2.1, hfr'.2.2.2.2.1]; exact H.1.2.2.2.2.2.1
      have a2 : tR t' M 25 = some (M + 48) ∧ tK t' (M + 48) = 101 ∧ tL t' (M + 48) = 1000 := by
        rw [hfr'.2.2.1, hfr'.2.2.2.1, hfr'.2.2.2.2.1]; exact hF
      rw [a1.1, a2.1]
      refine ⟨a1.2.1, by rw [a1.2.2]; exact vp_in_nI (by omega) (by decide), a2.2.1, by rw [a2.2.2]; exact vp_in_nI (by omega) (by decide), ?_⟩
      have this : tI t' (M + 49) j = nI (l.getD j 0) := by
        have := hF'.2.1 j hj2
        rwa [show 2000 * 0 + j = j by omega] at this
      rw [nI_clamp (by omega), this, show nI j + 1 = nI (j + 1) from nI_add j 1]
      refine ⟨_, (by omega : l.length - (j + 1) < l.length - j), rfl, l, j + 1, rfl, hj2, rfl, rfl, hfr'.trans MFf.F, (sI_at (by omega)).trans h0', ⟨hl, fun k hk => ?_, hF'.2.2⟩, fun k hk => ?_⟩
      · rw [sI_at (by omega)]; exact hF'.2.1 k hk
      · by_cases ek : k = j
        · rw [ek, sI_eq]
        · rw [sI_at (by omega)]; exact hfd k (by omega)
end RFC
