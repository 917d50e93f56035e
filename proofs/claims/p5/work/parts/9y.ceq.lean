/-! THE CLASS'S FINDER: comparisons -/
section CE5
variable {C : Cx} {d : Nat} {Post : OutT → Ht → Prop} {B T lk lk' c p q : Nat} {t1 t t' t2 : Ht} {G : GT} {V : VT} {O O' K K' : Nat → Prop} {a b : Vl}
theorem EFr.Iz {k : Nat} {v : Int32} (h : ESt C B T t1 G V c O t lk) (hk : k = 3 ∨ k = 4) : EFr B O' K t (sI t (B + 6) k v) := by
  have hR := h.rw
  have h2 := h.k2
  refine ⟨Nat.le_refl _, fun _ _ => ⟨rfl, rfl⟩, fun x hx k1 k2 k3 k4 => ⟨fun j => sI_at (fun w => k3 w.1), fun _ => rfl, fun _ _ => rfl⟩, ⟨fun _ => rfl, fun j j1 j2 => sI_at (by omega), fun _ _ e => e⟩, fun i r hi hi2 e => ?_, ⟨Nat.le_refl _, Nat.le_refl _⟩⟩
  obtain ⟨a1, a2, a3, -⟩ := hR.1 i r hi2 e
  exact ⟨sameAt_sI (fun w => by rw [w, h2] at a1; cases a1), sameAt_sI (fun w => by rw [w, h2] at a3; cases a3)⟩
/-- look: nothing else changes -/
theorem c6z (h : ESt C B T t1 G V c O t lk) (k1 : loE lk = .inl ((), lk + 1) → ∀ t', ESt C B T t1 G V c O t' (lk + 1) → (∀ O' K, EFr B O' K t t') → Post (.inl none) t') (k2 : ∀ e, loE lk = .inr e → ∀ t', EFe C B T t1 G V c O K t t' e → Post (.inr (201, 0)) t') : CalG C mtab (d + 2) 6 [svR (some (B + 6))] t Post := by
  have hl := h.2.2.2.1
  refine cal6 ⟨h.k2, fun e => ⟨h.k2, h.k2, ?_⟩, fun e => ⟨h.k2, ?_⟩⟩
  · rw [h.2.2.1] at e ⊢
    have hlt : lk < 60000 := by
      rcases Nat.lt_or_ge lk 60000 with w | w
      · exact w
      · exact absurd e (nI_nlt (a := lk) (b := 60000) w (by omega))
    rw [nI_1]
    refine k1 (by unfold loE; rw [if_neg (by omega)]) _ (h.go (EFr.Iz (K := fun _ => False) h (Or.inl rfl)) sI_eq (by omega) h.rw) (fun _ _ => EFr.Iz h (Or.inl rfl))
  · rw [h.2.2.1] at e
    have hge : 60000 ≤ lk := by
      rcases Nat.lt_or_ge lk 60000 with w | w
      · exact absurd (nI_lt (a := lk) (b := 60000) w (by omega)) e
      · exact w
    exact c5 (K := K) h (fun t' he => k2 (-3, lk) (by unfold loE; rw [if_pos hge]) t' he)
/-- what isEqual does -/
def P25 (C : Cx) (B T : Nat) (t1 : Ht) (G : GT) (V : VT) (c : Nat) (O : Nat → Prop) (d f : Nat) : Prop := ∀ (a b : Vl) (p q lk : Nat) (t : Ht) (K : Nat → Prop) (Post : OutT → Ht → Prop), ESt C B T t1 G V c O t lk → VLf C t G V c a p → VLf C t G V c b q →
  (∀ r lk', eqV V f a b lk = .inl (r, lk') → ∀ t', ESt C B T t1 G V c O t' lk' → (∀ O' K, EFr B O' K t t') → Post (.inl (some (svI (bI r)))) t') →
  (∀ e, eqV V f a b lk = .inr e → ∀ t', EFe C B T t1 G V c O K t t' e → Post (.inr (201, 0)) t') → CalG C mtab (d + f + 6) 25 [svR (some (B + 6)), svR (some p), svR (some q), svI (nI f)] t Post
theorem eqL_s {g : Nat → Nat → Nat → Ev Bool} {oth : Nat → Nat → Option Nat} {x m k : Nat} {r : List Nat} : eqL g oth (x :: r) m k = (match oth x m with
    | none => .inl (false, k)
    | some o => bE (g x o k) (fun s k => if s then eqL g oth r (m + 1) k else .inl (false, k))) := rfl
theorem pos0 {f : Nat} (h : (0 : Int32) < nI f) : ∃ f0, f = f0 + 1 := by
  cases f with
  | zero => exact absurd h (by decide)
  | succ f => exact ⟨f, rfl⟩
theorem bI01 {x : Bool} : bI x = 0 ∨ bI x = 1 := by cases x <;> decide
set_option maxHeartbeats 2000000 in
theorem c25s {f : Nat} (hf : f ≤ 30) (ih : ∀ f0, f = f0 + 1 → P25 C B T t1 G V c O d f0) : P25 C B T t1 G V c O d f := by
  intro a b p q lk t K Post h ha hb k1 k2
  have zO : ∀ x, (fun _ => False : Nat → Prop) x → tK t x = 3 := fun x w => w.elim
  -- the loop's spec
  obtain ⟨S, hS⟩ : ∃ S, S = eqV V f a b lk := ⟨_, rfl⟩
  rw [← hS] at k1 k2
  have hv8 : 5 ≤ kdV V a → ∃ i, a = .inl i := ha.2.2.2.2.2.2.2
  have hk0 : kdV V a < 5 → knV V a = [] := fun z => (ha.2.2.2.1 z).2
  have hNI : ∀ j, j < c → NIv V j := fun j hj => (h.2.2.2.2.2.2.2 j hj).1
  refine cal25 (fun n l4 l5 t' => ∃ s m lk', l4 = bI s ∧ l5 = nI m ∧ m ≤ (knV V a).length ∧ n = (knV V a).length - m ∧ ESt C B T t1 G V c O t' lk' ∧ (∀ O' K, EFr B O' K t t') ∧ kdV V a = kdV V b ∧ (knV V a).length = (knV V b).length ∧ ∃ f0, f = f0 + 1 ∧ (s = true → S = eqL (fun x o => eqV V f0 (.inl x) (.inl o)) (otV V a b) ((knV V a).drop m) m lk') ∧ (s = false → S = .inl (false, lk'))) ?_ ?_
  · refine ⟨h.k2, c6z (K := K) h (fun hlo t' h' hE => ⟨rfl, ?_⟩) (fun e he t' hx => k2 e ?_ t' hx)⟩
    · have ha' := ha.go h (hE (fun _ => False) K) (fun w => w) zO
      have hb' := hb.go h (hE (fun _ => False) K) (fun w => w) zO
      obtain ⟨⟨v1, v2, v3, v4⟩, v5, ⟨v6, v7⟩, v8, v9, ⟨v10, v10'⟩, v11⟩ := id ha'
      obtain ⟨⟨w1, w2, w3, w4⟩, w5, ⟨w6, w7⟩, w8, w9, ⟨w10, w10'⟩, w11⟩ := id hb'
      have no : (kdV V a ≠ kdV V b ∨ (knV V a).length ≠ (knV V b).length ∨ f = 0) → S = .inl (false, lk + 1) := fun z => by
        rw [hS]
        cases f with
        | zero => show bE (loE lk) _ = _; rw [hlo]; rfl
        | succ f0 =>
          show bE (loE lk) _ = _
          rw [hlo]
          refine if_pos ?_
          rcases z with z | z | z
          · exact Or.inl z
          · exact Or.inr z
          · cases z
      have go : kdV V a = kdV V b → (knV V a).length = (knV V b).length → ∀ f0, f = f0 + 1 → S = (if kdV V a = 3 then .inl (decide (inV V a = inV V b), lk + 1) else if kdV V a = 4 then .inl (decide (chV V a = chV V b), lk + 1) else
          eqL (fun x o => eqV V f0 (.inl x) (.inl o)) (otV V a b) (knV V a) 0 (lk + 1)) := fun z1 z2 f0 hf0 => by
        rw [hS, hf0]
        show bE (loE lk) _ = _
        rw [hlo]
        exact if_neg (fun z => z.elim (fun w => w z1) (fun w => w z2))
      refine ⟨v1, w1, fun e => ⟨v1, c27 ha' ⟨w1, c27 hb' ⟨fun e1 => ⟨fun e2 => ⟨v1, fun e3 => ⟨v1, w1, fun e4 => ⟨Or.inr rfl, ?_⟩, fun e4 => ⟨Or.inl rfl, ?_⟩⟩, fun e3 => ⟨v1, fun e4 => ⟨v1, w1, ?_⟩, fun e4 => ?_⟩⟩, fun e2 => ⟨Or.inl rfl, ?_⟩⟩, fun e1 => ⟨Or.inl rfl, ?_⟩⟩⟩⟩, fun e => ⟨Or.inl rfl, ?_⟩⟩
      · rw [v3, w3] at e
        have e := (nI_eq (by omega) (by omega)).mp e
        have e1 := (nI_eq (by omega) (by omega)).mp e1
        rw [v3] at e3
        have e3 := (nI_eq (b := 3) (by omega) (by decide)).mp e3
        rw [v5 e3, w5 (by omega), lg_cmp_eq] at e4
        obtain ⟨f0, hf0⟩ := pos0 e2
        exact k1 true _ (by rw [go e e1 f0 hf0, if_pos e3, decide_eq_true e4]) t' h' hE
      · rw [v3, w3] at e
        have e := (nI_eq (by omega) (by omega)).mp e
        have e1 := (nI_eq (by omega) (by omega)).mp e1
        rw [v3] at e3
        have e3 := (nI_eq (b := 3) (by omega) (by decide)).mp e3
        rw [v5 e3, w5 (by omega), lg_cmp_eq] at e4
        obtain ⟨f0, hf0⟩ := pos0 e2
        exact k1 false _ (by rw [go e e1 f0 hf0, if_pos e3, decide_eq_false e4]) t' h' hE
      · rw [v3, w3] at e
        have e := (nI_eq (by omega) (by omega)).mp e
        have e1 := (nI_eq (by omega) (by omega)).mp e1
        rw [v3] at e3 e4
        have e3 : ¬ kdV V a = 3 := fun z => e3 (by rw [z]; rfl)
        have e4 := (nI_eq (b := 4) (by omega) (by decide)).mp e4
        obtain ⟨f0, hf0⟩ := pos0 e2
        rw [if_pos e4] at v6
        rw [if_pos (by omega)] at w6
        refine r146 v6 w6 (fun as z => by injection z with z; rw [← z]; exact v7) w7 ⟨bI01, k1 _ (lk + 1) ?_ t' h' hE⟩
        rw [go e e1 f0 hf0, if_neg e3, if_pos e4]
        congr 2
        by_cases z : chV V a = chV V b
        · rw [decide_eq_true z, z]; simp
        · rw [decide_eq_false z]
          symm
          rw [beq_eq_false_iff_ne]
          intro y
          injection y with y
          exact z y
      · rw [v3, w3] at e
        have e := (nI_eq (by omega) (by omega)).mp e
        have e1 := (nI_eq (by omega) (by omega)).mp e1
        rw [v3] at e3 e4
        have e3 : ¬ kdV V a = 3 := fun z => e3 (by rw [z]; rfl)
        have e4 : ¬ kdV V a = 4 := fun z => e4 (by rw [z]; rfl)
        obtain ⟨f0, hf0⟩ := pos0 e2
        exact ⟨_, rfl, rfl, rfl, rfl, true, 0, lk + 1, rfl, rfl, Nat.zero_le _, rfl, h', hE, e, e1, f0, hf0, fun _ => by rw [go e e1 f0 hf0, if_neg e3, if_neg e4]; rfl, fun z => by cases z⟩
      · refine k1 false _ (no (Or.inr (Or.inr ?_))) t' h' hE
        rcases Nat.eq_zero_or_pos f with z | z
        · exact z
        · exact absurd (nI_lt (a := 0) z (by omega)) e2
      · exact k1 false _ (no (Or.inr (Or.inl (fun z => e1 (by rw [z]))))) t' h' hE
      · rw [v3, w3] at e
        exact k1 false _ (no (Or.inl (fun z => e (by rw [z])))) t' h' hE
    · rw [hS]
      cases f with
      | zero => show bE (loE lk) _ = _; rw [he]; rfl
      | succ f0 => show bE (loE lk) _ = _; rw [he]; rfl
  · rintro n l4 l5 t' ⟨s, m, lk', rfl, rfl, hm, rfl, h', hE, e, e1, f0, hf0, hs1, hs0⟩
    have ha' := ha.go h (hE (fun _ => False) K) (fun w => w) zO
    have hb' := hb.go h (hE (fun _ => False) K) (fun w => w) zO
    obtain ⟨⟨v1, v2, v3, v4⟩, v5, ⟨v6, v7⟩, v8, v9, ⟨v10, v10'⟩, v11, v12⟩ := id ha'
    obtain ⟨⟨w1, w2, w3, w4⟩, w5, ⟨w6, w7⟩, w8, w9, ⟨w10, w10'⟩, w11, w12⟩ := id hb'
    have hN := h'.nv
    refine ⟨v1, c27 ha' ⟨fun e2 => ⟨bI01, ?_⟩, fun e2 => ⟨fun e3 => ⟨bI01, ?_⟩, fun e3 => ⟨v1, ?_⟩⟩⟩⟩
    · have hm2 : (knV V a).length ≤ m := (nI_leI (by omega) (by omega)).mp e2
      refine k1 s lk' ?_ t' h' hE
      cases s with
      | false => exact hs0 rfl
      | true => rw [hs1 rfl, List.drop_eq_nil_of_le hm2]; rfl
    · have := bI_0.mp e3
      subst this
      exact k1 false lk' (hs0 rfl) t' h' hE
    · have hm2 : m < (knV V a).length := Nat.not_le.mp (fun z => e2 (nI_le z (by omega)))
      have hst : s = true := by
        cases s with
        | true => rfl
        | false => exact absurd rfl e3
      subst hst
      have hs1 := hs1 rfl
      rw [List.drop_eq_getElem_cons hm2, eqL_s] at hs1
      have hkd : 5 ≤ kdV V a := by
        rcases Nat.lt_or_ge (kdV V a) 5 with z | z
        · rw [hk0 z] at hm2; exact absurd hm2 (Nat.not_lt_zero _)
        · exact z
      have ex : (knV V a).getD m 0 = (knV V a)[m] := by simp [List.getD, hm2]
      have hxc : (knV V a)[m] < c := v10' _ (List.getElem_mem hm2)
      obtain ⟨x, hx⟩ : ∃ x, x = (knV V a)[m] := ⟨_, rfl⟩
      rw [← hx] at hs1 ex hxc
      obtain ⟨i, rfl⟩ := hv8 hkd
      obtain ⟨j, rfl⟩ := w12 (by omega)
      obtain ⟨hic, -⟩ := v11 i rfl
      obtain ⟨hjc, hjp⟩ := w11 j rfl
      -- what an other kid leads to
      have key : ∀ (o : Option Nat), otV V (.inl i) (.inl j) x m = o → (∀ y, o = some y → y < c) → ∀ (hx0 : True),
          nuR (o.map (gA G)) (∃ k, k < (knV V (.inl i)).length - m ∧ some (B + 6) = some (B + 6) ∧ some p = some p ∧ some q = some q ∧ nI f = nI f ∧ ∃ s m' lk', (0 : Int32) = bI s ∧ nI m + 1 = nI m' ∧ m' ≤ (knV V (.inl i)).length ∧ k = (knV V (.inl i)).length - m' ∧ ESt C B T t1 G V c O t' lk' ∧ (∀ O' K, EFr B O' K t t') ∧ kdV V (.inl i) = kdV V (.inl j) ∧ (knV V (.inl i)).length = (knV V (.inl j)).length ∧ ∃ f0, f = f0 + 1 ∧ (s = true → S = eqL (fun x o => eqV V f0 (.inl x) (.inl o)) (otV V (.inl i) (.inl j)) ((knV V (.inl i)).drop m') m' lk') ∧ (s = false → S = .inl (false, lk')))
            (fun _ => tK t' (B + 6) = 2 ∧ CalG C mtab (d + f + 5) 25 [svR (some (B + 6)), svR (some (gA G x)), svR (o.map (gA G)), svI (nI f - (1 : Int32))] t' (aftV (fun v39 t40 => rI v39 (fun x44 => br (x44 = 0) (∃ k, k < (knV V (.inl i)).length - m ∧ some (B + 6) = some (B + 6) ∧ some p = some p ∧ some q = some q ∧ nI f = nI f ∧ ∃ s m' lk', (0 : Int32) = bI s ∧ nI m + 1 = nI m' ∧ m' ≤ (knV V (.inl i)).length ∧ k = (knV V (.inl i)).length - m' ∧ ESt C B T t1 G V c O t40 lk' ∧ (∀ O' K, EFr B O' K t t40) ∧ kdV V (.inl i) = kdV V (.inl j) ∧ (knV V (.inl i)).length = (knV V (.inl j)).length ∧ ∃ f0, f = f0 + 1 ∧ (s = true → S = eqL (fun x o => eqV V f0 (.inl x) (.inl o)) (otV V (.inl i) (.inl j)) ((knV V (.inl i)).drop m') m' lk') ∧ (s = false → S = .inl (false, lk'))) (∃ k, k < (knV V (.inl i)).length - m ∧ some (B + 6) = some (B + 6) ∧ some p = some p ∧ some q = some q ∧ nI f = nI f ∧ ∃ s m' lk', (1 : Int32) = bI s ∧ nI m + 1 = nI m' ∧ m' ≤ (knV V (.inl i)).length ∧ k = (knV V (.inl i)).length - m' ∧ ESt C B T t1 G V c O t40 lk' ∧ (∀ O' K, EFr B O' K t t40) ∧ kdV V (.inl i) = kdV V (.inl j) ∧ (knV V (.inl i)).length = (knV V (.inl j)).length ∧ ∃ f0, f = f0 + 1 ∧ (s = true → S = eqL (fun x o => eqV V f0 (.inl x) (.inl o)) (otV V (.inl i) (.inl j)) ((knV V (.inl i)).drop m') m' lk') ∧ (s = false → S = .inl (false, lk')))))
              (fun k41 q42 t43 => Post (.inr (k41, q42)) t43))) := by
        intro o ho hoc _
        rw [ho] at hs1
        cases o with
        | none =>
          exact ⟨(knV V (.inl i)).length - (m + 1), by omega, rfl, rfl, rfl, rfl, false, m + 1, lk', rfl, nI_1 m, by omega, rfl, h', hE, e, e1, f0, hf0, (fun z => by cases z), fun _ => hs1⟩
        | some y =>
          have hyc := hoc y rfl
          have hs1 : S = bE (eqV V f0 (.inl x) (.inl y) lk') (fun s k => if s then eqL (fun x o => eqV V f0 (.inl x) (.inl o)) (otV V (.inl i) (.inl j)) ((knV V (.inl i)).drop (m + 1)) (m + 1) k else .inl (false, k)) := hs1
          refine ⟨h'.k2, ?_⟩
          have ef : nI f - (1 : Int32) = nI f0 := by rw [hf0]; exact nI_s1 f0
          rw [ef, show d + f + 5 = d + f0 + 6 by omega]
          refine ih f0 hf0 (.inl x) (.inl y) (gA G x) (gA G y) lk' t' K _ h' (VLf.node hN hxc (hNI x hxc)) (VLf.node hN hyc (hNI y hyc)) (fun r lk2 hr t3 h3 hE3 => ?_) (fun er hr t3 hx3 => ?_)
          · rw [hr] at hs1
            have hE4 : ∀ O' K, EFr B O' K t t3 := fun O' K => (hE O' K).trans h.hB h.rw (hE3 O' K) (fun _ w => w)
            refine ⟨fun z => ?_, fun z => ?_⟩
            · have := bI_0.mp z
              subst this
              exact ⟨(knV V (.inl i)).length - (m + 1), by omega, rfl, rfl, rfl, rfl, false, m + 1, lk2, rfl, nI_1 m, by omega, rfl, h3, hE4, e, e1, f0, hf0, (fun z => by cases z), fun _ => hs1⟩
            · have : r = true := by
                cases r with
                | true => rfl
                | false => exact absurd rfl z
              subst this
              exact ⟨(knV V (.inl i)).length - (m + 1), by omega, rfl, rfl, rfl, rfl, true, m + 1, lk2, rfl, nI_1 m, by omega, rfl, h3, hE4, e, e1, f0, hf0, fun _ => hs1, fun z => by cases z⟩
          · rw [hr] at hs1
            exact k2 er hs1 t3 (EFe.of h (hE O K) hx3 (fun _ w => w))
      rw [nI_l (by omega)]
      refine c28 hN ha' ?_
      rw [kiV_m hm2 v10, ex]
      refine ⟨v1, fun e4 => ⟨w1, c28 hN hb' ?_⟩, fun e4 => ⟨(hN.1 x hxc).1.1.2.2, w1, ?_⟩⟩
      · rw [v3] at e4
        have e4 := (nI_eq (b := 5) (by omega) (by decide)).mp e4
        have hmb : m < (knV V (.inl j)).length := by omega
        refine key (kiV V (.inl j) (lN m)) ?_ (fun y hy => (kiV_c hb' hy).1) trivial
        rw [kiV_m hmb w10]
        unfold otV
        rw [if_pos e4, List.getElem?_eq_getElem hmb]
        simp [List.getD, hmb]
      · rw [v3] at e4
        have e4 : ¬ kdV V (.inl i) = 5 := fun z => e4 (by rw [z]; rfl)
        have e6 : eK (V i) = 6 := by
          have : kdV V (.inl i) = eK (V i) := rfl
          omega
        obtain ⟨nx, wx, -⟩ := hN.1 x hxc
        have hnm := ((hNI i hic).2.1 m hm2).2.2.1 e6
        have ex' : (eS (V i)).getD m 0 = x := ex
        rw [ex'] at hnm
        obtain ⟨cs, hcs⟩ : ∃ cs, eN (V x) = some cs := by
          cases hh : eN (V x) with
          | none => exact absurd hh hnm
          | some cs => exact ⟨cs, rfl⟩
        have hch := nx.2.2.1.2.1
        rw [hcs] at hch
        rw [hjp]
        refine r31 hN hjc hch (wx.2.2.2.2.2.2.2 cs hcs) ?_
        have eo : (if eK (V j) = 6 then (fndN V j cs).map (gA G) else none) = (if eK (V j) = 6 then fndN V j cs else none).map (gA G) := by
          by_cases z : eK (V j) = 6
          · rw [if_pos z, if_pos z]
          · rw [if_neg z, if_neg z]; rfl
        rw [eo, ← hjp]
        refine key (if eK (V j) = 6 then fndN V j cs else none) ?_ (fun y hy => ?_) trivial
        · unfold otV
          rw [if_neg e4]
          show mbV V j ((eN (V x)).getD []) = _
          rw [hcs]
          rfl
        · by_cases z : eK (V j) = 6
          · rw [if_pos z] at hy
            exact w10' y (List.mem_of_find?_eq_some hy)
          · rw [if_neg z] at hy; cases hy
theorem c25a : ∀ f, f ≤ 30 → P25 C B T t1 G V c O d f := by
  intro f
  induction f with
  | zero => intro _; exact c25s (by omega) (fun f0 z => by omega)
  | succ f ih => intro hf; exact c25s hf (fun f0 z => by have : f0 = f := by omega
                                                         subst this; exact ih (by omega))
/-- isEqual -/
theorem c25 {o1 o2 : Option Vl} {x y : Option Nat} (h : ESt C B T t1 G V c O t lk) (h1 : VLo C t G V c o1 x) (h2 : VLo C t G V c o2 y)
    (k1 : ∀ r lk', eqO V o1 o2 lk = .inl (r, lk') → ∀ t', ESt C B T t1 G V c O t' lk' → (∀ O' K, EFr B O' K t t') → Post (.inl (some (svI (bI r)))) t')
    (k2 : ∀ e, eqO V o1 o2 lk = .inr e → ∀ t', EFe C B T t1 G V c O K t t' e → Post (.inr (201, 0)) t') : CalG C mtab (d + 36) 25 [svR (some (B + 6)), svR x, svR y, svI 30] t Post := by
  rcases h1 with ⟨rfl, rfl⟩ | ⟨a, p, rfl, rfl, h1⟩
  · rcases h2 with ⟨rfl, rfl⟩ | ⟨b, q, rfl, rfl, h2⟩
    · exact cal25 (fun _ _ _ _ => False) ⟨Or.inr rfl, k1 true lk rfl t h (fun _ _ => EFr.rfl')⟩ (fun _ _ _ _ z => z.elim)
    · exact cal25 (fun _ _ _ _ => False) ⟨Or.inl rfl, k1 false lk rfl t h (fun _ _ => EFr.rfl')⟩ (fun _ _ _ _ z => z.elim)
  · rcases h2 with ⟨rfl, rfl⟩ | ⟨b, q, rfl, rfl, h2⟩
    · exact cal25 (fun _ _ _ _ => False) ⟨Or.inl rfl, k1 false lk rfl t h (fun _ _ => EFr.rfl')⟩ (fun _ _ _ _ z => z.elim)
    · exact c25a (d := d) 30 (by omega) a b p q lk t K Post h h1 h2 k1 k2
/-- compares -/
theorem c23 {s : Nat} {o1 o2 : Option Vl} {x y : Option Nat} (hs : 1 ≤ s ∧ s ≤ 6) (h : ESt C B T t1 G V c O t lk) (h1 : VLo C t G V c o1 x) (h2 : VLo C t G V c o2 y)
    (k1 : ∀ r lk', cmO V s o1 o2 lk = .inl (r, lk') → ∀ t', ESt C B T t1 G V c O t' lk' → (∀ O' K, EFr B O' K t t') → Post (.inl (some (svI (bI r)))) t')
    (k2 : ∀ e, cmO V s o1 o2 lk = .inr e → ∀ t', EFe C B T t1 G V c O K t t' e → Post (.inr (201, 0)) t') : CalG C mtab (d + 37) 23 [svR (some (B + 6)), svI (nI (s - 1)), svR x, svR y] t Post := by
  obtain ⟨S, hS⟩ : ∃ S, S = cmO V s o1 o2 lk := ⟨_, rfl⟩
  rw [← hS] at k1 k2
  unfold cmO at hS
  refine cal23 ?_
  unfold vc23
  obtain rfl | rfl | rfl | rfl | rfl | rfl : s = 1 ∨ s = 2 ∨ s = 3 ∨ s = 4 ∨ s = 5 ∨ s = 6 := by omega
  · rw [if_pos rfl] at hS
    refine ⟨fun _ => ⟨h.k2, c25 (K := K) h h1 h2 (fun r lk' e t' a1 a2 => ⟨bI01, k1 r lk' (hS.trans e) t' a1 a2⟩) (fun e he t' hx => k2 e (hS.trans he) t' hx)⟩, fun z => absurd rfl z⟩
  · rw [if_neg (by decide), if_pos rfl] at hS
    refine ⟨fun z => absurd z (by decide), fun _ => ⟨fun _ => ⟨h.k2, c25 (K := K) h h1 h2 (fun r lk' e t' a1 a2 => ?_) (fun e he t' hx => k2 e (by rw [hS, he]; rfl) t' hx)⟩, fun z => absurd rfl z⟩⟩
    rw [e] at hS
    cases r with
    | false => exact ⟨fun _ => ⟨Or.inr rfl, k1 true lk' hS t' a1 a2⟩, fun z => absurd rfl z⟩
    | true => exact ⟨fun z => absurd z (by decide), fun _ => ⟨Or.inl rfl, k1 false lk' hS t' a1 a2⟩⟩
  · rw [if_neg (by decide), if_neg (by decide), if_pos rfl] at hS
    refine ⟨fun z => absurd z (by decide), fun _ => ⟨fun z => absurd z (by decide), fun _ => ⟨fun _ => c24 h1 h2 ⟨bI01, k1 _ lk hS t h (fun _ _ => EFr.rfl')⟩, fun z => absurd rfl z⟩⟩⟩
  · rw [if_neg (by decide), if_neg (by decide), if_neg (by decide), if_pos rfl] at hS
    refine ⟨fun z => absurd z (by decide), fun _ => ⟨fun z => absurd z (by decide), fun _ => ⟨fun z => absurd z (by decide), fun _ => ⟨fun _ => c24 h1 h2 ⟨fun z => ?_, fun z => ?_⟩, fun z => absurd rfl z⟩⟩⟩⟩
    · rw [bI_0.mp z, if_neg (by decide)] at hS
      refine ⟨h.k2, c25 (K := K) h h1 h2 (fun r lk' e t' a1 a2 => ?_) (fun e he t' hx => k2 e (hS.trans he) t' hx)⟩
      cases r with
      | false => exact ⟨fun _ => ⟨Or.inl rfl, k1 false lk' (hS.trans e) t' a1 a2⟩, fun z => absurd rfl z⟩
      | true => exact ⟨fun z => absurd z (by decide), fun _ => ⟨Or.inr rfl, k1 true lk' (hS.trans e) t' a1 a2⟩⟩
    · have : lsO V o1 o2 = true := by
        cases hh : lsO V o1 o2 with
        | true => rfl
        | false => rw [hh] at z; exact absurd rfl z
      rw [this, if_pos rfl] at hS
      exact ⟨Or.inr rfl, k1 true lk hS t h (fun _ _ => EFr.rfl')⟩
  · rw [if_neg (by decide), if_neg (by decide), if_neg (by decide), if_neg (by decide), if_pos rfl] at hS
    refine ⟨fun z => absurd z (by decide), fun _ => ⟨fun z => absurd z (by decide), fun _ => ⟨fun z => absurd z (by decide), fun _ => ⟨fun z => absurd z (by decide), fun _ => ⟨fun _ => c24 h2 h1 ⟨bI01, k1 _ lk hS t h (fun _ _ => EFr.rfl')⟩, fun z => absurd rfl z⟩⟩⟩⟩⟩
  · rw [if_neg (by decide), if_neg (by decide), if_neg (by decide), if_neg (by decide), if_neg (by decide)] at hS
    refine ⟨fun z => absurd z (by decide), fun _ => ⟨fun z => absurd z (by decide), fun _ => ⟨fun z => absurd z (by decide), fun _ => ⟨fun z => absurd z (by decide), fun _ => ⟨fun z => absurd z (by decide), fun _ => c24 h2 h1 ⟨fun z => ?_, fun z => ?_⟩⟩⟩⟩⟩⟩
    · rw [bI_0.mp z, if_neg (by decide)] at hS
      refine ⟨h.k2, c25 (K := K) h h2 h1 (fun r lk' e t' a1 a2 => ?_) (fun e he t' hx => k2 e (hS.trans he) t' hx)⟩
      cases r with
      | false => exact ⟨fun _ => ⟨Or.inl rfl, k1 false lk' (hS.trans e) t' a1 a2⟩, fun z => absurd rfl z⟩
      | true => exact ⟨fun z => absurd z (by decide), fun _ => ⟨Or.inr rfl, k1 true lk' (hS.trans e) t' a1 a2⟩⟩
    · have : lsO V o2 o1 = true := by
        cases hh : lsO V o2 o1 with
        | true => rfl
        | false => rw [hh] at z; exact absurd rfl z
      rw [this, if_pos rfl] at hS
      exact ⟨Or.inr rfl, k1 true lk hS t h (fun _ _ => EFr.rfl')⟩
end CE5
