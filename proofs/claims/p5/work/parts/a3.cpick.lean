/-! THE CLASS'S FINDER: selectors -/
section EV3
variable {C : Cx} {d : Nat} {Post : OutT → Ht → Prop} {B T lk lk' c r ri nd lv a D : Nat} {t1 t t' t2 : Ht} {G : GT} {V : VT} {O O' K K' F : Nat → Prop} {l : List Nat} {x : QF}
abbrev flF (V : VT) (x : QF) : Nat → List Nat → Nat → Ev (List Nat) := fun j acc k => bE (loE k) (fun _ k => bE (ev V x 3 j [] k) (fun r k => if r.1 = [] then .inl (acc, k) else coE acc j k))
set_option maxHeartbeats 1000000 in
/-- pickTrue -/
theorem c14 {u : Nat} (hx : S3 C B T t1 G V c O x) (hq : QR C t x 3 [] F [u] false) (hg : gdQ x 3) (hf : fdQ x 3 + (lv + 1) ≤ 16) (hD : dqQ x 3 ≤ D) (h : ESt C B T t1 G V c O t lk) (qc : QCt t F O) (hnd : nd < c) (hr : RwL B c G t r ri l) (hri : ri = 2 * lv ∨ ri = 2 * lv + 1)
    (k1 : ∀ l' lk', foE (flF V x) (eS (V nd)) l lk = .inl (l', lk') → ∀ t', ESt C B T t1 G V c O t' lk' → EFr B (Of O F) (Kb (2 * lv + 2) ri) t t' → RwL B c G t' r ri l' → Post (.inl none) t')
    (k2 : ∀ e, foE (flF V x) (eS (V nd)) l lk = .inr e → ∀ t', EFe C B T t1 G V c O zP t t' e → Post (.inr (201, 0)) t') : CalG C mtab (D + 2) 14 [svR (some (B + 6)), svR (some u), svR (some (gA G nd)), svR (some r), svI (nI lv)] t Post := by
  obtain ⟨S, hS⟩ : ∃ S, S = foE (flF V x) (eS (V nd)) l lk := ⟨_, rfl⟩
  rw [← hS] at k1 k2
  have h45 := dq_45 x 3
  obtain ⟨d, rfl⟩ : ∃ d, D = d + 5 := ⟨D - 5, by omega⟩
  have hlen : (eS (V nd)).length ≤ 300 := (h.vl hnd).2.2.2.2.2.1.1
  have Kle : ∀ i, Kb (2 * lv + 2) ri i → Kl (lv + 1) i := fun i w => by have := w.1; show i < 2 * (lv + 1); omega
  refine cal14 (fun n l5 t' => ∃ m l' lk', l5 = nI m ∧ m ≤ (eS (V nd)).length ∧ n = (eS (V nd)).length - m ∧ ESt C B T t1 G V c O t' lk' ∧ EFr B (Of O F) (Kb (2 * lv + 2) ri) t t' ∧ RwL B c G t' r ri l' ∧ S = foE (flF V x) ((eS (V nd)).drop m) l' lk') ?_ ?_
  · exact ⟨_, rfl, rfl, rfl, rfl, rfl, 0, l, lk, rfl, Nat.zero_le _, rfl, h, EFr.rfl', hr, hS⟩
  · rintro n l5 t' ⟨m, l', lk', rfl, hm, rfl, h', hE, hr', hs⟩
    have hv := h'.vl hnd
    refine ⟨hv.1.1, c27 hv ⟨fun e => ?_, fun e => ⟨h'.k2, ?_⟩⟩⟩
    · have hm2 : (eS (V nd)).length ≤ m := (nI_leI (by omega) (by omega)).mp e
      rw [List.drop_eq_nil_of_le hm2] at hs
      exact k1 l' lk' hs t' h' hE hr'
    · have hm2 : m < (eS (V nd)).length := Nat.not_le.mp (fun z => e (nI_le z (by omega)))
      have ex : (eS (V nd)).getD m 0 = (eS (V nd))[m] := by simp [List.getD, hm2]
      have hjc : (eS (V nd))[m] < c := hv.2.2.2.2.2.1.2 _ (List.getElem_mem hm2)
      rw [List.drop_eq_getElem_cons hm2] at hs
      have hki : kiV V (.inl nd) (lN m) = some (eS (V nd))[m] := by rw [kiV_m (V := V) (a := .inl nd) hm2 hlen]; exact congrArg some ex
      obtain ⟨j, hj⟩ : ∃ j, j = (eS (V nd))[m] := ⟨_, rfl⟩
      rw [← hj] at hs hjc hki
      have hs : S = bE (bE (loE lk') (fun _ k => bE (ev V x 3 j [] k) (fun r k => if r.1 = [] then .inl (l', k) else coE l' j k))) (foE (flF V x) ((eS (V nd)).drop (m + 1))) := hs
      refine c6z (K := zP) h' (fun hlo t3 h3 hE3 => ⟨rfl, (h3.vl hnd).1.1, ?_⟩) (fun er he t3 hx3 => ?_)
      · rw [hlo] at hs
        have hs : S = bE (bE (ev V x 3 j [] (lk' + 1)) (fun r k => if r.1 = [] then .inl (l', k) else coE l' j k)) (foE (flF V x) ((eS (V nd)).drop (m + 1))) := hs
        have hEz := hE.trans h.hB h.rw (hE3 (Of O F) (Kb (2 * lv + 2) ri)) (fun _ w => w)
        have hq3 := hq.go qc h hEz (fun z w => w.1)
        have qc3 := qc.go h hEz
        have hr3 := hr'.go (hE3 zP (fun _ => True)) trivial
        rw [nI_l (by omega)]
        refine c28 h3.nv (h3.vl hnd) ?_
        rw [hki]
        refine ⟨h3.k2, ?_⟩
        rw [nI_1]
        refine hx F u j (lv + 1) (lk' + 1) (d + 5) false t3 _ hq3 hg hf hD h3 qc3 hjc (fun v lk2 hv t4 b1 b2 => ⟨fun e4 => ?_, fun e4 => ⟨(b1.vl hnd).1.1, ?_⟩⟩) (fun er hv t4 hx4 => ?_)
        · rw [hv] at hs
          have e5 : (xor (!v.1.isEmpty) false) = false := bI_0.mp e4
          have e6 : v.1 = [] := by
            cases hh : v.1 with
            | nil => rfl
            | cons y ys => rw [hh] at e5; cases e5
          have hs : S = bE (if v.1 = [] then .inl (l', lk2) else coE l' j lk2) (foE (flF V x) ((eS (V nd)).drop (m + 1))) := hs
          rw [if_pos e6] at hs
          exact ⟨(eS (V nd)).length - (m + 1), by omega, rfl, rfl, rfl, rfl, rfl, m + 1, l', lk2, nI_1 m, by omega, rfl, b1, hEz.trans h.hB h.rw b2 Kle, hr3.go b2 (by show ri < 2 * (lv + 1); omega), hs⟩
        · rw [hv] at hs
          have e6 : ¬ v.1 = [] := fun z => e4 (by rw [z]; rfl)
          have hs : S = bE (if v.1 = [] then .inl (l', lk2) else coE l' j lk2) (foE (flF V x) ((eS (V nd)).drop (m + 1))) := hs
          rw [if_neg e6] at hs
          have hr4 := hr3.go b2 (show ri < 2 * (lv + 1) by omega)
          have hE4 := hEz.trans h.hB h.rw b2 Kle
          refine c28 b1.nv (b1.vl hnd) ?_
          rw [hki]
          refine ⟨b1.k2, c7r (o := some j) b1 hr4 (fun y hy => by injection hy with hy; omega) (fun l2 e2 t5 d1 d2 d3 => ⟨rfl, ?_⟩) (fun er he t5 hx5 => ?_)⟩
          · have e2 : coE l' j lk2 = .inl (l2, lk2) := e2
            rw [e2] at hs
            exact ⟨(eS (V nd)).length - (m + 1), by omega, rfl, rfl, rfl, rfl, rfl, m + 1, l2, lk2, nI_1 m, by omega, rfl, d1, hE4.trans h.hB h.rw (d2.zo.le (K' := Kb (2 * lv + 2) ri) (fun i w => ⟨by have := w.1; omega, w.2⟩)) (fun _ w => w), d3, hs⟩
          · have he : coE l' j lk2 = .inr er := he
            rw [he] at hs
            exact k2 er hs t5 (EFe.of h ((hE4.om (fun z w => w.1)).le (K' := zP) (fun _ w => w.elim)) hx5 (fun _ w => w))
        · rw [hv] at hs
          exact k2 er hs t4 (EFe.of h ((hEz.om (fun z w => w.1)).le (K' := zP) (fun _ w => w.elim)) hx4 (fun _ w => w))
      · rw [he] at hs
        exact k2 er hs t3 (EFe.of h ((hE.om (fun z w => w.1)).le (K' := zP) (fun _ w => w.elim)) hx3 (fun _ w => w))
theorem EVp.top (h : EVp C B T t1 G V c O x) (ht : isTg x = true) : EVs C B T t1 G V c O x := by
  cases x with
  | tag g y => exact h.1
  | _ => cases ht
set_option maxHeartbeats 1000000 in
/-- pick -/
theorem sv12 {g : Nat} (hx : EVp C B T t1 G V c O x) : S12 C B T t1 G V c O (.tag g x) := by
  rintro F a nd lv lk r ri D l t Post hq hg hf hD h qc hnd hr hri k1 k2
  obtain ⟨hg1, hg2, hg3, hg4⟩ : 1 ≤ g ∧ g ≤ 5 ∧ (g = 5 → gdQ x 3) ∧ (g = 4 → stQ x) := hg
  have h45 := dq_45 (.tag g x) 12
  obtain ⟨hFa, us, av', F1, f1, hl, hqx⟩ := hq.tag (by decide) (by decide)
  unfold HL at hl
  rw [if_neg (by decide), if_neg (by decide), if_pos rfl] at hl
  obtain ⟨ka, hl⟩ := hl
  have haN := qc.1 a hFa
  have le34 : ∀ i, Kb (2 * lv + 2) ri i → Kb 34 ri i := fun i w => ⟨by have := w.1; have := hr.2.2.1; omega, w.2⟩
  have nv := h.nv
  have hvl := h.vl hnd
  refine cal12 ⟨ka, ?_⟩
  obtain rfl | rfl | rfl | rfl | rfl : g = 1 ∨ g = 2 ∨ g = 3 ∨ g = 4 ∨ g = 5 := by omega
  · rw [if_pos rfl] at hl
    obtain ⟨l0, z, l1, l2, l3, l4⟩ := hl
    obtain ⟨d, rfl⟩ : ∃ d, D = d + 8 := ⟨D - 8, by omega⟩
    rw [l0]
    refine ⟨fun _ => ⟨ka, hvl.1.1, ?_⟩, fun z => absurd rfl z⟩
    refine r31 (T2 := 0) nv hnd ⟨z, l1, Nat.zero_le _, qc.1 z l2, l3⟩ l4 ?_
    have eo : (if eK (V nd) = 6 then (fndN V nd (unC x)).map (gA G) else none) = (mbV V nd (unC x)).map (gA G) := by
      unfold mbV fndN
      by_cases w : eK (V nd) = 6
      · rw [if_pos w, if_pos w]
      · rw [if_neg w, if_neg w]; rfl
    rw [eo]
    have hS : ev V (.tag 1 x) 12 nd l lk = bE (opE l (mbV V nd (unC x)) lk) (fun r k => .inl ((r, none), k)) := rfl
    rw [hS] at k1 k2
    refine ⟨h.k2, c7r h hr (fun j hj => ?_) (fun l2 e2 t3 b1 b2 b3 => ⟨rfl, k1 (l2, none) lk (by rw [e2]; rfl) t3 b1 (b2.zo.le le34) b3⟩) (fun er he t3 hx3 => k2 er (by rw [he]; rfl) t3 hx3)⟩
    unfold mbV at hj
    by_cases w : eK (V nd) = 6
    · rw [if_pos w] at hj
      exact hvl.2.2.2.2.2.1.2 j (List.mem_of_find?_eq_some hj)
    · rw [if_neg w] at hj; cases hj
  · rw [if_neg (by decide), if_pos rfl] at hl
    obtain ⟨d, rfl⟩ : ∃ d, D = d + 8 := ⟨D - 8, by omega⟩
    rw [hl]
    refine ⟨fun z => absurd z (by decide), fun _ => ⟨fun _ => ⟨h.k2, ?_⟩, fun z => absurd rfl z⟩⟩
    have hS : ev V (.tag 2 x) 12 nd l lk = bE (foE coF (eS (V nd)) l lk) (fun r k => .inl ((r, none), k)) := rfl
    rw [hS] at k1 k2
    exact c13 h hnd hr (fun l2 lk2 e2 t3 b1 b2 b3 => ⟨rfl, k1 (l2, none) lk2 (by rw [e2]; rfl) t3 b1 (b2.zo.le le34) b3⟩) (fun er he t3 hx3 => k2 er (by rw [he]; rfl) t3 hx3)
  · rw [if_neg (by decide), if_neg (by decide), if_pos rfl] at hl
    obtain ⟨d, rfl⟩ : ∃ d, D = d + 8 := ⟨D - 8, by omega⟩
    rw [hl.1]
    refine ⟨fun z => absurd z (by decide), fun _ => ⟨fun z => absurd z (by decide), fun _ => ⟨fun _ => ⟨ka, hvl.1.1, ?_⟩, fun z => absurd rfl z⟩⟩⟩
    rw [hl.2]
    have hS : ev V (.tag 3 x) 12 nd l lk = bE (opE l (elV V nd (unI x)) lk) (fun r k => .inl ((r, none), k)) := rfl
    rw [hS] at k1 k2
    refine c32 nv hvl ⟨h.k2, c7r h hr (fun j hj => ?_) (fun l2 e2 t3 b1 b2 b3 => ⟨rfl, k1 (l2, none) lk (by rw [e2]; rfl) t3 b1 (b2.zo.le le34) b3⟩) (fun er he t3 hx3 => k2 er (by rw [he]; rfl) t3 hx3)⟩
    unfold elV at hj
    by_cases w : eK (V nd) = 5
    · rw [if_pos w] at hj
      exact (kiV_c hvl (x := plV (unI x) (eS (V nd)).length) hj).1
    · rw [if_neg w] at hj; cases hj
  · rw [if_neg (by decide), if_neg (by decide), if_neg (by decide), if_pos rfl] at hl
    obtain ⟨d, rfl⟩ : ∃ d, D = d + 8 := ⟨D - 8, by omega⟩
    rw [hl.1]
    refine ⟨fun z => absurd z (by decide), fun _ => ⟨fun z => absurd z (by decide), fun _ => ⟨fun z => absurd z (by decide), fun _ => ⟨fun _ => ⟨h.k2, ?_⟩, fun z => absurd rfl z⟩⟩⟩⟩
    have hS : ev V (.tag 4 x) 12 nd l lk = bE (foE coF (slV V nd x) l lk) (fun r k => .inl ((r, none), k)) := rfl
    rw [hS] at k1 k2
    exact c15 h hnd hr ka haN hl.2 (hg4 rfl) (fun l2 lk2 e2 t3 b1 b2 b3 => ⟨rfl, k1 (l2, none) lk2 (by rw [e2]; rfl) t3 b1 (b2.zo.le le34) b3⟩) (fun er he t3 hx3 => k2 er (by rw [he]; rfl) t3 hx3)
  · rw [if_neg (by decide), if_neg (by decide), if_neg (by decide), if_neg (by decide), if_pos rfl] at hl
    obtain ⟨l0, rfl, htg, -, u, l2, rfl⟩ := hl
    have hD : dqQ x 3 + 2 ≤ D := hD
    have hf : fdQ x 3 + 1 + lv ≤ 16 := hf
    have hqx : QR C t x 3 [] F1 [u] false := by
      rcases hqx with z | z
      · exact absurd z (by show ¬ (3 : Nat) = 99; decide)
      · exact z
    obtain ⟨d, rfl⟩ : ∃ d, D = d + 2 := ⟨D - 2, by omega⟩
    rw [l0]
    refine ⟨fun z => absurd z (by decide), fun _ => ⟨fun z => absurd z (by decide), fun _ => ⟨fun z => absurd z (by decide), fun _ => ⟨fun z => absurd z (by decide), fun _ => ⟨ka, h.k2, ?_⟩⟩⟩⟩⟩
    rw [l2]
    have hS : ev V (.tag 5 x) 12 nd l lk = bE (foE (flF V x) (eS (V nd)) l lk) (fun r k => .inl ((r, none), k)) := rfl
    rw [hS] at k1 k2
    exact c14 (hx.top htg).2.2.2.1 hqx (hg3 rfl) (by omega) (by omega) h (qc.sub f1) hnd hr hri (fun l2 lk2 e2 t3 b1 b2 b3 => ⟨rfl, k1 (l2, none) lk2 (by rw [e2]; rfl) t3 b1 (b2.om (Of.le f1)) b3⟩) (fun er he t3 hx3 => k2 er (by rw [he]; rfl) t3 hx3)
end EV3
