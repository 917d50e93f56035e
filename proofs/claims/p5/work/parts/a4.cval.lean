/-! THE CLASS'S FINDER: operands -/
section EV4
variable {C : Cx} {d : Nat} {Post : OutT → Ht → Prop} {B T lk lk' c r ri nd lv a D : Nat} {t1 t t' t2 : Ht} {G : GT} {V : VT} {O O' K K' F : Nat → Prop} {l : List Nat} {x : QF}
/-- countOf -/
theorem c18 {u w : Nat} (hx : S10 C B T t1 G V c O x) (ku : tK t u = 11) (hu : tR t u 7 = some w) (hq : QR C t x 0 [] F [w] false) (hg : gdQ x 10) (hf : fdQ x 10 + lv ≤ 16) (hD : dqQ x 10 ≤ D) (h : ESt C B T t1 G V c O t lk) (qc : QCt t F O) (hnd : nd < c)
    (k1 : ∀ v lk', ev V x 10 nd [] lk = .inl (v, lk') → ∀ t', ESt C B T t1 G V c O t' lk' → EFr B (Of O F) (Kl lv) t t' → v.1.length ≤ 1000 → Post (.inl (some (svI (nI v.1.length)))) t')
    (k2 : ∀ e, ev V x 10 nd [] lk = .inr e → ∀ t', EFe C B T t1 G V c O zP t t' e → Post (.inr (201, 0)) t') : CalG C mtab (D + 2) 18 [svR (some (B + 6)), svR (some u), svR (some (gA G nd)), svI (nI lv)] t Post := by
  refine cal18 ⟨ku, ?_⟩
  rw [hu]
  refine ⟨ku, h.k2, ?_⟩
  rw [hu]
  refine hx F w nd lv lk D t _ hq hg hf hD h qc hnd (fun v lk' hv t' r ri a1 a2 a3 a4 => ⟨a3.1.1, ?_⟩) k2
  rw [a3.1.2.2.2.2.2.1]
  exact k1 v lk' hv t' a1 a2 a3.1.2.2.2.2.2.2.1
/-- a value's node is no own node -/
theorem ESt.nO {j : Nat} (h : ESt C B T t1 G V c O t lk) (hj : j < c) : ¬ O (gA G j) := fun w => by
  obtain ⟨-, -, -, -, ⟨n1, -, -, -, n5⟩, -⟩ := h
  have := (n1.1 j hj).1.1
  rcases n5 _ w with z | z <;> omega
/-- onlyOf -/
theorem c19 {u w : Nat} (hx : S10 C B T t1 G V c O x) (ku : tK t u = 11) (hu : tR t u 7 = some w) (hq : QR C t x 0 [] F [w] false) (hg : gdQ x 10) (hf : fdQ x 10 + lv ≤ 16) (hD : dqQ x 10 ≤ D) (h : ESt C B T t1 G V c O t lk) (qc : QCt t F O) (hnd : nd < c)
    (k1 : ∀ v lk', ev V x 10 nd [] lk = .inl (v, lk') → ∀ t' q, ESt C B T t1 G V c O t' lk' → EFr B (Of O F) (Kl lv) t t' → VLo C t' G V c (onE v.1) q → (∀ p, q = some p → ¬ O p) → Post (.inl (some (svR q))) t')
    (k2 : ∀ e, ev V x 10 nd [] lk = .inr e → ∀ t', EFe C B T t1 G V c O zP t t' e → Post (.inr (201, 0)) t') : CalG C mtab (D + 2) 19 [svR (some (B + 6)), svR (some u), svR (some (gA G nd)), svI (nI lv)] t Post := by
  refine cal19 ⟨ku, ?_⟩
  rw [hu]
  refine ⟨ku, h.k2, ?_⟩
  rw [hu]
  refine hx F w nd lv lk D t _ hq hg hf hD h qc hnd (fun v lk' hv t' r ri a1 a2 a3 a4 => ⟨a3.1.1, ?_⟩) k2
  have hl := a3.1.2.2.2.2.2.2.1
  rw [a3.1.2.2.2.2.2.1]
  refine ⟨fun e => ⟨a3.1.1, ?_⟩, fun e => ?_⟩
  · have e1 : v.1.length = 1 := (nI_eq (b := 1) (by omega) (by decide)).mp e
    have hc0 : v.1.getD 0 0 < c := a3.2.2.2 _ (gd_mem (by omega))
    refine c106 (i := 0) (d := D) a3.1 (by omega) ?_
    refine k1 v lk' hv t' _ a1 a2 (Or.inr ⟨.inl (v.1.getD 0 0), _, ?_, rfl, a1.vl hc0⟩) (fun p hp => by injection hp with hp; subst hp; exact a1.nO hc0)
    unfold onE
    rw [if_pos e1]
    congr 2
    cases v.1 <;> rfl
  · refine k1 v lk' hv t' none a1 a2 (Or.inl ⟨?_, rfl⟩) (fun p hp => by cases hp)
    unfold onE
    rw [if_neg (fun z => e (by rw [z]; rfl))]
theorem VLf.lit {p kd : Nat} {z : Int64} {cs : List Nat} (h1 : tK t p = 3) (h2 : p < tN t) (h3 : tI t p 0 = nI kd) (h4 : kd < 5) (h5 : kd = 3 → tJ t p 5 = z) (h6 : chR t 0 (tR t p 6) (if kd = 4 then some cs else none)) (h7 : okC cs) (h8 : tR t p 4 = none) : VLf C t G V c (.inr (kd, z, cs)) p :=
  ⟨⟨h1, h2, h3, Nat.lt_of_lt_of_le h4 (by decide)⟩, h5, ⟨h6, h7⟩, fun _ => ⟨h8, rfl⟩, fun w => absurd w (by show ¬ 5 ≤ kd; omega), ⟨Nat.zero_le _, fun k hk => by cases hk⟩, fun i hi => (by cases hi), fun w => absurd w (by show ¬ 5 ≤ kd; omega)⟩
theorem okC_n : okC [] := ⟨by decide, fun x hx => by cases hx⟩
theorem sJ_eq' {p k : Nat} {z : Int64} : tJ (sJ t p k z) p k = z := by simp [ht]
theorem EFr.J {p : Nat} {z : Int64} (h : ESt C B T t1 G V c O t lk) (hp : O' p) (hk : tK t p = 3) : EFr B O' K t (sJ t p 5 z) := by
  have hR := h.rw
  refine ⟨Nat.le_refl _, fun _ _ => ⟨rfl, rfl⟩, fun x hx k1 k2 k3 k4 => ⟨fun _ => rfl, fun _ => rfl, fun k hk5 => ?_⟩, ⟨fun _ => rfl, fun _ _ _ => rfl, fun _ _ e => e⟩, fun i r hi hi2 e => ?_, ?_⟩
  · by_cases e : x = p
    · subst e
      have : k ≠ 5 := hk5.elim (fun w => absurd hp w) id
      simp [ht, this]
    · simp [ht, e]
  · obtain ⟨a1, a2, a3, -⟩ := hR.1 i r hi2 e
    have e1 : r ≠ p := fun w => by rw [w, hk] at a1; cases a1
    have e2 : r + 1 ≠ p := fun w => by rw [w, hk] at a3; cases a3
    exact ⟨⟨rfl, rfl, fun _ => rfl, fun k => by simp [ht, e1], fun _ => rfl⟩, ⟨rfl, rfl, fun _ => rfl, fun k => by simp [ht, e2], fun _ => rfl⟩⟩
  · rw [msR_eq (fun _ => rfl)]
    exact ⟨Nat.le_refl _, Nat.le_refl _⟩
/-- reckoned -/
theorem c21 {p n : Nat} (hn : n < 2 ^ 31) (h : ESt C B T t1 G V c O t lk) (hO : O p) (hF : F p) (hk : tK t p = 3) (hpN : p < tN t) (h0 : tI t p 0 = 3) (h4 : tR t p 4 = none) (h6 : tR t p 6 = none)
    (k : ∀ t', ESt C B T t1 G V c O t' lk → EFr B (Of O F) K t t' → VLo C t' G V c (some (.inr (3, lN n, []))) (some p) → Post (.inl (some (svR (some p)))) t') : CalG C mtab (d + 1) 21 [svI (nI n), svR (some p)] t Post := by
  refine cal21 ⟨hk, ?_⟩
  rw [nI_l hn]
  have ef : ∀ K, EFr B (Of O F) K t (sJ t p 5 (lN n)) := fun K => EFr.J h ⟨hO, hF⟩ hk
  refine k _ (h.go (O := O) ((ef zP).om (fun z w => w.1)) h.2.2.1 h.2.2.2.1 h.rw) (ef K) (Or.inr ⟨_, _, rfl, rfl, VLf.lit (kd := 3) hk hpN h0 (by decide) (fun _ => sJ_eq') ?_ okC_n h4⟩)
  rw [if_neg (by decide)]
  exact h6
/-- lengthOf -/
theorem c22 {p : Nat} {o : Option Vl} {q : Option Nat} (h : ESt C B T t1 G V c O t lk) (hv : VLo C t G V c o q) (hO : O p) (hF : F p) (hk : tK t p = 3) (hpN : p < tN t) (h0 : tI t p 0 = 3) (h4 : tR t p 4 = none) (h6 : tR t p 6 = none)
    (k : ∀ t' q', ESt C B T t1 G V c O t' lk → EFr B (Of O F) K t t' → VLo C t' G V c (lnO V o) q' → (∀ y, q' = some y → y = p) → Post (.inl (some (svR q'))) t') : CalG C mtab (d + 4) 22 [svR q, svR (some p)] t Post := by
  refine cal22 ?_
  rcases hv with ⟨rfl, rfl⟩ | ⟨a, y, rfl, rfl, hv⟩
  · exact k t none h EFr.rfl' (Or.inl ⟨rfl, rfl⟩) (fun y hy => by cases hy)
  · have v3 := hv.1.2.2.1
    have v4 := hv.1.2.2.2
    refine ⟨hv.1.1, fun e => ⟨hv.1.1, c29 hv ?_⟩, fun e => ?_⟩
    · rw [v3] at e
      have e1 : 4 ≤ kdV V a := (nI_leI (a := 4) (by decide) (by omega)).mp e
      refine c21 (F := F) (K := K) ?_ h hO hF hk hpN h0 h4 h6 (fun t' a1 a2 a3 => k t' (some p) a1 a2 ?_ (fun y hy => by injection hy with hy; exact hy.symm))
      · have l1 := hv.2.2.1.2.1
        have l2 := hv.2.2.2.2.2.1.1
        split <;> omega
      · have el : lnO V (some a) = some (.inr (3, lN (if kdV V a = 4 then (chV V a).length else (knV V a).length), [])) := if_neg (Nat.not_lt.mpr e1)
        rw [el]
        exact a3
    · rw [v3] at e
      have e1 : kdV V a < 4 := Nat.not_le.mp (fun w => e (nI_le w (by omega)))
      refine k t none h EFr.rfl' (Or.inl ⟨?_, rfl⟩) (fun y hy => by cases hy)
      exact if_pos e1
theorem QR.t25 {p : QF} {u : Nat} (h : QR C t (.tag 25 p) 7 [] F [u] false) : tK t u = 11 ∧ tI t u 0 = 4 ∧ isTg p = true ∧ ∃ w F1, (∀ z, F1 z → F z) ∧ tR t u 7 = some w ∧ QR C t p 0 [] F1 [w] false := by
  obtain ⟨hFa, us, av', F1, f1, hl, hqx⟩ := h.tag (by decide) (by decide)
  unfold HL at hl
  rw [if_neg (by decide), if_neg (by decide), if_neg (by decide), if_neg (by decide), if_pos rfl, if_pos rfl] at hl
  obtain ⟨ka, l0, -, rfl, htg, -, w, l2, rfl⟩ := hl
  refine ⟨ka, l0, htg, w, F1, f1, l2, ?_⟩
  rcases hqx with z | z
  · exact absurd z (by show ¬ (0 : Nat) = 99; decide)
  · exact z
theorem QR.t26 {y : QF} {g u : Nat} (h : QR C t (.tag 26 (.tag g y)) 7 [] F [u] false) : tK t u = 11 ∧ tI t u 0 = nI (g + 4) ∧ (tR t u 8 = some (u + 1) ∧ F (u + 1) ∧ tK t (u + 1) = 3 ∧ tR t (u + 1) 4 = none ∧ tI t (u + 1) 0 = 3 ∧ tR t (u + 1) 6 = none) ∧ isTg y = true ∧ ∃ w F1, (∀ z, F1 z → F z) ∧ tR t u 5 = some w ∧ QR C t y 7 [] F1 [w] false := by
  obtain ⟨hFa, us, av', F1, f1, hl, hqx⟩ := h.tag (by decide) (by decide)
  unfold HL at hl
  rw [if_neg (by decide), if_neg (by decide), if_neg (by decide), if_neg (by decide), if_pos rfl, if_neg (by decide), if_neg (by decide), if_neg (by decide), if_neg (by decide), if_neg (by decide), if_neg (by decide), if_neg (by decide), if_pos rfl] at hl
  obtain ⟨ka, l8, lF, lk3, l4, l0, l00, l6, rfl, -, w, l5, rfl, -, -⟩ := hl
  have hq8 : QR C t (.tag g y) 8 [] F1 [w] false := by
    rcases hqx with z | z
    · exact absurd z (by show ¬ (8 : Nat) = 99; decide)
    · exact z
  unfold QR at hq8
  rw [if_neg (by decide), if_pos rfl] at hq8
  exact ⟨ka, l0, ⟨l8, lF, lk3, l4, l00, l6⟩, hq8.1, w, F1, f1, l5, hq8.2⟩
set_option maxHeartbeats 2000000 in
/-- valueOf -/
theorem sv7 {g : Nat} (hx : EVp C B T t1 G V c O x) : S7 C B T t1 G V c O (.tag g x) := by
  rintro F a nd lv lk D t Post hq hg hf hD h qc hnd k1 k2
  have h45 := dq_45 (.tag g x) 7
  have hg : (if g = 25 then gdQ x 10 ∧ 2 ≤ tgN x else if g = 26 then gdQ x 8 else 20 ≤ g ∧ g ≤ 24) := hg
  by_cases e25 : g = 25
  · subst e25
    rw [if_pos rfl] at hg
    obtain ⟨ka, l0, htg, w, F1, f1, l7, hqx⟩ := hq.t25
    have hD : dqQ x 10 + 2 ≤ D := hD
    have hf : fdQ x 10 + lv ≤ 16 := hf
    obtain ⟨d, rfl⟩ : ∃ d, D = d + 2 := ⟨D - 2, by omega⟩
    refine cal20 ⟨ka, ?_⟩
    rw [l0]
    refine ⟨fun z => absurd z (by decide), fun _ => ⟨fun _ => ⟨h.k2, ?_⟩, fun z => absurd rfl z⟩⟩
    have hS : ev V (.tag 25 x) 7 nd [] lk = bE (ev V x 10 nd [] lk) (fun r k => .inl (([], onE r.1), k)) := rfl
    rw [hS] at k1 k2
    exact c19 (hx.top htg).2.2.1 ka l7 hqx hg.1 hf (by omega) h (qc.sub f1) hnd (fun v lk' hv t' q a1 a2 a3 a4 => k1 ([], onE v.1) lk' (by rw [hv]; rfl) t' q a1 (a2.om (Of.le f1)) a3 (fun p hp => Or.inr (a4 p hp))) (fun er he t' hx' => k2 er (by rw [he]; rfl) t' hx')
  rw [if_neg e25] at hg
  by_cases e26 : g = 26
  · subst e26
    rw [if_pos rfl] at hg
    cases x with
    | tag g y =>
      obtain ⟨ka, l0, ⟨l8, lF, lk3, l4, l00, l6⟩, htg, w, F1, f1, l5, hqx⟩ := hq.t26
      have hD : dqQ y 7 + 2 + 2 ≤ D := hD
      have hf : fdQ y 7 + lv ≤ 16 := hf
      obtain ⟨d, rfl⟩ : ∃ d, D = d + 4 := ⟨D - 4, by omega⟩
      have qc1 := qc.sub f1
      have hEy := hx.2.top htg
      rcases (show (g = 1 ∧ gdQ y 7) ∨ ((g = 2 ∨ g = 3) ∧ gdQ y 9) from hg) with ⟨rfl, hgy⟩ | ⟨hg23, hgy⟩
      · have hS : ev V (.tag 26 (.tag 1 y)) 7 nd [] lk = bE (ev V y 7 nd [] lk) (fun r k => .inl (([], lnO V r.2), k)) := rfl
        rw [hS] at k1 k2
        refine cal20 ⟨ka, ?_⟩
        rw [l0]
        refine ⟨fun z => absurd z (by decide), fun _ => ⟨fun z => absurd z (by decide), fun _ => ⟨fun _ => ⟨ka, h.k2, ?_⟩, fun z => absurd rfl z⟩⟩⟩
        rw [l5]
        refine hEy.2.2.2.2 F1 w nd lv lk (d + 3) t _ hqx hgy hf (by omega) h qc1 hnd (fun v lk' hv t' q a1 a2 a3 a4 => ?_) (fun er he t' hx' => k2 er (by rw [he]; rfl) t' hx')
        have a2' := a2.om (Of.le (O := O) f1)
        have hq' := hq.go qc h a2' (fun z w => w.1)
        have qc' := qc.go h a2'
        obtain ⟨ka', l0', ⟨l8', lF', lk3', l4', l00', l6'⟩, -⟩ := hq'.t26
        refine ⟨ka', ?_⟩
        rw [l8']
        refine c22 (F := F) (K := Kl lv) a1 a3 (qc'.2.2 _ lF' ⟨lk3', a, rfl, ka', Or.inl (by rw [l0']; rfl)⟩) lF' lk3' (qc'.1 _ lF') l00' l4' l6' (fun t3 q3 b1 b2 b3 b4 => ?_)
        exact k1 ([], lnO V v.2) lk' (by rw [hv]; rfl) t3 q3 b1 (a2'.trans h.hB h.rw b2 (fun _ w => w)) b3 (fun p hp => Or.inl (by rw [b4 p hp]; exact lF'))
      · cases y with
        | tag g' p =>
          obtain ⟨rfl, hgp⟩ : g' = 25 ∧ gdQ p 10 := hgy
          obtain ⟨kw, w0, htp, w2, F2, f2, w7, hqp⟩ := hqx.t25
          have hEp := hx.2.2.top htp
          have hD2 : dqQ p 10 + 2 + 2 + 2 ≤ d + 4 := hD
          have hf2 : fdQ p 10 + lv ≤ 16 := hf
          have f12 : ∀ z, F2 z → F z := fun z hz => f1 z (f2 z hz)
          rcases hg23 with rfl | rfl
          · have hS : ev V (.tag 26 (.tag 2 (.tag 25 p))) 7 nd [] lk = bE (ev V p 10 nd [] lk) (fun r k => .inl (([], some (.inr (3, lN r.1.length, []))), k)) := rfl
            rw [hS] at k1 k2
            refine cal20 ⟨ka, ?_⟩
            rw [l0]
            refine ⟨fun z => absurd z (by decide), fun _ => ⟨fun z => absurd z (by decide), fun _ => ⟨fun z => absurd z (by decide), fun _ => ⟨fun _ => ⟨ka, h.k2, ?_⟩, fun z => absurd rfl z⟩⟩⟩⟩
            rw [l5]
            refine c18 (D := d + 2) hEp.2.2.1 kw w7 hqp hgp hf2 (by omega) h (qc.sub f12) hnd (fun v lk' hv t' a1 a2 a3 => ?_) (fun er he t' hx' => k2 er (by rw [he]; rfl) t' hx')
            have a2' := a2.om (Of.le (O := O) f12)
            have hq' := hq.go qc h a2' (fun z w => w.1)
            have qc' := qc.go h a2'
            obtain ⟨ka', l0', ⟨l8', lF', lk3', l4', l00', l6'⟩, -⟩ := hq'.t26
            refine ⟨ka', ?_⟩
            rw [l8']
            refine c21 (F := F) (K := Kl lv) (by omega) a1 (qc'.2.2 _ lF' ⟨lk3', a, rfl, ka', Or.inr (by rw [l0']; rfl)⟩) lF' lk3' (qc'.1 _ lF') l00' l4' l6' (fun t3 b1 b2 b3 => ?_)
            exact k1 ([], some (.inr (3, lN v.1.length, []))) lk' (by rw [hv]; rfl) t3 _ b1 (a2'.trans h.hB h.rw b2 (fun _ w => w)) b3 (fun p hp => Or.inl (by injection hp with hp; subst hp; exact lF'))
          · have hS : ev V (.tag 26 (.tag 3 (.tag 25 p))) 7 nd [] lk = bE (ev V p 10 nd [] lk) (fun r k => .inl (([], onE r.1), k)) := rfl
            rw [hS] at k1 k2
            refine cal20 ⟨ka, ?_⟩
            rw [l0]
            refine ⟨fun z => absurd z (by decide), fun _ => ⟨fun z => absurd z (by decide), fun _ => ⟨fun z => absurd z (by decide), fun _ => ⟨fun z => absurd z (by decide), fun _ => ⟨ka, h.k2, ?_⟩⟩⟩⟩⟩
            rw [l5]
            exact c19 (D := d + 2) hEp.2.2.1 kw w7 hqp hgp hf2 (by omega) h (qc.sub f12) hnd (fun v lk' hv t' q a1 a2 a3 a4 => k1 ([], onE v.1) lk' (by rw [hv]; rfl) t' q a1 (a2.om (Of.le f12)) a3 (fun p hp => Or.inr (a4 p hp))) (fun er he t' hx' => k2 er (by rw [he]; rfl) t' hx')
        | _ => cases htg
    | append y z => exact hg.elim
    | nil => rcases hg with z | z | z <;> cases z
    | _ => exact hg.elim
  rw [if_neg e26] at hg
  obtain ⟨hFa, us, av', F1, f1, hl, -⟩ := hq.tag (by decide) (by decide)
  unfold HL at hl
  rw [if_neg (by decide), if_neg (by decide), if_neg (by decide), if_neg (by decide), if_pos rfl, if_neg e25, if_neg (by omega)] at hl
  obtain ⟨ka, l8, lF, lk3, l4, hl⟩ := hl
  have hpN := qc.1 _ lF
  have done : ∀ (v : Vl), tI t a 0 = 3 → ev V (.tag g x) 7 nd [] lk = .inl (([], some v), lk) → VLf C t G V c v (a + 1) → CalG C mtab (D + 1) 20 [svR (some (B + 6)), svR (some a), svR (some (gA G nd)), svI (nI lv)] t Post := fun v h3 he hv => by
    refine cal20 ⟨ka, ?_⟩
    rw [h3]
    refine ⟨fun _ => ⟨ka, ?_⟩, fun z => absurd rfl z⟩
    rw [l8]
    exact k1 ([], some v) lk he t _ h EFr.rfl' (Or.inr ⟨v, _, rfl, rfl, hv⟩) (fun p hp => Or.inl (by injection hp with hp; subst hp; exact lF))
  obtain rfl | rfl | rfl | rfl | rfl : g = 20 ∨ g = 21 ∨ g = 22 ∨ g = 23 ∨ g = 24 := by omega
  · rw [if_pos rfl] at hl
    obtain ⟨b1, b2, b3, b4⟩ := hl
    exact done _ b1 rfl (VLf.lit (kd := 3) lk3 hpN b2 (by decide) (fun _ => b3) (by rw [if_neg (by decide)]; exact b4) okC_n l4)
  · rw [if_neg (by decide), if_pos rfl] at hl
    obtain ⟨b1, b2, z, z1, z2, z3, z4⟩ := hl
    exact done _ b1 rfl (VLf.lit (kd := 4) lk3 hpN b2 (by decide) (fun w => by cases w) (by rw [if_pos rfl]; exact ⟨z, z1, Nat.zero_le _, qc.1 z z2, z3⟩) z4 l4)
  · rw [if_neg (by decide), if_neg (by decide), if_pos rfl] at hl
    obtain ⟨b1, b2, b3⟩ := hl
    exact done _ b1 rfl (VLf.lit (kd := 2) lk3 hpN b2 (by decide) (fun w => by cases w) (by rw [if_neg (by decide)]; exact b3) okC_n l4)
  · rw [if_neg (by decide), if_neg (by decide), if_neg (by decide), if_pos rfl] at hl
    obtain ⟨b1, b2, b3⟩ := hl
    exact done _ b1 rfl (VLf.lit (kd := 1) lk3 hpN b2 (by decide) (fun w => by cases w) (by rw [if_neg (by decide)]; exact b3) okC_n l4)
  · rw [if_neg (by decide), if_neg (by decide), if_neg (by decide), if_neg (by decide), if_pos rfl] at hl
    obtain ⟨b1, b2, b3⟩ := hl
    exact done _ b1 rfl (VLf.lit (kd := 0) lk3 hpN b2 (by decide) (fun w => by cases w) (by rw [if_neg (by decide)]; exact b3) okC_n l4)
end EV4
