/-! THE CLASS'S FINDER: formulas, and everything -/
section EV6
variable {C : Cx} {d : Nat} {Post : OutT → Ht → Prop} {B T lk lk' c r ri nd lv a D : Nat} {t1 t t' t2 : Ht} {G : GT} {V : VT} {O O' K K' F : Nat → Prop} {l : List Nat} {x : QF}
theorem isE_x {l : List Nat} {s : Bool} : xor (!(trE (decide (l = []))).1.isEmpty) s = xor (!l.isEmpty) (!s) := by
  rw [trE_b]
  cases l with
  | nil => cases s <;> rfl
  | cons y ys => cases s <;> rfl
theorem QR.t14 {p : QF} {u : Nat} {s : Bool} (h : QR C t (.tag 14 p) 3 [] F [u] s) : tK t u = 11 ∧ tI t u 0 = 4 ∧ tI t u 3 = bI s ∧ isTg p = true ∧ ∃ w F1, (∀ z, F1 z → F z) ∧ tR t u 7 = some w ∧ QR C t p 0 [] F1 [w] false := by
  obtain ⟨hFa, us, av', F1, f1, hl, hqx⟩ := h.tag (by decide) (by decide)
  unfold HL at hl
  rw [if_neg (by decide), if_neg (by decide), if_neg (by decide), if_pos rfl, if_neg (by decide), if_neg (by decide), if_neg (by decide), if_pos rfl] at hl
  obtain ⟨ka, l0, l3, rfl, htg, -, w, l2, rfl⟩ := hl
  refine ⟨ka, l0, l3, htg, w, F1, f1, l2, ?_⟩
  rcases hqx with z | z
  · exact absurd z (by show ¬ (0 : Nat) = 99; decide)
  · exact z
theorem QR.t13 {y1 y2 : QF} {u g : Nat} {s : Bool} (h : QR C t (.tag 13 (.tag g (.append y1 y2))) 3 [] F [u] s) : tK t u = 11 ∧ tI t u 0 = 2 ∧ tI t u 3 = bI s ∧ tI t u 4 = nI (g - 1) ∧ isTg y1 = true ∧ isTg y2 = true ∧ ∃ v w F1 F2, tR t u 5 = some v ∧ tR t u 6 = some w ∧ (∀ z, F1 z → F z) ∧ (∀ z, F2 z → F z) ∧ QR C t y1 7 [] F1 [v] false ∧ QR C t y2 7 [] F2 [w] false ∧ ∀ z, F1 z → ¬ F2 z := by
  obtain ⟨hFa, us, av', F1, f1, hl, hqx⟩ := h.tag (by decide) (by decide)
  unfold HL at hl
  rw [if_neg (by decide), if_neg (by decide), if_neg (by decide), if_pos rfl, if_neg (by decide), if_neg (by decide), if_pos rfl] at hl
  obtain ⟨ka, l0, l3, l4, rfl, -, v, w, l5, l6, rfl⟩ := hl
  have hq5 : QR C t (.tag g (.append y1 y2)) 5 [u] F1 [v, w] false := by
    rcases hqx with z | z
    · exact absurd z (by show ¬ (5 : Nat) = 99; decide)
    · exact z
  unfold QR at hq5
  rw [if_pos rfl] at hq5
  unfold QR at hq5
  rw [if_neg (by decide), if_pos rfl] at hq5
  obtain ⟨v', w', q1, q2, q3, F2, q4, -, q5, F3, q6, -, q7, q8⟩ := hq5
  injection q1 with q1 q1'
  injection q1' with q1' _
  subst q1 q1'
  exact ⟨ka, l0, l3, l4, q2, q3, v, w, F2, F3, l5, l6, fun z hz => f1 z (q4 z hz), fun z hz => f1 z (q6 z hz), q5, q7, q8⟩
theorem gd_one {x : QF} (hg : gdQ x 13) (h1 : qLen x = 1) : ∃ y, x = .append y .nil ∧ gdQ y 3 := by
  cases x with
  | append y z =>
    have h1 : qLen z + 1 = 1 := h1
    obtain ⟨g1, g2⟩ : gdQ y 3 ∧ gdQ z 13 := hg
    cases z with
    | nil => exact ⟨y, rfl, g1⟩
    | append u v => exact absurd h1 (by show ¬ qLen v + 1 + 1 = 1; omega)
    | tag g u => exact g2.elim
    | _ => exact g2.elim
  | _ => cases h1
set_option maxHeartbeats 2000000 in
/-- holds -/
theorem sv3 {g : Nat} (hx : EVp C B T t1 G V c O x) : S3 C B T t1 G V c O (.tag g x) := by
  by_cases g10 : (g = 10 ∨ g = 11) ∧ ¬ qLen x = 1
  · rcases g10.1 with rfl | rfl
    · exact s3or hx g10.2
    · exact s3and hx g10.2
  rintro F a nd lv lk D s t Post hq hg hf hD h qc hnd k1 k2
  have h45 := dq_45 (.tag g x) 3
  by_cases e10 : g = 10 ∨ g = 11
  · have h1 : qLen x = 1 := Classical.byContradiction (fun w => g10 ⟨e10, w⟩)
    have hg : gdQ x 13 := by rcases e10 with rfl | rfl <;> exact hg
    have hf : fdQ x 13 + lv ≤ 16 := by rcases e10 with rfl | rfl <;> exact hf
    have hD : dqQ x 13 + 2 ≤ D := by rcases e10 with rfl | rfl <;> exact hD
    obtain ⟨y, rfl, gy⟩ := gd_one hg h1
    obtain ⟨hFa, us, av', F1, f1, hl, hqx⟩ := hq.tag (by decide) (by decide)
    unfold HL at hl
    rw [if_neg (by decide), if_neg (by decide), if_neg (by decide), if_pos rfl, if_pos e10, if_pos h1] at hl
    obtain ⟨rfl, rfl⟩ := hl
    unfold cM cSg at hqx
    rw [if_neg (by decide), if_neg (by decide), if_neg (by decide), if_pos rfl, if_pos e10, if_pos h1, if_pos rfl, if_pos ⟨e10, h1⟩] at hqx
    have hq4 : QR C t (.append y .nil) 4 [] F1 [a] s := by
      rcases hqx with z | z
      · exact absurd z (by decide)
      · exact z
    unfold QR at hq4
    rw [if_pos rfl] at hq4
    have hf : max (fdQ y 3) 0 + lv ≤ 16 := hf
    have hD : max (dqQ y 3) 45 + 2 ≤ D := hD
    refine (hx.1.top hq4.1).2.2.2.1 F1 a nd lv lk D s t Post hq4.2 gy (by omega) (by omega) h (qc.sub f1) hnd (fun v lk' hv t' a1 a2 => ?_) (fun er hv t' hx' => ?_)
    · rcases e10 with rfl | rfl
      · have hS : ev V (.tag 10 (.append y .nil)) 3 nd [] lk = bE (ev V y 3 nd [] lk) (fun r k => if r.1 = [] then .inl (trE false, k) else .inl (r, k)) := rfl
        rw [hS, hv] at k1
        by_cases w : v.1 = []
        · have := k1 (trE false) lk' (if_pos w) t' a1 (a2.om (Of.le f1))
          rw [w]; exact this
        · exact k1 v lk' (if_neg w) t' a1 (a2.om (Of.le f1))
      · have hS : ev V (.tag 11 (.append y .nil)) 3 nd [] lk = bE (ev V y 3 nd [] lk) (fun r k => if r.1 = [] then .inl (r, k) else .inl (trE true, k)) := rfl
        rw [hS, hv] at k1
        by_cases w : v.1 = []
        · exact k1 v lk' (if_pos w) t' a1 (a2.om (Of.le f1))
        · have := k1 (trE true) lk' (if_neg w) t' a1 (a2.om (Of.le f1))
          rw [ne_b w]; exact this
    · rcases e10 with rfl | rfl
      · have hS : ev V (.tag 10 (.append y .nil)) 3 nd [] lk = bE (ev V y 3 nd [] lk) (fun r k => if r.1 = [] then .inl (trE false, k) else .inl (r, k)) := rfl
        rw [hS, hv] at k2
        exact k2 er rfl t' hx'
      · have hS : ev V (.tag 11 (.append y .nil)) 3 nd [] lk = bE (ev V y 3 nd [] lk) (fun r k => if r.1 = [] then .inl (r, k) else .inl (trE true, k)) := rfl
        rw [hS, hv] at k2
        exact k2 er rfl t' hx'
  have hg : (if g = 12 then gdQ x 3 else if g = 13 then gdQ x 5 else if g = 14 then gdQ x 10 else False) := by
    have hg : (if g = 10 ∨ g = 11 then gdQ x 13 else if g = 12 then gdQ x 3 else if g = 13 then gdQ x 5 else if g = 14 then gdQ x 10 else False) := hg
    rw [if_neg e10] at hg; exact hg
  by_cases e12 : g = 12
  · subst e12
    rw [if_pos rfl] at hg
    have hf : fdQ x 3 + lv ≤ 16 := hf
    have hD : dqQ x 3 + 2 ≤ D := hD
    obtain ⟨hFa, us, av', F1, f1, hl, hqx⟩ := hq.tag (by decide) (by decide)
    unfold HL at hl
    rw [if_neg (by decide), if_neg (by decide), if_neg (by decide), if_pos rfl, if_neg (by decide), if_pos rfl] at hl
    obtain ⟨rfl, rfl, htg⟩ := hl
    have hq3 : QR C t x 3 [] F1 [a] (!s) := by
      rcases hqx with z | z
      · exact absurd z (by show ¬ (3 : Nat) = 99; decide)
      · unfold cSg at z
        rw [if_pos rfl, if_neg (by omega), if_pos rfl] at z
        exact z
    have hS : ev V (.tag 12 x) 3 nd [] lk = bE (ev V x 3 nd [] lk) (fun r k => .inl (trE (decide (r.1 = [])), k)) := rfl
    rw [hS] at k1 k2
    refine (hx.top htg).2.2.2.1 F1 a nd lv lk D (!s) t Post hq3 hg hf (by omega) h (qc.sub f1) hnd (fun v lk' hv t' a1 a2 => ?_) (fun er hv t' hx' => k2 er (by rw [hv]; rfl) t' hx')
    have := k1 (trE (decide (v.1 = []))) lk' (by rw [hv]; rfl) t' a1 (a2.om (Of.le f1))
    rw [isE_x] at this
    exact this
  rw [if_neg e12] at hg
  by_cases e13 : g = 13
  · subst e13
    rw [if_pos rfl] at hg
    cases x with
    | tag sg y =>
      obtain ⟨sg1, sg6, hgy⟩ : 1 ≤ sg ∧ sg ≤ 6 ∧ gdQ y 6 := hg
      cases y with
      | append y1 y2 =>
        obtain ⟨gy1, gy2⟩ : gdQ y1 7 ∧ gdQ y2 7 := hgy
        have hf : max (fdQ y1 7) (fdQ y2 7) + lv ≤ 16 := hf
        have hD : max (dqQ y1 7) (dqQ y2 7) + 2 + 2 ≤ D := hD
        obtain ⟨d, rfl⟩ : ∃ d, D = d + 37 := ⟨D - 37, by omega⟩
        obtain ⟨ka, l0, l3, l4, ty1, ty2, u, w, F1, F2, l5, l6, f1, f2, hq1, hq2, hdj⟩ := hq.t13
        have hS : ev V (.tag 13 (.tag sg (.append y1 y2))) 3 nd [] lk = bE (ev V y1 7 nd [] lk) (fun a k => bE (ev V y2 7 nd [] k) (fun b k => bE (cmO V sg a.2 b.2 k) (fun r k => .inl (trE r, k)))) := rfl
        rw [hS] at k1 k2
        have S71 := (hx.2.1.top ty1).2.2.2.2
        have S72 := (hx.2.2.top ty2).2.2.2.2
        refine cal17 (fun _ _ _ _ => False) (fun _ _ _ _ => False) ⟨ka, ?_⟩ (fun _ _ _ _ z => z.elim) (fun _ _ _ _ z => z.elim)
        rw [l0]
        refine ⟨fun z => absurd z (by decide), fun _ => ⟨ka, ?_⟩⟩
        rw [l0]
        refine ⟨fun z => absurd z (by decide), fun _ => ⟨fun z => absurd z (by decide), fun _ => ⟨fun _ => ⟨ka, h.k2, ?_⟩, fun z => absurd rfl z⟩⟩⟩
        rw [l5]
        refine S71 F1 u nd lv lk (d + 36) t _ hq1 gy1 (by omega) (by omega) h (qc.sub f1) hnd (fun v1 lk1 hv1 t3 q1 a1 a2 a3 a4 => ?_) (fun er hv t' hx' => k2 er (by rw [hv]; rfl) t' hx')
        rw [hv1] at k1 k2
        have k1 : ∀ v lk', bE (ev V y2 7 nd [] lk1) (fun b k => bE (cmO V sg v1.2 b.2 k) (fun r k => .inl (trE r, k))) = .inl (v, lk') → ∀ t', ESt C B T t1 G V c O t' lk' → EFr B (Of O F) (Kl lv) t t' → Post (.inl (some (svI (bI (xor (!v.1.isEmpty) s))))) t' := k1
        have k2 : ∀ e, bE (ev V y2 7 nd [] lk1) (fun b k => bE (cmO V sg v1.2 b.2 k) (fun r k => .inl (trE r, k))) = .inr e → ∀ t', EFe C B T t1 G V c O zP t t' e → Post (.inr (201, 0)) t' := k2
        have a2' := a2.om (Of.le (O := O) f1)
        have hq3 := hq.go qc h a2' (fun z w => w.1)
        have qc3 := qc.go h a2'
        have hq23 := hq2.go (qc.sub f2) h a2' (fun z w => w.1)
        obtain ⟨ka3, -, -, -, -, -, u3, w3, -, -, -, l63, -⟩ := hq3.t13
        have l63 : tR t3 a 6 = some w := by
          have := (a2'.same h (qc.1 a (hq.tag (by decide) (by decide)).1) (by omega) (fun z => by have := (qc.2.1 a z.1).1.1; omega)).2.2.2.2 6
          exact this.trans l6
        refine ⟨ka3, a1.k2, ?_⟩
        rw [l63]
        refine S72 F2 w nd lv lk1 (d + 36) t3 _ hq23 gy2 (by omega) (by omega) a1 (qc3.sub f2) hnd (fun v2 lk2 hv2 t4 q2 b1 b2 b3 b4 => ?_) (fun er hv t' hx' => k2 er (by rw [hv]; rfl) t' (EFe.of h ((a2'.om (fun z w => w.1)).le (K' := zP) (fun _ w => w.elim)) hx' (fun _ w => w)))
        rw [hv2] at k1 k2
        have k1 : ∀ v lk', bE (cmO V sg v1.2 v2.2 lk2) (fun r k => .inl (trE r, k)) = .inl (v, lk') → ∀ t', ESt C B T t1 G V c O t' lk' → EFr B (Of O F) (Kl lv) t t' → Post (.inl (some (svI (bI (xor (!v.1.isEmpty) s))))) t' := k1
        have k2 : ∀ e, bE (cmO V sg v1.2 v2.2 lk2) (fun r k => .inl (trE r, k)) = .inr e → ∀ t', EFe C B T t1 G V c O zP t t' e → Post (.inr (201, 0)) t' := k2
        have b2' := b2.om (Of.le (O := O) f2)
        have hE4 := a2'.trans h.hB h.rw b2' (fun _ w => w)
        have hq4 := hq.go qc h hE4 (fun z w => w.1)
        have qc4 := qc.go h hE4
        obtain ⟨ka4, -, l34, l44, -⟩ := hq4.t13
        have a3' : VLo C t4 G V c v1.2 q1 := a3.go a1 b2 (fun p hp w => by
          rcases a4 p hp with z | z
          · exact hdj p z w.2
          · exact z w.1) (fun z w => (qc3.2.1 z w.1).1.1)
        refine ⟨ka4, b1.k2, ?_⟩
        rw [l44]
        refine c23 (d := d) (K := zP) ⟨sg1, sg6⟩ b1 a3' b3 (fun r lk3 hr t5 d1 d2 => ?_) (fun er he t5 hx5 => k2 er (by rw [he]; rfl) t5 (EFe.of h ((hE4.om (fun z w => w.1)).le (K' := zP) (fun _ w => w.elim)) hx5 (fun _ w => w)))
        have hE5 := hE4.trans h.hB h.rw (d2 (Of O F) (Kl lv)) (fun _ w => w)
        have hq5 := hq.go qc h hE5 (fun z w => w.1)
        obtain ⟨ka5, -, l35, -⟩ := hq5.t13
        refine ⟨ka5, ?_⟩
        rw [l35]
        refine ngx ?_
        have := k1 (trE r) lk3 (by rw [hr]; rfl) t5 d1 hE5
        rw [trE_b] at this
        exact this
      | tag g' z => exact hgy.elim
      | nil => rcases hgy with z | z | z <;> cases z
      | _ => exact hgy.elim
    | append y z => exact hg.elim
    | nil => rcases hg with z | z | z <;> cases z
    | _ => exact hg.elim
  rw [if_neg e13] at hg
  by_cases e14 : g = 14
  · subst e14
    rw [if_pos rfl] at hg
    obtain ⟨ka, l0, l3, htg, w, F1, f1, l7, hqx⟩ := hq.t14
    have hf : fdQ x 10 + lv ≤ 16 := hf
    have hD : dqQ x 10 + 2 ≤ D := hD
    obtain ⟨d, rfl⟩ : ∃ d, D = d + 2 := ⟨D - 2, by omega⟩
    have hS : ev V (.tag 14 x) 3 nd [] lk = bE (ev V x 10 nd [] lk) (fun r k => .inl (trE (decide (r.1 ≠ [])), k)) := rfl
    rw [hS] at k1 k2
    refine cal17 (fun _ _ _ _ => False) (fun _ _ _ _ => False) ⟨ka, ?_⟩ (fun _ _ _ _ z => z.elim) (fun _ _ _ _ z => z.elim)
    rw [l0]
    refine ⟨fun z => absurd z (by decide), fun _ => ⟨ka, ?_⟩⟩
    rw [l0]
    refine ⟨fun z => absurd z (by decide), fun _ => ⟨fun z => absurd z (by decide), fun _ => ⟨fun z => absurd z (by decide), fun _ => ⟨h.k2, ?_⟩⟩⟩⟩
    refine c18 (hx.top htg).2.2.1 ka l7 hqx hg hf (by omega) h (qc.sub f1) hnd (fun v lk' hv t' a1 a2 a3 => ?_) (fun er he t' hx' => k2 er (by rw [he]; rfl) t' hx')
    have a2' := a2.om (Of.le (O := O) f1)
    have hq' := hq.go qc h a2' (fun z w => w.1)
    obtain ⟨ka', -, l3', -⟩ := hq'.t14
    have kk := k1 (trE (decide (v.1 ≠ []))) lk' (by rw [hv]; rfl) t' a1 a2'
    rw [trE_b] at kk
    refine ⟨fun e => ⟨ka', ?_⟩, fun e => ⟨ka', ?_⟩⟩
    · have e1 : v.1 = [] := by
        have : v.1.length ≤ 0 := (nI_leI (b := 0) (by omega) (by decide)).mp e
        cases hh : v.1 with
        | nil => rfl
        | cons y ys => rw [hh] at this; exact absurd this (by simp)
      rw [decide_eq_false (fun z => z e1)] at kk
      rw [l3']
      exact ngx (b := false) kk
    · have e1 : v.1 ≠ [] := fun z => e (by rw [z]; decide)
      rw [decide_eq_true e1] at kk
      rw [l3']
      exact ngx (b := true) kk
  · rw [if_neg e14] at hg
    exact hg.elim
/-- every piece of every query -/
theorem EVall : ∀ x : QF, EVp C B T t1 G V c O x := by
  intro x
  induction x with
  | append x y ihx ihy => exact ⟨ihx, ihy⟩
  | tag g x ih => exact ⟨⟨sv12 ih, sv11 ih, sv10 ih, sv3 ih, sv7 ih⟩, ih⟩
  | _ => trivial
end EV6
