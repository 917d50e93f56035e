/-! THE CLASS'S FINDER: segments and paths -/
section EV2
variable {C : Cx} {d : Nat} {Post : OutT → Ht → Prop} {B T lk lk' c r ri nd lv a D : Nat} {t1 t t' t2 : Ht} {G : GT} {V : VT} {O O' K K' F : Nat → Prop} {l : List Nat} {x : QF}
theorem dq_45 : ∀ (x : QF) (m : Nat), 45 ≤ dqQ x m := by
  intro x
  induction x with
  | append x y ihx ihy =>
    intro m
    unfold dqQ
    have := ihy 1; have := ihy 2; have := ihy 13; have := ihy 7
    split
    · omega
    split
    · omega
    split
    · omega
    · omega
  | tag g x ih =>
    intro m
    unfold dqQ
    have := ih 2; have := ih 3; have := ih 13; have := ih 5; have := ih 10; have := ih 6; have := ih 1; have := ih 7; have := ih 8
    repeat' split
    all_goals omega
  | _ => intro m; exact Nat.le_refl _
abbrev dpF (V : VT) (x : QF) : Nat → List Nat → Nat → Ev (List Nat) := fun j acc k => bE (loE k) (fun _ k => bE (ev V x 2 j acc k) (fun r k => .inl (r.1, k)))
set_option maxHeartbeats 1000000 in
/-- walk -/
theorem sv11 {g : Nat} (hx : EVp C B T t1 G V c O x) : S11 C B T t1 G V c O (.tag g x) := by
  rintro g' y e F a nd lv lk r ri D l t Post hq hg hf hD h qc hnd hr hri k1 k2
  injection e with e1 e2
  subst e1 e2
  obtain ⟨hg1, hg2⟩ : g ≤ 1 ∧ gdQ x 2 := hg
  have hf : fdQ x 2 + lv ≤ 16 := hf
  have hD : dqQ x 2 + 2 ≤ D := hD
  have h45 := dq_45 x 2
  obtain ⟨d, rfl⟩ : ∃ d, D = d + 2 := ⟨D - 2, by omega⟩
  obtain ⟨S, hS⟩ : ∃ S, S = sgE V g x nd l lk := ⟨_, rfl⟩
  rw [← hS] at k1 k2
  unfold sgE at hS
  obtain ⟨-, s1, s2, -⟩ := hq.seg
  have hnv := h.2.2.2.2.2.2.2 nd hnd
  have hle : nd ≤ eL (V nd) := by have := kcV_le hnv.1.1; omega
  have hlc := hnv.2
  have hc3 := h.nv.2.2
  refine cal10 (fun n l5 t' => g = 1 ∧ ∃ j l' lk', nd ≤ j ∧ j ≤ eL (V nd) + 1 ∧ n = eL (V nd) + 1 - j ∧ l5 = (if j < c then some (gA G j) else none) ∧ ESt C B T t1 G V c O t' lk' ∧ EFr B (Of O F) (Kb (2 * lv + 2) ri) t t' ∧ RwL B c G t' r ri l' ∧ S = foE (dpF V x) (List.range' j (eL (V nd) + 1 - j)) l' lk') ?_ ?_
  · refine ⟨s1, fun e => ⟨h.k2, ?_⟩, fun e => ?_⟩
    · rw [s2] at e
      have e0 : g = 0 := (nI_eq (b := 0) (by omega) (by decide)).mp e
      rw [if_neg (by omega)] at hS
      refine c11 (g := g) hx hq hg2 hf (by omega) h qc hnd hr hri (fun v lk' hv t' a1 a2 a3 => ⟨rfl, ?_⟩) (fun er hv t' hx' => ?_) (by omega)
      · rw [hv] at hS; exact k1 v.1 lk' hS t' a1 a2 a3
      · rw [hv] at hS; exact k2 er hS t' hx'
    · rw [s2] at e
      have e1 : g = 1 := by
        rcases Nat.lt_or_ge g 1 with w | w
        · have : g = 0 := by omega
          subst this; exact absurd rfl e
        · omega
      rw [if_pos e1] at hS
      exact ⟨_, rfl, rfl, rfl, rfl, rfl, e1, nd, l, lk, Nat.le_refl _, by omega, rfl, by rw [if_pos hnd], h, EFr.rfl', hr, hS⟩
  · rintro n l5 t' ⟨e1, j, l', lk', hj1, hj2, rfl, rfl, h', hE, hr', hs⟩
    have stop : eL (V nd) < j → Post (.inl none) t' := fun w => by
      have : eL (V nd) + 1 - j = 0 := by omega
      rw [this] at hs
      exact k1 l' lk' hs t' h' hE hr'
    by_cases hjc : j < c
    · rw [if_pos hjc]
      have hv := h'.vl hnd
      obtain ⟨ne, vw, nx⟩ := h'.nv.1 j hjc
      obtain ⟨ned, vwd, -⟩ := h'.nv.1 nd hnd
      refine ⟨ne.1.2.2, ned.1.2.2, fun e => ?_, fun e => ⟨h'.k2, ?_⟩⟩
      · rw [ned.2.2.1.2.2.2, ne.2.1.2.2.2.1] at e
        exact stop ((nI_ltI (by omega) (by omega)).mp e)
      · rw [ned.2.2.1.2.2.2, ne.2.1.2.2.2.1] at e
        have hjl : j ≤ eL (V nd) := Nat.not_lt.mp (fun w => e (nI_lt w (by omega)))
        have er : eL (V nd) + 1 - j = (eL (V nd) + 1 - (j + 1)) + 1 := by omega
        rw [er, List.range'_succ] at hs
        have hs : S = bE (bE (loE lk') (fun _ k => bE (ev V x 2 j l' k) (fun r k => .inl (r.1, k)))) (foE (dpF V x) (List.range' (j + 1) (eL (V nd) + 1 - (j + 1)))) := hs
        refine c6z (K := zP) h' (fun hlo t3 h3 hE3 => ⟨rfl, h3.k2, ?_⟩) (fun er he t3 hx3 => ?_)
        · rw [hlo] at hs
          have hs : S = bE (bE (ev V x 2 j l' (lk' + 1)) (fun r k => .inl (r.1, k))) (foE (dpF V x) (List.range' (j + 1) (eL (V nd) + 1 - (j + 1)))) := hs
          have hEz := hE.trans h.hB h.rw (hE3 (Of O F) (Kb (2 * lv + 2) ri)) (fun _ w => w)
          have hq3 := hq.go qc h hEz (fun z w => w.1)
          have qc3 := qc.go h hEz
          have hr3 := hr'.go (hE3 zP (fun _ => True)) trivial
          refine c11 (g := g) hx hq3 hg2 hf (by omega) h3 qc3 hjc hr3 hri (fun v lk2 hv t4 a1 a2 a3 => ⟨rfl, ?_⟩) (fun er hv t4 hx4 => ?_) (by omega)
          · rw [hv] at hs
            obtain ⟨ne4, vw4, nx4⟩ := a1.nv.1 j hjc
            refine ⟨ne4.1.2.2, eL (V nd) + 1 - (j + 1), by omega, rfl, rfl, rfl, rfl, rfl, e1, j + 1, v.1, lk2, by omega, by omega, rfl, nx4, a1, hEz.trans h.hB h.rw a2 (fun _ w => w), a3, hs⟩
          · rw [hv] at hs
            exact k2 er hs t4 (EFe.of h ((hEz.om (fun z w => w.1)).le (K' := zP) (fun _ w => w.elim)) hx4 (fun _ w => w))
        · rw [he] at hs
          exact k2 er hs t3 (EFe.of h ((hE.om (fun z w => w.1)).le (K' := zP) (fun _ w => w.elim)) hx3 (fun _ w => w))
    · rw [if_neg hjc]
      exact stop (by omega)
theorem QR.pth {g : Nat} (h : QR C t (.tag g x) 0 [] F [a] false) : F a ∧ tK t a = 5 ∧ tI t a 0 = nI (g % 2) ∧ ∃ l us cc e, tR t a 1 = some l ∧ LsA C t l us cc e ∧ us.length = (qE x).length ∧ ∀ i, i < (qE x).length → ∃ F1, (∀ z, F1 z → F z) ∧ QR C t ((qE x).getD i .nil) 1 [] F1 [us.getD i 0] false := by
  obtain ⟨q2, us, av', F1, q4, q6, q7⟩ := h.tag (by decide) (by decide)
  unfold HL at q6
  rw [if_pos rfl] at q6
  obtain ⟨g1, g2, -, l, e, cc, g3, g4, rfl, g6, -⟩ := q6
  have q7 : QR C t x 1 [a, l, e] F1 us false := by
    rcases q7 with z | z
    · exact absurd z (by show ¬ (1 : Nat) = 99; decide)
    · exact z
  obtain ⟨e1, e2⟩ := QR.el x 1 _ F1 us false (by decide) (by decide) g6 q7
  exact ⟨q2, g1, g2, l, us, cc, e, g3, g4.1, e1, fun i hi => by obtain ⟨F2, f1, -, f3⟩ := e2 i hi; exact ⟨F2, fun z hz => q4 z (f1 z hz), f3⟩⟩
theorem QR.k9 {z : QF} {u : Nat} (h : QR C t z 1 [] F [u] false) (hz : isTg z = true) : tK t u = 9 := by
  cases z with
  | tag g y => exact h.seg.2.1
  | _ => cases hz
theorem sd_x : ∀ lv, lv < 17 → nI (2 * lv) ^^^ 1 = nI (2 * lv + 1) ∧ nI (2 * lv + 1) ^^^ 1 = nI (2 * lv) ∧ (2 : Int32) * nI lv = nI (2 * lv) := by decide
/-- the other row of a level -/
def oth (lv ri : Nat) : Nat := if ri = 2 * lv then 2 * lv + 1 else 2 * lv
theorem oth_x {lv ri : Nat} (h : lv < 17) (hr : ri = 2 * lv ∨ ri = 2 * lv + 1) : nI ri ^^^ 1 = nI (oth lv ri) ∧ (oth lv ri = 2 * lv ∨ oth lv ri = 2 * lv + 1) ∧ oth lv ri ≠ ri ∧ oth lv ri < 34 := by
  unfold oth
  obtain ⟨a1, a2, -⟩ := sd_x lv h
  rcases hr with rfl | rfl
  · rw [if_pos rfl]; exact ⟨a1, Or.inr rfl, by omega, by omega⟩
  · rw [if_neg (by omega)]; exact ⟨a2, Or.inl rfl, by omega, by omega⟩
theorem Kb_l {lv ri i : Nat} (hr : ri = 2 * lv ∨ ri = 2 * lv + 1) (h : Kl lv i) : Kb (2 * lv + 2) ri i := by
  have h : i < 2 * lv := h
  exact ⟨by omega, by omega⟩
theorem Kb_34 {lv ri i : Nat} (hl : lv < 17) (hr : ri = 2 * lv ∨ ri = 2 * lv + 1) (h : Kl lv i) : Kb 34 ri i := by
  have h : i < 2 * lv := h
  exact ⟨by omega, by omega⟩
set_option maxHeartbeats 2000000 in
/-- select -/
theorem sv10 {g : Nat} (hx : EVp C B T t1 G V c O x) : S10 C B T t1 G V c O (.tag g x) := by
  rintro F a nd lv lk D t Post hq hg hf hD h qc hnd k1 k2
  obtain ⟨hg1, -, hg2⟩ : g < 4 ∧ (2 ≤ g → sgL x = true) ∧ gdQ x 1 := hg
  have hf : fdQ x 1 + lv ≤ 16 := hf
  have hD : dqQ x 1 + 2 ≤ D := hD
  have h45 := dq_45 x 1
  obtain ⟨d, rfl⟩ : ∃ d, D = d + 5 := ⟨D - 5, by omega⟩
  obtain ⟨S, hS⟩ : ∃ S, S = ev V (.tag g x) 10 nd [] lk := ⟨_, rfl⟩
  rw [← hS] at k1 k2
  have hS : S = ev V x 1 nd [if g % 2 = 1 then 0 else nd] lk := hS
  rw [ev_1 x (gd_qL x 1 (by omega) hg2)] at hS
  have hc0 : 0 < c := h.2.2.2.2.2.1
  have h17 : lv < 17 := by omega
  refine cal9
    (fun n l4 l5 l6 t' => ∃ m l' lk' r ri, l4 = nI ri ∧ l5 = some r ∧ l6 = nI m ∧ m ≤ (qE x).length ∧ n = ((qE x).length - m) * 1002 ∧ (ri = 2 * lv ∨ ri = 2 * lv + 1) ∧ ESt C B T t1 G V c O t' lk' ∧ EFr B (Of O F) (Kl lv) t t' ∧ RwL B c G t' r ri l' ∧ S = e1L V ((qE x).drop m) nd l' lk')
    (fun n l4 l5 l6 l7 l8 t' => ∃ m i l' acc lk' r r2 ri gs y, l4 = nI (oth lv ri) ∧ l5 = some r ∧ l6 = nI m ∧ l7 = some r2 ∧ l8 = nI i ∧ m < (qE x).length ∧ i ≤ l'.length ∧ n = ((qE x).length - m) * 1002 - 1 - i ∧ (ri = 2 * lv ∨ ri = 2 * lv + 1) ∧ ESt C B T t1 G V c O t' lk' ∧ EFr B (Of O F) (Kl lv) t t' ∧ RwL B c G t' r ri l' ∧ RwL B c G t' r2 (oth lv ri) acc ∧ (qE x).getD m .nil = .tag gs y ∧ S = bE (bE (foE (sgE V gs y) (l'.drop i) acc lk') (fun r k => .inl ((r, (none : Option Vl)), k))) (fun v k => e1L V ((qE x).drop (m + 1)) nd v.1 k)) ?_ ?_ ?_
  · refine ⟨h.k2, ?_⟩
    rw [(sd_x lv h17).2.2]
    refine c8r (ri := 2 * lv) h (by omega) (fun t' r a1 a2 a3 => ?_)
    have hq' := hq.go qc h (a2.zo (O := Of O F)) (fun z w => w.1)
    obtain ⟨-, s1, s2, -⟩ := hq'.pth
    have co : ∀ j, opE [] (some j) lk = .inl ([j], lk) := fun j => rfl
    have nex : ∀ (j : Nat) (l2 : List Nat), opE [] (some j) lk = .inl (l2, lk) → l2 = [j] := fun j l2 e => by rw [co] at e; injection e with e; injection e with e _; exact e.symm
    refine ⟨s1, fun e => ⟨a1.k2, ?_⟩, fun e => ⟨a1.k2, a1.k2, ?_⟩⟩
    · rw [s2] at e
      have e0 : g % 2 = 0 := (nI_eq (b := 0) (by omega) (by decide)).mp e
      rw [if_neg (by omega)] at hS
      refine c7r (o := some nd) a1 a3 (fun j hj => by injection hj with hj; omega) (fun l2 el t3 b1 b2 b3 => ⟨rfl, ?_⟩) (fun er he => by rw [co] at he; cases he)
      have := nex nd l2 el
      subst this
      exact ⟨_, rfl, rfl, rfl, rfl, 0, [nd], lk, r, 2 * lv, rfl, rfl, rfl, Nat.zero_le _, rfl, Or.inl rfl, b1, (a2.tz h b2).zo.le (fun _ w => Kb_34 h17 (Or.inl rfl) w), b3, hS⟩
    · rw [s2] at e
      have e0 : g % 2 = 1 := by
        have : ¬ g % 2 = 0 := fun z => e (by rw [z]; rfl)
        omega
      rw [if_pos e0] at hS
      rw [a1.2.1]
      refine c7r (o := some 0) a1 a3 (fun j hj => by injection hj with hj; omega) (fun l2 el t3 b1 b2 b3 => ⟨rfl, ?_⟩) (fun er he => by rw [co] at he; cases he)
      have := nex 0 l2 el
      subst this
      exact ⟨_, rfl, rfl, rfl, rfl, 0, [0], lk, r, 2 * lv, rfl, rfl, rfl, Nat.zero_le _, rfl, Or.inl rfl, b1, (a2.tz h b2).zo.le (fun _ w => Kb_34 h17 (Or.inl rfl) w), b3, hS⟩
  · rintro n l4 l5 l6 t' ⟨m, l', lk', r, ri, rfl, rfl, rfl, hm, rfl, hri, h', hE, hr', hs⟩
    have hq' := hq.go qc h hE (fun z w => w.1)
    obtain ⟨-, s1, -, ll, us, cc, e, s3, s4, s5, s6⟩ := hq'.pth
    have hcc : us.length < 2 ^ 31 := by have := s4.2.2.1; have := s4.2.2.2.1; omega
    refine ⟨s1, onS s3 ⟨s4.1, s269L s4 ⟨fun e1 => ?_, fun e1 => ⟨h'.k2, ?_⟩⟩⟩⟩
    · have hm2 : us.length ≤ m := (nI_leI (by omega) (by omega)).mp e1
      rw [List.drop_eq_nil_of_le (by omega)] at hs
      exact k1 (l', none) lk' hs t' r ri h' hE hr' hri
    · have hm2 : m < us.length := Nat.not_le.mp (fun z => e1 (nI_le z (by omega)))
      have hm3 : m < (qE x).length := by omega
      obtain ⟨o1, o2, o3, o4⟩ := oth_x h17 hri
      rw [o1]
      refine c8r (ri := oth lv ri) h' o4 (fun t3 r2 a1 a2 a3 => ?_)
      have hmem : (qE x)[m] ∈ qE x := List.getElem_mem hm3
      obtain ⟨gz, tz, fz, dz⟩ := gd_el x 1 11 (by omega) hg2 _ hmem
      obtain ⟨gs, y, hgy⟩ : ∃ gs y, (qE x)[m] = .tag gs y := by
        revert tz
        generalize (qE x)[m] = z
        intro tz
        cases z with
        | tag gs y => exact ⟨gs, y, rfl⟩
        | _ => cases tz
      rw [List.drop_eq_getElem_cons hm3, hgy] at hs
      exact ⟨((qE x).length - m) * 1002 - 1 - 0, by omega, rfl, rfl, rfl, rfl, m, 0, l', [], lk', r, r2, ri, gs, y, rfl, rfl, rfl, rfl, rfl, hm3, Nat.zero_le _, rfl, hri, a1, hE.trans h.hB h.rw (a2.zo.le (fun _ w => Kb_34 h17 o2 w)) (fun _ w => w), hr'.go a2 ⟨hr'.2.2.1, fun z => o3 z.symm⟩, a3, by rw [gt_get hm3, hgy], hs⟩
  · rintro n l4 l5 l6 l7 l8 t' ⟨m, i, l', acc, lk', r, r2, ri, gs, y, rfl, rfl, rfl, rfl, rfl, hm, hi, rfl, hri, h', hE, hr', hr2, hgy, hs⟩
    have hq' := hq.go qc h hE (fun z w => w.1)
    have qc' := qc.go h hE
    obtain ⟨-, s1, -, ll, us, cc, e, s3, s4, s5, s6⟩ := hq'.pth
    obtain ⟨o1, o2, o3, o4⟩ := oth_x h17 hri
    have hl1 := hr'.1.2.2.2.2.2.2.1
    have hcn := hr'.1.2.2.2.2.2.1
    refine ⟨hr'.1.1, fun e1 => ?_, fun e1 => ⟨s1, onS s3 ⟨s4.1, ls_get s4 (by omega) ?_⟩⟩⟩
    · rw [hcn] at e1
      have hil : l'.length ≤ i := (nI_leI (by omega) (by omega)).mp e1
      rw [List.drop_eq_nil_of_le hil] at hs
      exact ⟨((qE x).length - (m + 1)) * 1002, by omega, rfl, rfl, rfl, rfl, m + 1, acc, lk', r2, oth lv ri, rfl, rfl, nI_1 m, by omega, rfl, o2, h', hE, hr2, hs⟩
    · rw [hcn] at e1
      have hil : i < l'.length := Nat.not_le.mp (fun z => e1 (nI_le z (by omega)))
      obtain ⟨F1, f1, f2⟩ := s6 m hm
      have hmem : (qE x)[m] ∈ qE x := List.getElem_mem hm
      obtain ⟨gz, tz, fz, dz⟩ := gd_el x 1 11 (by omega) hg2 _ hmem
      have EVz := (EVp.el x hx _ hmem tz).2.1
      rw [hgy] at f2
      rw [← gt_get hm, hgy] at gz tz fz dz EVz
      have ex : l'.getD i 0 = l'[i] := by simp [List.getD, hil]
      have hic : l'.getD i 0 < c := hr'.2.2.2 _ (gd_mem hil)
      rw [List.drop_eq_getElem_cons hil, ← ex] at hs
      have hs : S = bE (bE (bE (sgE V gs y (l'.getD i 0) acc lk') (foE (sgE V gs y) (l'.drop (i + 1)))) (fun r k => .inl ((r, (none : Option Vl)), k))) (fun v k => e1L V ((qE x).drop (m + 1)) nd v.1 k) := hs
      refine ⟨f2.k9 tz, hr'.1.1, c106 hr'.1 hil ⟨h'.k2, ?_⟩⟩
      refine EVz gs y rfl F1 (us.getD m 0) (l'.getD i 0) lv lk' r2 (oth lv ri) (d + 4) acc t' _ f2 gz (by omega) (by omega) h' (qc'.sub f1) hic hr2 o2 (fun l2 lk2 hv t4 b1 b2 b3 => ⟨rfl, ?_⟩) (fun er hv t4 hx4 => ?_)
      · rw [hv] at hs
        have b2' := b2.om (Of.le (O := O) f1)
        exact ⟨((qE x).length - m) * 1002 - 1 - (i + 1), by omega, rfl, rfl, rfl, rfl, m, i + 1, l', l2, lk2, r, r2, ri, gs, y, rfl, rfl, rfl, rfl, nI_1 i, hm, by omega, rfl, hri, b1, hE.trans h.hB h.rw (b2'.le (fun _ w => Kb_l o2 w)) (fun _ w => w), hr'.go b2 ⟨by omega, fun z => o3 z.symm⟩, b3, hgy, hs⟩
      · rw [hv] at hs
        exact k2 er hs t4 (EFe.of h ((hE.om (fun z w => w.1)).le (K' := zP) (fun _ w => w.elim)) hx4 (fun _ w => w))
end EV2
