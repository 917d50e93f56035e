/-! THE CLASS'S FINDER: what each piece of a query does -/
abbrev Kl (L : Nat) : Nat → Prop := fun i => i < 2 * L
section EVD
variable (C : Cx) (B T : Nat) (t1 : Ht) (G : GT) (V : VT) (c : Nat) (O : Nat → Prop)
def S12 (x : QF) : Prop := ∀ (F : Nat → Prop) (a nd lv lk r ri D : Nat) (l : List Nat) (t : Ht) (Post : OutT → Ht → Prop), QR C t x 2 [] F [a] false → gdQ x 12 → fdQ x 12 + lv ≤ 16 → dqQ x 12 ≤ D → ESt C B T t1 G V c O t lk → QCt t F O → nd < c → RwL B c G t r ri l → (ri = 2 * lv ∨ ri = 2 * lv + 1) →
  (∀ v lk', ev V x 12 nd l lk = .inl (v, lk') → ∀ t', ESt C B T t1 G V c O t' lk' → EFr B (Of O F) (Kb (2 * lv + 2) ri) t t' → RwL B c G t' r ri v.1 → Post (.inl none) t') →
  (∀ e, ev V x 12 nd l lk = .inr e → ∀ t', EFe C B T t1 G V c O zP t t' e → Post (.inr (201, 0)) t') → CalG C mtab (D + 1) 12 [svR (some (B + 6)), svR (some a), svR (some (gA G nd)), svR (some r), svI (nI lv)] t Post
/-- what a segment picks at one node -/
def sgE (g : Nat) (x : QF) (i : Nat) (acc : List Nat) (k : Nat) : Ev (List Nat) := if g = 1 then foE (fun j acc k => bE (loE k) (fun _ k => bE (ev V x 2 j acc k) (fun r k => .inl (r.1, k)))) (List.range' i (eL (V i) + 1 - i)) acc k else bE (ev V x 2 i acc k) (fun r k => .inl (r.1, k))
def S11 (x : QF) : Prop := ∀ (g : Nat) (y : QF), x = .tag g y → ∀ (F : Nat → Prop) (a nd lv lk r ri D : Nat) (l : List Nat) (t : Ht) (Post : OutT → Ht → Prop), QR C t x 1 [] F [a] false → gdQ x 11 → fdQ x 11 + lv ≤ 16 → dqQ x 11 ≤ D → ESt C B T t1 G V c O t lk → QCt t F O → nd < c → RwL B c G t r ri l → (ri = 2 * lv ∨ ri = 2 * lv + 1) →
  (∀ l' lk', sgE V g y nd l lk = .inl (l', lk') → ∀ t', ESt C B T t1 G V c O t' lk' → EFr B (Of O F) (Kb (2 * lv + 2) ri) t t' → RwL B c G t' r ri l' → Post (.inl none) t') →
  (∀ e, sgE V g y nd l lk = .inr e → ∀ t', EFe C B T t1 G V c O zP t t' e → Post (.inr (201, 0)) t') → CalG C mtab (D + 1) 10 [svR (some (B + 6)), svR (some a), svR (some (gA G nd)), svR (some r), svI (nI lv)] t Post
def S10 (x : QF) : Prop := ∀ (F : Nat → Prop) (a nd lv lk D : Nat) (t : Ht) (Post : OutT → Ht → Prop), QR C t x 0 [] F [a] false → gdQ x 10 → fdQ x 10 + lv ≤ 16 → dqQ x 10 ≤ D → ESt C B T t1 G V c O t lk → QCt t F O → nd < c →
  (∀ v lk', ev V x 10 nd [] lk = .inl (v, lk') → ∀ t' r ri, ESt C B T t1 G V c O t' lk' → EFr B (Of O F) (Kl lv) t t' → RwL B c G t' r ri v.1 → (ri = 2 * lv ∨ ri = 2 * lv + 1) → Post (.inl (some (svR (some r)))) t') →
  (∀ e, ev V x 10 nd [] lk = .inr e → ∀ t', EFe C B T t1 G V c O zP t t' e → Post (.inr (201, 0)) t') → CalG C mtab (D + 1) 9 [svR (some (B + 6)), svR (some a), svR (some (gA G nd)), svI (nI lv)] t Post
def S3 (x : QF) : Prop := ∀ (F : Nat → Prop) (a nd lv lk D : Nat) (s : Bool) (t : Ht) (Post : OutT → Ht → Prop), QR C t x 3 [] F [a] s → gdQ x 3 → fdQ x 3 + lv ≤ 16 → dqQ x 3 ≤ D → ESt C B T t1 G V c O t lk → QCt t F O → nd < c →
  (∀ v lk', ev V x 3 nd [] lk = .inl (v, lk') → ∀ t', ESt C B T t1 G V c O t' lk' → EFr B (Of O F) (Kl lv) t t' → Post (.inl (some (svI (bI (xor (!v.1.isEmpty) s))))) t') →
  (∀ e, ev V x 3 nd [] lk = .inr e → ∀ t', EFe C B T t1 G V c O zP t t' e → Post (.inr (201, 0)) t') → CalG C mtab (D + 1) 17 [svR (some (B + 6)), svR (some a), svR (some (gA G nd)), svI (nI lv)] t Post
def S7 (x : QF) : Prop := ∀ (F : Nat → Prop) (a nd lv lk D : Nat) (t : Ht) (Post : OutT → Ht → Prop), QR C t x 7 [] F [a] false → gdQ x 7 → fdQ x 7 + lv ≤ 16 → dqQ x 7 ≤ D → ESt C B T t1 G V c O t lk → QCt t F O → nd < c →
  (∀ v lk', ev V x 7 nd [] lk = .inl (v, lk') → ∀ t' q, ESt C B T t1 G V c O t' lk' → EFr B (Of O F) (Kl lv) t t' → VLo C t' G V c v.2 q → (∀ p, q = some p → F p ∨ ¬ O p) → Post (.inl (some (svR q))) t') →
  (∀ e, ev V x 7 nd [] lk = .inr e → ∀ t', EFe C B T t1 G V c O zP t t' e → Post (.inr (201, 0)) t') → CalG C mtab (D + 1) 20 [svR (some (B + 6)), svR (some a), svR (some (gA G nd)), svI (nI lv)] t Post
def EVs (x : QF) : Prop := S12 C B T t1 G V c O x ∧ S11 C B T t1 G V c O x ∧ S10 C B T t1 G V c O x ∧ S3 C B T t1 G V c O x ∧ S7 C B T t1 G V c O x
def EVp : QF → Prop
  | .append x y => EVp x ∧ EVp y
  | .tag g x => EVs C B T t1 G V c O (.tag g x) ∧ EVp x
  | _ => True
end EVD
/-- a list's pieces, one behind the other -/
def e2L (V : VT) : List QF → Nat → List Nat → Nat → Ev (List Nat × Option Vl)
  | [], _, l, k => .inl ((l, none), k)
  | x :: r, nd, l, k => bE (loE k) (fun _ k => bE (ev V x 12 nd l k) (fun v k => e2L V r nd v.1 k))
def e1L (V : VT) : List QF → Nat → List Nat → Nat → Ev (List Nat × Option Vl)
  | [], _, l, k => .inl ((l, none), k)
  | x :: r, nd, l, k => bE (ev V x 11 nd l k) (fun v k => e1L V r nd v.1 k)
section EV1
variable {C : Cx} {d : Nat} {Post : OutT → Ht → Prop} {B T lk lk' c r ri nd lv a D : Nat} {t1 t t' t2 : Ht} {G : GT} {V : VT} {O O' K K' F : Nat → Prop} {l : List Nat} {x : QF}
theorem EVp.el : ∀ (x : QF), EVp C B T t1 G V c O x → ∀ z ∈ qE x, isTg z = true → EVs C B T t1 G V c O z := by
  intro x
  induction x with
  | append x y ihx ihy =>
    intro h z hz ht
    rcases List.mem_cons.mp hz with rfl | hz
    · cases z with
      | tag g u => exact h.1.1
      | _ => cases ht
    · exact ihy h.2 z hz ht
  | _ => intro h z hz; cases hz
theorem gd_el : ∀ (x : QF) (m m' : Nat), (m = 1 ∧ m' = 11) ∨ (m = 2 ∧ m' = 12) ∨ (m = 13 ∧ m' = 3) → gdQ x m → ∀ z ∈ qE x, gdQ z m' ∧ isTg z = true ∧ fdQ z m' ≤ fdQ x m ∧ dqQ z m' ≤ dqQ x m := by
  have tg : ∀ (z : QF) (m' : Nat), m' = 11 ∨ m' = 12 ∨ m' = 3 → gdQ z m' → isTg z = true := fun z m' hm h => by
    cases z with
    | tag g u => rfl
    | append u v => rcases hm with rfl | rfl | rfl <;> exact h.elim
    | nil => rcases hm with rfl | rfl | rfl <;> (rcases h with h | h | h <;> cases h)
    | _ => exact h.elim
  intro x
  induction x with
  | append x y ihx ihy =>
    intro m m' hm h z hz
    have hm' : m' = 11 ∨ m' = 12 ∨ m' = 3 := by omega
    have key : gdQ x m' ∧ gdQ y m ∧ fdQ (.append x y) m = max (fdQ x m') (fdQ y m) ∧ dqQ (.append x y) m = max (dqQ x m') (dqQ y m) := by
      rcases hm with ⟨rfl, rfl⟩ | ⟨rfl, rfl⟩ | ⟨rfl, rfl⟩
      · exact ⟨h.1, h.2, rfl, rfl⟩
      · exact ⟨h.1, h.2, rfl, rfl⟩
      · exact ⟨h.1, h.2, rfl, rfl⟩
    obtain ⟨k1, k2, k3, k4⟩ := key
    rcases List.mem_cons.mp hz with rfl | hz
    · exact ⟨k1, tg _ _ hm' k1, by omega, by omega⟩
    · obtain ⟨a1, a2, a3, a4⟩ := ihy m m' hm k2 z hz
      exact ⟨a1, a2, by omega, by omega⟩
  | _ => intro m m' hm h z hz; cases hz
theorem gd_qL : ∀ (x : QF) (m : Nat), m = 1 ∨ m = 2 ∨ m = 13 → gdQ x m → qL x = true := by
  intro x
  induction x with
  | append x y ihx ihy =>
    intro m hm h
    rcases hm with rfl | rfl | rfl
    · exact ihy 1 (by omega) h.2
    · exact ihy 2 (by omega) h.2
    · exact ihy 13 (by omega) h.2
  | nil => intro m hm h; rfl
  | tag g u => intro m hm h; rcases hm with rfl | rfl | rfl <;> exact h.elim
  | _ => intro m hm h; exact h.elim
theorem ev_2 : ∀ (x : QF), qL x = true → ∀ nd l k, ev V x 2 nd l k = e2L V (qE x) nd l k := by
  intro x
  induction x with
  | append x y ihx ihy =>
    intro hq nd l k
    show bE (loE k) (fun _ k => bE (ev V x 12 nd l k) (fun r k => ev V y 2 nd r.1 k)) = bE (loE k) (fun _ k => bE (ev V x 12 nd l k) (fun v k => e2L V (qE y) nd v.1 k))
    congr
    funext _ k
    congr
    funext v k
    exact ihy hq nd v.1 k
  | nil => intro hq nd l k; rfl
  | _ => intro hq; cases hq
theorem ev_1 : ∀ (x : QF), qL x = true → ∀ nd l k, ev V x 1 nd l k = e1L V (qE x) nd l k := by
  intro x
  induction x with
  | append x y ihx ihy =>
    intro hq nd l k
    show bE (ev V x 11 nd l k) (fun r k => ev V y 1 nd r.1 k) = bE (ev V x 11 nd l k) (fun v k => e1L V (qE y) nd v.1 k)
    congr
    funext v k
    exact ihy hq nd v.1 k
  | nil => intro hq nd l k; rfl
  | _ => intro hq; cases hq
theorem gt_get {l : List QF} {m : Nat} (h : m < l.length) : l.getD m .nil = l[m] := by simp [List.getD, h]
theorem QR.seg {g : Nat} (h : QR C t (.tag g x) 1 [] F [a] false) : F a ∧ tK t a = 9 ∧ tI t a 1 = nI g ∧ ∃ l us cc e, tR t a 0 = some l ∧ LsA C t l us cc e ∧ us.length = (qE x).length ∧ ∀ i, i < (qE x).length → ∃ F1, (∀ z, F1 z → F z) ∧ QR C t ((qE x).getD i .nil) 2 [] F1 [us.getD i 0] false := by
  unfold QR at h
  rw [if_neg (by decide), if_neg (by decide)] at h
  obtain ⟨a', us, av', F1, q1, q2, q4, q6, q7⟩ := h
  injection q1 with q1
  subst q1
  unfold HL at q6
  rw [if_neg (by decide), if_pos rfl] at q6
  obtain ⟨g1, g2, l, e, cc, g3, g4, rfl, g6⟩ := q6
  have q7 : QR C t x 2 [a, l, e] F1 us false := by
    rcases q7 with z | z
    · exact absurd z (by show ¬ (2 : Nat) = 99; decide)
    · exact z
  obtain ⟨e1, e2⟩ := QR.el x 2 _ F1 us false (by decide) (by decide) g6 q7
  exact ⟨q2, g1, g2, l, us, cc, e, g3, g4.1, e1, fun i hi => by obtain ⟨F2, f1, -, f3⟩ := e2 i hi; exact ⟨F2, fun z hz => q4 z (f1 z hz), f3⟩⟩
theorem Of.le {F1 : Nat → Prop} (h : ∀ z, F1 z → F z) : ∀ z, Of O F1 z → Of O F z := fun _ w => ⟨w.1, h _ w.2⟩
theorem ls_get {us : List Nat} {cc e m : Nat} {ll : Nat} (h : LsA C t ll us cc e) (hm : m < us.length) (k : Post (.inl (some (svR (some (us.getD m 0))))) t) : CalG C mtab (d + 3) 271 [svR (some ll), svI (nI m)] t Post := by
  refine s271L h hm ?_
  have : us[m]? = some (us.getD m 0) := by simp [List.getD, hm]
  rw [this]; exact k
theorem QR.k10 {z : QF} {u : Nat} (h : QR C t z 2 [] F [u] false) (hz : isTg z = true) : tK t u = 10 := by
  cases z with
  | tag g y =>
    obtain ⟨-, us, av', F1, -, q6, -⟩ := h.tag (by decide) (by decide)
    unfold HL at q6
    rw [if_neg (by decide), if_neg (by decide), if_pos rfl] at q6
    exact q6.1
  | _ => cases hz
theorem RwL.go (h : RwL B c G t r ri l) (g : EFr B O' K t t') (hk : K ri) : RwL B c G t' r ri l := by
  obtain ⟨⟨w1, w2, w3, w4, w5, w6, w7, w8⟩, w9, w10, w11⟩ := h
  obtain ⟨s1, s2⟩ := g.2.2.2.2.1 ri r hk w10 w9
  have hN := g.1
  exact ⟨⟨s1.1.trans w1, (s1.2.2.2.2 0).trans w2, s2.1.trans w3, s2.2.1.trans w4, by omega, (s1.2.2.1 1).trans w6, w7, fun i hi => (s2.2.2.2.2 i).trans (w8 i hi)⟩, g.2.2.2.1.2.2 ri r w9, w10, w11⟩
set_option maxHeartbeats 1000000 in
/-- ask -/
theorem c11 {g : Nat} (hx : EVp C B T t1 G V c O x) (hq : QR C t (.tag g x) 1 [] F [a] false) (hg : gdQ x 2) (hf : fdQ x 2 + lv ≤ 16) (hD : dqQ x 2 ≤ D) (h : ESt C B T t1 G V c O t lk) (qc : QCt t F O) (hnd : nd < c) (hr : RwL B c G t r ri l) (hri : ri = 2 * lv ∨ ri = 2 * lv + 1)
    (k1 : ∀ v lk', ev V x 2 nd l lk = .inl (v, lk') → ∀ t', ESt C B T t1 G V c O t' lk' → EFr B (Of O F) (Kb (2 * lv + 2) ri) t t' → RwL B c G t' r ri v.1 → Post (.inl none) t')
    (k2 : ∀ e, ev V x 2 nd l lk = .inr e → ∀ t', EFe C B T t1 G V c O zP t t' e → Post (.inr (201, 0)) t') (hD5 : 5 ≤ D) : CalG C mtab (D + 2) 11 [svR (some (B + 6)), svR (some a), svR (some (gA G nd)), svR (some r), svI (nI lv)] t Post := by
  obtain ⟨S, hS⟩ : ∃ S, S = ev V x 2 nd l lk := ⟨_, rfl⟩
  rw [← hS] at k1 k2
  rw [ev_2 x (gd_qL x 2 (by omega) hg)] at hS
  obtain ⟨d, rfl⟩ : ∃ d, D = d + 5 := ⟨D - 5, by omega⟩
  refine cal11 (fun n l5 t' => ∃ m l' lk', l5 = nI m ∧ m ≤ (qE x).length ∧ n = (qE x).length - m ∧ ESt C B T t1 G V c O t' lk' ∧ EFr B (Of O F) (Kb (2 * lv + 2) ri) t t' ∧ RwL B c G t' r ri l' ∧ S = e2L V ((qE x).drop m) nd l' lk') ?_ ?_
  · exact ⟨_, rfl, rfl, rfl, rfl, rfl, 0, l, lk, rfl, Nat.zero_le _, rfl, h, EFr.rfl', hr, hS⟩
  · rintro n l5 t' ⟨m, l', lk', rfl, hm, rfl, h', hE, hr', hs⟩
    have hq' := hq.go qc h hE (fun z w => w.1)
    have qc' := qc.go h hE
    obtain ⟨-, s1, -, ll, us, cc, e, s3, s4, s5, s6⟩ := hq'.seg
    have hcc : us.length < 2 ^ 31 := by have := s4.2.2.1; have := s4.2.2.2.1; omega
    refine ⟨s1, onS s3 ⟨s4.1, s269L s4 ⟨fun e1 => ?_, fun e1 => ⟨h'.k2, ?_⟩⟩⟩⟩
    · have hm2 : us.length ≤ m := (nI_leI (by omega) (by omega)).mp e1
      rw [List.drop_eq_nil_of_le (by omega)] at hs
      exact k1 (l', none) lk' hs t' h' hE hr'
    · have hm2 : m < us.length := Nat.not_le.mp (fun z => e1 (nI_le z (by omega)))
      have hm3 : m < (qE x).length := by omega
      rw [List.drop_eq_getElem_cons hm3] at hs
      have hs : S = bE (loE lk') (fun _ k => bE (ev V (qE x)[m] 12 nd l' k) (fun v k => e2L V ((qE x).drop (m + 1)) nd v.1 k)) := hs
      refine c6z (K := zP) h' (fun hlo t3 h3 hE3 => ⟨rfl, ?_⟩) (fun er he t3 hx3 => ?_)
      · rw [hlo] at hs
        have hs : S = bE (ev V (qE x)[m] 12 nd l' (lk' + 1)) (fun v k => e2L V ((qE x).drop (m + 1)) nd v.1 k) := hs
        have hEz := hE.trans h.hB h.rw (hE3 (Of O F) (Kb (2 * lv + 2) ri)) (fun _ w => w)
        have hq3 := hq.go qc h hEz (fun z w => w.1)
        have qc3 := qc.go h hEz
        obtain ⟨-, u1, -, ll3, us3, cc3, e3, u3, u4, u5, u6⟩ := hq3.seg
        obtain ⟨F1, f1, f2⟩ := u6 m hm3
        rw [gt_get hm3] at f2
        have hmem : (qE x)[m] ∈ qE x := List.getElem_mem hm3
        obtain ⟨gz, tz, fz, dz⟩ := gd_el x 2 12 (by omega) hg _ hmem
        have EVz := (EVp.el x hx _ hmem tz).1
        refine ⟨u1, onS u3 ⟨u4.1, ls_get u4 (by omega) ?_⟩⟩
        have kz := f2.k10 tz
        have hr3 := hr'.go (hE3 zP (fun _ => True)) trivial
        refine ⟨kz, h3.k2, EVz F1 (us3.getD m 0) nd lv (lk' + 1) r ri (d + 5) l' t3 _ f2 gz (by omega) (by omega) h3 (qc3.sub f1) hnd hr3 hri (fun v lk2 hv t4 h4 hE4 hr4 => ⟨rfl, ?_⟩) (fun er hv t4 hx4 => ?_)⟩
        · rw [hv] at hs
          exact ⟨(qE x).length - (m + 1), by omega, rfl, rfl, rfl, rfl, rfl, m + 1, v.1, lk2, nI_1 m, by omega, rfl, h4, hEz.trans h.hB h.rw (hE4.om (Of.le f1)) (fun _ w => w), hr4, hs⟩
        · rw [hv] at hs
          exact k2 er hs t4 (EFe.of h ((hEz.om (fun z w => w.1)).le (K' := zP) (fun _ w => w.elim)) hx4 (fun _ w => w))
      · rw [he] at hs
        exact k2 er hs t3 (EFe.of h ((hE.om (fun z w => w.1)).le (K' := zP) (fun _ w => w.elim)) hx3 (fun _ w => w))
end EV1
