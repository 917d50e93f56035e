/-! THE CLASS'S FINDER: formulas -/
def e13L (V : VT) : List QF → Nat → Nat → Ev (List Nat × Option Vl)
  | [], _, k => .inl (trE false, k)
  | x :: r, nd, k => bE (ev V x 3 nd [] k) (fun v k => if v.1 = [] then e13L V r nd k else .inl (v, k))
def e14L (V : VT) : List QF → Nat → Nat → Ev (List Nat × Option Vl)
  | [], _, k => .inl (trE true, k)
  | x :: r, nd, k => bE (ev V x 3 nd [] k) (fun v k => if v.1 = [] then .inl (v, k) else e14L V r nd k)
section EV5
variable {C : Cx} {d : Nat} {Post : OutT → Ht → Prop} {B T lk lk' c r ri nd lv a D : Nat} {t1 t t' t2 : Ht} {G : GT} {V : VT} {O O' K K' F : Nat → Prop} {l : List Nat} {x : QF}
theorem ev_13 : ∀ (x : QF), qL x = true → ∀ nd k, ev V x 13 nd [] k = e13L V (qE x) nd k := by
  intro x
  induction x with
  | append x y ihx ihy =>
    intro hq nd k
    show bE (ev V x 3 nd [] k) (fun r k => if r.1 = [] then ev V y 13 nd [] k else .inl (r, k)) = bE (ev V x 3 nd [] k) (fun v k => if v.1 = [] then e13L V (qE y) nd k else .inl (v, k))
    congr
    funext v k
    rw [ihy hq nd k]
  | nil => intro hq nd k; rfl
  | _ => intro hq; cases hq
theorem ev_14 : ∀ (x : QF), qL x = true → ∀ nd k, ev V x 14 nd [] k = e14L V (qE x) nd k := by
  intro x
  induction x with
  | append x y ihx ihy =>
    intro hq nd k
    show bE (ev V x 3 nd [] k) (fun r k => if r.1 = [] then .inl (r, k) else ev V y 14 nd [] k) = bE (ev V x 3 nd [] k) (fun v k => if v.1 = [] then .inl (v, k) else e14L V (qE y) nd k)
    congr
    funext v k
    rw [ihy hq nd k]
  | nil => intro hq nd k; rfl
  | _ => intro hq; cases hq
/-- whether it is told, against whether it is turned about -/
theorem ngx {b s : Bool} {P : OutT → Ht → Prop} {t : Ht} (k : P (.inl (some (svI (bI (xor b s))))) t) : br (bI b = bI s) (((0 : Int32) = 0 ∨ (0 : Int32) = 1) ∧ P (.inl (some (svI (0 : Int32)))) t) (((1 : Int32) = 0 ∨ (1 : Int32) = 1) ∧ P (.inl (some (svI (1 : Int32)))) t) := by
  cases b <;> cases s
  · exact ⟨fun _ => ⟨Or.inl rfl, k⟩, fun z => absurd rfl z⟩
  · exact ⟨fun z => absurd z (by decide), fun _ => ⟨Or.inr rfl, k⟩⟩
  · exact ⟨fun z => absurd z (by decide), fun _ => ⟨Or.inr rfl, k⟩⟩
  · exact ⟨fun _ => ⟨Or.inl rfl, k⟩, fun z => absurd rfl z⟩
theorem trE_b (b : Bool) : (!(trE b).1.isEmpty) = b := by cases b <;> rfl
theorem ne_b {l : List Nat} (h : ¬ l = []) : (!l.isEmpty) = true := by cases l with | nil => exact absurd rfl h | cons x y => rfl
theorem QR.ors {g : Nat} {s : Bool} (hg : g = 10 ∨ g = 11) (h1 : ¬ qLen x = 1) (h : QR C t (.tag g x) 3 [] F [a] s) : tK t a = 11 ∧ tI t a 0 = nI (g - 10) ∧ tI t a 3 = bI s ∧ ∃ l us cc e, tR t a 2 = some l ∧ LsA C t l us cc e ∧ us.length = (qE x).length ∧ ∀ i, i < (qE x).length → ∃ F1, (∀ z, F1 z → F z) ∧ QR C t ((qE x).getD i .nil) 3 [] F1 [us.getD i 0] false := by
  obtain ⟨q2, us, av', F1, q4, q6, q7⟩ := h.tag (by decide) (by decide)
  unfold HL at q6
  rw [if_neg (by decide), if_neg (by decide), if_neg (by decide), if_pos rfl, if_pos hg, if_neg h1] at q6
  obtain ⟨g1, g2, g3, l, e, cc, g4, g5, rfl, g6⟩ := q6
  have q7 : QR C t x 3 [a, l, e] F1 us false := by
    unfold cM cSg at q7
    rw [if_neg (by decide), if_neg (by decide), if_neg (by decide), if_pos rfl, if_pos hg, if_neg h1, if_pos rfl, if_neg (fun z => h1 z.2), if_neg (by omega)] at q7
    rcases q7 with z | z
    · exact absurd z (by decide)
    · exact z
  obtain ⟨e1, e2⟩ := QR.el x 3 _ F1 us false (by decide) (by decide) g6 q7
  exact ⟨g1, g2, g3, l, us, cc, e, g4, g5.1, e1, fun i hi => by obtain ⟨F2, f1, -, f3⟩ := e2 i hi; exact ⟨F2, fun z hz => q4 z (f1 z hz), f3⟩⟩
theorem qL_len : ∀ {x : QF}, qLen x = (qE x).length := by
  intro x
  induction x with
  | append x y _ ih => show qLen y + 1 = (qE y).length + 1; rw [ih]
  | _ => rfl
/-- a formula's object is a term -/
theorem QR.k11 : ∀ (z : QF) (F : Nat → Prop) (u m : Nat) (s : Bool), (m = 3 ∧ isTg z = true) ∨ m = 4 → QR C t z m [] F [u] s → tK t u = 11 := by
  intro z
  induction z with
  | append x y ihx ihy =>
    intro F u m s hm h
    rcases hm with ⟨-, hm⟩ | rfl
    · cases hm
    · unfold QR at h
      rw [if_pos rfl] at h
      exact ihx F u 3 s (Or.inl ⟨rfl, h.1⟩) h.2
  | tag k x ih =>
    intro F u m s hm h
    have m5 : m ≠ 5 := by rcases hm with ⟨rfl, -⟩ | rfl <;> decide
    have m8 : m ≠ 8 := by rcases hm with ⟨rfl, -⟩ | rfl <;> decide
    obtain ⟨-, us, av', F1, f1, q6, q7⟩ := h.tag m5 m8
    rcases hm with ⟨rfl, -⟩ | rfl
    · unfold HL at q6
      rw [if_neg (by decide), if_neg (by decide), if_neg (by decide), if_pos rfl] at q6
      unfold cM cSg at q7
      rw [if_neg (by decide), if_neg (by decide), if_neg (by decide), if_pos rfl, if_pos rfl] at q7
      by_cases k1 : k = 10 ∨ k = 11
      · rw [if_pos k1] at q6 q7
        by_cases ql : qLen x = 1
        · rw [if_pos ql] at q6 q7
          obtain ⟨rfl, rfl⟩ := q6
          rcases q7 with z | z
          · omega
          · exact ih F1 u 4 _ (Or.inr rfl) z
        · rw [if_neg ql] at q6
          exact q6.1
      · rw [if_neg k1] at q6 q7
        by_cases k2 : k = 12
        · rw [if_pos k2] at q6 q7
          obtain ⟨rfl, rfl, g1⟩ := q6
          rcases q7 with z | z
          · omega
          · exact ih F1 u 3 _ (Or.inl ⟨rfl, g1⟩) z
        · rw [if_neg k2] at q6
          by_cases k3 : k = 13
          · rw [if_pos k3] at q6; exact q6.1
          · rw [if_neg k3] at q6
            by_cases k4 : k = 14
            · rw [if_pos k4] at q6; exact q6.1
            · rw [if_neg k4] at q6
              by_cases k5 : k = 27
              · rw [if_pos k5] at q6; exact q6
              · rw [if_neg k5] at q6; exact q6.elim
    · unfold HL at q6
      rw [if_neg (by decide), if_neg (by decide), if_neg (by decide), if_neg (by decide), if_neg (by decide)] at q6
      exact q6.elim
  | _ => intro F u m s hm h; cases h
set_option maxHeartbeats 2000000 in
/-- OR -/
theorem s3or (hx : EVp C B T t1 G V c O x) (h1 : ¬ qLen x = 1) : S3 C B T t1 G V c O (.tag 10 x) := by
  rintro F a nd lv lk D s t Post hq hg hf hD h qc hnd k1 k2
  have hg : gdQ x 13 := hg
  have hf : fdQ x 13 + lv ≤ 16 := hf
  have hD : dqQ x 13 + 2 ≤ D := hD
  have h45 := dq_45 x 13
  obtain ⟨d, rfl⟩ : ∃ d, D = d + 5 := ⟨D - 5, by omega⟩
  obtain ⟨S, hS⟩ : ∃ S, S = ev V (.tag 10 x) 3 nd [] lk := ⟨_, rfl⟩
  rw [← hS] at k1 k2
  have hS : S = ev V x 13 nd [] lk := hS
  rw [ev_13 x (gd_qL x 13 (by omega) hg)] at hS
  obtain ⟨s1, s2, s3, -⟩ := hq.ors (Or.inl rfl) h1
  have s2 : tI t a 0 = 0 := s2
  refine cal17 (fun n l4 l5 t' => ∃ b m lk', l4 = bI b ∧ l5 = nI m ∧ m ≤ (qE x).length ∧ n = (qE x).length - m ∧ ESt C B T t1 G V c O t' lk' ∧ EFr B (Of O F) (Kl lv) t t' ∧ (b = false → S = e13L V ((qE x).drop m) nd lk') ∧ (b = true → ∃ v : List Nat × Option Vl, S = .inl (v, lk') ∧ ¬ v.1 = [])) (fun _ _ _ _ => False) ?_ ?_ (fun _ _ _ _ z => z.elim)
  · refine ⟨s1, ?_⟩
    rw [s2]
    refine ⟨fun z => absurd z (by decide), fun _ => ⟨s1, ?_⟩⟩
    rw [s2]
    refine ⟨fun _ => ⟨_, rfl, rfl, rfl, rfl, false, 0, lk, rfl, rfl, Nat.zero_le _, rfl, h, EFr.rfl', fun _ => hS, fun z => by cases z⟩, fun z => absurd rfl z⟩
  · rintro n l4 l5 t' ⟨b, m, lk', rfl, rfl, hm, rfl, h', hE, hs0, hs1⟩
    have hq' := hq.go qc h hE (fun z w => w.1)
    have qc' := qc.go h hE
    obtain ⟨u1, u2, u3, ll, us, cc, e, u4, u5, u6, u7⟩ := hq'.ors (Or.inl rfl) h1
    have hcc : us.length < 2 ^ 31 := by have := u5.2.2.1; have := u5.2.2.2.1; omega
    have fin : b = true ∨ us.length ≤ m → br (bI b = tI t' a 3) (((0 : Int32) = 0 ∨ (0 : Int32) = 1) ∧ Post (.inl (some (svI (0 : Int32)))) t') (((1 : Int32) = 0 ∨ (1 : Int32) = 1) ∧ Post (.inl (some (svI (1 : Int32)))) t') := fun w => by
      rw [u3]
      refine ngx ?_
      cases b with
      | true =>
        obtain ⟨v, v1, v2⟩ := hs1 rfl
        have := k1 v lk' v1 t' h' hE
        rw [ne_b v2] at this
        exact this
      | false =>
        have hm2 : us.length ≤ m := w.elim (fun z => by cases z) id
        have hs0 := hs0 rfl
        rw [List.drop_eq_nil_of_le (by omega)] at hs0
        exact k1 (trE false) lk' hs0 t' h' hE
    refine ⟨u1, q112 u1 u4 u5 ⟨fun e1 => ⟨u1, fin (Or.inr ((nI_leI (by omega) (by omega)).mp e1))⟩, fun e1 => ⟨fun e2 => ⟨u1, ?_⟩, fun e2 => ⟨u1, fin (Or.inl ?_)⟩⟩⟩⟩
    · have hm2 : m < us.length := Nat.not_le.mp (fun z => e1 (nI_le z (by omega)))
      have hm3 : m < (qE x).length := by omega
      have hb := bI_0.mp e2
      subst hb
      have hs := hs0 rfl
      rw [List.drop_eq_getElem_cons hm3] at hs
      have hs : S = bE (ev V (qE x)[m] 3 nd [] lk') (fun v k => if v.1 = [] then e13L V ((qE x).drop (m + 1)) nd k else .inl (v, k)) := hs
      have hel : ∀ z ∈ us, tK t' z = 11 := fun z hz => by
        obtain ⟨i, hi, rfl⟩ := List.getElem_of_mem hz
        obtain ⟨F1, -, f2⟩ := u7 i (by omega)
        have hmem : (qE x)[i] ∈ qE x := List.getElem_mem (by omega)
        rw [gt_get (by omega)] at f2
        have := QR.k11 _ F1 _ 3 false (Or.inl ⟨rfl, (gd_el x 13 3 (by omega) hg _ hmem).2.1⟩) f2
        have eu : us.getD i 0 = us[i] := by simp [List.getD, hi]
        rw [← eu]; exact this
      have hmem : (qE x)[m] ∈ qE x := List.getElem_mem hm3
      obtain ⟨gz, tz, fz, dz⟩ := gd_el x 13 3 (by omega) hg _ hmem
      have EVz := (EVp.el x hx _ hmem tz).2.2.2.1
      obtain ⟨F1, f1, f2⟩ := u7 m hm3
      rw [gt_get hm3] at f2
      refine q113 u1 u4 u5 hel hm2 hcc ⟨h'.k2, ?_⟩
      refine EVz F1 (us.getD m 0) nd lv lk' (d + 4) false t' _ f2 gz (by omega) (by omega) h' (qc'.sub f1) hnd (fun v lk2 hv t3 a1 a2 => ?_) (fun er hv t3 hx3 => ?_)
      · rw [hv] at hs
        have hs : S = if v.1 = [] then e13L V ((qE x).drop (m + 1)) nd lk2 else .inl (v, lk2) := hs
        refine ⟨(qE x).length - (m + 1), by omega, rfl, rfl, rfl, rfl, xor (!v.1.isEmpty) false, m + 1, lk2, rfl, nI_1 m, by omega, rfl, a1, hE.trans h.hB h.rw (a2.om (Of.le f1)) (fun _ w => w), fun z => ?_, fun z => ⟨v, ?_, ?_⟩⟩
        · have : v.1 = [] := by
            cases hh : v.1 with
            | nil => rfl
            | cons y ys => rw [hh] at z; cases z
          rw [if_pos this] at hs; exact hs
        · have : ¬ v.1 = [] := fun y => by rw [y] at z; cases z
          rw [if_neg this] at hs; exact hs
        · exact fun y => by rw [y] at z; cases z
      · rw [hv] at hs
        exact k2 er hs t3 (EFe.of h ((hE.om (fun z w => w.1)).le (K' := zP) (fun _ w => w.elim)) hx3 (fun _ w => w))
    · cases b with
      | true => rfl
      | false => exact absurd rfl e2
set_option maxHeartbeats 2000000 in
/-- AND -/
theorem s3and (hx : EVp C B T t1 G V c O x) (h1 : ¬ qLen x = 1) : S3 C B T t1 G V c O (.tag 11 x) := by
  rintro F a nd lv lk D s t Post hq hg hf hD h qc hnd k1 k2
  have hg : gdQ x 13 := hg
  have hf : fdQ x 13 + lv ≤ 16 := hf
  have hD : dqQ x 13 + 2 ≤ D := hD
  have h45 := dq_45 x 13
  obtain ⟨d, rfl⟩ : ∃ d, D = d + 5 := ⟨D - 5, by omega⟩
  obtain ⟨S, hS⟩ : ∃ S, S = ev V (.tag 11 x) 3 nd [] lk := ⟨_, rfl⟩
  rw [← hS] at k1 k2
  have hS : S = ev V x 14 nd [] lk := hS
  rw [ev_14 x (gd_qL x 13 (by omega) hg)] at hS
  obtain ⟨s1, s2, s3, -⟩ := hq.ors (Or.inr rfl) h1
  have s2 : tI t a 0 = 1 := s2
  refine cal17 (fun _ _ _ _ => False) (fun n l4 l5 t' => ∃ b m lk', l4 = bI b ∧ l5 = nI m ∧ m ≤ (qE x).length ∧ n = (qE x).length - m ∧ ESt C B T t1 G V c O t' lk' ∧ EFr B (Of O F) (Kl lv) t t' ∧ (b = true → S = e14L V ((qE x).drop m) nd lk') ∧ (b = false → ∃ v : List Nat × Option Vl, S = .inl (v, lk') ∧ v.1 = [])) ?_ (fun _ _ _ _ z => z.elim) ?_
  · refine ⟨s1, ?_⟩
    rw [s2]
    refine ⟨fun _ => ⟨s1, ?_⟩, fun z => absurd rfl z⟩
    rw [s2]
    refine ⟨fun z => absurd z (by decide), fun _ => ⟨fun _ => ⟨_, rfl, rfl, rfl, rfl, true, 0, lk, rfl, rfl, Nat.zero_le _, rfl, h, EFr.rfl', fun _ => hS, fun z => by cases z⟩, fun z => absurd rfl z⟩⟩
  · rintro n l4 l5 t' ⟨b, m, lk', rfl, rfl, hm, rfl, h', hE, hs0, hs1⟩
    have hq' := hq.go qc h hE (fun z w => w.1)
    have qc' := qc.go h hE
    obtain ⟨u1, u2, u3, ll, us, cc, e, u4, u5, u6, u7⟩ := hq'.ors (Or.inr rfl) h1
    have hcc : us.length < 2 ^ 31 := by have := u5.2.2.1; have := u5.2.2.2.1; omega
    have fin : b = false ∨ us.length ≤ m → br (bI b = tI t' a 3) (((0 : Int32) = 0 ∨ (0 : Int32) = 1) ∧ Post (.inl (some (svI (0 : Int32)))) t') (((1 : Int32) = 0 ∨ (1 : Int32) = 1) ∧ Post (.inl (some (svI (1 : Int32)))) t') := fun w => by
      rw [u3]
      refine ngx ?_
      cases b with
      | false =>
        obtain ⟨v, v1, v2⟩ := hs1 rfl
        have := k1 v lk' v1 t' h' hE
        rw [v2] at this
        exact this
      | true =>
        have hm2 : us.length ≤ m := w.elim (fun z => by cases z) id
        have hs0 := hs0 rfl
        rw [List.drop_eq_nil_of_le (by omega)] at hs0
        exact k1 (trE true) lk' hs0 t' h' hE
    refine ⟨u1, q112 u1 u4 u5 ⟨fun e1 => ⟨u1, fin (Or.inr ((nI_leI (by omega) (by omega)).mp e1))⟩, fun e1 => ⟨fun e2 => ⟨u1, fin (Or.inl (bI_0.mp e2))⟩, fun e2 => ⟨u1, ?_⟩⟩⟩⟩
    · have hm2 : m < us.length := Nat.not_le.mp (fun z => e1 (nI_le z (by omega)))
      have hm3 : m < (qE x).length := by omega
      have hb : b = true := by
        cases b with
        | true => rfl
        | false => exact absurd rfl e2
      subst hb
      have hs := hs0 rfl
      rw [List.drop_eq_getElem_cons hm3] at hs
      have hs : S = bE (ev V (qE x)[m] 3 nd [] lk') (fun v k => if v.1 = [] then .inl (v, k) else e14L V ((qE x).drop (m + 1)) nd k) := hs
      have hel : ∀ z ∈ us, tK t' z = 11 := fun z hz => by
        obtain ⟨i, hi, rfl⟩ := List.getElem_of_mem hz
        obtain ⟨F1, -, f2⟩ := u7 i (by omega)
        have hmem : (qE x)[i] ∈ qE x := List.getElem_mem (by omega)
        rw [gt_get (by omega)] at f2
        have := QR.k11 _ F1 _ 3 false (Or.inl ⟨rfl, (gd_el x 13 3 (by omega) hg _ hmem).2.1⟩) f2
        have eu : us.getD i 0 = us[i] := by simp [List.getD, hi]
        rw [← eu]; exact this
      have hmem : (qE x)[m] ∈ qE x := List.getElem_mem hm3
      obtain ⟨gz, tz, fz, dz⟩ := gd_el x 13 3 (by omega) hg _ hmem
      have EVz := (EVp.el x hx _ hmem tz).2.2.2.1
      obtain ⟨F1, f1, f2⟩ := u7 m hm3
      rw [gt_get hm3] at f2
      refine q113 u1 u4 u5 hel hm2 hcc ⟨h'.k2, ?_⟩
      refine EVz F1 (us.getD m 0) nd lv lk' (d + 4) false t' _ f2 gz (by omega) (by omega) h' (qc'.sub f1) hnd (fun v lk2 hv t3 a1 a2 => ?_) (fun er hv t3 hx3 => ?_)
      · rw [hv] at hs
        have hs : S = if v.1 = [] then .inl (v, lk2) else e14L V ((qE x).drop (m + 1)) nd lk2 := hs
        refine ⟨(qE x).length - (m + 1), by omega, rfl, rfl, rfl, rfl, xor (!v.1.isEmpty) false, m + 1, lk2, rfl, nI_1 m, by omega, rfl, a1, hE.trans h.hB h.rw (a2.om (Of.le f1)) (fun _ w => w), fun z => ?_, fun z => ⟨v, ?_, ?_⟩⟩
        · have : ¬ v.1 = [] := fun y => by rw [y] at z; cases z
          rw [if_neg this] at hs; exact hs
        · have : v.1 = [] := by
            cases hh : v.1 with
            | nil => rfl
            | cons y ys => rw [hh] at z; cases z
          rw [if_pos this] at hs; exact hs
        · cases hh : v.1 with
          | nil => rfl
          | cons y ys => rw [hh] at z; cases z
      · rw [hv] at hs
        exact k2 er hs t3 (EFe.of h ((hE.om (fun z w => w.1)).le (K' := zP) (fun _ w => w.elim)) hx3 (fun _ w => w))
end EV5
