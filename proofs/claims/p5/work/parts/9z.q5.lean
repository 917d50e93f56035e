/-! A QUERY'S OBJECTS while it is evaluated: the numbers of own nodes of functions change -/
def OwF (t : Ht) (x : Nat) : Prop := tK t x = 3 ∧ ∃ a, x = a + 1 ∧ tK t a = 11 ∧ (tI t a 0 = 5 ∨ tI t a 0 = 6)
def gk (t : Ht) (z : Nat) : Prop := tK t z = 1 ∨ tK t z = 3 ∨ tK t z = 5 ∨ tK t z = 9 ∨ tK t z = 10 ∨ tK t z = 11 ∨ tK t z = 101 ∨ tK t z = 103
def same5 (t t' : Ht) (z : Nat) : Prop := tK t' z = tK t z ∧ tL t' z = tL t z ∧ (∀ k, tI t' z k = tI t z k) ∧ (∀ k, (¬ OwF t z ∨ k ≠ 5) → tJ t' z k = tJ t z k) ∧ ∀ k, tR t' z k = tR t z k
section Q5
variable {C : Cx} {t t' : Ht}
theorem same5.sa {z : Nat} (h : same5 t t' z) (hk : tK t z ≠ 3) : sameAt t t' z := ⟨h.1, h.2.1, h.2.2.1, fun k => h.2.2.2.1 k (Or.inl (fun w => hk w.1)), h.2.2.2.2⟩
theorem LSq.fr {F : Nat → Prop} {l c e : Nat} {us : List Nat} (h : LSq C t F l us c e) (hN : tN t ≤ tN t') (hs : ∀ z, F z → gk t z → same5 t t' z) : LSq C t' F l us c e := by
  obtain ⟨h1, h2, h4, h5⟩ := h
  have hk := h1.1
  refine ⟨h1.frame hN ((hs l h2 (by unfold gk; omega)).sa (by omega)) (fun z => ?_), h2, h4, h5⟩
  rcases h1.2.2.2.2.2 with ⟨q1, -⟩ | ⟨-, -, -, -, q5, -, -⟩
  · omega
  · exact (hs e (h4 z) (by unfold gk; omega)).sa (by omega)
theorem CHo.fr {F : Nat → Prop} {r : Option Nat} {cs : List Nat} (h : CHo t F r cs) (hs : ∀ z, F z → gk t z → same5 t t' z) : CHo t' F r cs := by
  obtain ⟨z, h1, h2, h4, h5⟩ := h
  have hk := h4.1
  exact ⟨z, h1, h2, h4.frame ((hs z h2 (by unfold gk; omega)).sa (by omega)), h5⟩
theorem HL.fr {m k a : Nat} {x : QF} {F F1 : Nat → Prop} {s : Bool} {us av : List Nat} (h : HL C t m k x F a s us av F1) (hN : tN t ≤ tN t') (ha : F a) (hs : ∀ z, F z → gk t z → same5 t t' z) : HL C t' m k x F a s us av F1 := by
  have sA : tK t a = 5 ∨ tK t a = 9 ∨ tK t a = 10 ∨ tK t a = 11 → sameAt t t' a := fun z => (hs a ha (by unfold gk; omega)).sa (by omega)
  unfold HL at h ⊢
  by_cases m0 : m = 0
  · rw [if_pos m0] at h ⊢
    obtain ⟨q1, q2, q3, l, e, c, q6, q7, q8⟩ := h
    have sa := sA (by omega)
    exact ⟨sa.1.trans q1, (sa.2.2.1 0).trans q2, (sa.2.2.1 2).trans q3, l, e, c, (sa.2.2.2.2 1).trans q6, q7.fr hN hs, q8⟩
  rw [if_neg m0] at h ⊢
  by_cases m1 : m = 1
  · rw [if_pos m1] at h ⊢
    obtain ⟨q1, q2, l, e, c, q6, q7, q8⟩ := h
    have sa := sA (by omega)
    exact ⟨sa.1.trans q1, (sa.2.2.1 1).trans q2, l, e, c, (sa.2.2.2.2 0).trans q6, q7.fr hN hs, q8⟩
  rw [if_neg m1] at h ⊢
  by_cases m2 : m = 2
  · rw [if_pos m2] at h ⊢
    have sa := sA (by have := h.1; omega)
    refine ⟨sa.1.trans h.1, ?_⟩
    have h := h.2
    rw [sa.2.2.1 0, sa.2.2.2.2 1, sa.2.2.2.1 4, sa.2.2.2.2 7]
    by_cases k1 : k = 1
    · rw [if_pos k1] at h ⊢; exact ⟨h.1, h.2.fr hs⟩
    rw [if_neg k1] at h ⊢
    by_cases k2 : k = 2
    · rw [if_pos k2] at h ⊢; exact h
    rw [if_neg k2] at h ⊢
    by_cases k3 : k = 3
    · rw [if_pos k3] at h ⊢; exact h
    rw [if_neg k3] at h ⊢
    by_cases k4 : k = 4
    · rw [if_pos k4] at h ⊢; exact ⟨h.1, h.2.frame sa⟩
    rw [if_neg k4] at h ⊢
    exact h
  rw [if_neg m2] at h ⊢
  by_cases m3 : m = 3
  · rw [if_pos m3] at h ⊢
    by_cases k1 : k = 10 ∨ k = 11
    · rw [if_pos k1] at h ⊢
      by_cases q : qLen x = 1
      · rw [if_pos q] at h ⊢; exact h
      · rw [if_neg q] at h ⊢
        obtain ⟨q1, q2, q3, l, e, c, q6, q7, q8⟩ := h
        have sa := sA (by omega)
        exact ⟨sa.1.trans q1, (sa.2.2.1 0).trans q2, (sa.2.2.1 3).trans q3, l, e, c, (sa.2.2.2.2 2).trans q6, q7.fr hN hs, q8⟩
    rw [if_neg k1] at h ⊢
    by_cases k2 : k = 12
    · rw [if_pos k2] at h ⊢; exact h
    rw [if_neg k2] at h ⊢
    by_cases k3 : k = 13
    · rw [if_pos k3] at h ⊢
      have sa := sA (by have := h.1; omega)
      rw [sa.1, sa.2.2.1 0, sa.2.2.1 3, sa.2.2.1 4, sa.2.2.2.2 5, sa.2.2.2.2 6]
      exact h
    rw [if_neg k3] at h ⊢
    by_cases k4 : k = 14
    · rw [if_pos k4] at h ⊢
      have sa := sA (by have := h.1; omega)
      rw [sa.1, sa.2.2.1 0, sa.2.2.1 3, sa.2.2.2.2 7]
      exact h
    rw [if_neg k4] at h ⊢
    by_cases k5 : k = 27
    · rw [if_pos k5] at h ⊢
      have sa := sA (by omega)
      exact sa.1.trans h
    · rw [if_neg k5] at h ⊢; exact h
  rw [if_neg m3] at h ⊢
  by_cases m7 : m = 7
  · rw [if_pos m7] at h ⊢
    have sa := sA (by have := h.1; omega)
    refine ⟨sa.1.trans h.1, ?_⟩
    have hka := h.1
    have h := h.2
    rw [sa.2.2.1 0, sa.2.2.1 3, sa.2.2.2.2 7, sa.2.2.2.2 8, sa.2.2.2.2 5]
    by_cases k1 : k = 25
    · rw [if_pos k1] at h ⊢; exact h
    rw [if_neg k1] at h ⊢
    by_cases k2 : k = 27
    · rw [if_pos k2] at h ⊢; exact h
    rw [if_neg k2] at h ⊢
    obtain ⟨b1, b2, b3, b4, b5⟩ := h
    obtain ⟨r1, r2, r3, r4, r5⟩ := hs (a + 1) b2 (by unfold gk; omega)
    rw [r1, r5 4, r3 0, r5 6]
    refine ⟨b1, b2, b3, b4, ?_⟩
    by_cases k3 : k = 20
    · rw [if_pos k3] at b5 ⊢
      rw [r4 5 (Or.inl (fun w => ?_))]
      · exact b5
      · obtain ⟨-, a', e1, -, e2⟩ := w
        have : a' = a := by omega
        subst this
        rw [b5.1] at e2
        exact absurd e2 (by decide)
    rw [if_neg k3] at b5 ⊢
    by_cases k4 : k = 21
    · rw [if_pos k4] at b5 ⊢; exact ⟨b5.1, b5.2.1, b5.2.2.fr hs⟩
    rw [if_neg k4] at b5 ⊢
    exact b5
  rw [if_neg m7] at h ⊢
  exact h
theorem QR.fr (hN : tN t ≤ tN t') : ∀ (x : QF) (m : Nat) (av : List Nat) (F : Nat → Prop) (as : List Nat) (s : Bool), QR C t x m av F as s → (∀ z, F z → gk t z → same5 t t' z) → QR C t' x m av F as s := by
  intro x
  induction x with
  | append x y ihx ihy =>
    intro m av F as s h hs
    unfold QR at h ⊢
    by_cases m4 : m = 4
    · rw [if_pos m4] at h ⊢; exact ⟨h.1, ihx _ _ _ _ _ h.2 hs⟩
    rw [if_neg m4] at h ⊢
    by_cases m6 : m = 6
    · rw [if_pos m6] at h ⊢
      obtain ⟨u, v, q1, y1, y2, ⟨F1, q2, q4, q5, F2, q6, q8, q9, q10⟩⟩ := h
      exact ⟨u, v, q1, y1, y2, ⟨F1, q2, q4, ihx _ _ _ _ _ q5 (fun z z1 => hs z (q2 z z1)), F2, q6, q8, ihy _ _ _ _ _ q9 (fun z z1 => hs z (q6 z z1)), q10⟩⟩
    rw [if_neg m6] at h ⊢
    obtain ⟨u, r, q1, ⟨F1, q2, q4, q5⟩, q6⟩ := h
    exact ⟨u, r, q1, ⟨F1, q2, q4, ihx _ _ _ _ _ q5 (fun z z1 => hs z (q2 z z1))⟩, ihy _ _ _ _ _ q6 hs⟩
  | tag k x ih =>
    intro m av F as s h hs
    unfold QR at h ⊢
    by_cases m5 : m = 5
    · rw [if_pos m5] at h ⊢; exact ih _ _ _ _ _ h hs
    rw [if_neg m5] at h ⊢
    by_cases m8 : m = 8
    · rw [if_pos m8] at h ⊢; exact ⟨h.1, ih _ _ _ _ _ h.2 hs⟩
    rw [if_neg m8] at h ⊢
    obtain ⟨a, us, av', F1, q1, q2, q4, q6, q7⟩ := h
    exact ⟨a, us, av', F1, q1, q2, q4, q6.fr hN q2 hs, q7.imp id (fun q => ih _ _ _ _ _ q (fun z z1 => hs z (q4 z z1)))⟩
  | _ => intro m av F as s h hs; exact h
end Q5
/-- a list's members -/
def qE : QF → List QF
  | .append x y => x :: qE y
  | _ => []
/-- what holds of the query's cells while it is evaluated -/
def QCt (t : Ht) (F O : Nat → Prop) : Prop := (∀ z, F z → z < tN t) ∧ (∀ z, O z → OwF t z ∧ z < tN t) ∧ ∀ z, F z → OwF t z → O z
def Of (O F : Nat → Prop) : Nat → Prop := fun z => O z ∧ F z
section Q6
variable {C : Cx} {B T lk lk' c : Nat} {t1 t t' t2 : Ht} {G : GT} {V : VT} {O O' K K' F F1 : Nat → Prop}
theorem EFr.s5 {z : Nat} (h : ESt C B T t1 G V c O t lk) (g : EFr B O' K t t') (hO : ∀ z, O' z → OwF t z) (hz : z < tN t) (hk : gk t z) : same5 t t' z := by
  have k6 := h.k2
  have k7 : tK t (B + 7) = 105 := h.1.1.2.2.2.2.2.2.2.2.2.1
  unfold gk at hk
  have a0 := g.2.1 z hz
  obtain ⟨a1, a2, a3⟩ := g.2.2.1 z hz (by omega) (by omega) (fun e => by rw [e, k6] at hk; omega) (fun e => by rw [e, k7] at hk; omega)
  exact ⟨a0.1, a0.2, a1, fun k hk => a3 k (hk.imp (fun w y => w (hO z y)) id), a2⟩
theorem OwF.go {z : Nat} (h : ESt C B T t1 G V c O t lk) (g : EFr B O' K t t') (hz : z < tN t) : OwF t' z ↔ OwF t z := by
  have k6 := h.k2
  have k7 : tK t (B + 7) = 105 := h.1.1.2.2.2.2.2.2.2.2.2.1
  have kz := (g.2.1 z hz).1
  have key : ∀ a, z = a + 1 → tK t a = 11 → tI t' a 0 = tI t a 0 := fun a ha hk => (g.2.2.1 a (by omega) (by omega) (by omega) (fun e => by rw [e, k6] at hk; omega) (fun e => by rw [e, k7] at hk; omega)).1 0
  constructor
  · rintro ⟨h1, a, h2, h3, h4⟩
    have ka := (g.2.1 a (by omega)).1
    rw [ka] at h3
    rw [key a h2 h3] at h4
    exact ⟨kz ▸ h1, a, h2, h3, h4⟩
  · rintro ⟨h1, a, h2, h3, h4⟩
    have ka := (g.2.1 a (by omega)).1
    exact ⟨kz.trans h1, a, h2, ka.trans h3, by rw [key a h2 h3]; exact h4⟩
theorem QCt.go (q : QCt t F O) (h : ESt C B T t1 G V c O t lk) (g : EFr B O' K t t') : QCt t' F O := by
  obtain ⟨q1, q2, q3⟩ := q
  have hN := g.1
  refine ⟨fun z hz => by have := q1 z hz; omega, fun z hz => ?_, fun z hz hw => q3 z hz ((OwF.go h g (q1 z hz)).mp hw)⟩
  obtain ⟨a1, a2⟩ := q2 z hz
  exact ⟨(OwF.go h g a2).mpr a1, by omega⟩
theorem QCt.sub (q : QCt t F O) (hs : ∀ z, F1 z → F z) : QCt t F1 O := ⟨fun z hz => q.1 z (hs z hz), q.2.1, fun z hz => q.2.2 z (hs z hz)⟩
theorem EFr.om (g : EFr B O' K t t') (hs : ∀ z, O' z → O z) : EFr B O K t t' := by
  obtain ⟨h1, h2, h3, h4⟩ := g
  exact ⟨h1, h2, fun x a1 a2 a3 a4 a5 => ⟨(h3 x a1 a2 a3 a4 a5).1, (h3 x a1 a2 a3 a4 a5).2.1, fun k hk => (h3 x a1 a2 a3 a4 a5).2.2 k (hk.imp (fun w y => w (hs x y)) id)⟩, h4⟩
/-- the query's objects after a piece of the finding -/
theorem QR.go {x : QF} {m : Nat} {av as : List Nat} {s : Bool} (hr : QR C t x m av F as s) (q : QCt t F O) (h : ESt C B T t1 G V c O t lk) (g : EFr B O' K t t') (hO : ∀ z, O' z → O z) : QR C t' x m av F as s :=
  QR.fr g.1 _ _ _ _ _ _ hr (fun z hz hk => g.s5 h (fun y hy => (q.2.1 y (hO y hy)).1) (q.1 z hz) hk)
theorem EFe.le {e : Int32 × Nat} (h : EFe C B T t1 G V c O K t t' e) (hl : ∀ i, K' i → K i) : EFe C B T t1 G V c O K' t t' e := by
  obtain ⟨t2, a1, a2⟩ := h
  exact ⟨t2, a1.le hl, a2⟩
theorem QR.el : ∀ (x : QF) (m : Nat) (av : List Nat) (F : Nat → Prop) (as : List Nat) (s : Bool), m ≠ 4 → m ≠ 6 → qL x = true → QR C t x m av F as s → as.length = (qE x).length ∧ ∀ i, i < (qE x).length → ∃ F1, (∀ z, F1 z → F z) ∧ nav av F1 ∧ QR C t ((qE x).getD i .nil) m [] F1 [as.getD i 0] false := by
  intro x
  induction x with
  | append x y ihx ihy =>
    intro m av F as s m4 m6 hq h
    unfold QR at h
    rw [if_neg m4, if_neg m6] at h
    obtain ⟨u, r, q1, ⟨F1, q2, q4, q5⟩, q6⟩ := h
    obtain ⟨i1, i2⟩ := ihy m av F r s m4 m6 hq q6
    subst q1
    refine ⟨by show r.length + 1 = (qE y).length + 1; rw [i1], fun i hi => ?_⟩
    cases i with
    | zero => exact ⟨F1, q2, q4, q5⟩
    | succ i => exact i2 i (by have : (qE (.append x y)).length = (qE y).length + 1 := rfl; omega)
  | nil =>
    intro m av F as s m4 m6 hq h
    have h' : as = [] := h
    subst h'
    exact ⟨rfl, fun i hi => absurd hi (Nat.not_lt_zero _)⟩
  | _ => intro m av F as s m4 m6 hq; cases hq
end Q6
