/-! A QUERY'S TREE AS THE COMPONENT'S OBJECTS -/
/-- cells from lo to hi -/
def rg (lo hi : Nat) : Nat → Prop := fun z => lo ≤ z ∧ z < hi
def nav (av : List Nat) (F : Nat → Prop) : Prop := ∀ z ∈ av, ¬ F z
/-- a list of objects, its cells between lo and hi -/
def LSq (C : Cx) (t : Ht) (F : Nat → Prop) (l : Nat) (us : List Nat) (c e : Nat) : Prop := LsA C t l us c e ∧ F l ∧ (0 < c → F e) ∧ 2 * c ≤ 3 * us.length + 20
/-- an array of characters between lo and hi -/
def CHo (t : Ht) (F : Nat → Prop) (r : Option Nat) (cs : List Nat) : Prop := ∃ z, r = some z ∧ F z ∧ IAr t z cs ∧ okC cs
def sliH (t : Ht) (a : Nat) : QF → Prop
  | .append p (.append q r) => tI t a 2 = bI (unO p).isSome ∧ tI t a 3 = bI (unO q).isSome ∧ (∀ z, unO p = some z → tJ t a 4 = z) ∧ (∀ z, unO q = some z → tJ t a 5 = z) ∧ tJ t a 6 = (unO r).getD 1
  | _ => False
/-- a proper list; no list -/
def qL : QF → Bool
  | .append _ y => qL y
  | .nil => true
  | _ => false
def isTg : QF → Bool
  | .tag _ _ => true
  | _ => false
def tgN : QF → Nat
  | .tag k _ => k
  | _ => 0
/-- what stands in the cells of a node itself; its parts are the objects us, their cells between l1 and h1 -/
def HL (C : Cx) (t : Ht) (m k : Nat) (x : QF) (F : Nat → Prop) (a : Nat) (s : Bool) (us av : List Nat) (F1 : Nat → Prop) : Prop :=
  if m = 0 then tK t a = 5 ∧ tI t a 0 = nI (k % 2) ∧ tI t a 2 = nI (k / 2) ∧ ∃ l e c, tR t a 1 = some l ∧ LSq C t F l us c e ∧ av = [a, l, e] ∧ qL x = true ∧ k < 4 else
  if m = 1 then tK t a = 9 ∧ tI t a 1 = nI k ∧ ∃ l e c, tR t a 0 = some l ∧ LSq C t F l us c e ∧ av = [a, l, e] ∧ qL x = true else
  if m = 2 then tK t a = 10 ∧ (if k = 1 then tI t a 0 = 0 ∧ CHo t F (tR t a 1) (unC x) else if k = 2 then tI t a 0 = 1 else if k = 3 then tI t a 0 = 2 ∧ tJ t a 4 = unI x else if k = 4 then tI t a 0 = 3 ∧ sliH t a x else if k = 5 then tI t a 0 = 4 ∧ av = [] ∧ isTg x = true ∧ nav [a] F1 ∧ ∃ u, tR t a 7 = some u ∧ us = [u] else False) else
  if m = 3 then (if k = 10 ∨ k = 11 then (if qLen x = 1 then us = [a] ∧ av = [] else tK t a = 11 ∧ tI t a 0 = nI (k - 10) ∧ tI t a 3 = bI s ∧ ∃ l e c, tR t a 2 = some l ∧ LSq C t F l us c e ∧ av = [a, l, e] ∧ qL x = true) else
    if k = 12 then us = [a] ∧ av = [] ∧ isTg x = true else
    if k = 13 then tK t a = 11 ∧ tI t a 0 = 2 ∧ tI t a 3 = bI s ∧ tI t a 4 = nI (tgN x - 1) ∧ av = [a] ∧ isTg x = true ∧ ∃ u v, tR t a 5 = some u ∧ tR t a 6 = some v ∧ us = [u, v] else
    if k = 14 then tK t a = 11 ∧ tI t a 0 = 4 ∧ tI t a 3 = bI s ∧ av = [] ∧ isTg x = true ∧ nav [a] F1 ∧ ∃ u, tR t a 7 = some u ∧ us = [u] else
    if k = 27 then tK t a = 11 else False) else
  if m = 7 then tK t a = 11 ∧ (if k = 25 then tI t a 0 = 4 ∧ tI t a 3 = 0 ∧ av = [] ∧ isTg x = true ∧ nav [a] F1 ∧ ∃ u, tR t a 7 = some u ∧ us = [u] else
    if k = 27 then ∃ w, 5 ≤ w ∧ w ≤ 8 ∧ tI t a 0 = nI w else
    tR t a 8 = some (a + 1) ∧ F (a + 1) ∧ tK t (a + 1) = 3 ∧ tR t (a + 1) 4 = none ∧
    (if k = 20 then tI t a 0 = 3 ∧ tI t (a + 1) 0 = 3 ∧ tJ t (a + 1) 5 = unI x ∧ tR t (a + 1) 6 = none else if k = 21 then tI t a 0 = 3 ∧ tI t (a + 1) 0 = 4 ∧ CHo t F (tR t (a + 1) 6) (unC x) else
    if k = 22 then tI t a 0 = 3 ∧ tI t (a + 1) 0 = 2 ∧ tR t (a + 1) 6 = none else if k = 23 then tI t a 0 = 3 ∧ tI t (a + 1) 0 = 1 ∧ tR t (a + 1) 6 = none else if k = 24 then tI t a 0 = 3 ∧ tI t (a + 1) 0 = 0 ∧ tR t (a + 1) 6 = none else
    if k = 26 then tI t a 0 = nI (tgN x + 4) ∧ tI t (a + 1) 0 = 3 ∧ tR t (a + 1) 6 = none ∧ av = [] ∧ nav [a, a + 1] F1 ∧ ∃ u, tR t a 5 = some u ∧ us = [u] ∧ 1 ≤ tgN x ∧ tgN x ≤ 3 else False)) else False
def cM (m k : Nat) (x : QF) : Nat := if m = 0 then 1 else if m = 1 then 2 else if m = 2 then (if k = 5 then 3 else 99) else
  if m = 3 then (if k = 10 ∨ k = 11 then (if qLen x = 1 then 4 else 3) else if k = 12 then 3 else if k = 13 then 5 else if k = 14 then 0 else 99) else if k = 25 then 0 else if k = 26 then 8 else 99
def cSg (m k : Nat) (x : QF) (s : Bool) : Bool := if m = 3 then (if (k = 10 ∨ k = 11) ∧ qLen x = 1 then s else if k = 12 then !s else false) else false
/-- the tree x as objects: m: 0 path, 1 segment(s), 2 selector(s), 3 formula(s), 4 the only one of a list, 5, 6 the two of a comparison, 7 operand, 8 argument; s: whether it is turned about -/
def QR (C : Cx) (t : Ht) : QF → Nat → List Nat → (Nat → Prop) → List Nat → Bool → Prop
  | .append x y, m, av, F, as, s => if m = 4 then isTg x = true ∧ QR C t x 3 av F as s else
    if m = 6 then ∃ u v, as = [u, v] ∧ isTg x = true ∧ isTg y = true ∧ (∃ F1, (∀ z, F1 z → F z) ∧ nav av F1 ∧ QR C t x 7 [] F1 [u] false ∧ ∃ F2, (∀ z, F2 z → F z) ∧ nav av F2 ∧ QR C t y 7 [] F2 [v] false ∧ ∀ z, F1 z → ¬ F2 z) else
    ∃ u r, as = u :: r ∧ (∃ F1, (∀ z, F1 z → F z) ∧ nav av F1 ∧ QR C t x m [] F1 [u] false) ∧ QR C t y m av F r s
  | .tag k x, m, av, F, as, s => if m = 5 then QR C t x 6 av F as s else if m = 8 then isTg x = true ∧ QR C t x 7 av F as s else
    ∃ a us av' F1, as = [a] ∧ F a ∧ (∀ z, F1 z → F z) ∧ HL C t m k x F a s us av' F1 ∧ (cM m k x = 99 ∨ QR C t x (cM m k x) av' F1 us (cSg m k x s))
  | _, _, _, _, as, _ => as = []
section QRF
variable {C : Cx} {t t' : Ht}
theorem LSq.frame {F : Nat → Prop} {l c e : Nat} {us : List Nat} (h : LSq C t F l us c e) (hN : tN t ≤ tN t') (hs : ∀ z, F z → sameAt t t' z) : LSq C t' F l us c e := by
  obtain ⟨h1, h2, h4, h5⟩ := h
  exact ⟨h1.frame hN (hs l h2) (fun z => hs e (h4 z)), h2, h4, h5⟩
theorem CHo.frame {F : Nat → Prop} {r : Option Nat} {cs : List Nat} (h : CHo t F r cs) (hs : ∀ z, F z → sameAt t t' z) : CHo t' F r cs := by
  obtain ⟨z, h1, h2, h4, h5⟩ := h
  exact ⟨z, h1, h2, h4.frame (hs z h2), h5⟩
theorem sliH.frame {a : Nat} {x : QF} (h : sliH t a x) (hs : sameAt t t' a) : sliH t' a x := by
  unfold sliH at h ⊢
  split at h
  · simp only [hs.2.2.1, hs.2.2.2.1]; exact h
  · exact h.elim
theorem HL.frame {m k a : Nat} {x : QF} {F F1 : Nat → Prop} {s : Bool} {us av : List Nat} (h : HL C t m k x F a s us av F1) (hN : tN t ≤ tN t') (ha : F a) (hs : ∀ z, F z → sameAt t t' z) : HL C t' m k x F a s us av F1 := by
  have sa := hs a ha
  obtain ⟨s1, s2, s3, s4, s5⟩ := sa
  unfold HL at h ⊢
  simp only [s1, s3, s4, s5]
  by_cases m0 : m = 0
  · rw [if_pos m0] at h ⊢
    obtain ⟨q1, q2, q3, l, e, c, q6, q7, q8⟩ := h
    exact ⟨q1, q2, q3, l, e, c, q6, q7.frame hN hs, q8⟩
  rw [if_neg m0] at h ⊢
  by_cases m1 : m = 1
  · rw [if_pos m1] at h ⊢
    obtain ⟨q1, q2, l, e, c, q6, q7, q8⟩ := h
    exact ⟨q1, q2, l, e, c, q6, q7.frame hN hs, q8⟩
  rw [if_neg m1] at h ⊢
  by_cases m2 : m = 2
  · rw [if_pos m2] at h ⊢
    refine ⟨h.1, ?_⟩
    have h := h.2
    by_cases k1 : k = 1
    · rw [if_pos k1] at h ⊢; exact ⟨h.1, h.2.frame hs⟩
    rw [if_neg k1] at h ⊢
    by_cases k2 : k = 2
    · rw [if_pos k2] at h ⊢; exact h
    rw [if_neg k2] at h ⊢
    by_cases k3 : k = 3
    · rw [if_pos k3] at h ⊢; exact h
    rw [if_neg k3] at h ⊢
    by_cases k4 : k = 4
    · rw [if_pos k4] at h ⊢; exact ⟨h.1, h.2.frame ⟨s1, s2, s3, s4, s5⟩⟩
    rw [if_neg k4] at h ⊢
    exact h
  rw [if_neg m2] at h ⊢
  by_cases m3 : m = 3
  · rw [if_pos m3] at h ⊢
    by_cases k1 : k = 10 ∨ k = 11
    · rw [if_pos k1] at h ⊢
      by_cases q : qLen x = 1
      · rw [if_pos q] at h ⊢; exact h
      · rw [if_neg q] at h ⊢
        obtain ⟨q1, q2, q3, l, e, c, q6, q7, q8⟩ := h
        exact ⟨q1, q2, q3, l, e, c, q6, q7.frame hN hs, q8⟩
    rw [if_neg k1] at h ⊢
    exact h
  rw [if_neg m3] at h ⊢
  by_cases m7 : m = 7
  · rw [if_pos m7] at h ⊢
    refine ⟨h.1, ?_⟩
    have h := h.2
    by_cases k1 : k = 25
    · rw [if_pos k1] at h ⊢; exact h
    rw [if_neg k1] at h ⊢
    by_cases k2 : k = 27
    · rw [if_pos k2] at h ⊢; exact h
    rw [if_neg k2] at h ⊢
    obtain ⟨b1, b2, b3, b4, b5⟩ := h
    obtain ⟨r1, r2, r3, r4, r5⟩ := hs (a + 1) b2
    simp only [r1, r3, r4, r5]
    refine ⟨b1, b2, b3, b4, ?_⟩
    by_cases k3 : k = 20
    · rw [if_pos k3] at b5 ⊢; exact b5
    rw [if_neg k3] at b5 ⊢
    by_cases k4 : k = 21
    · rw [if_pos k4] at b5 ⊢; exact ⟨b5.1, b5.2.1, b5.2.2.frame hs⟩
    rw [if_neg k4] at b5 ⊢
    exact b5
  rw [if_neg m7] at h ⊢
  exact h
/-- the same objects in another heap -/
theorem QR.frame (hN : tN t ≤ tN t') : ∀ (x : QF) (m : Nat) (av : List Nat) (F : Nat → Prop) (as : List Nat) (s : Bool), QR C t x m av F as s → (∀ z, F z → sameAt t t' z) → QR C t' x m av F as s := by
  intro x
  induction x with
  | append x y ihx ihy =>
    intro m av F as s h hs
    unfold QR at h ⊢
    by_cases m4 : m = 4
    · rw [if_pos m4] at h ⊢; exact ⟨h.1, ihx _ _ _ _ _ h.2 hs⟩
    rw [if_neg m4] at h ⊢
    by_cases m6 : m = 6
    · rw [if_pos m6] at h ⊢
      obtain ⟨u, v, q1, y1, y2, ⟨F1, q2, q4, q5, F2, q6, q8, q9, q10⟩⟩ := h
      exact ⟨u, v, q1, y1, y2, ⟨F1, q2, q4, ihx _ _ _ _ _ q5 (fun z z1 => hs z (q2 z z1)), F2, q6, q8, ihy _ _ _ _ _ q9 (fun z z1 => hs z (q6 z z1)), q10⟩⟩
    rw [if_neg m6] at h ⊢
    obtain ⟨u, r, q1, ⟨F1, q2, q4, q5⟩, q6⟩ := h
    exact ⟨u, r, q1, ⟨F1, q2, q4, ihx _ _ _ _ _ q5 (fun z z1 => hs z (q2 z z1))⟩, ihy _ _ _ _ _ q6 hs⟩
  | tag k x ih =>
    intro m av F as s h hs
    unfold QR at h ⊢
    by_cases m5 : m = 5
    · rw [if_pos m5] at h ⊢; exact ih _ _ _ _ _ h hs
    rw [if_neg m5] at h ⊢
    by_cases m8 : m = 8
    · rw [if_pos m8] at h ⊢; exact ⟨h.1, ih _ _ _ _ _ h.2 hs⟩
    rw [if_neg m8] at h ⊢
    obtain ⟨a, us, av', F1, q1, q2, q4, q6, q7⟩ := h
    exact ⟨a, us, av', F1, q1, q2, q4, q6.frame hN q2 hs, q7.imp id (fun q => ih _ _ _ _ _ q (fun z z1 => hs z (q4 z z1)))⟩
  | _ => intro m av F as s h hs; exact h
/-- a list's objects don't lie where av says -/
theorem QR.frameL (hN : tN t ≤ tN t') : ∀ (x : QF) (m : Nat) (av : List Nat) (F : Nat → Prop) (as : List Nat) (s : Bool), qL x = true → m ≠ 4 → m ≠ 6 → QR C t x m av F as s → (∀ z, F z → z ∉ av → sameAt t t' z) → QR C t' x m av F as s := by
  intro x
  induction x with
  | append x y ihx ihy =>
    intro m av F as s hq m4 m6 h hs
    unfold QR at h ⊢
    rw [if_neg m4, if_neg m6] at h ⊢
    obtain ⟨u, r, q1, ⟨F1, q2, q4, q5⟩, q6⟩ := h
    exact ⟨u, r, q1, ⟨F1, q2, q4, QR.frame hN _ _ _ _ _ _ q5 (fun z z1 => hs z (q2 z z1) (fun hz => q4 z hz z1))⟩, ihy _ _ _ _ _ hq m4 m6 q6 hs⟩
  | nil => intro m av F as s _ _ _ h _; exact h
  | _ => intro m av F as s hq; cases hq
/-- other things to lie beside -/
theorem QR.avL : ∀ (x : QF) (m : Nat) (av av' : List Nat) (F F' : Nat → Prop) (as : List Nat) (s : Bool), qL x = true → m ≠ 4 → m ≠ 6 → QR C t x m av F as s → (∀ z, F z → F' z) → (∀ z ∈ av', z ∈ av ∨ ¬ F z) → QR C t x m av' F' as s := by
  intro x
  induction x with
  | append x y ihx ihy =>
    intro m av av' F F' as s hq m4 m6 h hh ha
    unfold QR at h ⊢
    rw [if_neg m4, if_neg m6] at h ⊢
    obtain ⟨u, r, q1, ⟨F1, q2, q4, q5⟩, q6⟩ := h
    refine ⟨u, r, q1, ⟨F1, fun z z1 => hh z (q2 z z1), fun z hz z1 => ?_, q5⟩, ihy _ _ _ _ _ _ _ hq m4 m6 q6 hh ha⟩
    rcases ha z hz with y | y
    · exact q4 z y z1
    · exact y (q2 z z1)
  | nil => intro m av av' F F' as s _ _ _ h _ _; exact h
  | _ => intro m av av' F F' as s hq; cases hq
/-- one more behind -/
theorem QR.app {m u : Nat} {F F1 : Nat → Prop} {av : List Nat} {z : QF} (m4 : m ≠ 4) (m6 : m ≠ 6) (hl : ∀ y, F1 y → F y) (hn : nav av F1) (hz : QR C t z m [] F1 [u] false) : ∀ (x : QF) (as : List Nat) (s : Bool), qL x = true → QR C t x m av F as s → QR C t (qApp x z) m av F (as ++ [u]) s ∧ qL (qApp x z) = true ∧ qLen (qApp x z) = qLen x + 1 := by
  intro x
  induction x with
  | append x y ihx ihy =>
    intro as s hq h
    unfold QR at h
    rw [if_neg m4, if_neg m6] at h
    obtain ⟨v, r, q1, q2, q6⟩ := h
    obtain ⟨g1, g2, g3⟩ := ihy r s hq q6
    refine ⟨?_, g2, ?_⟩
    · show QR C t (.append x (qApp y z)) m av F (as ++ [u]) s
      unfold QR
      rw [if_neg m4, if_neg m6]
      exact ⟨v, r ++ [u], by rw [q1]; rfl, q2, g1⟩
    · show qLen (qApp y z) + 1 = qLen y + 1 + 1; rw [g3]
  | nil =>
    intro as s _ h
    have h' : as = [] := h
    subst h'
    refine ⟨?_, rfl, rfl⟩
    show QR C t (.append z .nil) m av F [u] s
    unfold QR
    rw [if_neg m4, if_neg m6]
    exact ⟨u, [], rfl, ⟨F1, hl, hn, hz⟩, rfl⟩
  | _ => intro as s hq; cases hq
theorem QR.len : ∀ (x : QF) (m : Nat) (av : List Nat) (F : Nat → Prop) (as : List Nat) (s : Bool), qL x = true → m ≠ 4 → m ≠ 6 → QR C t x m av F as s → as.length = qLen x := by
  intro x
  induction x with
  | append x y ihx ihy =>
    intro m av F as s hq m4 m6 h
    unfold QR at h
    rw [if_neg m4, if_neg m6] at h
    obtain ⟨u, r, q1, -, q6⟩ := h
    rw [q1]
    show r.length + 1 = qLen y + 1
    rw [ihy _ _ _ _ _ hq m4 m6 q6]
  | nil => intro m av F as s _ _ _ h; have h' : as = [] := h; rw [h']; rfl
  | _ => intro m av F as s hq; cases hq
theorem LSq.wide {F F' : Nat → Prop} {l c e : Nat} {us : List Nat} (h : LSq C t F l us c e) (h1 : ∀ z, F z → F' z) : LSq C t F' l us c e :=
  ⟨h.1, h1 _ h.2.1, fun z => h1 _ (h.2.2.1 z), h.2.2.2⟩
theorem CHo.wide {F F' : Nat → Prop} {r : Option Nat} {cs : List Nat} (h : CHo t F r cs) (h1 : ∀ z, F z → F' z) : CHo t F' r cs := by
  obtain ⟨z, q1, q2, q4⟩ := h
  exact ⟨z, q1, h1 _ q2, q4⟩
theorem HL.wide {m k a : Nat} {x : QF} {F F' F1 : Nat → Prop} {s : Bool} {us av : List Nat} (h : HL C t m k x F a s us av F1) (g1 : ∀ z, F z → F' z) : HL C t m k x F' a s us av F1 := by
  unfold HL at h ⊢
  by_cases m0 : m = 0
  · rw [if_pos m0] at h ⊢
    obtain ⟨q1, q2, q3, l, e, c, q6, q7, q8⟩ := h
    exact ⟨q1, q2, q3, l, e, c, q6, q7.wide g1, q8⟩
  rw [if_neg m0] at h ⊢
  by_cases m1 : m = 1
  · rw [if_pos m1] at h ⊢
    obtain ⟨q1, q2, l, e, c, q6, q7, q8⟩ := h
    exact ⟨q1, q2, l, e, c, q6, q7.wide g1, q8⟩
  rw [if_neg m1] at h ⊢
  by_cases m2 : m = 2
  · rw [if_pos m2] at h ⊢
    refine ⟨h.1, ?_⟩
    have h := h.2
    by_cases k1 : k = 1
    · rw [if_pos k1] at h ⊢; exact ⟨h.1, h.2.wide g1⟩
    rw [if_neg k1] at h ⊢
    exact h
  rw [if_neg m2] at h ⊢
  by_cases m3 : m = 3
  · rw [if_pos m3] at h ⊢
    by_cases k1 : k = 10 ∨ k = 11
    · rw [if_pos k1] at h ⊢
      by_cases q : qLen x = 1
      · rw [if_pos q] at h ⊢; exact h
      · rw [if_neg q] at h ⊢
        obtain ⟨q1, q2, q3, l, e, c, q6, q7, q8⟩ := h
        exact ⟨q1, q2, q3, l, e, c, q6, q7.wide g1, q8⟩
    rw [if_neg k1] at h ⊢
    exact h
  rw [if_neg m3] at h ⊢
  by_cases m7 : m = 7
  · rw [if_pos m7] at h ⊢
    refine ⟨h.1, ?_⟩
    have h := h.2
    by_cases k1 : k = 25
    · rw [if_pos k1] at h ⊢; exact h
    rw [if_neg k1] at h ⊢
    by_cases k2 : k = 27
    · rw [if_pos k2] at h ⊢; exact h
    rw [if_neg k2] at h ⊢
    obtain ⟨b1, b2, b3, b4, b5⟩ := h
    refine ⟨b1, g1 _ b2, b3, b4, ?_⟩
    by_cases k3 : k = 20
    · rw [if_pos k3] at b5 ⊢; exact b5
    rw [if_neg k3] at b5 ⊢
    by_cases k4 : k = 21
    · rw [if_pos k4] at b5 ⊢; exact ⟨b5.1, b5.2.1, b5.2.2.wide g1⟩
    rw [if_neg k4] at b5 ⊢
    exact b5
  rw [if_neg m7] at h ⊢
  exact h
theorem QR.wide {k m : Nat} {F F' : Nat → Prop} {x : QF} {av as : List Nat} {s : Bool} (h : QR C t (.tag k x) m av F as s) (m5 : m ≠ 5) (m8 : m ≠ 8) (g1 : ∀ z, F z → F' z) : QR C t (.tag k x) m av F' as s := by
  unfold QR at h ⊢
  rw [if_neg m5, if_neg m8] at h ⊢
  obtain ⟨a, us, av', F1, q1, q2, q4, q6, q7⟩ := h
  exact ⟨a, us, av', F1, q1, g1 _ q2, fun z z1 => g1 _ (q4 z z1), q6.wide g1, q7⟩
theorem QR.frame5 (hN : tN t ≤ tN t') {x : QF} {av as : List Nat} {F : Nat → Prop} {s : Bool} (h : QR C t x 5 av F as s) (hx : isTg x = true) (hs : ∀ z, F z → z ∉ av → sameAt t t' z) : QR C t' x 5 av F as s := by
  cases x with
  | tag k y =>
    unfold QR at h ⊢
    rw [if_pos rfl] at h ⊢
    cases y with
    | append x y =>
      unfold QR at h ⊢
      rw [if_neg (by decide), if_pos rfl] at h ⊢
      obtain ⟨u, v, q1, y1, y2, ⟨F1, q2, q4, q5, F2, q6, q8, q9, q10⟩⟩ := h
      exact ⟨u, v, q1, y1, y2, ⟨F1, q2, q4, QR.frame hN _ _ _ _ _ _ q5 (fun z z1 => hs z (q2 z z1) (fun hz => q4 z hz z1)), F2, q6, q8, QR.frame hN _ _ _ _ _ _ q9 (fun z z1 => hs z (q6 z z1) (fun hz => q8 z hz z1)), q10⟩⟩
    | tag k2 y =>
      unfold QR at h
      rw [if_neg (by decide), if_neg (by decide)] at h
      obtain ⟨a, us, av', F1, q1, q2, q4, q6, q7⟩ := h
      unfold HL at q6
      rw [if_neg (by decide), if_neg (by decide), if_neg (by decide), if_neg (by decide), if_neg (by decide)] at q6
      exact q6.elim
    | _ => exact h
  | _ => cases hx
theorem qLen_1 {x : QF} (h : qLen x = 1) : ∃ y z, x = .append y z := by
  cases x with
  | append y z => exact ⟨y, z, rfl⟩
  | _ => cases h
set_option maxHeartbeats 1000000 in
/-- a formula is turned about -/
theorem QR.flip {a : Nat} {v : Int32} (h0 : tI t a 3 = 0 → v = 1) (h1 : ¬ tI t a 3 = 0 → v = 0) : ∀ (x : QF) (m : Nat) (av : List Nat) (F : Nat → Prop) (s : Bool), (m = 3 ∧ isTg x = true) ∨ m = 4 → QR C t x m av F [a] s → QR C (sI t a 3 v) x m av F [a] (!s) := by
  have hv : ∀ s : Bool, tI t a 3 = bI s → v = bI (!s) := fun s hs => by
    cases s with
    | false => rw [h0 hs]; rfl
    | true => rw [h1 (by rw [hs]; decide)]; rfl
  have hoth : ∀ z, z ≠ a → sameAt t (sI t a 3 v) z := fun z hz => sameAt_sI hz
  intro x
  induction x with
  | append x y ihx ihy =>
    intro m av F s hm h
    rcases hm with ⟨-, hm⟩ | rfl
    · cases hm
    · unfold QR at h ⊢
      rw [if_pos rfl] at h ⊢
      exact ⟨h.1, ihx 3 av F s (Or.inl ⟨rfl, h.1⟩) h.2⟩
  | tag k x ih =>
    intro m av F s hm h
    unfold QR at h ⊢
    have m5 : m ≠ 5 := by rcases hm with ⟨rfl, -⟩ | rfl <;> decide
    have m8 : m ≠ 8 := by rcases hm with ⟨rfl, -⟩ | rfl <;> decide
    rw [if_neg m5, if_neg m8] at h ⊢
    obtain ⟨a', us, av', F1, q1, q2, q4, q6, q7⟩ := h
    injection q1 with q1
    subst q1
    rcases hm with ⟨rfl, -⟩ | rfl
    · unfold HL at q6
      rw [if_neg (by decide), if_neg (by decide), if_neg (by decide), if_pos rfl] at q6
      have hHL : ∀ {us av F1}, (if k = 10 ∨ k = 11 then (if qLen x = 1 then us = [a] ∧ av = [] else tK (sI t a 3 v) a = 11 ∧ tI (sI t a 3 v) a 0 = nI (k - 10) ∧ tI (sI t a 3 v) a 3 = bI (!s) ∧ ∃ l e c, tR (sI t a 3 v) a 2 = some l ∧ LSq C (sI t a 3 v) F l us c e ∧ av = [a, l, e] ∧ qL x = true) else
          if k = 12 then us = [a] ∧ av = [] ∧ isTg x = true else
          if k = 13 then tK (sI t a 3 v) a = 11 ∧ tI (sI t a 3 v) a 0 = 2 ∧ tI (sI t a 3 v) a 3 = bI (!s) ∧ tI (sI t a 3 v) a 4 = nI (tgN x - 1) ∧ av = [a] ∧ isTg x = true ∧ ∃ u v', tR (sI t a 3 v) a 5 = some u ∧ tR (sI t a 3 v) a 6 = some v' ∧ us = [u, v'] else
          if k = 14 then tK (sI t a 3 v) a = 11 ∧ tI (sI t a 3 v) a 0 = 4 ∧ tI (sI t a 3 v) a 3 = bI (!s) ∧ av = [] ∧ isTg x = true ∧ nav [a] F1 ∧ ∃ u, tR (sI t a 3 v) a 7 = some u ∧ us = [u] else
          if k = 27 then tK (sI t a 3 v) a = 11 else False) → HL C (sI t a 3 v) 3 k x F a (!s) us av F1 := fun z => by
        unfold HL
        rw [if_neg (by decide), if_neg (by decide), if_neg (by decide), if_pos rfl]; exact z
      unfold cM cSg at q7 ⊢
      rw [if_neg (by decide), if_neg (by decide), if_neg (by decide), if_pos rfl, if_pos rfl] at q7
      simp only [show ¬ (3 : Nat) = 0 by decide, show ¬ (3 : Nat) = 1 by decide, show ¬ (3 : Nat) = 2 by decide, if_false, if_true]
      have e3 : tI (sI t a 3 v) a 3 = v := by simp [ht]
      have e0 : tI (sI t a 3 v) a 0 = tI t a 0 := by simp [ht]
      have e4 : tI (sI t a 3 v) a 4 = tI t a 4 := by simp [ht]
      by_cases k1 : k = 10 ∨ k = 11
      · rw [if_pos k1] at q6 q7
        by_cases ql : qLen x = 1
        · rw [if_pos ql] at q6 q7
          obtain ⟨rfl, rfl⟩ := q6
          rw [if_pos ⟨k1, ql⟩] at q7
          refine ⟨a, [a], [], F1, rfl, q2, q4, hHL (by rw [if_pos k1, if_pos ql]; exact ⟨rfl, rfl⟩), Or.inr ?_⟩
          rw [if_pos k1, if_pos ql, if_pos ⟨k1, ql⟩]
          rcases q7 with z | z
          · omega
          · exact ih 4 [] F1 s (Or.inr rfl) z
        · rw [if_neg ql] at q6 q7
          obtain ⟨g1, g2, g3, l, e, c, g4, g5, rfl, g6⟩ := q6
          have hla : l ≠ a := fun z => by have := g5.1.1; rw [z, g1] at this; cases this
          refine ⟨a, us, [a, l, e], F1, rfl, q2, q4, hHL ?_, Or.inr ?_⟩
          · rw [if_pos k1, if_neg ql]
            refine ⟨g1, e0.trans g2, e3.trans (hv s g3), l, e, c, g4, ⟨g5.1.frame (Nat.le_refl _) (hoth l hla) (fun z => hoth e (fun y => ?_)), g5.2⟩, rfl, g6⟩
            rcases g5.1.2.2.2.2.2 with ⟨q, -⟩ | ⟨-, -, -, -, q, -, -⟩
            · omega
            · rw [y, g1] at q; cases q
          · rw [if_pos k1, if_neg ql, if_neg (fun z => ql z.2)]
            rw [if_neg (show ¬ k = 12 by omega)] at q7 ⊢
            rw [if_neg (fun z => ql z.2)] at q7
            rcases q7 with z | z
            · omega
            · exact QR.frameL (t := t) (t' := sI t a 3 v) (Nat.le_refl _) _ _ _ _ _ _ g6 (by decide) (by decide) z (fun w _ hw => hoth w (fun y => hw (by rw [y]; exact List.mem_cons_self)))
      · rw [if_neg k1] at q6 q7
        by_cases k2 : k = 12
        · rw [if_pos k2] at q6 q7
          obtain ⟨rfl, rfl, g1⟩ := q6
          rw [if_neg (fun z => k1 z.1), if_pos k2] at q7
          refine ⟨a, [a], [], F1, rfl, q2, q4, hHL (by rw [if_neg k1, if_pos k2]; exact ⟨rfl, rfl, g1⟩), Or.inr ?_⟩
          rw [if_neg k1, if_pos k2, if_neg (fun z => k1 z.1), if_pos k2]
          rcases q7 with z | z
          · omega
          · exact ih 3 [] F1 (!s) (Or.inl ⟨rfl, g1⟩) z
        · rw [if_neg k2] at q6 q7
          by_cases k3 : k = 13
          · rw [if_pos k3] at q6 q7
            obtain ⟨g1, g2, g3, g4, rfl, htg, u, v', g5, g6, rfl⟩ := q6
            rw [if_neg (fun z => k1 z.1), if_neg k2] at q7
            refine ⟨a, [u, v'], [a], F1, rfl, q2, q4, hHL ?_, Or.inr ?_⟩
            · rw [if_neg k1, if_neg k2, if_pos k3]
              exact ⟨g1, e0.trans g2, e3.trans (hv s g3), e4.trans g4, rfl, htg, u, v', g5, g6, rfl⟩
            · rw [if_neg k1, if_neg k2, if_pos k3, if_neg (fun z => k1 z.1), if_neg k2]
              rcases q7 with z | z
              · omega
              · exact QR.frame5 (t := t) (t' := sI t a 3 v) (Nat.le_refl _) z htg (fun w _ hw => hoth w (fun y => hw (by rw [y]; exact List.mem_cons_self)))
          · rw [if_neg k3] at q6 q7
            by_cases k4 : k = 14
            · rw [if_pos k4] at q6 q7
              obtain ⟨g1, g2, g3, rfl, g4, g5, u, g6, rfl⟩ := q6
              rw [if_neg (fun z => k1 z.1), if_neg k2] at q7
              refine ⟨a, [u], [], F1, rfl, q2, q4, hHL ?_, Or.inr ?_⟩
              · rw [if_neg k1, if_neg k2, if_neg k3, if_pos k4]
                exact ⟨g1, e0.trans g2, e3.trans (hv s g3), rfl, g4, g5, u, g6, rfl⟩
              · rw [if_neg k1, if_neg k2, if_neg k3, if_pos k4, if_neg (fun z => k1 z.1), if_neg k2]
                rcases q7 with z | z
                · omega
                · exact QR.frame (t := t) (t' := sI t a 3 v) (Nat.le_refl _) _ _ _ _ _ _ z (fun w w1 => hoth w (fun y => g5 a List.mem_cons_self (by rw [← y]; exact w1)))
            · rw [if_neg k4] at q6 q7
              by_cases k5 : k = 27
              · rw [if_pos k5] at q6
                refine ⟨a, us, av', F1, rfl, q2, q4, hHL (by rw [if_neg k1, if_neg k2, if_neg k3, if_neg k4, if_pos k5]; exact q6), Or.inl ?_⟩
                rw [if_neg k1, if_neg k2, if_neg k3, if_neg k4]
              · rw [if_neg k5] at q6; exact q6.elim
    · unfold HL at q6
      rw [if_neg (by decide), if_neg (by decide), if_neg (by decide), if_neg (by decide), if_neg (by decide)] at q6
      exact q6.elim
  | _ =>
    intro m av F s hm h
    cases h
end QRF
