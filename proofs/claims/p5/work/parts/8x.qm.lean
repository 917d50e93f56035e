/-! A QUERY'S TREE IN THE REFERENCE'S TABLE: parts at P, arrays P + 1 .. P + 8: kind one two next own a b c -/
def PTx (t : Ht) (P ch lo hi a : Nat) (cs : List Nat) : Prop := ∃ p, tI t (P + 2) a = nI p ∧ tI t (P + 3) a = nI cs.length ∧ CH t ch p cs lo hi ∧ okC cs
def sliM (t : Ht) (P a : Nat) : QF → Prop
  | .append p (.append q r) => tI t (P + 5) a = nI ((if (unO p).isSome then 1 else 0) + (if (unO q).isSome then 2 else 0) + (if (unO r).isSome then 4 else 0)) ∧ (∀ z, unO p = some z → tJ t (P + 6) a = z) ∧ (∀ z, unO q = some z → tJ t (P + 7) a = z) ∧ (∀ z, unO r = some z → tJ t (P + 8) a = z)
  | _ => False
def hdI (us : List Nat) : Int32 := oIx us.head?
/-- what stands in a part itself; us: the parts that it names -/
def HM (t : Ht) (P ch lo hi m k : Nat) (x : QF) (a : Nat) (us : List Nat) : Prop :=
  if m = 1 then tI t (P + 1) a = 0 ∧ tI t (P + 5) a = nI k ∧ tI t (P + 2) a = hdI us ∧ qL x = true ∧ k < 2 else
  if m = 2 then tI t (P + 1) a = nI k ∧ (if k = 1 then PTx t P ch lo hi a (unC x) else if k = 2 then True else if k = 3 then tJ t (P + 6) a = unI x else if k = 4 then sliM t P a x else if k = 5 then isTg x = true ∧ ∃ u, tI t (P + 2) a = nI u ∧ us = [u] else False) else
  if m = 3 then tI t (P + 1) a = nI k ∧ (if k = 10 ∨ k = 11 then tI t (P + 2) a = hdI us ∧ qL x = true else
    if k = 12 then isTg x = true ∧ ∃ u, tI t (P + 2) a = nI u ∧ us = [u] else
    if k = 13 then tI t (P + 5) a = nI (tgN x) ∧ isTg x = true ∧ ∃ u v, tI t (P + 2) a = nI u ∧ tI t (P + 3) a = nI v ∧ us = [u, v] else
    if k = 14 then isTg x = true ∧ ∃ u, tI t (P + 2) a = nI u ∧ us = [u] else False) else
  if m = 10 then tI t (P + 1) a = 25 ∧ tI t (P + 5) a = nI (1 - k % 2) ∧ tI t (P + 3) a = nI (k / 2) ∧ tI t (P + 2) a = hdI us ∧ qL x = true ∧ k < 4 else
  if m = 7 then tI t (P + 1) a = nI k ∧ (if k = 20 then tJ t (P + 6) a = unI x else if k = 21 then PTx t P ch lo hi a (unC x) else if k = 22 ∨ k = 23 ∨ k = 24 then True else
    if k = 26 then tI t (P + 5) a = nI (tgN x) ∧ 1 ≤ tgN x ∧ tgN x ≤ 3 ∧ isTg x = true ∧ ∃ u, tI t (P + 2) a = nI u ∧ us = [u] else False) else False
def cN (m k : Nat) : Nat := if m = 1 then 2 else if m = 2 then (if k = 5 then 3 else 99) else if m = 3 then (if k = 13 then 5 else if k = 14 then 10 else 3) else if m = 10 then 1 else if k = 26 then 8 else 99
/-- the tree x as parts: m: 1 segment(s), 2 selector(s), 3 formula(s), 5, 6 the two of a comparison, 7 operand, 8 argument, 10 a path's inside; its parts lie in F -/
def QM (t : Ht) (P ch lo hi : Nat) : QF → Nat → (Nat → Prop) → List Nat → Prop
  | .append x y, m, F, as => if m = 6 then ∃ u v, as = [u, v] ∧ isTg x = true ∧ isTg y = true ∧ (∃ F1, (∀ z, F1 z → F z) ∧ QM t P ch lo hi x 7 F1 [u]) ∧ (∃ F1, (∀ z, F1 z → F z) ∧ QM t P ch lo hi y 7 F1 [v]) else
    ∃ u r, as = u :: r ∧ isTg x = true ∧ tI t (P + 4) u = hdI r ∧ (∃ F1, (∀ z, F1 z → F z) ∧ F1 u ∧ (∀ z ∈ r, ¬ F1 z) ∧ QM t P ch lo hi x m F1 [u]) ∧ QM t P ch lo hi y m F r
  | .tag k x, m, F, as => if m = 5 then QM t P ch lo hi x 6 F as else if m = 8 then isTg x = true ∧ QM t P ch lo hi x 7 F as else if m = 7 ∧ k = 25 then isTg x = true ∧ QM t P ch lo hi x 10 F as else
    ∃ a us F1, as = [a] ∧ F a ∧ (∀ z, F1 z → F z) ∧ ¬ F1 a ∧ HM t P ch lo hi m k x a us ∧ (cN m k = 99 ∨ QM t P ch lo hi x (cN m k) F1 us)
  | _, _, _, as => as = []
/-- a part in another heap: its text may have moved -/
def SPa (t t' : Ht) (P sh z : Nat) : Prop := tI t' (P + 1) z = tI t (P + 1) z ∧ tI t' (P + 2) z = (if tI t (P + 1) z = 1 ∨ tI t (P + 1) z = 21 then tI t (P + 2) z - nI sh else tI t (P + 2) z) ∧ tI t' (P + 3) z = tI t (P + 3) z ∧ tI t' (P + 5) z = tI t (P + 5) z ∧ tJ t' (P + 6) z = tJ t (P + 6) z ∧ tJ t' (P + 7) z = tJ t (P + 7) z ∧ tJ t' (P + 8) z = tJ t (P + 8) z
section QMF
variable {t t' : Ht} {P ch lo hi lo' hi' sh : Nat}
theorem nI_sub {p s : Nat} (h : s ≤ p) : nI p - nI s = nI (p - s) := by
  have := nI_subA s (p - s)
  rwa [show s + (p - s) = p by omega] at this
theorem PTx.map {a : Nat} {cs : List Nat} (h : PTx t P ch lo hi a cs) (hk : tI t (P + 1) a = 1 ∨ tI t (P + 1) a = 21) (hs : SPa t t' P sh a) (hch : ∀ p cs, CH t ch p cs lo hi → CH t' ch (p - sh) cs lo' hi' ∧ sh ≤ p) : PTx t' P ch lo' hi' a cs := by
  obtain ⟨p, h1, h2, h3, h4⟩ := h
  obtain ⟨g1, g2⟩ := hch p cs h3
  exact ⟨p - sh, by rw [hs.2.1, if_pos hk, h1, nI_sub g2], hs.2.2.1.trans h2, g1, h4⟩
theorem HM.map {m k a : Nat} {x : QF} {us : List Nat} (h : HM t P ch lo hi m k x a us) (hs : SPa t t' P sh a) (hch : ∀ p cs, CH t ch p cs lo hi → CH t' ch (p - sh) cs lo' hi' ∧ sh ≤ p) : HM t' P ch lo' hi' m k x a us := by
  have hs' := hs
  obtain ⟨s1, s2, s3, s5, j6, j7, j8⟩ := hs
  unfold HM at h ⊢
  rw [s1, s3, s5, j6]
  by_cases m1 : m = 1
  · rw [if_pos m1] at h ⊢
    obtain ⟨a1, a2, a3, a4⟩ := h
    exact ⟨a1, a2, by rw [s2, if_neg (by rw [a1]; decide)]; exact a3, a4⟩
  rw [if_neg m1] at h ⊢
  by_cases m2 : m = 2
  · rw [if_pos m2] at h ⊢
    obtain ⟨a1, h⟩ := h
    refine ⟨a1, ?_⟩
    by_cases k1 : k = 1
    · rw [if_pos k1] at h ⊢; exact h.map (by rw [a1, k1]; decide) hs' hch
    rw [if_neg k1] at h ⊢
    by_cases k2 : k = 2
    · rw [if_pos k2]; trivial
    rw [if_neg k2] at h ⊢
    by_cases k3 : k = 3
    · rw [if_pos k3] at h ⊢; exact h
    rw [if_neg k3] at h ⊢
    by_cases k4 : k = 4
    · rw [if_pos k4] at h ⊢
      unfold sliM at h ⊢
      split at h
      · rw [s5, j6, j7, j8]; exact h
      · exact h.elim
    rw [if_neg k4] at h ⊢
    by_cases k5 : k = 5
    · rw [if_pos k5] at h ⊢
      have e2 : tI t' (P + 2) a = tI t (P + 2) a := by
        rw [s2, if_neg (by rw [a1, k5]; decide)]
      rw [e2]; exact h
    rw [if_neg k5] at h
    exact h.elim
  rw [if_neg m2] at h ⊢
  by_cases m3 : m = 3
  · rw [if_pos m3] at h ⊢
    obtain ⟨a1, h⟩ := h
    refine ⟨a1, ?_⟩
    have key : k = 10 ∨ k = 11 ∨ k = 12 ∨ k = 13 ∨ k = 14 := by
      by_cases k1 : k = 10 ∨ k = 11
      · omega
      rw [if_neg k1] at h
      by_cases k2 : k = 12
      · omega
      rw [if_neg k2] at h
      by_cases k3 : k = 13
      · omega
      rw [if_neg k3] at h
      by_cases k4 : k = 14
      · omega
      rw [if_neg k4] at h
      exact h.elim
    have e2 : tI t' (P + 2) a = tI t (P + 2) a := by
      rw [s2, if_neg (by rw [a1]; rcases key with rfl | rfl | rfl | rfl | rfl <;> decide)]
    rw [e2]
    exact h
  rw [if_neg m3] at h ⊢
  by_cases m10 : m = 10
  · rw [if_pos m10] at h ⊢
    have e2 : tI t' (P + 2) a = tI t (P + 2) a := by
      rw [s2, if_neg (by rw [h.1]; decide)]
    rw [e2]; exact h
  rw [if_neg m10] at h ⊢
  by_cases m7 : m = 7
  · rw [if_pos m7] at h ⊢
    obtain ⟨a1, h⟩ := h
    refine ⟨a1, ?_⟩
    by_cases k1 : k = 20
    · rw [if_pos k1] at h ⊢; exact h
    rw [if_neg k1] at h ⊢
    by_cases k2 : k = 21
    · rw [if_pos k2] at h ⊢; exact h.map (by rw [a1, k2]; decide) hs' hch
    rw [if_neg k2] at h ⊢
    by_cases k3 : k = 22 ∨ k = 23 ∨ k = 24
    · rw [if_pos k3]; trivial
    rw [if_neg k3] at h ⊢
    by_cases k4 : k = 26
    · rw [if_pos k4] at h ⊢
      have e2 : tI t' (P + 2) a = tI t (P + 2) a := by
        rw [s2, if_neg (by rw [a1, k4]; decide)]
      rw [e2]; exact h
    rw [if_neg k4] at h
    exact h.elim
  rw [if_neg m7] at h
  exact h.elim
/-- the same parts in another heap -/
theorem QM.map (hch : ∀ p cs, CH t ch p cs lo hi → CH t' ch (p - sh) cs lo' hi' ∧ sh ≤ p) : ∀ (x : QF) (m : Nat) (F : Nat → Prop) (as : List Nat), QM t P ch lo hi x m F as → (∀ z, F z → SPa t t' P sh z) → (∀ z, F z → (isTg x = true → m ≠ 5 → z ∉ as) → tI t' (P + 4) z = tI t (P + 4) z) → QM t' P ch lo' hi' x m F as := by
  intro x
  induction x with
  | append x y ihx ihy =>
    intro m F as h hs hn
    have hn' : ∀ z, F z → tI t' (P + 4) z = tI t (P + 4) z := fun z hz => hn z hz (fun w => by cases w)
    unfold QM at h ⊢
    by_cases m6 : m = 6
    · rw [if_pos m6] at h ⊢
      obtain ⟨u, v, q1, y1, y2, ⟨F1, q2, q5⟩, ⟨F2, q6, q9⟩⟩ := h
      exact ⟨u, v, q1, y1, y2, ⟨F1, q2, ihx _ _ _ q5 (fun z z1 => hs z (q2 z z1)) (fun z z1 _ => hn' z (q2 z z1))⟩, ⟨F2, q6, ihy _ _ _ q9 (fun z z1 => hs z (q6 z z1)) (fun z z1 _ => hn' z (q6 z z1))⟩⟩
    rw [if_neg m6] at h ⊢
    obtain ⟨u, r, q1, qt, qn, ⟨F1, q2, q3, q4, q5⟩, q6⟩ := h
    exact ⟨u, r, q1, qt, (hn' u (q2 u q3)).trans qn, ⟨F1, q2, q3, q4, ihx _ _ _ q5 (fun z z1 => hs z (q2 z z1)) (fun z z1 _ => hn' z (q2 z z1))⟩, ihy _ _ _ q6 hs (fun z hz _ => hn' z hz)⟩
  | tag k x ih =>
    intro m F as h hs hn
    unfold QM at h ⊢
    by_cases m5 : m = 5
    · rw [if_pos m5] at h ⊢; exact ih _ _ _ h hs (fun z hz _ => hn z hz (fun _ w => absurd m5 w))
    rw [if_neg m5] at h ⊢
    by_cases m8 : m = 8
    · rw [if_pos m8] at h ⊢; exact ⟨h.1, ih _ _ _ h.2 hs (fun z hz w => hn z hz (fun _ _ => w h.1 (by decide)))⟩
    rw [if_neg m8] at h ⊢
    by_cases m7 : m = 7 ∧ k = 25
    · rw [if_pos m7] at h ⊢; exact ⟨h.1, ih _ _ _ h.2 hs (fun z hz w => hn z hz (fun _ _ => w h.1 (by decide)))⟩
    rw [if_neg m7] at h ⊢
    obtain ⟨a, us, F1, q1, q2, q4, q5, q6, q7⟩ := h
    refine ⟨a, us, F1, q1, q2, q4, q5, q6.map (hs a q2) hch, q7.imp id (fun q => ih _ _ _ q (fun z z1 => hs z (q4 z z1)) (fun z z1 _ => hn z (q4 z z1) (fun _ _ w => ?_)))⟩
    rw [q1] at w
    rw [List.mem_singleton.mp w] at z1
    exact q5 z1
  | _ => intro m F as h _ _; exact h
theorem QM.wide : ∀ (x : QF) (m : Nat) (F F' : Nat → Prop) (as : List Nat), QM t P ch lo hi x m F as → (∀ z, F z → F' z) → QM t P ch lo hi x m F' as := by
  intro x
  induction x with
  | append x y ihx ihy =>
    intro m F F' as h hf
    unfold QM at h ⊢
    by_cases m6 : m = 6
    · rw [if_pos m6] at h ⊢
      obtain ⟨u, v, q1, y1, y2, ⟨F1, q2, q5⟩, ⟨F2, q6, q9⟩⟩ := h
      exact ⟨u, v, q1, y1, y2, ⟨F1, fun z w => hf z (q2 z w), q5⟩, ⟨F2, fun z w => hf z (q6 z w), q9⟩⟩
    rw [if_neg m6] at h ⊢
    obtain ⟨u, r, q1, qt, qn, ⟨F1, q2, q3⟩, q6⟩ := h
    exact ⟨u, r, q1, qt, qn, ⟨F1, fun z w => hf z (q2 z w), q3⟩, ihy _ _ _ _ q6 hf⟩
  | tag k x ih =>
    intro m F F' as h hf
    unfold QM at h ⊢
    by_cases m5 : m = 5
    · rw [if_pos m5] at h ⊢; exact ih _ _ _ _ h hf
    rw [if_neg m5] at h ⊢
    by_cases m8 : m = 8
    · rw [if_pos m8] at h ⊢; exact ⟨h.1, ih _ _ _ _ h.2 hf⟩
    rw [if_neg m8] at h ⊢
    by_cases m7 : m = 7 ∧ k = 25
    · rw [if_pos m7] at h ⊢; exact ⟨h.1, ih _ _ _ _ h.2 hf⟩
    rw [if_neg m7] at h ⊢
    obtain ⟨a, us, F1, q1, q2, q4, q5⟩ := h
    exact ⟨a, us, F1, q1, hf a q2, fun z w => hf z (q4 z w), q5⟩
  | _ => intro m F F' as h _; exact h
theorem QM.mk {x : QF} {m k a : Nat} {us : List Nat} {F F1 : Nat → Prop} (m5 : m ≠ 5) (m8 : m ≠ 8) (m7 : m = 7 → k ≠ 25) (ha : F a) (hf : ∀ z, F1 z → F z) (hn : ¬ F1 a) (hh : HM t P ch lo hi m k x a us) (hc : cN m k = 99 ∨ QM t P ch lo hi x (cN m k) F1 us) : QM t P ch lo hi (.tag k x) m F [a] := by
  unfold QM
  rw [if_neg m5, if_neg m8, if_neg (fun z => m7 z.1 z.2)]
  exact ⟨a, us, F1, rfl, ha, hf, hn, hh, hc⟩
/-- no list's parts -/
theorem QM.nilL : ∀ (x : QF) (m : Nat) (F : Nat → Prop), qL x = true → m ≠ 6 → QM t P ch lo hi x m F [] → x = .nil := by
  intro x
  cases x with
  | nil => intros; rfl
  | append x y =>
    intro m F _ m6 h
    unfold QM at h
    rw [if_neg m6] at h
    obtain ⟨u, r, q1, _⟩ := h
    cases q1
  | _ => intro m F hq; cases hq
theorem hdI_app {r : List Nat} {v : Nat} (h : r ≠ []) : hdI (r ++ [v]) = hdI r := by
  cases r with
  | nil => exact absurd rfl h
  | cons a r => rfl
/-- one part more, hung behind the last one -/
theorem QM.app {m v : Nat} {y : QF} {F F' F2 : Nat → Prop} (m6 : m ≠ 6) (m5 : m ≠ 5) (hch : ∀ p cs, CH t ch p cs lo hi → CH t' ch p cs lo' hi') (hs : ∀ z, F z → SPa t t' P 0 z) (hv : ¬ F v) (hy : QM t' P ch lo' hi' y m F2 [v]) (hyt : isTg y = true) (hyv : F2 v) (hvn : tI t' (P + 4) v = -1) (hF : ∀ z, F z → F' z) (hF2 : ∀ z, F2 z → F' z) : ∀ (x : QF) (us : List Nat), qL x = true → QM t P ch lo hi x m F us → (∀ z, F z → us.getLast? ≠ some z → tI t' (P + 4) z = tI t (P + 4) z) → (∀ z, us.getLast? = some z → tI t' (P + 4) z = nI v) → QM t' P ch lo' hi' (qApp x y) m F' (us ++ [v]) ∧ qL (qApp x y) = true ∧ qLen (qApp x y) = qLen x + 1 := by
  have hch' : ∀ p cs, CH t ch p cs lo hi → CH t' ch (p - 0) cs lo' hi' ∧ 0 ≤ p := fun p cs h => ⟨hch p cs h, Nat.zero_le _⟩
  have base : QM t' P ch lo' hi' (qApp .nil y) m F' ([] ++ [v]) := by
    show QM t' P ch lo' hi' (.append y .nil) m F' [v]
    unfold QM
    rw [if_neg m6]
    exact ⟨v, [], rfl, hyt, hvn, ⟨F2, hF2, hyv, (fun z hz => by cases hz), hy⟩, by unfold QM; rfl⟩
  intro x
  induction x with
  | nil =>
    intro us _ h _ _
    have h0 : us = [] := h
    subst h0
    exact ⟨base, rfl, rfl⟩
  | append x1 y1 _ ihy =>
    intro us hq h hn hl
    have hq1 : qL y1 = true := hq
    unfold QM at h
    rw [if_neg m6] at h
    obtain ⟨u, r, rfl, qt, qn, ⟨F1, q2, q3, q4, q5⟩, q6⟩ := h
    have vF : ∀ z, F1 z → z ≠ v := fun z hz e => hv (by rw [← e]; exact q2 z hz)
    cases r with
    | nil =>
      have e1 := QM.nilL _ _ _ hq1 m6 q6
      subst e1
      have x1' : QM t' P ch lo' hi' x1 m F1 [u] := QM.map hch' _ _ _ _ q5 (fun z z1 => hs z (q2 z z1)) (fun z z1 w => hn z (q2 z z1) (fun e => by
        have := w qt m5
        simp at e
        exact this (by simp [e])))
      refine ⟨?_, rfl, rfl⟩
      show QM t' P ch lo' hi' (.append x1 (.append y .nil)) m F' (u :: [v])
      unfold QM
      rw [if_neg m6]
      exact ⟨u, [v], rfl, qt, hl u rfl, ⟨F1, fun z z1 => hF z (q2 z z1), q3, fun z hz z1 => (vF z z1) (List.mem_singleton.mp hz), x1'⟩, base⟩
    | cons u2 r2 =>
      have glt : (u :: u2 :: r2).getLast? = (u2 :: r2).getLast? := by simp
      obtain ⟨w, hw⟩ : ∃ w, (u2 :: r2).getLast? = some w := by
        cases hc : (u2 :: r2).getLast? with
        | none => simp at hc
        | some w => exact ⟨w, rfl⟩
      have hwm : w ∈ u2 :: r2 := List.mem_of_getLast? hw
      have hne : ∀ z, F1 z → (u :: u2 :: r2).getLast? ≠ some z := fun z hz e => by
        rw [glt, hw] at e
        injection e with e
        exact q4 w hwm (by rw [e]; exact hz)
      have x1' : QM t' P ch lo' hi' x1 m F1 [u] := QM.map hch' _ _ _ _ q5 (fun z z1 => hs z (q2 z z1)) (fun z z1 _ => hn z (q2 z z1) (hne z z1))
      obtain ⟨g1, g2, g3⟩ := ihy (u2 :: r2) hq1 q6 (fun z hz hz2 => hn z hz (by rw [glt]; exact hz2)) (fun z hz => hl z (by rw [glt]; exact hz))
      refine ⟨?_, g2, by show qLen (qApp y1 y) + 1 = qLen y1 + 1 + 1; rw [g3]⟩
      show QM t' P ch lo' hi' (.append x1 (qApp y1 y)) m F' (u :: (u2 :: r2 ++ [v]))
      unfold QM
      rw [if_neg m6]
      refine ⟨u, u2 :: r2 ++ [v], rfl, qt, ?_, ⟨F1, fun z z1 => hF z (q2 z z1), q3, fun z hz z1 => ?_, x1'⟩, g1⟩
      · rw [hn u (q2 u q3) (hne u q3), qn]; rfl
      · rcases List.mem_append.mp hz with hz | hz
        · exact q4 z hz z1
        · exact vF z z1 (List.mem_singleton.mp hz)
  | _ => intro us hq; cases hq
end QMF
