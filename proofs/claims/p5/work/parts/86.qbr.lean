/-! BRACKETS, by the component -/
/-- as QX, but for the cells of X -/
def QXe (X : List Nat) (qr r ch : Nat) (t t' : Ht) : Prop := tN t ≤ tN t' ∧ (∀ x, x < tN t → x ∉ X → tK t' x = tK t x ∧ tL t' x = tL t x ∧ (∀ k, tR t' x k = tR t x k) ∧ (∀ k, tJ t' x k = tJ t x k)) ∧ (∀ x k, x < tN t → x ∉ X → x ≠ ch → (x ≠ r ∨ (k ≠ 2 ∧ k ≠ 4)) → (x ≠ qr ∨ (k ≠ 1 ∧ k ≠ 2 ∧ k ≠ 3)) → tI t' x k = tI t x k)
section QBR
variable {C : Cx} {d E : Nat} {Post : OutT → Ht → Prop} {t t1 t' : Ht} {qr r tp ch : Nat} {b : By} {n i o f : Nat} {L : LT}
theorem QXe.rx {X : List Nat} (h : QX qr r ch t t') : QXe X qr r ch t t' := ⟨h.1, fun x hx _ => h.2.1 x hx, fun x k hx _ => h.2.2 x k hx⟩
theorem QXe.trans {X : List Nat} (h : QXe X qr r ch t t1) (g : QXe X qr r ch t1 t') : QXe X qr r ch t t' := by
  obtain ⟨h1, h2, h3⟩ := h
  obtain ⟨g1, g2, g3⟩ := g
  refine ⟨by omega, fun x hx z => ?_, fun x k hx z z1 z2 z3 => (g3 x k (by omega) z z1 z2 z3).trans (h3 x k hx z z1 z2 z3)⟩
  obtain ⟨a1, a2, a3, a4⟩ := h2 x hx z
  obtain ⟨b1, b2, b3, b4⟩ := g2 x (by omega) z
  exact ⟨b1.trans a1, b2.trans a2, fun k => (b3 k).trans (a3 k), fun k => (b4 k).trans (a4 k)⟩
theorem QXe.of {X : List Nat} (hN : tN t ≤ tN t') (hs : ∀ x, x < tN t → x ∉ X → sameAt t t' x) : QXe X qr r ch t t' :=
  ⟨hN, fun x hx z => ⟨(hs x hx z).1, (hs x hx z).2.1, (hs x hx z).2.2.2.2, (hs x hx z).2.2.2.1⟩, fun x k hx z _ _ _ => (hs x hx z).2.2.1 k⟩
/-- as QXe.trans; the second may change what came with the first -/
theorem QXe.up {X Y : List Nat} (h : QXe X qr r ch t t1) (g : QXe Y qr r ch t1 t') (hY : ∀ x ∈ Y, x ∈ X ∨ tN t ≤ x) : QXe X qr r ch t t' := by
  obtain ⟨h1, h2, h3⟩ := h
  obtain ⟨g1, g2, g3⟩ := g
  have hh : ∀ x, x < tN t → x ∉ X → x ∉ Y := fun x hx z y => by
    rcases hY x y with w | w
    · exact z w
    · omega
  refine ⟨by omega, fun x hx z => ?_, fun x k hx z z1 z2 z3 => (g3 x k (by omega) (hh x hx z) z1 z2 z3).trans (h3 x k hx z z1 z2 z3)⟩
  obtain ⟨a1, a2, a3, a4⟩ := h2 x hx z
  obtain ⟨b1, b2, b3, b4⟩ := g2 x (by omega) (hh x hx z)
  exact ⟨b1.trans a1, b2.trans a2, fun k => (b3 k).trans (a3 k), fun k => (b4 k).trans (a4 k)⟩
theorem QXe.x (h : QXe [] qr r ch t t') : QX qr r ch t t' := ⟨h.1, fun x hx => h.2.1 x hx (by simp), fun x k hx => h.2.2 x k hx (by simp)⟩
theorem QXe.same {X : List Nat} (h : QXe X qr r ch t t') {x : Nat} (h0 : x < tN t) (hX : x ∉ X) (h1 : x ≠ qr) (h2 : x ≠ r) (h3 : x ≠ ch) : sameAt t t' x := by
  obtain ⟨a1, a2, a3, a4⟩ := h.2.1 x h0 hX
  exact ⟨a1, a2, fun k => h.2.2 x k h0 hX h3 (Or.inl h2) (Or.inl h1), a4, a3⟩
/-- the fault's frame behind such a one -/
def QDe (X : List Nat) (qr r ch : Nat) (t t' : Ht) (w p : Nat) : Prop := (tN t ≤ tN t' ∧ (∀ x, x < tN t → x ∉ X → tK t' x = tK t x ∧ tL t' x = tL t x ∧ (∀ k, tR t' x k = tR t x k) ∧ (∀ k, tJ t' x k = tJ t x k)) ∧ (∀ x k, x < tN t → x ∉ X → x ≠ ch → (x ≠ r ∨ (k ≠ 2 ∧ k ≠ 4 ∧ k ≠ 5 ∧ k ≠ 6)) → (x ≠ qr ∨ (k ≠ 1 ∧ k ≠ 2 ∧ k ≠ 3)) → tI t' x k = tI t x k)) ∧ tI t' r 5 = nI w ∧ tI t' r 6 = nI p
theorem QDe.of {X : List Nat} {w p : Nat} (h : QXe X qr r ch t t1) (g : QD qr r ch t1 t' w p) : QDe X qr r ch t t' w p := by
  obtain ⟨h1, h2, h3⟩ := h
  obtain ⟨⟨g1, g2, g3⟩, g4, g5⟩ := g
  refine ⟨⟨by omega, fun x hx z => ?_, fun x k hx z z1 z2 z3 => (g3 x k (by omega) z1 z2 z3).trans (h3 x k hx z z1 (z2.imp id (fun y => ⟨y.1, y.2.1⟩)) z3)⟩, g4, g5⟩
  obtain ⟨a1, a2, a3, a4⟩ := h2 x hx z
  obtain ⟨b1, b2, b3, b4⟩ := g2 x (by omega)
  exact ⟨b1.trans a1, b2.trans a2, fun k => (b3 k).trans (a3 k), fun k => (b4 k).trans (a4 k)⟩
theorem QDe.up {X Y : List Nat} {w p : Nat} (h : QXe X qr r ch t t1) (g : QDe Y qr r ch t1 t' w p) (hY : ∀ x ∈ Y, x ∈ X ∨ tN t ≤ x) : QDe X qr r ch t t' w p := by
  obtain ⟨h1, h2, h3⟩ := h
  obtain ⟨⟨g1, g2, g3⟩, g4, g5⟩ := g
  have hh : ∀ x, x < tN t → x ∉ X → x ∉ Y := fun x hx z y => by
    rcases hY x y with w | w
    · exact z w
    · omega
  refine ⟨⟨by omega, fun x hx z => ?_, fun x k hx z z1 z2 z3 => (g3 x k (by omega) (hh x hx z) z1 z2 z3).trans (h3 x k hx z z1 (z2.imp id (fun y => ⟨y.1, y.2.1⟩)) z3)⟩, g4, g5⟩
  obtain ⟨a1, a2, a3, a4⟩ := h2 x hx z
  obtain ⟨b1, b2, b3, b4⟩ := g2 x (by omega) (hh x hx z)
  exact ⟨b1.trans a1, b2.trans a2, fun k => (b3 k).trans (a3 k), fun k => (b4 k).trans (a4 k)⟩
theorem QDe.x {w p : Nat} (h : QDe [] qr r ch t t' w p) : QD qr r ch t t' w p := ⟨⟨h.1.1, fun x hx => h.1.2.1 x hx (by simp), fun x k hx => h.1.2.2 x k hx (by simp)⟩, h.2⟩
/-- one object comes to a list l (of the kind kd): the list after, what else changed -/
theorem qadd {l c e u kd : Nat} {us : List Nat} (hl : LsA C t l us c e) (hc : 2 * c ≤ 3 * us.length + 20) (hlen : us.length ≤ 600) (hus : ∀ z ∈ us, tK t z = kd ∧ z < tN t) (hu : tK t u = kd ∧ u < tN t) (hk : kd = 9 ∨ kd = 10 ∨ kd = 11)
    (k : ∀ t' c' e', LsA C t' l (us ++ [u]) c' e' → 2 * c' ≤ 3 * (us ++ [u]).length + 20 → 0 < c' → (∀ x, x < tN t → x ≠ l → (0 < c → x ≠ e) → sameAt t t' x) → ((0 < c ∧ e' = e ∧ c' = c ∧ tN t' = tN t ∧ tU t' = tU t) ∨ (e' = tN t ∧ tN t' = tN t + 1 ∧ tU t' ≤ tU t + 910 ∧ (us.length = 0 → c = 0 → tU t' = tU t + 10))) → Post (.inl (some (svI 1))) t') : CalG C mtab (d + 8) 273 [svR (some l), svR (some u)] t Post := by
  have kE' : kE kd := by unfold kE; omega
  refine s273 (d := d + 1) hl (by omega) (fun y hy => ⟨(hus y hy).2, by rw [(hus y hy).1]; exact kE'⟩) hu.2 (by rw [hu.1]; exact kE') (fun t' c' e' g1 g2 => ?_)
  obtain ⟨f1, f2⟩ := g2
  have hL : (us ++ [u]).length = us.length + 1 := by simp
  rcases f2 with ⟨q1, q2, q3, q4, q5⟩ | ⟨q1, q2, q3, q4, q5⟩
  · exact k t' c' e' g1 (by rw [hL]; omega) (by omega) f1 (Or.inl ⟨by omega, q3, q2, q4, q5⟩)
  · have hg : gr c ≤ 910 ∧ 2 * gr c ≤ 3 * c + 20 ∧ 0 < gr c := by unfold gr; split <;> omega
    refine k t' c' e' g1 (by rw [hL]; omega) (by omega) f1 (Or.inr ⟨q3, q4, by omega, fun z1 z2 => ?_⟩)
    rw [q5]; unfold gr; rw [if_pos z2]
end QBR
