/-! THE STATE OF THE COMPONENT'S READING OF A QUERY -/
/-- what reading may change of what was there: numbers of its readers, the buffer -/
def QX (qr r ch : Nat) (t t' : Ht) : Prop := tN t ≤ tN t' ∧ (∀ x, x < tN t → tK t' x = tK t x ∧ tL t' x = tL t x ∧ (∀ k, tR t' x k = tR t x k) ∧ (∀ k, tJ t' x k = tJ t x k)) ∧ (∀ x k, x < tN t → x ≠ ch → (x ≠ r ∨ (k ≠ 2 ∧ k ≠ 4)) → (x ≠ qr ∨ (k ≠ 1 ∧ k ≠ 2 ∧ k ≠ 3)) → tI t' x k = tI t x k)
def QY (qr r ch : Nat) (t t' : Ht) : Prop := tN t ≤ tN t' ∧ (∀ x, x < tN t → tK t' x = tK t x ∧ tL t' x = tL t x ∧ (∀ k, tR t' x k = tR t x k) ∧ (∀ k, tJ t' x k = tJ t x k)) ∧ (∀ x k, x < tN t → x ≠ ch → (x ≠ r ∨ (k ≠ 2 ∧ k ≠ 4 ∧ k ≠ 5 ∧ k ≠ 6)) → (x ≠ qr ∨ (k ≠ 1 ∧ k ≠ 2 ∧ k ≠ 3)) → tI t' x k = tI t x k)
/-- a fault w at p is told -/
def QD (qr r ch : Nat) (t t' : Ht) (w p : Nat) : Prop := QY qr r ch t t' ∧ tI t' r 5 = nI w ∧ tI t' r 6 = nI p
def CQ (t : Ht) (qr r tp ch : Nat) (b : By) (n i o : Nat) (L : LT) : Prop := RB t r tp ch b n i ∧ i ≤ n ∧ (tK t qr = 6 ∧ tR t qr 0 = some r ∧ tI t qr 1 = nI o ∧ tI t qr 2 = nI L.1 ∧ (L.1 ≠ 0 → tI t qr 3 = nI L.2)) ∧ qr < tN t ∧ o ≤ 16 ∧ L.1 ≤ 4 ∧ L.2 ≤ 1200
/-- what a reading that goes k places on may make, with something left -/
def BG (t t' : Ht) (k rc rs : Nat) : Prop := tN t' + rc ≤ tN t + 40 * k ∧ tU t' + rs ≤ tU t + 600 * k
section QST
variable {C : Cx} {d : Nat} {Post : OutT → Ht → Prop} {t t1 t' : Ht} {qr r tp ch : Nat} {b : By} {n i o : Nat} {L : LT}
theorem QX.rfl' : QX qr r ch t t := ⟨Nat.le_refl _, fun _ _ => ⟨rfl, rfl, fun _ => rfl, fun _ => rfl⟩, fun _ _ _ _ _ _ => rfl⟩
theorem QX.trans (h : QX qr r ch t t1) (g : QX qr r ch t1 t') : QX qr r ch t t' := by
  obtain ⟨h1, h2, h3⟩ := h
  obtain ⟨g1, g2, g3⟩ := g
  refine ⟨by omega, fun x hx => ?_, fun x k hx z1 z2 z3 => (g3 x k (by omega) z1 z2 z3).trans (h3 x k hx z1 z2 z3)⟩
  obtain ⟨a1, a2, a3, a4⟩ := h2 x hx
  obtain ⟨b1, b2, b3, b4⟩ := g2 x (by omega)
  exact ⟨b1.trans a1, b2.trans a2, fun k => (b3 k).trans (a3 k), fun k => (b4 k).trans (a4 k)⟩
theorem QY.trans (h : QY qr r ch t t1) (g : QY qr r ch t1 t') : QY qr r ch t t' := by
  obtain ⟨h1, h2, h3⟩ := h
  obtain ⟨g1, g2, g3⟩ := g
  refine ⟨by omega, fun x hx => ?_, fun x k hx z1 z2 z3 => (g3 x k (by omega) z1 z2 z3).trans (h3 x k hx z1 z2 z3)⟩
  obtain ⟨a1, a2, a3, a4⟩ := h2 x hx
  obtain ⟨b1, b2, b3, b4⟩ := g2 x (by omega)
  exact ⟨b1.trans a1, b2.trans a2, fun k => (b3 k).trans (a3 k), fun k => (b4 k).trans (a4 k)⟩
theorem QX.y (h : QX qr r ch t t') : QY qr r ch t t' := ⟨h.1, h.2.1, fun x k h1 h2 h3 h4 => h.2.2 x k h1 h2 (h3.imp id (fun z => ⟨z.1, z.2.1⟩)) h4⟩
theorem QX.rx (h : RX r ch t t') : QX qr r ch t t' := ⟨h.1, h.2.1, fun x k h1 h2 h3 _ => h.2.2 x k h1 h2 h3⟩
theorem QY.ry (h : RY r ch t t') : QY qr r ch t t' := ⟨h.1, h.2.1, fun x k h1 h2 h3 _ => h.2.2 x k h1 h2 h3⟩
theorem QX.I {k : Nat} {x : Int32} (hk : k = 1 ∨ k = 2 ∨ k = 3) : QX qr r ch t (sI t qr k x) := by
  refine ⟨Nat.le_refl _, fun _ _ => ⟨rfl, rfl, fun _ => rfl, fun _ => rfl⟩, fun y j _ _ _ z => sI_at ?_⟩
  rintro ⟨rfl, rfl⟩
  rcases z with z | z
  · exact z rfl
  · omega
/-- cells that came later may change -/
theorem QX.up (h : QX qr r ch t t1) (hN : tN t ≤ tN t') (hs : ∀ x, x < tN t → sameAt t1 t' x) : QX qr r ch t t' := by
  obtain ⟨h1, h2, h3⟩ := h
  refine ⟨hN, fun x hx => ?_, fun x k hx z1 z2 z3 => ((hs x hx).2.2.1 k).trans (h3 x k hx z1 z2 z3)⟩
  obtain ⟨a1, a2, a3, a4⟩ := h2 x hx
  have g := hs x hx
  exact ⟨g.1.trans a1, g.2.1.trans a2, fun k => (g.2.2.2.2 k).trans (a3 k), fun k => (g.2.2.2.1 k).trans (a4 k)⟩
theorem QX.of (hN : tN t ≤ tN t') (hs : ∀ x, x < tN t → sameAt t t' x) : QX qr r ch t t' := QX.rfl'.up hN hs
theorem QX.same (h : QX qr r ch t t') {x : Nat} (h0 : x < tN t) (h1 : x ≠ qr) (h2 : x ≠ r) (h3 : x ≠ ch) : sameAt t t' x := by
  obtain ⟨a1, a2, a3, a4⟩ := h.2.1 x h0
  exact ⟨a1, a2, fun k => h.2.2 x k h0 h3 (Or.inl h2) (Or.inl h1), a4, a3⟩
theorem QD.of {w p : Nat} (h : QX qr r ch t t1) (g : QD qr r ch t1 t' w p) : QD qr r ch t t' w p := ⟨h.y.trans g.1, g.2⟩
theorem BG.of {k k' rc rs rc' rs' : Nat} (h : BG t t1 k rc rs) (g : BG t1 t' k' rc' rs') (hk : k + k' ≤ k + k') {K RC RS : Nat} (h1 : k + k' ≤ K) (h2 : RC + 40 * (k + k') ≤ rc + rc' + 40 * K) (h3 : RS + 600 * (k + k') ≤ rs + rs' + 600 * K) : BG t t' K RC RS := by
  unfold BG at h g ⊢
  omega
theorem CQ.ne (h : CQ t qr r tp ch b n i o L) : qr ≠ r ∧ qr ≠ ch ∧ r ≠ ch ∧ qr ≠ tp ∧ tp ≠ ch ∧ tp ≠ r := by
  obtain ⟨hB, -, ⟨v1, -⟩, -⟩ := h
  refine ⟨fun e => ?_, fun e => ?_, hB.ne.1, fun e => ?_, hB.ne.2.1, hB.ne.2.2⟩
  · rw [e, hB.1.1] at v1; cases v1
  · rw [e, hB.2.2.1] at v1; cases v1
  · rw [e, hB.1.2.2.1] at v1; cases v1
/-- the reader has gone on -/
theorem CQ.x {j : Nat} (h : CQ t qr r tp ch b n i o L) (hx : RX r ch t t') (hj : tI t' r 4 = nI j) (hjn : j ≤ n) : CQ t' qr r tp ch b n j o L := by
  obtain ⟨n1, n2, n3, n4, n5, n6⟩ := h.ne
  obtain ⟨hB, hi, ⟨v1, v2, v3, v4, v5⟩, hq, ho, hl⟩ := h
  have hn : n ≤ 1200 := hB.1.2.2.2.2.2.2.1
  have sv := hx.same hq n1 n2
  exact ⟨hB.x hx hj (by omega), hjn, ⟨sv.1.trans v1, (sv.2.2.2.2 0).trans v2, (sv.2.2.1 1).trans v3, (sv.2.2.1 2).trans v4, fun z => (sv.2.2.1 3).trans (v5 z)⟩, by have := hx.1; omega, ho, hl⟩
theorem CQ.to {j : Nat} (h : CQ t qr r tp ch b n i o L) (hj : j ≤ n) : CQ (sI t r 4 (nI j)) qr r tp ch b n j o L := h.x (RX.I (Or.inr rfl)) (by simp [ht]) hj
/-- the readers' cells stand -/
theorem CQ.old (h : CQ t qr r tp ch b n i o L) (hN : tN t ≤ tN t') (hs : ∀ x, x < tN t → (x = qr ∨ x = r ∨ x = ch ∨ x = tp) → sameAt t t' x) : CQ t' qr r tp ch b n i o L := by
  obtain ⟨⟨⟨g1, g2, g3, g4, g5, g6, g7, g8, g9, g10⟩, g11, g12, g13, g14, g15, g16⟩, hi, ⟨v1, v2, v3, v4, v5⟩, hq, ho, hl⟩ := h
  have sr := hs r g15 (Or.inr (Or.inl rfl))
  have sv := hs qr hq (Or.inl rfl)
  have sc := hs ch g14 (Or.inr (Or.inr (Or.inl rfl)))
  have st := hs tp g16 (Or.inr (Or.inr (Or.inr rfl)))
  exact ⟨⟨⟨sr.1.trans g1, (sr.2.2.2.2 0).trans g2, st.1.trans g3, st.2.1.trans g4, (sr.2.2.1 3).trans g5, (sr.2.2.1 4).trans g6, g7, g8, g9, fun k hk => by rw [st.2.2.1 k]; exact g10 k hk⟩, (sr.2.2.2.2 1).trans g11, sc.1.trans g12, sc.2.1.trans g13, by omega, by omega, by omega⟩, hi, ⟨sv.1.trans v1, (sv.2.2.2.2 0).trans v2, (sv.2.2.1 1).trans v3, (sv.2.2.1 2).trans v4, fun z => (sv.2.2.1 3).trans (v5 z)⟩, by omega, ho, hl⟩
/-- numbers of the query's reader are written -/
theorem CQ.qw {L' : LT} {o' k : Nat} {x : Int32} (h : CQ t qr r tp ch b n i o L) (h1 : tI (sI t qr k x) qr 1 = nI o') (h2 : tI (sI t qr k x) qr 2 = nI L'.1) (h3 : L'.1 ≠ 0 → tI (sI t qr k x) qr 3 = nI L'.2) (ho : o' ≤ 16) (hl : L'.1 ≤ 4 ∧ L'.2 ≤ 1200) : CQ (sI t qr k x) qr r tp ch b n i o' L' := by
  obtain ⟨n1, n2, n3, n4, n5, n6⟩ := h.ne
  obtain ⟨⟨⟨g1, g2, g3, g4, g5, g6, g7, g8, g9, g10⟩, g11, g12, g13, g14, g15, g16⟩, hi, ⟨v1, v2, v3, v4, v5⟩, hq, -, -⟩ := h
  exact ⟨⟨⟨g1, g2, g3, g4, (sI_at (fun z => n1 z.1.symm)).trans g5, (sI_at (fun z => n1 z.1.symm)).trans g6, g7, g8, g9, fun k hk => by rw [sI_at (fun z => n4 z.1.symm)]; exact g10 k hk⟩, g11, g12, g13, g14, g15, g16⟩, hi, ⟨v1, v2, h1, h2, h3⟩, hq, ho, hl⟩
theorem CQ.bad {w p : Nat} {t1 : Ht} (h : CQ t qr r tp ch b n i o L) (hx : RX r ch t t1) (hN : tN t1 = tN t) (hU : tU t1 = tU t) : QD qr r ch t (flH t1 r (nI w) (nI p)) w p ∧ tN (flH t1 r (nI w) (nI p)) = tN t + 1 ∧ tU (flH t1 r (nI w) (nI p)) = tU t + 6 := by
  obtain ⟨g1, g2, g3, g4, g5⟩ := BD.fl (w := w) (p := p) hx hN hU h.1.2.2.2.2.2.1
  exact ⟨⟨QY.ry g1, g4, g5⟩, g2, g3⟩
theorem CQ.bd {w p : Nat} (_h : CQ t qr r tp ch b n i o L) (hB : BD r ch t t' w p) : QD qr r ch t t' w p := ⟨QY.ry hB.1, hB.2.2.2.1, hB.2.2.2.2⟩
theorem CQ.in {k : Nat} {y : Int32} (h : CQ t qr r tp ch b n i o L) : tR (sI t r k y) qr 0 = some r := h.2.2.1.2.1
/-- a fault here -/
theorem CQ.fl {w : Nat} {x y : Int32} (h : CQ t qr r tp ch b n i o L) (hx : x = nI w) (hy : y = nI i) {K : Option SV → Ht → Prop} (k : ∀ t', QD qr r ch t t' w i → BG t t' (n + 1 - i) 39 590 → Post (.inr (200, 0)) t') : CalG C mtab (d + 1) 83 [svR (some r), svI x, svI y] t (aftV K (fun k q t => Post (.inr (k, q)) t)) := by
  subst hx hy
  obtain ⟨g1, g2, g3⟩ := h.bad (w := w) (p := i) RX.rfl' rfl rfl
  have hin := h.2.1
  exact c83 h.1.1.1 (k _ g1 ⟨by show tN t + 1 + 39 ≤ _; omega, by show tU t + 6 + 590 ≤ _; omega⟩)
/-- note -/
theorem noteL_le {k p : Nat} (h : L.1 ≤ 4 ∧ L.2 ≤ 1200) (hk : k ≤ 4) (hp : p ≤ 1200) : (noteL L k p).1 ≤ 4 ∧ (noteL L k p).2 ≤ 1200 := by
  unfold noteL
  split
  · exact ⟨hk, hp⟩
  · exact h
theorem q50 {k p : Nat} (h : CQ t qr r tp ch b n i o L) (hk : k ≤ 4) (hp : p ≤ 1200) (kk : ∀ t', CQ t' qr r tp ch b n i o (noteL L k p) → QX qr r ch t t' → tN t' = tN t → tU t' = tU t → Post (.inl none) t') : CalG C mtab (d + 1) 50 [svR (some qr), svI (nI k), svI (nI p)] t Post := by
  have hv := h.2.2.1
  have hl := h.2.2.2.2.2
  have two : ∀ {z : L.1 = 0 ∨ p < L.2}, Post (.inl none) (sI (sI t qr 2 (nI k)) qr 3 (nI p)) := fun {z} => by
    have e : noteL L k p = (k, p) := if_pos z
    have h1 : CQ (sI t qr 2 (nI k)) qr r tp ch b n i o (k, 0) ∨ True := Or.inr trivial
    refine kk _ ?_ ((QX.I (Or.inr (Or.inl rfl))).trans (QX.I (Or.inr (Or.inr rfl)))) rfl rfl
    rw [e]
    have key : ∀ t2, CQ t2 qr r tp ch b n i o L → CQ (sI t2 qr 3 (nI p)) qr r tp ch b n i o (L.1, p) := fun t2 h2 => h2.qw ((sI_at (by omega)).trans h2.2.2.1.2.2.1) ((sI_at (by omega)).trans h2.2.2.1.2.2.2.1) (fun _ => sI_eq) h2.2.2.2.2.1 ⟨h2.2.2.2.2.2.1, hp⟩
    have key2 : ∀ t2, CQ t2 qr r tp ch b n i o (L.1, p) → tI t2 qr 3 = nI p → CQ (sI t2 qr 2 (nI k)) qr r tp ch b n i o (k, p) := fun t2 h2 h3 => h2.qw ((sI_at (by omega)).trans h2.2.2.1.2.2.1) sI_eq (fun _ => (sI_at (by omega)).trans h3) h2.2.2.2.2.1 ⟨hk, hp⟩
    have comm : sI (sI t qr 2 (nI k)) qr 3 (nI p) = sI (sI t qr 3 (nI p)) qr 2 (nI k) := by
      obtain ⟨nn, u, kk', l, ii, j, rr⟩ := t
      show (nn, u, kk', l, up2 (up2 ii qr 2 (nI k)) qr 3 (nI p), j, rr) = (nn, u, kk', l, up2 (up2 ii qr 3 (nI p)) qr 2 (nI k), j, rr)
      have : up2 (up2 ii qr 2 (nI k)) qr 3 (nI p) = up2 (up2 ii qr 3 (nI p)) qr 2 (nI k) := by
        funext x y
        unfold up2
        by_cases c1 : x = qr ∧ y = 3
        · have c2 : ¬ (x = qr ∧ y = 2) := by omega
          rw [if_pos c1, if_neg c2, if_pos c1]
        · rw [if_neg c1]
          by_cases c2 : x = qr ∧ y = 2
          · rw [if_pos c2, if_pos c2]
          · rw [if_neg c2, if_neg c2, if_neg c1]
      rw [this]
    rw [comm]
    exact key2 _ (key t h) sI_eq
  refine cal50 ?_
  unfold vc50
  rw [hv.2.2.2.1]
  refine ⟨hv.1, fun e => ⟨hv.1, hv.1, two (z := Or.inl ?_)⟩, fun e => ⟨hv.1, ?_⟩⟩
  · exact (nI_eq (b := 0) (by omega) (by decide)).mp e
  · have hl0 : L.1 ≠ 0 := fun z => e (by rw [z]; rfl)
    rw [hv.2.2.2.2 hl0]
    refine ⟨fun z => ?_, fun z => ⟨hv.1, hv.1, two (z := Or.inr ?_)⟩⟩
    · have : L.2 ≤ p := (nI_leI (by omega) (by omega)).mp z
      have e : noteL L k p = L := if_neg (by omega)
      refine kk t ?_ QX.rfl' rfl rfl
      rw [e]; exact h
    · exact Nat.not_le.mp (fun y => z (nI_le y (by omega)))
/-- enter -/
theorem q51 (h : CQ t qr r tp ch b n i o L) (hi : i < n) (k1 : o < 16 → CQ (sI (sI t qr 1 (nI (o + 1))) r 4 (nI (sk b n (i + 1)))) qr r tp ch b n (sk b n (i + 1)) (o + 1) L → QX qr r ch t (sI (sI t qr 1 (nI (o + 1))) r 4 (nI (sk b n (i + 1)))) → Post (.inl none) (sI (sI t qr 1 (nI (o + 1))) r 4 (nI (sk b n (i + 1)))))
    (k2 : o = 16 → ∀ t', QD qr r ch t t' 4 i → BG t t' (n + 1 - i) 39 590 → Post (.inr (200, 0)) t') : CalG C mtab (d + 4) 51 [svR (some qr)] t Post := by
  obtain ⟨n1, n2, n3, n4, n5, n6⟩ := h.ne
  have hv := h.2.2.1
  have hK := h.1.1.1
  have ho := h.2.2.2.2.1
  have hat := h.1.1.2.2.2.2.2.1
  refine cal51 ?_
  unfold vc51
  rw [hv.2.2.1, hv.2.1, nI_1]
  refine ⟨hv.1, fun e => ⟨hv.1, hv.1, hv.1, ?_⟩, fun e => ⟨hv.1, hv.1, hK, hK, h.fl rfl hat (k2 ?_)⟩⟩
  · have ho2 : o < 16 := by
      rcases Nat.lt_or_ge o 16 with z | z
      · exact z
      · exact absurd e (nI_nlt (a := o) (b := 16) z (by omega))
    have h1 : CQ (sI t qr 1 (nI (o + 1))) qr r tp ch b n i (o + 1) L := h.qw sI_eq ((sI_at (by omega)).trans hv.2.2.2.1) (fun z => (sI_at (by omega)).trans (hv.2.2.2.2 z)) (by omega) h.2.2.2.2.2
    have e0 : tR (sI t qr 1 (nI (o + 1))) qr 0 = some r := hv.2.1
    have hs := sk_le (b := b) (n := n) (i := i + 1) (by omega)
    rw [e0]
    refine ⟨hK, hK, hv.1, ?_⟩
    rw [h1.1.1.2.2.2.2.2.1, nI_1]
    have h2 := h1.to (j := i + 1) (by omega)
    rw [h1.in]
    refine ⟨hK, r87 h2.1.1 h2.2.1 ⟨rfl, ?_⟩⟩
    rw [sI_sI]
    exact k1 ho2 (h1.to hs) ((QX.I (Or.inl rfl)).trans (QX.rx (RX.I (Or.inr rfl))))
  · rcases Nat.lt_or_ge o 16 with z | z
    · exact absurd (nI_lt z (by decide)) e
    · omega
theorem atInt_b : (if pk b n i = 45 then true else dgt b n i) = atInt b n i := by
  unfold atInt
  by_cases e : pk b n i = 45
  · simp [e]
  · simp [e]
/-- atInt -/
theorem q53 (h : CQ t qr r tp ch b n i o L) (k : Post (.inl (some (svI (bI (atInt b n i))))) t) : CalG C mtab (d + 3) 53 [svR (some qr)] t Post := by
  have hv := h.2.2.1
  have hK := h.1.1.1
  have hb := h.1.1.2.2.2.2.2.2.2.2.1
  refine cal53 ?_
  unfold vc53
  rw [hv.2.1]
  rw [← atInt_b] at k
  refine ⟨hv.1, hK, r85 h.1.1 ⟨fun e => ⟨Or.inr rfl, ?_⟩, fun e => ⟨hv.1, ?_⟩⟩⟩
  · rw [if_pos e] at k; exact k
  · rw [hv.2.1]
    rw [if_neg e] at k
    refine ⟨hK, r85 h.1.1 (d142 hb ?_)⟩
    cases hd : dgt b n i with
    | false => rw [hd] at k; exact ⟨fun _ => ⟨Or.inl rfl, k⟩, fun z => absurd rfl z⟩
    | true => rw [hd] at k; exact ⟨fun z => absurd z (by decide), fun _ => ⟨Or.inr rfl, k⟩⟩
/-- atString -/
theorem q54 (h : CQ t qr r tp ch b n i o L) (k : Post (.inl (some (svI (bI (atStr b n i))))) t) : CalG C mtab (d + 3) 54 [svR (some qr)] t Post := by
  have hv := h.2.2.1
  have hK := h.1.1.1
  refine cal54 ?_
  unfold vc54
  rw [hv.2.1]
  unfold atStr at k
  refine ⟨hv.1, hK, r85 h.1.1 ⟨fun e => ⟨Or.inr rfl, ?_⟩, fun e => ⟨hv.1, ?_⟩⟩⟩
  · simp [e] at k; exact k
  · rw [hv.2.1]
    refine ⟨hK, r85 h.1.1 ⟨fun e2 => ⟨Or.inr rfl, ?_⟩, fun e2 => ⟨Or.inl rfl, ?_⟩⟩⟩
    · simp [e2] at k; exact k
    · simp [e, e2] at k; exact k
/-- atOperator -/
theorem q71 (h : CQ t qr r tp ch b n i o L) (k : Post (.inl (some (svI (bI (atOp b n i))))) t) : CalG C mtab (d + 3) 71 [svR (some qr)] t Post := by
  have hv := h.2.2.1
  have hK := h.1.1.1
  refine cal71 ?_
  unfold vc71
  rw [hv.2.1]
  unfold atOp at k
  refine ⟨hv.1, hK, r85 h.1.1 ⟨fun e => ⟨Or.inr rfl, ?_⟩, fun e1 => ⟨fun e => ⟨Or.inr rfl, ?_⟩, fun e2 => ⟨fun e => ⟨Or.inr rfl, ?_⟩, fun e3 => ⟨fun e => ⟨Or.inr rfl, ?_⟩, fun e4 => ⟨Or.inl rfl, ?_⟩⟩⟩⟩⟩⟩
  · simp [e] at k; exact k
  · simp [e] at k; exact k
  · simp [e] at k; exact k
  · simp [e] at k; exact k
  · simp [e1, e2, e3, e4] at k; exact k
/-- readInt -/
theorem q52 {mz : Bool} (h : CQ t qr r tp ch b n i o L) (k1 : ∀ j L' m N, inQ b n mz i L = .inl (j, L', m, N) → i < j → ∀ t', CQ t' qr r tp ch b n j o L' → QX qr r ch t t' → tN t' = tN t → tU t' = tU t → (L'.1 = 0 → N ≤ 9007199254740991) → Post (.inl (some (svJ (sgC m N)))) t')
    (k2 : ∀ w p, inQ b n mz i L = .inr (w, p) → ∀ t', QD qr r ch t t' w p → BG t t' (n + 1 - i) 39 590 → Post (.inr (200, 0)) t') : CalG C mtab (d + 3) 52 [svR (some qr), svI (bI mz)] t Post := by
  obtain ⟨n1, n2, n3, n4, n5, n6⟩ := h.ne
  have hv := h.2.2.1
  have hK := h.1.1.1
  have hin := h.2.1
  have hn : n ≤ 1200 := h.1.1.2.2.2.2.2.2.1
  refine cal52 ?_
  unfold vc52
  rw [hv.2.1]
  refine ⟨hv.1, hK, hv.1, hK, r92 h.1.1 h.2.1 (fun j m N e => p145 ?_) (fun p e => ?_)⟩
  · rw [f145_c]
    obtain ⟨l1, l2⟩ := wnS_le e
    have h1 := h.to l2
    refine ⟨fun z => ?_, fun z => ⟨hv.1, ?_⟩⟩
    · have := bI_0.mp z
      simp at this
      refine k1 j L m N ?_ l1 _ h1 (QX.rx (RX.I (Or.inr rfl))) rfl rfl (fun _ => this)
      unfold inQ; rw [e]
      show Sum.inl (j, (if 9007199254740991 < N then noteL L 3 i else L), m, N) = _
      rw [if_neg (by omega)]
    · have hb : 9007199254740991 < N := by
        by_cases y : 9007199254740991 < N
        · exact y
        · exact absurd (by simp [y, bI]) z
      rw [h.1.1.2.2.2.2.2.1]
      refine q50 (k := 3) h1 (by omega) (by omega) (fun t2 g1 g2 g3 g4 => ⟨rfl, k1 j (noteL L 3 i) m N ?_ l1 t2 g1 ((QX.rx (RX.I (Or.inr rfl))).trans g2) g3 g4 (fun z => ?_)⟩)
      · unfold inQ; rw [e]
        show Sum.inl (j, (if 9007199254740991 < N then noteL L 3 i else L), m, N) = _
        rw [if_pos hb]
      · unfold noteL at z
        split at z
        · cases z
        · rename_i y; exact absurd (Or.inl z) y
  · obtain ⟨g1, g2, g3⟩ := h.bad (w := 1) (p := p) (RX.I (r := r) (ch := ch) (x := nI p) (Or.inr rfl)) rfl rfl
    refine k2 1 p (by unfold inQ; rw [e]) _ g1 ⟨?_, ?_⟩
    · show tN t + 1 + 39 ≤ _; omega
    · show tU t + 6 + 590 ≤ _; omega
/-- takesTwice -/
theorem q65 {c : Int32} (hc : ¬ c < 0) (h : CQ t qr r tp ch b n i o L) (k1 : pk b n (sk b n i) = c → pk b n (sk b n i + 1) = c → CQ (sI t r 4 (nI (sk b n (sk b n i + 2)))) qr r tp ch b n (sk b n (sk b n i + 2)) o L → Post (.inl (some (svI 1))) (sI t r 4 (nI (sk b n (sk b n i + 2)))))
    (k2 : ¬ pk b n (sk b n i) = c → CQ (sI t r 4 (nI (sk b n i))) qr r tp ch b n (sk b n i) o L → Post (.inl (some (svI 0))) (sI t r 4 (nI (sk b n i))))
    (k3 : pk b n (sk b n i) = c → ¬ pk b n (sk b n i + 1) = c → ∀ t', QD qr r ch t t' 1 (sk b n i + 1) → tN t' = tN t + 1 → tU t' = tU t + 6 → Post (.inr (200, 0)) t') : CalG C mtab (d + 4) 65 [svR (some qr), svI c] t Post := by
  have hv := h.2.2.1
  have hK := h.1.1.1
  have hs := sk_le (b := b) h.2.1
  have h1 := h.to hs
  refine cal65 ?_
  unfold vc65
  rw [hv.2.1]
  refine ⟨hv.1, hK, r87 h.1.1 h.2.1 ⟨rfl, hv.1, ?_⟩⟩
  rw [h.in]
  refine ⟨hK, r85 h1.1.1 ⟨fun e => ⟨hv.1, ?_⟩, fun e => ⟨Or.inl rfl, k2 e h1⟩⟩⟩
  have hlt := sk_lt1 hc e
  have h2 := h.to (j := sk b n i + 1) (by omega)
  rw [h.in]
  refine ⟨hK, hK, hv.1, ?_⟩
  rw [h1.1.1.2.2.2.2.2.1, nI_1, sI_sI, h.in]
  refine ⟨hK, r88 h2.1.1 (fun e2 => ⟨rfl, hv.1, ?_⟩) (fun e2 => ?_)⟩
  · have hlt2 := (pk_nn e2 hc).1
    have hs2 := sk_le (b := b) (n := n) (i := sk b n i + 2) (by omega)
    rw [sI_sI, h.in]
    have h3 := h.to (j := sk b n i + 1 + 1) (by omega)
    refine ⟨hK, r87 h3.1.1 h3.2.1 ⟨rfl, Or.inr rfl, ?_⟩⟩
    rw [sI_sI]
    exact k1 e e2 (h.to hs2)
  · obtain ⟨g1, g2, g3⟩ := h.bad (w := 1) (p := sk b n i + 1) (RX.I (r := r) (ch := ch) (x := nI (sk b n i + 1)) (Or.inr rfl)) rfl rfl
    exact k3 e e2 _ g1 g2 g3
/-- readOperator -/
theorem q73 (h : CQ t qr r tp ch b n i o L) (hop : atOp b n i = true) (k1 : ∀ j s, sgN b n i = .inl (j, s) → i < j → 1 ≤ s → s ≤ 6 → CQ (sI t r 4 (nI j)) qr r tp ch b n j o L → Post (.inl (some (svI (nI (s - 1))))) (sI t r 4 (nI j)))
    (k2 : ∀ p, sgN b n i = .inr p → ∀ t', QD qr r ch t t' 1 p → tN t' = tN t + 1 → tU t' = tU t + 6 → Post (.inr (200, 0)) t') : CalG C mtab (d + 3) 73 [svR (some qr)] t Post := by
  have hv := h.2.2.1
  have hK := h.1.1.1
  have hb := h.1.1.2.2.2.2.2.2.2.2.1
  have hlt : i < n := by
    rcases Nat.lt_or_ge i n with z | z
    · exact z
    · unfold atOp at hop; rw [pkO z] at hop; exact absurd hop (by decide)
  have h1 := h.to (j := i + 1) (by omega)
  have bad : ∀ p, sgN b n i = .inr p → p = i + 1 → Post (.inr (200, 0)) (flH (sI t r 4 (nI (i + 1))) r 1 (nI (i + 1))) := fun p e hp => by
    subst hp
    obtain ⟨g1, g2, g3⟩ := h.bad (w := 1) (p := i + 1) (RX.I (r := r) (ch := ch) (x := nI (i + 1)) (Or.inr rfl)) rfl rfl
    exact k2 _ e _ g1 g2 g3
  refine cal73 ?_
  unfold vc73
  rw [hv.2.1]
  refine ⟨hv.1, hK, r85 h.1.1 ⟨hv.1, ?_⟩⟩
  rw [hv.2.1]
  refine ⟨hK, hK, ?_⟩
  rw [h.1.1.2.2.2.2.2.1, nI_1, h.in]
  have e61 : ∀ {A B : Prop}, pk b n i = 61 → A → br (pk b n i = 61) A B := fun z a => ⟨fun _ => a, fun y => absurd z y⟩
  refine ⟨fun e => ⟨hv.1, hK, r88 h1.1.1 (fun e2 => ⟨rfl, ?_⟩) (fun e2 => bad (i + 1) ?_ rfl)⟩, fun e => ⟨fun e3 => ⟨hv.1, hK, r88 h1.1.1 (fun e2 => ⟨rfl, ?_⟩) (fun e2 => bad (i + 1) ?_ rfl)⟩, fun e3 => ⟨hv.1, hK, r85 h1.1.1 ⟨fun e2 => ⟨hv.1, ?_⟩, fun e2 => ⟨fun e4 => ?_, fun e4 => ?_⟩⟩⟩⟩⟩
  · have hl2 := (pk_nn e2 (by decide)).1
    rw [sI_sI]
    refine ⟨fun _ => k1 (i + 2) 1 ?_ (by omega) (by omega) (by omega) (h.to (by omega)), fun z => absurd e z⟩
    unfold sgN; rw [if_pos e, if_pos e2]
  · unfold sgN; rw [if_pos e, if_neg e2]
  · have hl2 := (pk_nn e2 (by decide)).1
    rw [sI_sI]
    refine ⟨fun z => absurd z e, fun _ => k1 (i + 2) 2 ?_ (by omega) (by omega) (by omega) (h.to (by omega))⟩
    unfold sgN; rw [if_neg e, if_pos e3, if_pos e2]
  · unfold sgN; rw [if_neg e, if_pos e3, if_neg e2]
  · have hl2 := (pk_nn e2 (by decide)).1
    rw [h.in]
    refine ⟨hK, hK, ?_⟩
    rw [h1.1.1.2.2.2.2.2.1, nI_1, sI_sI]
    refine ⟨fun e4 => k1 (i + 2) 4 ?_ (by omega) (by omega) (by omega) (h.to (by omega)), fun e4 => k1 (i + 2) 6 ?_ (by omega) (by omega) (by omega) (h.to (by omega))⟩
    · unfold sgN; rw [if_neg e, if_neg e3, if_pos e4, if_pos e2]
    · unfold sgN; rw [if_neg e, if_neg e3, if_neg e4, if_pos e2]
  · refine k1 (i + 1) 3 ?_ (by omega) (by omega) (by omega) h1
    unfold sgN; rw [if_neg e, if_neg e3, if_pos e4, if_neg e2]
  · refine k1 (i + 1) 5 ?_ (by omega) (by omega) (by omega) h1
    unfold sgN; rw [if_neg e, if_neg e3, if_neg e4, if_neg e2]
end QST
