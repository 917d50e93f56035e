/-! AND, OR: a term with its parts so far -/
/-- the term at tN tb, its list behind it; footprints from t on, but for X -/
def LBs (C : Cx) (X : List Nat) (qr r tp ch : Nat) (b : By) (n o rc rs : Nat) (t tb t' : Ht) (kt i : Nat) (L : LT) (j : Nat) (Lc : LT) (y : QF) (us : List Nat) (c e : Nat) : Prop :=
  CQ t' qr r tp ch b n j o Lc ∧ QX qr r ch tb t' ∧ (LsA C t' (tN tb + 1) us c e ∧ 2 * c ≤ 3 * us.length + 20 ∧ 0 < c ∧ tN tb + 2 ≤ e ∧ e < tN t') ∧ (Lc.1 = 0 → L.1 = 0 ∧ qL y = true ∧ (∃ x0 y0, y = .append x0 y0 ∧ isTg x0 = true) ∧ QR C t' y 3 [tN tb, tN tb + 1, e] (hg X (tN t) (tN t')) us false) ∧ ((∀ z ∈ us, tK t' z = 11 ∧ z < tN t' ∧ tN t ≤ z ∧ z ∉ X) ∧ 0 < us.length ∧ us.length ≤ 1200) ∧ (tK t' (tN tb) = 11 ∧ tI t' (tN tb) 0 = nI kt ∧ tI t' (tN tb) 3 = 0 ∧ tR t' (tN tb) 2 = some (tN tb + 1)) ∧ i < j ∧ tN t' + rc ≤ tN t + 40 * (j - i) ∧ tU t' + rs ≤ tU t + 600 * (j - i)
section QLB
variable {C : Cx} {X : List Nat} {d E : Nat} {Post : OutT → Ht → Prop} {t tb t1 t' : Ht} {qr r tp ch : Nat} {b : By} {n i o f rc rs : Nat} {L : LT}
theorem QR.one {k u : Nat} {x0 y0 : QF} {av us : List Nat} {F : Nat → Prop} (hk : k = 10 ∨ k = 11) (h : QR C t (.append x0 y0) 3 av F us false) (hx : isTg x0 = true) (hl : qLen (.append x0 y0) = 1) (hu : us = [u]) : QR C t (.tag k (.append x0 y0)) 3 [] F [u] false := by
  subst hu
  unfold QR at h
  rw [if_neg (by decide), if_neg (by decide)] at h
  obtain ⟨v, w, q1, ⟨F1, q2, q4, q5⟩, q6⟩ := h
  injection q1 with q1 q7
  subst q1
  have hF : F u := by
    cases x0 with
    | tag k0 z => exact q2 _ (q5.tag (by decide) (by decide)).1
    | _ => cases hx
  refine QR.mk (us := [u]) (av' := []) (F1 := F1) (by decide) (by decide) hF q2 ?_ (Or.inr ?_)
  · unfold HL
    rw [if_neg (by decide), if_neg (by decide), if_neg (by decide), if_pos rfl, if_pos hk, if_pos hl]
    exact ⟨rfl, rfl⟩
  · have e1 : cM 3 k (.append x0 y0) = 4 := by
      unfold cM
      rw [if_neg (by decide), if_neg (by decide), if_neg (by decide), if_pos rfl, if_pos hk, if_pos hl]
    have e2 : cSg 3 k (.append x0 y0) false = false := by
      unfold cSg
      rw [if_pos rfl, if_pos ⟨hk, hl⟩]
    rw [e1, e2]
    unfold QR
    rw [if_pos rfl]
    exact ⟨hx, q5⟩
theorem QR.many {k a l c e : Nat} {y : QF} {us : List Nat} {F : Nat → Prop} (hk : k = 10 ∨ k = 11) (h : QR C t y 3 [a, l, e] F us false) (hl : qLen y ≠ 1) (hq : qL y = true) (ha : tK t a = 11 ∧ tI t a 0 = nI (k - 10) ∧ tI t a 3 = 0 ∧ tR t a 2 = some l) (hF : F a) (hL : LSq C t F l us c e) : QR C t (.tag k y) 3 [] F [a] false := by
  refine QR.mk (us := us) (av' := [a, l, e]) (F1 := F) (by decide) (by decide) hF (fun _ z => z) ?_ (Or.inr ?_)
  · unfold HL
    rw [if_neg (by decide), if_neg (by decide), if_neg (by decide), if_pos rfl, if_pos hk, if_neg hl]
    exact ⟨ha.1, ha.2.1, ha.2.2.1, l, e, c, ha.2.2.2, hL, rfl, hq⟩
  · have e1 : cM 3 k y = 3 := by
      unfold cM
      rw [if_neg (by decide), if_neg (by decide), if_neg (by decide), if_pos rfl, if_pos hk, if_neg hl]
    have e2 : cSg 3 k y false = false := by
      unfold cSg
      rw [if_pos rfl, if_neg (fun z => hl z.2), if_neg (by omega)]
    rw [e1, e2]
    exact h
/-- simplest: what comes of it -/
theorem LBs.fin {sp : Qs} {k kt j c e : Nat} {Lc : LT} {y : QF} {us : List Nat} (h : LBs C X qr r tp ch b n o rc rs t tb t' kt i L j Lc y us c e) (hk : k = 10 ∨ k = 11) (hkt : kt = k - 10) (htb : tN t ≤ tN tb) (hX : ∀ z ∈ X, z < tN tb) (hsp : sp = .inl (j, Lc, .tag k y)) (kk : KFx C X qr r tp ch b n o rc rs t tb i L sp Post) : CalG C mtab (d + 5) 114 [svR (some (tN tb))] t' Post := by
  obtain ⟨hC, hX', ⟨l1, l2, l3, l4, l5⟩, hQ, ⟨hus, hp, hm⟩, ⟨a1, a2, a3, a4⟩, hij, hb1, hb2⟩ := h
  have hN := hX'.1
  refine q114 a1 a4 l1 (fun z hz => (hus z hz).1) (by omega) ?_
  have hTX : tN tb ∉ X := fun w => by have := hX _ w; omega
  have hlX : tN tb + 1 ∉ X := fun w => by have := hX _ w; omega
  by_cases h1 : us.length = 1
  · rw [if_pos h1]
    obtain ⟨u, rfl⟩ : ∃ u, us = [u] := by
      match us, h1 with
      | [u], _ => exact ⟨u, rfl⟩
    have hu := hus u (by simp)
    refine kk.1 j Lc _ hsp t' u hC hX' (fun z => ?_) ⟨hu.1, hu.2.2.1, hu.2.1, hu.2.2.2⟩ hij ⟨hb1, hb2⟩
    obtain ⟨z1, z2, ⟨x0, y0, rfl, z3⟩, z4⟩ := hQ z
    refine ⟨z1, rfl, QR.one hk z4 z3 ?_ rfl⟩
    have := QR.len _ _ _ _ _ _ z2 (by decide) (by decide) z4
    rw [← this]; rfl
  · rw [if_neg h1]
    refine kk.1 j Lc _ hsp t' (tN tb) hC hX' (fun z => ?_) ⟨a1, htb, by omega, hTX⟩ hij ⟨hb1, hb2⟩
    obtain ⟨z1, z2, -, z4⟩ := hQ z
    have hlen := QR.len _ _ _ _ _ _ z2 (by decide) (by decide) z4
    exact ⟨z1, rfl, QR.many hk z4 (by omega) z2 ⟨a1, by rw [a2, hkt], a3, a4⟩ ⟨⟨htb, by omega⟩, hTX⟩ ⟨l1, ⟨⟨by omega, by omega⟩, hlX⟩, fun _ => ⟨⟨by omega, l5⟩, fun w => by have := hX _ w; omega⟩, l2⟩⟩
end QLB
