/-! OPERANDS BY THEIR KIND; simplest -/
section QOP
variable {C : Cx} {d : Nat} {Post : OutT → Ht → Prop} {t t' : Ht}
theorem QR.tag {k m a : Nat} {F : Nat → Prop} {x : QF} {av : List Nat} {s : Bool} (h : QR C t (.tag k x) m av F [a] s) (m5 : m ≠ 5) (m8 : m ≠ 8) : F a ∧ ∃ us av' F1, (∀ z, F1 z → F z) ∧ HL C t m k x F a s us av' F1 ∧ (cM m k x = 99 ∨ QR C t x (cM m k x) av' F1 us (cSg m k x s)) := by
  unfold QR at h
  rw [if_neg m5, if_neg m8] at h
  obtain ⟨a', us, av', F1, q1, q2, q4, q6, q7⟩ := h
  injection q1 with q1
  subst q1
  exact ⟨q2, us, av', F1, q4, q6, q7⟩
theorem QR.mk {k m a : Nat} {F F1 : Nat → Prop} {x : QF} {av us av' : List Nat} {s : Bool} (m5 : m ≠ 5) (m8 : m ≠ 8) (h1' : F a) (h3 : ∀ z, F1 z → F z) (h5 : HL C t m k x F a s us av' F1) (h6 : cM m k x = 99 ∨ QR C t x (cM m k x) av' F1 us (cSg m k x s)) : QR C t (.tag k x) m av F [a] s := by
  unfold QR
  rw [if_neg m5, if_neg m8]
  exact ⟨a, us, av', F1, rfl, h1', h3, h5, h6⟩
/-- a path's own cell -/
theorem QR.path {r u : Nat} {F : Nat → Prop} {x : QF} {av : List Nat} {s : Bool} (h : QR C t (.tag r x) 0 av F [u] s) : tK t u = 5 ∧ tI t u 0 = nI (r % 2) ∧ tI t u 2 = nI (r / 2) ∧ r < 4 := by
  obtain ⟨-, us, av', F1, -, q6, -⟩ := h.tag (by decide) (by decide)
  unfold HL at q6
  rw [if_pos rfl] at q6
  obtain ⟨q1, q2, q3, l, e, c, q4, q5, q6, q7, q8⟩ := q6
  exact ⟨q1, q2, q3, q8⟩
/-- partCount -/
theorem q112 {a l c e : Nat} {us : List Nat} (hK : tK t a = 11) (hr : tR t a 2 = some l) (hl : LsA C t l us c e) (k : Post (.inl (some (svI (nI us.length)))) t) : CalG C mtab (d + 2) 112 [svR (some a)] t Post := by
  refine cal112 ?_
  unfold vc112
  rw [hr]
  exact ⟨hK, hK, hl.1, s269L hl k⟩
/-- part -/
theorem q113 {a l c e i : Nat} {us : List Nat} (hK : tK t a = 11) (hr : tR t a 2 = some l) (hl : LsA C t l us c e) (hel : ∀ z ∈ us, tK t z = 11) (hi : i < us.length) (hlen : us.length < 2 ^ 31) (k : Post (.inl (some (svR (some (us.getD i 0))))) t) : CalG C mtab (d + 4) 113 [svR (some a), svI (nI i)] t Post := by
  refine cal113 ⟨fun e => absurd e (nI_pos (by omega)), fun _ => ⟨hK, q112 hK hr hl ⟨fun e => ?_, fun e => ⟨hK, ?_⟩⟩⟩⟩
  · have : us.length ≤ i := (nI_leI (by omega) (by omega)).mp e
    omega
  · rw [hr]
    refine ⟨hl.1, s271L hl hi ?_⟩
    rw [kid_get hi]
    exact ⟨hel _ (kid_mem hi), k⟩
/-- simplest -/
theorem q114 {a l c e : Nat} {us : List Nat} (hK : tK t a = 11) (hr : tR t a 2 = some l) (hl : LsA C t l us c e) (hel : ∀ z ∈ us, tK t z = 11) (hlen : us.length < 2 ^ 31) (k : Post (.inl (some (svR (some (if us.length = 1 then us.getD 0 0 else a))))) t) : CalG C mtab (d + 5) 114 [svR (some a)] t Post := by
  refine cal114 ⟨hK, q112 hK hr hl ⟨fun e => ⟨hK, ?_⟩, fun e => ?_⟩⟩
  · have e1 : us.length = 1 := (nI_eq (b := 1) (by omega) (by decide)).mp e
    rw [if_pos e1] at k
    exact q113 (i := 0) hK hr hl hel (by omega) hlen k
  · have e1 : ¬ us.length = 1 := fun z => e (by rw [z]; rfl)
    rw [if_neg e1] at k
    exact k
end QOP
