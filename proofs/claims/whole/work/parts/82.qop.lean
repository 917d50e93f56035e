/-! OPERANDS BY THEIR KIND; simplest -/
section QOP
variable {C : Cx} {d : Nat} {Post : OutT → Ht → Prop} {t t' : Ht}
theorem QR.tag {k m a : Nat} {F : Nat → Prop} {x : QF} {av : List Nat} {s : Bool} (h : QR C t (.tag k x) m av F [a] s) (m5 : m ≠ 5) (m8 : m ≠ 8) : F a ∧ ∃ us av' F1, (∀ z, F1 z → F z) ∧ HL C t m k x F a s us av' F1 ∧ (cM m k x = 99 ∨ QR C t x (cM m k x) av' F1 us (cSg m k x s)) := by
  unfold QR at h
  rw [if_neg m5, if_neg m8] at h
  obtain ⟨a', us, av', F1, q1, q2, q4, q6, q7⟩ := h
  injection q1 with q1
  subst q1
  exact ⟨q2, us, av', F1, q4, q6, q7⟩
theorem QR.mk {k m a : Nat} {F F1 : Nat → Prop} {x : QF} {av us av' : List Nat} {s : Bool} (m5 : m ≠ 5) (m8 : m ≠ 8) (h1' : F a) (h3 : ∀ z, F1 z → F z) (h5 : HL C t m k x F a s us av' F1) (h6 : cM m k x = 99 ∨ QR C t x (cM m k x) av' F1 us (cSg m k x s)) : QR C t (.tag k x) m av F [a] s := by
  unfold QR
  rw [if_neg m5, if_neg m8]
  exact ⟨a, us, av', F1, rfl, h1', h3, h5, h6⟩
/-- a path's own cell -/
theorem QR.path {r u : Nat} {F : Nat → Prop} {x : QF} {av : List Nat} {s : Bool} (h : QR C t (.tag r x) 0 av F [u] s) : tK t u = 5 ∧ tI t u 0 = nI (r % 2) ∧ tI t u 2 = nI (r / 2) ∧ r < 4 := by
  obtain ⟨-, us, av', F1, -, q6, -⟩ := h.tag (by decide) (by decide)
  unfold HL at q6
  rw [if_pos rfl] at q6
  obtain ⟨q1, q2, q3, l, e, c, q4, q5, q6, q7, q8⟩ := q6
  exact ⟨q1, q2, q3, q8⟩
theorem QR.ok {k a : Nat} {F : Nat → Prop} {x : QF} {av : List Nat} (h : QR C t (.tag k x) 7 av F [a] false) : ∃ kd sg, OK t a kd sg ∧ isCmp (.tag k x) = isCk kd sg ∧ isLit (.tag k x) = decide (kd = 3) ∧ isFun (.tag k x) = isFk kd ∧ isPth (.tag k x) = decide (kd = 4) := by
  obtain ⟨-, us, av', F1, -, q6, q7⟩ := h.tag (by decide) (by decide)
  unfold HL at q6
  rw [if_neg (by decide), if_neg (by decide), if_neg (by decide), if_neg (by decide), if_pos rfl] at q6
  obtain ⟨hK, q6⟩ := q6
  by_cases k25 : k = 25
  · subst k25
    rw [if_pos rfl] at q6
    obtain ⟨g1, g2, rfl, g3, g4, u, g5, rfl⟩ := q6
    cases x with
    | tag r y =>
      rcases q7 with z | z
      · cases z
      · obtain ⟨p1, p2, p3, p4⟩ := QR.path z
        refine ⟨4, decide (2 ≤ r), ⟨hK, g1, by omega, fun _ => ⟨u, g5, p1, ?_⟩⟩, ?_, rfl, rfl, rfl⟩
        · rw [p3]
          have : r = 0 ∨ r = 1 ∨ r = 2 ∨ r = 3 := by omega
          rcases this with rfl | rfl | rfl | rfl <;> rfl
        · have : r = 0 ∨ r = 1 ∨ r = 2 ∨ r = 3 := by omega
          rcases this with rfl | rfl | rfl | rfl <;> rfl
    | _ => cases g3
  rw [if_neg k25] at q6
  by_cases k27 : k = 27
  · subst k27
    rw [if_pos rfl] at q6
    obtain ⟨w, w1, w2, w3⟩ := q6
    have : w = 5 ∨ w = 6 ∨ w = 7 ∨ w = 8 := by omega
    refine ⟨w, false, ⟨hK, w3, by omega, fun z => by omega⟩, ?_, ?_, ?_, ?_⟩ <;> rcases this with rfl | rfl | rfl | rfl <;> rfl
  rw [if_neg k27] at q6
  obtain ⟨b1, b2, b3, b4, b5⟩ := q6
  by_cases k20 : k = 20
  · subst k20
    rw [if_pos rfl] at b5
    exact ⟨3, false, ⟨hK, b5.1, by omega, fun z => by omega⟩, rfl, rfl, rfl, rfl⟩
  rw [if_neg k20] at b5
  by_cases k21 : k = 21
  · subst k21
    rw [if_pos rfl] at b5
    exact ⟨3, false, ⟨hK, b5.1, by omega, fun z => by omega⟩, rfl, rfl, rfl, rfl⟩
  rw [if_neg k21] at b5
  by_cases k22 : k = 22
  · subst k22
    rw [if_pos rfl] at b5
    exact ⟨3, false, ⟨hK, b5.1, by omega, fun z => by omega⟩, rfl, rfl, rfl, rfl⟩
  rw [if_neg k22] at b5
  by_cases k23 : k = 23
  · subst k23
    rw [if_pos rfl] at b5
    exact ⟨3, false, ⟨hK, b5.1, by omega, fun z => by omega⟩, rfl, rfl, rfl, rfl⟩
  rw [if_neg k23] at b5
  by_cases k24 : k = 24
  · subst k24
    rw [if_pos rfl] at b5
    exact ⟨3, false, ⟨hK, b5.1, by omega, fun z => by omega⟩, rfl, rfl, rfl, rfl⟩
  rw [if_neg k24] at b5
  by_cases k26 : k = 26
  · subst k26
    rw [if_pos rfl] at b5
    obtain ⟨c1, c2, c3, c4, c5, u, c6, c7, c8, c9⟩ := b5
    have : tgN x = 1 ∨ tgN x = 2 ∨ tgN x = 3 := by omega
    refine ⟨tgN x + 4, false, ⟨hK, c1, by omega, fun z => by omega⟩, ?_, ?_, ?_, ?_⟩ <;> rcases this with e | e | e <;> rw [e] <;> rfl
  rw [if_neg k26] at b5
  exact b5.elim
/-- partCount -/
theorem q112 {a l c e : Nat} {us : List Nat} (hK : tK t a = 11) (hr : tR t a 2 = some l) (hl : LsA C t l us c e) (k : Post (.inl (some (svI (nI us.length)))) t) : CalG C mtab (d + 2) 112 [svR (some a)] t Post := by
  refine cal112 ?_
  unfold vc112
  rw [hr]
  exact ⟨hK, hK, hl.1, s269L hl k⟩
/-- part -/
theorem q113 {a l c e i : Nat} {us : List Nat} (hK : tK t a = 11) (hr : tR t a 2 = some l) (hl : LsA C t l us c e) (hel : ∀ z ∈ us, tK t z = 11) (hi : i < us.length) (hlen : us.length < 2 ^ 31) (k : Post (.inl (some (svR (some (us.getD i 0))))) t) : CalG C mtab (d + 4) 113 [svR (some a), svI (nI i)] t Post := by
  refine cal113 ⟨fun e => absurd e (nI_pos (by omega)), fun _ => ⟨hK, q112 hK hr hl ⟨fun e => ?_, fun e => ⟨hK, ?_⟩⟩⟩⟩
  · have : us.length ≤ i := (nI_leI (by omega) (by omega)).mp e
    omega
  · rw [hr]
    refine ⟨hl.1, s271L hl hi ?_⟩
    rw [kid_get hi]
    exact ⟨hel _ (kid_mem hi), k⟩
/-- simplest -/
theorem q114 {a l c e : Nat} {us : List Nat} (hK : tK t a = 11) (hr : tR t a 2 = some l) (hl : LsA C t l us c e) (hel : ∀ z ∈ us, tK t z = 11) (hlen : us.length < 2 ^ 31) (k : Post (.inl (some (svR (some (if us.length = 1 then us.getD 0 0 else a))))) t) : CalG C mtab (d + 5) 114 [svR (some a)] t Post := by
  refine cal114 ⟨hK, q112 hK hr hl ⟨fun e => ⟨hK, ?_⟩, fun e => ?_⟩⟩
  · have e1 : us.length = 1 := (nI_eq (b := 1) (by omega) (by decide)).mp e
    rw [if_pos e1] at k
    exact q113 (i := 0) hK hr hl hel (by omega) hlen k
  · have e1 : ¬ us.length = 1 := fun z => e (by rw [z]; rfl)
    rw [if_neg e1] at k
    exact k
end QOP
