/-! THE REFERENCE'S FIND: isLess; what each piece of a query does -/
section RF4
variable {C : Cx} {d : Nat} {Post : OutT → Ht → Prop} {t0 t t' t2 : Ht} {M S P : Nat} {V : VT} {c lk lk' f : Nat} {l l' : List Nat} {bs : Nat}
theorem VLh.no {k : Int32} {i : Int64} {s n w : Int32} {o : Option Vl} (h : VLh t0 M V c o k i s n w) : (o = none ∧ k = -1) ∨ (∃ a, o = some a ∧ VLg t0 M V c a k i s n w ∧ k ≠ -1) := by
  rcases h with h | ⟨a, h1, h2⟩
  · exact Or.inl h
  · exact Or.inr ⟨a, h1, h2, by rw [h2.2.1]; exact nI_m1 (by have := h2.2.2.1; omega)⟩
/-- isLess -/
theorem m230 {o1 o2 : Option Vl} {x1 : Int32} {x2 : Int64} {x3 x4 w1 x5 : Int32} {x6 : Int64} {x7 x8 w2 : Int32} (H : G0 t0 M S P V c) (h : GS t0 M t lk) (h1 : VLh t0 M V c o1 x1 x2 x3 x4 w1) (h2 : VLh t0 M V c o2 x5 x6 x7 x8 w2) (k : Post (.inl (some (svI (bI (lsO V o1 o2))))) t) : CalG C mtab (d + 1) 230 [svR (some M), svI x1, svJ x2, svI x3, svI x4, svI x5, svJ x6, svI x7, svI x8] t Post := by
  have hK := kM H h
  rcases h1.no with ⟨rfl, e1⟩ | ⟨a, rfl, ha, n1⟩
  · have k : Post (.inl (some (svI 0))) t := by cases o2 <;> exact k
    refine cal230 (fun _ _ _ => False) ⟨fun _ => ⟨fun z => absurd (e1.symm.trans z) (by decide), fun _ => ⟨fun z => absurd (e1.symm.trans z) (by decide), fun _ => ⟨Or.inl rfl, k⟩⟩⟩, fun _ => ⟨Or.inl rfl, k⟩⟩ (fun _ _ _ z => z.elim)
  rcases h2.no with ⟨rfl, e2⟩ | ⟨b, rfl, hb, n2⟩
  · exact cal230 (fun _ _ _ => False) ⟨fun e => absurd (e.trans e2) n1, fun _ => ⟨Or.inl rfl, k⟩⟩ (fun _ _ _ z => z.elim)
  obtain ⟨a0, rfl, a2, a3, a4, a5⟩ := ha
  obtain ⟨b0, rfl, b2, b3, b4, b5⟩ := hb
  have k : Post (.inl (some (svI (bI (if kdV V a = kdV V b then (if kdV V a = 3 then decide (inV V a < inV V b) else if kdV V a = 4 then ltC (chV V a) (chV V b) else false) else false))))) t := k
  refine cal230 (fun m l11 t' => t = t' ∧ ∃ p p', kdV V a = 4 ∧ x3 = nI p ∧ x4 = nI (chV V a).length ∧ CH t0 (M + 3) p (chV V a) 0 2400 ∧ x7 = nI p' ∧ x8 = nI (chV V b).length ∧ CH t0 (M + 3) p' (chV V b) 0 2400 ∧ okC (chV V a) ∧ okC (chV V b) ∧ Post (.inl (some (svI (bI (ltC (chV V a) (chV V b)))))) t ∧
    ∃ q, m = (chV V a).length - q ∧ q ≤ (chV V a).length ∧ q ≤ (chV V b).length ∧ l11 = nI q ∧ ltC (chV V a) (chV V b) = ltC ((chV V a).drop q) ((chV V b).drop q)) ?_ ?_
  · refine ⟨fun e => ?_, fun e => ⟨Or.inl rfl, ?_⟩⟩
    · have e : kdV V a = kdV V b := (nI_eq (by omega) (by omega)).mp e
      rw [if_pos e] at k
      refine ⟨fun e3 => ⟨fun _ => ?_, fun z => absurd e3 z⟩, fun e3 => ⟨fun e4 => ⟨fun z => absurd z e3, fun _ => ?_⟩, fun e4 => ⟨Or.inl rfl, ?_⟩⟩⟩
      · have e3 : kdV V a = 3 := (nI_eq (b := 3) (by omega) (by decide)).mp e3
        rw [if_pos e3] at k
        rw [a3 e3, b3 (by omega), lg_cmp_ge]
        exact ⟨fun z => ⟨Or.inl rfl, by rw [decide_eq_false (Int64.not_lt.mpr z)] at k; exact k⟩, fun z => ⟨Or.inr rfl, by rw [decide_eq_true (Int64.not_le.mp z)] at k; exact k⟩⟩
      · have e4 : kdV V a = 4 := (nI_eq (b := 4) (by omega) (by decide)).mp e4
        rw [if_neg (by omega), if_pos e4] at k
        obtain ⟨oa, p, p1, p2, p3⟩ := a4 e4
        obtain ⟨ob, p', q1, q2, q3⟩ := b4 (by omega)
        exact ⟨_, rfl, rfl, rfl, rfl, rfl, rfl, rfl, rfl, rfl, rfl, p, p', e4, p1, p2, p3, q1, q2, q3, oa, ob, k, 0, rfl, Nat.zero_le _, Nat.zero_le _, rfl, rfl⟩
      · rw [if_neg (fun z => e3 (by rw [z]; rfl)), if_neg (fun z => e4 (by rw [z]; rfl))] at k
        exact k
    · rw [if_neg (fun z => e (by rw [z]))] at k
      exact k
  · rintro m l11 _ ⟨rfl, p, p', e4, rfl, rfl, p3, rfl, rfl, q3, oa, ob, k, q, rfl, hqa, hqb, rfl, hl⟩
    generalize chV V a = as at *
    generalize chV V b = bs at *
    have la := p3.2.1
    have lb := q3.2.1
    have ha1 := oa.1
    have hb1 := ob.1
    have nob : bs.length ≤ q → Post (.inl (some (svI 0))) t := fun z => by
      rw [hl, List.drop_eq_nil_of_le (as := bs) z, ltC_n] at k
      exact k
    refine ⟨fun e => ⟨fun e1 => ⟨Or.inl rfl, nob ((nI_leI (by omega) (by omega)).mp e1)⟩, fun e1 => ⟨fun e2 => ⟨Or.inr rfl, ?_⟩, fun e2 => ?_⟩⟩, fun e => ⟨fun e1 => ?_, fun e1 => ?_⟩⟩
    · have hq : as.length ≤ q := (nI_leI (by omega) (by omega)).mp e
      have hq2 : q < bs.length := Nat.not_le.mp (fun z => e1 (nI_le z (by omega)))
      rw [hl, List.drop_eq_nil_of_le (as := as) hq, List.drop_eq_getElem_cons hq2] at k
      exact k
    · have hq : as.length ≤ q := (nI_leI (by omega) (by omega)).mp e
      exact absurd (by rw [show q = as.length by omega]) e2
    · have z := (nI_leI (by omega) (by omega)).mp e1
      exact ⟨fun _ => ⟨Or.inl rfl, nob z⟩, fun z => absurd e1 z⟩
    · have hq : q < as.length := Nat.not_le.mp (fun z => e (nI_le z (by omega)))
      have hq2 : q < bs.length := Nat.not_le.mp (fun z => e1 (nI_le z (by omega)))
      have ea : as.getD q 0 = as[q] := by simp [List.getD, hq]
      have eb : bs.getD q 0 = bs[q] := by simp [List.getD, hq2]
      have lla := getD_lt (k := q) oa
      have llb := getD_lt (k := q) ob
      rw [nI_add, nI_add]
      have c1 : tI t (M + 3) (nI (p + q)).toNatClampNeg = nI (as.getD q 0) := by rw [nI_clamp (by omega), (h.1.ch p3).2.2 q hq]
      have c2 : tI t (M + 3) (nI (p' + q)).toNatClampNeg = nI (bs.getD q 0) := by rw [nI_clamp (by omega), (h.1.ch q3).2.2 q hq2]
      refine ⟨hK, gCh H h (by omega) ⟨hK, gCh H h (by omega) ?_⟩⟩
      rw [c1, c2]
      rw [List.drop_eq_getElem_cons hq, List.drop_eq_getElem_cons hq2, ltC] at hl
      refine ⟨fun e2 => ?_, fun e2 => ⟨fun z => absurd z e1, fun _ => ⟨fun z => ?_, fun _ => ⟨hK, gCh H h (by omega) ⟨hK, gCh H h (by omega) ?_⟩⟩⟩⟩⟩
      · have := (nI_eq lla llb).mp e2
        rw [if_pos (by omega)] at hl
        exact ⟨_, (by omega : as.length - (q + 1) < as.length - q), rfl, rfl, rfl, rfl, rfl, rfl, rfl, rfl, rfl, rfl, p, p', e4, rfl, rfl, p3, rfl, rfl, q3, oa, ob, k, q + 1, rfl, by omega, by omega, nI_1 q, hl⟩
      · exact absurd ((nI_eq (by omega) (by omega)).mp z) (by omega)
      · have hne : as[q] ≠ bs[q] := fun z => e2 (by rw [ea, eb, z])
        rw [hl, if_neg hne] at k
        rw [c1, c2]
        refine ⟨fun e3 => ⟨Or.inl rfl, ?_⟩, fun e3 => ⟨Or.inr rfl, ?_⟩⟩
        · have := (nI_leI llb lla).mp e3
          rw [show decide (as[q] < bs[q]) = false from decide_eq_false (by omega)] at k
          exact k
        · have : as.getD q 0 < bs.getD q 0 := Nat.not_le.mp (fun z => e3 (nI_le z lla))
          rw [show decide (as[q] < bs[q]) = true from decide_eq_true (by omega)] at k
          exact k
/-- alike, of what may be nothing -/
theorem m231o {o1 o2 : Option Vl} {x1 : Int32} {x2 : Int64} {x3 x4 x5 x6 : Int32} {x7 : Int64} {x8 x9 x10 : Int32} (H : G0 t0 M S P V c) (h : GS t0 M t lk) (h1 : VLh t0 M V c o1 x1 x2 x3 x4 x5) (h2 : VLh t0 M V c o2 x6 x7 x8 x9 x10)
    (k1 : ∀ r lk' t', GS t0 M t' lk' → LK t0 V c M 36000 t t' → Post (.inl (some (svI (bI r)))) t') (k2 : ∀ t', MF M t0 t' → Post (.inr (16, M + 1)) t') : CalG C mtab (d + 93) 231 [svR (some M), svI x1, svJ x2, svI x3, svI x4, svI x5, svI x6, svJ x7, svI x8, svI x9, svI x10] t Post := by
  rcases h1.no with ⟨rfl, rfl⟩ | ⟨a, rfl, ha, n1⟩
  · rcases h2.no with ⟨rfl, rfl⟩ | ⟨b, rfl, hb, n2⟩
    · exact cal231 ⟨fun _ => ⟨fun _ => ⟨Or.inr rfl, k1 true lk t h LK.rfl'⟩, fun z => absurd rfl z⟩, fun z => absurd rfl z⟩
    · exact cal231 ⟨fun _ => ⟨fun z => absurd z.symm n2, fun _ => ⟨Or.inl rfl, k1 false lk t h LK.rfl'⟩⟩, fun z => absurd rfl z⟩
  · rcases h2.no with ⟨rfl, rfl⟩ | ⟨b, rfl, hb, n2⟩
    · exact cal231 ⟨fun z => absurd z n1, fun _ => ⟨fun _ => ⟨fun z => absurd z n1, fun _ => ⟨Or.inl rfl, k1 false lk t h LK.rfl'⟩⟩, fun z => absurd rfl z⟩⟩
    · exact m231 H (d := d) 30 a b _ _ _ _ _ _ _ _ _ _ lk t Post h ha hb (fun i e => by have := (H.2.2.1 i (ha.1 i e)).2.2; omega) (by decide) k1 k2
end RF4
/-- a piece of the query in the table of parts -/
def Qm (t0 : Ht) (M P : Nat) (x : QF) (m : Nat) (us : List Nat) : Prop := ∃ F, (∀ z, F z → z < 2400) ∧ QM t0 P (M + 3) 1200 2400 x m F us
/-- the list that a path has come to, at its level -/
def LsF (M c : Nat) (t : Ht) (lv : Nat) (l : List Nat) : Prop := l.length ≤ 1000 ∧ (∀ k, k < l.length → tI t (M + 49) (2000 * lv + k) = nI (l.getD k 0)) ∧ ∀ x ∈ l, x < c
section ERD
variable (C : Cx) (t0 : Ht) (M P : Nat) (V : VT) (c : Nat)
def R2 (x : QF) : Prop := ∀ (us : List Nat) (nd lv lk D : Nat) (l : List Nat) (t : Ht) (Post : OutT → Ht → Prop), Qm t0 M P x 2 us → gdQ x 2 → fdQ x 2 + lv ≤ 16 → dqQ x 2 + 40 * fdQ x 2 + 105 ≤ D → GS t0 M t lk → nd < c → LsM M c t (2000 * lv + 1000) l →
  (∀ l' lk' t', GS t0 M t' lk' → LK t0 V c M (2000 * lv + 1000 + l.length) t t' → LsM M c t' (2000 * lv + 1000) l' → l.length ≤ l'.length → Post (.inl none) t') → (∀ t', MF M t0 t' → Post (.inr (16, M + 1)) t') →
  CalG C mtab D 218 [svR (some M), svI (hdI us), svI (nI nd), svI (nI lv)] t Post
def R1 (x : QF) : Prop := ∀ (us : List Nat) (rt lv lk D : Nat) (t : Ht) (Post : OutT → Ht → Prop), Qm t0 M P x 1 us → gdQ x 1 → fdQ x 1 + lv ≤ 16 → dqQ x 1 + 40 * fdQ x 1 + 140 ≤ D → GS t0 M t lk → rt < c →
  (∀ l lk' t', GS t0 M t' lk' → LK t0 V c M (2000 * lv) t t' → LsF M c t' lv l → Post (.inl (some (svI (nI l.length)))) t') → (∀ t', MF M t0 t' → Post (.inr (16, M + 1)) t') →
  CalG C mtab D 216 [svR (some M), svI (hdI us), svI (nI rt), svI (nI lv)] t Post
def R10 (x : QF) : Prop := ∀ (a nd lv lk D : Nat) (t : Ht) (Post : OutT → Ht → Prop), Qm t0 M P x 10 [a] → gdQ x 10 → fdQ x 10 + lv ≤ 16 → dqQ x 10 + 40 * fdQ x 10 + 140 ≤ D → GS t0 M t lk → nd < c →
  (∀ l lk' t', GS t0 M t' lk' → LK t0 V c M (2000 * lv) t t' → LsF M c t' lv l → Post (.inl (some (svI (nI l.length)))) t') → (∀ t', MF M t0 t' → Post (.inr (16, M + 1)) t') →
  CalG C mtab D 225 [svR (some M), svI (nI a), svI (nI nd), svI (nI lv)] t Post
def R3 (x : QF) : Prop := ∀ (a nd lv lk D : Nat) (t : Ht) (Post : OutT → Ht → Prop), Qm t0 M P x 3 [a] → gdQ x 3 → fdQ x 3 + lv ≤ 16 → dqQ x 3 + 40 * fdQ x 3 + 140 ≤ D → GS t0 M t lk → nd < c →
  (∀ r lk' t', GS t0 M t' lk' → LK t0 V c M (2000 * lv) t t' → Post (.inl (some (svI (bI r)))) t') → (∀ t', MF M t0 t' → Post (.inr (16, M + 1)) t') →
  CalG C mtab D 224 [svR (some M), svI (nI a), svI (nI nd), svI (nI lv)] t Post
def R7 (x : QF) : Prop := ∀ (a nd lv lk D : Nat) (t : Ht) (Post : OutT → Ht → Prop), Qm t0 M P x 7 [a] → gdQ x 7 → fdQ x 7 + lv ≤ 16 → dqQ x 7 + 40 * fdQ x 7 + 140 ≤ D → GS t0 M t lk → nd < c →
  (∀ lk' t', GS t0 M t' lk' → LK t0 V c M (2000 * lv) t t' → CVm t0 M V c t' → Post (.inl none) t') → (∀ t', MF M t0 t' → Post (.inr (16, M + 1)) t') →
  CalG C mtab D 228 [svR (some M), svI (nI a), svI (nI nd), svI (nI lv)] t Post
end ERD
