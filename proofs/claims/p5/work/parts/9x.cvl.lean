/-! THE CLASS'S FINDER: values -/
def VLf (C : Cx) (t : Ht) (G : GT) (V : VT) (c : Nat) (a : Vl) (p : Nat) : Prop :=
  (tK t p = 3 ∧ p < tN t ∧ tI t p 0 = nI (kdV V a) ∧ kdV V a < 7) ∧ (kdV V a = 3 → tJ t p 5 = inV V a) ∧
  (chR t 0 (tR t p 6) (if kdV V a = 4 then some (chV V a) else none) ∧ okC (chV V a)) ∧
  (kdV V a < 5 → tR t p 4 = none ∧ knV V a = []) ∧
  (5 ≤ kdV V a → ∃ l cc e, tR t p 4 = some l ∧ LsA C t l ((knV V a).map (gA G)) cc e) ∧
  ((knV V a).length ≤ 300 ∧ ∀ k ∈ knV V a, k < c) ∧ (∀ i, a = .inl i → i < c ∧ p = gA G i) ∧ (5 ≤ kdV V a → ∃ i, a = .inl i)
/-- a value, or nothing -/
def VLo (C : Cx) (t : Ht) (G : GT) (V : VT) (c : Nat) (o : Option Vl) (r : Option Nat) : Prop := (o = none ∧ r = none) ∨ ∃ a p, o = some a ∧ r = some p ∧ VLf C t G V c a p
def kiV (V : VT) (a : Vl) (x : Int64) : Option Nat := if x < 0 ∨ lN (knV V a).length ≤ x then none else some ((knV V a).getD x.toInt.toNat 0)
section CE4
variable {C : Cx} {d : Nat} {Post : OutT → Ht → Prop} {B T lk lk' c p q : Nat} {t1 t t' t2 : Ht} {G : GT} {V : VT} {O O' K K' : Nat → Prop} {a b : Vl}
theorem chR.z {r : Option Nat} {o : Option (List Nat)} (h : chR t T r o) : chR t 0 r o := by
  cases o with
  | none => exact h
  | some cs =>
    obtain ⟨x, h1, -, h3, h4⟩ := h
    exact ⟨x, h1, Nat.zero_le _, h3, h4⟩
theorem VLf.node {i : Nat} (h : NV C T t G V c) (hi : i < c) (hv : NIv V i) : VLf C t G V c (.inl i) (gA G i) := by
  obtain ⟨ne, vw, -⟩ := h.1 i hi
  have h3 := h.2.2
  refine ⟨⟨ne.1.2.2, ne.1.2.1, ne.2.1.1, vw.1⟩, fun _ => ne.2.1.2.2.2.2, ⟨?_, vw.2.2.2.2.2.2.1⟩, fun z => ⟨ne.2.2.2.1 z, hv.2.2.1 z⟩, fun z => ⟨_, _, _, (ne.2.2.2.2 z).1, (ne.2.2.2.2 z).2.1⟩, ⟨?_, fun k hk => (vw.2.2.2.1 k hk).2⟩, fun j hj => ?_, fun _ => ⟨i, rfl⟩⟩
  · have := ne.2.2.1.1.z
    unfold cOf at this
    show chR t 0 (tR t (gA G i) 6) (if eK (V i) = 4 then some (eC (V i)) else none)
    by_cases e : eK (V i) = 4
    · rw [if_pos e] at this ⊢
      rw [if_pos (hv.2.2.1 (by omega))] at this
      exact this
    · rw [if_neg e] at this ⊢
      exact this
  · have := vw.2.2.2.2.1
    show (eS (V i)).length ≤ 300
    omega
  · injection hj with hj
    subst hj
    exact ⟨hi, rfl⟩
/-- what finding leaves alone -/
theorem EFr.same {x : Nat} (h : ESt C B T t1 G V c O t lk) (g : EFr B O' K t t') (hx : x < tN t) (hk : tK t x = 3 ∨ tK t x = 101 ∨ tK t x = 1 ∨ tK t x = 103 ∨ tK t x = 5 ∨ tK t x = 9 ∨ tK t x = 10 ∨ tK t x = 11) (hO : ¬ O' x) : sameAt t t' x := by
  have k6 := h.k2
  have k7 : tK t (B + 7) = 105 := h.1.1.2.2.2.2.2.2.2.2.2.1
  have a0 := g.2.1 x hx
  obtain ⟨a1, a2, a3⟩ := g.2.2.1 x hx (by omega) (by omega) (fun e => by rw [e, k6] at hk; omega) (fun e => by rw [e, k7] at hk; omega)
  exact ⟨a0.1, a0.2, a1, fun k => a3 k (Or.inl hO), a2⟩
theorem VLf.go (h : ESt C B T t1 G V c O t lk) (v : VLf C t G V c a p) (g : EFr B O' K t t') (hp : ¬ O' p) (hO : ∀ x, O' x → tK t x = 3) : VLf C t' G V c a p := by
  obtain ⟨⟨v1, v2, v3, v4⟩, v5, ⟨v6, v7⟩, v8, v9, v10⟩ := v
  have hN := g.1
  obtain ⟨s1, s2, s3, s4, s5⟩ := g.same h v2 (by omega) hp
  refine ⟨⟨s1.trans v1, by omega, (s3 0).trans v3, v4⟩, fun z => (s4 5).trans (v5 z), ⟨?_, v7⟩, fun z => ⟨(s5 4).trans (v8 z).1, (v8 z).2⟩, fun z => ?_, v10⟩
  · rw [s5 6]
    exact v6.frame hN (fun x _ hx hk => g.same h hx (by omega) (fun w => by have := hO x w; omega))
  · obtain ⟨l, cc, e, l1, l2⟩ := v9 z
    refine ⟨l, cc, e, (s5 4).trans l1, l2.frame hN (g.same h l2.2.2.2.2.1 (by have := l2.1; omega) (fun w => by have := hO _ w; have := l2.1; omega)) (fun y => ?_)⟩
    rcases l2.2.2.2.2.2 with ⟨q1, -⟩ | ⟨-, -, -, q4, q5, -, -⟩
    · omega
    · exact g.same h q4 (by omega) (fun w => by have := hO _ w; omega)
theorem VLo.go {o : Option Vl} {r : Option Nat} (h : ESt C B T t1 G V c O t lk) (v : VLo C t G V c o r) (g : EFr B O' K t t') (hp : ∀ p, r = some p → ¬ O' p) (hO : ∀ x, O' x → tK t x = 3) : VLo C t' G V c o r := by
  rcases v with v | ⟨a, p, rfl, rfl, v⟩
  · exact Or.inl v
  · exact Or.inr ⟨a, p, rfl, rfl, v.go h g (hp p rfl) hO⟩
/-- kidCount -/
theorem c27 (h : VLf C t G V c a p) (k : Post (.inl (some (svI (nI (knV V a).length)))) t) : CalG C mtab (d + 2) 27 [svR (some p)] t Post := by
  obtain ⟨⟨v1, v2, v3, v4⟩, v5, ⟨v6, v7⟩, v8, v9, v10⟩ := h
  refine cal27 ⟨v1, ?_⟩
  by_cases z : kdV V a < 5
  · obtain ⟨y1, y2⟩ := v8 z
    rw [y2] at k
    rw [y1]; exact k
  · obtain ⟨l, cc, e, l1, l2⟩ := v9 (by omega)
    have hl : ((knV V a).map (gA G)).length = (knV V a).length := List.length_map _
    rw [l1]
    refine ⟨v1, l2.1, s269L l2 ?_⟩
    rw [hl]; exact k
theorem lN_of {x : Int64} {N : Nat} (h0 : ¬ x < 0) (h1 : x < lN N) (hN : N < 2 ^ 31) : ∃ m, m < N ∧ x = lN m ∧ x.toInt.toNat = m := by
  rw [Int64.lt_iff_toInt_lt] at h0 h1
  rw [lN_toInt hN] at h1
  have z : (0 : Int64).toInt = 0 := by decide
  refine ⟨x.toInt.toNat, by omega, Int64.toInt_inj.mp ?_, rfl⟩
  rw [lN_toInt (by omega)]
  omega
theorem kiV_n {x : Int64} (h : knV V a = []) : kiV V a x = none := by
  unfold kiV
  rw [h]
  refine if_pos ?_
  by_cases z : x < 0
  · exact Or.inl z
  · exact Or.inr (Int64.not_lt.mp z)
theorem kiV_m {m : Nat} (h : m < (knV V a).length) (hl : (knV V a).length ≤ 300) : kiV V a (lN m) = some ((knV V a).getD m 0) := by
  unfold kiV
  have h1 : ¬ lN m < 0 := fun z => by
    rw [Int64.lt_iff_toInt_lt, lN_toInt (by omega)] at z
    have z0 : (0 : Int64).toInt = 0 := by decide
    omega
  have h2 : ¬ lN (knV V a).length ≤ lN m := fun z => by
    have := (lN_le (by omega) (by omega)).mp z
    omega
  rw [if_neg (fun z => z.elim h1 h2), lN_toInt (by omega)]
  rfl
theorem kiV_c {x : Int64} {k : Nat} (h : VLf C t G V c a p) (e : kiV V a x = some k) : k < c ∧ k ∈ knV V a := by
  unfold kiV at e
  split at e
  · cases e
  · rename_i z
    obtain ⟨m, hm, -, hx⟩ := lN_of (fun y => z (Or.inl y)) (Int64.not_le.mp (fun y => z (Or.inr y))) (by have := h.2.2.2.2.2.1.1; omega)
    injection e with e
    rw [hx] at e
    have : k ∈ knV V a := by rw [← e]; exact gd_mem hm
    exact ⟨h.2.2.2.2.2.1.2 k this, this⟩
/-- kid -/
theorem c28 {x : Int64} (hN : NV C T t G V c) (h : VLf C t G V c a p) (k : Post (.inl (some (svR ((kiV V a x).map (gA G))))) t) : CalG C mtab (d + 4) 28 [svR (some p), svJ x] t Post := by
  obtain ⟨⟨v1, v2, v3, v4⟩, v5, ⟨v6, v7⟩, v8, v9, ⟨v10, v10'⟩, v11⟩ := id h
  refine cal28 ⟨v1, ?_⟩
  by_cases z : kdV V a < 5
  · obtain ⟨y1, y2⟩ := v8 z
    rw [kiV_n y2] at k
    rw [y1]; exact k
  · obtain ⟨l, cc, e, l1, l2⟩ := v9 (by omega)
    have hl : ((knV V a).map (gA G)).length = (knV V a).length := List.length_map _
    rw [l1]
    refine ⟨fun e1 => ?_, fun e1 => ⟨v1, l2.1, s269L l2 ⟨fun e2 => ⟨v1, onS l1 ⟨l2.1, ?_⟩⟩, fun e2 => ?_⟩⟩⟩
    · rw [lg_cmp_lt] at e1
      unfold kiV at k
      rw [if_pos (Or.inl e1)] at k
      exact k
    · rw [hl, nI_l (by omega), lg_cmp_lt] at e2
      rw [lg_cmp_lt] at e1
      obtain ⟨m, hm, rfl, -⟩ := lN_of e1 e2 (by omega)
      rw [kiV_m hm v10] at k
      rw [lN_i]
      refine s271L l2 (by rw [hl]; exact hm) ?_
      have eg : ((knV V a).map (gA G))[m]? = some (gA G ((knV V a).getD m 0)) := by
        rw [List.getElem?_map, List.getElem?_eq_getElem hm]; simp [List.getD, hm]
      rw [eg]
      exact ⟨(hN.1 _ (v10' _ (gd_mem hm))).1.1.2.2, k⟩
    · rw [hl, nI_l (by omega), lg_cmp_lt] at e2
      unfold kiV at k
      rw [if_pos (Or.inr (Int64.not_lt.mp e2))] at k
      exact k
/-- size -/
theorem c29 (h : VLf C t G V c a p) (k : Post (.inl (some (svI (nI (if kdV V a = 4 then (chV V a).length else (knV V a).length))))) t) : CalG C mtab (d + 3) 29 [svR (some p)] t Post := by
  obtain ⟨⟨v1, v2, v3, v4⟩, v5, ⟨v6, v7⟩, v8, v9, v10⟩ := id h
  refine cal29 ⟨v1, ?_⟩
  by_cases z : kdV V a = 4
  · rw [if_pos z] at k v6
    obtain ⟨x, x1, -, -, x2, x3, -⟩ := v6
    rw [x1]
    refine ⟨v1, by rw [x2]; decide, by rw [x2]; decide, ?_⟩
    rw [x3]; exact k
  · rw [if_neg z] at k v6
    have v6 : tR t p 6 = none := v6
    rw [v6]
    exact ⟨v1, c27 h k⟩
/-- element -/
theorem c32 {x : Int64} {i : Nat} (hN : NV C T t G V c) (h : VLf C t G V c (.inl i) p) (k : Post (.inl (some (svR ((elV V i x).map (gA G))))) t) : CalG C mtab (d + 5) 32 [svR (some p), svJ x] t Post := by
  obtain ⟨⟨v1, v2, v3, v4⟩, -, -, -, -, ⟨v10, -⟩, -⟩ := id h
  have v3 : tI t p 0 = nI (eK (V i)) := v3
  have v4 : eK (V i) < 7 := v4
  have e5 : eK (V i) = 5 → elV V i x = kiV V (.inl i) (plV x (eS (V i)).length) := fun z => by unfold elV; rw [if_pos z]; rfl
  refine cal32 ⟨v1, fun e => ⟨fun e1 => ⟨v1, ?_⟩, fun e1 => ⟨v1, c27 h ⟨v1, ?_⟩⟩⟩, fun e => ?_⟩
  · rw [v3] at e
    have e := (nI_eq (b := 5) (by omega) (by decide)).mp e
    rw [e5 e] at k
    rw [lg_cmp_ge] at e1
    unfold plV at k
    rw [if_neg (Int64.not_lt.mpr e1)] at k
    exact c28 hN h k
  · rw [v3] at e
    have e := (nI_eq (b := 5) (by omega) (by decide)).mp e
    rw [e5 e] at k
    rw [lg_cmp_ge] at e1
    unfold plV at k
    rw [if_pos (Int64.not_le.mp e1)] at k
    show CalG C mtab (d + 4) 28 [svR (some p), svJ (x + (nI (eS (V i)).length).toInt64)] t _
    have v10 : (eS (V i)).length ≤ 300 := v10
    rw [nI_l (by omega)]
    exact c28 hN h k
  · rw [v3] at e
    unfold elV at k
    rw [if_neg (fun z => e (by rw [z]; rfl))] at k
    exact k
theorem ltC_n : ∀ l : List Nat, ltC l [] = false
  | [] => rfl
  | _ :: _ => rfl
/-- charsBefore -/
theorem c147 {x y : Option Nat} {as bs : List Nat} (h1 : chR t 0 x (some as)) (h2 : chR t 0 y (some bs)) (ha : okC as) (hb : okC bs) (k : Post (.inl (some (svI (bI (ltC as bs))))) t) : CalG C mtab (d + 2) 147 [svR x, svR y] t Post := by
  obtain ⟨xa, rfl, -, -, x1, x2, x3⟩ := h1
  obtain ⟨ya, rfl, -, -, y1, y2, y3⟩ := h2
  have ha1 := ha.1
  have hb1 := hb.1
  refine cal147 (fun m l2 l3 t' => t' = t ∧ l2 = nI (min as.length bs.length) ∧ ∃ q, q ≤ min as.length bs.length ∧ m = as.length - q ∧ l3 = nI q ∧ ltC as bs = ltC (as.drop q) (bs.drop q)) ?_ ?_
  · refine ⟨by rw [x1]; decide, by rw [x1]; decide, by rw [y1]; decide, by rw [y1]; decide, c252 ?_⟩
    rw [x2, y2]
    refine ⟨as.length, rfl, rfl, rfl, ?_, 0, Nat.zero_le _, rfl, rfl, rfl⟩
    by_cases z : bs.length < as.length
    · rw [if_pos (nI_lt z (by omega)), Nat.min_eq_right (by omega)]
    · rw [if_neg (nI_nlt (by omega) (by omega)), Nat.min_eq_left (by omega)]
  · rintro m l2 l3 t' ⟨rfl, rfl, q, hq, rfl, rfl, hl⟩
    refine ⟨fun e => ⟨by rw [x1]; decide, by rw [x1]; decide, by rw [y1]; decide, by rw [y1]; decide, ?_⟩, fun e => ⟨x1, ?_, y1, ?_, ?_⟩⟩
    · have hq2 : min as.length bs.length ≤ q := (nI_leI (by omega) (by omega)).mp e
      rw [x2, y2]
      refine ⟨fun e2 => ⟨Or.inl rfl, ?_⟩, fun e2 => ⟨Or.inr rfl, ?_⟩⟩
      · have hle : bs.length ≤ as.length := (nI_leI (by omega) (by omega)).mp e2
        rw [hl, List.drop_eq_nil_of_le (as := bs) (by omega), ltC_n] at k
        exact k
      · have hgt : as.length < bs.length := Nat.not_le.mp (fun z => e2 (nI_le z (by omega)))
        have hqb : q < bs.length := by omega
        rw [hl, List.drop_eq_nil_of_le (as := as) (by omega), List.drop_eq_getElem_cons hqb] at k
        exact k
    · have hq2 : q < min as.length bs.length := Nat.not_le.mp (fun z => e (nI_le z (by omega)))
      rw [x2]; exact vp_in_nI (by omega) (by omega)
    · have hq2 : q < min as.length bs.length := Nat.not_le.mp (fun z => e (nI_le z (by omega)))
      rw [y2]; exact vp_in_nI (by omega) (by omega)
    · have hq2 : q < min as.length bs.length := Nat.not_le.mp (fun z => e (nI_le z (by omega)))
      have hqa : q < as.length := by omega
      have hqb : q < bs.length := by omega
      have ea : as.getD q 0 = as[q] := by simp [List.getD, hqa]
      have eb : bs.getD q 0 = bs[q] := by simp [List.getD, hqb]
      have la := getD_lt (k := q) ha
      have lb := getD_lt (k := q) hb
      rw [nI_clamp (by omega), x3 q hqa, y3 q hqb]
      rw [List.drop_eq_getElem_cons hqa, List.drop_eq_getElem_cons hqb, ltC] at hl
      refine ⟨fun e2 => ⟨as.length - (q + 1), by omega, rfl, rfl, rfl, rfl, q + 1, by omega, rfl, nI_1 q, ?_⟩, fun e2 => ⟨x1, ?_, y1, ?_, ?_⟩⟩
      · have := (nI_eq la lb).mp e2
        rw [hl, if_pos (by omega)]
      · rw [x2]; exact vp_in_nI (by omega) (by omega)
      · rw [y2]; exact vp_in_nI (by omega) (by omega)
      · have hne : as[q] ≠ bs[q] := fun z => e2 (by rw [ea, eb, z])
        rw [hl, if_neg hne] at k
        refine ⟨fun e3 => ⟨Or.inl rfl, ?_⟩, fun e3 => ⟨Or.inr rfl, ?_⟩⟩
        · rw [x3 q hqa, y3 q hqb] at e3
          have := (nI_leI lb la).mp e3
          rw [show decide (as[q] < bs[q]) = false from decide_eq_false (by omega)] at k
          exact k
        · rw [x3 q hqa, y3 q hqb] at e3
          have : as.getD q 0 < bs.getD q 0 := Nat.not_le.mp (fun z => e3 (nI_le z la))
          rw [show decide (as[q] < bs[q]) = true from decide_eq_true (by omega)] at k
          exact k
/-- isLess -/
theorem c24 {o1 o2 : Option Vl} {x y : Option Nat} (h1 : VLo C t G V c o1 x) (h2 : VLo C t G V c o2 y) (k : Post (.inl (some (svI (bI (lsO V o1 o2))))) t) : CalG C mtab (d + 3) 24 [svR x, svR y] t Post := by
  refine cal24 ?_
  rcases h1 with ⟨rfl, rfl⟩ | ⟨a, p, rfl, rfl, h1⟩
  · exact ⟨Or.inl rfl, k⟩
  rcases h2 with ⟨rfl, rfl⟩ | ⟨b, q, rfl, rfl, h2⟩
  · exact ⟨Or.inl rfl, k⟩
  obtain ⟨⟨v1, v2, v3, v4⟩, v5, ⟨v6, v7⟩, -⟩ := id h1
  obtain ⟨⟨w1, w2, w3, w4⟩, w5, ⟨w6, w7⟩, -⟩ := id h2
  have k : Post (.inl (some (svI (bI (if kdV V a = kdV V b then (if kdV V a = 3 then decide (inV V a < inV V b) else if kdV V a = 4 then ltC (chV V a) (chV V b) else false) else false))))) t := k
  refine ⟨v1, w1, fun e => ⟨v1, fun e1 => ⟨v1, w1, fun e2 => ⟨Or.inl rfl, ?_⟩, fun e2 => ⟨Or.inr rfl, ?_⟩⟩, fun e1 => ⟨v1, w1, ?_⟩⟩, fun e => ⟨Or.inl rfl, ?_⟩⟩
  · rw [v3, w3] at e
    have e := (nI_eq (by omega) (by omega)).mp e
    rw [v3] at e1
    have e1 := (nI_eq (b := 3) (by omega) (by decide)).mp e1
    rw [v5 e1, w5 (by omega), lg_cmp_ge] at e2
    rw [if_pos e, if_pos e1, decide_eq_false (Int64.not_lt.mpr e2)] at k
    exact k
  · rw [v3, w3] at e
    have e := (nI_eq (by omega) (by omega)).mp e
    rw [v3] at e1
    have e1 := (nI_eq (b := 3) (by omega) (by decide)).mp e1
    rw [v5 e1, w5 (by omega), lg_cmp_ge] at e2
    rw [if_pos e, if_pos e1, decide_eq_true (Int64.not_le.mp e2)] at k
    exact k
  · rw [v3, w3] at e
    have e := (nI_eq (by omega) (by omega)).mp e
    rw [v3] at e1
    have e1 : ¬ kdV V a = 3 := fun z => e1 (by rw [z]; rfl)
    rw [if_pos e, if_neg e1] at k
    by_cases z : kdV V a = 4
    · rw [if_pos z] at k v6
      rw [if_pos (by omega)] at w6
      refine c147 v6 w6 v7 w7 ⟨?_, k⟩
      cases ltC (chV V a) (chV V b)
      · exact Or.inl rfl
      · exact Or.inr rfl
    · rw [if_neg z] at k v6
      have v6 : tR t p 6 = none := v6
      rw [v6]
      exact cal147 (fun _ _ _ _ => False) ⟨Or.inl rfl, Or.inl rfl, k⟩ (fun _ _ _ _ z => z.elim)
  · rw [v3, w3] at e
    rw [if_neg (fun z => e (by rw [z]))] at k
    exact k
end CE4
