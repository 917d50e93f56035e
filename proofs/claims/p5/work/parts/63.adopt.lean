/-! adopt -/
def AdF (T : Nat) (t t' : Ht) : Prop := tN t ≤ tN t' ∧ tN t' ≤ tN t + 1 ∧ tU t ≤ tU t' ∧ tU t' ≤ tU t + 450 ∧ ∀ x, x < tN t → (x < T ∨ (tK t x ≠ 3 ∧ tK t x ≠ 1 ∧ tK t x ≠ 103)) → sameAt t t' x
section AD
variable {C : Cx} {d : Nat} {Post : OutT → Ht → Prop} {t t' : Ht} {T : Nat} {G G' : GT} {V V' : VT} {c : Nat}
theorem gA_up {g : Nat × Nat × Nat × Nat} {p : Nat} (h : g.1 = gA G p) (j : Nat) : gA (up1 G p g) j = gA G j := by
  unfold gA up1
  by_cases e : j = p
  · rw [if_pos e, e]; exact h
  · rw [if_neg e]
theorem up1_eq {α : Type} {f : Nat → α} {a : Nat} {x : α} : up1 f a x a = x := if_pos rfl
theorem up1_ne {α : Type} {f : Nat → α} {a b : Nat} {x : α} (h : b ≠ a) : up1 f a x b = f b := if_neg h
/-- the name and the index of a kid are told -/
theorem NV.name {q : Nat} {y : Option Nat} {nm : Option (List Nat)} {ix : Option Nat} (h : NV C T t G V c) (hq : q < c) (hy : chR t T y nm) (hnm : ∀ cs, nm = some cs → okC cs) (hN : tN t' = tN t) (hs : ∀ x, x ≠ gA G q → sameAt t t' x) (hK : tK t' (gA G q) = tK t (gA G q))
    (hI : ∀ k, k ≠ 8 → tI t' (gA G q) k = tI t (gA G q) k) (hI8 : tI t' (gA G q) 8 = oIx ix) (hJ : ∀ k, tJ t' (gA G q) k = tJ t (gA G q) k) (hR : ∀ k, k ≠ 7 → tR t' (gA G q) k = tR t (gA G q) k) (hR7 : tR t' (gA G q) 7 = y) : NV C T t' G (up1 V q (eNam (V q) nm ix)) c := by
  obtain ⟨nq, wq, xq⟩ := h.1 q hq
  obtain ⟨⟨a1, a2, a3⟩, ⟨b1, b2, b3, b4, b5⟩, ⟨c1, c2, c3, c4⟩, d1, d2⟩ := nq
  obtain ⟨w1, w2, w3, w4, w5, w6, w7, w8⟩ := wq
  have h101 : ∀ x, T ≤ x → x < tN t → tK t x = 101 → sameAt t t' x := fun x _ _ z => hs x (fun e => by rw [e, a3] at z; cases z)
  have hself := up1_eq (f := V) (a := q) (x := eNam (V q) nm ix)
  refine h.upd hq (by omega) (fun x _ _ hx _ => hs x hx) (fun j hj => up1_ne hj) (fun _ _ => rfl) rfl ?_ ?_ (hR 10 (by decide)) (by rw [hself]; rfl) (fun _ => rfl) (fun _ z => Or.inl ⟨z, rfl⟩)
  · unfold NE
    rw [hself]
    refine ⟨⟨a1, by omega, hK.trans a3⟩, ⟨(hI 0 (by decide)).trans b1, (hR 1 (by decide)).trans b2, (hI 2 (by decide)).trans b3, (hI 3 (by decide)).trans b4, (hJ 5).trans b5⟩, ⟨?_, ?_, hI8, (hI 9 (by decide)).trans c4⟩, fun z => (hR 4 (by decide)).trans (d1 z), fun z => ?_⟩
    · rw [hR 6 (by decide)]; exact c1.frame (by omega) h101
    · rw [hR7]; exact hy.frame (by omega) h101
    · obtain ⟨e1, e2, e3, e4, e5⟩ := d2 z
      refine ⟨(hR 4 (by decide)).trans e1, e2.frame (by omega) (hs _ (fun e => ?_)) (fun y => hs _ (fun e => ?_)), e3, e4, e5⟩
      · have := e2.1; rw [e, a3] at this; cases this
      · rcases e2.2.2.2.2.2 with ⟨q1, -⟩ | ⟨-, -, -, -, q5, -, -⟩
        · omega
        · rw [e, a3] at q5; cases q5
  · unfold VW; rw [hself]; exact ⟨w1, w2, w3, w4, w5, w6, w7, hnm⟩
/-- a kid comes to the list of p -/
theorem NV.add {p q c' e' : Nat} (h : NV C T t G V c) (hp : p < c) (hq : q < c) (hpq : p < q) (h5 : 5 ≤ eK (V p)) (hlen : (eS (V p)).length < c) (hl : LsA C t' (gK G p) ((eS (V p)).map (gA G) ++ [gA G q]) c' e') (hf : AddF t t' (gK G p) (gC G p) (gE G p) ((eS (V p)).map (gA G)).length c' e') :
    NV C T t' (up1 G p (gA G p, gK G p, e', c')) (up1 V p (eAdd (V p) q)) c ∧ AdF T t t' := by
  obtain ⟨np, wp, xp⟩ := h.1 p hp
  have np0 := np
  obtain ⟨⟨a1, a2, a3⟩, ⟨b1, b2, b3, b4, b5⟩, ⟨c1, c2, c3, c4⟩, d1, d2⟩ := np
  obtain ⟨w1, w2, w3, w4, w5, w6, w7, w8⟩ := wp
  obtain ⟨e1, e2, e3, e4, e5⟩ := d2 h5
  have hc3 := h.2.2
  obtain ⟨l1, l2, l3, l4⟩ := np0.ls h5
  have hml : ((eS (V p)).map (gA G)).length = (eS (V p)).length := List.length_map _
  obtain ⟨f1, f2⟩ := hf
  rw [hml] at f2
  have hN : tN t ≤ tN t' ∧ tN t' ≤ tN t + 1 ∧ tU t ≤ tU t' ∧ tU t' ≤ tU t + 450 ∧ c' ≤ 450 := by
    rcases f2 with ⟨g1, g2, g3, g4, g5⟩ | ⟨g1, g2, g3, g4, g5⟩
    · omega
    · have : gr (gC G p) ≤ 450 := by unfold gr; split <;> omega
      omega
  have hsame : ∀ x, x < tN t → tK t x ≠ 1 → tK t x ≠ 103 → sameAt t t' x := fun x x1 x2 x3 => f1 x x1 (fun e => x2 (by rw [e]; exact l1)) (fun y e => x3 (by rw [e]; exact (l4 y).1))
  have sa := hsame _ a2 (by rw [a3]; decide) (by rw [a3]; decide)
  have hself := up1_eq (f := V) (a := p) (x := eAdd (V p) q)
  have hselfG := up1_eq (f := G) (a := p) (x := (gA G p, gK G p, e', c'))
  have hgA : ∀ j, gA (up1 G p (gA G p, gK G p, e', c')) j = gA G j := gA_up rfl
  have hmap : (eS (eAdd (V p) q)).map (gA (up1 G p (gA G p, gK G p, e', c'))) = (eS (V p)).map (gA G) ++ [gA G q] := by
    show ((eS (V p)) ++ [q]).map _ = _
    rw [List.map_append, List.map_congr_left (fun j _ => hgA j)]
    show _ ++ [gA _ q] = _
    rw [hgA]
  have hum : (eU (V p)).map (gA (up1 G p (gA G p, gK G p, e', c'))) = (eU (V p)).map (gA G) := by
    cases eU (V p) with
    | none => rfl
    | some z => show some (gA _ z) = some (gA G z); rw [hgA]
  have hcof : cOf (eAdd (V p) q) = cOf (V p) := by
    have e1 : ¬ eK (eAdd (V p) q) = 4 := fun z => by have : eK (V p) = 4 := z; omega
    have e2 : ¬ eK (V p) = 4 := fun z => by omega
    unfold cOf; rw [if_neg e1, if_neg e2]
  have hE : 0 < c' → (0 < gC G p ∧ e' = gE G p) ∨ tN t ≤ e' := fun z => by
    rcases f2 with ⟨g1, g2, g3, g4, g5⟩ | ⟨g1, g2, g3, g4, g5⟩
    · exact Or.inl ⟨by omega, g3⟩
    · exact Or.inr (by omega)
  have hTN : T ≤ tN t := by omega
  refine ⟨h.upd hp hN.1 (fun x x1 x2 x3 x4 => f1 x x2 (x4 h5).1 (x4 h5).2) (fun j hj => up1_ne hj) (fun j hj => up1_ne hj) (hgA p) ?_ ?_ (sa.2.2.2.2 10) (by rw [hself]; rfl) (fun _ => congrArg (fun z => z.2.1) hselfG) (fun _ z => ?_), hN.1, hN.2.1, hN.2.2.1, hN.2.2.2.1, fun x x1 x2 => ?_⟩
  · unfold NE
    rw [hself, hgA, hmap]
    have k1 : gK (up1 G p (gA G p, gK G p, e', c')) p = gK G p := congrArg (fun z => z.2.1) hselfG
    have k2 : gE (up1 G p (gA G p, gK G p, e', c')) p = e' := by unfold gE; rw [hselfG]
    have k3 : gC (up1 G p (gA G p, gK G p, e', c')) p = c' := by unfold gC; rw [hselfG]
    rw [k1, k2, k3]
    have h101 : ∀ x, T ≤ x → x < tN t → tK t x = 101 → sameAt t t' x := fun x _ x2 z => hsame x x2 (by rw [z]; decide) (by rw [z]; decide)
    refine ⟨⟨a1, by omega, sa.1.trans a3⟩, ⟨(sa.2.2.1 0).trans b1, ?_, (sa.2.2.1 2).trans b3, (sa.2.2.1 3).trans b4, (sa.2.2.2.1 5).trans b5⟩, ⟨?_, ?_, (sa.2.2.1 8).trans c3, (sa.2.2.1 9).trans c4⟩, fun z => (sa.2.2.2.2 4).trans (d1 z), fun z => ⟨(sa.2.2.2.2 4).trans e1, hl, e3, fun y => ?_, hN.2.2.2.2⟩⟩
    · show tR t' (gA G p) 1 = (eU (V p)).map _
      rw [hum]; exact (sa.2.2.2.2 1).trans b2
    · rw [sa.2.2.2.2 6, hcof]; exact c1.frame hN.1 h101
    · rw [sa.2.2.2.2 7]; exact c2.frame hN.1 h101
    · rcases hE y with ⟨z1, z2⟩ | z
      · rw [z2]; exact e4 z1
      · omega
  · unfold VW; rw [hself]
    refine ⟨w1, w2, w3, fun k hk => ?_, ?_, w6, w7, w8⟩
    · rcases List.mem_append.mp hk with hk | hk
      · exact w4 k hk
      · rw [List.mem_singleton.mp hk]; exact ⟨fun _ => hpq, hq⟩
    · show (eS (V p) ++ [q]).length ≤ c
      rw [List.length_append]; show (eS (V p)).length + 1 ≤ c; omega
  · unfold gC at z
    rw [hselfG] at z
    have k2 : gE (up1 G p (gA G p, gK G p, e', c')) p = e' := by unfold gE; rw [hselfG]
    rw [k2]; exact hE z
  · rcases x2 with x2 | ⟨x2, x3, x4⟩
    · refine f1 x x1 (fun e => by omega) (fun y e => ?_)
      have := (l4 y).2.2; omega
    · exact hsame x x1 x3 x4
/-- adopt -/
theorem r30 {p q : Nat} {y : Option Nat} {nm : Option (List Nat)} (h : NV C T t G V c) (hp : p < c) (hq : q < c) (hpq : p < q) (h5 : 5 ≤ eK (V p)) (hy : chR t T y nm) (hnm : ∀ cs, nm = some cs → okC cs) (hlen : (eS (V p)).length < c) (hx : eX (V q) = none)
    (k : ∀ t' G', NV C T t' G' (vAdo V p q nm) c → (∀ j, gA G' j = gA G j) → AdF T t t' → Post (.inl none) t') : CalG C mtab (d + 8) 30 [svR (some (gA G p)), svR (some (gA G q)), svR y] t Post := by
  obtain ⟨np, wp, xp⟩ := h.1 p hp
  obtain ⟨nq, wq, xq⟩ := h.1 q hq
  have hc3 := h.2.2
  have hne : gA G p ≠ gA G q := fun e => by have := h.inj hp hq e; omega
  have hqp : ¬ gA G q = gA G p := fun e => hne e.symm
  have hKp := np.1.2.2
  have hKq := nq.1.2.2
  obtain ⟨l1, l2, l3, l4, l5⟩ := np.2.2.2.2 h5
  have hml : ((eS (V p)).map (gA G)).length = (eS (V p)).length := List.length_map _
  have hlq : ¬ gK G p = gA G q := fun e => by have := l2.1; rw [e, hKq] at this; cases this
  have fin : ∀ t1, NV C T t1 G (up1 V q (eNam (V q) nm (kIx (V p)))) c → tN t1 = tN t → tU t1 = tU t → (∀ x, x ≠ gA G q → sameAt t t1 x) → CalG C mtab (d + 7) 273 [svR (some (gK G p)), svR (some (gA G q))] t1 (aftV (fun v5 t6 => rI v5 (fun x10 => Post (.inl none) t6)) (fun k7 q8 t9 => Post (.inr (k7, q8)) t9)) := by
    intro t1 hv hN hU hs
    have eVp : up1 V q (eNam (V q) nm (kIx (V p))) p = V p := up1_ne (by omega)
    obtain ⟨np1, wp1, -⟩ := hv.1 p hp
    rw [NE, eVp] at np1
    obtain ⟨m1, m2, m3, m4, m5⟩ := np1.2.2.2.2 h5
    have hkid : ∀ z ∈ (eS (V p)).map (gA G), z < tN t1 ∧ kE (tK t1 z) := fun z hz => by
      obtain ⟨j, hj, rfl⟩ := List.mem_map.mp hz
      obtain ⟨nj, -, -⟩ := hv.1 j (wp.2.2.2.1 j hj).2
      exact ⟨nj.1.2.1, by rw [nj.1.2.2]; exact Or.inl rfl⟩
    obtain ⟨nq1, -, -⟩ := hv.1 q hq
    refine s273 m2 (by omega) hkid nq1.1.2.1 (by rw [nq1.1.2.2]; exact Or.inl rfl) (fun t' c' e' g1 g2 => ?_)
    have h5' : 5 ≤ eK (up1 V q (eNam (V q) nm (kIx (V p))) p) := by rw [eVp]; exact h5
    have := NV.add hv hp hq hpq h5' (by rw [eVp]; exact hlen) (by rw [eVp]; exact g1) (by rw [eVp]; exact g2)
    rw [eVp] at this
    obtain ⟨z1, z2, z3, z4, z5, z6⟩ := this
    refine k t' _ z1 (gA_up rfl) ⟨by omega, by omega, by omega, by omega, fun x x1 x2 => ?_⟩
    have hxq : x ≠ gA G q := fun e => by
      rcases x2 with x2 | x2
      · have := nq.1.1; omega
      · exact x2.1 (by rw [e]; exact hKq)
    have s1 := hs x hxq
    refine s1.trans (z6 x (by omega) ?_)
    rcases x2 with x2 | x2
    · exact Or.inl x2
    · rw [s1.1]; exact Or.inr x2
  refine cal30 ?_
  unfold vc30
  rw [l1]
  refine ⟨hKp, hKq, hKp, ?_⟩
  have e0 : tI (sR t (gA G q) 7 y) (gA G p) 0 = nI (eK (V p)) := np.2.1.1
  have e4 : tR (sR t (gA G q) 7 y) (gA G p) 4 = some (gK G p) := by simp [ht, hne, l1]
  rw [e0, e4]
  have eix : tI t (gA G q) 8 = -1 := by rw [nq.2.2.1.2.2.1, hx]; rfl
  refine ⟨fun e => ?_, fun e => ?_⟩
  · have hk5 : eK (V p) = 5 := (nI_eq (b := 5) (by have := wp.1; omega) (by decide)).mp e
    have hkix : kIx (V p) = some (eS (V p)).length := if_pos hk5
    refine ⟨hKp, l2.1, s269 l2.1 ?_⟩
    show tK (sR t (gA G q) 7 y) (gA G q) = 3 ∧ _
    have e2 : tI (sR t (gA G q) 7 y) (gK G p) 2 = nI (eS (V p)).length := by show tI t (gK G p) 2 = _; rw [l2.2.1, hml]
    rw [e2]
    have e4' : tR (sI (sR t (gA G q) 7 y) (gA G q) 8 (nI (eS (V p)).length)) (gA G p) 4 = some (gK G p) := e4
    refine ⟨hKq, hKp, ?_⟩
    rw [e4']
    refine ⟨l2.1, fin _ (h.name hq hy hnm rfl (fun x hx => ⟨rfl, rfl, fun j => ?_, fun j => rfl, fun j => ?_⟩) rfl (fun j hj => ?_) ?_ (fun j => rfl) (fun j hj => ?_) ?_) rfl rfl (fun x hx => ⟨rfl, rfl, fun j => ?_, fun j => rfl, fun j => ?_⟩)⟩
    · simp [ht, hx]
    · simp [ht, hx]
    · simp [ht, hj]
    · simp [ht, hkix, oIx]
    · simp [ht, hj]
    · simp [ht]
    · simp [ht, hx]
    · simp [ht, hx]
  · have hk5 : ¬ eK (V p) = 5 := fun z => e (by rw [z]; rfl)
    have hkix : kIx (V p) = none := if_neg hk5
    refine ⟨hKp, l2.1, fin _ (h.name hq hy hnm rfl (fun x hx => ⟨rfl, rfl, fun j => rfl, fun j => rfl, fun j => ?_⟩) rfl (fun j hj => rfl) ?_ (fun j => rfl) (fun j hj => ?_) ?_) rfl rfl (fun x hx => ⟨rfl, rfl, fun j => rfl, fun j => rfl, fun j => ?_⟩)⟩
    · simp [ht, hx]
    · rw [hkix]; exact eix
    · simp [ht, hj]
    · simp [ht]
    · simp [ht, hx]
end AD
