/-! THE COMPONENT'S NODES: node j at gA G j, its list at gK G j, the list's array of gC G j places at gE G j -/
abbrev GT : Type := Nat → Nat × Nat × Nat × Nat
def gA (G : GT) (j : Nat) : Nat := (G j).1
def gK (G : GT) (j : Nat) : Nat := (G j).2.1
def gE (G : GT) (j : Nat) : Nat := (G j).2.2.1
def gC (G : GT) (j : Nat) : Nat := (G j).2.2.2
def chR (t : Ht) (T : Nat) (r : Option Nat) (o : Option (List Nat)) : Prop := match o with
  | none => r = none
  | some cs => ∃ a, r = some a ∧ T ≤ a ∧ a < tN t ∧ IAr t a cs
def oIx (o : Option Nat) : Int32 := match o with
  | none => -1
  | some x => nI x
/-- a string's characters; none while it is not read yet (its list of kids isn't empty then) -/
def cOf (e : Ent) : Option (List Nat) := if eK e = 4 then (if eS e = [] then some (eC e) else none) else none
def NE (C : Cx) (T : Nat) (t : Ht) (G : GT) (V : VT) (j : Nat) : Prop :=
  (T ≤ gA G j ∧ gA G j < tN t ∧ tK t (gA G j) = 3) ∧
  (tI t (gA G j) 0 = nI (eK (V j)) ∧ tR t (gA G j) 1 = (eU (V j)).map (gA G) ∧ tI t (gA G j) 2 = nI (eD (V j)) ∧ tI t (gA G j) 3 = nI j ∧ tJ t (gA G j) 5 = eJ (V j)) ∧
  (chR t T (tR t (gA G j) 6) (cOf (V j)) ∧ chR t T (tR t (gA G j) 7) (eN (V j)) ∧ tI t (gA G j) 8 = oIx (eX (V j)) ∧ tI t (gA G j) 9 = nI (eL (V j))) ∧
  (eK (V j) < 5 → tR t (gA G j) 4 = none) ∧
  (5 ≤ eK (V j) → tR t (gA G j) 4 = some (gK G j) ∧ LsA C t (gK G j) ((eS (V j)).map (gA G)) (gC G j) (gE G j) ∧ T ≤ gK G j ∧ (0 < gC G j → T ≤ gE G j) ∧ gC G j ≤ 450)
def okC (cs : List Nat) : Prop := cs.length ≤ 1200 ∧ ∀ x ∈ cs, x < 2097152
/-- the table's own form -/
def VW (V : VT) (c j : Nat) : Prop := eK (V j) < 7 ∧ eD (V j) ≤ 30 ∧ (∀ p, eU (V j) = some p → p < j) ∧ (∀ k ∈ eS (V j), (5 ≤ eK (V j) → j < k) ∧ k < c) ∧ (eS (V j)).length ≤ c ∧ j < 300 ∧ okC (eC (V j)) ∧ ∀ cs, eN (V j) = some cs → okC cs
/-- the same cell but for slot 10 -/
def s10 (t t' : Ht) (x : Nat) : Prop := tK t' x = tK t x ∧ tL t' x = tL t x ∧ (∀ k, tI t' x k = tI t x k) ∧ (∀ k, tJ t' x k = tJ t x k) ∧ ∀ k, k ≠ 10 → tR t' x k = tR t x k
theorem sameAt.s10 {t t' : Ht} {x : Nat} (h : sameAt t t' x) : s10 t t' x := ⟨h.1, h.2.1, h.2.2.1, h.2.2.2.1, fun k _ => h.2.2.2.2 k⟩
theorem IAr.frame {t t' : Ht} {a : Nat} {cs : List Nat} (h : IAr t a cs) (hs : sameAt t t' a) : IAr t' a cs := ⟨hs.1.trans h.1, hs.2.1.trans h.2.1, fun k hk => (hs.2.2.1 k).trans (h.2.2 k hk)⟩
theorem chR.frame {t t' : Ht} {T : Nat} {r : Option Nat} {o : Option (List Nat)} (h : chR t T r o) (hN : tN t ≤ tN t') (hs : ∀ x, T ≤ x → x < tN t → tK t x = 101 → sameAt t t' x) : chR t' T r o := by
  cases o with
  | none => exact h
  | some cs =>
    obtain ⟨a, h1, h2, h3, h4⟩ := h
    exact ⟨a, h1, h2, by omega, h4.frame (hs a h2 h3 h4.1)⟩
section NV1
variable {C : Cx} {T : Nat} {t t' : Ht} {G G' : GT} {V V' : VT} {c c' j : Nat}
theorem NE.frame (h : NE C T t G V j) (hN : tN t ≤ tN t') (ha : s10 t t' (gA G j)) (hk : 5 ≤ eK (V j) → sameAt t t' (gK G j) ∧ (0 < gC G j → sameAt t t' (gE G j))) (hc : ∀ x, T ≤ x → x < tN t → tK t x = 101 → sameAt t t' x)
    (hV : V' j = V j) (hG : G' j = G j) (hu : ∀ p, eU (V j) = some p → gA G' p = gA G p) (hkid : ∀ k ∈ eS (V j), gA G' k = gA G k) : NE C T t' G' V' j := by
  obtain ⟨⟨a1, a2, a3⟩, ⟨b1, b2, b3, b4, b5⟩, ⟨c1, c2, c3, c4⟩, d1, d2⟩ := h
  obtain ⟨s1, s2, s3, s4, s5⟩ := ha
  have eA : gA G' j = gA G j := by unfold gA; rw [hG]
  have eKk : gK G' j = gK G j := by unfold gK; rw [hG]
  have eEe : gE G' j = gE G j := by unfold gE; rw [hG]
  have eCc : gC G' j = gC G j := by unfold gC; rw [hG]
  have hmap : (eS (V j)).map (gA G') = (eS (V j)).map (gA G) := List.map_congr_left hkid
  have hum : (eU (V j)).map (gA G') = (eU (V j)).map (gA G) := by
    cases he : eU (V j) with
    | none => rfl
    | some p => show some (gA G' p) = some (gA G p); rw [hu p he]
  unfold NE
  rw [hV, eA, eKk, eEe, eCc, hmap, hum]
  refine ⟨⟨a1, by omega, s1.trans a3⟩, ⟨(s3 0).trans b1, (s5 1 (by decide)).trans b2, (s3 2).trans b3, (s3 3).trans b4, (s4 5).trans b5⟩, ⟨?_, ?_, (s3 8).trans c3, (s3 9).trans c4⟩, fun z => (s5 4 (by decide)).trans (d1 z), fun z => ?_⟩
  · rw [s5 6 (by decide)]; exact c1.frame hN hc
  · rw [s5 7 (by decide)]; exact c2.frame hN hc
  · obtain ⟨e1, e2, e3, e4⟩ := d2 z
    obtain ⟨q1, q2⟩ := hk z
    exact ⟨(s5 4 (by decide)).trans e1, e2.frame hN q1 q2, e3, e4⟩
def NV (C : Cx) (T : Nat) (t : Ht) (G : GT) (V : VT) (c : Nat) : Prop :=
  (∀ j, j < c → NE C T t G V j ∧ VW V c j ∧ tR t (gA G j) 10 = (if j + 1 < c then some (gA G (j + 1)) else none)) ∧
  (∀ j k, j < c → k < c → j ≠ k → 5 ≤ eK (V j) → 5 ≤ eK (V k) → gK G j ≠ gK G k ∧ (0 < gC G j → 0 < gC G k → gE G j ≠ gE G k)) ∧ c ≤ 300
theorem NE.ls (h : NE C T t G V j) (hk : 5 ≤ eK (V j)) : tK t (gK G j) = 1 ∧ gK G j < tN t ∧ T ≤ gK G j ∧ (0 < gC G j → tK t (gE G j) = 103 ∧ gE G j < tN t ∧ T ≤ gE G j) := by
  obtain ⟨e1, e2, e3, e4⟩ := h.2.2.2.2 hk
  refine ⟨e2.1, e2.2.2.2.2.1, e3, fun z => ?_⟩
  rcases e2.2.2.2.2.2 with ⟨q1, -⟩ | ⟨-, -, -, q4, q5, -, -⟩
  · omega
  · exact ⟨q5, q4, e4.1 z⟩
theorem NV.inj (h : NV C T t G V c) {k : Nat} (hj : j < c) (hk : k < c) (e : gA G j = gA G k) : j = k := by
  have h1 := (h.1 j hj).1.2.1.2.2.2.1
  have h2 := (h.1 k hk).1.2.1.2.2.2.1
  rw [e, h2] at h1
  have := h.2.2
  exact ((nI_eq (by omega) (by omega)).mp h1).symm
/-- all cells of the nodes stand as they were -/
theorem NV.frame (h : NV C T t G V c) (hN : tN t ≤ tN t') (hs : ∀ x, T ≤ x → x < tN t → (tK t x = 3 ∨ tK t x = 1 ∨ tK t x = 103 ∨ tK t x = 101) → sameAt t t' x) : NV C T t' G V c := by
  refine ⟨fun j hj => ?_, h.2.1, h.2.2⟩
  obtain ⟨h1, h2, h3⟩ := h.1 j hj
  have ha := hs _ h1.1.1 h1.1.2.1 (Or.inl h1.1.2.2)
  refine ⟨h1.frame hN ha.s10 (fun z => ?_) (fun x x1 x2 x3 => hs x x1 x2 (Or.inr (Or.inr (Or.inr x3)))) rfl rfl (fun _ _ => rfl) (fun _ _ => rfl), h2, (ha.2.2.2.2 10).trans h3⟩
  obtain ⟨l1, l2, l3, l4⟩ := h1.ls z
  refine ⟨hs _ l3 l2 (Or.inr (Or.inl l1)), fun y => ?_⟩
  obtain ⟨m1, m2, m3⟩ := l4 y
  exact hs _ m3 m2 (Or.inr (Or.inr (Or.inl m1)))
/-- one node is changed -/
theorem NV.upd {p : Nat} (h : NV C T t G V c) (hp : p < c) (hN : tN t ≤ tN t') (hs : ∀ x, T ≤ x → x < tN t → x ≠ gA G p → (5 ≤ eK (V p) → x ≠ gK G p ∧ (0 < gC G p → x ≠ gE G p)) → sameAt t t' x)
    (hV : ∀ j, j ≠ p → V' j = V j) (hG : ∀ j, j ≠ p → G' j = G j) (hA : gA G' p = gA G p) (hne : NE C T t' G' V' p) (hw : VW V' c p) (h10 : tR t' (gA G p) 10 = tR t (gA G p) 10) (hk : eK (V' p) = eK (V p)) (hKK : 5 ≤ eK (V p) → gK G' p = gK G p) (hE : 5 ≤ eK (V p) → 0 < gC G' p → (0 < gC G p ∧ gE G' p = gE G p) ∨ tN t ≤ gE G' p) : NV C T t' G' V' c := by
  have hgA : ∀ k, gA G' k = gA G k := fun k => by
    by_cases e : k = p
    · rw [e]; exact hA
    · unfold gA; rw [hG k e]
  obtain ⟨np, wp, xp⟩ := h.1 p hp
  have cell : ∀ j, j < c → j ≠ p → ∀ x, T ≤ x → x < tN t → (x = gA G j ∨ (5 ≤ eK (V j) ∧ (x = gK G j ∨ (0 < gC G j ∧ x = gE G j))) ∨ tK t x = 101) → sameAt t t' x := by
    intro j hj hjp x x1 x2 hx
    obtain ⟨nj, -, -⟩ := h.1 j hj
    refine hs x x1 x2 (fun e => ?_) (fun z => ⟨fun e => ?_, fun y e => ?_⟩)
    · rcases hx with hx | ⟨hx1, hx | ⟨hx2, hx⟩⟩ | hx
      · exact hjp (h.inj hj hp (hx.symm.trans e))
      · have q1 := (nj.ls hx1).1
        rw [← hx, e, np.1.2.2] at q1; cases q1
      · have q1 := ((nj.ls hx1).2.2.2 hx2).1
        rw [← hx, e, np.1.2.2] at q1; cases q1
      · rw [e, np.1.2.2] at hx; cases hx
    · have l1 := (np.ls z).1
      rcases hx with hx | ⟨hx1, hx | ⟨hx2, hx⟩⟩ | hx
      · have q1 := nj.1.2.2
        rw [← hx, e, l1] at q1; cases q1
      · exact (h.2.1 j p hj hp hjp hx1 z).1 (hx.symm.trans e)
      · have q1 := ((nj.ls hx1).2.2.2 hx2).1
        rw [← hx, e, l1] at q1; cases q1
      · rw [e, l1] at hx; cases hx
    · have l1 := ((np.ls z).2.2.2 y).1
      rcases hx with hx | ⟨hx1, hx | ⟨hx2, hx⟩⟩ | hx
      · have q1 := nj.1.2.2
        rw [← hx, e, l1] at q1; cases q1
      · have q1 := (nj.ls hx1).1
        rw [← hx, e, l1] at q1; cases q1
      · exact (h.2.1 j p hj hp hjp hx1 z).2 hx2 y (hx.symm.trans e)
      · rw [e, l1] at hx; cases hx
  refine ⟨fun j hj => ?_, ?_, h.2.2⟩
  · by_cases e : j = p
    · subst e
      refine ⟨hne, hw, ?_⟩
      rw [hA, h10, xp, hgA]
    · obtain ⟨nj, wj, xj⟩ := h.1 j hj
      have sa := cell j hj e _ nj.1.1 nj.1.2.1 (Or.inl rfl)
      refine ⟨nj.frame hN sa.s10 (fun z => ?_) (fun x x1 x2 x3 => cell j hj e x x1 x2 (Or.inr (Or.inr x3))) (hV j e) (hG j e) (fun q _ => hgA q) (fun q _ => hgA q), ?_, ?_⟩
      · obtain ⟨l1, l2, l3, l4⟩ := nj.ls z
        refine ⟨cell j hj e _ l3 l2 (Or.inr (Or.inl ⟨z, Or.inl rfl⟩)), fun y => ?_⟩
        obtain ⟨m1, m2, m3⟩ := l4 y
        exact cell j hj e _ m3 m2 (Or.inr (Or.inl ⟨z, Or.inr ⟨y, rfl⟩⟩))
      · unfold VW; rw [hV j e]; exact wj
      · rw [hgA, sa.2.2.2.2 10, xj, hgA]
  · have key : ∀ j, j < c → j ≠ p → 5 ≤ eK (V j) → 5 ≤ eK (V p) → gK G' j ≠ gK G' p ∧ (0 < gC G' j → 0 < gC G' p → gE G' j ≠ gE G' p) := by
      intro j hj hjp z1 z2
      obtain ⟨nj, -, -⟩ := h.1 j hj
      have d := h.2.1 j p hj hp hjp z1 z2
      have f1 : gK G' j = gK G j := by unfold gK; rw [hG j hjp]
      have f2 : gC G' j = gC G j := by unfold gC; rw [hG j hjp]
      have f3 : gE G' j = gE G j := by unfold gE; rw [hG j hjp]
      rw [f1, f2, f3, hKK z2]
      refine ⟨d.1, fun y1 y2 e => ?_⟩
      rcases hE z2 y2 with ⟨w1, w2⟩ | w
      · rw [w2] at e; exact d.2 y1 w1 e
      · have := ((nj.ls z1).2.2.2 y1).2.1; omega
    intro j k hj hk' hjk z1 z2
    by_cases ej : j = p
    · subst ej
      have ek : k ≠ j := fun e => hjk e.symm
      rw [hV k ek] at z2
      rw [hk] at z1
      obtain ⟨q1, q2⟩ := key k hk' ek z2 z1
      exact ⟨fun e => q1 e.symm, fun y1 y2 e => q2 y2 y1 e.symm⟩
    · rw [hV j ej] at z1
      by_cases ek : k = p
      · subst ek
        rw [hk] at z2
        exact key j hj ej z1 z2
      · rw [hV k ek] at z2
        have f1 : G' j = G j := hG j ej
        have f2 : G' k = G k := hG k ek
        have d := h.2.1 j k hj hk' hjk z1 z2
        unfold gK gC gE at d ⊢
        rw [f1, f2]; exact d
/-- one node more -/
theorem NV.new (h : NV C T t G V c) (hc : c < 300) (hN : tN t ≤ tN t') (hs : ∀ x, T ≤ x → x < tN t → (∀ q, c = q + 1 → x ≠ gA G q) → sameAt t t' x) (hl : ∀ q, c = q + 1 → s10 t t' (gA G q) ∧ tR t' (gA G q) 10 = some (gA G' c))
    (hV : ∀ j, j < c → V' j = V j) (hG : ∀ j, j < c → G' j = G j) (hne : NE C T t' G' V' c) (hw : VW V' (c + 1) c) (h10 : tR t' (gA G' c) 10 = none) (hK : 5 ≤ eK (V' c) → tN t ≤ gK G' c) (hC : gC G' c = 0) : NV C T t' G' V' (c + 1) := by
  have hgA : ∀ k, k < c → gA G' k = gA G k := fun k hk => by unfold gA; rw [hG k hk]
  have hother : ∀ x, T ≤ x → x < tN t → tK t x ≠ 3 → sameAt t t' x := fun x x1 x2 x3 => hs x x1 x2 (fun q hq e => x3 (by rw [e]; exact (h.1 q (by omega)).1.1.2.2))
  have hother2 : ∀ j, j < c → j + 1 < c → sameAt t t' (gA G j) := fun j hj hj2 => by
    obtain ⟨nj, -, -⟩ := h.1 j hj
    refine hs _ nj.1.1 nj.1.2.1 (fun q hq e => ?_)
    have := h.inj hj (by omega) e
    omega
  refine ⟨fun j hj => ?_, ?_, by omega⟩
  · by_cases e : j = c
    · subst e
      refine ⟨hne, hw, ?_⟩
      rw [if_neg (by omega)]; exact h10
    · have hj' : j < c := by omega
      obtain ⟨nj, wj, xj⟩ := h.1 j hj'
      have sa : s10 t t' (gA G j) := by
        by_cases z : j + 1 < c
        · exact (hother2 j hj' z).s10
        · exact (hl j (by omega)).1
      refine ⟨nj.frame hN sa (fun z => ?_) (fun x x1 x2 x3 => hother x x1 x2 (by rw [x3]; decide)) (hV j hj') (hG j hj') (fun q hq => hgA q (by have := wj.2.2.1 q hq; omega)) (fun q hq => hgA q ((wj.2.2.2.1 q hq).2)), ?_, ?_⟩
      · obtain ⟨l1, l2, l3, l4⟩ := nj.ls z
        refine ⟨hother _ l3 l2 (by rw [l1]; decide), fun y => ?_⟩
        obtain ⟨m1, m2, m3⟩ := l4 y
        exact hother _ m3 m2 (by rw [m1]; decide)
      · obtain ⟨w1, w2, w3, w4, w5, w6⟩ := wj
        unfold VW; rw [hV j hj']
        exact ⟨w1, w2, w3, fun k hk => ⟨(w4 k hk).1, by have := (w4 k hk).2; omega⟩, by omega, w6⟩
      · rw [hgA j hj', if_pos (by omega)]
        by_cases z : j + 1 < c
        · rw [(hother2 j hj' z).2.2.2.2 10, xj, if_pos z, hgA (j + 1) z]
        · obtain ⟨-, z2⟩ := hl j (by omega)
          rw [z2, show j + 1 = c by omega]
  · have key : ∀ j, j < c → 5 ≤ eK (V j) → 5 ≤ eK (V' c) → gK G' j ≠ gK G' c := by
      intro j hj z1 z2 e
      obtain ⟨nj, -, -⟩ := h.1 j hj
      have f1 : gK G' j = gK G j := by unfold gK; rw [hG j hj]
      have := (nj.ls z1).2.1
      have := hK z2
      omega
    intro j k hj hk hjk z1 z2
    by_cases ej : j = c
    · subst ej
      have hk' : k < j := by omega
      rw [hV k hk'] at z2
      exact ⟨fun e => key k hk' z2 z1 e.symm, fun y => by omega⟩
    · have hj' : j < c := by omega
      rw [hV j hj'] at z1
      by_cases ek : k = c
      · subst ek
        exact ⟨key j hj' z1 z2, fun _ y => by omega⟩
      · have hk' : k < c := by omega
        rw [hV k hk'] at z2
        have f1 : G' j = G j := hG j hj'
        have f2 : G' k = G k := hG k hk'
        have d := h.2.1 j k hj' hk' hjk z1 z2
        unfold gK gC gE at d ⊢
        rw [f1, f2]; exact d
end NV1
