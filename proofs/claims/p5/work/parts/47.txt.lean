/-! STRINGS OF A TEXT -/
def stF (b : By) (n : Nat) (q : Int32) : Nat → Nat → List Nat → (List Nat × Nat) ⊕ Nat
  | 0, i, _ => .inr i
  | f + 1, i, cs => if pk b n i = q then .inl (cs, i + 1) else if ¬ (32 : Int32) ≤ pk b n i then .inr i else
    if pk b n i = 92 then (match esS b n q i with
      | .inl (c, j) => stF b n q f j (cs ++ [c])
      | .inr p => .inr p) else match cpS b n i with
      | some (l, v) => stF b n q f (i + l) (cs ++ [v])
      | none => .inr i
/-- the string whose quote q stands just ahead of i -/
def stS (b : By) (n : Nat) (q : Int32) (i : Nat) : (List Nat × Nat) ⊕ Nat := stF b n q (n + 1 - i) i []
/-- an array of ints -/
def IAr (t : Ht) (a : Nat) (cs : List Nat) : Prop := tK t a = 101 ∧ tL t a = cs.length ∧ ∀ k, k < cs.length → tI t a k = nI (cs.getD k 0)
/-- what reading may change: the reader's own numbers and its buffer; cells are only added -/
def RX (r ch : Nat) (t t' : Ht) : Prop := tN t ≤ tN t' ∧ (∀ x, x < tN t → tK t' x = tK t x ∧ tL t' x = tL t x ∧ (∀ k, tR t' x k = tR t x k) ∧ (∀ k, tJ t' x k = tJ t x k)) ∧ (∀ x k, x < tN t → x ≠ ch → (x ≠ r ∨ (k ≠ 2 ∧ k ≠ 4)) → tI t' x k = tI t x k)
theorem RX.rfl' {r ch : Nat} {t : Ht} : RX r ch t t := ⟨Nat.le_refl _, fun _ _ => ⟨rfl, rfl, fun _ => rfl, fun _ => rfl⟩, fun _ _ _ _ _ => rfl⟩
theorem RX.trans {r ch : Nat} {t t1 t2 : Ht} (h : RX r ch t t1) (g : RX r ch t1 t2) : RX r ch t t2 := by
  obtain ⟨h1, h2, h3⟩ := h
  obtain ⟨g1, g2, g3⟩ := g
  refine ⟨by omega, fun x hx => ?_, fun x k hx hc hr => ?_⟩
  · obtain ⟨a1, a2, a3, a4⟩ := h2 x hx
    obtain ⟨b1, b2, b3, b4⟩ := g2 x (by omega)
    exact ⟨b1.trans a1, b2.trans a2, fun k => (b3 k).trans (a3 k), fun k => (b4 k).trans (a4 k)⟩
  · exact (g3 x k (by omega) hc hr).trans (h3 x k hx hc hr)
theorem RX.I {r ch k : Nat} {t : Ht} {x : Int32} (hk : k = 2 ∨ k = 4) : RX r ch t (sI t r k x) := by
  refine ⟨Nat.le_refl _, fun y _ => ⟨rfl, rfl, fun _ => rfl, fun _ => rfl⟩, fun y j _ _ hr => ?_⟩
  rw [(by simp [ht] : tI (sI t r k x) y j = if y = r ∧ j = k then x else tI t y j), if_neg]
  rintro ⟨rfl, rfl⟩
  rcases hr with z | z
  · exact z rfl
  · omega
theorem RX.C {r ch k : Nat} {t : Ht} {x : Int32} : RX r ch t (sI t ch k x) := by
  refine ⟨Nat.le_refl _, fun y _ => ⟨rfl, rfl, fun _ => rfl, fun _ => rfl⟩, fun y j _ hc _ => ?_⟩
  rw [(by simp [ht] : tI (sI t ch k x) y j = if y = ch ∧ j = k then x else tI t y j), if_neg]
  rintro ⟨rfl, -⟩
  exact hc rfl
theorem RX.N {r ch kd l u : Nat} {t : Ht} : RX r ch t (tNew t kd l u) := by
  refine ⟨Nat.le_succ _, fun y hy => ?_, fun y j hy _ _ => ?_⟩
  · have hne : ¬ y = tN t := by omega
    exact ⟨by simp [ht, hne], by simp [ht, hne], fun k => by simp [ht, hne], fun k => by simp [ht, hne]⟩
  · have hne : ¬ y = tN t := by omega
    simp [ht, hne]
/-- the same with a fault told -/
def RY (r ch : Nat) (t t' : Ht) : Prop := tN t ≤ tN t' ∧ (∀ x, x < tN t → tK t' x = tK t x ∧ tL t' x = tL t x ∧ (∀ k, tR t' x k = tR t x k) ∧ (∀ k, tJ t' x k = tJ t x k)) ∧ (∀ x k, x < tN t → x ≠ ch → (x ≠ r ∨ (k ≠ 2 ∧ k ≠ 4 ∧ k ≠ 5 ∧ k ≠ 6)) → tI t' x k = tI t x k)
theorem RX.y {r ch : Nat} {t t' : Ht} (h : RX r ch t t') : RY r ch t t' := ⟨h.1, h.2.1, fun x k h1 h2 h3 => h.2.2 x k h1 h2 (h3.imp id (fun z => ⟨z.1, z.2.1⟩))⟩
theorem RY.trans {r ch : Nat} {t t1 t2 : Ht} (h : RY r ch t t1) (g : RY r ch t1 t2) : RY r ch t t2 := by
  obtain ⟨h1, h2, h3⟩ := h
  obtain ⟨g1, g2, g3⟩ := g
  refine ⟨by omega, fun x hx => ?_, fun x k hx hc hr => ?_⟩
  · obtain ⟨a1, a2, a3, a4⟩ := h2 x hx
    obtain ⟨b1, b2, b3, b4⟩ := g2 x (by omega)
    exact ⟨b1.trans a1, b2.trans a2, fun k => (b3 k).trans (a3 k), fun k => (b4 k).trans (a4 k)⟩
  · exact (g3 x k (by omega) hc hr).trans (h3 x k hx hc hr)
theorem RY.I {r ch k : Nat} {t : Ht} {x : Int32} (hk : k = 5 ∨ k = 6) : RY r ch t (sI t r k x) := by
  refine ⟨Nat.le_refl _, fun y _ => ⟨rfl, rfl, fun _ => rfl, fun _ => rfl⟩, fun y j _ _ hr => ?_⟩
  rw [(by simp [ht] : tI (sI t r k x) y j = if y = r ∧ j = k then x else tI t y j), if_neg]
  rintro ⟨rfl, rfl⟩
  rcases hr with z | z
  · exact z rfl
  · omega
section TX
variable {C : Cx} {d : Nat} {Post : OutT → Ht → Prop} {t : Ht} {r tp ch : Nat} {b : By} {n i : Nat}
/-- the reader with its buffer -/
def RB (t : Ht) (r tp ch : Nat) (b : By) (n i : Nat) : Prop := RD t r tp b n i ∧ tR t r 1 = some ch ∧ tK t ch = 101 ∧ tL t ch = 1200 ∧ ch < tN t ∧ r < tN t ∧ tp < tN t
theorem RB.ne (h : RB t r tp ch b n i) : r ≠ ch ∧ tp ≠ ch ∧ tp ≠ r := by
  have h1 := h.1.1
  have h2 := h.1.2.2.1
  have h3 := h.2.2.1
  refine ⟨fun e => ?_, fun e => ?_, h.1.ne⟩
  · rw [← e, h1] at h3; cases h3
  · rw [← e, h2] at h3; cases h3
theorem RB.x {t' : Ht} {j : Nat} (h : RB t r tp ch b n i) (hx : RX r ch t t') (hj : tI t' r 4 = nI j) (hj2 : j ≤ 1201) : RB t' r tp ch b n j := by
  obtain ⟨n1, n2, n3⟩ := h.ne
  obtain ⟨⟨g1, g2, g3, g4, g5, g6, g7, g8, g9, g10⟩, g11, g12, g13, g14, g15, g16⟩ := h
  obtain ⟨x1, x2, x3⟩ := hx
  obtain ⟨a1, a2, a3, a4⟩ := x2 r g15
  obtain ⟨c1, c2, c3, c4⟩ := x2 tp g16
  obtain ⟨e1, e2, e3, e4⟩ := x2 ch g14
  refine ⟨⟨a1.trans g1, (a3 0).trans g2, c1.trans g3, c2.trans g4, ?_, hj, g7, hj2, g9, fun k hk => ?_⟩, (a3 1).trans g11, e1.trans g12, e2.trans g13, by omega, by omega, by omega⟩
  · rw [x3 r 3 g15 n1 (Or.inr (by decide))]; exact g5
  · rw [x3 tp k g16 n2 (Or.inl n3)]; exact g10 k hk
/-- a fault w at p, told by the reader -/
def BD (r ch : Nat) (t t' : Ht) (w p : Nat) : Prop := RY r ch t t' ∧ tN t' = tN t + 1 ∧ tU t' = tU t + 6 ∧ tI t' r 5 = nI w ∧ tI t' r 6 = nI p
theorem BD.fl {t' : Ht} {w p : Nat} (hx : RX r ch t t') (hn : tN t' = tN t) (hu : tU t' = tU t) (hr : r < tN t) : BD r ch t (flH t' r (nI w) (nI p)) w p := by
  have hne : ¬ r = tN t' := by omega
  refine ⟨hx.y.trans ((RY.I (Or.inl rfl)).trans ((RY.I (Or.inr rfl)).trans RX.N.y)), ?_, ?_, ?_, ?_⟩
  · show tN t' + 1 = _; omega
  · show tU t' + 6 = _; omega
  · simp [flH, ht, hne]
  · simp [flH, ht, hne]
/-- the state of a string's reading: what was kept, the place -/
def SB (t t' : Ht) (r ch : Nat) (cs : List Nat) (j : Nat) : Prop := RX r ch t t' ∧ tN t' = tN t ∧ tU t' = tU t ∧ tI t' r 2 = nI cs.length ∧ tI t' r 4 = nI j ∧ ∀ k, k < cs.length → tI t' ch k = nI (cs.getD k 0)
theorem SB.to {t' : Ht} {cs : List Nat} {j j' : Nat} (hne : r ≠ ch) (h : SB t t' r ch cs j) : SB t (sI t' r 4 (nI j')) r ch cs j' := by
  obtain ⟨h1, h2, h3, h4, h5, h6⟩ := h
  have hne' : ¬ ch = r := fun e => hne e.symm
  refine ⟨h1.trans (RX.I (Or.inr rfl)), h2, h3, ?_, ?_, fun k hk => ?_⟩
  · simp [ht, h4]
  · simp [ht]
  · simp [ht, hne', h6 k hk]
/-- keep -/
theorem r93 {t' : Ht} {cs : List Nat} {c : Nat} (hK : tK t' r = 7) (hr : tR t' r 1 = some ch) (hk : tK t' ch = 101) (hl : tL t' ch = 1200) (hcnt : tI t' r 2 = nI cs.length) (hlt : cs.length < 1200) (k : Post (.inl none) (sI (sI t' ch cs.length (nI c)) r 2 (nI (cs.length + 1)))) (hne : r ≠ ch) : CalG C mtab (d + 1) 93 [svR (some r), svI (nI c)] t' Post := by
  refine cal93 ?_
  unfold vc93
  rw [hr, hcnt]
  refine ⟨hK, hK, by rw [hk]; decide, by rw [hk]; decide, ?_⟩
  rw [hl]
  refine ⟨fun e => absurd e (nI_ge hlt (by decide)), fun _ => ⟨hK, hK, hk, by rw [hl]; exact vp_in_nI hlt (by decide), hK, hK, ?_⟩⟩
  rw [nI_clamp (by omega)]
  have e : tI (sI t' ch cs.length (nI c)) r 2 = nI cs.length := by simp [ht, hne, hcnt]
  rw [e, nI_1]
  exact k
theorem SB.keep {t' : Ht} {cs : List Nat} {j c : Nat} (hne : r ≠ ch) (h : SB t t' r ch cs j) : SB t (sI (sI t' ch cs.length (nI c)) r 2 (nI (cs.length + 1))) r ch (cs ++ [c]) j := by
  obtain ⟨h1, h2, h3, h4, h5, h6⟩ := h
  have hne' : ¬ ch = r := fun e => hne e.symm
  refine ⟨h1.trans (RX.C.trans (RX.I (Or.inl rfl))), h2, h3, ?_, ?_, fun k hk => ?_⟩
  · simp [ht]
  · simp [ht, hne, h5]
  · simp at hk
    by_cases hkl : k = cs.length
    · subst hkl; simp [ht, hne']
    · have hk2 : k < cs.length := by omega
      simp [ht, hne', hkl, h6 k hk2, List.getElem?_append_left hk2]
/-- kept -/
theorem r94 {t' : Ht} {cs : List Nat} {j : Nat} (h : RB t r tp ch b n i) (hs : SB t t' r ch cs j) (hlt : cs.length < 1200) (k : ∀ t2, RX r ch t t2 → tN t2 = tN t + 1 → tU t2 = tU t + cs.length → tI t2 r 4 = nI j → IAr t2 (tN t) cs → Post (.inl (some (svR (some (tN t))))) t2) : CalG C mtab (d + 3) 94 [svR (some r)] t' Post := by
  obtain ⟨hx, hN, hU, hc, hj, hcs⟩ := hs
  obtain ⟨n1, n2, n3⟩ := h.ne
  obtain ⟨a1, a2, a3, a4⟩ := hx.2.1 r h.2.2.2.2.2.1
  obtain ⟨e1, e2, e3, e4⟩ := hx.2.1 ch h.2.2.2.2.1
  have hK : tK t' r = 7 := a1.trans h.1.1
  have hchN : ch < tN t' := by have := h.2.2.2.2.1; omega
  have hrN : r < tN t' := by have := h.2.2.2.2.2.1; omega
  have hr0 : ¬ r = tN t' := by omega
  have hc0 : ¬ ch = tN t' := by omega
  refine cal94 ?_
  unfold vc94
  rw [a3 1, h.2.1, hc]
  refine ⟨hK, hK, s276 hchN (e1.trans h.2.2.1) (by rw [e2, h.2.2.2.1]; exact hlt) (by rw [e2, h.2.2.2.1]; decide) (by omega) ?_⟩
  show Post (.inl (some (svR (some (tN t'))))) (cpI (tNew t' 101 cs.length cs.length) ch (tN t') cs.length)
  have hI : ∀ x m, tI (cpI (tNew t' 101 cs.length cs.length) ch (tN t') cs.length) x m = if x = tN t' then (if m < cs.length then tI (tNew t' 101 cs.length cs.length) ch m else tI (tNew t' 101 cs.length cs.length) (tN t') m) else tI (tNew t' 101 cs.length cs.length) x m := fun _ _ => rfl
  have hX2 : RX r ch t' (cpI (tNew t' 101 cs.length cs.length) ch (tN t') cs.length) := by
    refine ⟨Nat.le_succ _, fun y hy => (RX.N (r := r) (ch := ch) (t := t') (kd := 101) (l := cs.length) (u := cs.length)).2.1 y hy, fun y m hy hyc hyr => ?_⟩
    rw [hI, if_neg (by omega)]
    exact (RX.N (r := r) (ch := ch) (t := t') (kd := 101) (l := cs.length) (u := cs.length)).2.2 y m hy hyc hyr
  rw [← hN] at k
  refine k _ (hx.trans hX2) (by show tN t' + 1 = _; omega) (by show tU t' + cs.length = _; omega) ?_ ⟨?_, ?_, fun m hm => ?_⟩
  · rw [hI, if_neg hr0]; simp [ht, hr0, hj]
  · show tK (tNew t' 101 cs.length cs.length) (tN t') = 101; simp [ht]
  · show tL (tNew t' 101 cs.length cs.length) (tN t') = cs.length; simp [ht]
  · rw [hI, if_pos rfl, if_pos hm]; simp [ht, hc0, hcs m hm]
end TX
