/-! THE REFERENCE'S READING OF A QUERY: contracts; numbers, names, slices -/
/-- a byte at which every reading is stuck -/
def stk (b : By) (n p : Nat) : Prop := dgt b n p = true ∨ atOp b n p = true
def FlQ (b : By) (n m : Nat) (ex : Bool) (sp : Qs) (w p : Nat) : Prop := sp = .inr (w, p) ∨ (w = 1 ∧ ∃ j L' x, sp = .inl (j, L', x) ∧ p = sk b n j ∧ (ex = true → p = j) ∧ stk b n p ∧ (m = 7 → dgt b n p = true))
def KDm (m : Nat) (t : Ht) (P a : Nat) (x : QF) : Prop := (m = 2 → tI t (P + 1) a = nI (tgN x)) ∧ (m = 7 → tI t (P + 1) a = nI (if tgN x = 27 then 26 else tgN x) ∧ ∀ p y, x = .tag 25 (.tag p y) → tI t (P + 3) a = nI (p / 2) ∧ p < 4)
/-- m: which tree; sm, s: how many parts; tr: whether the tree is wanted; ks: whether isSingle stays; ex: whether the place is just the spec's -/
def KQ (M P : Nat) (b : By) (n o : Nat) (X : List Nat) (m sm s : Nat) (tr ks ex : Bool) (t : Ht) (i q c : Nat) (L : LT) (sp : Qs) (Post : OutT → Ht → Prop) : Prop :=
  (∀ j L' x, sp = .inl (j, L', x) → ∀ t' i' q' c' a, GO M P b n X t i q c t' i' q' c' o L' → (i < i' ∧ i' ≤ j ∧ sk b n i' = sk b n j ∧ (ex = true → i' = j)) → (tr = true → L'.1 = 0 → L.1 = 0 ∧ isTg x = true ∧ QM t' P (M + 3) 2400 q' x m (rg c c') [a]) → KDm m t' P a x → (c ≤ a ∧ a < c' ∧ tI t' (P + 4) a = -1) → c' + sm ≤ c + 2 * (i' - i) + s → (ks = true → tI t' M 21 = tI t M 21) → Post (.inl (some (svI (nI a)))) t') ∧
  (∀ w p, FlQ b n m ex sp w p → ∀ t', FQ M P t t' w p → Post (.inr (16, M + 1)) t')
section MQ2
variable {C : Cx} {d : Nat} {Post : OutT → Ht → Prop} {t t1 t' : Ht} {M P : Nat} {b : By} {n i q c o i' q' c' o' : Nat} {L L' : LT} {X : List Nat}
theorem GO.sq {z : Nat} (h : GO M P b n X t i q c t' i' q' c' o' L') (hz : z < c) : SQa t t' P z ∧ (z ∉ X → tI t' (P + 4) z = tI t (P + 4) z) := h.2.2.1.1 z hz
/-- isInteger -/
theorem m186 (h : PS t M P b n i q c o L) (k : Post (.inl (some (svI (bI (atInt b n i))))) t) : CalG C mtab (d + 4) 186 [svR (some M)] t Post := by
  have hb := h.1.1.2.2.2.2.2.2.2.2.2.2.1
  have hk : atInt b n i = (decide (pk b n i = 45) || dgt b n i) := rfl
  rw [hk] at k
  refine cal186 ⟨h.K, mqI h (fun e => ⟨fun z => absurd z (by decide), fun _ => ⟨Or.inr rfl, ?_⟩⟩) (fun e => ⟨fun _ => ⟨h.K, m156 h.1.1 (d161 hb ?_)⟩, fun z => absurd rfl z⟩)⟩
  · rw [decide_eq_true e] at k; exact k
  · rw [decide_eq_false e] at k
    cases hd : dgt b n i with
    | false => rw [hd] at k; exact ⟨fun _ => ⟨Or.inl rfl, k⟩, fun z => absurd rfl z⟩
    | true => rw [hd] at k; exact ⟨fun z => absurd z (by decide), fun _ => ⟨Or.inr rfl, k⟩⟩
/-- an int that is read: told, or behind a 0 with a digit behind it -/
def FlI (b : By) (n : Nat) (sp : (Nat × LT × Bool × Nat) ⊕ (Nat × Nat)) (w p : Nat) : Prop := sp = .inr (w, p) ∨ (w = 1 ∧ ∃ L' m N, sp = .inl (p, L', m, N) ∧ dgt b n p = true)
/-- integer and late, as selected and literal have them -/
theorem mInt {mz : Bool} {K : Option SV → Ht → Prop} (h : PS t M P b n i q c o L)
    (k1 : ∀ j L' m N, inQ b n mz i L = .inl (j, L', m, N) → i < j → ∀ t2, GO M P b n [] t i q c t2 j q c o L' → (L'.1 = 0 → L.1 = 0 ∧ tJ t2 M 8 = sgR m N) → tI t2 M 21 = tI t M 21 → K none t2)
    (k2 : ∀ w p, FlI b n (inQ b n mz i L) w p → ∀ t2, FQ M P t t2 w p → Post (.inr (16, M + 1)) t2) (hK : ∀ t2, K none t2 → K none t2) :
    CalG C mtab (d + 4) 171 [svR (some M), svI (bI mz)] t (aftV (fun v1 t2 => v1 = none ∧ tK t2 M = 17 ∧ br ((tI t2 M 9) = 0) (tK t2 M = 17 ∧ K none t2) (tK t2 M = 17 ∧ CalG C mtab (d + 4) 182 [svR (some M), svI (3 : Int32), svI (tI t M 5)] t2 (aftV (fun v6 t7 => v6 = none ∧ tK t7 M = 17 ∧ K none t7) (fun k8 q9 t10 => Post (.inr (k8, q9)) t10)))) (fun k3 q4 t5 => Post (.inr (k3, q4)) t5)) := by
  refine m171 h.1 h.2.1 (fun j m N e t2 hN h9 h8 => ?_) (fun p e t2 hB => ?_)
  · rcases wn_rel (b := b) (n := n) (mz := mz) (i := i) with y | ⟨p, m', y1, y2, y3⟩
    · have e' : wnS b n mz i = .inl (j, m, N) := y.symm.trans e
      obtain ⟨hij, hjn⟩ := wnS_le e'
      have hsp : inQ b n mz i L = .inl (j, (if 9007199254740991 < N then noteL L 3 i else L), m, N) := by unfold inQ; rw [e']
      have hq := h.2.2.2.2.2.1
      have hG : GO M P b n [] t i q c t2 j q c o L := (GO.rfl' h).x hN.1 hN.2.1 hN.2.2 (by omega) hjn (Nat.le_refl _) (by omega)
      have h21 : tI t2 M 21 = tI t M 21 := hN.1.2.2.2.2.2.2.1 M 21 (by omega) (by omega) (by omega)
      refine ⟨rfl, hG.1.K, fun z => ⟨hG.1.K, ?_⟩, fun z => ⟨hG.1.K, ?_⟩⟩
      · rw [h9] at z
        have hN' : ¬ 9007199254740991 < N := by simpa using bI_0.mp z
        rw [if_neg hN'] at hsp
        exact k1 j L m N hsp hij t2 hG (fun z => ⟨z, h8 (by omega)⟩) h21
      · rw [h9] at z
        have hN' : 9007199254740991 < N := by
          rcases Nat.lt_or_ge 9007199254740991 N with w | w
          · exact w
          · exact absurd (by simp [bI]; omega) z
        rw [if_pos hN'] at hsp
        rw [h.at]
        have hn := h.hn
        have hin := h.2.1
        refine m182 (kk := 3) hG.1 (by omega) (by omega) (by omega) (fun t3 g1 g2 g3 => ⟨rfl, g1.1.K, k1 j _ m N hsp hij t3 (hG.trans g1 (fun z hz => by cases hz)) (fun z => ?_) ((g2 M 21 (by omega)).trans h21)⟩)
        unfold noteL at z
        split at z
        · cases z
        · rename_i w
          exact absurd (Or.inl z) w
    · rw [y2] at e; cases e
  · have hq := h.2.2.2.2.2.1
    refine k2 1 p ?_ t2 (FQ.bm hB hq.1)
    rcases wn_rel (b := b) (n := n) (mz := mz) (i := i) with y | ⟨p', m', y1, y2, y3⟩
    · left
      unfold inQ
      rw [← y, e]
    · rw [y2] at e
      injection e with e
      subst e
      exact Or.inr ⟨rfl, _, m', 0, by unfold inQ; rw [y1], y3⟩
/-- selected -/
theorem m185 (h : PS t M P b n i q c o L)
    (k1 : ∀ j L' m N, inQ b n false i L = .inl (j, L', m, N) → i < j → ∀ t2, GO M P b n [] t i q c t2 j q c o L' → (L'.1 = 0 → L.1 = 0 ∧ tJ t2 M 8 = sgR m N) → tI t2 M 21 = tI t M 21 → Post (.inl (some (svJ (tJ t2 M 8)))) t2)
    (k2 : ∀ w p, FlI b n (inQ b n false i L) w p → ∀ t2, FQ M P t t2 w p → Post (.inr (16, M + 1)) t2) : CalG C mtab (d + 5) 185 [svR (some M)] t Post :=
  cal185 ⟨h.K, h.K, mInt (K := fun _ t2 => Post (.inl (some (svJ (tJ t2 M 8)))) t2) h k1 k2 (fun _ z => z)⟩
/-- a name's part -/
theorem m187 {cs : List Nat} {p : Nat} (h : PS t M P b n i q c o L) (hc : c < 2400) (hp : p + cs.length = q)
    (k : ∀ t2, GO M P b n [] t i q c t2 i q (c + 1) o L → (tI t2 (P + 1) c = 1 ∧ tI t2 (P + 2) c = nI p ∧ tI t2 (P + 3) c = nI cs.length ∧ tI t2 (P + 4) c = -1) → (∀ j, tI t2 M j = tI t M j) → Post (.inl (some (svI (nI c)))) t2) : CalG C mtab (d + 2) 187 [svR (some M), svI (nI p)] t Post := by
  refine cal187 ⟨h.K, m181 h hc (fun t2 hG hN hM => ?_)⟩
  have h2 := hG.1
  have hP := h2.2.2.1.1
  have v : vp_in (nI c) 2400 := vin h hc
  have cl : (nI c).toNatClampNeg = c := nI_clamp (by omega)
  refine ⟨h2.K, onS h2.r17 ⟨h2.k14, onS h2.a1.1 ⟨h2.a1.2.1, by rw [h2.a1.2.2]; exact v, h2.K, onS h2.r17 ⟨h2.k14, h2.K, onS h2.a2.1 ⟨h2.a2.2.1, ?_, ?_⟩⟩⟩⟩⟩
  · show vp_in (nI c) (tL t2 (P + 3)); rw [h2.a2.2.2]; exact v
  rw [cl, sI_at (by omega), h2.1.2.2.2.2, show q = p + cs.length by omega, nI_subA]
  refine k _ ((hG.I (Or.inl (by omega))).I (Or.inl (by omega))) ⟨?_, ?_, sI_eq, ?_⟩ (fun j => ?_)
  · rw [sI_at (by omega), sI_at (by omega)]; exact hN.1
  · rw [sI_at (by omega)]; exact sI_eq
  · rw [sI_at (by omega), sI_at (by omega)]; exact hN.2.2.2.1
  · rw [sI_at (by omega), sI_at (by omega)]; exact hM j
end MQ2
