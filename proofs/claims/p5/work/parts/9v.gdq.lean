/-! WHAT IS READ IS OF THE RIGHT FORM -/
def sg1 : QF → Bool
  | .tag g (.append y .nil) => g == 0 && isSel1 y
  | _ => false
def sgL : QF → Bool
  | .append x r => sg1 x && sgL r
  | .nil => true
  | _ => false
/-- a slice's step is no greater than a number may be -/
def stQ : QF → Prop
  | .append _ (.append _ r) => ∀ z, unO r = some z → -9007199254740992 < z.toInt ∧ z.toInt < 9007199254740992
  | _ => True
/-- the modes of ev -/
def gdQ : QF → Nat → Prop
  | .append x y, m => if m = 1 then gdQ x 11 ∧ gdQ y 1 else if m = 2 then gdQ x 12 ∧ gdQ y 2 else if m = 13 then gdQ x 3 ∧ gdQ y 13 else if m = 6 then gdQ x 7 ∧ gdQ y 7 else False
  | .tag g x, m => if m = 11 then g ≤ 1 ∧ gdQ x 2 else if m = 12 then 1 ≤ g ∧ g ≤ 5 ∧ (g = 5 → gdQ x 3) ∧ (g = 4 → stQ x) else
    if m = 3 then (if g = 10 ∨ g = 11 then gdQ x 13 else if g = 12 then gdQ x 3 else if g = 13 then gdQ x 5 else if g = 14 then gdQ x 10 else False) else
    if m = 5 then 1 ≤ g ∧ g ≤ 6 ∧ gdQ x 6 else
    if m = 10 then g < 4 ∧ (2 ≤ g → sgL x = true) ∧ gdQ x 1 else
    if m = 9 then g = 25 ∧ gdQ x 10 else
    if m = 8 then (g = 1 ∧ gdQ x 7) ∨ ((g = 2 ∨ g = 3) ∧ gdQ x 9) else
    if m = 7 then (if g = 25 then gdQ x 10 ∧ 2 ≤ tgN x else if g = 26 then gdQ x 8 else 20 ≤ g ∧ g ≤ 24) else False
  | .nil, m => m = 1 ∨ m = 2 ∨ m = 13
  | _, _ => False
def gdO (x : QF) : Prop := gdQ x 7 ∨ gdQ x 9
section GDQ
variable {b : By} {n f : Nat} {orD : Nat → LT → Qs} {agD : Nat → LT → (Nat × LT × QF × Bool) ⊕ (Nat × Nat)}
def gQ (r : Qs) (L : LT) (P : QF → Prop) : Prop := ∀ j L' x, r = .inl (j, L', x) → L'.1 = 0 → L.1 = 0 ∧ P x
def gG (r : (Nat × LT × QF × Bool) ⊕ (Nat × Nat)) (L : LT) (P : QF → Bool → Prop) : Prop := ∀ j L' x s, r = .inl (j, L', x, s) → L'.1 = 0 → L.1 = 0 ∧ P x s
def gA2 (x : QF) (s : Bool) : Prop := gdQ x 2 ∧ (s = true → ∃ y, x = .append y .nil ∧ isSel1 y = true)
def gA11 (x : QF) (s : Bool) : Prop := gdQ x 11 ∧ (s = true → sg1 x = true)
def gAr (x : QF) (s : Bool) : Prop := s = false → gdO x
theorem gd_app : ∀ (x y : QF) (m m' : Nat), (m = 1 ∧ m' = 11) ∨ (m = 2 ∧ m' = 12) ∨ (m = 13 ∧ m' = 3) → qL x = true → gdQ x m → gdQ y m' → gdQ (qApp x y) m := by
  intro x
  induction x with
  | append a r _ ih =>
    intro y m m' hm hq h1 h2
    rcases hm with ⟨rfl, rfl⟩ | ⟨rfl, rfl⟩ | ⟨rfl, rfl⟩
    · exact ⟨h1.1, ih y 1 11 (by omega) hq h1.2 h2⟩
    · exact ⟨h1.1, ih y 2 12 (by omega) hq h1.2 h2⟩
    · exact ⟨h1.1, ih y 13 3 (by omega) hq h1.2 h2⟩
  | nil =>
    intro y m m' hm _ h1 h2
    rcases hm with ⟨rfl, rfl⟩ | ⟨rfl, rfl⟩ | ⟨rfl, rfl⟩
    · exact ⟨h2, Or.inl rfl⟩
    · exact ⟨h2, Or.inr (Or.inl rfl)⟩
    · exact ⟨h2, Or.inr (Or.inr rfl)⟩
  | _ => intro y m m' _ hq; cases hq
theorem sgL_app : ∀ (x y : QF), qL x = true → sgL x = true → sg1 y = true → sgL (qApp x y) = true := by
  intro x
  induction x with
  | append a r _ ih =>
    intro y hq h1 h2
    have h1 : (sg1 a && sgL r) = true := h1
    show (sg1 a && sgL (qApp r y)) = true
    rw [Bool.and_eq_true] at h1 ⊢
    exact ⟨h1.1, ih y hq h1.2 h2⟩
  | nil =>
    intro y _ _ h2
    show (sg1 y && true) = true
    rw [h2]; rfl
  | _ => intro y hq; cases hq
theorem inQ_L {mz : Bool} {i j N : Nat} {L L' : LT} {m : Bool} (h : inQ b n mz i L = .inl (j, L', m, N)) (h0 : L'.1 = 0) : L.1 = 0 := by
  unfold inQ at h
  split at h
  · cases h
  · injection h with h; injection h with _ h; injection h with h _
    split at h
    · subst h; exact absurd h0 (noteL_n (by decide))
    · subst h; exact h0
theorem inQ_N {mz : Bool} {i j N : Nat} {L L' : LT} {m : Bool} (h : inQ b n mz i L = .inl (j, L', m, N)) (h0 : L'.1 = 0) : N ≤ 9007199254740991 := by
  unfold inQ at h
  split at h
  · cases h
  · injection h with h; injection h with _ h; injection h with h h2; injection h2 with _ h2
    subst h2
    split at h
    · subst h; exact absurd h0 (noteL_n (by decide))
    · omega
theorem gd12 {g : Nat} {x : QF} (h : 1 ≤ g ∧ g ≤ 3) : gdQ (qT g x) 12 := ⟨h.1, by omega, fun z => by omega, fun z => by omega⟩
theorem gd4 {a e : Option (Bool × Nat)} : gdQ (qSli a e none) 12 := ⟨by decide, by decide, (fun z => by cases z), (fun _ z hz => by cases hz)⟩
theorem gd4s {a e : Option (Bool × Nat)} {m : Bool} {N : Nat} (hN : N ≤ 9007199254740991) : gdQ (qSli a e (some (m, N))) 12 := by
  refine ⟨by decide, by decide, (fun z => by cases z), fun _ z hz => ?_⟩
  have hz : some (unI (qI m N)) = some z := hz
  injection hz with hz
  rw [unI_qI] at hz
  subst hz
  unfold sgR
  cases m with
  | true => rw [if_pos rfl, lNneg_toInt (by omega)]; omega
  | false =>
    rw [if_neg (by decide)]
    have : (lN N).toInt = (N : Int) := lg_ofNat_toInt (by omega)
    omega
theorem slT_g {a e : Option (Bool × Nat)} {i : Nat} {L : LT} : gQ (slT b n a e i L) L (gdQ · 12) := by
  intro j L' x h h0
  unfold slT at h
  split at h
  · split at h
    · split at h
      · cases h
      · rename_i e1
        injection h with h; injection h with _ h; injection h with h1 h; subst h; subst h1
        exact ⟨inQ_L e1 h0, gd4s (inQ_N e1 h0)⟩
    · injection h with h; injection h with _ h; injection h with h1 h; subst h; subst h1; exact ⟨h0, gd4⟩
  · injection h with h; injection h with _ h; injection h with h1 h; subst h; subst h1; exact ⟨h0, gd4⟩
theorem slQ_g {a : Option (Bool × Nat)} {i : Nat} {L : LT} : gQ (slQ b n a i L) L (gdQ · 12) := by
  intro j L' x h h0
  unfold slQ at h
  split at h
  · split at h
    · cases h
    · rename_i e1
      obtain ⟨a1, a2⟩ := slT_g j L' x h h0
      exact ⟨inQ_L e1 a1, a2⟩
  · exact slT_g j L' x h h0
theorem seQ_g {strict : Bool} {i : Nat} {L : LT} (ho : ∀ i L, f ≠ 0 → gQ (orD i L) L (gdQ · 3)) : gQ (seQ b n f orD strict i L) L (fun x => gdQ x 12 ∧ (strict = true → isSel1 x = true)) := by
  intro j L' x h h0
  unfold seQ at h
  split at h
  · split at h
    · cases h
    · injection h with h; injection h with _ h; injection h with h1 h; subst h; subst h1; exact ⟨h0, gd12 (by omega), fun _ => rfl⟩
  split at h
  · split at h
    · cases h
    · rename_i e1
      split at h
      · rename_i hs
        obtain ⟨a1, a2⟩ := slQ_g j L' x h h0
        exact ⟨inQ_L e1 a1, a2, fun z => by rw [z] at hs; exact absurd hs.1 (by decide)⟩
      · injection h with h; injection h with _ h; injection h with h1 h; subst h; subst h1; exact ⟨inQ_L e1 h0, gd12 (by omega), fun _ => rfl⟩
  split at h
  · cases h
  rename_i hs
  split at h
  · obtain ⟨a1, a2⟩ := slQ_g j L' x h h0
    exact ⟨a1, a2, fun z => absurd z hs⟩
  split at h
  · split at h
    · cases h
    · rename_i hf
      split at h
      · cases h
      · rename_i j1 L1 x1 e
        injection h with h; injection h with _ h; injection h with h1 h; subst h; subst h1
        obtain ⟨a1, a2⟩ := ho _ _ hf _ _ _ e h0
        exact ⟨a1, ⟨by decide, by decide, fun _ => a2, fun z => by cases z⟩, fun z => absurd z hs⟩
  split at h
  · injection h with h; injection h with _ h; injection h with h1 h; subst h; subst h1; exact ⟨h0, gd12 (by omega), fun z => absurd z hs⟩
  · cases h
theorem slF_g (ho : ∀ i L, f ≠ 0 → gQ (orD i L) L (gdQ · 3)) : ∀ (g i : Nat) (L : LT) (x : QF), qL x = true → (L.1 = 0 → gdQ x 2) → gQ (slF b n f orD g i L x) L (gdQ · 2) := by
  intro g
  induction g with
  | zero => intro i L x _ _ j L' y h; cases h
  | succ g ih =>
    intro i L x hq hx j L' y h h0
    rw [slF] at h
    split at h
    · split at h
      · cases h
      · rename_i j1 L1 y1 e
        have key : L1.1 = 0 → L.1 = 0 ∧ gdQ y1 12 := fun z => ⟨(seQ_g ho _ _ _ e z).1, (seQ_g ho _ _ _ e z).2.1⟩
        obtain ⟨a1, a2⟩ := ih _ _ _ (qL_app _ _ hq) (fun z => gd_app x y1 2 12 (by omega) hq (hx (key z).1) (key z).2) j L' y h h0
        exact ⟨(key a1).1, a2⟩
    · split at h
      · injection h with h; injection h with _ h; injection h with h1 h; subst h; subst h1; exact ⟨h0, hx h0⟩
      · cases h
theorem slF_93 {g j k : Nat} {L L' : LT} {x y : QF} (hj : pk b n j = 93) (h : slF b n f orD (g + 1) j L x = .inl (k, L', y)) : y = x := by
  have hb : sk b n j = j := sk_no (by rw [hj]; decide)
  rw [slF, hb, hj, if_neg (by decide), if_pos rfl] at h
  injection h with h; injection h with _ h; injection h with _ h; exact h.symm
theorem bkQ_g {strict : Bool} {i : Nat} {L : LT} (ho : ∀ i L, f ≠ 0 → gQ (orD i L) L (gdQ · 3)) : gG (bkQ b n f orD strict i L) L (fun x s => gA2 x s ∧ (strict = true → s = true)) := by
  intro j L' x s h h0
  unfold bkQ at h
  split at h
  · cases h
  · rename_i j1 L1 y1 e
    have h1 := seQ_g ho _ _ _ e
    have h2 : gdQ y1 12 → gdQ (qP y1 qN) 2 := fun z => ⟨z, Or.inr (Or.inl rfl)⟩
    split at h
    · rename_i hs
      split at h
      · injection h with h; injection h with _ h; injection h with h3 h; injection h with h h4; subst h; subst h3; subst h4
        obtain ⟨a1, a2, a3⟩ := h1 h0
        exact ⟨a1, ⟨h2 a2, fun z => ⟨y1, rfl, z⟩⟩, fun z => a3 z⟩
      · cases h
    · rename_i hs
      split at h
      · cases h
      · rename_i k L2 y e2
        injection h with h; injection h with _ h; injection h with h3 h; injection h with h h4; subst h; subst h3; subst h4
        obtain ⟨a1, a2⟩ := slF_g ho _ _ _ _ rfl (fun z => h2 (h1 z).2.1) _ _ _ e2 h0
        refine ⟨(h1 a1).1, ⟨a2, fun z => ?_⟩, fun z => absurd z hs⟩
        rw [Bool.and_eq_true, Bool.and_eq_true] at z
        exact ⟨y1, slF_93 (of_decide_eq_true z.1.2) e2, z.2⟩
theorem dtQ_g {strict : Bool} {i : Nat} {L : LT} : gG (dtQ b n strict i L) L (fun x s => gA2 x s ∧ (strict = true → s = true)) := by
  intro j L' x s h h0
  unfold dtQ at h
  split at h
  · rename_i hs
    injection h with h; injection h with _ h; injection h with h3 h; injection h with h h4; subst h; subst h3; subst h4
    exact ⟨h0, ⟨⟨gd12 (by omega), Or.inr (Or.inl rfl)⟩, fun z => by cases z⟩, fun z => by rw [z] at hs; exact absurd hs.1 (by decide)⟩
  · split at h
    · cases h
    · rename_i cs _ _
      injection h with h; injection h with _ h; injection h with h3 h; injection h with h h4; subst h; subst h3; subst h4
      exact ⟨h0, ⟨⟨gd12 (by omega), Or.inr (Or.inl rfl)⟩, fun _ => ⟨qNam cs, rfl, rfl⟩⟩, fun _ => rfl⟩
theorem mkQ_g {r : (Nat × LT × QF × Bool) ⊕ (Nat × Nat)} {d : Nat} {L : LT} {strict : Bool} (hd : d ≤ 1) (hs : strict = true → d = 0) (h : gG r L (fun x s => gA2 x s ∧ (strict = true → s = true))) : gG (mkQ d r) L (fun x s => gA11 x s ∧ (strict = true → s = true)) := by
  intro j L' x s e h0
  unfold mkQ at e
  split at e
  · cases e
  · rename_i j1 L1 y s1
    injection e with e; injection e with _ e; injection e with e3 e; injection e with e e4; subst e; subst e3; subst e4
    obtain ⟨a1, ⟨a2, a3⟩, a4⟩ := h _ _ _ _ rfl h0
    refine ⟨a1, ⟨⟨hd, a2⟩, fun z => ?_⟩, fun z => by rw [a4 z, hs z]; rfl⟩
    rw [Bool.and_eq_true] at z
    obtain ⟨y1, rfl, y2⟩ := a3 z.1
    show (d == 0 && isSel1 y1) = true
    rw [z.2, y2]; rfl
theorem sgQ_g {strict : Bool} {i : Nat} {L : LT} (ho : ∀ i L, f ≠ 0 → gQ (orD i L) L (gdQ · 3)) : gG (sgQ b n f orD strict i L) L (fun x s => gA11 x s ∧ (strict = true → s = true)) := by
  unfold sgQ
  split
  · exact mkQ_g (by omega) (fun _ => rfl) (bkQ_g ho)
  split
  · rename_i hs
    have hf : strict = false := hs.1
    subst hf
    split
    · exact mkQ_g (by omega) (fun z => by cases z) (bkQ_g ho)
    · exact mkQ_g (by omega) (fun z => by cases z) dtQ_g
  · exact mkQ_g (by omega) (fun _ => rfl) dtQ_g
theorem sgF_g {strict : Bool} (ho : ∀ i L, f ≠ 0 → gQ (orD i L) L (gdQ · 3)) : ∀ (g i h : Nat) (L : LT) (s : Bool) (x : QF), qL x = true → (L.1 = 0 → gdQ x 1 ∧ (s = true → sgL x = true) ∧ (strict = true → s = true)) → ∀ j h' L' s' x', sgF b n f orD strict g i h L s x = .inl (j, h', L', s', x') → L'.1 = 0 → L.1 = 0 ∧ gdQ x' 1 ∧ (s' = true → sgL x' = true) ∧ (strict = true → s' = true) := by
  intro g
  induction g with
  | zero => intro i h L s x _ _ j h' L' s' x' e; cases e
  | succ g ih =>
    intro i h L s x hq hx j h' L' s' x' e h0
    rw [sgF] at e
    split at e
    · split at e
      · cases e
      · rename_i j1 L1 y1 s1 e1
        have key := sgQ_g ho _ _ _ _ e1
        have hh : L1.1 = 0 → gdQ (qApp x y1) 1 ∧ ((s && s1) = true → sgL (qApp x y1) = true) ∧ (strict = true → (s && s1) = true) := fun z => by
          obtain ⟨k1, ⟨k2, k3⟩, k4⟩ := key z
          obtain ⟨m1, m2, m3⟩ := hx k1
          refine ⟨gd_app x y1 1 11 (by omega) hq m1 k2, fun w => ?_, fun w => by rw [m3 w, k4 w]; rfl⟩
          rw [Bool.and_eq_true] at w
          exact sgL_app x y1 hq (m2 w.1) (k3 w.2)
        obtain ⟨a1, a2⟩ := ih _ _ _ _ _ (qL_app _ _ hq) hh _ _ _ _ _ e h0
        exact ⟨(key a1).1, a2⟩
    · injection e with e; injection e with _ e; injection e with _ e; injection e with e1 e; injection e with e2 e; subst e; subst e1; subst e2; exact ⟨h0, hx h0⟩
theorem sgS_g {strict : Bool} {i : Nat} {L : LT} (ho : ∀ i L, f ≠ 0 → gQ (orD i L) L (gdQ · 3)) {j h' : Nat} {L' : LT} {s' : Bool} {x' : QF} (e : sgS b n f orD strict i L = .inl (j, h', L', s', x')) (h0 : L'.1 = 0) : L.1 = 0 ∧ gdQ x' 1 ∧ (s' = true → sgL x' = true) ∧ (strict = true → s' = true) := sgF_g ho (n + 1) (sk b n i) i L true qN rfl (fun _ => ⟨Or.inl rfl, fun _ => rfl, fun _ => rfl⟩) _ _ _ _ _ e h0
theorem ptQ_g {strict : Bool} {i : Nat} {L : LT} (ho : ∀ i L, f ≠ 0 → gQ (orD i L) L (gdQ · 3)) : gQ (ptQ b n f orD strict i L) L (fun x => gdO x ∧ (strict = true → gdQ x 7)) := by
  intro j L' x h h0
  unfold ptQ at h
  split at h
  · cases h
  · rename_i j1 h1 L1 s1 x1 e
    injection h with h; injection h with _ h; injection h with h2 h; subst h; subst h2
    obtain ⟨a1, a2, a3, a4⟩ := sgS_g ho e h0
    have h10 : gdQ (qT ((if pk b n i = 36 then 1 else 0) + (if s1 then 2 else 0)) x1) 10 := by
      refine ⟨?_, fun z => a3 ?_, a2⟩
      · split <;> split <;> omega
      · cases s1 with
        | true => rfl
        | false => exfalso; revert z; split <;> simp
    refine ⟨a1, Or.inr ⟨rfl, h10⟩, fun z => ?_⟩
    refine ⟨h10, ?_⟩
    show 2 ≤ (if pk b n i = 36 then 1 else 0) + (if s1 then 2 else 0)
    rw [a4 z]
    simp
theorem agF_g (hf : f ≠ 0) (ha : ∀ i L, gG (agD i L) L gAr) : ∀ (g i : Nat) (L : LT) (m : Nat) (x : QF) (lg : Bool), (L.1 = 0 → m ≠ 0 → gAr x lg) → ∀ j L' m' x' lg', agF b n agD g i L m x lg = .inl (j, L', m', x', lg') → L'.1 = 0 → L.1 = 0 ∧ gAr x' lg' := by
  intro g
  induction g with
  | zero => intro i L m x lg _ j L' m' x' lg' e; cases e
  | succ g ih =>
    intro i L m x lg hx j L' m' x' lg' e h0
    rw [agF] at e
    split at e
    · cases e
    · rename_i j1 L1 y1 ly e1
      have key := ha _ _ _ _ _ _ e1
      have hn : L1.1 = 0 → gAr (if m = 0 then y1 else x) (if m = 0 then ly else lg) := fun z => by
        by_cases hm : m = 0
        · rw [if_pos hm, if_pos hm]; exact (key z).2
        · rw [if_neg hm, if_neg hm]; exact hx (key z).1 hm
      split at e
      · obtain ⟨a1, a2⟩ := ih _ _ _ _ _ (fun z _ => hn z) _ _ _ _ _ e h0
        exact ⟨(key a1).1, a2⟩
      · split at e
        · injection e with e; injection e with _ e; injection e with e0 e; injection e with _ e; injection e with e1 e2
          subst e1 e2 e0
          exact ⟨(key h0).1, hn h0⟩
        · cases e
theorem gdO_cmp {x : QF} (h : gdO x) (hc : isCmp x = true) : gdQ x 7 := by
  rcases h with h | h
  · exact h
  · cases x with
    | tag g y =>
      obtain ⟨rfl, h⟩ : g = 25 ∧ gdQ y 10 := h
      refine ⟨h, ?_⟩
      cases y with
      | tag r z =>
        have hc : (r == 2 || r == 3) = true := hc
        show 2 ≤ r
        rw [Bool.or_eq_true, beq_iff_eq, beq_iff_eq] at hc
        omega
      | _ => cases hc
    | _ => cases hc
theorem gdO_pth {x : QF} (h : gdO x) (hc : isPth x = true) : gdQ x 9 := by
  rcases h with h | h
  · cases x with
    | tag g y =>
      have hc : (g == 25) = true := hc
      rw [beq_iff_eq] at hc
      subst hc
      exact ⟨rfl, h.1⟩
    | _ => cases hc
  · exact h
theorem fnQ_g {i j : Nat} {L : LT} (ha : ∀ i L, f ≠ 0 → gG (agD i L) L gAr) : gQ (fnQ b n f agD i j L) L (gdQ · 7) := by
  intro k L' x h h0
  unfold fnQ at h
  split at h
  · cases h
  rename_i hf
  split at h
  · cases h
  · rename_i k1 L1 m1 x1 lg1 e
    split at h
    · rename_i hw
      injection h with h; injection h with _ h; injection h with h1 h; subst h; subst h1
      have hw2 := hw.2
      unfold wants at hw2
      rw [Bool.and_eq_true] at hw2
      have hl : lg1 = false := by
        cases lg1 with
        | false => rfl
        | true => exact absurd hw2.1 (by decide)
      have key : L.1 = 0 ∧ gdO x1 := by
        split at e
        · injection e with e; injection e with _ e; injection e with _ e; injection e with e0 e; 
          exact absurd hw.1 (by omega)
        · obtain ⟨a1, a2⟩ := agF_g hf (fun i L => ha i L hf) _ _ _ _ _ _ (fun _ z => absurd rfl z) _ _ _ _ _ e h0
          exact ⟨a1, a2 hl⟩
      refine ⟨key.1, ?_⟩
      show gdQ (qT (fnK b n i j) x1) 8
      by_cases hk : fnK b n i j = 1
      · rw [if_pos hk] at hw2
        exact Or.inl ⟨hk, gdO_cmp key.2 hw2.2⟩
      · rw [if_neg hk, Bool.and_eq_true] at hw2
        exact Or.inr ⟨of_decide_eq_true hw2.2.1, gdO_pth key.2 hw2.2.2⟩
    · injection h with h; injection h with _ h; injection h with h1 h; subst h; subst h1
      exact absurd h0 (noteL_n (by decide))
theorem wrQ_g {i : Nat} {L : LT} (ha : ∀ i L, f ≠ 0 → gG (agD i L) L gAr) : gQ (wrQ b n f agD i L) L (gdQ · 7) := by
  intro j L' x h h0
  have lit : ∀ g, 20 ≤ g → g ≤ 24 → gdQ (qT g qN) 7 := fun g h1 h2 => by
    show (if g = 25 then _ else if g = 26 then _ else 20 ≤ g ∧ g ≤ 24)
    rw [if_neg (by omega), if_neg (by omega)]; exact ⟨h1, h2⟩
  unfold wrQ at h
  split at h
  · exact fnQ_g ha j L' x h h0
  split at h
  · injection h with h; injection h with _ h; injection h with h1 h; subst h; subst h1; exact ⟨h0, lit _ (by decide) (by decide)⟩
  split at h
  · injection h with h; injection h with _ h; injection h with h1 h; subst h; subst h1; exact ⟨h0, lit _ (by decide) (by decide)⟩
  split at h
  · injection h with h; injection h with _ h; injection h with h1 h; subst h; subst h1; exact ⟨h0, lit _ (by decide) (by decide)⟩
  · cases h
theorem opQ_g {strict : Bool} {i : Nat} {L : LT} (ho : ∀ i L, f ≠ 0 → gQ (orD i L) L (gdQ · 3)) (ha : ∀ i L, f ≠ 0 → gG (agD i L) L gAr) : gQ (opQ b n f orD agD strict i L) L (fun x => gdO x ∧ (strict = true → gdQ x 7)) := by
  intro j L' x h h0
  unfold opQ at h
  split at h
  · exact ptQ_g ho j L' x h h0
  split at h
  · obtain ⟨a1, a2⟩ := wrQ_g ha j L' x h h0
    exact ⟨a1, Or.inl a2, fun _ => a2⟩
  split at h
  · split at h
    · cases h
    · rename_i e1
      injection h with h; injection h with _ h; injection h with h1 h; subst h; subst h1
      exact ⟨inQ_L e1 h0, Or.inl (by show 20 ≤ 20 ∧ 20 ≤ 24; decide), fun _ => by show 20 ≤ 20 ∧ 20 ≤ 24; decide⟩
  split at h
  · split at h
    · cases h
    · injection h with h; injection h with _ h; injection h with h1 h; subst h; subst h1
      exact ⟨h0, Or.inl (by show 20 ≤ 21 ∧ 21 ≤ 24; decide), fun _ => by show 20 ≤ 21 ∧ 21 ≤ 24; decide⟩
  · cases h
theorem tsQ_g {x : QF} {h i : Nat} {L : LT} (hx : L.1 = 0 → gdO x) : gQ (tsQ x h i L) L (gdQ · 3) := by
  intro j L' y e h0
  unfold tsQ at e
  split at e
  · cases e
  split at e
  · injection e with e; injection e with _ e; injection e with h1 e; subst e; subst h1
    exact absurd h0 (noteL_n (by decide))
  split at e
  · injection e with e; injection e with _ e; injection e with h1 e; subst e; subst h1
    exact ⟨h0, (gdO_pth (hx h0) rfl).2⟩
  · cases e
theorem sgN_g {i j s : Nat} (h : sgN b n i = .inl (j, s)) : 1 ≤ s ∧ s ≤ 6 := by
  unfold sgN at h
  split at h
  · split at h
    · injection h with h; injection h with _ h; omega
    · cases h
  split at h
  · split at h
    · injection h with h; injection h with _ h; omega
    · cases h
  split at h
  · split at h
    · injection h with h; injection h with _ h; omega
    · injection h with h; injection h with _ h; omega
  split at h
  · injection h with h; injection h with _ h; omega
  · injection h with h; injection h with _ h; omega
theorem bfQ_g {x : QF} {h i : Nat} {L : LT} (ho : ∀ i L, f ≠ 0 → gQ (orD i L) L (gdQ · 3)) (ha : ∀ i L, f ≠ 0 → gG (agD i L) L gAr) (hx : L.1 = 0 → gdO x) : gQ (bfQ b n f orD agD x h i L) L (gdQ · 3) := by
  intro j L' y e h0
  unfold bfQ at e
  split at e
  · rename_i hc
    rw [Bool.and_eq_true] at hc
    split at e
    · cases e
    · rename_i es
      split at e
      · cases e
      · rename_i k L1 y1 e1
        injection e with e; injection e with _ e; injection e with h1 e; subst e; subst h1
        obtain ⟨a1, a2, a3⟩ := opQ_g ho ha _ _ _ e1 h0
        have hs := sgN_g es
        exact ⟨a1, hs.1, hs.2, gdO_cmp (hx a1) hc.1, a3 rfl⟩
  · exact tsQ_g hx j L' y e h0
theorem grQ_g {i : Nat} {L : LT} (ho : ∀ i L, f ≠ 0 → gQ (orD i L) L (gdQ · 3)) : gQ (grQ b n f orD i L) L (gdQ · 3) := by
  intro j L' y e h0
  unfold grQ at e
  split at e
  · cases e
  rename_i hf
  split at e
  · cases e
  · rename_i k L1 y1 e1
    split at e
    · injection e with e; injection e with _ e; injection e with h1 e; subst e; subst h1
      exact ho _ _ hf _ _ _ e1 h0
    · cases e
theorem baQ_g {i : Nat} {L : LT} (ho : ∀ i L, f ≠ 0 → gQ (orD i L) L (gdQ · 3)) (ha : ∀ i L, f ≠ 0 → gG (agD i L) L gAr) : gQ (baQ b n f orD agD i L) L (gdQ · 3) := by
  intro j L' y e h0
  unfold baQ at e
  split at e
  · split at e
    · cases e
    · rename_i k L1 y1 e1
      injection e with e; injection e with _ e; injection e with h1 e; subst e; subst h1
      show L.1 = 0 ∧ gdQ y1 3
      split at e1
      · exact grQ_g ho _ _ _ e1 h0
      · split at e1
        · cases e1
        · split at e1
          · cases e1
          · rename_i j2 L2 x2 e2
            obtain ⟨a1, a2⟩ := tsQ_g (fun z => (opQ_g ho ha _ _ _ e2 z).2.1) _ _ _ e1 h0
            exact ⟨(opQ_g ho ha _ _ _ e2 a1).1, a2⟩
  · split at e
    · exact grQ_g ho _ _ _ e h0
    · split at e
      · cases e
      · rename_i j2 L2 x2 e2
        obtain ⟨a1, a2⟩ := bfQ_g ho ha (fun z => (opQ_g ho ha _ _ _ e2 z).2.1) _ _ _ e h0
        exact ⟨(opQ_g ho ha _ _ _ e2 a1).1, a2⟩
theorem lsF_g {c : Int32} {rd : Nat → LT → Qs} (hr : ∀ i L, gQ (rd i L) L (gdQ · 3)) : ∀ (g i : Nat) (L : LT) (x : QF), qL x = true → (L.1 = 0 → gdQ x 13) → gQ (lsF b n c rd g i L x) L (gdQ · 13) := by
  intro g
  induction g with
  | zero => intro i L x _ _ j L' y h; cases h
  | succ g ih =>
    intro i L x hq hx j L' y h h0
    rw [lsF] at h
    split at h
    · split at h
      · split at h
        · cases h
        · rename_i j1 L1 y1 e
          have key := hr _ _ _ _ _ e
          obtain ⟨a1, a2⟩ := ih _ _ _ (qL_app _ _ hq) (fun z => gd_app x y1 13 3 (by omega) hq (hx (key z).1) (key z).2) j L' y h h0
          exact ⟨(key a1).1, a2⟩
      · cases h
    · injection h with h; injection h with _ h; injection h with h1 h; subst h; subst h1; exact ⟨h0, hx h0⟩
theorem qOne_g {k : Nat} {s : Qs} {L : LT} (hk : k = 10 ∨ k = 11) (h : gQ s L (gdQ · 13)) : gQ (qOne k s) L (gdQ · 3) := by
  intro j L' x e h0
  obtain ⟨y, e1, rfl⟩ := qOne_j e
  have := h _ _ _ e1 h0
  rcases hk with rfl | rfl <;> exact this
theorem anQ_g {r : Qs} {L0 : LT} (ho : ∀ i L, f ≠ 0 → gQ (orD i L) L (gdQ · 3)) (ha : ∀ i L, f ≠ 0 → gG (agD i L) L gAr) (hr : gQ r L0 (gdQ · 3)) : gQ (anQ b n f orD agD r) L0 (gdQ · 3) := by
  unfold anQ
  split
  · intro j L x e; cases e
  · rename_i j L x
    intro j' L' x' e h0
    have key := hr _ _ _ rfl
    obtain ⟨a1, a2⟩ := qOne_g (Or.inr rfl) (lsF_g (fun i L => baQ_g ho ha) _ _ _ (qP x qN) rfl (fun z => ⟨(key z).2, Or.inr (Or.inr rfl)⟩)) _ _ _ e h0
    exact ⟨(key a1).1, a2⟩
theorem orQ_g {r : Qs} {L0 : LT} (ho : ∀ i L, f ≠ 0 → gQ (orD i L) L (gdQ · 3)) (ha : ∀ i L, f ≠ 0 → gG (agD i L) L gAr) (hr : gQ r L0 (gdQ · 3)) : gQ (orQ b n f orD agD r) L0 (gdQ · 3) := by
  have h1 := anQ_g (b := b) (n := n) ho ha hr
  unfold orQ
  split
  · intro j L x e; cases e
  · rename_i j L x e1
    intro j' L' x' e h0
    have key := h1 _ _ _ e1
    obtain ⟨a1, a2⟩ := qOne_g (Or.inl rfl) (lsF_g (fun i L => anQ_g ho ha (baQ_g ho ha)) _ _ _ (qP x qN) rfl (fun z => ⟨(key z).2, Or.inr (Or.inr rfl)⟩)) _ _ _ e h0
    exact ⟨(key a1).1, a2⟩
theorem lgQ_g {s : Qs} {L0 : LT} (h : gQ s L0 (gdQ · 3)) : gG (lgQ s) L0 gAr := by
  intro j L' x s' e h0
  unfold lgQ at e
  split at e
  · cases e
  · injection e with e; injection e with _ e; injection e with e1 e; injection e with e2 e3; subst e1; subst e3
    exact ⟨(h _ _ _ rfl h0).1, fun z => by cases z⟩
theorem arQ_g {i : Nat} {L : LT} (ho : ∀ i L, f ≠ 0 → gQ (orD i L) L (gdQ · 3)) (ha : ∀ i L, f ≠ 0 → gG (agD i L) L gAr) : gG (arQ b n f orD agD i L) L gAr := by
  intro j L' x s e h0
  unfold arQ at e
  split at e
  · exact lgQ_g (orQ_g ho ha (baQ_g ho ha)) j L' x s e h0
  split at e
  · cases e
  · rename_i j1 L1 x1 e1
    have key := opQ_g ho ha _ _ _ e1
    split at e
    · obtain ⟨a1, a2⟩ := lgQ_g (orQ_g ho ha (bfQ_g ho ha (fun z => (key z).2.1))) j L' x s e h0
      exact ⟨(key a1).1, a2⟩
    · injection e with e; injection e with _ e; injection e with e3 e; injection e with e e4; subst e; subst e3; subst e4
      exact ⟨(key h0).1, fun _ => (key h0).2.1⟩
theorem leQ_g : ∀ f, (∀ i L, gQ ((leQ b n f).1 i L) L (gdQ · 3)) ∧ (∀ i L, gG ((leQ b n f).2 i L) L gAr) := by
  intro f
  induction f with
  | zero => exact ⟨fun i L => orQ_g (fun _ _ z => absurd rfl z) (fun _ _ z => absurd rfl z) (baQ_g (fun _ _ z => absurd rfl z) (fun _ _ z => absurd rfl z)), fun i L => arQ_g (fun _ _ z => absurd rfl z) (fun _ _ z => absurd rfl z)⟩
  | succ f ih => exact ⟨fun i L => orQ_g (fun i L _ => ih.1 i L) (fun i L _ => ih.2 i L) (baQ_g (fun i L _ => ih.1 i L) (fun i L _ => ih.2 i L)), fun i L => arQ_g (fun i L _ => ih.1 i L) (fun i L _ => ih.2 i L)⟩
/-- a whole query's -/
theorem whQ_g {s : Bool} {x : QF} (h : whQ b n = .inl (s, x)) : gdQ x 1 := by
  unfold whQ at h
  split at h
  · split at h
    · cases h
    · rename_i j hh L s' x' e
      split at h
      · split at h
        · rename_i hL
          injection h with h; injection h with _ h; subst h
          exact (sgS_g (fun i L _ => (leQ_g 15).1 i L) e hL).2.1
        · cases h
      · cases h
  · cases h
end GDQ
