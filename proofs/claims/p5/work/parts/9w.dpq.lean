/-! HOW DEEP THE CALLS GO, of what is read -/
def dqQ : QF → Nat → Nat
  | .append x y, m => if m = 1 then max (dqQ x 11) (dqQ y 1) else if m = 2 then max (dqQ x 12) (dqQ y 2) else if m = 13 then max (dqQ x 3) (dqQ y 13) else max (dqQ x 7) (dqQ y 7)
  | .tag g x, m => if m = 11 then dqQ x 2 + 2 else if m = 12 then (if g = 5 then dqQ x 3 + 2 else 45) else
    if m = 3 then (if g = 10 ∨ g = 11 then dqQ x 13 + 2 else if g = 12 then dqQ x 3 + 2 else if g = 13 then dqQ x 5 + 2 else if g = 14 then dqQ x 10 + 2 else 45) else
    if m = 5 then dqQ x 6 + 2 else if m = 10 then dqQ x 1 + 2 else if m = 8 then dqQ x 7 + 2 else if g = 25 then dqQ x 10 + 2 else if g = 26 then dqQ x 8 + 2 else 45
  | _, _ => 45
section DPQ
variable {b : By} {n f : Nat} {orD : Nat → LT → Qs} {agD : Nat → LT → (Nat × LT × QF × Bool) ⊕ (Nat × Nat)}
def dkQ (r : Qs) (m N : Nat) : Prop := ∀ j L x, r = .inl (j, L, x) → dqQ x m ≤ N
def dkG (r : (Nat × LT × QF × Bool) ⊕ (Nat × Nat)) (m N : Nat) : Prop := ∀ j L x s, r = .inl (j, L, x, s) → dqQ x m ≤ N
def dkAr (r : (Nat × LT × QF × Bool) ⊕ (Nat × Nat)) (N : Nat) : Prop := ∀ j L x, r = .inl (j, L, x, false) → dqQ x 7 ≤ N
theorem dp_app : ∀ (x y : QF) (m m' : Nat), (m = 1 ∧ m' = 11) ∨ (m = 2 ∧ m' = 12) ∨ (m = 13 ∧ m' = 3) → qL x = true → dqQ (qApp x y) m = max (dqQ x m) (dqQ y m') := by
  intro x
  induction x with
  | append a r _ ih =>
    intro y m m' hm hq
    have := ih y m m' hm hq
    rcases hm with ⟨rfl, rfl⟩ | ⟨rfl, rfl⟩ | ⟨rfl, rfl⟩
    · show max (dqQ a 11) (dqQ (qApp r y) 1) = max (max (dqQ a 11) (dqQ r 1)) (dqQ y 11); omega
    · show max (dqQ a 12) (dqQ (qApp r y) 2) = max (max (dqQ a 12) (dqQ r 2)) (dqQ y 12); omega
    · show max (dqQ a 3) (dqQ (qApp r y) 13) = max (max (dqQ a 3) (dqQ r 13)) (dqQ y 3); omega
  | nil =>
    intro y m m' hm _
    rcases hm with ⟨rfl, rfl⟩ | ⟨rfl, rfl⟩ | ⟨rfl, rfl⟩
    · show max (dqQ y 11) 45 = max 45 (dqQ y 11); omega
    · show max (dqQ y 12) 45 = max 45 (dqQ y 12); omega
    · show max (dqQ y 3) 45 = max 45 (dqQ y 3); omega
  | _ => intro y m m' _ hq; cases hq
theorem slT_d {a e : Option (Bool × Nat)} {i : Nat} {L : LT} : dkQ (slT b n a e i L) 12 (16 * f + 66) := by
  intro j L' x h
  unfold slT at h
  split at h
  · split at h
    · split at h
      · cases h
      · injection h with h; injection h with _ h; injection h with _ h; subst h; (show 45 ≤ _; omega)
    · injection h with h; injection h with _ h; injection h with _ h; subst h; (show 45 ≤ _; omega)
  · injection h with h; injection h with _ h; injection h with _ h; subst h; (show 45 ≤ _; omega)
theorem slQ_d {a : Option (Bool × Nat)} {i : Nat} {L : LT} : dkQ (slQ b n a i L) 12 (16 * f + 66) := by
  intro j L' x h
  unfold slQ at h
  split at h
  · split at h
    · cases h
    · exact slT_d j L' x h
  · exact slT_d j L' x h
theorem seQ_d {strict : Bool} {i : Nat} {L : LT} (ho : ∀ i L, f ≠ 0 → dkQ (orD i L) 3 (16 * f + 64)) : dkQ (seQ b n f orD strict i L) 12 (16 * f + 66) := by
  intro j L' x h
  unfold seQ at h
  split at h
  · split at h
    · cases h
    · injection h with h; injection h with _ h; injection h with _ h; subst h; (show 45 ≤ _; omega)
  split at h
  · split at h
    · cases h
    · split at h
      · exact slQ_d j L' x h
      · injection h with h; injection h with _ h; injection h with _ h; subst h; (show 45 ≤ _; omega)
  split at h
  · cases h
  split at h
  · exact slQ_d j L' x h
  split at h
  · split at h
    · cases h
    · rename_i hf
      split at h
      · cases h
      · rename_i j1 L1 x1 e
        injection h with h; injection h with _ h; injection h with _ h; subst h
        have := ho _ _ hf _ _ _ e
        show dqQ x1 3 + 2 ≤ 16 * f + 66
        omega
  split at h
  · injection h with h; injection h with _ h; injection h with _ h; subst h; (show 45 ≤ _; omega)
  · cases h
theorem slF_d (ho : ∀ i L, f ≠ 0 → dkQ (orD i L) 3 (16 * f + 64)) : ∀ (g i : Nat) (L : LT) (x : QF), qL x = true → dqQ x 2 ≤ 16 * f + 66 → dkQ (slF b n f orD g i L x) 2 (16 * f + 66) := by
  intro g
  induction g with
  | zero => intro i L x _ _ j L' y h; cases h
  | succ g ih =>
    intro i L x hq hx j L' y h
    rw [slF] at h
    split at h
    · split at h
      · cases h
      · rename_i j1 L1 y1 e
        refine ih _ _ _ (qL_app _ _ hq) ?_ j L' y h
        rw [dp_app x y1 2 12 (by omega) hq]
        have := seQ_d ho _ _ _ e
        omega
    · split at h
      · injection h with h; injection h with _ h; injection h with _ h; subst h; exact hx
      · cases h
theorem bkQ_d {strict : Bool} {i : Nat} {L : LT} (ho : ∀ i L, f ≠ 0 → dkQ (orD i L) 3 (16 * f + 64)) : dkG (bkQ b n f orD strict i L) 2 (16 * f + 66) := by
  intro j L' x s h
  unfold bkQ at h
  split at h
  · cases h
  · rename_i j1 L1 y1 e
    have h1 := seQ_d ho _ _ _ e
    have h2 : dqQ (qP y1 qN) 2 ≤ 16 * f + 66 := by show max (dqQ y1 12) 45 ≤ 16 * f + 66; omega
    split at h
    · split at h
      · injection h with h; injection h with _ h; injection h with _ h; injection h with h _; subst h; exact h2
      · cases h
    · split at h
      · cases h
      · rename_i k L2 y e2
        injection h with h; injection h with _ h; injection h with _ h; injection h with h _; subst h
        exact slF_d ho _ _ _ _ rfl h2 _ _ _ e2
theorem dtQ_d {strict : Bool} {i : Nat} {L : LT} : dkG (dtQ b n strict i L) 2 (16 * f + 66) := by
  intro j L' x s h
  unfold dtQ at h
  split at h
  · injection h with h; injection h with _ h; injection h with _ h; injection h with h _; subst h; (show 45 ≤ _; omega)
  · split at h
    · cases h
    · injection h with h; injection h with _ h; injection h with _ h; injection h with h _; subst h; (show 45 ≤ _; omega)
theorem mkQ_d {r : (Nat × LT × QF × Bool) ⊕ (Nat × Nat)} {d : Nat} (h : dkG r 2 (16 * f + 66)) : dkG (mkQ d r) 11 (16 * f + 68) := by
  intro j L x s e
  unfold mkQ at e
  split at e
  · cases e
  · injection e with e; injection e with _ e; injection e with _ e; injection e with e _; subst e
    have := h _ _ _ _ rfl
    show dqQ _ 2 + 2 ≤ _
    omega
theorem sgQ_d {strict : Bool} {i : Nat} {L : LT} (ho : ∀ i L, f ≠ 0 → dkQ (orD i L) 3 (16 * f + 64)) : dkG (sgQ b n f orD strict i L) 11 (16 * f + 68) := by
  unfold sgQ
  split
  · exact mkQ_d (bkQ_d ho)
  split
  · split
    · exact mkQ_d (bkQ_d ho)
    · exact mkQ_d dtQ_d
  · exact mkQ_d dtQ_d
theorem sgF_d {strict : Bool} (ho : ∀ i L, f ≠ 0 → dkQ (orD i L) 3 (16 * f + 64)) : ∀ (g i h : Nat) (L : LT) (s : Bool) (x : QF), qL x = true → dqQ x 1 ≤ 16 * f + 68 → ∀ j h' L' s' x', sgF b n f orD strict g i h L s x = .inl (j, h', L', s', x') → dqQ x' 1 ≤ 16 * f + 68 := by
  intro g
  induction g with
  | zero => intro i h L s x _ _ j h' L' s' x' e; cases e
  | succ g ih =>
    intro i h L s x hq hx j h' L' s' x' e
    rw [sgF] at e
    split at e
    · split at e
      · cases e
      · rename_i j1 L1 y1 s1 e1
        refine ih _ _ _ _ _ (qL_app _ _ hq) ?_ _ _ _ _ _ e
        rw [dp_app x y1 1 11 (by omega) hq]
        have := sgQ_d ho _ _ _ _ e1
        omega
    · injection e with e; injection e with _ e; injection e with _ e; injection e with _ e; injection e with _ e; subst e; exact hx
theorem sgS_d {strict : Bool} {i : Nat} {L : LT} (ho : ∀ i L, f ≠ 0 → dkQ (orD i L) 3 (16 * f + 64)) {j h' : Nat} {L' : LT} {s' : Bool} {x' : QF} (e : sgS b n f orD strict i L = .inl (j, h', L', s', x')) : dqQ x' 1 ≤ 16 * f + 68 := sgF_d ho _ _ _ _ _ _ rfl (by show 45 ≤ _; omega) _ _ _ _ _ e
theorem ptQ_d {strict : Bool} {i : Nat} {L : LT} (ho : ∀ i L, f ≠ 0 → dkQ (orD i L) 3 (16 * f + 64)) : dkQ (ptQ b n f orD strict i L) 7 (16 * f + 72) := by
  intro j L' x h
  unfold ptQ at h
  split at h
  · cases h
  · rename_i j1 h1 L1 s1 x1 e
    injection h with h; injection h with _ h; injection h with _ h; subst h
    have := sgS_d ho e
    show dqQ x1 1 + 2 + 2 ≤ _
    omega
theorem agF_d (hf : f ≠ 0) (ha : ∀ i L, dkAr (agD i L) (16 * f + 56)) : ∀ (g i : Nat) (L : LT) (m : Nat) (x : QF) (lg : Bool), (m ≠ 0 → lg = false → dqQ x 7 ≤ 16 * f + 56) → ∀ j L' m' x' lg', agF b n agD g i L m x lg = .inl (j, L', m', x', lg') → lg' = false → dqQ x' 7 ≤ 16 * f + 56 := by
  intro g
  induction g with
  | zero => intro i L m x lg _ j L' m' x' lg' e; cases e
  | succ g ih =>
    intro i L m x lg hx j L' m' x' lg' e hl
    rw [agF] at e
    split at e
    · cases e
    · rename_i j1 L1 y1 ly e1
      have hy : ly = false → dqQ y1 7 ≤ 16 * f + 56 := fun z => by subst z; have := ha _ _ _ _ _ e1; omega
      have hn : (if m = 0 then ly else lg) = false → dqQ (if m = 0 then y1 else x) 7 ≤ 16 * f + 56 := by
        by_cases hm : m = 0
        · rw [if_pos hm, if_pos hm]; exact hy
        · rw [if_neg hm, if_neg hm]; exact hx hm
      split at e
      · exact ih _ _ _ _ _ (fun _ => hn) _ _ _ _ _ e hl
      · split at e
        · injection e with e; injection e with _ e; injection e with _ e; injection e with _ e; injection e with e1 e2
          subst e1 e2
          exact hn hl
        · cases e
theorem fnQ_dd {i j : Nat} {L : LT} (ha : ∀ i L, f ≠ 0 → dkAr (agD i L) (16 * f + 56)) : dkQ (fnQ b n f agD i j L) 7 (16 * f + 72) := by
  intro k L' x h
  unfold fnQ at h
  split at h
  · cases h
  rename_i hf
  split at h
  · cases h
  · rename_i k1 L1 m1 x1 lg1 e
    split at h
    · rename_i hw
      injection h with h; injection h with _ h; injection h with _ h; subst h
      have hl : lg1 = false := by
        have := hw.2
        unfold wants at this
        cases lg1 with
        | false => rfl
        | true => cases this
      have : dqQ x1 7 ≤ 16 * f + 56 := ?_
      · show dqQ x1 7 + 2 + 2 ≤ _; omega
      split at e
      · injection e with e; injection e with _ e; injection e with _ e; injection e with _ e; injection e with e1 e2
        subst e1; (show 45 ≤ _; omega)
      · exact agF_d hf (fun i L => ha i L hf) _ _ _ _ _ _ (fun z => absurd rfl z) _ _ _ _ _ e hl
    · injection h with h; injection h with _ h; injection h with _ h; subst h; (show 45 ≤ _; omega)
theorem wrQ_d {i : Nat} {L : LT} (ha : ∀ i L, f ≠ 0 → dkAr (agD i L) (16 * f + 56)) : dkQ (wrQ b n f agD i L) 7 (16 * f + 72) := by
  intro j L' x h
  unfold wrQ at h
  split at h
  · exact fnQ_dd ha j L' x h
  split at h
  · injection h with h; injection h with _ h; injection h with _ h; subst h; (show 45 ≤ _; omega)
  split at h
  · injection h with h; injection h with _ h; injection h with _ h; subst h; (show 45 ≤ _; omega)
  split at h
  · injection h with h; injection h with _ h; injection h with _ h; subst h; (show 45 ≤ _; omega)
  · cases h
theorem opQ_d {strict : Bool} {i : Nat} {L : LT} (ho : ∀ i L, f ≠ 0 → dkQ (orD i L) 3 (16 * f + 64)) (ha : ∀ i L, f ≠ 0 → dkAr (agD i L) (16 * f + 56)) : dkQ (opQ b n f orD agD strict i L) 7 (16 * f + 72) := by
  intro j L' x h
  unfold opQ at h
  split at h
  · exact ptQ_d ho j L' x h
  split at h
  · exact wrQ_d ha j L' x h
  split at h
  · split at h
    · cases h
    · injection h with h; injection h with _ h; injection h with _ h; subst h; (show 45 ≤ _; omega)
  split at h
  · split at h
    · cases h
    · injection h with h; injection h with _ h; injection h with _ h; subst h; (show 45 ≤ _; omega)
  · cases h
theorem tsQ_d {x : QF} {h i : Nat} {L : LT} (hx : dqQ x 7 ≤ 16 * f + 72) : dkQ (tsQ x h i L) 3 (16 * f + 72) := by
  intro j L' y e
  unfold tsQ at e
  split at e
  · cases e
  split at e
  · injection e with e; injection e with _ e; injection e with _ e; subst e; (show 45 ≤ _; omega)
  split at e
  · injection e with e; injection e with _ e; injection e with _ e; subst e; exact hx
  · cases e
theorem bfQ_d {x : QF} {h i : Nat} {L : LT} (ho : ∀ i L, f ≠ 0 → dkQ (orD i L) 3 (16 * f + 64)) (ha : ∀ i L, f ≠ 0 → dkAr (agD i L) (16 * f + 56)) (hx : dqQ x 7 ≤ 16 * f + 72) : dkQ (bfQ b n f orD agD x h i L) 3 (16 * f + 76) := by
  intro j L' y e
  unfold bfQ at e
  split at e
  · split at e
    · cases e
    · split at e
      · cases e
      · rename_i k L1 y1 e1
        injection e with e; injection e with _ e; injection e with _ e; subst e
        have := opQ_d ho ha _ _ _ e1
        show max (dqQ x 7) (dqQ y1 7) + 2 + 2 ≤ 16 * f + 76
        omega
  · have := tsQ_d hx j L' y e; omega
theorem grQ_d {i : Nat} {L : LT} (ho : ∀ i L, f ≠ 0 → dkQ (orD i L) 3 (16 * f + 64)) : dkQ (grQ b n f orD i L) 3 (16 * f + 64) := by
  intro j L' y e
  unfold grQ at e
  split at e
  · cases e
  rename_i hf
  split at e
  · cases e
  · rename_i k L1 y1 e1
    split at e
    · injection e with e; injection e with _ e; injection e with _ e; subst e
      have := ho _ _ hf _ _ _ e1
      omega
    · cases e
theorem baQ_d {i : Nat} {L : LT} (ho : ∀ i L, f ≠ 0 → dkQ (orD i L) 3 (16 * f + 64)) (ha : ∀ i L, f ≠ 0 → dkAr (agD i L) (16 * f + 56)) : dkQ (baQ b n f orD agD i L) 3 (16 * f + 76) := by
  intro j L' y e
  unfold baQ at e
  split at e
  · split at e
    · cases e
    · rename_i k L1 y1 e1
      injection e with e; injection e with _ e; injection e with _ e; subst e
      suffices h : dqQ y1 3 ≤ 16 * f + 72 by show dqQ y1 3 + 2 ≤ _; omega
      split at e1
      · have := grQ_d ho _ _ _ e1; omega
      · split at e1
        · cases e1
        · split at e1
          · cases e1
          · rename_i j2 L2 x2 e2
            exact tsQ_d (opQ_d ho ha _ _ _ e2) _ _ _ e1
  · split at e
    · have := grQ_d ho _ _ _ e; omega
    · split at e
      · cases e
      · rename_i j2 L2 x2 e2
        exact bfQ_d ho ha (opQ_d ho ha _ _ _ e2) _ _ _ e
theorem lsF_d {N : Nat} {c : Int32} {rd : Nat → LT → Qs} (hr : ∀ i L, dkQ (rd i L) 3 N) : ∀ (g i : Nat) (L : LT) (x : QF), qL x = true → dqQ x 13 ≤ N → dkQ (lsF b n c rd g i L x) 13 N := by
  intro g
  induction g with
  | zero => intro i L x _ _ j L' y h; cases h
  | succ g ih =>
    intro i L x hq hx j L' y h
    rw [lsF] at h
    split at h
    · split at h
      · split at h
        · cases h
        · rename_i j1 L1 y1 e
          refine ih _ _ _ (qL_app _ _ hq) ?_ j L' y h
          rw [dp_app x y1 13 3 (by omega) hq]
          have := hr _ _ _ _ _ e
          omega
      · cases h
    · injection h with h; injection h with _ h; injection h with _ h; subst h; exact hx
theorem qOne_d {k N : Nat} {s : Qs} (hk : k = 10 ∨ k = 11) (h : dkQ s 13 N) : dkQ (qOne k s) 3 (N + 2) := by
  intro j L x e
  obtain ⟨y, e1, rfl⟩ := qOne_j e
  have := h _ _ _ e1
  rcases hk with rfl | rfl <;> (show dqQ y 13 + 2 ≤ _; omega)
theorem anQ_d {r : Qs} (ho : ∀ i L, f ≠ 0 → dkQ (orD i L) 3 (16 * f + 64)) (ha : ∀ i L, f ≠ 0 → dkAr (agD i L) (16 * f + 56)) (hr : dkQ r 3 (16 * f + 76)) : dkQ (anQ b n f orD agD r) 3 (16 * f + 78) := by
  unfold anQ
  split
  · intro j L x e; cases e
  · rename_i j L x
    exact qOne_d (Or.inr rfl) (lsF_d (fun i L => baQ_d ho ha) _ _ _ _ rfl (by have := hr _ _ _ rfl; show max (dqQ x 3) 45 ≤ 16 * f + 76; omega))
theorem orQ_d {r : Qs} (ho : ∀ i L, f ≠ 0 → dkQ (orD i L) 3 (16 * f + 64)) (ha : ∀ i L, f ≠ 0 → dkAr (agD i L) (16 * f + 56)) (hr : dkQ r 3 (16 * f + 76)) : dkQ (orQ b n f orD agD r) 3 (16 * f + 80) := by
  have h1 := anQ_d (b := b) (n := n) ho ha hr
  unfold orQ
  split
  · intro j L x e; cases e
  · rename_i j L x e
    exact qOne_d (Or.inl rfl) (lsF_d (fun i L => anQ_d ho ha (baQ_d ho ha)) _ _ _ _ rfl (by have := h1 _ _ _ e; show max (dqQ x 3) 45 ≤ 16 * f + 78; omega))
theorem arQ_d {i : Nat} {L : LT} (ho : ∀ i L, f ≠ 0 → dkQ (orD i L) 3 (16 * f + 64)) (ha : ∀ i L, f ≠ 0 → dkAr (agD i L) (16 * f + 56)) : dkAr (arQ b n f orD agD i L) (16 * f + 72) := by
  have lg : ∀ s : Qs, dkAr (lgQ s) (16 * f + 72) := fun s j L x e => by
    unfold lgQ at e
    split at e
    · cases e
    · injection e with e; injection e with _ e; injection e with _ e; injection e with _ e; cases e
  intro j L' x e
  unfold arQ at e
  split at e
  · exact lg _ j L' x e
  split at e
  · cases e
  · rename_i j1 L1 x1 e1
    split at e
    · exact lg _ j L' x e
    · injection e with e; injection e with _ e; injection e with _ e; injection e with e _; subst e
      exact opQ_d ho ha _ _ _ e1
theorem leQ_d : ∀ f, (∀ i L, dkQ ((leQ b n f).1 i L) 3 (16 * f + 80)) ∧ (∀ i L, dkAr ((leQ b n f).2 i L) (16 * f + 72)) := by
  intro f
  induction f with
  | zero => exact ⟨fun i L => orQ_d (fun _ _ z => absurd rfl z) (fun _ _ z => absurd rfl z) (baQ_d (fun _ _ z => absurd rfl z) (fun _ _ z => absurd rfl z)), fun i L => arQ_d (fun _ _ z => absurd rfl z) (fun _ _ z => absurd rfl z)⟩
  | succ f ih => exact ⟨fun i L => orQ_d (fun i L _ => ih.1 i L) (fun i L _ => ih.2 i L) (baQ_d (fun i L _ => ih.1 i L) (fun i L _ => ih.2 i L)), fun i L => arQ_d (fun i L _ => ih.1 i L) (fun i L _ => ih.2 i L)⟩
/-- a whole query's -/
theorem whQ_d {s : Bool} {x : QF} (h : whQ b n = .inl (s, x)) : dqQ x 1 ≤ 324 := by
  unfold whQ at h
  split at h
  · split at h
    · cases h
    · rename_i j hh L s' x' e
      split at h
      · split at h
        · injection h with h; injection h with _ h; subst h
          exact sgS_d (fun i L _ => (leQ_d 15).1 i L) e
        · cases h
      · cases h
  · cases h
end DPQ
