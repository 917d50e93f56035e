/-! FILTERS WITHIN ONE ANOTHER, of what is read -/
section FDQ
variable {b : By} {n f : Nat} {orD : Nat → LT → Qs} {agD : Nat → LT → (Nat × LT × QF × Bool) ⊕ (Nat × Nat)}
def okQ (r : Qs) (m f : Nat) : Prop := ∀ j L x, r = .inl (j, L, x) → fdQ x m ≤ f
def okG (r : (Nat × LT × QF × Bool) ⊕ (Nat × Nat)) (m f : Nat) : Prop := ∀ j L x s, r = .inl (j, L, x, s) → fdQ x m ≤ f
def okAr (r : (Nat × LT × QF × Bool) ⊕ (Nat × Nat)) (f : Nat) : Prop := ∀ j L x, r = .inl (j, L, x, false) → fdQ x 7 ≤ f
theorem fd_app : ∀ (x y : QF) (m m' : Nat), (m = 1 ∧ m' = 11) ∨ (m = 2 ∧ m' = 12) ∨ (m = 13 ∧ m' = 3) → qL x = true → fdQ (qApp x y) m = max (fdQ x m) (fdQ y m') := by
  intro x
  induction x with
  | append a r _ ih =>
    intro y m m' hm hq
    have := ih y m m' hm hq
    rcases hm with ⟨rfl, rfl⟩ | ⟨rfl, rfl⟩ | ⟨rfl, rfl⟩
    · show max (fdQ a 11) (fdQ (qApp r y) 1) = max (max (fdQ a 11) (fdQ r 1)) (fdQ y 11); omega
    · show max (fdQ a 12) (fdQ (qApp r y) 2) = max (max (fdQ a 12) (fdQ r 2)) (fdQ y 12); omega
    · show max (fdQ a 3) (fdQ (qApp r y) 13) = max (max (fdQ a 3) (fdQ r 13)) (fdQ y 3); omega
  | nil =>
    intro y m m' hm _
    rcases hm with ⟨rfl, rfl⟩ | ⟨rfl, rfl⟩ | ⟨rfl, rfl⟩
    · show max (fdQ y 11) 0 = max 0 (fdQ y 11); omega
    · show max (fdQ y 12) 0 = max 0 (fdQ y 12); omega
    · show max (fdQ y 3) 0 = max 0 (fdQ y 3); omega
  | _ => intro y m m' _ hq; cases hq
theorem qL_app : ∀ (x y : QF), qL x = true → qL (qApp x y) = true := by
  intro x
  induction x with
  | append a r _ ih => intro y hq; exact ih y hq
  | nil => intro y _; rfl
  | _ => intro y hq; cases hq
theorem slT_f {a e : Option (Bool × Nat)} {i : Nat} {L : LT} : okQ (slT b n a e i L) 12 f := by
  intro j L' x h
  unfold slT at h
  split at h
  · split at h
    · split at h
      · cases h
      · injection h with h; injection h with _ h; injection h with _ h; subst h; exact Nat.zero_le _
    · injection h with h; injection h with _ h; injection h with _ h; subst h; exact Nat.zero_le _
  · injection h with h; injection h with _ h; injection h with _ h; subst h; exact Nat.zero_le _
theorem slQ_f {a : Option (Bool × Nat)} {i : Nat} {L : LT} : okQ (slQ b n a i L) 12 f := by
  intro j L' x h
  unfold slQ at h
  split at h
  · split at h
    · cases h
    · exact slT_f j L' x h
  · exact slT_f j L' x h
theorem seQ_f {strict : Bool} {i : Nat} {L : LT} (ho : ∀ i L, f ≠ 0 → okQ (orD i L) 3 (f - 1)) : okQ (seQ b n f orD strict i L) 12 f := by
  intro j L' x h
  unfold seQ at h
  split at h
  · split at h
    · cases h
    · injection h with h; injection h with _ h; injection h with _ h; subst h; exact Nat.zero_le _
  split at h
  · split at h
    · cases h
    · split at h
      · exact slQ_f j L' x h
      · injection h with h; injection h with _ h; injection h with _ h; subst h; exact Nat.zero_le _
  split at h
  · cases h
  split at h
  · exact slQ_f j L' x h
  split at h
  · split at h
    · cases h
    · rename_i hf
      split at h
      · cases h
      · rename_i j1 L1 x1 e
        injection h with h; injection h with _ h; injection h with _ h; subst h
        have := ho _ _ hf _ _ _ e
        show fdQ x1 3 + 1 ≤ f
        omega
  split at h
  · injection h with h; injection h with _ h; injection h with _ h; subst h; exact Nat.zero_le _
  · cases h
theorem slF_f (ho : ∀ i L, f ≠ 0 → okQ (orD i L) 3 (f - 1)) : ∀ (g i : Nat) (L : LT) (x : QF), qL x = true → fdQ x 2 ≤ f → okQ (slF b n f orD g i L x) 2 f := by
  intro g
  induction g with
  | zero => intro i L x _ _ j L' y h; cases h
  | succ g ih =>
    intro i L x hq hx j L' y h
    rw [slF] at h
    split at h
    · split at h
      · cases h
      · rename_i j1 L1 y1 e
        refine ih _ _ _ (qL_app _ _ hq) ?_ j L' y h
        rw [fd_app x y1 2 12 (by omega) hq]
        have := seQ_f ho _ _ _ e
        omega
    · split at h
      · injection h with h; injection h with _ h; injection h with _ h; subst h; exact hx
      · cases h
theorem bkQ_f {strict : Bool} {i : Nat} {L : LT} (ho : ∀ i L, f ≠ 0 → okQ (orD i L) 3 (f - 1)) : okG (bkQ b n f orD strict i L) 2 f := by
  intro j L' x s h
  unfold bkQ at h
  split at h
  · cases h
  · rename_i j1 L1 y1 e
    have h1 := seQ_f ho _ _ _ e
    have h2 : fdQ (qP y1 qN) 2 ≤ f := by show max (fdQ y1 12) 0 ≤ f; omega
    split at h
    · split at h
      · injection h with h; injection h with _ h; injection h with _ h; injection h with h _; subst h; exact h2
      · cases h
    · split at h
      · cases h
      · rename_i k L2 y e2
        injection h with h; injection h with _ h; injection h with _ h; injection h with h _; subst h
        exact slF_f ho _ _ _ _ rfl h2 _ _ _ e2
theorem dtQ_f {strict : Bool} {i : Nat} {L : LT} : okG (dtQ b n strict i L) 2 f := by
  intro j L' x s h
  unfold dtQ at h
  split at h
  · injection h with h; injection h with _ h; injection h with _ h; injection h with h _; subst h; exact Nat.zero_le _
  · split at h
    · cases h
    · injection h with h; injection h with _ h; injection h with _ h; injection h with h _; subst h; exact Nat.zero_le _
theorem mkQ_f {r : (Nat × LT × QF × Bool) ⊕ (Nat × Nat)} {d : Nat} (h : okG r 2 f) : okG (mkQ d r) 11 f := by
  intro j L x s e
  unfold mkQ at e
  split at e
  · cases e
  · injection e with e; injection e with _ e; injection e with _ e; injection e with e _; subst e
    exact h _ _ _ _ rfl
theorem sgQ_f {strict : Bool} {i : Nat} {L : LT} (ho : ∀ i L, f ≠ 0 → okQ (orD i L) 3 (f - 1)) : okG (sgQ b n f orD strict i L) 11 f := by
  unfold sgQ
  split
  · exact mkQ_f (bkQ_f ho)
  split
  · split
    · exact mkQ_f (bkQ_f ho)
    · exact mkQ_f dtQ_f
  · exact mkQ_f dtQ_f
theorem sgF_f {strict : Bool} (ho : ∀ i L, f ≠ 0 → okQ (orD i L) 3 (f - 1)) : ∀ (g i h : Nat) (L : LT) (s : Bool) (x : QF), qL x = true → fdQ x 1 ≤ f → ∀ j h' L' s' x', sgF b n f orD strict g i h L s x = .inl (j, h', L', s', x') → fdQ x' 1 ≤ f := by
  intro g
  induction g with
  | zero => intro i h L s x _ _ j h' L' s' x' e; cases e
  | succ g ih =>
    intro i h L s x hq hx j h' L' s' x' e
    rw [sgF] at e
    split at e
    · split at e
      · cases e
      · rename_i j1 L1 y1 s1 e1
        refine ih _ _ _ _ _ (qL_app _ _ hq) ?_ _ _ _ _ _ e
        rw [fd_app x y1 1 11 (by omega) hq]
        have := sgQ_f ho _ _ _ _ e1
        omega
    · injection e with e; injection e with _ e; injection e with _ e; injection e with _ e; injection e with _ e; subst e; exact hx
theorem sgS_f {strict : Bool} {i : Nat} {L : LT} (ho : ∀ i L, f ≠ 0 → okQ (orD i L) 3 (f - 1)) {j h' : Nat} {L' : LT} {s' : Bool} {x' : QF} (e : sgS b n f orD strict i L = .inl (j, h', L', s', x')) : fdQ x' 1 ≤ f := sgF_f ho _ _ _ _ _ _ rfl (Nat.zero_le _) _ _ _ _ _ e
theorem ptQ_f {strict : Bool} {i : Nat} {L : LT} (ho : ∀ i L, f ≠ 0 → okQ (orD i L) 3 (f - 1)) : okQ (ptQ b n f orD strict i L) 7 f := by
  intro j L' x h
  unfold ptQ at h
  split at h
  · cases h
  · rename_i j1 h1 L1 s1 x1 e
    injection h with h; injection h with _ h; injection h with _ h; subst h
    exact sgS_f ho e
theorem agF_f (hf : f ≠ 0) (ha : ∀ i L, okAr (agD i L) (f - 1)) : ∀ (g i : Nat) (L : LT) (m : Nat) (x : QF) (lg : Bool), (m ≠ 0 → lg = false → fdQ x 7 ≤ f) → ∀ j L' m' x' lg', agF b n agD g i L m x lg = .inl (j, L', m', x', lg') → lg' = false → fdQ x' 7 ≤ f := by
  intro g
  induction g with
  | zero => intro i L m x lg _ j L' m' x' lg' e; cases e
  | succ g ih =>
    intro i L m x lg hx j L' m' x' lg' e hl
    rw [agF] at e
    split at e
    · cases e
    · rename_i j1 L1 y1 ly e1
      have hy : ly = false → fdQ y1 7 ≤ f := fun z => by subst z; have := ha _ _ _ _ _ e1; omega
      have hn : (if m = 0 then ly else lg) = false → fdQ (if m = 0 then y1 else x) 7 ≤ f := by
        by_cases hm : m = 0
        · rw [if_pos hm, if_pos hm]; exact hy
        · rw [if_neg hm, if_neg hm]; exact hx hm
      split at e
      · exact ih _ _ _ _ _ (fun _ => hn) _ _ _ _ _ e hl
      · split at e
        · injection e with e; injection e with _ e; injection e with _ e; injection e with _ e; injection e with e1 e2
          subst e1 e2
          exact hn hl
        · cases e
theorem fnQ_fd {i j : Nat} {L : LT} (ha : ∀ i L, f ≠ 0 → okAr (agD i L) (f - 1)) : okQ (fnQ b n f agD i j L) 7 f := by
  intro k L' x h
  unfold fnQ at h
  split at h
  · cases h
  rename_i hf
  split at h
  · cases h
  · rename_i k1 L1 m1 x1 lg1 e
    split at h
    · rename_i hw
      injection h with h; injection h with _ h; injection h with _ h; subst h
      have hl : lg1 = false := by
        have := hw.2
        unfold wants at this
        cases lg1 with
        | false => rfl
        | true => cases this
      show fdQ x1 7 ≤ f
      split at e
      · injection e with e; injection e with _ e; injection e with _ e; injection e with _ e; injection e with e1 e2
        subst e1; exact Nat.zero_le _
      · exact agF_f hf (fun i L => ha i L hf) _ _ _ _ _ _ (fun z => absurd rfl z) _ _ _ _ _ e hl
    · injection h with h; injection h with _ h; injection h with _ h; subst h; exact Nat.zero_le _
theorem wrQ_f {i : Nat} {L : LT} (ha : ∀ i L, f ≠ 0 → okAr (agD i L) (f - 1)) : okQ (wrQ b n f agD i L) 7 f := by
  intro j L' x h
  unfold wrQ at h
  split at h
  · exact fnQ_fd ha j L' x h
  split at h
  · injection h with h; injection h with _ h; injection h with _ h; subst h; exact Nat.zero_le _
  split at h
  · injection h with h; injection h with _ h; injection h with _ h; subst h; exact Nat.zero_le _
  split at h
  · injection h with h; injection h with _ h; injection h with _ h; subst h; exact Nat.zero_le _
  · cases h
theorem opQ_f {strict : Bool} {i : Nat} {L : LT} (ho : ∀ i L, f ≠ 0 → okQ (orD i L) 3 (f - 1)) (ha : ∀ i L, f ≠ 0 → okAr (agD i L) (f - 1)) : okQ (opQ b n f orD agD strict i L) 7 f := by
  intro j L' x h
  unfold opQ at h
  split at h
  · exact ptQ_f ho j L' x h
  split at h
  · exact wrQ_f ha j L' x h
  split at h
  · split at h
    · cases h
    · injection h with h; injection h with _ h; injection h with _ h; subst h; exact Nat.zero_le _
  split at h
  · split at h
    · cases h
    · injection h with h; injection h with _ h; injection h with _ h; subst h; exact Nat.zero_le _
  · cases h
theorem tsQ_f {x : QF} {h i : Nat} {L : LT} (hx : fdQ x 7 ≤ f) : okQ (tsQ x h i L) 3 f := by
  intro j L' y e
  unfold tsQ at e
  split at e
  · cases e
  split at e
  · injection e with e; injection e with _ e; injection e with _ e; subst e; exact Nat.zero_le _
  split at e
  · injection e with e; injection e with _ e; injection e with _ e; subst e; exact hx
  · cases e
theorem bfQ_f {x : QF} {h i : Nat} {L : LT} (ho : ∀ i L, f ≠ 0 → okQ (orD i L) 3 (f - 1)) (ha : ∀ i L, f ≠ 0 → okAr (agD i L) (f - 1)) (hx : fdQ x 7 ≤ f) : okQ (bfQ b n f orD agD x h i L) 3 f := by
  intro j L' y e
  unfold bfQ at e
  split at e
  · split at e
    · cases e
    · split at e
      · cases e
      · rename_i k L1 y1 e1
        injection e with e; injection e with _ e; injection e with _ e; subst e
        have := opQ_f ho ha _ _ _ e1
        show max (fdQ x 7) (fdQ y1 7) ≤ f
        omega
  · exact tsQ_f hx j L' y e
theorem grQ_f {i : Nat} {L : LT} (ho : ∀ i L, f ≠ 0 → okQ (orD i L) 3 (f - 1)) : okQ (grQ b n f orD i L) 3 f := by
  intro j L' y e
  unfold grQ at e
  split at e
  · cases e
  rename_i hf
  split at e
  · cases e
  · rename_i k L1 y1 e1
    split at e
    · injection e with e; injection e with _ e; injection e with _ e; subst e
      have := ho _ _ hf _ _ _ e1
      omega
    · cases e
theorem baQ_f {i : Nat} {L : LT} (ho : ∀ i L, f ≠ 0 → okQ (orD i L) 3 (f - 1)) (ha : ∀ i L, f ≠ 0 → okAr (agD i L) (f - 1)) : okQ (baQ b n f orD agD i L) 3 f := by
  intro j L' y e
  unfold baQ at e
  split at e
  · split at e
    · cases e
    · rename_i k L1 y1 e1
      injection e with e; injection e with _ e; injection e with _ e; subst e
      show fdQ y1 3 ≤ f
      split at e1
      · exact grQ_f ho _ _ _ e1
      · split at e1
        · cases e1
        · split at e1
          · cases e1
          · rename_i j2 L2 x2 e2
            exact tsQ_f (opQ_f ho ha _ _ _ e2) _ _ _ e1
  · split at e
    · exact grQ_f ho _ _ _ e
    · split at e
      · cases e
      · rename_i j2 L2 x2 e2
        exact bfQ_f ho ha (opQ_f ho ha _ _ _ e2) _ _ _ e
theorem lsF_f {c : Int32} {rd : Nat → LT → Qs} (hr : ∀ i L, okQ (rd i L) 3 f) : ∀ (g i : Nat) (L : LT) (x : QF), qL x = true → fdQ x 13 ≤ f → okQ (lsF b n c rd g i L x) 13 f := by
  intro g
  induction g with
  | zero => intro i L x _ _ j L' y h; cases h
  | succ g ih =>
    intro i L x hq hx j L' y h
    rw [lsF] at h
    split at h
    · split at h
      · split at h
        · cases h
        · rename_i j1 L1 y1 e
          refine ih _ _ _ (qL_app _ _ hq) ?_ j L' y h
          rw [fd_app x y1 13 3 (by omega) hq]
          have := hr _ _ _ _ _ e
          omega
      · cases h
    · injection h with h; injection h with _ h; injection h with _ h; subst h; exact hx
theorem qOne_f {k : Nat} {s : Qs} (hk : k = 10 ∨ k = 11) (h : okQ s 13 f) : okQ (qOne k s) 3 f := by
  intro j L x e
  obtain ⟨y, e1, rfl⟩ := qOne_j e
  have := h _ _ _ e1
  rcases hk with rfl | rfl <;> exact this
theorem anQ_f {r : Qs} (ho : ∀ i L, f ≠ 0 → okQ (orD i L) 3 (f - 1)) (ha : ∀ i L, f ≠ 0 → okAr (agD i L) (f - 1)) (hr : okQ r 3 f) : okQ (anQ b n f orD agD r) 3 f := by
  unfold anQ
  split
  · intro j L x e; cases e
  · rename_i j L x
    exact qOne_f (Or.inr rfl) (lsF_f (fun i L => baQ_f ho ha) _ _ _ _ rfl (by have := hr _ _ _ rfl; show max (fdQ x 3) 0 ≤ f; omega))
theorem orQ_f {r : Qs} (ho : ∀ i L, f ≠ 0 → okQ (orD i L) 3 (f - 1)) (ha : ∀ i L, f ≠ 0 → okAr (agD i L) (f - 1)) (hr : okQ r 3 f) : okQ (orQ b n f orD agD r) 3 f := by
  have h1 := anQ_f (b := b) (n := n) ho ha hr
  unfold orQ
  split
  · intro j L x e; cases e
  · rename_i j L x e
    exact qOne_f (Or.inl rfl) (lsF_f (fun i L => anQ_f ho ha (baQ_f ho ha)) _ _ _ _ rfl (by have := h1 _ _ _ e; show max (fdQ x 3) 0 ≤ f; omega))
theorem arQ_f {i : Nat} {L : LT} (ho : ∀ i L, f ≠ 0 → okQ (orD i L) 3 (f - 1)) (ha : ∀ i L, f ≠ 0 → okAr (agD i L) (f - 1)) : okAr (arQ b n f orD agD i L) f := by
  have lg : ∀ s : Qs, okAr (lgQ s) f := fun s j L x e => by
    unfold lgQ at e
    split at e
    · cases e
    · injection e with e; injection e with _ e; injection e with _ e; injection e with _ e; cases e
  intro j L' x e
  unfold arQ at e
  split at e
  · exact lg _ j L' x e
  split at e
  · cases e
  · rename_i j1 L1 x1 e1
    split at e
    · exact lg _ j L' x e
    · injection e with e; injection e with _ e; injection e with _ e; injection e with e _; subst e
      exact opQ_f ho ha _ _ _ e1
theorem leQ_f : ∀ f, (∀ i L, okQ ((leQ b n f).1 i L) 3 f) ∧ (∀ i L, okAr ((leQ b n f).2 i L) f) := by
  intro f
  induction f with
  | zero => exact ⟨fun i L => orQ_f (fun _ _ z => absurd rfl z) (fun _ _ z => absurd rfl z) (baQ_f (fun _ _ z => absurd rfl z) (fun _ _ z => absurd rfl z)), fun i L => arQ_f (fun _ _ z => absurd rfl z) (fun _ _ z => absurd rfl z)⟩
  | succ f ih => exact ⟨fun i L => orQ_f (fun i L _ => ih.1 i L) (fun i L _ => ih.2 i L) (baQ_f (fun i L _ => ih.1 i L) (fun i L _ => ih.2 i L)), fun i L => arQ_f (fun i L _ => ih.1 i L) (fun i L _ => ih.2 i L)⟩
/-- a whole query's -/
theorem whQ_f {s : Bool} {x : QF} (h : whQ b n = .inl (s, x)) : fdQ x 1 ≤ 16 := by
  unfold whQ at h
  split at h
  · split at h
    · cases h
    · rename_i j hh L s' x' e
      split at h
      · split at h
        · injection h with h; injection h with _ h; subst h
          exact sgS_f (fun i L _ => (leQ_f 15).1 i L) e
        · cases h
      · cases h
  · cases h
end FDQ
