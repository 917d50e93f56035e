/-! HOW LONG A VALUE'S TEXT AND ITS PATHS CAN BE -/
/-- the digits of a number -/
def dgd : Nat → Nat → Nat
  | 0, _ => 0
  | k + 1, n => if n < 10 ^ k then dgd k n else k + 1
theorem dgd_le : ∀ K n, dgd K n ≤ K
  | 0, _ => Nat.le_refl _
  | k + 1, n => by
    have := dgd_le k n
    rw [dgd]
    split <;> omega
theorem dgd_lt : ∀ K n, n < 10 ^ K → n < 10 ^ dgd K n
  | 0, _, h => h
  | k + 1, n, h => by
    rw [dgd]
    by_cases e : n < 10 ^ k
    · rw [if_pos e]; exact dgd_lt k n e
    · rw [if_neg e]; exact h
theorem dgd_of : ∀ K n j, n < 10 ^ j → dgd K n ≤ j
  | 0, _, _, _ => Nat.zero_le _
  | k + 1, n, j, h => by
    rw [dgd]
    by_cases e : n < 10 ^ k
    · rw [if_pos e]; exact dgd_of k n j h
    · rw [if_neg e]
      rcases Nat.lt_or_ge j (k + 1) with z | z
      · exact absurd (Nat.lt_of_lt_of_le h (Nat.pow_le_pow_right (by decide) (by omega))) e
      · exact z
/-- the bytes that a number takes -/
def kdg (z : Int64) : Nat := max 1 (dgd 17 z.toInt.natAbs) + (if z.toInt < 0 then 1 else 0)
/-- a number beyond all bounds counts as one that takes too much -/
def bgC (z : Int64) : Nat := if z.toInt.natAbs < 10 ^ 17 then 0 else 100000
/-- what a node takes without its kids; what its name and the sign before it take -/
def owC (e : Ent) : Nat := if eK e < 3 then 4 + eK e % 2 else if eK e = 3 then kdg (eJ e) + bgC (eJ e) else if eK e = 4 then 2 + 6 * (eC e).length else 2
def naC (e : Ent) : Nat := match eN e with
  | none => 1
  | some cs => 4 + 6 * cs.length
def smL (f : Nat → Nat) : List Nat → Nat
  | [] => 0
  | x :: r => f x + smL f r
/-- what a node takes with all below it, f depths of it -/
def tcS (V : VT) : Nat → Nat → Nat
  | 0, _ => 0
  | f + 1, k => owC (V k) + smL (fun x => naC (V x) + tcS V f x) (eS (V k))
theorem smL_eq {f g : Nat → Nat} : ∀ {l : List Nat}, (∀ x ∈ l, f x = g x) → smL f l = smL g l
  | [], _ => rfl
  | x :: r, h => by rw [smL, smL, h x (by simp), smL_eq (fun z hz => h z (by simp [hz]))]
theorem smL_app {f : Nat → Nat} {k : Nat} : ∀ {l : List Nat}, smL f (l ++ [k]) = smL f l + f k
  | [] => by show f k + 0 = 0 + f k; omega
  | x :: r => by show f x + smL f (r ++ [k]) = f x + smL f r + f k; rw [smL_app]; omega
theorem smL_mem {f : Nat → Nat} {k : Nat} : ∀ {l : List Nat}, k ∈ l → f k ≤ smL f l
  | [], h => by cases h
  | x :: r, h => by
    rw [smL]
    rcases List.mem_cons.mp h with rfl | h
    · omega
    · have := smL_mem (f := f) h; omega
theorem sk_gi (b : By) (n i : Nat) : i ≤ sk b n i := (sk_ge (n - i) i rfl).1
section TCS
variable {V V1 V' : VT} {b : By} {n : Nat}
theorem tcS_eq {lo hi : Nat} (he : ∀ y, lo ≤ y → y < hi → V1 y = V y) (hk : ∀ y, lo ≤ y → y < hi → ∀ k ∈ eS (V y), lo ≤ k ∧ k < hi) : ∀ (f x : Nat), lo ≤ x → x < hi → tcS V1 f x = tcS V f x := by
  intro f
  induction f with
  | zero => intro x _ _; rfl
  | succ f ih =>
    intro x h1 h2
    rw [tcS, tcS, he x h1 h2]
    congr 1
    refine smL_eq (fun k hk' => ?_)
    have := hk x h1 h2 k hk'
    rw [he k this.1 this.2, ih k this.1 this.2]
/-- a node whose name alone has changed, or whose last -/
theorem tcS_nm {x hi : Nat} (h1 : eK (V1 x) = eK (V x)) (h2 : eJ (V1 x) = eJ (V x)) (h3 : eC (V1 x) = eC (V x)) (h4 : eS (V1 x) = eS (V x)) (he : ∀ y, x + 1 ≤ y → y < hi → V1 y = V y) (hx : ∀ k ∈ eS (V x), x + 1 ≤ k ∧ k < hi) (hk : ∀ y, x + 1 ≤ y → y < hi → ∀ k ∈ eS (V y), x + 1 ≤ k ∧ k < hi) (f : Nat) : tcS V1 f x = tcS V f x := by
  cases f with
  | zero => rfl
  | succ f =>
    rw [tcS, tcS, h4]
    have : owC (V1 x) = owC (V x) := by unfold owC; rw [h1, h2, h3]
    rw [this]
    congr 1
    refine smL_eq (fun k hk' => ?_)
    have := hx k hk'
    rw [he k this.1 this.2, tcS_eq he hk f k this.1 this.2]
/-- the kids of nodes of the right form lie behind them -/
theorem NIv.in {lo hi : Nat} (h : ∀ x, lo ≤ x → x < hi → NIv V x ∧ eL (V x) < hi) : ∀ y, lo ≤ y → y < hi → ∀ k ∈ eS (V y), lo ≤ k ∧ k < hi := fun y h1 h2 k hk => by
  have := kcV_in (h y h1 h2).1.1 k hk
  have := (h y h1 h2).2
  omega
/-- what a reader of values gives: no node's text is longer than six times what was read -/
def RDt (n : Nat) (rd : Nat → Nat → VT → Rs) : Prop := ∀ i c V j c' V', i ≤ n → rd i c V = .inl (j, c', V') → ∀ f x, c ≤ x → x < c' → tcS V' f x ≤ 6 * (j - i)
/-- an array, an object with its kids so far: what they take -/
def PIt (V : VT) (p c s : Nat) : Prop := (∀ f x, p < x → x < c → tcS V f x ≤ 6 * s) ∧ (∀ f, smL (fun x => naC (V x) + tcS V f x) (eS (V p)) ≤ 6 * s)
theorem PIt.add {p c c1 dd s s' w : Nat} {nm : Option (List Nat)} (hP : PIv V p c dd) (h : PIt V p c s) (hpc : p < c) (hc : c < c1) (hs : ∀ x, x < c → V1 x = V x) (hn : ∀ x, c ≤ x → x < c1 → NIv V1 x ∧ eL (V1 x) < c1) (ht : ∀ f x, c ≤ x → x < c1 → tcS V1 f x ≤ 6 * w) (hnm : naC (eNam (V1 c) nm (kIx (V p))) + 6 * s + 6 * w ≤ 6 * s') : PIt (vAdo V1 p c nm) p c1 s' := by
  have hp : V1 p = V p := hs p hpc
  have vp : vAdo V1 p c nm p = eAdd (V p) c := by unfold vAdo; rw [up1, if_pos rfl, hp]
  have vc : vAdo V1 p c nm c = eNam (V1 c) nm (kIx (V p)) := by unfold vAdo; rw [up1, if_neg (by omega), up1, if_pos rfl, hp]
  have vx : ∀ x, x ≠ p → x ≠ c → vAdo V1 p c nm x = V1 x := fun x a1 a2 => by unfold vAdo; rw [up1, if_neg a1, up1, if_neg a2]
  have kin := fun k hk => kcV_in hP.2.1 k hk
  -- nodes that lay there before
  have old : ∀ f x, p < x → x < c → tcS (vAdo V1 p c nm) f x = tcS V f x := fun f x a1 a2 =>
    tcS_eq (lo := p + 1) (hi := c) (fun y b1 b2 => (vx y (by omega) (by omega)).trans (hs y b2)) (NIv.in (fun y b1 b2 => hP.1 y (by omega) b2)) f x (by omega) a2
  have new : ∀ f x, c ≤ x → x < c1 → tcS (vAdo V1 p c nm) f x = tcS V1 f x := fun f x a1 a2 => by
    have k1 := NIv.in hn
    have k2 : ∀ y, c + 1 ≤ y → y < c1 → ∀ k ∈ eS (V1 y), c + 1 ≤ k ∧ k < c1 := fun y b1 b2 k hk => by
      have := kcV_in (hn y (by omega) b2).1.1 k hk
      have := (hn y (by omega) b2).2
      omega
    have k3 : ∀ k ∈ eS (V1 c), c + 1 ≤ k ∧ k < c1 := fun k hk => by
      have := kcV_in (hn c (Nat.le_refl _) hc).1.1 k hk
      have := (hn c (Nat.le_refl _) hc).2
      omega
    have e1 : ∀ y, c + 1 ≤ y → y < c1 → vAdo V1 p c nm y = V1 y := fun y b1 b2 => vx y (by omega) (by omega)
    rcases Nat.eq_or_lt_of_le a1 with z | z
    · rw [← z]
      exact tcS_nm (by rw [vc]; rfl) (by rw [vc]; rfl) (by rw [vc]; rfl) (by rw [vc]; rfl) e1 k3 k2 f
    · exact tcS_eq e1 k2 f x (by omega) a2
  refine ⟨fun f x a1 a2 => ?_, fun f => ?_⟩
  · rcases Nat.lt_or_ge x c with z | z
    · rw [old f x a1 z]
      have := h.1 f x a1 z
      omega
    · rw [new f x z a2]
      have := ht f x z a2
      omega
  · rw [vp]
    show smL _ (eS (V p) ++ [c]) ≤ _
    rw [smL_app]
    have e : smL (fun x => naC (vAdo V1 p c nm x) + tcS (vAdo V1 p c nm) f x) (eS (V p)) = smL (fun x => naC (V x) + tcS V f x) (eS (V p)) := smL_eq (fun k hk => by
      have := kin k hk
      rw [old f k (by omega) (by omega), vx k (by omega) (by omega), hs k (by omega)])
    rw [e, vc, new f c (Nat.le_refl _) hc]
    have := h.2 f
    have := ht f c (Nat.le_refl _) hc
    omega
theorem elF_t {rd : Nat → Nat → VT → Rs} {p dd : Nat} (hf : Fwd n rd) (hr : RDv n rd (some p) dd) (ht : RDt n rd) : ∀ (g i c : Nat) (V : VT) (j c' : Nat) (V' : VT) (i0 : Nat), i ≤ n → i0 ≤ i → p < c → PIv V p c dd → eK (V p) = 5 → PIt V p c (i - i0) → elF b n rd p g i c V = .inl (j, c', V') → PIt V' p c' (j - i0) ∧ i0 < j := by
  intro g
  induction g with
  | zero => intro i c V j c' V' i0 _ _ _ _ _ _ h; cases h
  | succ g ih =>
    intro i c V j c' V' i0 hi hi0 hpc hP h5 hT h
    rw [elF] at h
    cases hx : rd i c V with
    | inr e => rw [hx] at h; cases h
    | inl z =>
      obtain ⟨j1, c1, V1⟩ := z
      rw [hx] at h
      obtain ⟨f1, f2, f3, f4, f5, f6⟩ := hf i c V j1 c1 V1 hi hx
      obtain ⟨r1, r2, r3, r4⟩ := hr i c V j1 c1 V1 hi hx
      have t1 := ht i c V j1 c1 V1 hi hx
      obtain ⟨a1, a2, a3⟩ := hP.add (nm := none) hpc f3 f4 r1 r2 r3 r4 (fun z => by omega)
      have hs := sk_le (b := b) f2
      have hge := sk_gi b n j1
      have sm : ∀ s', j1 + 1 ≤ s' → PIt (vAdo V1 p c none) p c1 (s' - i0) := fun s' hs' => hT.add hP hpc f3 f4 r1 t1 (by show 1 + 6 * (i - i0) + 6 * (j1 - i) ≤ 6 * (s' - i0); omega)
      have h : (if pk b n (sk b n j1) = 44 then elF b n rd p g (sk b n (sk b n j1 + 1)) c1 (vAdo V1 p c none) else if pk b n (sk b n j1) = 93 then .inl (sk b n j1 + 1, c1, vAdo V1 p c none) else .inr (1, sk b n j1)) = .inl (j, c', V') := h
      split at h
      · rename_i e44
        have hlt := (pk_nn e44 (by decide)).1
        have hge2 := sk_gi b n (sk b n j1 + 1)
        exact ih _ _ _ _ _ _ i0 (sk_le (b := b) (n := n) (i := sk b n j1 + 1) (by omega)) (by omega) (by omega) a1 (a3.trans h5) (sm _ (by omega)) h
      · split at h
        · injection h with h
          injection h with h0 h
          injection h with h1 h2
          subst h0 h1 h2
          exact ⟨sm _ (by omega), by omega⟩
        · cases h
theorem obF_t {rd : Nat → Nat → VT → Rs} {p dd : Nat} (hb : ∀ k, b k < 256) (hn : n ≤ 1200) (hf : Fwd n rd) (hr : RDv n rd (some p) dd) (ht : RDt n rd) : ∀ (g i c : Nat) (V : VT) (j c' : Nat) (V' : VT) (i0 : Nat), i ≤ n → i0 ≤ i → p < c → PIv V p c dd → PIt V p c (i - i0) → obF b n rd p g i c V = .inl (j, c', V') → PIt V' p c' (j - i0) ∧ i0 < j := by
  intro g
  induction g with
  | zero => intro i c V j c' V' i0 _ _ _ _ _ h; cases h
  | succ g ih =>
    intro i c V j c' V' i0 hi hi0 hpc hP hT h
    rw [obF] at h
    cases hx : mbS b n rd p i c V with
    | inr e => rw [hx] at h; cases h
    | inl z =>
      obtain ⟨j1, c1, V2⟩ := z
      rw [hx] at h
      have key : ∃ i2 V1 cs, i2 ≤ n ∧ j1 ≤ n ∧ cs.length + i + 3 ≤ i2 ∧ rd i2 c V = .inl (j1, c1, V1) ∧ V2 = vAdo V1 p c (some cs) := by
        unfold mbS at hx
        split at hx
        · cases hs : stS b n 34 (i + 1) with
          | inr q => rw [hs] at hx; cases hx
          | inl z =>
            obtain ⟨cs, j0⟩ := z
            rw [hs] at hx
            obtain ⟨s1, s2, s3, -⟩ := stS_ok hb hn (by decide) hs
            have hx : (if hasN V p cs then .inr (2, i) else if pk b n (sk b n j0) = 58 then (match rd (sk b n (sk b n j0 + 1)) c V with
              | .inr e => .inr e
              | .inl (j, c', V') => .inl (j, c', vAdo V' p c (some cs)) : Rs) else .inr (1, sk b n j0)) = .inl (j1, c1, V2) := hx
            split at hx
            · cases hx
            split at hx
            · rename_i e58
              have hlt := (pk_nn e58 (by decide)).1
              have hk := sk_le (b := b) (n := n) (i := sk b n j0 + 1) (by omega)
              have hg1 := sk_gi b n j0
              have hg2 := sk_gi b n (sk b n j0 + 1)
              cases hr' : rd (sk b n (sk b n j0 + 1)) c V with
              | inr e => rw [hr'] at hx; cases hx
              | inl z =>
                obtain ⟨j2, c2, V1⟩ := z
                rw [hr'] at hx
                injection hx with hx
                injection hx with h1 hx
                injection hx with h2 h3
                subst h1 h2
                exact ⟨_, V1, cs, hk, (hf _ _ _ _ _ _ hk hr').2.1, by omega, hr', h3.symm⟩
            · cases hx
        · cases hx
      obtain ⟨i2, V1, cs, hi2, hj1, hcs, hrd, rfl⟩ := key
      obtain ⟨f1, f2, f3, f4, f5, f6⟩ := hf i2 c V j1 c1 V1 hi2 hrd
      obtain ⟨r1, r2, r3, r4⟩ := hr i2 c V j1 c1 V1 hi2 hrd
      have t1 := ht i2 c V j1 c1 V1 hi2 hrd
      obtain ⟨a1, a2, a3⟩ := hP.add (nm := some cs) hpc f3 f4 r1 r2 r3 r4 (fun z => by simp)
      have hs := sk_le (b := b) f2
      have hge := sk_gi b n j1
      have sm : ∀ s', j1 + 1 ≤ s' → PIt (vAdo V1 p c (some cs)) p c1 (s' - i0) := fun s' hs' => hT.add hP hpc f3 f4 r1 t1 (by show 4 + 6 * cs.length + 6 * (i - i0) + 6 * (j1 - i2) ≤ 6 * (s' - i0); omega)
      have h : (if pk b n (sk b n j1) = 44 then obF b n rd p g (sk b n (sk b n j1 + 1)) c1 (vAdo V1 p c (some cs)) else if pk b n (sk b n j1) = 125 then .inl (sk b n j1 + 1, c1, vAdo V1 p c (some cs)) else .inr (1, sk b n j1)) = .inl (j, c', V') := h
      split at h
      · rename_i e44
        have hlt := (pk_nn e44 (by decide)).1
        have hge2 := sk_gi b n (sk b n j1 + 1)
        exact ih _ _ _ _ _ _ i0 (sk_le (b := b) (n := n) (i := sk b n j1 + 1) (by omega)) (by omega) (by omega) a1 (sm _ (by omega)) h
      · split at h
        · injection h with h
          injection h with h0 h
          injection h with h1 h2
          subst h0 h1 h2
          exact ⟨sm _ (by omega), by omega⟩
        · cases h
end TCS
/-- a number takes no more bytes than it was read from -/
theorem dgF_lt {b : By} {n : Nat} (hb : ∀ k, b k < 256) : ∀ (f i N j M : Nat), dgF b n f i N = (j, M) → i ≤ j ∧ M + 1 ≤ 10 ^ (j - i) * (N + 1)
  | 0, i, N, j, M, h => by
    rw [dgF] at h
    injection h with h1 h2
    subst h1 h2
    refine ⟨Nat.le_refl _, ?_⟩
    rw [Nat.sub_self, Nat.pow_zero, Nat.one_mul]; exact Nat.le_refl _
  | f + 1, i, N, j, M, h => by
    rw [dgF] at h
    by_cases e : dgt b n i = true
    · rw [if_pos e] at h
      obtain ⟨h1, h2⟩ := dgF_lt hb f _ _ _ _ h
      obtain ⟨-, d1, d2⟩ := dgt_lt e
      refine ⟨by omega, Nat.le_trans h2 ?_⟩
      rw [show j - i = (j - (i + 1)) + 1 by omega, Nat.pow_succ, Nat.mul_assoc]
      exact Nat.mul_le_mul_left _ (by omega)
    · rw [if_neg e] at h
      injection h with h1 h2
      subst h1 h2
      refine ⟨Nat.le_refl _, ?_⟩
      rw [Nat.sub_self, Nat.pow_zero, Nat.one_mul]; exact Nat.le_refl _
theorem wn1_lt {b : By} {n : Nat} (hb : ∀ k, b k < 256) {m m' mz : Bool} {i j N : Nat} (h : wn1 b n m mz i = .inl (j, m', N)) : m' = m ∧ i < j ∧ N < 10 ^ (j - i) := by
  unfold wn1 at h
  split at h
  · cases h
  · rename_i e
    have hd : dgt b n i = true := by
      cases hd : dgt b n i with
      | true => rfl
      | false => exact absurd (Or.inl hd) e
    split at h
    · injection h with h
      injection h with h1 h
      injection h with h2 h3
      subst h1 h2 h3
      exact ⟨rfl, by omega, Nat.pow_pos (by decide)⟩
    · injection h with h
      injection h with h1 h
      injection h with h2 h3
      have hlt := (dgt_lt hd).1
      obtain ⟨f, hf⟩ : ∃ f, n - i = f + 1 := ⟨n - i - 1, by omega⟩
      have e1 : dgF b n (n - i) i 0 = dgF b n f (i + 1) (10 * 0 + (b i - 48)) := by rw [hf, dgF, if_pos hd]
      obtain ⟨a1, -⟩ := dgF_lt hb f (i + 1) (10 * 0 + (b i - 48)) _ _ rfl
      rw [← e1, h1] at a1
      obtain ⟨-, b2⟩ := dgF_lt hb (n - i) i 0 _ _ rfl
      rw [h1, h3] at b2
      refine ⟨h2.symm, by omega, by omega⟩
theorem sgR_toInt {m : Bool} {N : Nat} (hN : N ≤ 9007199254740991) : (sgR m N).toInt = if m then -(N : Int) else N := by
  unfold sgR
  cases m with
  | true => rw [if_pos rfl, if_pos rfl, lNneg_toInt (by omega)]
  | false =>
    rw [if_neg (by decide), if_neg (by decide)]
    exact lg_ofNat_toInt (by omega)
theorem sgR_abs {m : Bool} {N : Nat} (hN : N ≤ 9007199254740991) : (sgR m N).toInt.natAbs = N := by
  rw [sgR_toInt hN]
  cases m <;> simp
theorem kdg_le {m : Bool} {N k : Nat} (hN : N ≤ 9007199254740991) (hk : 1 ≤ k) (h : N < 10 ^ k) : kdg (sgR m N) ≤ k + (if m then 1 else 0) := by
  have e := sgR_toInt (m := m) hN
  have ea := sgR_abs (m := m) hN
  unfold kdg
  rw [ea]
  have h1 := dgd_of 17 N k h
  have h2 : (if (sgR m N).toInt < 0 then 1 else 0) ≤ (if m then 1 else 0) := by
    cases m with
    | true => show _ ≤ 1; split <;> omega
    | false => rw [if_neg (by rw [e]; simp)]; exact Nat.zero_le _
  omega
theorem bgC_0 {m : Bool} {N : Nat} (hN : N ≤ 9007199254740991) : bgC (sgR m N) = 0 := by
  unfold bgC
  rw [sgR_abs hN, if_pos (Nat.lt_of_le_of_lt hN (by decide))]
theorem wnS_kdg {b : By} {n : Nat} (hb : ∀ k, b k < 256) {mz m : Bool} {i j N : Nat} (h : wnS b n mz i = .inl (j, m, N)) (hN : N ≤ 9007199254740991) : kdg (sgR m N) ≤ j - i := by
  unfold wnS at h
  split at h
  · obtain ⟨h1, h2, h3⟩ := wn1_lt hb h
    have := kdg_le (m := m) hN (k := j - (i + 1)) (by omega) h3
    rw [h1] at this ⊢
    rw [if_pos rfl] at this
    omega
  · obtain ⟨h1, h2, h3⟩ := wn1_lt hb h
    have := kdg_le (m := m) hN (k := j - i) (by omega) h3
    rw [h1] at this ⊢
    rw [if_neg (by decide)] at this
    omega
section TC2
variable {b : By} {n : Nat}
/-- a value that was read: no text of a node of it is longer than six times its bytes -/
theorem vaS_t {W : Nat → (Nat × Bool × Nat) ⊕ Nat} (hb : ∀ k, b k < 256) (hn : n ≤ 1200) (hW : ∀ i j m N, W i = .inl (j, m, N) → i < j ∧ j ≤ n) (hW2 : ∀ i j m N, W i = .inl (j, m, N) → N ≤ 9007199254740991 → kdg (sgR m N) ≤ j - i) : ∀ (f : Nat) (u : Option Nat), f ≤ 30 → RDt n (vaS b n W f u) := by
  intro f
  induction f with
  | zero =>
    intro u _ i c V j c' V' _ h
    rw [vaS] at h
    split at h <;> cases h
  | succ f ih =>
    intro u hf i c V j c' V' hi h
    have hfw := vaS_inv hb hn hW (f + 1) u i c V j c' V' hi h
    have hvv := vaS_v hb hn hW (f + 1) u hf i c V j c' V' hi h
    rw [vaS] at h
    cases hk : kdB (pk b n i) with
    | none => rw [hk] at h; cases h
    | some k =>
      rw [hk] at h
      have h : (if 300 ≤ c then .inr (4, i) else rsL c (rsS b n W (vaS b n W f (some c)) k i c (up1 V c (eMk k u (30 - f) 0 [] c))) : Rs) = .inl (j, c', V') := h
      split at h
      · cases h
      have hin := (kdB_lt hb hk).1
      have hk7 := (kdB_lt hb hk).2
      obtain ⟨V0, hV0⟩ : ∃ V0, V0 = up1 V c (eMk k u (30 - f) 0 [] c) := ⟨_, rfl⟩
      rw [← hV0] at h
      have v0 : V0 c = eMk k u (30 - f) 0 [] c := by rw [hV0, up1, if_pos rfl]
      have hsk := sk_le (b := b) (n := n) (i := i + 1) (by omega)
      have hsg := sk_gi b n (i + 1)
      cases hx : rsS b n W (vaS b n W f (some c)) k i c V0 with
      | inr e => rw [hx] at h; cases h
      | inl z =>
        obtain ⟨j1, c1, V1⟩ := z
        rw [hx] at h
        have h : (.inl (j1, c1, vLst V1 c (c1 - 1)) : Rs) = .inl (j, c', V') := h
        injection h with h
        injection h with h0 h
        injection h with h1 h2
        subst h0 h1 h2
        have lc : vLst V1 c (c1 - 1) c = eLst (V1 c) (c1 - 1) := by unfold vLst; rw [up1, if_pos rfl]
        have lx : ∀ x, x ≠ c → vLst V1 c (c1 - 1) x = V1 x := fun x hx => by unfold vLst; rw [up1, if_neg hx]
        -- what the nodes behind c take is told before its last is set
        have fin : (∀ f x, c < x → x < c1 → tcS V1 f x ≤ 6 * (j1 - i)) → (∀ f, tcS V1 f c ≤ 6 * (j1 - i)) → ∀ f x, c ≤ x → x < c1 → tcS (vLst V1 c (c1 - 1)) f x ≤ 6 * (j1 - i) := by
          intro g1 g2 f x a1 a2
          have k2 : ∀ y, c + 1 ≤ y → y < c1 → ∀ z ∈ eS (V1 y), c + 1 ≤ z ∧ z < c1 := fun y b1 b2 z hz => by
            have hq := hvv.1 y (by omega) b2
            rw [lx y (by omega)] at hq
            have := kcV_in hq.1.1
            rw [lx y (by omega)] at this
            have := this z hz
            omega
          have k3 : ∀ z ∈ eS (V1 c), c + 1 ≤ z ∧ z < c1 := fun z hz => by
            have hq := hvv.1 c (Nat.le_refl _) (by omega)
            have := kcV_in hq.1.1
            rw [lc] at this
            have := this z hz
            have hl : c1 - 1 + 1 = c1 := by omega
            have this : c + 1 ≤ z ∧ z < c1 - 1 + 1 ∧ _ := this
            omega
          have e1 : ∀ y, c + 1 ≤ y → y < c1 → vLst V1 c (c1 - 1) y = V1 y := fun y b1 b2 => lx y (by omega)
          rcases Nat.eq_or_lt_of_le a1 with z | z
          · rw [← z, tcS_nm (by rw [lc]; rfl) (by rw [lc]; rfl) (by rw [lc]; rfl) (by rw [lc]; rfl) e1 k3 k2 f]
            exact g2 f
          · rw [tcS_eq e1 k2 f x (by omega) a2]
            exact g1 f x z a2
        have leaf : c1 = c + 1 → eS (V1 c) = [] → owC (V1 c) ≤ 6 * (j1 - i) → ∀ f x, c ≤ x → x < c1 → tcS (vLst V1 c (c1 - 1)) f x ≤ 6 * (j1 - i) := by
          intro e1 e2 e3
          refine fin (fun f x a1 a2 => by omega) (fun f => ?_)
          cases f with
          | zero => exact Nat.zero_le _
          | succ f => rw [tcS, e2]; exact e3
        have node : owC (V1 c) = 2 → PIt V1 c c1 (j1 - (i + 1)) → i < j1 → ∀ f x, c ≤ x → x < c1 → tcS (vLst V1 c (c1 - 1)) f x ≤ 6 * (j1 - i) := by
          intro e1 e2 e3
          refine fin (fun f x a1 a2 => by have := e2.1 f x a1 a2; omega) (fun f => ?_)
          cases f with
          | zero => exact Nat.zero_le _
          | succ f =>
            rw [tcS, e1]
            have := e2.2 f
            omega
        have hP0 : k = 5 ∨ k = 6 → PIv V0 c (c + 1) (31 - f) := fun hk => by
          refine ⟨fun x a1 a2 => by omega, ?_, fun m hm => ?_, ?_, ?_, ?_, ?_⟩
          · rw [v0]; rfl
          · rw [v0] at hm; cases hm
          · rw [v0]; exact hk
          · rw [v0]; show 30 - f + 1 = _; omega
          · rw [v0]; rfl
          · rw [v0]; rfl
        have hT0 : ∀ s, PIt V0 c (c + 1) s := fun s => ⟨fun f x a1 a2 => by omega, fun f => by rw [v0]; exact Nat.zero_le _⟩
        unfold rsS at hx
        split at hx
        · rename_i k3
          split at hx
          · cases hx
          · rename_i jj hw
            injection hx with hx
            injection hx with q0 hx
            injection hx with q1 q2
            subst q0 q1 q2
            have hw2 := (wdS_le (txW (wdK k)) i jj (txW_nn (wdK k) (by unfold wdK; split <;> (try split) <;> decide)) hi hw).1
            refine leaf rfl (by rw [v0]; rfl) ?_
            rw [v0]
            have : k = 0 ∨ k = 1 ∨ k = 2 := by omega
            rcases this with rfl | rfl | rfl
            · have : (txW (wdK 0)).length = 4 := by decide
              show 4 ≤ _; omega
            · have : (txW (wdK 1)).length = 5 := by decide
              show 5 ≤ _; omega
            · have : (txW (wdK 2)).length = 4 := by decide
              have ho : owC (eMk 2 u (30 - f) 0 [] c) = 4 := by simp [owC, eK, eMk]
              rw [ho]; omega
        split at hx
        · split at hx
          · cases hx
          · rename_i jj m N hw
            split at hx
            · cases hx
            · rename_i hN
              injection hx with hx
              injection hx with q0 hx
              injection hx with q1 q2
              subst q0 q1 q2
              refine leaf rfl (by rw [up1, if_pos rfl]; rfl) ?_
              rw [up1, if_pos rfl]
              have := hW2 i jj m N hw (by omega)
              have h0 := bgC_0 (m := m) (N := N) (by omega)
              show kdg (sgR m N) + bgC (sgR m N) ≤ _
              omega
        split at hx
        · split at hx
          · cases hx
          · rename_i cs jj hw
            injection hx with hx
            injection hx with q0 hx
            injection hx with q1 q2
            subst q0 q1 q2
            obtain ⟨s1, s2, s3, -⟩ := stS_ok hb hn (by decide) hw
            refine leaf rfl (by rw [up1, if_pos rfl]; rfl) ?_
            rw [up1, if_pos rfl]
            show 2 + 6 * cs.length ≤ _
            omega
        split at hx
        · rename_i k5
          have o2 : ∀ e : Ent, eEq (V0 c) e → owC e = 2 := fun e he => by
            have ek : eK e = k := by
              unfold eK
              rw [he.1, v0]; rfl
            unfold owC
            rw [ek, if_neg (by omega), if_neg (by omega), if_neg (by omega)]
          split at hx
          · injection hx with hx
            injection hx with q0 hx
            injection hx with q1 q2
            subst q0 q1 q2
            refine leaf rfl (by rw [v0]; rfl) ?_
            rw [o2 _ eEq.rfl']
            omega
          · have hei := elF_inv (vaS_inv hb hn hW f (some c)) _ _ _ _ _ _ _ hsk (by omega) hx
            obtain ⟨b1, b2⟩ := elF_t (vaS_inv hb hn hW f (some c)) (vaS_v hb hn hW f (some c) (by omega)) (ih (some c) (by omega)) _ _ _ _ _ _ _ (i + 1) hsk hsg (by omega) (hP0 (Or.inl k5)) (by rw [v0]; exact k5) (hT0 _) hx
            exact node (o2 _ hei.2.2.2.2) b1 (by omega)
        · have k6 : k = 6 := by omega
          have o2 : ∀ e : Ent, eEq (V0 c) e → owC e = 2 := fun e he => by
            have ek : eK e = k := by
              unfold eK
              rw [he.1, v0]; rfl
            unfold owC
            rw [ek, if_neg (by omega), if_neg (by omega), if_neg (by omega)]
          split at hx
          · injection hx with hx
            injection hx with q0 hx
            injection hx with q1 q2
            subst q0 q1 q2
            refine leaf rfl (by rw [v0]; rfl) ?_
            rw [o2 _ eEq.rfl']
            omega
          · have hei := obF_inv hb hn (vaS_inv hb hn hW f (some c)) _ _ _ _ _ _ _ (by omega) hx
            obtain ⟨b1, b2⟩ := obF_t hb hn (vaS_inv hb hn hW f (some c)) (vaS_v hb hn hW f (some c) (by omega)) (ih (some c) (by omega)) _ _ _ _ _ _ _ (i + 1) hsk hsg (by omega) (hP0 (Or.inr k6)) (hT0 _) hx
            exact node (o2 _ hei.2.2.2.2) b1 (by omega)
end TC2
/-! a value's table as a whole -/
def VOK (V : VT) (c : Nat) : Prop := 0 < c ∧ (∀ i, i < c → NIv V i ∧ eL (V i) < c ∧ 1 ≤ eD (V i) ∧ ∀ f, tcS V f i ≤ 7200) ∧ eL (V 0) + 1 = c ∧ eU (V 0) = none
section TC3
variable {V : VT} {c : Nat} {b : By} {n : Nat}
/-- in which kid's place a node lies -/
theorem kcV_at : ∀ {l : List Nat} {lo hi q : Nat}, kcV V l lo hi → lo ≤ q → q < hi → ∃ k ∈ l, k ≤ q ∧ q ≤ eL (V k)
  | [], lo, hi, q, h, h1, h2 => by
    have h : lo = hi := h
    omega
  | k :: r, lo, hi, q, h, h1, h2 => by
    by_cases e : q ≤ eL (V k)
    · exact ⟨k, by simp, by have := h.1; omega, e⟩
    · obtain ⟨k', a1, a2, a3⟩ := kcV_at h.2.2 (by omega) h2
      exact ⟨k', by simp [a1], a2, a3⟩
/-- every node but the first is a kid -/
theorem kid_of (h : ∀ i, i < c → NIv V i ∧ eL (V i) < c) : ∀ (m p q : Nat), eL (V p) - p ≤ m → p < c → p < q → q ≤ eL (V p) → ∃ r, r < c ∧ q ∈ eS (V r) := by
  intro m
  induction m with
  | zero => intro p q h1 h2 h3 h4; omega
  | succ m ih =>
    intro p q h1 h2 h3 h4
    obtain ⟨k, k1, k2, k3⟩ := kcV_at (h p h2).1.1 (q := q) (by omega) (by omega)
    rcases Nat.eq_or_lt_of_le k2 with e | e
    · exact ⟨p, h2, by rw [← e]; exact k1⟩
    · have hk := kcV_in (h p h2).1.1 k k1
      have := (h p h2).2
      exact ih k q (by omega) (by omega) e k3
theorem mem_gd {l : List Nat} {q : Nat} (h : q ∈ l) : ∃ i, i < l.length ∧ l.getD i 0 = q := by
  obtain ⟨i, hi, e⟩ := List.getElem_of_mem h
  exact ⟨i, hi, by simp [hi, e]⟩
theorem VOK.up (h : VOK V c) {p q : Nat} (hq : q < c) (hu : eU (V q) = some p) : p < c ∧ q ∈ eS (V p) ∧ eD (V q) = eD (V p) + 1 ∧ (eK (V p) = 5 → ∃ i, i < c ∧ eX (V q) = some i) ∧ (eK (V p) = 6 → eN (V q) ≠ none) ∧ (eK (V p) = 5 ∨ eK (V p) = 6 ∨ 7 ≤ eK (V p)) := by
  obtain ⟨h1, h3, h4, h5⟩ := h
  have q0 : q ≠ 0 := fun z => by rw [z, h5] at hu; cases hu
  obtain ⟨r, hr, hm⟩ := kid_of (fun i hi => ⟨(h3 i hi).1, (h3 i hi).2.1⟩) _ 0 q (Nat.le_refl _) h1 (by omega) (by omega)
  obtain ⟨i, hi, e⟩ := mem_gd hm
  obtain ⟨a1, a2, a3, a4⟩ := (h3 r hr).1.2.1 i hi
  rw [e, hu] at a1
  injection a1 with a1
  subst a1
  rw [e] at a2 a3 a4
  have hlen : i < c := by
    have key : ∀ (l : List Nat) (lo hi : Nat), kcV V l lo hi → lo + l.length ≤ hi := by
      intro l
      induction l with
      | nil => intro lo hi h; have h : lo = hi := h; simp; omega
      | cons k r ih => intro lo hi h; have := ih _ _ h.2.2; have := h.2.1; simp; omega
    have := key _ _ _ (h3 p hr).1.1
    have := (h3 p hr).2.1
    omega
  refine ⟨hr, hm, a4, fun z => ⟨i, hlen, by rw [a2, if_pos z]⟩, a3, ?_⟩
  by_cases z : eK (V p) < 5
  · rw [(h3 p hr).1.2.2.1 z] at hm; cases hm
  · omega
theorem whS_vok {V0 V' : VT} {j : Nat} (hb : ∀ k, b k < 256) (hn : n ≤ 1200) (h : whS b n (wnS b n true) V0 = .inl (j, c, V')) : VOK V' c := by
  unfold whS at h
  cases hx : vaS b n (wnS b n true) 30 none (sk b n 0) 0 V0 with
  | inr e => rw [hx] at h; cases h
  | inl z =>
    obtain ⟨j1, c1, V1⟩ := z
    rw [hx] at h
    have h : (if sk b n j1 < n then .inr (1, sk b n j1) else .inl (sk b n j1, c1, V1) : Rs) = .inl (j, c, V') := h
    split at h
    · cases h
    injection h with h
    injection h with h0 h
    injection h with h1 h2
    subst h1 h2
    have h0n := sk_le (b := b) (n := n) (i := 0) (Nat.zero_le _)
    have hW : ∀ i j m N, wnS b n true i = .inl (j, m, N) → i < j ∧ j ≤ n := fun _ _ _ _ h => wnS_le h
    have a1 := vaS_inv hb hn hW 30 none _ _ _ _ _ _ h0n hx
    obtain ⟨b1, b2, b3, b4⟩ := vaS_v hb hn hW 30 none (Nat.le_refl _) _ _ _ _ _ _ h0n hx
    have t1 := vaS_t hb hn hW (fun _ _ _ _ h hN => wnS_kdg hb h hN) 30 none (Nat.le_refl _) _ _ _ _ _ _ h0n hx
    have nv : ∀ i, i < c1 → NIv V1 i ∧ eL (V1 i) < c1 := fun i hi => b1 i (Nat.zero_le _) hi
    have hjn : j1 - sk b n 0 ≤ 1200 := by have := a1.2.1; omega
    refine ⟨a1.2.2.1, fun i hi => ⟨(nv i hi).1, (nv i hi).2, ?_, fun f => ?_⟩, by have := a1.2.2.1; omega, b3⟩
    · by_cases e : i = 0
      · rw [e, b4]; decide
      · obtain ⟨r, hr, hm⟩ := kid_of nv _ 0 i (Nat.le_refl _) a1.2.2.1 (by omega) (by omega)
        obtain ⟨m, hm1, hm2⟩ := mem_gd hm
        have := ((nv r hr).1.2.1 m hm1).2.2.2
        rw [hm2] at this
        omega
    · have := t1 f i (Nat.zero_le _) hi
      omega
/-- the one above, again and again -/
def anc (V : VT) (x : Nat) : Nat → Nat
  | 0 => x
  | m + 1 => (eU (V (anc V x m))).getD 0
/-- what the steps up to it take in a path -/
def asm (V : VT) (x : Nat) : Nat → Nat
  | 0 => 0
  | m + 1 => asm V x m + naC (V (anc V x m)) + 4
theorem anc_ok (h : VOK V c) {x : Nat} (hx : x < c) (hD : ∀ i, i < c → eD (V i) ≤ 30) : ∀ m, (∀ k, k < m → eU (V (anc V x k)) ≠ none) → anc V x m < c ∧ eD (V (anc V x m)) + m = eD (V x) ∧ asm V x m ≤ tcS V (31 - eD (V (anc V x m))) (anc V x m) + 4 * m := by
  intro m
  induction m with
  | zero => intro _; exact ⟨hx, rfl, Nat.zero_le _⟩
  | succ m ih =>
    intro hk
    obtain ⟨a1, a2, a3⟩ := ih (fun k hk' => hk k (by omega))
    obtain ⟨p, hp⟩ := Option.ne_none_iff_exists'.mp (hk m (by omega))
    have e : anc V x (m + 1) = p := by rw [anc, hp]; rfl
    obtain ⟨u1, u2, u3, -⟩ := h.up a1 hp
    rw [e]
    refine ⟨u1, by omega, ?_⟩
    have d1 := hD _ a1
    have d2 := (h.2.1 p u1).2.2.1
    have e2 : 31 - eD (V p) = (31 - eD (V (anc V x m))) + 1 := by omega
    rw [e2, tcS, asm]
    have := smL_mem (f := fun y => naC (V y) + tcS V (31 - eD (V (anc V x m))) y) u2
    have this : naC (V (anc V x m)) + tcS V (31 - eD (V (anc V x m))) (anc V x m) ≤ _ := this
    omega
end TC3
