/-! WHAT READING GIVES, PURELY -/
section VP
variable {b : By} {n : Nat}
theorem stF_ok {q : Int32} (hb : ∀ k, b k < 256) (hq : ¬ q < 0) : ∀ (f i : Nat) (cs cs' : List Nat) (j : Nat), stF b n q f i cs = .inl (cs', j) → i < j ∧ j ≤ n ∧ ∃ ms, cs' = cs ++ ms ∧ ms.length + i < j ∧ ∀ x ∈ ms, x < 1114112 := by
  intro f
  induction f with
  | zero => intro i cs cs' j h; rw [stF] at h; cases h
  | succ f ih =>
    intro i cs cs' j h
    rw [stF] at h
    split at h
    · rename_i e
      injection h with h
      injection h with h1 h2
      subst h1 h2
      have := (pk_nn e hq).1
      exact ⟨by omega, by omega, [], by simp, by simp, by simp⟩
    · split at h
      · cases h
      · split at h
        · split at h
          · rename_i c' j' e
            obtain ⟨e1, e2, e3⟩ := esS_le hb hq e
            obtain ⟨g1, g2, ms, g3, g4, g5⟩ := ih _ _ _ _ h
            refine ⟨by omega, g2, c' :: ms, by rw [g3]; simp, by simp; omega, fun x hx => ?_⟩
            rcases List.mem_cons.mp hx with rfl | hx
            · exact e3
            · exact g5 x hx
          · cases h
        · split at h
          · rename_i l v e
            obtain ⟨e1, e2, e3⟩ := cpS_le e
            obtain ⟨g1, g2, ms, g3, g4, g5⟩ := ih _ _ _ _ h
            refine ⟨by omega, g2, v :: ms, by rw [g3]; simp, by simp; omega, fun x hx => ?_⟩
            rcases List.mem_cons.mp hx with rfl | hx
            · exact e3
            · exact g5 x hx
          · cases h
theorem stS_ok {q : Int32} {i j : Nat} {cs : List Nat} (hb : ∀ k, b k < 256) (hn : n ≤ 1200) (hq : ¬ q < 0) (h : stS b n q i = .inl (cs, j)) : i < j ∧ j ≤ n ∧ cs.length + i < j ∧ okC cs := by
  obtain ⟨h1, h2, ms, h3, h4, h5⟩ := stF_ok hb hq _ _ _ _ _ h
  have : cs = ms := by simpa using h3
  subst this
  exact ⟨h1, h2, h4, by omega, fun x hx => by have := h5 x hx; omega⟩
theorem wdS_le : ∀ (w : List Int32) (i j : Nat), (∀ c ∈ w, ¬ c < 0) → i ≤ n → wdS b n w i = .inl j → j = i + w.length ∧ j ≤ n
  | [], i, j, _, hi, h => by rw [wdS] at h; injection h with h; subst h; exact ⟨rfl, hi⟩
  | c :: w, i, j, hw, hi, h => by
    rw [wdS] at h
    split at h
    · rename_i e
      have := (pk_nn e (hw c List.mem_cons_self)).1
      obtain ⟨h1, h2⟩ := wdS_le w (i + 1) j (fun x hx => hw x (List.mem_cons_of_mem _ hx)) (by omega) h
      exact ⟨by rw [h1]; simp; omega, h2⟩
    · cases h
theorem dgF_le : ∀ (f i N : Nat), i ≤ n → i ≤ (dgF b n f i N).1 ∧ (dgF b n f i N).1 ≤ n
  | 0, i, N, h => ⟨Nat.le_refl _, h⟩
  | f + 1, i, N, h => by
    rw [dgF]
    cases hd : dgt b n i with
    | true =>
      have := (dgt_lt hd).1
      obtain ⟨h1, h2⟩ := dgF_le f (i + 1) (10 * N + (b i - 48)) (by omega)
      exact ⟨by simp; omega, by simp; exact h2⟩
    | false => simp; exact h
theorem wn1_le {m mz : Bool} {i j N : Nat} {m' : Bool} (h : wn1 b n m mz i = .inl (j, m', N)) : i < j ∧ j ≤ n := by
  unfold wn1 at h
  split at h
  · cases h
  · rename_i e
    have hd : dgt b n i = true := by
      cases hd : dgt b n i with
      | true => rfl
      | false => exact absurd (Or.inl hd) e
    have hlt := (dgt_lt hd).1
    split at h
    · injection h with h; injection h with h1 h2; subst h1; omega
    · injection h with h; injection h with h1 h2; subst h1
      rw [show n - i = (n - (i + 1)) + 1 by omega, dgF, hd]
      obtain ⟨h1, h2⟩ := dgF_le (b := b) (n := n) (n - (i + 1)) (i + 1) (10 * 0 + (b i - 48)) (by omega)
      simp at h1 h2 ⊢
      omega
theorem wnS_le {mz : Bool} {i j N : Nat} {m' : Bool} (h : wnS b n mz i = .inl (j, m', N)) : i < j ∧ j ≤ n := by
  unfold wnS at h
  split at h
  · have := wn1_le h; omega
  · exact wn1_le h
theorem wr1_rel {m mz : Bool} {i : Nat} : wr1 b n m mz i = wn1 b n m mz i ∨ ∃ p, wn1 b n m mz i = .inl (p, m, 0) ∧ wr1 b n m mz i = .inr p ∧ dgt b n p = true := by
  unfold wr1 wn1
  split
  · exact Or.inl rfl
  · split
    · cases hd : dgt b n (i + 1) with
      | true => exact Or.inr ⟨i + 1, rfl, rfl, hd⟩
      | false => exact Or.inl rfl
    · exact Or.inl rfl
theorem wn_rel {mz : Bool} {i : Nat} : wnR b n mz i = wnS b n mz i ∨ ∃ p m, wnS b n mz i = .inl (p, m, 0) ∧ wnR b n mz i = .inr p ∧ dgt b n p = true := by
  unfold wnR wnS
  split
  · rcases wr1_rel (b := b) (n := n) (m := true) (mz := mz) (i := i + 1) with h | ⟨p, h1, h2, h3⟩
    · exact Or.inl h
    · exact Or.inr ⟨p, true, h1, h2, h3⟩
  · rcases wr1_rel (b := b) (n := n) (m := false) (mz := mz) (i := i) with h | ⟨p, h1, h2, h3⟩
    · exact Or.inl h
    · exact Or.inr ⟨p, false, h1, h2, h3⟩
/-- a reader that goes on, and leaves the entries before its own as they were -/
def Fwd (n : Nat) (rd : Nat → Nat → VT → Rs) : Prop := ∀ i c V j c' V', i ≤ n → rd i c V = .inl (j, c', V') → i < j ∧ j ≤ n ∧ c < c' ∧ (∀ x, x < c → V' x = V x) ∧ eX (V' c) = none ∧ eN (V' c) = none
/-- all but the kids -/
def eEq (e e' : Ent) : Prop := e'.1 = e.1 ∧ e'.2.1 = e.2.1 ∧ e'.2.2.2 = e.2.2.2
theorem eEq.rfl' {e : Ent} : eEq e e := ⟨rfl, rfl, rfl⟩
theorem eEq.trans {e e' e'' : Ent} (h : eEq e e') (g : eEq e' e'') : eEq e e'' := ⟨g.1.trans h.1, g.2.1.trans h.2.1, g.2.2.trans h.2.2⟩
theorem vAdo_p {V : VT} {p k : Nat} {nm : Option (List Nat)} : vAdo V p k nm p = eAdd (V p) k := if_pos rfl
theorem vAdo_lo {V : VT} {p k x : Nat} {nm : Option (List Nat)} (h1 : x ≠ p) (h2 : x ≠ k) : vAdo V p k nm x = V x := by
  unfold vAdo; rw [show up1 (up1 V k (eNam (V k) nm (kIx (V p)))) p (eAdd (V p) k) x = up1 V k (eNam (V k) nm (kIx (V p))) x from if_neg h1]; exact if_neg h2
theorem sk_lt1 {j : Nat} {x : Int32} (hx : ¬ x < 0) (h : pk b n (sk b n j) = x) : sk b n j < n := (pk_nn h hx).1
theorem elF_inv {rd : Nat → Nat → VT → Rs} {p : Nat} (hr : Fwd n rd) : ∀ (g i c : Nat) (V : VT) (j c' : Nat) (V' : VT), i ≤ n → p < c → elF b n rd p g i c V = .inl (j, c', V') → i < j ∧ j ≤ n ∧ c < c' ∧ (∀ x, x < c → x ≠ p → V' x = V x) ∧ eEq (V p) (V' p) := by
  intro g
  induction g with
  | zero => intro i c V j c' V' _ _ h; rw [elF] at h; cases h
  | succ g ih =>
    intro i c V j c' V' hi hp h
    rw [elF] at h
    split at h
    · cases h
    · rename_i j1 c1 V1 e
      obtain ⟨h1, h2, h3, h4, h5, h6⟩ := hr _ _ _ _ _ _ hi e
      have lo := sk_lo (b := b) (n := n) (i := j1)
      have hE : eEq (V p) (vAdo V1 p c none p) := by rw [vAdo_p, h4 p hp]; exact ⟨rfl, rfl, rfl⟩
      split at h
      · rename_i e2
        have hlt := sk_lt1 (by decide) e2
        have lo2 := sk_lo (b := b) (n := n) (i := sk b n j1 + 1)
        have hi2 := sk_le (b := b) (n := n) (i := sk b n j1 + 1) (by omega)
        obtain ⟨g1, g2, g3, g4, g5⟩ := ih _ _ _ _ _ _ hi2 (by omega) h
        refine ⟨by omega, g2, by omega, fun x hx hxp => ?_, hE.trans g5⟩
        rw [g4 x (by omega) hxp, vAdo_lo hxp (by omega), h4 x hx]
      · split at h
        · rename_i e3
          have hlt := sk_lt1 (by decide) e3
          injection h with h
          injection h with q1 h
          injection h with q2 q3
          subst q1 q2 q3
          exact ⟨by omega, by omega, h3, fun x hx hxp => by rw [vAdo_lo hxp (by omega), h4 x hx], hE⟩
        · cases h
theorem mbS_inv {rd : Nat → Nat → VT → Rs} {p : Nat} (hb : ∀ k, b k < 256) (hn : n ≤ 1200) (hr : Fwd n rd) {i c j c' : Nat} {V V' : VT} (hp : p < c) (h : mbS b n rd p i c V = .inl (j, c', V')) : i < j ∧ j ≤ n ∧ c < c' ∧ (∀ x, x < c → x ≠ p → V' x = V x) ∧ eEq (V p) (V' p) := by
  unfold mbS at h
  split at h
  · split at h
    · cases h
    · rename_i cs j0 e
      obtain ⟨s1, s2, -, -⟩ := stS_ok hb hn (by decide) e
      split at h
      · cases h
      · split at h
        · rename_i e2
          have hlt := sk_lt1 (by decide) e2
          have lo := sk_lo (b := b) (n := n) (i := j0)
          have lo2 := sk_lo (b := b) (n := n) (i := sk b n j0 + 1)
          have hi2 := sk_le (b := b) (n := n) (i := sk b n j0 + 1) (by omega)
          split at h
          · cases h
          · rename_i j1 c1 V1 e3
            obtain ⟨h1, h2, h3, h4, h5, h6⟩ := hr _ _ _ _ _ _ hi2 e3
            injection h with h
            injection h with q1 h
            injection h with q2 q3
            subst q1 q2 q3
            refine ⟨by omega, h2, h3, fun x hx hxp => by rw [vAdo_lo hxp (by omega), h4 x hx], ?_⟩
            rw [vAdo_p, h4 p hp]; exact ⟨rfl, rfl, rfl⟩
        · cases h
  · cases h
theorem obF_inv {rd : Nat → Nat → VT → Rs} {p : Nat} (hb : ∀ k, b k < 256) (hn : n ≤ 1200) (hr : Fwd n rd) : ∀ (g i c : Nat) (V : VT) (j c' : Nat) (V' : VT), p < c → obF b n rd p g i c V = .inl (j, c', V') → i < j ∧ j ≤ n ∧ c < c' ∧ (∀ x, x < c → x ≠ p → V' x = V x) ∧ eEq (V p) (V' p) := by
  intro g
  induction g with
  | zero => intro i c V j c' V' _ h; rw [obF] at h; cases h
  | succ g ih =>
    intro i c V j c' V' hp h
    rw [obF] at h
    split at h
    · cases h
    · rename_i j1 c1 V1 e
      obtain ⟨h1, h2, h3, h4, h5⟩ := mbS_inv hb hn hr hp e
      have lo := sk_lo (b := b) (n := n) (i := j1)
      split at h
      · rename_i e2
        have hlt := sk_lt1 (by decide) e2
        have lo2 := sk_lo (b := b) (n := n) (i := sk b n j1 + 1)
        obtain ⟨g1, g2, g3, g4, g5⟩ := ih _ _ _ _ _ _ (by omega) h
        exact ⟨by omega, g2, by omega, fun x hx hxp => by rw [g4 x (by omega) hxp, h4 x hx hxp], h5.trans g5⟩
      · split at h
        · rename_i e3
          have hlt := sk_lt1 (by decide) e3
          injection h with h
          injection h with q1 h
          injection h with q2 q3
          subst q1 q2 q3
          exact ⟨by omega, by omega, h3, h4, h5⟩
        · cases h
theorem wdK_c (k : Nat) : wdK k < 10 ∧ 0 < (txW (wdK k)).length := by
  unfold wdK
  split
  · decide
  · split
    · decide
    · decide
theorem rsS_inv {rd : Nat → Nat → VT → Rs} {W : Nat → (Nat × Bool × Nat) ⊕ Nat} (hb : ∀ k, b k < 256) (hn : n ≤ 1200) (hW : ∀ i j m N, W i = .inl (j, m, N) → i < j ∧ j ≤ n) (hr : Fwd n rd) {k i c j c' : Nat} {V V' : VT} (hi : i < n) (h : rsS b n W rd k i c V = .inl (j, c', V')) : i < j ∧ j ≤ n ∧ c < c' ∧ (∀ x, x < c → V' x = V x) ∧ (eX (V c) = none → eX (V' c) = none) ∧ (eN (V c) = none → eN (V' c) = none) := by
  have hs := sk_le (b := b) (n := n) (i := i + 1) (by omega)
  have lo := sk_lo (b := b) (n := n) (i := i + 1)
  unfold rsS at h
  split at h
  · split at h
    · cases h
    · rename_i j1 e
      obtain ⟨h1, h2⟩ := wdS_le _ _ _ (txW_nn _ (wdK_c k).1) (by omega) e
      have h0 := (wdK_c k).2
      injection h with h
      injection h with q1 h
      injection h with q2 q3
      subst q1 q2 q3
      exact ⟨by omega, h2, by omega, fun _ _ => rfl, fun z => z, fun z => z⟩
  · split at h
    · split at h
      · cases h
      · rename_i j1 m N e
        obtain ⟨h1, h2⟩ := hW _ _ _ _ e
        split at h
        · cases h
        · injection h with h
          injection h with q1 h
          injection h with q2 q3
          subst q1 q2 q3
          exact ⟨h1, h2, by omega, fun x hx => up1_ne (by omega), fun _ => by rw [up1_eq]; rfl, fun _ => by rw [up1_eq]; rfl⟩
    · split at h
      · split at h
        · cases h
        · rename_i cs j1 e
          obtain ⟨s1, s2, -, -⟩ := stS_ok hb hn (by decide) e
          injection h with h
          injection h with q1 h
          injection h with q2 q3
          subst q1 q2 q3
          exact ⟨by omega, s2, by omega, fun x hx => up1_ne (by omega), fun _ => by rw [up1_eq]; rfl, fun _ => by rw [up1_eq]; rfl⟩
      · have fin : ∀ {x : Int32} {L : Rs}, ¬ x < 0 → (∀ j c' V', L = .inl (j, c', V') → sk b n (i + 1) < j ∧ j ≤ n ∧ c + 1 < c' ∧ (∀ x, x < c + 1 → x ≠ c → V' x = V x) ∧ eEq (V c) (V' c)) → (if pk b n (sk b n (i + 1)) = x then .inl (sk b n (i + 1) + 1, c + 1, V) else L) = .inl (j, c', V') → i < j ∧ j ≤ n ∧ c < c' ∧ (∀ x, x < c → V' x = V x) ∧ (eX (V c) = none → eX (V' c) = none) ∧ (eN (V c) = none → eN (V' c) = none) := by
          intro x L hx hL h
          split at h
          · rename_i e
            have hlt := sk_lt1 hx e
            injection h with h
            injection h with q1 h
            injection h with q2 q3
            subst q1 q2 q3
            exact ⟨by omega, by omega, by omega, fun _ _ => rfl, fun z => z, fun z => z⟩
          · obtain ⟨h1, h2, h3, h4, h5⟩ := hL _ _ _ h
            refine ⟨by omega, h2, by omega, fun x hx => h4 x (by omega) (by omega), fun z => ?_, fun z => ?_⟩
            · unfold eX at z ⊢; rw [h5.2.1]; exact z
            · unfold eN at z ⊢; rw [h5.2.1]; exact z
        split at h
        · exact fin (by decide) (fun j c' V' e => elF_inv hr _ _ _ _ _ _ _ hs (by omega) e) h
        · exact fin (by decide) (fun j c' V' e => obF_inv hb hn hr _ _ _ _ _ _ _ (by omega) e) h
theorem vaS_inv {W : Nat → (Nat × Bool × Nat) ⊕ Nat} (hb : ∀ k, b k < 256) (hn : n ≤ 1200) (hW : ∀ i j m N, W i = .inl (j, m, N) → i < j ∧ j ≤ n) : ∀ (f : Nat) (u : Option Nat), Fwd n (vaS b n W f u) := by
  intro f
  induction f with
  | zero =>
    intro u i c V j c' V' _ h
    rw [vaS] at h
    split at h <;> cases h
  | succ f ih =>
    intro u i c V j c' V' hi h
    rw [vaS] at h
    split at h
    · cases h
    · rename_i k e
      have hk := kdB_lt hb e
      split at h
      · cases h
      · unfold rsL at h
        split at h
        · cases h
        · rename_i j1 c1 V1 e1
          obtain ⟨h1, h2, h3, h4, h5, h6⟩ := rsS_inv hb hn hW (ih (some c)) hk.1 e1
          injection h with h
          injection h with q1 h
          injection h with q2 q3
          subst q1 q2 q3
          refine ⟨h1, h2, h3, fun x hx => ?_, ?_, ?_⟩
          · unfold vLst; rw [up1_ne (by omega), h4 x hx, up1_ne (by omega)]
          · unfold vLst; rw [up1_eq]; exact h5 (by rw [up1_eq]; rfl)
          · unfold vLst; rw [up1_eq]; exact h6 (by rw [up1_eq]; rfl)
end VP
