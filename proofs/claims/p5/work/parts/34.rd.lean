/-! THE TEXT THAT IS READ: bytes b 0 .. b (n - 1) -/
abbrev By : Type := Nat → Nat
def pk (b : By) (n i : Nat) : Int32 := if i < n then nI (b i) else -1
def isBl (c : Int32) : Bool := c == 32 || c == 9 || c == 10 || c == 13
def skf (b : By) (n : Nat) : Nat → Nat → Nat
  | 0, i => i
  | f + 1, i => if isBl (pk b n i) then skf b n f (i + 1) else i
/-- the first place from i on that is no blank -/
def sk (b : By) (n i : Nat) : Nat := skf b n (n - i) i
theorem pkI {b : By} {n i : Nat} (h : i < n) : pk b n i = nI (b i) := if_pos h
theorem pkO {b : By} {n i : Nat} (h : n ≤ i) : pk b n i = -1 := if_neg (Nat.not_lt.mpr h)
theorem isBl_lt {b : By} {n i : Nat} (h : isBl (pk b n i) = true) : i < n := by
  by_cases e : i < n
  · exact e
  · rw [pkO (Nat.not_lt.mp e)] at h
    exact absurd h (by decide)
theorem sk_yes {b : By} {n i : Nat} (h : isBl (pk b n i) = true) : sk b n i = sk b n (i + 1) := by
  have hlt := isBl_lt h
  unfold sk
  rw [show n - i = (n - (i + 1)) + 1 by omega, skf, if_pos h]
theorem sk_no {b : By} {n i : Nat} (h : isBl (pk b n i) = false) : sk b n i = i := by
  unfold sk
  cases n - i with
  | zero => rfl
  | succ f => rw [skf, if_neg (by rw [h]; exact Bool.false_ne_true)]
theorem sk_ge {b : By} {n : Nat} : ∀ (m i : Nat), n - i = m → i ≤ sk b n i ∧ (i ≤ n → sk b n i ≤ n) := by
  intro m
  induction m with
  | zero =>
    intro i hm
    have e : sk b n i = i := by unfold sk; rw [hm]; rfl
    rw [e]
    exact ⟨Nat.le_refl _, fun h => h⟩
  | succ m ih =>
    intro i hm
    cases hb : isBl (pk b n i) with
    | true =>
      rw [sk_yes hb]
      obtain ⟨h1, h2⟩ := ih (i + 1) (by omega)
      exact ⟨by omega, fun _ => h2 (by omega)⟩
    | false =>
      rw [sk_no hb]
      exact ⟨Nat.le_refl _, fun h => h⟩
theorem sk_le {b : By} {n i : Nat} (h : i ≤ n) : sk b n i ≤ n := (sk_ge (n - i) i rfl).2 h
theorem sk_lo {b : By} {n i : Nat} : i ≤ sk b n i := (sk_ge (n - i) i rfl).1
/-! THE SAME HEAP -/
theorem sI_self {t : Ht} {a k : Nat} {x : Int32} (h : tI t a k = x) : sI t a k x = t := by
  obtain ⟨n, u, kk, l, i, j, r⟩ := t
  have h' : i a k = x := h
  have e : up2 i a k x = i := by
    funext b m
    unfold up2
    by_cases c : b = a ∧ m = k
    · rw [if_pos c, c.1, c.2, h']
    · rw [if_neg c]
  show (n, u, kk, l, up2 i a k x, j, r) = _
  rw [e]
theorem sI_sI {t : Ht} {a k : Nat} {x y : Int32} : sI (sI t a k x) a k y = sI t a k y := by
  obtain ⟨n, u, kk, l, i, j, r⟩ := t
  have e : up2 (up2 i a k x) a k y = up2 i a k y := by
    funext b m
    unfold up2
    by_cases c : b = a ∧ m = k
    · rw [if_pos c, if_pos c]
    · rw [if_neg c, if_neg c, if_neg c]
  show (n, u, kk, l, up2 (up2 i a k x) a k y, j, r) = (n, u, kk, l, up2 i a k y, j, r)
  rw [e]
/-! THE COMPONENT'S READER r over the tape tp, at the place i -/
def RD (t : Ht) (r tp : Nat) (b : By) (n i : Nat) : Prop := tK t r = 7 ∧ tR t r 0 = some tp ∧ tK t tp = 100 ∧ tL t tp = 1200 ∧ tI t r 3 = nI n ∧ tI t r 4 = nI i ∧ n ≤ 1200 ∧ i ≤ 1201 ∧ (∀ k, b k < 256) ∧ ∀ k, k < n → tI t tp k &&& 255 = nI (b k)
section RDC
variable {C : Cx} {d : Nat} {Post : OutT → Ht → Prop} {t : Ht} {r tp : Nat} {b : By} {n i : Nat}
theorem RD.ne (h : RD t r tp b n i) : tp ≠ r := fun e => by
  have h1 := h.1
  have h2 := h.2.2.1
  rw [e, h1] at h2
  cases h2
theorem RD.to (h : RD t r tp b n i) {j : Nat} (hj : j ≤ 1201) : RD (sI t r 4 (nI j)) r tp b n j := by
  have hne := h.ne
  obtain ⟨h1, h2, h3, h4, h5, h6, h7, h8, h9, h10⟩ := h
  refine ⟨h1, h2, h3, h4, ?_, ?_, h7, hj, h9, fun k hk => ?_⟩
  · simp [ht, h5]
  · simp [ht]
  · simp [ht, hne, h10 k hk]
theorem RD.at {j : Nat} (h : RD t r tp b n i) (hj : j ≤ 1201) {x : Int32} (hx : x = nI j) : sI t r 4 x = sI t r 4 (nI j) := by rw [hx]
theorem r85 (h : RD t r tp b n i) (k : Post (.inl (some (svI (pk b n i)))) t) : CalG C mtab (d + 1) 85 [svR (some r)] t Post := by
  refine cal85 ?_
  obtain ⟨h1, h2, h3, h4, h5, h6, h7, h8, h9, h10⟩ := h
  unfold vc85
  rw [h5, h6, h2]
  by_cases hin : i < n
  · rw [pkI hin] at k
    refine ⟨h1, fun e => absurd e (nI_pos (by omega)), fun _ => ⟨h1, h1, fun e => absurd e (nI_ge hin (by omega)), fun _ => ⟨h1, h1, by rw [h3]; decide, by rw [h3]; decide, ?_⟩⟩⟩
    rw [h4]
    refine ⟨fun e => absurd e (nI_ge (by omega) (by decide)), fun _ => ⟨h1, h1, h3, ?_, ?_⟩⟩
    · rw [h4]; exact vp_in_nI (by omega) (by decide)
    · rw [nI_clamp (by omega), h10 i hin]; exact k
  · rw [pkO (Nat.not_lt.mp hin)] at k
    exact ⟨h1, fun _ => k, fun _ => ⟨h1, h1, fun _ => k, fun e => absurd (nI_le (Nat.not_lt.mp hin) (by omega)) e⟩⟩
theorem r84 {x : Nat} (hx : x < 2 ^ 31) (h : RD t r tp b n i) (k : Post (.inl (some (svI (pk b n x)))) t) : CalG C mtab (d + 1) 84 [svR (some r), svI (nI x)] t Post := by
  refine cal84 ?_
  obtain ⟨h1, h2, h3, h4, h5, h6, h7, h8, h9, h10⟩ := h
  unfold vc84
  rw [h5, h2]
  by_cases hin : x < n
  · rw [pkI hin] at k
    refine ⟨fun e => absurd e (nI_pos (by omega)), fun _ => ⟨h1, fun e => absurd e (nI_ge hin (by omega)), fun _ => ⟨h1, by rw [h3]; decide, by rw [h3]; decide, ?_⟩⟩⟩
    rw [h4]
    refine ⟨fun e => absurd e (nI_ge (by omega) (by decide)), fun _ => ⟨h1, h3, ?_, ?_⟩⟩
    · rw [h4]; exact vp_in_nI (by omega) (by decide)
    · rw [nI_clamp (by omega), h10 x hin]; exact k
  · rw [pkO (Nat.not_lt.mp hin)] at k
    exact ⟨fun _ => k, fun _ => ⟨h1, fun _ => k, fun e => absurd (nI_le (Nat.not_lt.mp hin) (by omega)) e⟩⟩
theorem r86 (h : RD t r tp b n i) (k : Post (.inl (some (svI (if isBl (pk b n i) then 1 else 0)))) t) : CalG C mtab (d + 2) 86 [svR (some r)] t Post := by
  refine cal86 ⟨h.1, r85 h ?_⟩
  generalize pk b n i = c at k
  unfold isBl at k
  refine ⟨fun e => ⟨Or.inr rfl, ?_⟩, fun e1 => ⟨fun e => ⟨Or.inr rfl, ?_⟩, fun e2 => ⟨fun e => ⟨Or.inr rfl, ?_⟩, fun e3 => ⟨fun e => ⟨Or.inr rfl, ?_⟩, fun e4 => ⟨Or.inl rfl, ?_⟩⟩⟩⟩⟩
  · subst e; exact k
  · subst e; exact k
  · subst e; exact k
  · subst e; exact k
  · simp [e1, e2, e3, e4] at k
    exact k
theorem r87 (h : RD t r tp b n i) (hi : i ≤ n) (k : Post (.inl none) (sI t r 4 (nI (sk b n i)))) : CalG C mtab (d + 3) 87 [svR (some r)] t Post := by
  have key : ∀ (m j : Nat), j ≤ n → m = n - j → sk b n j = sk b n i → vc87_0 (CalG C mtab (d + 2)) (cS C) (cG C) Post (fun t' => ∃ k', k' < m ∧ some r = some r ∧ (∃ j', j' ≤ n ∧ k' = n - j' ∧ sk b n j' = sk b n i ∧ t' = sI t r 4 (nI j'))) r (sI t r 4 (nI j)) := by
    intro m j hj hm hs
    have hn : n ≤ 1200 := h.2.2.2.2.2.2.1
    have hR := h.to (j := j) (by omega)
    have h1 : tK (sI t r 4 (nI j)) r = 7 := h.1
    have e3 : tI (sI t r 4 (nI j)) r 3 = nI n := hR.2.2.2.2.1
    have e4 : tI (sI t r 4 (nI j)) r 4 = nI j := hR.2.2.2.2.2.1
    unfold vc87_0
    rw [e3, e4]
    refine ⟨h1, h1, fun e => ?_, fun e => ⟨h1, r86 hR ?_⟩⟩
    · have hjn : n ≤ j := by
        rcases Nat.lt_or_ge j n with q | q
        · exact absurd e (nI_ge q (by omega))
        · exact q
      have : sk b n j = j := by unfold sk; rw [show n - j = 0 by omega]; rfl
      rw [← this, hs]
      exact k
    · cases hb : isBl (pk b n j) with
      | true =>
        refine ⟨fun e => absurd e (by decide), fun _ => ⟨h1, h1, n - (j + 1), ?_, rfl, j + 1, ?_, rfl, ?_, ?_⟩⟩
        · have := isBl_lt hb; omega
        · have := isBl_lt hb; omega
        · rw [← sk_yes hb]; exact hs
        · rw [e4, nI_1, sI_sI]
      | false =>
        refine ⟨fun _ => ?_, fun e => absurd rfl e⟩
        rw [← hs, sk_no hb] at k
        exact k
  refine cal87 (fun m t' => ∃ j, j ≤ n ∧ m = n - j ∧ sk b n j = sk b n i ∧ t' = sI t r 4 (nI j)) ?_ ?_
  · have := key (n - i) i hi rfl rfl
    rw [sI_self h.2.2.2.2.2.1] at this
    unfold vc87_0 at this
    unfold vc87
    refine ⟨this.1, this.2.1, this.2.2.1, fun e => ⟨h.1, r86 h ?_⟩⟩
    cases hb : isBl (pk b n i) with
    | true =>
      refine ⟨fun e => absurd e (by decide), fun _ => ⟨h.1, h.1, n - (i + 1), rfl, i + 1, ?_, rfl, (sk_yes hb).symm, ?_⟩⟩
      · have := isBl_lt hb; omega
      · rw [h.2.2.2.2.2.1, nI_1]
    | false =>
      refine ⟨fun _ => ?_, fun e => absurd rfl e⟩
      rw [sk_no hb, sI_self h.2.2.2.2.2.1] at k
      exact k
  · rintro m t' ⟨j, hj, hm, hs, rfl⟩
    exact key m j hj hm hs
/-- the heap after a fault -/
def flH (t : Ht) (r : Nat) (w p : Int32) : Ht := tNew (sI (sI t r 5 w) r 6 p) 0 0 6
theorem r88 {c : Int32} (h : RD t r tp b n i) (k1 : pk b n i = c → Post (.inl none) (sI t r 4 (nI (i + 1)))) (k2 : ¬ pk b n i = c → Post (.inr (200, 0)) (flH t r 1 (nI i))) : CalG C mtab (d + 2) 88 [svR (some r), svI c] t Post := by
  refine cal88 ⟨h.1, r85 h ⟨fun e => ⟨h.1, h.1, ?_⟩, fun e => ⟨h.1, h.1, ?_⟩⟩⟩
  · rw [h.2.2.2.2.2.1, nI_1]; exact k1 e
  · rw [h.2.2.2.2.2.1]
    exact c83 h.1 (k2 e)
theorem r91 (h : RD t r tp b n i) (hi : i ≤ n) (k1 : pk b n (sk b n i) = 44 → Post (.inl (some (svI 1))) (sI t r 4 (nI (sk b n (sk b n i + 1))))) (k2 : ¬ pk b n (sk b n i) = 44 → Post (.inl (some (svI 0))) (sI t r 4 (nI (sk b n i)))) : CalG C mtab (d + 4) 91 [svR (some r)] t Post := by
  have hn : n ≤ 1200 := h.2.2.2.2.2.2.1
  have hs := sk_le (b := b) hi
  have hR := h.to (j := sk b n i) (by omega)
  refine cal91 ⟨h.1, r87 h hi ⟨rfl, h.1, r85 hR ⟨fun e => ?_, fun e => ⟨Or.inl rfl, k2 e⟩⟩⟩⟩
  have hlt : sk b n i < n := by
    rcases Nat.lt_or_ge (sk b n i) n with q | q
    · exact q
    · rw [pkO q] at e; exact absurd e (by decide)
  refine ⟨h.1, h.1, ?_⟩
  rw [hR.2.2.2.2.2.1, nI_1, sI_sI]
  refine ⟨h.1, r87 (h.to (by omega)) (by omega) ⟨rfl, Or.inr rfl, ?_⟩⟩
  rw [sI_sI]
  exact k1 e
end RDC
