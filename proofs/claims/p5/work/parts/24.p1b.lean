/-- PathHouse.out(I)I -/
def vc138 (Cal : Nat → List SV → Ht → (OutT → Ht → Prop) → Prop) (sA : Nat → Nat) (gV : Nat → Option Nat) (Q : OutT → Ht → Prop)  (x0 : Nat) (x1 : Int32) (t : Ht) : Prop := tK t x0 = 13 ∧ onR (tR t x0 5) (fun a1 => tK t a1 = 4 ∧ Cal 36 [svR (some a1), svI x1] t (aftV (fun v2 t3 => rI v2 (fun x7 => br (x7 = 0) (Q (.inr (202, 0)) (tNew t3 0 0 6)) (tK t3 x0 = 13 ∧ onR (tR t3 x0 5) (fun a8 => tK t3 a8 = 4 ∧ Cal 37 [svR (some a8), svI x1] t3 (aftV (fun v9 t10 => rI v9 (fun x14 => Q (.inl (some (svI x14))) t10)) (fun k11 q12 t13 => Q (.inr (k11, q12)) t13)))))) (fun k4 q5 t6 => Q (.inr (k4, q5)) t6)))
theorem mo138 : MO 138 mE138 X138 := ⟨rfl, by decide +kernel, mK138.1.1, pl11n_ok, X138_ok⟩
theorem cal138 {C : Cx} {d : Nat} {Post : OutT → Ht → Prop} {x0 : Nat} {x1 : Int32} {t : Ht} (h : vc138 (CalG C mtab d) (cS C) (cG C) Post x0 x1 t) : CalG C mtab (d + 1) 138 [svR (some x0), svI x1] t Post := by
  refine cal_of (cut := [11]) (Kc := fun _ _ st t' => endL st (Post (.inr (202, 0)) (tNew t' 0 0 6))) (N := 20) mo138 (Nat.le_of_ble_eq_true rfl) ?_ h
  intro pc lv st t' hpc hk
  obtain ⟨rfl, hk⟩ := endL_of hk
  cases List.mem_singleton.mp hpc
  exact wg138 hk
/-! ints -/
theorem i_lt {x y : Int32} : x < y ↔ x.toInt < y.toInt := Int32.lt_iff_toInt_lt
theorem i_le {x y : Int32} : x ≤ y ↔ x.toInt ≤ y.toInt := Int32.le_iff_toInt_le
theorem i_eq {x y : Int32} : x = y ↔ x.toInt = y.toInt := Int32.toInt_inj.symm
theorem i_add {x y : Int32} (h1 : -2147483648 ≤ x.toInt + y.toInt) (h2 : x.toInt + y.toInt < 2147483648) : (x + y).toInt = x.toInt + y.toInt := by
  rw [Int32.toInt_add, Int.bmod_eq_of_le] <;> omega
theorem i_sub {x y : Int32} (h1 : -2147483648 ≤ x.toInt - y.toInt) (h2 : x.toInt - y.toInt < 2147483648) : (x - y).toInt = x.toInt - y.toInt := by
  rw [Int32.toInt_sub, Int.bmod_eq_of_le] <;> omega
theorem vp_of {i : Int32} {n : Nat} (h1 : 0 ≤ i.toInt) (h2 : i.toInt < n) : vp_in i n := by
  unfold vp_in
  have e : i.toNatClampNeg = i.toInt.toNat := rfl
  have z : (0 : Int32).toInt = 0 := rfl
  rw [i_lt, z, e]
  omega
section P1B
variable {C : Cx} {d : Nat} {Post : OutT → Ht → Prop} {t : Ht} {B : Nat}
/-- the class's object, as it is made -/
def FP (t : Ht) (B : Nat) : Prop := tK t B = 13 ∧ tK t (B + 1) = 100 ∧ tL t (B + 1) = 1200 ∧ tK t (B + 2) = 7 ∧ tK t (B + 4) = 12 ∧ tK t (B + 5) = 6 ∧ tK t (B + 6) = 2 ∧ tK t (B + 8) = 4 ∧
  tR t B 0 = some (B + 1) ∧ tR t B 1 = some (B + 2) ∧ tR t B 2 = some (B + 4) ∧ tR t B 3 = some (B + 5) ∧ tR t B 4 = some (B + 6) ∧ tR t B 5 = some (B + 8) ∧ tR t B 8 = none ∧ tR t B 9 = none ∧
  tR t (B + 2) 0 = some (B + 1) ∧ tR t (B + 4) 0 = some (B + 2) ∧ tR t (B + 5) 0 = some (B + 2) ∧ tR t (B + 6) 2 = none ∧ tI t B 6 = 0 ∧ tI t B 7 = 0 ∧ tI t (B + 6) 3 = 0 ∧ tI t (B + 8) 1 = 0
/-- what a call on it leaves: all behind it as it was, one cell more at the most -/
def KP (B : Nat) (t t' : Ht) : Prop := (∀ q, B + 10 ≤ q → q < tN t → sameAt t t' q) ∧ tN t ≤ tN t' ∧ tN t' ≤ tN t + 1 ∧ tU t ≤ tU t' ∧ tU t' ≤ tU t + 6
theorem KP.rfl' : KP B t t := ⟨fun _ _ _ => sameAt.rfl', Nat.le_refl _, Nat.le_succ _, Nat.le_refl _, Nat.le_add_right _ _⟩
theorem f132 {x : Int32} (h : FP t B) (k : Post (.inl (some (svI (-1)))) t) : CalG C mtab (d + 1) 132 [svR (some B), svI x] t Post := by
  refine cal132 ?_
  unfold FP at h
  unfold vc132 br
  exact ⟨h.1, fun _ => k, fun e => absurd h.2.2.2.2.2.2.2.2.2.2.2.2.2.2.2.2.2.2.2.2.2.1 e⟩
theorem f133 (h : FP t B) (k : Post (.inl (some (svI (-1)))) t) : CalG C mtab (d + 1) 133 [svR (some B)] t Post := by
  refine cal133 ?_
  unfold FP at h
  unfold vc133
  rw [h.2.2.2.2.2.2.2.2.2.2.2.2.2.2.1]
  exact ⟨h.1, k⟩
theorem f2 {x : Int32} (h : FP t B) (k : Post (.inl (some (svR none))) t) : CalG C mtab (d + 1) 2 [svR (some (B + 6)), svI x] t Post := by
  refine cal2 ?_
  unfold FP at h
  unfold vc2
  simp only [h, nuR, true_and]
  exact k
theorem f3 (h : FP t B) (k : Post (.inl (some (svI 0))) t) : CalG C mtab (d + 1) 3 [svR (some (B + 6))] t Post := by
  refine cal3 ?_
  unfold FP at h
  unfold vc3
  simp only [h, nuR, true_and]
  exact k
theorem f134 {x y : Int32} (h : FP t B) (k : Post (.inl (some (svI (-1)))) t) : CalG C mtab (d + 2) 134 [svR (some B), svI x, svI y] t Post := by
  refine cal134 ?_
  have h' := h
  unfold FP at h'
  unfold vc134
  simp only [h', onR, true_and]
  exact f2 h k
theorem f135 {x : Int32} (h : FP t B) (k : Post (.inl (some (svJ 0))) t) : CalG C mtab (d + 2) 135 [svR (some B), svI x] t Post := by
  refine cal135 ?_
  have h' := h
  unfold FP at h'
  unfold vc135
  simp only [h', onR, true_and]
  exact f2 h k
theorem f136 {x : Int32} (h : FP t B) (k : Post (.inl (some (svI (-1)))) t) : CalG C mtab (d + 2) 136 [svR (some B), svI x] t Post := by
  refine cal136 ?_
  have h' := h
  unfold FP at h'
  unfold vc136
  simp only [h', onR, true_and]
  exact f2 h k
theorem f137 {x : Int32} (h : FP t B) (k : Post (.inl (some (svI (-1)))) t) : CalG C mtab (d + 2) 137 [svR (some B), svI x] t Post := by
  refine cal137 ?_
  have h' := h
  unfold FP at h'
  unfold vc137
  simp only [h', onR, true_and]
  exact f2 h k
theorem f36 {x : Int32} (h : FP t B) (k : Post (.inl (some (svI 0))) t) : CalG C mtab (d + 1) 36 [svR (some (B + 8)), svI x] t Post := by
  refine cal36 ?_
  unfold FP at h
  unfold vc36 br
  simp only [h]
  refine ⟨fun _ => ⟨Or.inl trivial, k⟩, fun e => ⟨trivial, fun _ => ⟨Or.inl trivial, k⟩, fun e2 => ?_⟩⟩
  rw [i_lt] at e
  rw [i_le] at e2
  omega
theorem f138 {x : Int32} (h : FP t B) (k : Post (.inr (202, 0)) (tNew t 0 0 6)) : CalG C mtab (d + 2) 138 [svR (some B), svI x] t Post := by
  refine cal138 ?_
  have h' := h
  unfold FP at h'
  unfold vc138
  simp only [h', onR, true_and]
  refine f36 h ?_
  exact ⟨fun _ => k, fun e => absurd rfl e⟩
theorem f281 {x : Int32} {o : Nat} (h : FP t B) (k : Post (.inl (some (svI 1))) (tNew t 0 0 6)) : CalG C mtab (d + 3) 281 [svR (some B), svI x, svR (some o)] t Post := by
  refine cal281 ?_
  have h' := h
  unfold FP at h'
  unfold vc281
  simp only [h', onR, true_and]
  exact f138 h ⟨rfl, k⟩
/-- what about tells of a fresh object -/
def abV (x : Int32) : Int32 := if x = 0 then -1 else if x = 1 then -1 else if x = 2 then -1 else if x = 3 then -1 else if x = 4 then 0 else if x = 5 then 0 else if x = 6 then 0 else if x = 7 then 0 else -1
theorem f139 {x : Int32} (h : FP t B) (k : Post (.inl (some (svI (abV x)))) t) : CalG C mtab (d + 2) 139 [svR (some B), svI x] t Post := by
  refine cal139 ?_
  have h' := h
  unfold FP at h'
  unfold vc139 br
  simp only [h', onR, nuR, true_and]
  unfold abV at k
  refine ⟨fun e => by rw [if_pos e] at k; exact k, fun e0 => ?_⟩
  rw [if_neg e0] at k
  refine ⟨fun e => by rw [if_pos e] at k; exact k, fun e1 => ?_⟩
  rw [if_neg e1] at k
  refine ⟨fun e => by rw [if_pos e] at k; exact k, fun e2 => ?_⟩
  rw [if_neg e2] at k
  refine ⟨fun e => by rw [if_pos e] at k; exact k, fun e3 => ?_⟩
  rw [if_neg e3] at k
  refine ⟨fun e => by rw [if_pos e] at k; exact k, fun e4 => ?_⟩
  rw [if_neg e4] at k
  refine ⟨fun e => f3 h (by rw [if_pos e] at k; exact k), fun e5 => ?_⟩
  rw [if_neg e5] at k
  refine ⟨fun e => by rw [if_pos e] at k; exact k, fun e6 => ?_⟩
  rw [if_neg e6] at k
  refine ⟨fun e => by rw [if_pos e] at k; exact k, fun e7 => ?_⟩
  rw [if_neg e7] at k
  exact k
/-! feed -/
/-- the tape and its count alone have changed -/
def TF (x a k : Nat) (t t' : Ht) : Prop := tN t' = tN t ∧ tU t' = tU t ∧ tK t' = tK t ∧ tL t' = tL t ∧ tR t' = tR t ∧ tJ t' = tJ t ∧ (∀ b j, b ≠ a → (b ≠ x ∨ j ≠ k) → tI t' b j = tI t b j)
theorem TF.rfl' {x a k : Nat} : TF x a k t t := ⟨rfl, rfl, rfl, rfl, rfl, rfl, fun _ _ _ _ => rfl⟩
theorem TF.trans {x a k : Nat} {t t' t'' : Ht} (h : TF x a k t t') (g : TF x a k t' t'') : TF x a k t t'' := by
  obtain ⟨h1, h2, h3, h4, h5, h6, h7⟩ := h
  obtain ⟨g1, g2, g3, g4, g5, g6, g7⟩ := g
  exact ⟨g1.trans h1, g2.trans h2, g3.trans h3, g4.trans h4, g5.trans h5, g6.trans h6, fun b j e1 e2 => (g7 b j e1 e2).trans (h7 b j e1 e2)⟩
theorem TF.step {x a k i : Nat} {v w : Int32} : TF x a k t (sI (sI t a i v) x k w) := by
  refine ⟨rfl, rfl, rfl, rfl, rfl, rfl, fun b j e1 e2 => ?_⟩
  simp only [ht]
  rw [if_neg (by omega), if_neg (by omega)]
theorem TF.same {x a k q : Nat} {t t' : Ht} (h : TF x a k t t') (h1 : q ≠ x) (h2 : q ≠ a) : sameAt t t' q := by
  obtain ⟨-, -, h3, h4, h5, h6, h7⟩ := h
  exact ⟨by rw [h3], by rw [h4], fun j => h7 q j h2 (Or.inl h1), fun j => by rw [h6], fun j => by rw [h5]⟩
theorem c140 {x0 a : Nat} {x : Int32} {v : Nat} (hx : tK t x0 = 13) (hr : tR t x0 0 = some a) (ha : tK t a = 100) (hl : tL t a = 1200) (hne : x0 ≠ a) (hv : (tI t x0 6).toInt = v) (hv4 : v + 4 ≤ 1200)
    (k : ∀ t', TF x0 a 6 t t' → (tI t' x0 6).toInt = ((v + 4 : Nat) : Int) → Post (.inl none) t') : CalG C mtab (d + 1) 140 [svR (some x0), svI x] t Post := by
  refine cal140 (fun n l2 t' => ∃ i : Nat, i ≤ 4 ∧ n = 4 - i ∧ l2.toInt = 24 - 8 * (i : Int) ∧ TF x0 a 6 t t' ∧ (tI t' x0 6).toInt = ((v + i : Nat) : Int)) ?_ ?_
  · exact ⟨4, rfl, rfl, 0, by omega, rfl, rfl, TF.rfl', by rw [hv]; rfl⟩
  · intro n l2 t' ⟨i, hi, hn, hl2, hT, ht'⟩
    obtain ⟨g1, g2, g3, g4, g5, g6, g7⟩ := id hT
    have z : (0 : Int32).toInt = 0 := rfl
    have z1 : (1200 : Int32).toInt = 1200 := rfl
    unfold vc140_3 br
    rw [g3, g4, g5, hx, hr, i_lt, i_le, z, z1]
    refine ⟨fun e => k t' hT ?_, fun e => ⟨rfl, fun e2 => ?_, fun e2 => ⟨rfl, rfl, ha, ?_, hx ▸ congrFun g3 x0 ▸ rfl, ?_, ?_⟩⟩⟩
    · have : i = 4 := by omega
      subst this
      exact ht'
    · omega
    · rw [hl]; exact vp_of (by omega) (by omega)
    · show tK t' x0 = 13
      rw [g3]; exact hx
    · have h1 : (tI t' x0 6 + (1 : Int32)).toInt = (tI t' x0 6).toInt + 1 := i_add (by show _ ≤ _ + (1 : Int); omega) (by show _ + (1 : Int) < _; omega)
      have h8 : (-8 : Int32).toInt = -8 := rfl
      have h2 : (l2 + (-8 : Int32)).toInt = l2.toInt - 8 := by rw [i_add (by rw [h8]; omega) (by rw [h8]; omega), h8]; omega
      refine ⟨4 - (i + 1), by omega, rfl, rfl, i + 1, by omega, rfl, by rw [h2]; omega, hT.trans TF.step, ?_⟩
      simp only [ht, hne, false_and, and_self, if_true, if_false]
      rw [h1]
      omega
end P1B
