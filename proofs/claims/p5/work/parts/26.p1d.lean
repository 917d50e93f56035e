section P1D
variable {C : Cx} {d : Nat} {Post : OutT → Ht → Prop} {t : Ht} {M : Nat}
/-- the reference's object, as it is made -/
def FM (t : Ht) (M : Nat) : Prop := tK t M = 17 ∧ tR t M 1 = some (M + 1) ∧ tK t (M + 1) = 16 ∧ tR t M 2 = some (M + 2) ∧ tK t (M + 2) = 100 ∧ tL t (M + 2) = 1200 ∧ tR t M 11 = some (M + 17) ∧ tK t (M + 17) = 15 ∧ tR t M 17 = some (M + 39) ∧ tK t (M + 39) = 14 ∧
  tI t M 3 = 0 ∧ tI t M 12 = 0 ∧ tI t M 13 = 0 ∧ tI t M 14 = -1 ∧ tI t M 15 = -1 ∧ tI t M 23 = 0 ∧ tI t M 24 = 0 ∧ tI t M 35 = 0
def KM (t t' : Ht) : Prop := tN t' = tN t ∧ tU t' = tU t
theorem c161 {x : Int32} (h : Post (.inl (some (svI (if x < 48 then 0 else if 57 < x then 0 else 1)))) t) : CalG C mtab (d + 1) 161 [svI x] t Post := by
  refine cal161 ?_
  unfold vc161 br
  refine ⟨fun e => ⟨Or.inl rfl, ?_⟩, fun e => ⟨fun e2 => ⟨Or.inl rfl, ?_⟩, fun e2 => ⟨Or.inr rfl, ?_⟩⟩⟩
  · rw [if_pos e] at h; exact h
  · rw [if_neg e, if_pos e2] at h; exact h
  · rw [if_neg e, if_neg e2] at h; exact h
theorem c172n (h : Post (.inl (some (svI 0))) t) : CalG C mtab (d + 2) 172 [svI (-1)] t Post := by
  refine cal172 ?_
  unfold vc172 br
  refine ⟨fun e => absurd e (by decide), fun _ => ⟨fun e => absurd e (by decide), fun _ => ⟨fun e => absurd e (by decide), fun _ => ⟨fun e => absurd e (by decide), fun _ => c161 ⟨fun _ => ⟨fun e => absurd e (by decide), fun _ => ⟨fun e => absurd e (by decide), fun _ => ⟨fun e => absurd e (by decide), fun _ => ⟨Or.inl rfl, h⟩⟩⟩⟩, fun e => absurd rfl e⟩⟩⟩⟩⟩
theorem c155e {x : Int32} (hk : tK t M = 17) (hx : tI t M 4 ≤ x) (h : Post (.inl (some (svI (-1)))) t) : CalG C mtab (d + 1) 155 [svR (some M), svI x] t Post :=
  cal155 ⟨hk, fun _ => h, fun e => absurd hx e⟩
theorem c156e (hk : tK t M = 17) (hx : tI t M 4 ≤ tI t M 5) (h : Post (.inl (some (svI (-1)))) t) : CalG C mtab (d + 2) 156 [svR (some M)] t Post :=
  cal156 ⟨hk, hk, c155e hk hx h⟩
theorem c157e {x : Int32} (hk : tK t M = 17) (hx : tI t M 4 ≤ tI t M 5) (hne : ¬ (-1 : Int32) = x) (h : Post (.inl (some (svI 0))) t) : CalG C mtab (d + 3) 157 [svR (some M), svI x] t Post :=
  cal157 ⟨hk, c156e hk hx ⟨fun e => absurd e hne, fun _ => ⟨Or.inl rfl, h⟩⟩⟩
theorem c160e (hk : tK t M = 17) (hx : tI t M 4 ≤ tI t M 5) (h : Post (.inl none) t) : CalG C mtab (d + 4) 160 [svR (some M)] t Post := by
  refine cal160 (fun _ _ => False) ?_ (fun _ _ hf => hf.elim)
  unfold vc160
  refine ⟨hk, c157e hk hx (by decide) ⟨fun _ => ⟨hk, c157e hk hx (by decide) ⟨fun _ => ⟨hk, c157e hk hx (by decide) ⟨fun _ => ⟨hk, c157e hk hx (by decide) ⟨fun _ => h, fun e => absurd rfl e⟩⟩, fun e => absurd rfl e⟩⟩, fun e => absurd rfl e⟩⟩, fun e => absurd rfl e⟩⟩
theorem c153 {s : Nat} {x y : Int32} (hk : tK t M = 17) (hr : tR t M 1 = some s) (hs : tK t s = 16) (h : Post (.inl (some (svR (some s)))) (sI (sI t s 6 x) s 7 y)) : CalG C mtab (d + 1) 153 [svR (some M), svI x, svI y] t Post := by
  refine cal153 ?_
  unfold vc153
  have hr1 : tR (sI t s 6 x) M 1 = some s := hr
  have hr2 : tR (sI (sI t s 6 x) s 7 y) M 1 = some s := hr
  rw [hr]
  refine ⟨hk, hs, hk, ?_⟩
  rw [hr1]
  refine ⟨hs, hk, ?_⟩
  rw [hr2]
  exact h
theorem c158 {s : Nat} (hk : tK t M = 17) (hr : tR t M 1 = some s) (hs : tK t s = 16) (h : Post (.inl (some (svR (some s)))) (sI (sI t s 6 1) s 7 (tI t M 5))) : CalG C mtab (d + 2) 158 [svR (some M)] t Post :=
  cal158 ⟨hk, hk, c153 hk hr hs h⟩
theorem c178 {x y : Int32} (hk : tK t M = 17) (h : Post (.inl (some (svI x))) (sI (sI t M 14 x) M 15 y)) : CalG C mtab (d + 1) 178 [svR (some M), svI x, svI y] t Post :=
  cal178 ⟨hk, hk, h⟩
theorem c174e {s : Nat} {u w : Int32} (hk : tK t M = 17) (hx : tI t M 4 ≤ tI t M 5) (hr : tR t M 1 = some s) (hs : tK t s = 16) (h : Post (.inr (16, s)) (sI (sI t s 6 1) s 7 (tI t M 5))) : CalG C mtab (d + 3) 174 [svR (some M), svI u, svI w] t Post := by
  refine cal174 ?_
  unfold vc174
  refine ⟨hk, c156e hk hx (c172n ⟨fun _ => ⟨hk, c158 hk hr hs ⟨hs, h⟩⟩, fun e => absurd rfl e⟩)⟩
theorem c159e {s : Nat} {x : Int32} (hk : tK t M = 17) (hx : tI t M 4 ≤ tI t M 5) (hne : ¬ (-1 : Int32) = x) (hr : tR t M 1 = some s) (hs : tK t s = 16) (h : Post (.inr (16, s)) (sI (sI t s 6 1) s 7 (tI t M 5))) : CalG C mtab (d + 4) 159 [svR (some M), svI x] t Post :=
  cal159 ⟨hk, c157e hk hx hne ⟨fun _ => ⟨hk, c158 hk hr hs ⟨hs, h⟩⟩, fun e => absurd rfl e⟩⟩
theorem m180 {x : Int32} (h : FM t M) (k : ∀ t', KM t t' → Post (.inl (some (svI (-1)))) t') : CalG C mtab (d + 1) 180 [svR (some M), svI x] t Post := by
  refine cal180 ?_
  unfold FM at h
  unfold vc180 br
  have k' := k (sI t M 0 0) ⟨rfl, rfl⟩
  have e1 : tI (sI t M 0 0) M 14 = -1 := by simp [ht, h]
  have e2 : tI (sI t M 0 0) M 15 = -1 := by simp [ht, h]
  rw [e1, e2]
  exact ⟨h.1, fun _ => ⟨h.1, k'⟩, fun _ => ⟨fun _ => ⟨h.1, k'⟩, fun _ => k'⟩⟩
theorem m234 (h : FM t M) (k : ∀ t', KM t t' → Post (.inl (some (svI (-1)))) t') : CalG C mtab (d + 1) 234 [svR (some M)] t Post := by
  refine cal234 (fun _ _ _ _ => False) ?_ (fun _ _ _ _ hf => hf.elim)
  unfold FM at h
  unfold vc234 br
  have e1 : tI (sI t M 0 0) M 12 = 0 := by simp [ht, h]
  exact ⟨h.1, h.1, fun _ => k _ ⟨rfl, rfl⟩, fun e => absurd e1 e⟩
theorem c235 {x : Int32} (hk : tK t M = 17) (h0 : tI t M 24 = 0) (k : Post (.inl (some (svI 0))) t) : CalG C mtab (d + 1) 235 [svR (some M), svI x] t Post := by
  refine cal235 ?_
  unfold vc235 br
  rw [h0]
  refine ⟨fun _ => ⟨Or.inl rfl, k⟩, fun e => ⟨hk, fun _ => ⟨Or.inl rfl, k⟩, fun e2 => ?_⟩⟩
  rw [i_lt] at e
  rw [i_le] at e2
  omega
theorem m237 {x y : Int32} (h : FM t M) (k : ∀ t', KM t t' → Post (.inl (some (svI (-1)))) t') : CalG C mtab (d + 2) 237 [svR (some M), svI x, svI y] t Post := by
  refine cal237 ?_
  unfold FM at h
  exact ⟨h.1, h.1, c235 h.1 (by simp [ht, h]) ⟨fun _ => k _ ⟨rfl, rfl⟩, fun e => absurd rfl e⟩⟩
theorem m238 {x : Int32} (h : FM t M) (k : ∀ t', KM t t' → Post (.inl (some (svJ 0))) t') : CalG C mtab (d + 2) 238 [svR (some M), svI x] t Post := by
  refine cal238 ?_
  unfold FM at h
  exact ⟨h.1, h.1, c235 h.1 (by simp [ht, h]) ⟨fun _ => k _ ⟨rfl, rfl⟩, fun e => absurd rfl e⟩⟩
theorem m244 {x : Int32} (h : FM t M) (k : ∀ t', KM t t' → Post (.inl (some (svI (-1)))) t') : CalG C mtab (d + 2) 244 [svR (some M), svI x] t Post := by
  refine cal244 (fun _ _ _ _ => False) (fun _ _ _ _ => False) ?_ (fun _ _ _ _ hf => hf.elim) (fun _ _ _ _ hf => hf.elim)
  unfold FM at h
  exact ⟨h.1, h.1, c235 h.1 (by simp [ht, h]) ⟨fun _ => k _ ⟨rfl, rfl⟩, fun e => absurd rfl e⟩⟩
theorem m246 {x : Int32} (h : FM t M) (k : ∀ t', KM t t' → Post (.inl (some (svI (-1)))) t') : CalG C mtab (d + 2) 246 [svR (some M), svI x] t Post := by
  refine cal246 ?_
  unfold FM at h
  exact ⟨h.1, h.1, c235 h.1 (by simp [ht, h]) ⟨fun _ => k _ ⟨rfl, rfl⟩, fun e => absurd rfl e⟩⟩
theorem m247 {x : Int32} (h : FM t M) (k : Post (.inl (some (svI 0))) (sI t M 0 1)) : CalG C mtab (d + 1) 247 [svR (some M), svI x] t Post := by
  refine cal247 ?_
  unfold FM at h
  unfold vc247 br
  have e1 : tI (sI t M 0 1) M 0 = 1 := by simp [ht]
  have e2 : tI t M 35 = 0 := by simp only [h]
  rw [e1, e2]
  refine ⟨fun _ => ⟨h.1, h.1, fun e => absurd e (by decide), fun _ => k⟩, fun e => ⟨h.1, fun e2 => absurd e2 e, fun _ => ⟨h.1, h.1, fun e => absurd e (by decide), fun _ => k⟩⟩⟩
theorem m248 {x : Int32} (h : FM t M) (k : ∀ t', KM t t' → Post (.inl (some (svI (abV x)))) t') : CalG C mtab (d + 1) 248 [svR (some M), svI x] t Post := by
  refine cal248 ?_
  unfold FM at h
  unfold vc248 br
  have k := k (sI t M 0 0) ⟨rfl, rfl⟩
  have e12 : tI (sI t M 0 0) M 12 = 0 := by simp [ht, h]
  have e13 : tI (sI t M 0 0) M 13 = 0 := by simp [ht, h]
  have e23 : tI (sI t M 0 0) M 23 = 0 := by simp [ht, h]
  have e24 : tI (sI t M 0 0) M 24 = 0 := by simp [ht, h]
  have e3 : tI (sI t M 0 0) M 3 = 0 := by simp [ht, h]
  have e35 : tI (sI t M 0 0) M 35 = 0 := by simp [ht, h]
  have hK : tK (sI t M 0 0) M = 17 := h.1
  simp only [e12, e13, e23, e24, e3, e35, hK, h, true_and]
  unfold abV at k
  refine ⟨fun e => by rw [if_pos e] at k; exact ⟨fun _ => k, fun e => absurd trivial e⟩, fun e0 => ?_⟩
  rw [if_neg e0] at k
  refine ⟨fun e => by rw [if_pos e] at k; exact ⟨fun _ => k, fun e => absurd trivial e⟩, fun e1 => ?_⟩
  rw [if_neg e1] at k
  refine ⟨fun e => by rw [if_pos e] at k; exact ⟨fun _ => k, fun e => absurd trivial e⟩, fun e2 => ?_⟩
  rw [if_neg e2] at k
  refine ⟨fun e => by rw [if_pos e] at k; exact ⟨fun _ => k, fun e => absurd trivial e⟩, fun e3 => ?_⟩
  rw [if_neg e3] at k
  refine ⟨fun e => by rw [if_pos e] at k; exact k, fun e4 => ?_⟩
  rw [if_neg e4] at k
  refine ⟨fun e => by rw [if_pos e] at k; exact k, fun e5 => ?_⟩
  rw [if_neg e5] at k
  refine ⟨fun e => by rw [if_pos e] at k; exact k, fun e6 => ?_⟩
  rw [if_neg e6] at k
  refine ⟨fun e => by rw [if_pos e] at k; exact k, fun e7 => ?_⟩
  rw [if_neg e7] at k
  exact k
end P1D
