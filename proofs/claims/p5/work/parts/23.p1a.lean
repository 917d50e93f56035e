/-! CONTRACTS: small methods of the class, and the class's object as it is made -/
section P1A
variable {C : Cx} {d : Nat} {Post : OutT → Ht → Prop} {t : Ht} {B : Nat}
def sameAt (t t' : Ht) (b : Nat) : Prop := tK t' b = tK t b ∧ tL t' b = tL t b ∧ (∀ j, tI t' b j = tI t b j) ∧ (∀ j, tJ t' b j = tJ t b j) ∧ (∀ j, tR t' b j = tR t b j)
theorem sameAt.rfl' {b : Nat} : sameAt t t b := ⟨rfl, rfl, fun _ => rfl, fun _ => rfl, fun _ => rfl⟩
theorem sameAt.trans {t t' t'' : Ht} {b : Nat} (h : sameAt t t' b) (k : sameAt t' t'' b) : sameAt t t'' b :=
  ⟨k.1.trans h.1, k.2.1.trans h.2.1, fun j => (k.2.2.1 j).trans (h.2.2.1 j), fun j => (k.2.2.2.1 j).trans (h.2.2.2.1 j), fun j => (k.2.2.2.2 j).trans (h.2.2.2.2 j)⟩
theorem sameAt_sI {a k b : Nat} {x : Int32} (h : b ≠ a) : sameAt t (sI t a k x) b := by
  refine ⟨rfl, rfl, fun j => ?_, fun _ => rfl, fun _ => rfl⟩
  simp only [ht, h, false_and, if_false]
theorem sameAt_sJ {a k b : Nat} {x : Int64} (h : b ≠ a) : sameAt t (sJ t a k x) b := by
  refine ⟨rfl, rfl, fun _ => rfl, fun j => ?_, fun _ => rfl⟩
  simp only [ht, h, false_and, if_false]
theorem sameAt_sR {a k b : Nat} {x : Option Nat} (h : b ≠ a) : sameAt t (sR t a k x) b := by
  refine ⟨rfl, rfl, fun _ => rfl, fun _ => rfl, fun j => ?_⟩
  simp only [ht, h, false_and, if_false]
theorem sameAt_new {b kd l u : Nat} (h : b < tN t) : sameAt t (tNew t kd l u) b := by
  have h' : ¬ b = tN t := by omega
  refine ⟨?_, ?_, fun j => ?_, fun j => ?_, fun j => ?_⟩ <;> simp only [ht, if_neg h']
theorem c142 {x : Int32} (h : Post (.inl (some (svI (if x < 48 then 0 else if 57 < x then 0 else 1)))) t) : CalG C mtab (d + 1) 142 [svI x] t Post := by
  refine cal142 ?_
  unfold vc142 br
  refine ⟨fun e => ⟨Or.inl rfl, ?_⟩, fun e => ⟨fun e2 => ⟨Or.inl rfl, ?_⟩, fun e2 => ⟨Or.inr rfl, ?_⟩⟩⟩
  · rw [if_pos e] at h; exact h
  · rw [if_neg e, if_pos e2] at h; exact h
  · rw [if_neg e, if_neg e2] at h; exact h
theorem c252 {x y : Int32} (h : Post (.inl (some (svI (if y < x then y else x)))) t) : CalG C mtab (d + 1) 252 [svI x, svI y] t Post := by
  refine cal252 ?_
  unfold vc252 br
  refine ⟨fun e => ?_, fun e => ?_⟩
  · rw [if_pos e] at h; exact h
  · rw [if_neg e] at h; exact h
theorem c83 {a : Nat} {x y : Int32} (hk : tK t a = 7) (h : Post (.inr (200, 0)) (tNew (sI (sI t a 5 x) a 6 y) 0 0 6)) : CalG C mtab (d + 1) 83 [svR (some a), svI x, svI y] t Post :=
  cal83 ⟨hk, hk, h⟩
theorem c82 {a b : Nat} {x : Int32} (hk : tK t a = 7) (hr : tR t a 0 = some b) (hb : tK t b = 100) (hl : tL t b = 1200)
    (h : Post (.inl none) (sI (sI (sI (sI t a 3 (if 1200 < x then 1200 else x)) a 4 0) a 5 0) a 6 (-1))) : CalG C mtab (d + 2) 82 [svR (some a), svI x] t Post := by
  refine cal82 ?_
  unfold vc82
  rw [hr]
  refine ⟨hk, by rw [hb]; decide, by rw [hb]; decide, ?_⟩
  rw [hl]
  refine c252 ?_
  exact ⟨hk, hk, hk, hk, h⟩
theorem c85e {a b : Nat} (hk : tK t a = 7) (h0 : ¬ tI t a 4 < 0) (he : tI t a 3 ≤ tI t a 4) (h : Post (.inl (some (svI (-1)))) t) : CalG C mtab (d + 1) 85 [svR (some a)] t Post := by
  refine cal85 ?_
  unfold vc85 br
  exact ⟨hk, fun e => absurd e h0, fun _ => ⟨hk, hk, fun _ => h, fun e => absurd he e⟩⟩
theorem c87e {a : Nat} (hk : tK t a = 7) (he : tI t a 3 ≤ tI t a 4) (h : Post (.inl none) t) : CalG C mtab (d + 1) 87 [svR (some a)] t Post := by
  refine cal87 (fun _ _ => False) ?_ (fun _ _ hf => hf.elim)
  unfold vc87 br
  exact ⟨hk, hk, fun _ => h, fun e => absurd he e⟩
theorem c121n (h : Post (.inl (some (svI (-1)))) t) : CalG C mtab (d + 2) 121 [svI (-1)] t Post := by
  refine cal121 ?_
  unfold vc121 br
  refine ⟨fun e => absurd e (by decide), fun _ => ⟨fun e => absurd e (by decide), fun _ => ⟨fun e => absurd e (by decide), fun _ => ⟨fun e => absurd e (by decide), fun _ => ⟨fun e => absurd e (by decide), fun _ => ⟨fun e => absurd e (by decide), fun _ => ⟨fun e => absurd e (by decide), fun _ => ?_⟩⟩⟩⟩⟩⟩⟩
  refine c142 ?_
  exact ⟨fun _ => h, fun e => absurd rfl e⟩
end P1A
