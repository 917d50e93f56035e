/-! THE REFERENCE'S FIND: what stands while it looks (t0: the heap before), and its small steps -/
/-- the model's shape: rows at S, parts at P -/
def FSh (t : Ht) (M S P : Nat) : Prop := tK t M = 17 ∧ (tR t M 1 = some (M + 1) ∧ tK t (M + 1) = 16) ∧ (tR t M 6 = some (M + 3) ∧ tK t (M + 3) = 101 ∧ tL t (M + 3) = 4800) ∧
  (tR t M 10 = some S ∧ tK t S = 15 ∧ (∀ k, k < 12 → tR t S k = some (S + 1 + k) ∧ tL t (S + 1 + k) = 300) ∧ (∀ k, k < 11 → tK t (S + 1 + k) = 101) ∧ tK t (S + 12) = 102) ∧
  (tR t M 16 = some P ∧ tK t P = 14 ∧ (∀ k, k < 8 → tR t P k = some (P + 1 + k) ∧ tL t (P + 1 + k) = 2400) ∧ (∀ k, k < 5 → tK t (P + 1 + k) = 101) ∧ (∀ k, k < 3 → tK t (P + 6 + k) = 102)) ∧
  (tR t M 26 = some (M + 49) ∧ tK t (M + 49) = 101 ∧ tL t (M + 49) = 36000) ∧ (S = M + 4 ∨ S = M + 17) ∧ (P = M + 30 ∨ P = M + 39)
def F0 (t0 : Ht) (M S P : Nat) (V : VT) (c : Nat) : Prop := FSh t0 M S P ∧ RT t0 S (M + 3) V c 0 1200 ∧ (∀ i, i < c → NIv V i ∧ eL (V i) < c ∧ 1 ≤ eD (V i)) ∧ 0 < c ∧ c ≤ 300
/-- what find may change -/
def MF (M : Nat) (t t' : Ht) : Prop := tN t' = tN t ∧ tU t' = tU t ∧ tK t' = tK t ∧ tL t' = tL t ∧ tR t' = tR t ∧ (∀ x k, (x ≠ M ∨ k ≠ 33) → tJ t' x k = tJ t x k) ∧
  (∀ x k, (x ≠ M ∨ k < 23 ∨ k = 24) → (x ≠ M + 1 ∨ (k ≠ 6 ∧ k ≠ 7)) → x ≠ M + 49 → tI t' x k = tI t x k)
def FS (t0 : Ht) (M : Nat) (t : Ht) (lk : Nat) : Prop := MF M t0 t ∧ tI t M 23 = nI lk ∧ lk ≤ 60000
/-- the lists are the same below K -/
def LK (M K : Nat) (t t' : Ht) : Prop := ∀ k, k < K → tI t' (M + 49) k = tI t (M + 49) k
/-- it stopped -/
def ME (t0 : Ht) (M : Nat) (t' : Ht) (e : Int32 × Nat) : Prop := MF M t0 t' ∧ tI t' (M + 1) 6 = e.1
/-- the list under way -/
def LsM (M c : Nat) (t : Ht) (bs : Nat) (l : List Nat) : Prop := tI t M 27 = nI bs ∧ tI t M 28 = nI l.length ∧ l.length ≤ 1000 ∧ (∀ k, k < l.length → tI t (M + 49) (bs + k) = nI (l.getD k 0)) ∧ ∀ x ∈ l, x < c
section RFD
variable {C : Cx} {d : Nat} {Post : OutT → Ht → Prop} {t0 t t' t2 : Ht} {M S P : Nat} {V : VT} {c lk lk' : Nat} {l l' : List Nat} {bs : Nat}
theorem MF.rfl' : MF M t t := ⟨rfl, rfl, rfl, rfl, rfl, fun _ _ _ => rfl, fun _ _ _ _ _ => rfl⟩
theorem MF.trans (h : MF M t t') (g : MF M t' t2) : MF M t t2 := by
  obtain ⟨h1, h2, h3, h4, h5, h6, h7⟩ := h
  obtain ⟨g1, g2, g3, g4, g5, g6, g7⟩ := g
  exact ⟨g1.trans h1, g2.trans h2, g3.trans h3, g4.trans h4, g5.trans h5, fun x k z => (g6 x k z).trans (h6 x k z), fun x k z1 z2 z3 => (g7 x k z1 z2 z3).trans (h7 x k z1 z2 z3)⟩
theorem MF.I {k : Nat} {v : Int32} (h : MF M t0 t) (hk : k = 23 ∨ (25 ≤ k ∧ k ≤ 32)) : MF M t0 (sI t M k v) := by
  refine h.trans ⟨rfl, rfl, rfl, rfl, rfl, fun _ _ _ => rfl, fun x j z1 z2 z3 => sI_at ?_⟩
  rintro ⟨rfl, rfl⟩; omega
theorem MF.J {v : Int64} (h : MF M t0 t) : MF M t0 (sJ t M 33 v) := by
  refine h.trans ⟨rfl, rfl, rfl, rfl, rfl, fun x k z => sJ_at ?_, fun x j z1 z2 z3 => rfl⟩
  rintro ⟨rfl, rfl⟩; omega
theorem MF.L {k : Nat} {v : Int32} (h : MF M t0 t) : MF M t0 (sI t (M + 49) k v) := by
  refine h.trans ⟨rfl, rfl, rfl, rfl, rfl, fun _ _ _ => rfl, fun x j z1 z2 z3 => sI_at ?_⟩
  rintro ⟨rfl, rfl⟩; exact z3 rfl
theorem MF.S {k : Nat} {v : Int32} (h : MF M t0 t) (hk : k = 6 ∨ k = 7) : MF M t0 (sI t (M + 1) k v) := by
  refine h.trans ⟨rfl, rfl, rfl, rfl, rfl, fun _ _ _ => rfl, fun x j z1 z2 z3 => sI_at ?_⟩
  rintro ⟨rfl, rfl⟩; omega
theorem FS.I {k : Nat} {v : Int32} (h : FS t0 M t lk) (hk : 25 ≤ k ∧ k ≤ 32) : FS t0 M (sI t M k v) lk := ⟨h.1.I (Or.inr hk), (sI_at (by omega)).trans h.2.1, h.2.2⟩
theorem FS.J {v : Int64} (h : FS t0 M t lk) : FS t0 M (sJ t M 33 v) lk := ⟨h.1.J, h.2.1, h.2.2⟩
theorem FS.L {k : Nat} {v : Int32} (h : FS t0 M t lk) : FS t0 M (sI t (M + 49) k v) lk := ⟨h.1.L, (sI_at (by omega)).trans h.2.1, h.2.2⟩
theorem LK.rfl' {K : Nat} : LK M K t t := fun _ _ => rfl
theorem LK.trans {K K' : Nat} (h : LK M K t t') (g : LK M K' t' t2) (hk : K ≤ K') : LK M K t t2 := fun k z => (g k (by omega)).trans (h k z)
theorem LK.le {K K' : Nat} (h : LK M K t t') (hk : K' ≤ K) : LK M K' t t' := fun k z => h k (by omega)
theorem LK.I {K k : Nat} {v : Int32} : LK M K t (sI t M k v) := fun j _ => sI_at (by omega)
theorem LK.J {K k a : Nat} {v : Int64} : LK M K t (sJ t a k v) := fun _ _ => rfl
theorem LK.L {K k : Nat} {v : Int32} (h : K ≤ k) : LK M K t (sI t (M + 49) k v) := fun j hj => sI_at (by omega)
section RDS
variable (H : F0 t0 M S P V c) (h : FS t0 M t lk)
include H h
theorem k17 : tK t M = 17 := by rw [h.1.2.2.1]; exact H.1.1

theorem gP0 {x : Nat} (hx : x < 2400) {f : Nat → Prop} (hf : f (P + 1)) : onR (tR t M 16) (fun a => tK t a = 14 ∧ onR (tR t a 0) (fun b => tK t b = 101 ∧ vp_in (nI x) (tL t b) ∧ f b)) := by
  rw [h.1.2.2.1, h.1.2.2.2.1, h.1.2.2.2.2.1, H.1.2.2.2.2.1.1]
  refine ⟨H.1.2.2.2.2.1.2.1, ?_⟩
  rw [(H.1.2.2.2.2.1.2.2.1 0 (by decide)).1]
  exact ⟨H.1.2.2.2.2.1.2.2.2.1 0 (by decide), by rw [(H.1.2.2.2.2.1.2.2.1 0 (by decide)).2]; exact vp_in_nI hx (by decide), hf⟩
theorem gP1 {x : Nat} (hx : x < 2400) {f : Nat → Prop} (hf : f (P + 2)) : onR (tR t M 16) (fun a => tK t a = 14 ∧ onR (tR t a 1) (fun b => tK t b = 101 ∧ vp_in (nI x) (tL t b) ∧ f b)) := by
  rw [h.1.2.2.1, h.1.2.2.2.1, h.1.2.2.2.2.1, H.1.2.2.2.2.1.1]
  refine ⟨H.1.2.2.2.2.1.2.1, ?_⟩
  rw [(H.1.2.2.2.2.1.2.2.1 1 (by decide)).1]
  exact ⟨H.1.2.2.2.2.1.2.2.2.1 1 (by decide), by rw [(H.1.2.2.2.2.1.2.2.1 1 (by decide)).2]; exact vp_in_nI hx (by decide), hf⟩
theorem gP2 {x : Nat} (hx : x < 2400) {f : Nat → Prop} (hf : f (P + 3)) : onR (tR t M 16) (fun a => tK t a = 14 ∧ onR (tR t a 2) (fun b => tK t b = 101 ∧ vp_in (nI x) (tL t b) ∧ f b)) := by
  rw [h.1.2.2.1, h.1.2.2.2.1, h.1.2.2.2.2.1, H.1.2.2.2.2.1.1]
  refine ⟨H.1.2.2.2.2.1.2.1, ?_⟩
  rw [(H.1.2.2.2.2.1.2.2.1 2 (by decide)).1]
  exact ⟨H.1.2.2.2.2.1.2.2.2.1 2 (by decide), by rw [(H.1.2.2.2.2.1.2.2.1 2 (by decide)).2]; exact vp_in_nI hx (by decide), hf⟩
theorem gP3 {x : Nat} (hx : x < 2400) {f : Nat → Prop} (hf : f (P + 4)) : onR (tR t M 16) (fun a => tK t a = 14 ∧ onR (tR t a 3) (fun b => tK t b = 101 ∧ vp_in (nI x) (tL t b) ∧ f b)) := by
  rw [h.1.2.2.1, h.1.2.2.2.1, h.1.2.2.2.2.1, H.1.2.2.2.2.1.1]
  refine ⟨H.1.2.2.2.2.1.2.1, ?_⟩
  rw [(H.1.2.2.2.2.1.2.2.1 3 (by decide)).1]
  exact ⟨H.1.2.2.2.2.1.2.2.2.1 3 (by decide), by rw [(H.1.2.2.2.2.1.2.2.1 3 (by decide)).2]; exact vp_in_nI hx (by decide), hf⟩
theorem gP4 {x : Nat} (hx : x < 2400) {f : Nat → Prop} (hf : f (P + 5)) : onR (tR t M 16) (fun a => tK t a = 14 ∧ onR (tR t a 4) (fun b => tK t b = 101 ∧ vp_in (nI x) (tL t b) ∧ f b)) := by
  rw [h.1.2.2.1, h.1.2.2.2.1, h.1.2.2.2.2.1, H.1.2.2.2.2.1.1]
  refine ⟨H.1.2.2.2.2.1.2.1, ?_⟩
  rw [(H.1.2.2.2.2.1.2.2.1 4 (by decide)).1]
  exact ⟨H.1.2.2.2.2.1.2.2.2.1 4 (by decide), by rw [(H.1.2.2.2.2.1.2.2.1 4 (by decide)).2]; exact vp_in_nI hx (by decide), hf⟩
theorem gP5 {x : Nat} (hx : x < 2400) {f : Nat → Prop} (hf : f (P + 6)) : onR (tR t M 16) (fun a => tK t a = 14 ∧ onR (tR t a 5) (fun b => tK t b = 102 ∧ vp_in (nI x) (tL t b) ∧ f b)) := by
  rw [h.1.2.2.1, h.1.2.2.2.1, h.1.2.2.2.2.1, H.1.2.2.2.2.1.1]
  refine ⟨H.1.2.2.2.2.1.2.1, ?_⟩
  rw [(H.1.2.2.2.2.1.2.2.1 5 (by decide)).1]
  exact ⟨H.1.2.2.2.2.1.2.2.2.2 0 (by decide), by rw [(H.1.2.2.2.2.1.2.2.1 5 (by decide)).2]; exact vp_in_nI hx (by decide), hf⟩
theorem gP6 {x : Nat} (hx : x < 2400) {f : Nat → Prop} (hf : f (P + 7)) : onR (tR t M 16) (fun a => tK t a = 14 ∧ onR (tR t a 6) (fun b => tK t b = 102 ∧ vp_in (nI x) (tL t b) ∧ f b)) := by
  rw [h.1.2.2.1, h.1.2.2.2.1, h.1.2.2.2.2.1, H.1.2.2.2.2.1.1]
  refine ⟨H.1.2.2.2.2.1.2.1, ?_⟩
  rw [(H.1.2.2.2.2.1.2.2.1 6 (by decide)).1]
  exact ⟨H.1.2.2.2.2.1.2.2.2.2 1 (by decide), by rw [(H.1.2.2.2.2.1.2.2.1 6 (by decide)).2]; exact vp_in_nI hx (by decide), hf⟩
theorem gP7 {x : Nat} (hx : x < 2400) {f : Nat → Prop} (hf : f (P + 8)) : onR (tR t M 16) (fun a => tK t a = 14 ∧ onR (tR t a 7) (fun b => tK t b = 102 ∧ vp_in (nI x) (tL t b) ∧ f b)) := by
  rw [h.1.2.2.1, h.1.2.2.2.1, h.1.2.2.2.2.1, H.1.2.2.2.2.1.1]
  refine ⟨H.1.2.2.2.2.1.2.1, ?_⟩
  rw [(H.1.2.2.2.2.1.2.2.1 7 (by decide)).1]
  exact ⟨H.1.2.2.2.2.1.2.2.2.2 2 (by decide), by rw [(H.1.2.2.2.2.1.2.2.1 7 (by decide)).2]; exact vp_in_nI hx (by decide), hf⟩
theorem gS0 {x : Nat} (hx : x < c) {f : Nat → Prop} (hf : f (S + 1)) : onR (tR t M 10) (fun a => tK t a = 15 ∧ onR (tR t a 0) (fun b => tK t b = 101 ∧ vp_in (nI x) (tL t b) ∧ f b)) := by
  rw [h.1.2.2.1, h.1.2.2.2.1, h.1.2.2.2.2.1, H.1.2.2.2.1.1]
  refine ⟨H.1.2.2.2.1.2.1, ?_⟩
  rw [(H.1.2.2.2.1.2.2.1 0 (by decide)).1]
  exact ⟨H.1.2.2.2.1.2.2.2.1 0 (by decide), by rw [(H.1.2.2.2.1.2.2.1 0 (by decide)).2]; exact vp_in_nI (by have := H.2.2.2.2; omega) (by decide), hf⟩
theorem gS1 {x : Nat} (hx : x < c) {f : Nat → Prop} (hf : f (S + 2)) : onR (tR t M 10) (fun a => tK t a = 15 ∧ onR (tR t a 1) (fun b => tK t b = 101 ∧ vp_in (nI x) (tL t b) ∧ f b)) := by
  rw [h.1.2.2.1, h.1.2.2.2.1, h.1.2.2.2.2.1, H.1.2.2.2.1.1]
  refine ⟨H.1.2.2.2.1.2.1, ?_⟩
  rw [(H.1.2.2.2.1.2.2.1 1 (by decide)).1]
  exact ⟨H.1.2.2.2.1.2.2.2.1 1 (by decide), by rw [(H.1.2.2.2.1.2.2.1 1 (by decide)).2]; exact vp_in_nI (by have := H.2.2.2.2; omega) (by decide), hf⟩
theorem gS2 {x : Nat} (hx : x < c) {f : Nat → Prop} (hf : f (S + 3)) : onR (tR t M 10) (fun a => tK t a = 15 ∧ onR (tR t a 2) (fun b => tK t b = 101 ∧ vp_in (nI x) (tL t b) ∧ f b)) := by
  rw [h.1.2.2.1, h.1.2.2.2.1, h.1.2.2.2.2.1, H.1.2.2.2.1.1]
  refine ⟨H.1.2.2.2.1.2.1, ?_⟩
  rw [(H.1.2.2.2.1.2.2.1 2 (by decide)).1]
  exact ⟨H.1.2.2.2.1.2.2.2.1 2 (by decide), by rw [(H.1.2.2.2.1.2.2.1 2 (by decide)).2]; exact vp_in_nI (by have := H.2.2.2.2; omega) (by decide), hf⟩
theorem gS3 {x : Nat} (hx : x < c) {f : Nat → Prop} (hf : f (S + 4)) : onR (tR t M 10) (fun a => tK t a = 15 ∧ onR (tR t a 3) (fun b => tK t b = 101 ∧ vp_in (nI x) (tL t b) ∧ f b)) := by
  rw [h.1.2.2.1, h.1.2.2.2.1, h.1.2.2.2.2.1, H.1.2.2.2.1.1]
  refine ⟨H.1.2.2.2.1.2.1, ?_⟩
  rw [(H.1.2.2.2.1.2.2.1 3 (by decide)).1]
  exact ⟨H.1.2.2.2.1.2.2.2.1 3 (by decide), by rw [(H.1.2.2.2.1.2.2.1 3 (by decide)).2]; exact vp_in_nI (by have := H.2.2.2.2; omega) (by decide), hf⟩
theorem gS4 {x : Nat} (hx : x < c) {f : Nat → Prop} (hf : f (S + 5)) : onR (tR t M 10) (fun a => tK t a = 15 ∧ onR (tR t a 4) (fun b => tK t b = 101 ∧ vp_in (nI x) (tL t b) ∧ f b)) := by
  rw [h.1.2.2.1, h.1.2.2.2.1, h.1.2.2.2.2.1, H.1.2.2.2.1.1]
  refine ⟨H.1.2.2.2.1.2.1, ?_⟩
  rw [(H.1.2.2.2.1.2.2.1 4 (by decide)).1]
  exact ⟨H.1.2.2.2.1.2.2.2.1 4 (by decide), by rw [(H.1.2.2.2.1.2.2.1 4 (by decide)).2]; exact vp_in_nI (by have := H.2.2.2.2; omega) (by decide), hf⟩
theorem gS5 {x : Nat} (hx : x < c) {f : Nat → Prop} (hf : f (S + 6)) : onR (tR t M 10) (fun a => tK t a = 15 ∧ onR (tR t a 5) (fun b => tK t b = 101 ∧ vp_in (nI x) (tL t b) ∧ f b)) := by
  rw [h.1.2.2.1, h.1.2.2.2.1, h.1.2.2.2.2.1, H.1.2.2.2.1.1]
  refine ⟨H.1.2.2.2.1.2.1, ?_⟩
  rw [(H.1.2.2.2.1.2.2.1 5 (by decide)).1]
  exact ⟨H.1.2.2.2.1.2.2.2.1 5 (by decide), by rw [(H.1.2.2.2.1.2.2.1 5 (by decide)).2]; exact vp_in_nI (by have := H.2.2.2.2; omega) (by decide), hf⟩
theorem gS6 {x : Nat} (hx : x < c) {f : Nat → Prop} (hf : f (S + 7)) : onR (tR t M 10) (fun a => tK t a = 15 ∧ onR (tR t a 6) (fun b => tK t b = 101 ∧ vp_in (nI x) (tL t b) ∧ f b)) := by
  rw [h.1.2.2.1, h.1.2.2.2.1, h.1.2.2.2.2.1, H.1.2.2.2.1.1]
  refine ⟨H.1.2.2.2.1.2.1, ?_⟩
  rw [(H.1.2.2.2.1.2.2.1 6 (by decide)).1]
  exact ⟨H.1.2.2.2.1.2.2.2.1 6 (by decide), by rw [(H.1.2.2.2.1.2.2.1 6 (by decide)).2]; exact vp_in_nI (by have := H.2.2.2.2; omega) (by decide), hf⟩
theorem gS7 {x : Nat} (hx : x < c) {f : Nat → Prop} (hf : f (S + 8)) : onR (tR t M 10) (fun a => tK t a = 15 ∧ onR (tR t a 7) (fun b => tK t b = 101 ∧ vp_in (nI x) (tL t b) ∧ f b)) := by
  rw [h.1.2.2.1, h.1.2.2.2.1, h.1.2.2.2.2.1, H.1.2.2.2.1.1]
  refine ⟨H.1.2.2.2.1.2.1, ?_⟩
  rw [(H.1.2.2.2.1.2.2.1 7 (by decide)).1]
  exact ⟨H.1.2.2.2.1.2.2.2.1 7 (by decide), by rw [(H.1.2.2.2.1.2.2.1 7 (by decide)).2]; exact vp_in_nI (by have := H.2.2.2.2; omega) (by decide), hf⟩
theorem gS8 {x : Nat} (hx : x < c) {f : Nat → Prop} (hf : f (S + 9)) : onR (tR t M 10) (fun a => tK t a = 15 ∧ onR (tR t a 8) (fun b => tK t b = 101 ∧ vp_in (nI x) (tL t b) ∧ f b)) := by
  rw [h.1.2.2.1, h.1.2.2.2.1, h.1.2.2.2.2.1, H.1.2.2.2.1.1]
  refine ⟨H.1.2.2.2.1.2.1, ?_⟩
  rw [(H.1.2.2.2.1.2.2.1 8 (by decide)).1]
  exact ⟨H.1.2.2.2.1.2.2.2.1 8 (by decide), by rw [(H.1.2.2.2.1.2.2.1 8 (by decide)).2]; exact vp_in_nI (by have := H.2.2.2.2; omega) (by decide), hf⟩
theorem gS9 {x : Nat} (hx : x < c) {f : Nat → Prop} (hf : f (S + 10)) : onR (tR t M 10) (fun a => tK t a = 15 ∧ onR (tR t a 9) (fun b => tK t b = 101 ∧ vp_in (nI x) (tL t b) ∧ f b)) := by
  rw [h.1.2.2.1, h.1.2.2.2.1, h.1.2.2.2.2.1, H.1.2.2.2.1.1]
  refine ⟨H.1.2.2.2.1.2.1, ?_⟩
  rw [(H.1.2.2.2.1.2.2.1 9 (by decide)).1]
  exact ⟨H.1.2.2.2.1.2.2.2.1 9 (by decide), by rw [(H.1.2.2.2.1.2.2.1 9 (by decide)).2]; exact vp_in_nI (by have := H.2.2.2.2; omega) (by decide), hf⟩
theorem gS10 {x : Nat} (hx : x < c) {f : Nat → Prop} (hf : f (S + 11)) : onR (tR t M 10) (fun a => tK t a = 15 ∧ onR (tR t a 10) (fun b => tK t b = 101 ∧ vp_in (nI x) (tL t b) ∧ f b)) := by
  rw [h.1.2.2.1, h.1.2.2.2.1, h.1.2.2.2.2.1, H.1.2.2.2.1.1]
  refine ⟨H.1.2.2.2.1.2.1, ?_⟩
  rw [(H.1.2.2.2.1.2.2.1 10 (by decide)).1]
  exact ⟨H.1.2.2.2.1.2.2.2.1 10 (by decide), by rw [(H.1.2.2.2.1.2.2.1 10 (by decide)).2]; exact vp_in_nI (by have := H.2.2.2.2; omega) (by decide), hf⟩
theorem gS11 {x : Nat} (hx : x < c) {f : Nat → Prop} (hf : f (S + 12)) : onR (tR t M 10) (fun a => tK t a = 15 ∧ onR (tR t a 11) (fun b => tK t b = 102 ∧ vp_in (nI x) (tL t b) ∧ f b)) := by
  rw [h.1.2.2.1, h.1.2.2.2.1, h.1.2.2.2.2.1, H.1.2.2.2.1.1]
  refine ⟨H.1.2.2.2.1.2.1, ?_⟩
  rw [(H.1.2.2.2.1.2.2.1 11 (by decide)).1]
  exact ⟨H.1.2.2.2.1.2.2.2.2, by rw [(H.1.2.2.2.1.2.2.1 11 (by decide)).2]; exact vp_in_nI (by have := H.2.2.2.2; omega) (by decide), hf⟩
theorem gL {x : Nat} (hx : x < 36000) {f : Nat → Prop} (hf : f (M + 49)) : onR (tR t M 26) (fun b => tK t b = 101 ∧ vp_in (nI x) (tL t b) ∧ f b) := by
  rw [h.1.2.2.1, h.1.2.2.2.1, h.1.2.2.2.2.1, H.1.2.2.2.2.2.1.1]
  exact ⟨H.1.2.2.2.2.2.1.2.1, by rw [H.1.2.2.2.2.2.1.2.2]; exact vp_in_nI hx (by decide), hf⟩
theorem gC {x : Nat} (hx : x < 4800) {f : Nat → Prop} (hf : f (M + 3)) : onR (tR t M 6) (fun b => tK t b = 101 ∧ vp_in (nI x) (tL t b) ∧ f b) := by
  rw [h.1.2.2.1, h.1.2.2.2.1, h.1.2.2.2.2.1, H.1.2.2.1.1]
  exact ⟨H.1.2.2.1.2.1, by rw [H.1.2.2.1.2.2]; exact vp_in_nI hx (by decide), hf⟩
theorem rP {k x : Nat} (hk : k ≤ 8) (hx : x < 2400) : tI t (P + k) (nI x).toNatClampNeg = tI t0 (P + k) x := by
  have := H.1.2.2.2.2.2.2.2
  rw [nI_clamp (by omega)]
  exact h.1.2.2.2.2.2.2 _ _ (Or.inl (by omega)) (Or.inl (by omega)) (by omega)
theorem rPJ {k x : Nat} (hk : k ≤ 8) (hx : x < 2400) : tJ t (P + k) (nI x).toNatClampNeg = tJ t0 (P + k) x := by
  have := H.1.2.2.2.2.2.2.2
  rw [nI_clamp (by omega)]
  exact h.1.2.2.2.2.2.1 _ _ (Or.inl (by omega))
theorem rS {k x : Nat} (hk : k ≤ 12) (hx : x < c) : tI t (S + k) (nI x).toNatClampNeg = tI t0 (S + k) x := by
  have := H.1.2.2.2.2.2.2.1
  have := H.2.2.2.2
  rw [nI_clamp (by omega)]
  exact h.1.2.2.2.2.2.2 _ _ (Or.inl (by omega)) (Or.inl (by omega)) (by omega)
theorem rSJ {k x : Nat} (hk : k ≤ 12) (hx : x < c) : tJ t (S + k) (nI x).toNatClampNeg = tJ t0 (S + k) x := by
  have := H.1.2.2.2.2.2.2.1
  have := H.2.2.2.2
  rw [nI_clamp (by omega)]
  exact h.1.2.2.2.2.2.1 _ _ (Or.inl (by omega))
/-- look -/
theorem m214 (k1 : loE lk = .inl ((), lk + 1) → FS t0 M (sI t M 23 (nI (lk + 1))) (lk + 1) → Post (.inl none) (sI t M 23 (nI (lk + 1)))) (k2 : ∀ e, loE lk = .inr e → ∀ t', ME t0 M t' e → Post (.inr (16, M + 1)) t') : CalG C mtab (d + 2) 214 [svR (some M)] t Post := by
  have hK := k17 H h
  refine cal214 ?_
  unfold vc214
  rw [h.2.1]
  refine ⟨hK, fun e => ?_, fun e => ?_⟩
  · have e' : lk = 60000 := (nI_eq (b := 60000) (by have := h.2.2; omega) (by decide)).mp e
    have hl : loE lk = .inr (-3, lk) := by unfold loE; rw [if_pos (by omega)]
    have hs : tK t (M + 1) = 16 := by rw [h.1.2.2.1]; exact H.1.2.1.2
    refine ⟨hK, c153 hK (by rw [h.1.2.2.2.2.1]; exact H.1.2.1.1) hs ?_⟩
    exact ⟨hs, k2 _ hl _ ⟨(h.1.S (Or.inl rfl)).S (Or.inr rfl), by rw [sI_at (by omega), sI_eq]⟩⟩
  · have e' : lk ≠ 60000 := fun z => e (by rw [z]; rfl)
    have hl : loE lk = .inl ((), lk + 1) := by unfold loE; rw [if_neg (by have := h.2.2; omega)]
    rw [show nI lk + 1 = nI (lk + 1) from nI_add lk 1]
    exact ⟨hK, hK, k1 hl ⟨h.1.I (Or.inl rfl), sI_eq, by have := h.2.2; omega⟩⟩
/-- comes -/
theorem m215 {x : Nat} (hl : LsM M c t bs l) (hb : bs + 1000 ≤ 36000) (hx : x < c) (k1 : coE l x lk = .inl (l ++ [x], lk) → ∀ t', FS t0 M t' lk → LK M (bs + l.length) t t' → LsM M c t' bs (l ++ [x]) → Post (.inl none) t') (k2 : ∀ e, coE l x lk = .inr e → ∀ t', ME t0 M t' e → Post (.inr (16, M + 1)) t') : CalG C mtab (d + 2) 215 [svR (some M), svI (nI x)] t Post := by
  have hK := k17 H h
  have hc := H.2.2.2.2
  obtain ⟨l1, l2, l3, l4, l5⟩ := hl
  refine cal215 ?_
  unfold vc215
  rw [l1, l2]
  refine ⟨hK, fun e => ?_, fun e => ?_⟩
  · have e' : l.length = 1000 := (nI_eq (b := 1000) (by omega) (by decide)).mp e
    have hl : coE l x lk = .inr (-4, lk) := by unfold coE; rw [if_pos (by omega)]
    have hs : tK t (M + 1) = 16 := by rw [h.1.2.2.1]; exact H.1.2.1.2
    refine ⟨hK, c153 hK (by rw [h.1.2.2.2.2.1]; exact H.1.2.1.1) hs ?_⟩
    exact ⟨hs, k2 _ hl _ ⟨(h.1.S (Or.inl rfl)).S (Or.inr rfl), by rw [sI_at (by omega), sI_eq]⟩⟩
  · have e' : l.length ≠ 1000 := fun z => e (by rw [z]; rfl)
    have hl : coE l x lk = .inl (l ++ [x], lk) := by unfold coE; rw [if_neg (by omega)]
    rw [nI_add]
    refine ⟨hK, hK, hK, gL H h (by omega) ?_⟩
    rw [nI_clamp (by omega), sI_at (by omega), l2, show nI l.length + 1 = nI (l.length + 1) from nI_add _ 1]
    refine ⟨hK, hK, k1 hl _ ((h.L).I (by decide)) ?_ ⟨?_, ?_, ?_, fun k hk => ?_, fun y hy => ?_⟩⟩
    · exact (LK.L (Nat.le_refl _)).trans LK.I (Nat.le_refl _)
    · rw [sI_at (by omega), sI_at (by omega)]; exact l1
    · rw [sI_eq, List.length_append]; rfl
    · rw [List.length_append]; show l.length + 1 ≤ 1000; omega
    · rw [sI_at (by omega)]
      rw [List.length_append] at hk
      have hk' : k < l.length + 1 := hk
      by_cases e : k = l.length
      · rw [e, sI_eq]; simp
      · rw [sI_at (by omega), l4 k (by omega)]
        simp [List.getElem?_append_left (show k < l.length by omega)]
    · rcases List.mem_append.mp hy with hy | hy
      · exact l5 y hy
      · rw [List.mem_singleton.mp hy]; exact hx
end RDS
end RFD
