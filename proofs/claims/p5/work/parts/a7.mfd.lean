/-! THE REFERENCE'S FIND: what stands while it looks (t0: the heap before), and its small steps -/
/-- the model's shape: rows at S, parts at P -/
def FSh (t : Ht) (M S P : Nat) : Prop := tK t M = 17 ∧ (tR t M 1 = some (M + 1) ∧ tK t (M + 1) = 16) ∧ (tR t M 6 = some (M + 3) ∧ tK t (M + 3) = 101 ∧ tL t (M + 3) = 4800) ∧
  (tR t M 10 = some S ∧ tK t S = 15 ∧ (∀ k, k < 12 → tR t S k = some (S + 1 + k) ∧ tL t (S + 1 + k) = 300) ∧ (∀ k, k < 11 → tK t (S + 1 + k) = 101) ∧ tK t (S + 12) = 102) ∧
  (tR t M 16 = some P ∧ tK t P = 14 ∧ (∀ k, k < 8 → tR t P k = some (P + 1 + k) ∧ tL t (P + 1 + k) = 2400) ∧ (∀ k, k < 5 → tK t (P + 1 + k) = 101) ∧ (∀ k, k < 3 → tK t (P + 6 + k) = 102)) ∧
  (tR t M 26 = some (M + 49) ∧ tK t (M + 49) = 101 ∧ tL t (M + 49) = 36000) ∧ (S = M + 4 ∨ S = M + 17) ∧ (P = M + 30 ∨ P = M + 39)
def G0 (t0 : Ht) (M S P : Nat) (V : VT) (c : Nat) : Prop := FSh t0 M S P ∧ RT t0 S (M + 3) V c 0 1200 ∧ (∀ i, i < c → NIv V i ∧ eL (V i) < c ∧ 1 ≤ eD (V i)) ∧ 0 < c ∧ c ≤ 300
/-- what find may change -/
def MF (M : Nat) (t t' : Ht) : Prop := tN t' = tN t ∧ tU t' = tU t ∧ tK t' = tK t ∧ tL t' = tL t ∧ tR t' = tR t ∧ (∀ x k, (x ≠ M ∨ k ≠ 33) → tJ t' x k = tJ t x k) ∧
  (∀ x k, (x ≠ M ∨ k < 23 ∨ k = 24 ∨ 33 ≤ k) → (x ≠ M + 1 ∨ (k ≠ 6 ∧ k ≠ 7)) → x ≠ M + 49 → tI t' x k = tI t x k)
def GS (t0 : Ht) (M : Nat) (t : Ht) (lk : Nat) : Prop := MF M t0 t ∧ tI t M 23 = nI lk ∧ lk ≤ 60000
def VLg (t0 : Ht) (M : Nat) (V : VT) (c : Nat) (a : Vl) (k : Int32) (i : Int64) (s n w : Int32) : Prop :=
  (∀ j, a = .inl j → j < c) ∧ k = nI (kdV V a) ∧ kdV V a < 7 ∧ (kdV V a = 3 → i = inV V a) ∧ (kdV V a = 4 → okC (chV V a) ∧ ∃ p, s = nI p ∧ n = nI (chV V a).length ∧ CH t0 (M + 3) p (chV V a) 0 2400) ∧ (5 ≤ kdV V a → ∃ j, a = .inl j ∧ w = nI j ∧ n = nI (knV V a).length)
def VLh (t0 : Ht) (M : Nat) (V : VT) (c : Nat) (o : Option Vl) (k : Int32) (i : Int64) (s n w : Int32) : Prop := (o = none ∧ k = -1) ∨ ∃ a, o = some a ∧ VLg t0 M V c a k i s n w
def VLs (t0 : Ht) (M : Nat) (V : VT) (c : Nat) (t : Ht) (o : Option Vl) : Prop := VLh t0 M V c o (tI t M 29) (tJ t M 33) (tI t M 30) (tI t M 31) (tI t M 32)
/-- what is at hand is a value of the table, a literal or nothing -/
def CVm (t0 : Ht) (M : Nat) (V : VT) (c : Nat) (t : Ht) : Prop := ∃ o, VLs t0 M V c t o
/-- the lists are the same below K, what is at hand stays a value -/
def LK (t0 : Ht) (V : VT) (c M K : Nat) (t t' : Ht) : Prop := (∀ k, k < K → tI t' (M + 49) k = tI t (M + 49) k) ∧ (CVm t0 M V c t → CVm t0 M V c t')
/-- the list under way -/
def LsM (M c : Nat) (t : Ht) (bs : Nat) (l : List Nat) : Prop := tI t M 27 = nI bs ∧ tI t M 28 = nI l.length ∧ l.length ≤ 1000 ∧ (∀ k, k < l.length → tI t (M + 49) (bs + k) = nI (l.getD k 0)) ∧ ∀ x ∈ l, x < c
section RFD
variable {C : Cx} {d : Nat} {Post : OutT → Ht → Prop} {t0 t t' t2 : Ht} {M S P : Nat} {V : VT} {c lk lk' : Nat} {l l' : List Nat} {bs : Nat}
theorem MF.rfl' : MF M t t := ⟨rfl, rfl, rfl, rfl, rfl, fun _ _ _ => rfl, fun _ _ _ _ _ => rfl⟩
theorem MF.trans (h : MF M t t') (g : MF M t' t2) : MF M t t2 := by
  obtain ⟨h1, h2, h3, h4, h5, h6, h7⟩ := h
  obtain ⟨g1, g2, g3, g4, g5, g6, g7⟩ := g
  exact ⟨g1.trans h1, g2.trans h2, g3.trans h3, g4.trans h4, g5.trans h5, fun x k z => (g6 x k z).trans (h6 x k z), fun x k z1 z2 z3 => (g7 x k z1 z2 z3).trans (h7 x k z1 z2 z3)⟩
theorem MF.I {k : Nat} {v : Int32} (h : MF M t0 t) (hk : k = 23 ∨ (25 ≤ k ∧ k ≤ 32)) : MF M t0 (sI t M k v) := by
  refine h.trans ⟨rfl, rfl, rfl, rfl, rfl, fun _ _ _ => rfl, fun x j z1 z2 z3 => sI_at ?_⟩
  rintro ⟨rfl, rfl⟩; omega
theorem MF.J {v : Int64} (h : MF M t0 t) : MF M t0 (sJ t M 33 v) := by
  refine h.trans ⟨rfl, rfl, rfl, rfl, rfl, fun x k z => sJ_at ?_, fun x j z1 z2 z3 => rfl⟩
  rintro ⟨rfl, rfl⟩; omega
theorem MF.L {k : Nat} {v : Int32} (h : MF M t0 t) : MF M t0 (sI t (M + 49) k v) := by
  refine h.trans ⟨rfl, rfl, rfl, rfl, rfl, fun _ _ _ => rfl, fun x j z1 z2 z3 => sI_at ?_⟩
  rintro ⟨rfl, rfl⟩; exact z3 rfl
theorem MF.T {k : Nat} {v : Int32} (h : MF M t0 t) (hk : k = 6 ∨ k = 7) : MF M t0 (sI t (M + 1) k v) := by
  refine h.trans ⟨rfl, rfl, rfl, rfl, rfl, fun _ _ _ => rfl, fun x j z1 z2 z3 => sI_at ?_⟩
  rintro ⟨rfl, rfl⟩; omega
theorem GS.I {k : Nat} {v : Int32} (h : GS t0 M t lk) (hk : 25 ≤ k ∧ k ≤ 32) : GS t0 M (sI t M k v) lk := ⟨h.1.I (Or.inr hk), (sI_at (by omega)).trans h.2.1, h.2.2⟩
theorem GS.J {v : Int64} (h : GS t0 M t lk) : GS t0 M (sJ t M 33 v) lk := ⟨h.1.J, h.2.1, h.2.2⟩
theorem GS.L {k : Nat} {v : Int32} (h : GS t0 M t lk) : GS t0 M (sI t (M + 49) k v) lk := ⟨h.1.L, (sI_at (by omega)).trans h.2.1, h.2.2⟩
theorem CVm.eq (h : CVm t0 M V c t) (h1 : ∀ k, 29 ≤ k → k ≤ 32 → tI t' M k = tI t M k) (h2 : tJ t' M 33 = tJ t M 33) : CVm t0 M V c t' := by
  obtain ⟨o, h⟩ := h
  refine ⟨o, ?_⟩
  unfold VLs at h ⊢
  rw [h1 29 (by decide) (by decide), h1 30 (by decide) (by decide), h1 31 (by decide) (by decide), h1 32 (by decide) (by decide), h2]
  exact h
theorem LK.rfl' {K : Nat} : LK t0 V c M K t t := ⟨fun _ _ => rfl, fun h => h⟩
theorem LK.trans {K K' : Nat} (h : LK t0 V c M K t t') (g : LK t0 V c M K' t' t2) (hk : K ≤ K') : LK t0 V c M K t t2 := ⟨fun k z => (g.1 k (by omega)).trans (h.1 k z), fun z => g.2 (h.2 z)⟩
theorem LK.le {K K' : Nat} (h : LK t0 V c M K t t') (hk : K' ≤ K) : LK t0 V c M K' t t' := ⟨fun k z => h.1 k (by omega), h.2⟩
theorem LK.I {K k : Nat} {v : Int32} (hk : k < 29 := by decide) : LK t0 V c M K t (sI t M k v) := ⟨fun j _ => sI_at (by omega), fun h => h.eq (fun j h1 h2 => sI_at (by omega)) rfl⟩
theorem LK.L {K k : Nat} {v : Int32} (h : K ≤ k) : LK t0 V c M K t (sI t (M + 49) k v) := ⟨fun j hj => sI_at (by omega), fun h => h.eq (fun j h1 h2 => sI_at (by omega)) rfl⟩
section RDS
theorem kM (H : G0 t0 M S P V c) (h : GS t0 M t lk) : tK t M = 17 := by rw [h.1.2.2.1]; exact H.1.1

theorem gP0 (H : G0 t0 M S P V c) (h : GS t0 M t lk) {x : Nat} (hx : x < 2400) {f : Nat → Prop} (hf : f (P + 1)) : onR (tR t M 16) (fun a => tK t a = 14 ∧ onR (tR t a 0) (fun b => tK t b = 101 ∧ vp_in (nI x) (tL t b) ∧ f b)) := by
  rw [h.1.2.2.1, h.1.2.2.2.1, h.1.2.2.2.2.1, H.1.2.2.2.2.1.1]
  refine ⟨H.1.2.2.2.2.1.2.1, ?_⟩
  rw [(H.1.2.2.2.2.1.2.2.1 0 (by decide)).1]
  exact ⟨H.1.2.2.2.2.1.2.2.2.1 0 (by decide), by rw [(H.1.2.2.2.2.1.2.2.1 0 (by decide)).2]; exact vp_in_nI hx (by decide), hf⟩
theorem gP1 (H : G0 t0 M S P V c) (h : GS t0 M t lk) {x : Nat} (hx : x < 2400) {f : Nat → Prop} (hf : f (P + 2)) : onR (tR t M 16) (fun a => tK t a = 14 ∧ onR (tR t a 1) (fun b => tK t b = 101 ∧ vp_in (nI x) (tL t b) ∧ f b)) := by
  rw [h.1.2.2.1, h.1.2.2.2.1, h.1.2.2.2.2.1, H.1.2.2.2.2.1.1]
  refine ⟨H.1.2.2.2.2.1.2.1, ?_⟩
  rw [(H.1.2.2.2.2.1.2.2.1 1 (by decide)).1]
  exact ⟨H.1.2.2.2.2.1.2.2.2.1 1 (by decide), by rw [(H.1.2.2.2.2.1.2.2.1 1 (by decide)).2]; exact vp_in_nI hx (by decide), hf⟩
theorem gP2 (H : G0 t0 M S P V c) (h : GS t0 M t lk) {x : Nat} (hx : x < 2400) {f : Nat → Prop} (hf : f (P + 3)) : onR (tR t M 16) (fun a => tK t a = 14 ∧ onR (tR t a 2) (fun b => tK t b = 101 ∧ vp_in (nI x) (tL t b) ∧ f b)) := by
  rw [h.1.2.2.1, h.1.2.2.2.1, h.1.2.2.2.2.1, H.1.2.2.2.2.1.1]
  refine ⟨H.1.2.2.2.2.1.2.1, ?_⟩
  rw [(H.1.2.2.2.2.1.2.2.1 2 (by decide)).1]
  exact ⟨H.1.2.2.2.2.1.2.2.2.1 2 (by decide), by rw [(H.1.2.2.2.2.1.2.2.1 2 (by decide)).2]; exact vp_in_nI hx (by decide), hf⟩
theorem gP3 (H : G0 t0 M S P V c) (h : GS t0 M t lk) {x : Nat} (hx : x < 2400) {f : Nat → Prop} (hf : f (P + 4)) : onR (tR t M 16) (fun a => tK t a = 14 ∧ onR (tR t a 3) (fun b => tK t b = 101 ∧ vp_in (nI x) (tL t b) ∧ f b)) := by
  rw [h.1.2.2.1, h.1.2.2.2.1, h.1.2.2.2.2.1, H.1.2.2.2.2.1.1]
  refine ⟨H.1.2.2.2.2.1.2.1, ?_⟩
  rw [(H.1.2.2.2.2.1.2.2.1 3 (by decide)).1]
  exact ⟨H.1.2.2.2.2.1.2.2.2.1 3 (by decide), by rw [(H.1.2.2.2.2.1.2.2.1 3 (by decide)).2]; exact vp_in_nI hx (by decide), hf⟩
theorem gP4 (H : G0 t0 M S P V c) (h : GS t0 M t lk) {x : Nat} (hx : x < 2400) {f : Nat → Prop} (hf : f (P + 5)) : onR (tR t M 16) (fun a => tK t a = 14 ∧ onR (tR t a 4) (fun b => tK t b = 101 ∧ vp_in (nI x) (tL t b) ∧ f b)) := by
  rw [h.1.2.2.1, h.1.2.2.2.1, h.1.2.2.2.2.1, H.1.2.2.2.2.1.1]
  refine ⟨H.1.2.2.2.2.1.2.1, ?_⟩
  rw [(H.1.2.2.2.2.1.2.2.1 4 (by decide)).1]
  exact ⟨H.1.2.2.2.2.1.2.2.2.1 4 (by decide), by rw [(H.1.2.2.2.2.1.2.2.1 4 (by decide)).2]; exact vp_in_nI hx (by decide), hf⟩
theorem gP5 (H : G0 t0 M S P V c) (h : GS t0 M t lk) {x : Nat} (hx : x < 2400) {f : Nat → Prop} (hf : f (P + 6)) : onR (tR t M 16) (fun a => tK t a = 14 ∧ onR (tR t a 5) (fun b => tK t b = 102 ∧ vp_in (nI x) (tL t b) ∧ f b)) := by
  rw [h.1.2.2.1, h.1.2.2.2.1, h.1.2.2.2.2.1, H.1.2.2.2.2.1.1]
  refine ⟨H.1.2.2.2.2.1.2.1, ?_⟩
  rw [(H.1.2.2.2.2.1.2.2.1 5 (by decide)).1]
  exact ⟨H.1.2.2.2.2.1.2.2.2.2 0 (by decide), by rw [(H.1.2.2.2.2.1.2.2.1 5 (by decide)).2]; exact vp_in_nI hx (by decide), hf⟩
theorem gP6 (H : G0 t0 M S P V c) (h : GS t0 M t lk) {x : Nat} (hx : x < 2400) {f : Nat → Prop} (hf : f (P + 7)) : onR (tR t M 16) (fun a => tK t a = 14 ∧ onR (tR t a 6) (fun b => tK t b = 102 ∧ vp_in (nI x) (tL t b) ∧ f b)) := by
  rw [h.1.2.2.1, h.1.2.2.2.1, h.1.2.2.2.2.1, H.1.2.2.2.2.1.1]
  refine ⟨H.1.2.2.2.2.1.2.1, ?_⟩
  rw [(H.1.2.2.2.2.1.2.2.1 6 (by decide)).1]
  exact ⟨H.1.2.2.2.2.1.2.2.2.2 1 (by decide), by rw [(H.1.2.2.2.2.1.2.2.1 6 (by decide)).2]; exact vp_in_nI hx (by decide), hf⟩
theorem gP7 (H : G0 t0 M S P V c) (h : GS t0 M t lk) {x : Nat} (hx : x < 2400) {f : Nat → Prop} (hf : f (P + 8)) : onR (tR t M 16) (fun a => tK t a = 14 ∧ onR (tR t a 7) (fun b => tK t b = 102 ∧ vp_in (nI x) (tL t b) ∧ f b)) := by
  rw [h.1.2.2.1, h.1.2.2.2.1, h.1.2.2.2.2.1, H.1.2.2.2.2.1.1]
  refine ⟨H.1.2.2.2.2.1.2.1, ?_⟩
  rw [(H.1.2.2.2.2.1.2.2.1 7 (by decide)).1]
  exact ⟨H.1.2.2.2.2.1.2.2.2.2 2 (by decide), by rw [(H.1.2.2.2.2.1.2.2.1 7 (by decide)).2]; exact vp_in_nI hx (by decide), hf⟩
theorem gS0 (H : G0 t0 M S P V c) (h : GS t0 M t lk) {x : Nat} (hx : x < c) {f : Nat → Prop} (hf : f (S + 1)) : onR (tR t M 10) (fun a => tK t a = 15 ∧ onR (tR t a 0) (fun b => tK t b = 101 ∧ vp_in (nI x) (tL t b) ∧ f b)) := by
  rw [h.1.2.2.1, h.1.2.2.2.1, h.1.2.2.2.2.1, H.1.2.2.2.1.1]
  refine ⟨H.1.2.2.2.1.2.1, ?_⟩
  rw [(H.1.2.2.2.1.2.2.1 0 (by decide)).1]
  exact ⟨H.1.2.2.2.1.2.2.2.1 0 (by decide), by rw [(H.1.2.2.2.1.2.2.1 0 (by decide)).2]; exact vp_in_nI (by have := H.2.2.2.2; omega) (by decide), hf⟩
theorem gS1 (H : G0 t0 M S P V c) (h : GS t0 M t lk) {x : Nat} (hx : x < c) {f : Nat → Prop} (hf : f (S + 2)) : onR (tR t M 10) (fun a => tK t a = 15 ∧ onR (tR t a 1) (fun b => tK t b = 101 ∧ vp_in (nI x) (tL t b) ∧ f b)) := by
  rw [h.1.2.2.1, h.1.2.2.2.1, h.1.2.2.2.2.1, H.1.2.2.2.1.1]
  refine ⟨H.1.2.2.2.1.2.1, ?_⟩
  rw [(H.1.2.2.2.1.2.2.1 1 (by decide)).1]
  exact ⟨H.1.2.2.2.1.2.2.2.1 1 (by decide), by rw [(H.1.2.2.2.1.2.2.1 1 (by decide)).2]; exact vp_in_nI (by have := H.2.2.2.2; omega) (by decide), hf⟩
theorem gS2 (H : G0 t0 M S P V c) (h : GS t0 M t lk) {x : Nat} (hx : x < c) {f : Nat → Prop} (hf : f (S + 3)) : onR (tR t M 10) (fun a => tK t a = 15 ∧ onR (tR t a 2) (fun b => tK t b = 101 ∧ vp_in (nI x) (tL t b) ∧ f b)) := by
  rw [h.1.2.2.1, h.1.2.2.2.1, h.1.2.2.2.2.1, H.1.2.2.2.1.1]
  refine ⟨H.1.2.2.2.1.2.1, ?_⟩
  rw [(H.1.2.2.2.1.2.2.1 2 (by decide)).1]
  exact ⟨H.1.2.2.2.1.2.2.2.1 2 (by decide), by rw [(H.1.2.2.2.1.2.2.1 2 (by decide)).2]; exact vp_in_nI (by have := H.2.2.2.2; omega) (by decide), hf⟩
theorem gS3 (H : G0 t0 M S P V c) (h : GS t0 M t lk) {x : Nat} (hx : x < c) {f : Nat → Prop} (hf : f (S + 4)) : onR (tR t M 10) (fun a => tK t a = 15 ∧ onR (tR t a 3) (fun b => tK t b = 101 ∧ vp_in (nI x) (tL t b) ∧ f b)) := by
  rw [h.1.2.2.1, h.1.2.2.2.1, h.1.2.2.2.2.1, H.1.2.2.2.1.1]
  refine ⟨H.1.2.2.2.1.2.1, ?_⟩
  rw [(H.1.2.2.2.1.2.2.1 3 (by decide)).1]
  exact ⟨H.1.2.2.2.1.2.2.2.1 3 (by decide), by rw [(H.1.2.2.2.1.2.2.1 3 (by decide)).2]; exact vp_in_nI (by have := H.2.2.2.2; omega) (by decide), hf⟩
theorem gS4 (H : G0 t0 M S P V c) (h : GS t0 M t lk) {x : Nat} (hx : x < c) {f : Nat → Prop} (hf : f (S + 5)) : onR (tR t M 10) (fun a => tK t a = 15 ∧ onR (tR t a 4) (fun b => tK t b = 101 ∧ vp_in (nI x) (tL t b) ∧ f b)) := by
  rw [h.1.2.2.1, h.1.2.2.2.1, h.1.2.2.2.2.1, H.1.2.2.2.1.1]
  refine ⟨H.1.2.2.2.1.2.1, ?_⟩
  rw [(H.1.2.2.2.1.2.2.1 4 (by decide)).1]
  exact ⟨H.1.2.2.2.1.2.2.2.1 4 (by decide), by rw [(H.1.2.2.2.1.2.2.1 4 (by decide)).2]; exact vp_in_nI (by have := H.2.2.2.2; omega) (by decide), hf⟩
theorem gS5 (H : G0 t0 M S P V c) (h : GS t0 M t lk) {x : Nat} (hx : x < c) {f : Nat → Prop} (hf : f (S + 6)) : onR (tR t M 10) (fun a => tK t a = 15 ∧ onR (tR t a 5) (fun b => tK t b = 101 ∧ vp_in (nI x) (tL t b) ∧ f b)) := by
  rw [h.1.2.2.1, h.1.2.2.2.1, h.1.2.2.2.2.1, H.1.2.2.2.1.1]
  refine ⟨H.1.2.2.2.1.2.1, ?_⟩
  rw [(H.1.2.2.2.1.2.2.1 5 (by decide)).1]
  exact ⟨H.1.2.2.2.1.2.2.2.1 5 (by decide), by rw [(H.1.2.2.2.1.2.2.1 5 (by decide)).2]; exact vp_in_nI (by have := H.2.2.2.2; omega) (by decide), hf⟩
theorem gS6 (H : G0 t0 M S P V c) (h : GS t0 M t lk) {x : Nat} (hx : x < c) {f : Nat → Prop} (hf : f (S + 7)) : onR (tR t M 10) (fun a => tK t a = 15 ∧ onR (tR t a 6) (fun b => tK t b = 101 ∧ vp_in (nI x) (tL t b) ∧ f b)) := by
  rw [h.1.2.2.1, h.1.2.2.2.1, h.1.2.2.2.2.1, H.1.2.2.2.1.1]
  refine ⟨H.1.2.2.2.1.2.1, ?_⟩
  rw [(H.1.2.2.2.1.2.2.1 6 (by decide)).1]
  exact ⟨H.1.2.2.2.1.2.2.2.1 6 (by decide), by rw [(H.1.2.2.2.1.2.2.1 6 (by decide)).2]; exact vp_in_nI (by have := H.2.2.2.2; omega) (by decide), hf⟩
theorem gS7 (H : G0 t0 M S P V c) (h : GS t0 M t lk) {x : Nat} (hx : x < c) {f : Nat → Prop} (hf : f (S + 8)) : onR (tR t M 10) (fun a => tK t a = 15 ∧ onR (tR t a 7) (fun b => tK t b = 101 ∧ vp_in (nI x) (tL t b) ∧ f b)) := by
  rw [h.1.2.2.1, h.1.2.2.2.1, h.1.2.2.2.2.1, H.1.2.2.2.1.1]
  refine ⟨H.1.2.2.2.1.2.1, ?_⟩
  rw [(H.1.2.2.2.1.2.2.1 7 (by decide)).1]
  exact ⟨H.1.2.2.2.1.2.2.2.1 7 (by decide), by rw [(H.1.2.2.2.1.2.2.1 7 (by decide)).2]; exact vp_in_nI (by have := H.2.2.2.2; omega) (by decide), hf⟩
theorem gS8 (H : G0 t0 M S P V c) (h : GS t0 M t lk) {x : Nat} (hx : x < c) {f : Nat → Prop} (hf : f (S + 9)) : onR (tR t M 10) (fun a => tK t a = 15 ∧ onR (tR t a 8) (fun b => tK t b = 101 ∧ vp_in (nI x) (tL t b) ∧ f b)) := by
  rw [h.1.2.2.1, h.1.2.2.2.1, h.1.2.2.2.2.1, H.1.2.2.2.1.1]
  refine ⟨H.1.2.2.2.1.2.1, ?_⟩
  rw [(H.1.2.2.2.1.2.2.1 8 (by decide)).1]
  exact ⟨H.1.2.2.2.1.2.2.2.1 8 (by decide), by rw [(H.1.2.2.2.1.2.2.1 8 (by decide)).2]; exact vp_in_nI (by have := H.2.2.2.2; omega) (by decide), hf⟩
theorem gS9 (H : G0 t0 M S P V c) (h : GS t0 M t lk) {x : Nat} (hx : x < c) {f : Nat → Prop} (hf : f (S + 10)) : onR (tR t M 10) (fun a => tK t a = 15 ∧ onR (tR t a 9) (fun b => tK t b = 101 ∧ vp_in (nI x) (tL t b) ∧ f b)) := by
  rw [h.1.2.2.1, h.1.2.2.2.1, h.1.2.2.2.2.1, H.1.2.2.2.1.1]
  refine ⟨H.1.2.2.2.1.2.1, ?_⟩
  rw [(H.1.2.2.2.1.2.2.1 9 (by decide)).1]
  exact ⟨H.1.2.2.2.1.2.2.2.1 9 (by decide), by rw [(H.1.2.2.2.1.2.2.1 9 (by decide)).2]; exact vp_in_nI (by have := H.2.2.2.2; omega) (by decide), hf⟩
theorem gS10 (H : G0 t0 M S P V c) (h : GS t0 M t lk) {x : Nat} (hx : x < c) {f : Nat → Prop} (hf : f (S + 11)) : onR (tR t M 10) (fun a => tK t a = 15 ∧ onR (tR t a 10) (fun b => tK t b = 101 ∧ vp_in (nI x) (tL t b) ∧ f b)) := by
  rw [h.1.2.2.1, h.1.2.2.2.1, h.1.2.2.2.2.1, H.1.2.2.2.1.1]
  refine ⟨H.1.2.2.2.1.2.1, ?_⟩
  rw [(H.1.2.2.2.1.2.2.1 10 (by decide)).1]
  exact ⟨H.1.2.2.2.1.2.2.2.1 10 (by decide), by rw [(H.1.2.2.2.1.2.2.1 10 (by decide)).2]; exact vp_in_nI (by have := H.2.2.2.2; omega) (by decide), hf⟩
theorem gS11 (H : G0 t0 M S P V c) (h : GS t0 M t lk) {x : Nat} (hx : x < c) {f : Nat → Prop} (hf : f (S + 12)) : onR (tR t M 10) (fun a => tK t a = 15 ∧ onR (tR t a 11) (fun b => tK t b = 102 ∧ vp_in (nI x) (tL t b) ∧ f b)) := by
  rw [h.1.2.2.1, h.1.2.2.2.1, h.1.2.2.2.2.1, H.1.2.2.2.1.1]
  refine ⟨H.1.2.2.2.1.2.1, ?_⟩
  rw [(H.1.2.2.2.1.2.2.1 11 (by decide)).1]
  exact ⟨H.1.2.2.2.1.2.2.2.2, by rw [(H.1.2.2.2.1.2.2.1 11 (by decide)).2]; exact vp_in_nI (by have := H.2.2.2.2; omega) (by decide), hf⟩
theorem gL (H : G0 t0 M S P V c) (h : GS t0 M t lk) {x : Nat} (hx : x < 36000) {f : Nat → Prop} (hf : f (M + 49)) : onR (tR t M 26) (fun b => tK t b = 101 ∧ vp_in (nI x) (tL t b) ∧ f b) := by
  rw [h.1.2.2.1, h.1.2.2.2.1, h.1.2.2.2.2.1, H.1.2.2.2.2.2.1.1]
  exact ⟨H.1.2.2.2.2.2.1.2.1, by rw [H.1.2.2.2.2.2.1.2.2]; exact vp_in_nI hx (by decide), hf⟩
theorem gCh (H : G0 t0 M S P V c) (h : GS t0 M t lk) {x : Nat} (hx : x < 4800) {f : Nat → Prop} (hf : f (M + 3)) : onR (tR t M 6) (fun b => tK t b = 101 ∧ vp_in (nI x) (tL t b) ∧ f b) := by
  rw [h.1.2.2.1, h.1.2.2.2.1, h.1.2.2.2.2.1, H.1.2.2.1.1]
  exact ⟨H.1.2.2.1.2.1, by rw [H.1.2.2.1.2.2]; exact vp_in_nI hx (by decide), hf⟩
theorem rP (H : G0 t0 M S P V c) (h : GS t0 M t lk) {k x : Nat} (hk : k ≤ 8) (hx : x < 2400) : tI t (P + k) (nI x).toNatClampNeg = tI t0 (P + k) x := by
  have := H.1.2.2.2.2.2.2.2
  rw [nI_clamp (by omega)]
  exact h.1.2.2.2.2.2.2 _ _ (Or.inl (by omega)) (Or.inl (by omega)) (by omega)
theorem rPJ (H : G0 t0 M S P V c) (h : GS t0 M t lk) {k x : Nat} (hk : k ≤ 8) (hx : x < 2400) : tJ t (P + k) (nI x).toNatClampNeg = tJ t0 (P + k) x := by
  have := H.1.2.2.2.2.2.2.2
  rw [nI_clamp (by omega)]
  exact h.1.2.2.2.2.2.1 _ _ (Or.inl (by omega))
theorem rS (H : G0 t0 M S P V c) (h : GS t0 M t lk) {k x : Nat} (hk : k ≤ 12) (hx : x < c) : tI t (S + k) (nI x).toNatClampNeg = tI t0 (S + k) x := by
  have := H.1.2.2.2.2.2.2.1
  have := H.2.2.2.2
  rw [nI_clamp (by omega)]
  exact h.1.2.2.2.2.2.2 _ _ (Or.inl (by omega)) (Or.inl (by omega)) (by omega)
theorem rSJ (H : G0 t0 M S P V c) (h : GS t0 M t lk) {k x : Nat} (hk : k ≤ 12) (hx : x < c) : tJ t (S + k) (nI x).toNatClampNeg = tJ t0 (S + k) x := by
  have := H.1.2.2.2.2.2.2.1
  have := H.2.2.2.2
  rw [nI_clamp (by omega)]
  exact h.1.2.2.2.2.2.1 _ _ (Or.inl (by omega))
/-- look -/
theorem m214 (H : G0 t0 M S P V c) (h : GS t0 M t lk) (k1 : GS t0 M (sI t M 23 (nI (lk + 1))) (lk + 1) → Post (.inl none) (sI t M 23 (nI (lk + 1)))) (k2 : ∀ t', MF M t0 t' → Post (.inr (16, M + 1)) t') : CalG C mtab (d + 2) 214 [svR (some M)] t Post := by
  have hK := kM H h
  refine cal214 ?_
  unfold vc214
  rw [h.2.1]
  refine ⟨hK, fun e => ?_, fun e => ?_⟩
  · have hs : tK t (M + 1) = 16 := by rw [h.1.2.2.1]; exact H.1.2.1.2
    refine ⟨hK, c153 hK (by rw [h.1.2.2.2.2.1]; exact H.1.2.1.1) hs ?_⟩
    exact ⟨hs, k2 _ ((h.1.T (Or.inl rfl)).T (Or.inr rfl))⟩
  · have e' : lk ≠ 60000 := fun z => e (by rw [z]; rfl)
    rw [show nI lk + 1 = nI (lk + 1) from nI_add lk 1]
    exact ⟨hK, hK, k1 ⟨h.1.I (Or.inl rfl), sI_eq, by have := h.2.2; omega⟩⟩
/-- comes -/
theorem m215 (H : G0 t0 M S P V c) (h : GS t0 M t lk) {x : Nat} (hl : LsM M c t bs l) (hb : bs + 1000 ≤ 36000) (hx : x < c) (k1 : ∀ t', GS t0 M t' lk → LK t0 V c M (bs + l.length) t t' → LsM M c t' bs (l ++ [x]) → Post (.inl none) t') (k2 : ∀ t', MF M t0 t' → Post (.inr (16, M + 1)) t') : CalG C mtab (d + 2) 215 [svR (some M), svI (nI x)] t Post := by
  have hK := kM H h
  have hc := H.2.2.2.2
  obtain ⟨l1, l2, l3, l4, l5⟩ := hl
  refine cal215 ?_
  unfold vc215
  rw [l1, l2]
  refine ⟨hK, fun e => ?_, fun e => ?_⟩
  · have hs : tK t (M + 1) = 16 := by rw [h.1.2.2.1]; exact H.1.2.1.2
    refine ⟨hK, c153 hK (by rw [h.1.2.2.2.2.1]; exact H.1.2.1.1) hs ?_⟩
    exact ⟨hs, k2 _ ((h.1.T (Or.inl rfl)).T (Or.inr rfl))⟩
  · have e' : l.length ≠ 1000 := fun z => e (by rw [z]; rfl)
    rw [nI_add]
    refine ⟨hK, hK, hK, gL H h (by omega) ?_⟩
    rw [nI_clamp (by omega), sI_at (by omega), l2, show nI l.length + 1 = nI (l.length + 1) from nI_add _ 1]
    refine ⟨hK, hK, k1 _ ((h.L).I (by decide)) ?_ ⟨?_, ?_, ?_, fun k hk => ?_, fun y hy => ?_⟩⟩
    · exact (LK.L (Nat.le_refl _)).trans LK.I (Nat.le_refl _)
    · rw [sI_at (by omega), sI_at (by omega)]; exact l1
    · rw [sI_eq, List.length_append]; rfl
    · rw [List.length_append]; show l.length + 1 ≤ 1000; omega
    · rw [sI_at (by omega)]
      rw [List.length_append] at hk
      have hk' : k < l.length + 1 := hk
      by_cases e : k = l.length
      · rw [e, sI_eq]; simp
      · rw [sI_at (by omega), l4 k (by omega)]
        simp [List.getElem?_append_left (show k < l.length by omega)]
    · rcases List.mem_append.mp hy with hy | hy
      · exact l5 y hy
      · rw [List.mem_singleton.mp hy]; exact hx
end RDS
end RFD
