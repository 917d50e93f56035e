/-! THE REFERENCE'S TABLE OF A VALUE: rows at S, their arrays at S + 1 .. S + 12 -/
theorem onS {r : Option Nat} {a : Nat} {f : Nat → Prop} (h : r = some a) (k : f a) : onR r f := by rw [h]; exact k
/-- the shape: it stands under every write of a number -/
def MSh (t : Ht) (M S : Nat) : Prop := (S = M + 4 ∨ S = M + 17) ∧ tK t M = 17 ∧ tR t M 11 = some S ∧ tK t S = 15 ∧ (∀ k, k < 12 → tR t S k = some (S + 1 + k) ∧ tL t (S + 1 + k) = 300) ∧ (∀ k, k < 11 → tK t (S + 1 + k) = 101) ∧ tK t (S + 12) = 102
theorem MSh.eq {t t' : Ht} {M S : Nat} (h : MSh t M S) (h1 : tK t' = tK t) (h2 : tL t' = tL t) (h3 : tR t' = tR t) : MSh t' M S := by
  unfold MSh; rw [h1, h2, h3]; exact h
/-- characters cs at p of the buffer, between lo and hi -/
def CH (t : Ht) (ch p : Nat) (cs : List Nat) (lo hi : Nat) : Prop := lo ≤ p ∧ p + cs.length ≤ hi ∧ ∀ k, k < cs.length → tI t ch (p + k) = nI (cs.getD k 0)
theorem CH.eq {t t' : Ht} {ch p lo hi hi' : Nat} {cs : List Nat} (h : CH t ch p cs lo hi) (hh : hi ≤ hi') (hs : ∀ k, lo ≤ k → k < hi → tI t' ch k = tI t ch k) : CH t' ch p cs lo hi' := by
  refine ⟨h.1, by have := h.2.1; omega, fun k hk => ?_⟩
  rw [hs _ (by have := h.1; omega) (by have := h.2.1; omega)]
  exact h.2.2 k hk
def szE (e : Ent) : Nat := if eK e = 4 then (eC e).length else (eS e).length
def RE (t : Ht) (S ch : Nat) (V : VT) (c j lo hi : Nat) : Prop :=
  (tI t (S + 1) j = nI (eK (V j)) ∧ tI t (S + 2) j = oIx ((eS (V j))[0]?) ∧ tI t (S + 3) j = oIx ((eS (V j))[(eS (V j)).length - 1]?) ∧ tI t (S + 5) j = oIx (eU (V j)) ∧ tI t (S + 6) j = nI (szE (V j)) ∧ (∀ x, eX (V j) = some x → tI t (S + 7) j = nI x) ∧ tI t (S + 8) j = nI (eD (V j)) ∧ tJ t (S + 12) j = eJ (V j)) ∧
  ((eK (V j) = 4 → ∃ p, tI t (S + 9) j = nI p ∧ CH t ch p (eC (V j)) lo hi) ∧ (∀ cs, eN (V j) = some cs → ∃ p, tI t (S + 10) j = nI p ∧ tI t (S + 11) j = nI cs.length ∧ CH t ch p cs lo hi)) ∧
  (∀ i, i < (eS (V j)).length → tI t (S + 4) ((eS (V j)).getD i 0) = oIx ((eS (V j))[i + 1]?))
/-- the table's own form -/
def VQ (V : VT) (c j : Nat) : Prop := eK (V j) < 7 ∧ eD (V j) ≤ 30 ∧ (∀ k ∈ eS (V j), j < k ∧ k < c ∧ eU (V k) = some j) ∧ (∀ i i', i < i' → i' < (eS (V j)).length → (eS (V j)).getD i 0 < (eS (V j)).getD i' 0) ∧ okC (eC (V j)) ∧ (∀ cs, eN (V j) = some cs → okC cs) ∧ (eK (V j) < 5 → eS (V j) = []) ∧ (∀ p, eU (V j) = some p → p < j) ∧ (eK (V j) = 6 → ∀ k ∈ eS (V j), eN (V k) ≠ none)
def RT (t : Ht) (S ch : Nat) (V : VT) (c lo hi : Nat) : Prop := ∀ j, j < c → RE t S ch V c j lo hi ∧ VQ V c j
/-- the greatest depth -/
def mxD (V : VT) : Nat → Nat
  | 0 => 0
  | c + 1 => max (mxD V c) (eD (V c))
theorem mxD_eq {V V' : VT} : ∀ {c : Nat}, (∀ j, j < c → eD (V' j) = eD (V j)) → mxD V' c = mxD V c
  | 0, _ => rfl
  | c + 1, h => by rw [mxD, mxD, mxD_eq (c := c) (fun j hj => h j (by omega)), h c (by omega)]
theorem mxD_le {V : VT} : ∀ {c : Nat}, (∀ j, j < c → eD (V j) ≤ 30) → mxD V c ≤ 30
  | 0, _ => by rw [mxD]; omega
  | c + 1, h => by
    have h1 := mxD_le (V := V) (c := c) (fun j hj => h j (by omega))
    have h2 := h c (by omega)
    rw [mxD]; omega
/-- the kids' numbers in order -/
theorem kid_mem {l : List Nat} {i : Nat} (h : i < l.length) : l.getD i 0 ∈ l := by
  have : l.getD i 0 = l[i] := by simp [h]
  rw [this]; exact List.getElem_mem h
theorem kid_get {l : List Nat} {i : Nat} (h : i < l.length) : l[i]? = some (l.getD i 0) := by
  rw [List.getElem?_eq_getElem h]; simp [h]
/-- below c nothing has changed -/
def AG (S ch c q : Nat) (t t' : Ht) : Prop := (∀ k j, 1 ≤ k → k ≤ 11 → j < c → tI t' (S + k) j = tI t (S + k) j) ∧ (∀ j, j < c → tJ t' (S + 12) j = tJ t (S + 12) j) ∧ (∀ k, k < q → tI t' ch k = tI t ch k)
theorem AG.rfl' {S ch c q : Nat} {t : Ht} : AG S ch c q t t := ⟨fun _ _ _ _ _ => rfl, fun _ _ => rfl, fun _ _ => rfl⟩
theorem AG.trans {S ch c q c' q' : Nat} {t t1 t2 : Ht} (h : AG S ch c q t t1) (g : AG S ch c' q' t1 t2) (hc : c ≤ c') (hq : q ≤ q') : AG S ch c q t t2 :=
  ⟨fun k j h1 h2 h3 => (g.1 k j h1 h2 (by omega)).trans (h.1 k j h1 h2 h3), fun j hj => (g.2.1 j (by omega)).trans (h.2.1 j hj), fun k hk => (g.2.2 k (by omega)).trans (h.2.2 k hk)⟩
/-- what the reading of a value may change -/
def MZ (M S : Nat) (t t' : Ht) : Prop := tN t' = tN t ∧ tU t' = tU t ∧ tK t' = tK t ∧ tL t' = tL t ∧ tR t' = tR t ∧ (∀ x k, x ≠ S + 12 → (x ≠ M ∨ k ≠ 8) → tJ t' x k = tJ t x k) ∧
  (∀ x k, (x < S ∨ S + 11 < x) → (x ≠ M + 1 ∨ (k ≠ 6 ∧ k ≠ 7)) → (x ≠ M + 3 ∨ k < 2400) → (x ≠ M ∨ (k ≠ 5 ∧ k ≠ 7 ∧ k ≠ 9)) → tI t' x k = tI t x k)
theorem MZ.rfl' {M S : Nat} {t : Ht} : MZ M S t t := ⟨rfl, rfl, rfl, rfl, rfl, fun _ _ _ _ => rfl, fun _ _ _ _ _ _ => rfl⟩
theorem MZ.trans {M S : Nat} {t t1 t2 : Ht} (h : MZ M S t t1) (g : MZ M S t1 t2) : MZ M S t t2 := by
  obtain ⟨h1, h2, h3, h4, h5, h6, h7⟩ := h
  obtain ⟨g1, g2, g3, g4, g5, g6, g7⟩ := g
  exact ⟨g1.trans h1, g2.trans h2, g3.trans h3, g4.trans h4, g5.trans h5, fun x k z1 z2 => (g6 x k z1 z2).trans (h6 x k z1 z2), fun x k z1 z2 z3 z4 => (g7 x k z1 z2 z3 z4).trans (h7 x k z1 z2 z3 z4)⟩
theorem MZ.x {M S q : Nat} {t t' : Ht} (h : MX M (M + 1) (M + 3) q t t') (hq : 2400 ≤ q) : MZ M S t t' := by
  obtain ⟨h1, h2, h3, h4, h5, h6, h7, h8⟩ := h
  refine ⟨h1, h2, h3, h4, h5, fun x k _ z => h6 x k z, fun x k z1 z2 z3 z4 => ?_⟩
  by_cases e : x = M + 3
  · rw [e]; exact h8 k (by omega)
  · exact h7 x k z2 e z4
theorem MZ.I {M S a k : Nat} {t : Ht} {x : Int32} (h1 : S ≤ a) (h2 : a ≤ S + 11) : MZ M S t (sI t a k x) := by
  refine ⟨rfl, rfl, rfl, rfl, rfl, fun _ _ _ _ => rfl, fun y j z _ _ _ => sI_at ?_⟩
  rintro ⟨rfl, -⟩; omega
theorem sJ_at {t : Ht} {a k x j : Nat} {v : Int64} (h : ¬ (x = a ∧ j = k)) : tJ (sJ t a k v) x j = tJ t x j := by
  rw [(by simp [ht] : tJ (sJ t a k v) x j = if x = a ∧ j = k then v else tJ t x j), if_neg h]
theorem sI_eq {t : Ht} {a k : Nat} {v : Int32} : tI (sI t a k v) a k = v := by simp [ht]
theorem sJ_eq {t : Ht} {a k : Nat} {v : Int64} : tJ (sJ t a k v) a k = v := by simp [ht]
theorem MZ.J {M S k : Nat} {t : Ht} {x : Int64} : MZ M S t (sJ t (S + 12) k x) := by
  refine ⟨rfl, rfl, rfl, rfl, rfl, fun y j z _ => sJ_at ?_, fun y j z _ _ _ => rfl⟩
  rintro ⟨rfl, -⟩; exact z rfl
theorem AG.x {M S c q : Nat} {t t' : Ht} (h : MX M (M + 1) (M + 3) q t t') (hS : S = M + 4 ∨ S = M + 17) : AG S (M + 3) c q t t' := by
  obtain ⟨h1, h2, h3, h4, h5, h6, h7, h8⟩ := h
  exact ⟨fun k j _ _ _ => h7 _ _ (Or.inl (by omega)) (by omega) (Or.inl (by omega)), fun j _ => h6 _ _ (Or.inl (by omega)), h8⟩
theorem AG.I {M S c q a k : Nat} {t : Ht} {x : Int32} (hS : S = M + 4 ∨ S = M + 17) (h1 : S ≤ a) (h2 : a ≤ S + 12) (hk : a = S ∨ c ≤ k) : AG S (M + 3) c q t (sI t a k x) := by
  refine ⟨fun y j z1 z2 z3 => sI_at ?_, fun j _ => rfl, fun j _ => sI_at ?_⟩
  · rintro ⟨z4, z5⟩; omega
  · rintro ⟨z4, z5⟩; omega
theorem AG.J {M S c q k : Nat} {t : Ht} {x : Int64} (hk : c ≤ k) : AG S (M + 3) c q t (sJ t (S + 12) k x) := by
  refine ⟨fun y j z1 z2 z3 => rfl, fun j hj => sJ_at ?_, fun j _ => rfl⟩
  rintro ⟨z4, z5⟩; omega
/-- entries below c, with another table that is the same there -/
theorem RT.ag {t t' : Ht} {S ch lo hi hi' c c' : Nat} {V V' : VT} (h : RT t S ch V c lo hi) (hg : AG S ch c hi t t') (hV : ∀ j, j < c → V' j = V j) (hh : hi ≤ hi') : ∀ j, j < c → RE t' S ch V' c' j lo hi' ∧ (c ≤ c' → VQ V' c' j) := by
  intro j hj
  obtain ⟨⟨⟨a1, a2, a3, a4, a5, a6, a7, a8⟩, ⟨b1, b2⟩, b3⟩, ⟨v1, v2, v3, v4, v5, v6, v7, v8, v9⟩⟩ := h j hj
  obtain ⟨g1, g2, g3⟩ := hg
  have hch : ∀ k, lo ≤ k → k < hi → tI t' ch k = tI t ch k := fun k _ hk => g3 k hk
  refine ⟨?_, fun hcc => ?_⟩
  · unfold RE
    rw [hV j hj]
    refine ⟨⟨(g1 1 j (by omega) (by omega) hj).trans a1, (g1 2 j (by omega) (by omega) hj).trans a2, (g1 3 j (by omega) (by omega) hj).trans a3, (g1 5 j (by omega) (by omega) hj).trans a4, (g1 6 j (by omega) (by omega) hj).trans a5, fun x hx => (g1 7 j (by omega) (by omega) hj).trans (a6 x hx), (g1 8 j (by omega) (by omega) hj).trans a7, (g2 j hj).trans a8⟩, ⟨fun z => ?_, fun cs z => ?_⟩, fun i hi => ?_⟩
    · obtain ⟨p, p1, p2⟩ := b1 z
      exact ⟨p, (g1 9 j (by omega) (by omega) hj).trans p1, p2.eq hh hch⟩
    · obtain ⟨p, p1, p2, p3⟩ := b2 cs z
      exact ⟨p, (g1 10 j (by omega) (by omega) hj).trans p1, (g1 11 j (by omega) (by omega) hj).trans p2, p3.eq hh hch⟩
    · rw [g1 4 _ (by omega) (by omega) (v3 _ (kid_mem hi)).2.1]; exact b3 i hi
  · unfold VQ
    rw [hV j hj]
    exact ⟨v1, v2, fun k hk => ⟨(v3 k hk).1, by have := (v3 k hk).2.1; omega, by rw [hV k (v3 k hk).2.1]; exact (v3 k hk).2.2⟩, v4, v5, v6, v7, v8, fun z k hk => by rw [hV k (v3 k hk).2.1]; exact v9 z k hk⟩
theorem RT.to {t t' : Ht} {S ch lo hi hi' c : Nat} {V : VT} (h : RT t S ch V c lo hi) (hg : AG S ch c hi t t') (hh : hi ≤ hi') : RT t' S ch V c lo hi' := fun j hj => by
  obtain ⟨h1, h2⟩ := h.ag (V' := V) (c' := c) hg (fun _ _ => rfl) hh j hj
  exact ⟨h1, h2 (Nat.le_refl _)⟩
theorem MB.same {t t' : Ht} {M s tp ch : Nat} {b : By} {n i q : Nat} (h : MB t M s tp ch b n i q) (h1 : tK t' = tK t) (h2 : tL t' = tL t) (h3 : tR t' = tR t) (h4 : ∀ k, tI t' M k = tI t M k) (h5 : ∀ k, tI t' tp k = tI t tp k) : MB t' M s tp ch b n i q := by
  unfold MB MD at h ⊢
  rw [h1, h2, h3, h4 4, h4 5, h4 7]
  refine ⟨⟨h.1.1, h.1.2.1, h.1.2.2.1, h.1.2.2.2.1, h.1.2.2.2.2.1, h.1.2.2.2.2.2.1, h.1.2.2.2.2.2.2.1, h.1.2.2.2.2.2.2.2.1, h.1.2.2.2.2.2.2.2.2.1, h.1.2.2.2.2.2.2.2.2.2.1, h.1.2.2.2.2.2.2.2.2.2.2.1, fun k hk => ?_⟩, h.2⟩
  rw [h5]; exact h.1.2.2.2.2.2.2.2.2.2.2.2 k hk
theorem MB.I {t : Ht} {M s tp ch a k : Nat} {x : Int32} {b : By} {n i q : Nat} (h : MB t M s tp ch b n i q) (h1 : a ≠ M) (h2 : a ≠ tp) : MB (sI t a k x) M s tp ch b n i q :=
  h.same rfl rfl rfl (fun _ => sI_at (fun z => h1 z.1.symm)) (fun _ => sI_at (fun z => h2 z.1.symm))
theorem MB.J {t : Ht} {M s tp ch a k : Nat} {x : Int64} {b : By} {n i q : Nat} (h : MB t M s tp ch b n i q) : MB (sJ t a k x) M s tp ch b n i q := h.same rfl rfl rfl (fun _ => rfl) (fun _ => rfl)
/-- THE STATE of the reference's reading of a value -/
def VS (t : Ht) (M S : Nat) (b : By) (n i q : Nat) (V : VT) (c : Nat) : Prop :=
  MB t M (M + 1) (M + 2) (M + 3) b n i q ∧ i ≤ n ∧ MSh t M S ∧ RT t S (M + 3) V c 2400 q ∧ (tI t S 12 = nI c ∧ tI t S 13 = nI (mxD V c) ∧ c ≤ 300) ∧ 2400 ≤ q ∧ q ≤ 2400 + i
section MV
variable {t t' : Ht} {M S : Nat} {b : By} {n i q : Nat} {V : VT} {c : Nat}
theorem VS.x {j q' : Nat} (h : VS t M S b n i q V c) (hx : MX M (M + 1) (M + 3) q t t') (hj : tI t' M 5 = nI j) (hq : tI t' M 7 = nI q') (hjn : j ≤ n) (hqq : q ≤ q') (hqj : q' ≤ 2400 + j) : VS t' M S b n j q' V c := by
  obtain ⟨hB, hi, hS, hR, ⟨h1, h2, h3⟩, h4, h5⟩ := h
  have hn : n ≤ 1200 := hB.1.2.2.2.2.2.2.2.2.1
  have hS0 := hS.1
  refine ⟨hB.x hx hj hq (by omega), hjn, hS.eq hx.2.2.1 hx.2.2.2.1 hx.2.2.2.2.1, hR.to (AG.x hx hS0) hqq, ⟨?_, ?_, h3⟩, by omega, hqj⟩
  · rw [hx.2.2.2.2.2.2.1 S 12 (Or.inl (by omega)) (by omega) (Or.inl (by omega))]; exact h1
  · rw [hx.2.2.2.2.2.2.1 S 13 (Or.inl (by omega)) (by omega) (Or.inl (by omega))]; exact h2
theorem VS.to {j : Nat} (h : VS t M S b n i q V c) (hij : i ≤ j) (hj : j ≤ n) : VS (sI t M 5 (nI j)) M S b n j q V c :=
  h.x (MX.M (Or.inl rfl) (by omega)) (by simp [ht]) (by simp [ht, h.1.2.2.2.2]) hj (Nat.le_refl _) (by have := h.2.2.2.2.2.2; omega)
theorem VS.mx {x : Int32} (_h : VS t M S b n i q V c) : MX M (M + 1) (M + 3) q t (sI t M 5 x) := MX.M (Or.inl rfl) (by omega)
/-- a fault is told -/
def FZ (M S : Nat) (t t' : Ht) (w p : Nat) : Prop := MZ M S t t' ∧ tI t' (M + 1) 6 = nI w ∧ tI t' (M + 1) 7 = nI p
theorem FZ.bm {w p : Nat} (h : BM M (M + 1) (M + 3) q t t' w p) (hq : 2400 ≤ q) : FZ M S t t' w p := ⟨MZ.x h.1 hq, h.2.1, h.2.2⟩
theorem FZ.of {w p : Nat} {t1 : Ht} (h : MZ M S t t1) (g : FZ M S t1 t' w p) : FZ M S t t' w p := ⟨h.trans g.1, g.2.1, g.2.2⟩
theorem FZ.mb {w p : Nat} : FZ M S t (mb t (M + 1) w p) w p := FZ.bm (q := 2400) (BM_of (by omega) MX.rfl') (Nat.le_refl _)
end MV
/-! the one above -/
section UPS
variable {b : By} {n : Nat}
theorem elF_up {rd : Nat → Nat → VT → Rs} {p : Nat} (hr : Fwd n rd) {g i c j c' : Nat} {V V' : VT} (hi : i ≤ n) (hp : p < c) (h : elF b n rd p g i c V = .inl (j, c', V')) : eU (V' p) = eU (V p) ∧ eK (V' p) = eK (V p) ∧ eD (V' p) = eD (V p) := by
  have e := (elF_inv hr _ _ _ _ _ _ _ hi hp h).2.2.2.2
  exact ⟨congrArg (fun z => z.2.1) e.1, congrArg (fun z => z.1) e.1, congrArg (fun z => z.2.2.1) e.1⟩
theorem rsS_up {rd : Nat → Nat → VT → Rs} {W : Nat → (Nat × Bool × Nat) ⊕ Nat} (hb : ∀ k, b k < 256) (hn : n ≤ 1200) (hr : Fwd n rd) {k i c j c' : Nat} {V V' : VT} (hi : i < n) (h : rsS b n W rd k i c V = .inl (j, c', V')) : eU (V' c) = eU (V c) := by
  have hs := sk_le (b := b) (n := n) (i := i + 1) (by omega)
  unfold rsS at h
  split at h
  · split at h
    · cases h
    · injection h with h
      injection h with q1 h
      injection h with q2 q3
      rw [q3]
  · split at h
    · split at h
      · cases h
      · split at h
        · cases h
        · injection h with h
          injection h with q1 h
          injection h with q2 q3
          rw [← q3, up1_eq]; rfl
    · split at h
      · split at h
        · cases h
        · injection h with h
          injection h with q1 h
          injection h with q2 q3
          rw [← q3, up1_eq]; rfl
      · split at h
        · split at h
          · injection h with h
            injection h with q1 h
            injection h with q2 q3
            rw [q3]
          · exact congrArg (fun z => z.2.1) (elF_inv hr _ _ _ _ _ _ _ hs (by omega) h).2.2.2.2.1
        · split at h
          · injection h with h
            injection h with q1 h
            injection h with q2 q3
            rw [q3]
          · exact congrArg (fun z => z.2.1) (obF_inv hb hn hr _ _ _ _ _ _ _ (by omega) h).2.2.2.2.1
theorem vaS_up {W : Nat → (Nat × Bool × Nat) ⊕ Nat} (hb : ∀ k, b k < 256) (hn : n ≤ 1200) (hW : ∀ i j m N, W i = .inl (j, m, N) → i < j ∧ j ≤ n) {f : Nat} {u : Option Nat} {i c j c' : Nat} {V V' : VT} (h : vaS b n W f u i c V = .inl (j, c', V')) : eU (V' c) = u := by
  cases f with
  | zero =>
    rw [vaS] at h
    split at h <;> cases h
  | succ f =>
    rw [vaS] at h
    split at h
    · cases h
    · rename_i k e
      have hk := kdB_lt hb e
      split at h
      · cases h
      · unfold rsL at h
        split at h
        · cases h
        · rename_i j1 c1 V1 e1
          have h1 := rsS_up hb hn (vaS_inv hb hn hW f (some c)) hk.1 e1
          rw [up1_eq] at h1
          injection h with h
          injection h with q1 h
          injection h with q2 q3
          rw [← q3]
          unfold vLst
          rw [up1_eq]
          exact h1
end UPS
