/-! value, OF THE REFERENCE -/
def stV (V : VT) : VT := fun x => ((V x).1, (V x).2.1, ((V x).2.2.1, 0))
theorem RT.cg {t : Ht} {S ch c lo hi : Nat} {V V' : VT} (h : RT t S ch V c lo hi) (he : ∀ x, (V' x).1 = (V x).1 ∧ (V' x).2.1 = (V x).2.1 ∧ (V' x).2.2.1 = (V x).2.2.1) : RT t S ch V' c lo hi := by
  have e : stV V' = stV V := by
    funext x
    unfold stV
    rw [(he x).1, (he x).2.1, (he x).2.2]
  intro j hj
  have h1 := h j hj
  show RE t S ch (stV V') c j lo hi ∧ VQ (stV V') c j
  rw [e]; exact h1
theorem vLst_cg {V : VT} {p l : Nat} (x : Nat) : (vLst V p l x).1 = (V x).1 ∧ (vLst V p l x).2.1 = (V x).2.1 ∧ (vLst V p l x).2.2.1 = (V x).2.2.1 := by
  unfold vLst
  by_cases e : x = p
  · subst e; rw [up1_eq]; exact ⟨rfl, rfl, rfl⟩
  · rw [up1_ne e]; exact ⟨rfl, rfl, rfl⟩
section MVL
variable {C : Cx} {d E f p : Nat} {Post : OutT → Ht → Prop} {t t' : Ht} {M S : Nat} {b : By} {n i q : Nat} {V : VT} {c : Nat}
theorem VS.lst {l : Nat} (h : VS t M S b n i q V c) : VS t M S b n i q (vLst V p l) c := by
  obtain ⟨hB, hi, hS, hR, ⟨h1, h2, h3⟩, h4, h5⟩ := h
  exact ⟨hB, hi, hS, hR.cg vLst_cg, ⟨h1, by rw [mxD_eq (V := V) (V' := vLst V p l) (fun x _ => congrArg (fun z => z.2.2.1) (vLst_cg x).1)]; exact h2, h3⟩, h4, h5⟩
/-- one more entry -/
theorem VS.push {e : Ent} {j q' : Nat} (h : VS t M S b n i q V c) (hc : c < 300) (hB : MB t' M (M + 1) (M + 2) (M + 3) b n j q') (hz : MZ M S t t') (hg : AG S (M + 3) c q t t') (hj : j ≤ n) (hq : q ≤ q') (hqj : q' ≤ 2400 + j) (h12 : tI t' S 12 = nI (c + 1)) (h13 : tI t' S 13 = nI (max (mxD V c) (eD e)))
    (e1 : tI t' (S + 1) c = nI (eK e)) (e2 : tI t' (S + 2) c = -1) (e3 : tI t' (S + 3) c = -1) (e5 : tI t' (S + 5) c = oIx (eU e)) (e6 : tI t' (S + 6) c = nI (szE e)) (e8 : tI t' (S + 8) c = nI (eD e)) (eJ' : tJ t' (S + 12) c = eJ e) (eS' : eS e = []) (eX' : eX e = none) (eN' : eN e = none)
    (hT : eK e = 4 → ∃ p, tI t' (S + 9) c = nI p ∧ CH t' (M + 3) p (eC e) 2400 q') (hk : eK e < 7) (hd : eD e ≤ 30) (ho : okC (eC e)) (hu : ∀ p, eU e = some p → p < c) : VS t' M S b n j q' (up1 V c e) (c + 1) := by
  have hself := up1_eq (f := V) (a := c) (x := e)
  have hne : ∀ x, x < c → up1 V c e x = V x := fun x hx => up1_ne (by omega)
  have hS := h.2.2.1
  have q24 := h.2.2.2.2.2.1
  refine ⟨hB, hj, hS.eq hz.2.2.1 hz.2.2.2.1 hz.2.2.2.2.1, fun x hx => ?_, ⟨h12, ?_, by omega⟩, by omega, hqj⟩
  · by_cases ex : x = c
    · subst ex
      refine ⟨?_, ?_⟩
      · unfold RE
        rw [hself, eS', eX', eN']
        refine ⟨⟨e1, e2, e3, e5, e6, fun _ hz => (by cases hz), e8, eJ'⟩, ⟨hT, fun _ hz => (by cases hz)⟩, fun _ hz => absurd hz (Nat.not_lt_zero _)⟩
      · unfold VQ
        rw [hself, eS', eN']
        exact ⟨hk, hd, fun _ hz => (by cases hz), fun _ _ _ hz => absurd hz (Nat.not_lt_zero _), ho, fun _ hz => (by cases hz), fun _ => rfl, hu, fun _ _ hz => (by cases hz)⟩
    · obtain ⟨r1, r2⟩ := h.2.2.2.1.ag (V' := up1 V c e) (c' := c + 1) hg hne hq x (by omega)
      exact ⟨r1, r2 (by omega)⟩
  · rw [h13, mxD, hself, mxD_eq (V := V) (V' := up1 V c e) (fun x hx => by rw [hne x hx])]
theorem p172 {x : Int32} (k : Post (.inl (some (svI (bI (kdB x).isSome)))) t) : CalG C mtab (d + 2) 172 [svI x] t Post := by
  refine cal172 ⟨fun e => ⟨Or.inr rfl, ?_⟩, fun e1 => ⟨fun e => ⟨Or.inr rfl, ?_⟩, fun e2 => ⟨fun e => ⟨Or.inr rfl, ?_⟩, fun e3 => ⟨fun e => ⟨Or.inr rfl, ?_⟩, fun e4 => c161 ⟨fun e5 => ⟨fun e => ⟨Or.inr rfl, ?_⟩, fun e6 => ⟨fun e => ⟨Or.inr rfl, ?_⟩, fun e7 => ⟨fun e => ⟨Or.inr rfl, ?_⟩, fun e8 => ⟨Or.inl rfl, ?_⟩⟩⟩⟩, fun e5 => ⟨Or.inr rfl, ?_⟩⟩⟩⟩⟩⟩
  · subst e; exact k
  · subst e; exact k
  · subst e; exact k
  · subst e; exact k
  · subst e; exact k
  · subst e; exact k
  · subst e; exact k
  · have : kdB x = none := by
      unfold kdB
      rw [if_neg e6, if_neg e7, if_neg e3, if_neg e1, if_neg e2, if_neg e8, if_neg e4, if_pos e5]
    rw [this] at k; exact k
  · have : (kdB x).isSome = true := by
      unfold kdB
      split
      · rfl
      split
      · rfl
      split
      · rfl
      rfl
    rw [this] at k; exact k
theorem kdB_int {x : Int32} {k : Nat} (h : kdB x = some k) (h1 : ¬ x = 110) (h2 : ¬ x = 102) (h3 : ¬ x = 116) (h4 : ¬ x = 34) (h5 : ¬ x = 91) (h6 : ¬ x = 123) : k = 3 := by
  unfold kdB at h
  rw [if_neg h4, if_neg h5, if_neg h2, if_neg h1, if_neg h3, if_neg h6] at h
  by_cases z0 : x = 45
  · rw [if_pos z0] at h; injection h with h; exact h.symm
  · rw [if_neg z0] at h
    by_cases z : (if x < 48 then (0 : Int32) else if 57 < x then 0 else 1) = 0
    · rw [if_pos z] at h; cases h
    · rw [if_neg z] at h; injection h with h; exact h.symm
/-- the stages of value: what stands in the new row -/
def SG (M S : Nat) (b : By) (n i q c dp : Nat) (V : VT) (t t' : Ht) : Prop := MB t' M (M + 1) (M + 2) (M + 3) b n i q ∧ MZ M S t t' ∧ AG S (M + 3) c q t t' ∧ tI t' S 12 = nI (c + 1) ∧ tI t' S 13 = nI (max (mxD V c) dp)
theorem SG.I {dp a k : Nat} {x : Int32} (hS : S = M + 4 ∨ S = M + 17) (h : SG M S b n i q c dp V t t') (h1 : 1 ≤ a) (h2 : a ≤ 11) (hk : c ≤ k) : SG M S b n i q c dp V t (sI t' (S + a) k x) := by
  obtain ⟨g1, g2, g3, g4, g5⟩ := h
  exact ⟨g1.I (by omega) (by omega), g2.trans (MZ.I (by omega) (by omega)), g3.trans (AG.I hS (by omega) (by omega) (Or.inr hk)) (Nat.le_refl _) (Nat.le_refl _), (sI_at (by omega)).trans g4, (sI_at (by omega)).trans g5⟩
theorem SG.J {dp k : Nat} {x : Int64} (h : SG M S b n i q c dp V t t') (hk : c ≤ k) : SG M S b n i q c dp V t (sJ t' (S + 12) k x) := by
  obtain ⟨g1, g2, g3, g4, g5⟩ := h
  exact ⟨g1.J, g2.trans MZ.J, g3.trans (AG.J hk) (Nat.le_refl _) (Nat.le_refl _), g4, g5⟩
theorem SG.x {dp j q' : Nat} {t2 : Ht} (hS : S = M + 4 ∨ S = M + 17) (h : SG M S b n i q c dp V t t') (hx : MX M (M + 1) (M + 3) q t' t2) (h5 : tI t2 M 5 = nI j) (h7 : tI t2 M 7 = nI q') (hj : j ≤ 1201) (hq : 2400 ≤ q) : MB t2 M (M + 1) (M + 2) (M + 3) b n j q' ∧ MZ M S t t2 ∧ AG S (M + 3) c q t t2 ∧ tI t2 S 12 = nI (c + 1) ∧ tI t2 S 13 = nI (max (mxD V c) dp) := by
  obtain ⟨g1, g2, g3, g4, g5⟩ := h
  refine ⟨g1.x hx h5 h7 hj, g2.trans (MZ.x hx hq), g3.trans (AG.x (c := c) hx hS) (Nat.le_refl _) (Nat.le_refl _), ?_, ?_⟩
  · rw [hx.2.2.2.2.2.2.1 S 12 (Or.inl (by omega)) (by omega) (Or.inl (by omega))]; exact g4
  · rw [hx.2.2.2.2.2.2.1 S 13 (Or.inl (by omega)) (by omega) (Or.inl (by omega))]; exact g5
end MVL
