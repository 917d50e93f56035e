/-! the reference's escapes -/
theorem hx_st {b : By} {n i f v q : Nat} {low : Bool} (hq : 3 - f = q) : hxF b n low i (f + 1) v = (match hxA b n (i + q) with
    | some d => if fitB low q v d then hxF b n low i f (v * 16 + d) else .inr (i + q)
    | none => .inr (i + q)) := by
  subst hq
  rfl
def uS (b : By) (n i : Nat) : (Nat × Nat) ⊕ Nat := match hx4 b n false i with
  | .inr p => .inr p
  | .inl v => if v < 55296 ∨ 56319 < v then .inl (v, i + 4) else
    if pk b n (i + 4) = 92 then (if pk b n (i + 5) = 117 then (match hx4 b n true (i + 6) with
      | .inr p => .inr p
      | .inl w => .inl (65536 + v % 1024 * 1024 + w % 1024, i + 10)) else .inr (i + 5)) else .inr (i + 4)
section MES
variable {C : Cx} {d : Nat} {Post : OutT → Ht → Prop} {t : Ht} {M s tp : Nat} {b : By} {n i : Nat}
theorem m166h {low : Bool} {f v q lo hi : Nat} (hq : 3 - f = q) (hlo : lo < 16) (hhi : hi < 16) (hE : ∀ dd, dd < 16 → (fitB low q v dd = true ↔ (lo ≤ dd ∧ dd ≤ hi))) (h : MD t M s tp b n (i + q))
    (k1 : ∀ dd, dd < 16 → i + q < n → hxF b n low i (f + 1) v = hxF b n low i f (v * 16 + dd) → lo ≤ dd → dd ≤ hi → Post (.inl (some (svI (nI dd)))) (sI t M 5 (nI (i + q + 1)))) (k2 : hxF b n low i (f + 1) v = .inr (i + q) → Post (.inr (16, s)) (mb t s 1 (i + q))) : CalG C mtab (d + 4) 166 [svR (some M), svI (nI lo), svI (nI hi)] t Post := by
  have e := hx_st (b := b) (n := n) (i := i) (v := v) (low := low) hq
  refine m166 hlo hhi h (fun dd hd z1 z2 => ?_) (fun z => k2 ?_)
  · obtain ⟨h16, hlt⟩ := hxA_lt hd
    refine k1 dd h16 hlt ?_ z1 z2
    rw [e, hd]
    show (if fitB low q v dd then _ else _) = _
    rw [if_pos ((hE dd h16).mpr ⟨z1, z2⟩)]
  · rw [e]
    cases hd : hxA b n (i + q) with
    | none => rfl
    | some dd =>
      obtain ⟨h16, -⟩ := hxA_lt hd
      show (if fitB low q v dd then _ else _) = _
      rw [if_neg]
      intro y
      obtain ⟨y1, y2⟩ := (hE dd h16).mp y
      exact z dd hd y1 y2
theorem fit00 (v dd : Nat) (h : dd < 16) : fitB false 0 v dd = true ↔ (0 ≤ dd ∧ dd ≤ 15) := by
  simp [fitB]; omega
theorem fit01a (dd : Nat) (h : dd < 16) : fitB false 1 13 dd = true ↔ (0 ≤ dd ∧ dd ≤ 11) := by
  simp [fitB]; omega
theorem fit01b (v dd : Nat) (hv : v ≠ 13) (h : dd < 16) : fitB false 1 v dd = true ↔ (0 ≤ dd ∧ dd ≤ 15) := by
  simp [fitB]; omega
theorem fit2 (low : Bool) (q v dd : Nat) (hq : 1 < q) (h : dd < 16) : fitB low q v dd = true ↔ (0 ≤ dd ∧ dd ≤ 15) := by
  have : ¬ q = 0 := by omega
  simp [fitB, this, hq]; omega
theorem fit10 (v dd : Nat) : fitB true 0 v dd = true ↔ (13 ≤ dd ∧ dd ≤ 13) := by
  simp [fitB]; omega
theorem fit11 (dd : Nat) (h : dd < 16) : fitB true 1 13 dd = true ↔ (12 ≤ dd ∧ dd ≤ 15) := by
  simp [fitB]; omega
theorem n16 (v dd : Nat) : (16 : Int32) * nI v + nI dd = nI (v * 16 + dd) := by
  rw [show (16 : Int32) = nI 16 from rfl, pk_mul, nI_add, Nat.mul_comm]
set_option maxHeartbeats 400000 in
/-- unit -/
theorem m167 (h : MD t M s tp b n i) (k1 : ∀ c j, uS b n i = .inl (c, j) → Post (.inl (some (svI (nI c)))) (sI t M 5 (nI j))) (k2 : ∀ p, uS b n i = .inr p → Post (.inr (16, s)) (mbP t M s p)) : CalG C mtab (d + 5) 167 [svR (some M)] t Post := by
  have hn : n ≤ 1200 := h.2.2.2.2.2.2.2.2.1
  have hK := h.1
  have bad : ∀ p, hx4 b n false i = .inr p → uS b n i = .inr p := fun p z => by unfold uS; rw [z]
  refine cal167 (fun k l1 l2 t' => k = 2 ∧ ∃ d0 d1, l1 = nI d0 ∧ l2 = nI d1 ∧ d0 < 16 ∧ d1 < 16 ∧ i + 2 ≤ n ∧ t' = sI t M 5 (nI (i + 2)) ∧ hx4 b n false i = hxF b n false i 2 (d0 * 16 + d1))
    (fun k l1 l2 t' => k = 1 ∧ ∃ v, l1 = nI v ∧ v < 65536 ∧ i + 4 ≤ n ∧ t' = sI t M 5 (nI (i + 4)) ∧ hx4 b n false i = .inl v) ?_ ?_ ?_
  · refine ⟨hK, m166h (low := false) (f := 3) (v := 0) (q := 0) (lo := 0) (hi := 15) rfl (by decide) (by decide) (fit00 0) h (fun d0 h0 hlt e0 _ _ => ?_) (fun e0 => ?_)⟩
    · have e0' : hx4 b n false i = hxF b n false i 3 d0 := by show hxF b n false i (3 + 1) 0 = _; rw [e0]; congr 1; omega
      have hR1 := h.to (j := i + 0 + 1) (by omega)
      refine ⟨fun e13 => ⟨hK, ?_⟩, fun e13 => ⟨hK, ?_⟩⟩
      · have hd0 : d0 = 13 := (nI_eq (b := 13) (by omega) (by decide)).mp e13
        subst hd0
        refine m166h (low := false) (f := 2) (v := 13) (q := 1) (lo := 0) (hi := 11) rfl (by decide) (by decide) fit01a hR1 (fun d1 h1 hlt1 e1 _ _ => ?_) (fun e1 => ?_)
        · rw [sI_sI]
          exact ⟨2, rfl, rfl, 13, d1, rfl, rfl, by decide, h1, by omega, rfl, e0'.trans e1⟩
        · exact k2 (i + 1) (bad _ (e0'.trans e1))
      · have hd0 : d0 ≠ 13 := fun z => e13 (by rw [z]; rfl)
        refine m166h (low := false) (f := 2) (v := d0) (q := 1) (lo := 0) (hi := 15) rfl (by decide) (by decide) (fun dd hdd => fit01b d0 dd hd0 hdd) hR1 (fun d1 h1 hlt1 e1 _ _ => ?_) (fun e1 => ?_)
        · rw [sI_sI]
          exact ⟨2, rfl, rfl, d0, d1, rfl, rfl, h0, h1, by omega, rfl, e0'.trans e1⟩
        · exact k2 (i + 1) (bad _ (e0'.trans e1))
    · have := k2 i (bad _ e0)
      unfold mbP at this
      rw [sI_self h.2.2.2.2.2.2.2.1] at this
      exact this
  · rintro k l1 l2 t' ⟨rfl, d0, d1, rfl, rfl, h0, h1, hin, rfl, e1⟩
    have hR2 := h.to (j := i + 2) (by omega)
    refine ⟨hK, m166h (low := false) (f := 1) (v := d0 * 16 + d1) (q := 2) (lo := 0) (hi := 15) rfl (by decide) (by decide) (fun dd hdd => fit2 _ _ _ dd (by decide) hdd) hR2 (fun d2 h2 hlt2 e2 _ _ => ⟨hK, ?_⟩) (fun e2 => ?_)⟩
    · rw [sI_sI]
      have hR3 := h.to (j := i + 2 + 1) (by omega)
      refine m166h (low := false) (f := 0) (v := (d0 * 16 + d1) * 16 + d2) (q := 3) (lo := 0) (hi := 15) rfl (by decide) (by decide) (fun dd hdd => fit2 _ _ _ dd (by decide) hdd) hR3 (fun d3 h3 hlt3 e3 _ _ => ?_) (fun e3 => ?_)
      · rw [sI_sI, n16, n16]
        refine ⟨1, by decide, rfl, rfl, ((d0 * 16 + d1) * 16 + d2) * 16 + d3, n16 _ _, by omega, by omega, rfl, ?_⟩
        exact e1.trans (e2.trans e3)
      · exact k2 (i + 3) (bad _ (e1.trans (e2.trans e3)))
    · exact k2 (i + 2) (bad _ (e1.trans e2))
  · rintro k l1 l2 t' ⟨rfl, v, rfl, hv, hin, rfl, hx⟩
    have hR4 := h.to (j := i + 4) (by omega)
    have hu : uS b n i = (if v < 55296 ∨ 56319 < v then .inl (v, i + 4) else
        if pk b n (i + 4) = 92 then (if pk b n (i + 5) = 117 then (match hx4 b n true (i + 6) with
          | .inr p => .inr p
          | .inl w => .inl (65536 + v % 1024 * 1024 + w % 1024, i + 10)) else .inr (i + 5)) else .inr (i + 4)) := by unfold uS; rw [hx]
    refine ⟨fun e1 => ?_, fun e1 => ⟨fun e2 => ⟨hK, m159 hR4 (fun e3 => ⟨rfl, hK, ?_⟩) (fun e3 => ?_)⟩, fun e2 => ?_⟩⟩
    · exact k1 v (i + 4) (by rw [hu, if_pos (Or.inl ((nI_ltI (b := 55296) (by omega) (by decide)).mp e1))])
    · have v1 : ¬ (v < 55296 ∨ 56319 < v) := fun z => by
        rcases z with z | z
        · exact e1 (nI_lt (b := 55296) z (by decide))
        · exact absurd e2 (nI_ge (a := 56319) z (by omega))
      obtain ⟨hlt4, -⟩ := pk_nn e3 (by decide)
      rw [if_neg v1, if_pos e3] at hu
      rw [sI_sI]
      have hR5 := h.to (j := i + 4 + 1) (by omega)
      refine m159 hR5 (fun e4 => ⟨rfl, hK, ?_⟩) (fun e4 => ?_)
      · obtain ⟨hlt5, -⟩ := pk_nn e4 (by decide)
        rw [if_pos e4] at hu
        rw [sI_sI]
        have bad2 : ∀ p, hx4 b n true (i + 6) = .inr p → uS b n i = .inr p := fun p z => by rw [hu, z]
        have hR6 := h.to (j := i + 6 + 0) (by omega)
        refine m166h (i := i + 6) (low := true) (f := 3) (v := 0) (q := 0) (lo := 13) (hi := 13) rfl (by decide) (by decide) (fun dd _ => fit10 0 dd) hR6 (fun d0 h0 hlt6 g0 z1 z2 => ⟨hK, ?_⟩) (fun g0 => k2 (i + 6) (bad2 _ g0))
        have hd0 : d0 = 13 := by omega
        subst hd0
        have g0' : hx4 b n true (i + 6) = hxF b n true (i + 6) 3 13 := g0
        rw [sI_sI]
        have hR7 := h.to (j := i + 6 + 1) (by omega)
        refine m166h (i := i + 6) (low := true) (f := 2) (v := 13) (q := 1) (lo := 12) (hi := 15) rfl (by decide) (by decide) fit11 hR7 (fun d1 h1 hlt7 g1 y1 y2 => ⟨hK, ?_⟩) (fun g1 => k2 (i + 7) (bad2 _ (g0'.trans g1)))
        rw [sI_sI]
        have hR8 := h.to (j := i + 6 + 2) (by omega)
        refine m166h (i := i + 6) (low := true) (f := 1) (v := 13 * 16 + d1) (q := 2) (lo := 0) (hi := 15) rfl (by decide) (by decide) (fun dd hdd => fit2 _ _ _ dd (by decide) hdd) hR8 (fun d2 h2 hlt8 g2 _ _ => ⟨hK, ?_⟩) (fun g2 => k2 (i + 8) (bad2 _ (g0'.trans (g1.trans g2))))
        rw [sI_sI]
        have hR9 := h.to (j := i + 6 + 3) (by omega)
        refine m166h (i := i + 6) (low := true) (f := 0) (v := (13 * 16 + d1) * 16 + d2) (q := 3) (lo := 0) (hi := 15) rfl (by decide) (by decide) (fun dd hdd => fit2 _ _ _ dd (by decide) hdd) hR9 (fun d3 h3 hlt9 g3 _ _ => ?_) (fun g3 => k2 (i + 9) (bad2 _ (g0'.trans (g1.trans (g2.trans g3)))))
        rw [sI_sI]
        have hw : hx4 b n true (i + 6) = .inl (((13 * 16 + d1) * 16 + d2) * 16 + d3) := g0'.trans (g1.trans (g2.trans g3))
        rw [hw] at hu
        have es := pk_shlN (n := v - 55296) ((10 : Int32) &&& 31) 10 (by decide) (by omega)
        show Post (.inl (some (svI ((((65536 : Int32) + ((nI v - (55296 : Int32)) <<< ((10 : Int32) &&& 31))) + (((16 : Int32) * (((16 : Int32) * (((16 : Int32) * nI 13) + nI d1)) + nI d2)) + nI d3)) - (56320 : Int32))))) _
        rw [n16, n16, n16, show (55296 : Int32) = nI 55296 from rfl, pk_sub (by omega), es, show (65536 : Int32) = nI 65536 from rfl, nI_add, nI_add, show (56320 : Int32) = nI 56320 from rfl, pk_sub (by omega)]
        have := k1 _ _ hu
        rw [show 65536 + (v - 55296) * 2 ^ 10 + (((13 * 16 + d1) * 16 + d2) * 16 + d3) - 56320 = 65536 + v % 1024 * 1024 + (((13 * 16 + d1) * 16 + d2) * 16 + d3) % 1024 by omega]
        exact this
      · rw [if_neg e4] at hu
        exact k2 (i + 5) hu
    · have v1 : ¬ (v < 55296 ∨ 56319 < v) := fun z => by
        rcases z with z | z
        · exact e1 (nI_lt (b := 55296) z (by decide))
        · exact absurd e2 (nI_ge (a := 56319) z (by omega))
      rw [if_neg v1, if_neg e3] at hu
      exact k2 (i + 4) hu
    · have : 56319 < v := by
        rcases Nat.lt_or_ge 56319 v with z | z
        · exact z
        · exact absurd (nI_le (b := 56319) z (by decide)) e2
      exact k1 v (i + 4) (by rw [hu, if_pos (Or.inr this)])
end MES
