/-! THE LAW OVER EVERY SCRIPT -/
section LP2
variable {C : Cx} {d : Nat} {t : Ht} {B U : Nat}
theorem sub6 {L x : Nat} (hL : L < 2 ^ 30) (hx : x < 2 ^ 30) : nI L - 6 < nI x ↔ L < x + 6 := by
  have e6 : (6 : Int32).toInt = 6 := rfl
  have h1 := nI_toInt (n := L) (by omega)
  have h2 := nI_toInt (n := x) (by omega)
  rw [i_lt, i_sub (by rw [h1, e6]; omega) (by rw [h1, e6]; omega), h1, h2, e6]
  omega
theorem msR_all (h : ∀ i, tR t (B + 7) i = none) : ∀ n, msR t B n = n
  | 0 => rfl
  | n + 1 => by rw [msR, msR_all h n, if_pos (h n)]
theorem kd_B (hS : BSh t B) : ∀ x, B ≤ x → x ≤ B + 9 → tK t x ≠ 8 ∧ tK t x ≠ 104 := fun x h1 h2 => by
  obtain ⟨⟨a0, a1, a1', a2, a3, a3', a4, a5, a6, a7, a7', a8, a9, a9'⟩, -⟩ := hS
  obtain rfl | rfl | rfl | rfl | rfl | rfl | rfl | rfl | rfl | rfl : x = B ∨ x = B + 1 ∨ x = B + 2 ∨ x = B + 3 ∨ x = B + 4 ∨ x = B + 5 ∨ x = B + 6 ∨ x = B + 7 ∨ x = B + 8 ∨ x = B + 9 := by omega
  · rw [a0]; decide
  · rw [a1]; decide
  · rw [a2]; decide
  · rw [a3]; decide
  · rw [a4]; decide
  · rw [a5]; decide
  · rw [a6]; decide
  · rw [a7]; decide
  · rw [a8]; decide
  · rw [a9]; decide
theorem kd_R {S : Nat} (h : RwM t S) : ∀ x, S ≤ x → x ≤ S + 12 → tK t x ≠ 8 ∧ tK t x ≠ 104 := fun x h1 h2 => by
  obtain ⟨a1, a2, a3, a4⟩ := h
  rcases Nat.eq_or_lt_of_le h1 with e | e
  · rw [← e, a1]; decide
  · rcases Nat.lt_or_ge x (S + 12) with z | z
    · have := a3 (x - S - 1) (by omega)
      rw [show S + 1 + (x - S - 1) = x by omega] at this
      rw [this]; decide
    · rw [show x = S + 12 by omega, a4]; decide
theorem kd_P {P : Nat} (h : PaM t P) : ∀ x, P ≤ x → x ≤ P + 8 → tK t x ≠ 8 ∧ tK t x ≠ 104 := fun x h1 h2 => by
  obtain ⟨a1, a2, a3, a4⟩ := h
  rcases Nat.eq_or_lt_of_le h1 with e | e
  · rw [← e, a1]; decide
  · rcases Nat.lt_or_ge x (P + 6) with z | z
    · have := a3 (x - P - 1) (by omega)
      rw [show P + 1 + (x - P - 1) = x by omega] at this
      rw [this]; decide
    · have := a4 (x - P - 6) (by omega)
      rw [show P + 6 + (x - P - 6) = x by omega] at this
      rw [this]; decide
theorem kd_M {M : Nat} (f : MFx t M) : ∀ x, M ≤ x → x ≤ M + 51 → tK t x ≠ 8 ∧ tK t x ≠ 104 := fun x h1 h2 => by
  obtain ⟨⟨a1, a2, a3, a4, a5, a6, a7, a8, a9⟩, ⟨b1, ⟨b2, b3, b4⟩, ⟨b5, b6, b7⟩, b8, b9, b10⟩, ⟨c1, c2, c3⟩, ⟨d1, d2⟩, e1, e2⟩ := f
  rcases Nat.lt_or_ge x (M + 4) with z | z
  · obtain rfl | rfl | rfl | rfl : x = M ∨ x = M + 1 ∨ x = M + 2 ∨ x = M + 3 := by omega
    · rw [a1]; decide
    · rw [a3]; decide
    · rw [a5]; decide
    · rw [a8]; decide
  rcases Nat.lt_or_ge x (M + 17) with z | z
  · exact kd_R d1 x (by omega) (by omega)
  rcases Nat.lt_or_ge x (M + 30) with z | z
  · exact kd_R d2 x (by omega) (by omega)
  rcases Nat.lt_or_ge x (M + 39) with z | z
  · exact kd_P e1 x (by omega) (by omega)
  rcases Nat.lt_or_ge x (M + 48) with z | z
  · exact kd_P e2 x (by omega) (by omega)
  obtain rfl | rfl | rfl | rfl : x = M + 48 ∨ x = M + 49 ∨ x = M + 50 ∨ x = M + 51 := by omega
  · rw [b9]; decide
  · rw [c2]; decide
  · rw [b3]; decide
  · rw [b6]; decide
def L2P (B U : Nat) (o : OutT) (t : Ht) : Prop := o = .inl (some (svI 1)) ∧ tN t ≤ B + 461000 ∧ tU t ≤ U + 6800000
def L2I (C : Cx) (B U : Nat) (n : Nat) (l1 l2 l3 : Option Nat) (l4 : Int32) (t : Ht) : Prop := l1 = some B ∧ l2 = some (B + 10) ∧ l3 = some (B + 62) ∧ ∃ i, n = 600 - i ∧ i ≤ 512 ∧ l4 = nI (6 * i) ∧ JE C B t (B + 131 + 900 * i) (U + 135500 + 13000 * i)
/-- both made -/
theorem js0 {t1 t2 : Ht} (hS : BSh t1 B) (f1 : tI t1 B 6 = 0 ∧ tI t1 B 7 = 0 ∧ tR t1 B 8 = none ∧ tR t1 B 9 = none ∧ tR t1 (B + 6) 2 = none ∧ tI t1 (B + 8) 1 = 0) (f7 : ∀ j, tR t1 (B + 7) j = none) (fz : ∀ x, x < B → tK t1 x = 0) (n1 : tN t1 = B + 10) (f : MFx t2 (B + 10)) (r : tR t2 (B + 10) 10 = some (B + 10 + 4) ∧ tR t2 (B + 10) 11 = some (B + 10 + 17) ∧ tR t2 (B + 10) 16 = some (B + 10 + 30) ∧ tR t2 (B + 10) 17 = some (B + 10 + 39)) (z : tI t2 (B + 10) 3 = 0 ∧ tI t2 (B + 10) 12 = 0 ∧ tI t2 (B + 10) 13 = 0 ∧ tI t2 (B + 10) 14 = -1 ∧ tI t2 (B + 10) 15 = -1 ∧ tI t2 (B + 10) 24 = 0 ∧ tI t2 (B + 10) 35 = 0) (n2 : tN t2 = B + 62) (u2 : tU t2 = U + 101393) (s : ∀ b, b < B + 10 → sameK t1 t2 b) : JE C B (tNew t2 102 1 1) (B + 131 + 900 * 0) (U + 135500 + 13000 * 0) := by
  have sx : ∀ x, x < B + 62 → sameAt t2 (tNew t2 102 1 1) x := fun x hx => sameAt_new (by omega)
  have eN : tN (tNew t2 102 1 1) = B + 63 := by show tN t2 + 1 = _; omega
  have eU : tU (tNew t2 102 1 1) = U + 101394 := by show tU t2 + 1 = _; omega
  have e62 : tK (tNew t2 102 1 1) (B + 62) = 102 ∧ tL (tNew t2 102 1 1) (B + 62) = 1 := by
    rw [← n2]; simp [ht]
  have c : ∀ x, x < B + 10 → tK (tNew t2 102 1 1) x = tK t1 x ∧ tL (tNew t2 102 1 1) x = tL t1 x ∧ (∀ j, tI (tNew t2 102 1 1) x j = tI t1 x j) ∧ ∀ j, tR (tNew t2 102 1 1) x j = tR t1 x j := fun x hx => by
    have a := sx x (by omega)
    have b := s x hx
    exact ⟨a.1.trans b.1, a.2.1.trans b.2.1, fun j => (a.2.2.1 j).trans (b.2.2.1 j), fun j => (a.2.2.2.2 j).trans (b.2.2.2 j)⟩
  have hM2 : MInv t2 (B + 10) := ⟨f, ⟨0, z.2.2.2.2.2.2, by decide⟩, B + 10 + 4, B + 10 + 17, B + 10 + 30, B + 10 + 39, ⟨Or.inl ⟨rfl, rfl⟩, Or.inl ⟨rfl, rfl⟩, r⟩, Or.inl ⟨z.2.1, z.2.2.2.2.2.1⟩, Or.inl z.2.2.1⟩
  have hM3 : MInv (tNew t2 102 1 1) (B + 10) := hM2.sm (fun x h1 h2 => sx x (by omega))
  have sM := sx (B + 10) (by omega)
  have hS3 : BSh (tNew t2 102 1 1) B := hS.of (by omega) (fun x h1 h2 => ⟨(c x (by omega)).1, (c x (by omega)).2.1⟩) (fun x k h1 h2 _ _ _ => (c x (by omega)).2.2.2 k)
  have r7 : ∀ j, tR (tNew t2 102 1 1) (B + 7) j = none := fun j => ((c (B + 7) (by omega)).2.2.2 j).trans (f7 j)
  have cB := c B (by omega)
  generalize tNew t2 102 1 1 = t3 at *
  refine ⟨0, fun _ => 0, ⟨⟨hS3, ⟨fun i r hi e => (by rw [r7] at e; cases e), fun i j r hi hj hij e => (by rw [r7] at e; cases e)⟩, ⟨0, ((c (B + 8) (by omega)).2.2.1 1).trans f1.2.2.2.2.2, by decide⟩, by omega, fun x hx => ?_⟩, 0, 0, Or.inl ((cB.2.2.2 9).trans f1.2.2.2.1), Or.inl ⟨(cB.2.2.2 8).trans f1.2.2.1, ((c (B + 6) (by omega)).2.2.2 2).trans f1.2.2.2.2.1⟩⟩, hM3, ⟨(cB.2.2.1 6).trans f1.1, by omega, fun _ => (by show 0 < 256; decide), fun k hk => absurd hk (Nat.not_lt_zero _)⟩, ⟨(sM.2.2.1 3).trans z.1, by omega, fun _ => (by show 0 < 256; decide), fun k hk => absurd hk (Nat.not_lt_zero _)⟩, Or.inl ⟨(cB.2.2.1 7).trans f1.2.1, (sM.2.2.1 14).trans z.2.2.2.1, (sM.2.2.1 15).trans z.2.2.2.2.1⟩, e62, ?_⟩
  · rcases Nat.lt_or_ge x B with w | w
    · rw [(c x (by omega)).1, fz x w]; decide
    rcases Nat.lt_or_ge x (B + 10) with w | w
    · exact kd_B hS3 x (by omega) (by omega)
    rcases Nat.lt_or_ge x (B + 62) with w | w
    · exact kd_M hM3.1 x (by omega) (by omega)
    · rw [show x = B + 62 by omega, e62.1]; decide
  · unfold BgJ
    rw [msR_all r7 34, eN, eU]
    omega
set_option maxHeartbeats 2000000 in
theorem law2 {t0 : Ht} (hL : (cX C).2.1 ≤ 3072) (hB : tN t = B) (hU : tU t = U) (hz : ∀ x, tK t x = 0) : WG C MLw (d + 1105 + 1) t0 (L2P B U) 0 [(0, svR (some (cX C).1))] [] t := by
  subst hB
  subst hU
  refine wgL (d := d + 1105) (L2I C (tN t) (tU t)) ?_ ?_
  · unfold vcL
    refine c128s (d := d + 1103) (by simp [ht]) (by simp [ht]) (by simp [ht]) (by simp [ht]) (by simp [ht]) (by simp [ht]) (fun x hx => ?_) (fun t1 hS f1 f7 fz n1 u1 => ⟨rfl, ?_⟩)
    · have hne : ¬ x = tN t := by omega
      simp [ht, hne, hz]
    refine c151s (d := d + 1100) (M := tN t1) (by simp [ht]) (by simp [ht]) (by simp [ht]) (fun t2 f r z n2 u2 s => ⟨rfl, by decide, by decide, 600 - 0, rfl, ?_⟩)
    have hu1 : tU t1 = tU t + 10 + 4855 := by rw [u1]; rfl
    have hu2 : tU t2 = tU t1 + 37 + 96491 := by rw [u2]; rfl
    rw [n1] at f r z s n2
    have s2 : ∀ b, b < tN t + 10 → sameK t1 t2 b := fun b hb => by
      have := s b hb
      refine ⟨this.1.trans ?_, this.2.1.trans ?_, fun j => (this.2.2.1 j).trans ?_, fun j => (this.2.2.2 j).trans ?_⟩ <;> (have hne : ¬ b = tN t1 := by omega) <;> simp [ht, hne]
    exact ⟨rfl, by rw [n1], by rw [n2], 0, rfl, by decide, rfl, js0 hS f1 f7 fz n1 f r z n2 (by omega) s2⟩
  · rintro n l1 l2 l3 l4 t' ⟨rfl, rfl, rfl, i, rfl, hi, rfl, hJ⟩
    unfold vcL_23
    generalize hsc : cX C = sc
    rw [hsc] at hL
    obtain ⟨sb, L, xs⟩ := sc
    dsimp only at hL ⊢
    have en : ∀ {t3 : Ht} (dn du : Nat), dn ≤ 900 → du ≤ 13000 → 6 * i + 6 ≤ L → JE C (tN t) t3 (tN t + 131 + 900 * i + dn) (tU t + 135500 + 13000 * i + du) → ∃ k, k < 600 - i ∧ some sb = some sb ∧ L2I C (tN t) (tU t) k (some (tN t)) (some (tN t + 10)) (some (tN t + 62)) (nI (6 * i) + 6) t3 := fun {t3} dn du h1 h2 h3 h4 => by
      refine ⟨600 - (i + 1), by omega, rfl, rfl, rfl, rfl, i + 1, rfl, by omega, ?_, h4.up (by omega) (by omega)⟩
      rw [show nI (6 * i) + (6 : Int32) = nI (6 * i + 6) from nI_add (6 * i) 6, show 6 * (i + 1) = 6 * i + 6 by omega]
    refine ⟨rfl, fun _ => ⟨Or.inr rfl, rfl, ?_, ?_⟩, fun hlt => ?_⟩
    · obtain ⟨tp, b, h⟩ := hJ
      have := h.2.2.2.2.2.2.1
      omega
    · obtain ⟨tp, b, h⟩ := hJ
      have := h.2.2.2.2.2.2.2
      omega
    · have h6 : 6 * i + 6 ≤ L := Nat.not_lt.mp (fun w => hlt ((sub6 (by omega) (by omega)).mpr w))
      have v0 : vp_in (nI (6 * i)) L := vp_in_nI (by omega) (by omega)
      have v1 : vp_in (nI (6 * i) + 1) L := by rw [show nI (6 * i) + (1 : Int32) = nI (6 * i + 1) from nI_add (6 * i) 1]; exact vp_in_nI (by omega) (by omega)
      have v2 : vp_in (nI (6 * i) + 2) L := by rw [show nI (6 * i) + (2 : Int32) = nI (6 * i + 2) from nI_add (6 * i) 2]; exact vp_in_nI (by omega) (by omega)
      have v3 : vp_in (nI (6 * i) + 3) L := by rw [show nI (6 * i) + (3 : Int32) = nI (6 * i + 3) from nI_add (6 * i) 3]; exact vp_in_nI (by omega) (by omega)
      have v4 : vp_in (nI (6 * i) + 4) L := by rw [show nI (6 * i) + (4 : Int32) = nI (6 * i + 4) from nI_add (6 * i) 4]; exact vp_in_nI (by omega) (by omega)
      have v5 : vp_in (nI (6 * i) + 5) L := by rw [show nI (6 * i) + (5 : Int32) = nI (6 * i + 5) from nI_add (6 * i) 5]; exact vp_in_nI (by omega) (by omega)
      obtain ⟨tp, b, h⟩ := hJ
      have hK := h.1.1.1.1.1
      refine ⟨rfl, v0, fun _ => ?_, fun _ => ⟨fun _ => ?_, fun _ => ⟨fun _ => ?_, fun _ => ⟨fun _ => ?_, fun _ => ⟨fun _ => ?_, fun _ => ⟨fun _ => ?_, fun _ => ⟨fun _ => ?_, fun _ => ⟨fun _ => ?_, fun _ => ⟨fun _ => ?_, fun _ => ⟨fun _ => ?_, fun _ => ⟨fun _ => ?_, fun _ => ?_⟩⟩⟩⟩⟩⟩⟩⟩⟩⟩⟩
      · refine ⟨rfl, v1, rfl, v2, rfl, v3, rfl, v4, rfl, v5, hK, (pFeed (d := d + 1103) h ?_).imp (fun o t2 ho => aft_I ho (fun r t2 h2 => ⟨rfl, v1, rfl, v2, rfl, v3, rfl, v4, rfl, v5, h2⟩))⟩
        exact fun r t3 hj => en 800 12000 (by decide) (by decide) h6 hj
      · refine ⟨rfl, v1, hK, (pJson (E := d + 964) h ?_).imp (fun o t2 ho => aft_I ho (fun r t2 h2 => ⟨rfl, v1, h2⟩))⟩
        exact fun r t3 hj => en 8 600 (by decide) (by decide) h6 hj
      · refine ⟨rfl, v1, hK, (pQuery (E := d + 874) h ?_).imp (fun o t2 ho => aft_I ho (fun r t2 h2 => ⟨rfl, v1, h2⟩))⟩
        exact fun r t3 hj => en 8 600 (by decide) (by decide) h6 hj
      · refine ⟨rfl, v1, hK, (pFault (d := d + 1104) h ?_).imp (fun o t2 ho => aft_I ho (fun r t2 h2 => ⟨rfl, v1, h2⟩))⟩
        exact fun r t3 hj => ⟨fun _ => en 0 0 (by decide) (by decide) h6 hj, fun e => absurd rfl e⟩
      · refine ⟨hK, (pFind (d := d) h ?_).imp (fun o t2 ho => aft_I ho (fun r t2 h2 => h2))⟩
        exact fun r r' t3 hj => en 1 6 (by decide) (by decide) h6 hj
      · refine ⟨rfl, v1, rfl, v2, hK, (pFound (d := d + 1101) h ?_).imp (fun o t2 ho => aft_I ho (fun r t2 h2 => ⟨rfl, v1, rfl, v2, h2⟩))⟩
        exact fun r r' t3 hj => en 0 0 (by decide) (by decide) h6 hj
      · refine ⟨rfl, v1, hK, (pNumber (d := d + 1102) h ?_).imp (fun o t2 ho => aft_J ho (fun r t2 h2 => ⟨rfl, v1, h2⟩))⟩
        exact fun r r' t3 hj => en 0 0 (by decide) (by decide) h6 hj
      · refine ⟨rfl, v1, hK, (pPath (d := d + 1065) h ?_).imp (fun o t2 ho => aft_I ho (fun r t2 h2 => ⟨rfl, v1, h2⟩))⟩
        exact fun r r' t3 hj => en 0 0 (by decide) (by decide) h6 hj
      · refine ⟨rfl, v1, hK, (pText (d := d + 1035) h ?_).imp (fun o t2 ho => aft_I ho (fun r t2 h2 => ⟨rfl, v1, h2⟩))⟩
        exact fun r r' t3 hj => en 0 0 (by decide) (by decide) h6 hj
      · refine ⟨rfl, v1, (pOut (d := d + 1100) h ?_).imp (fun o t2 ho => aft_I ho (fun r t2 h2 => ⟨rfl, v1, h2⟩))⟩
        exact fun r r' t3 hj => en 1 6 (by decide) (by decide) h6 hj
      · refine ⟨rfl, v1, hK, (pAbout (d := d + 1102) h ?_).imp (fun o t2 ho => aft_I ho (fun r t2 h2 => ⟨rfl, v1, h2⟩))⟩
        exact fun r r' t3 hj => en 0 0 (by decide) (by decide) h6 hj
      · exact en 0 0 (by decide) (by decide) h6 ⟨tp, b, h⟩
end LP2
/-- the law's entry, with what its heap holds at first -/
theorem law_W2 {C : Cx} {p : Program} {e : Env} {s : State} {m : MethodId} {below : List Frame} {meth : Method} {c : Code} {b d nc ns : Nat} {R : Room} (hC : Ctx C MLw p s m meth c) (hB : cB C = s.heap.size) (hH : cH C = s.heap) (hb : (cX C).1 = b)
    (hR1 : frD d ≤ R.frames) (hR2 : nc ≤ R.cells) (hR3 : ns ≤ R.slots) (hR4 : loD d ≤ R.locals)
    (hw : ∀ t0 : Ht, tN t0 = s.heap.size → tU t0 = 0 → (∀ x, tK t0 x = 0) → WG C MLw d t0 (fun o t => o = .inl (some (svI 1)) ∧ tN t ≤ tN t0 + nc ∧ tU t ≤ tU t0 + ns) 0 [(0, svR (some (cX C).1))] [] t0) :
    W p (cL C) e R s m #[Value.ref b] below meth c s.heap [] 0 0 (fun t => ∃ o, t.status = .running ∧ Ended t below o ∧ o = .returned (some (.int 1)) ∧ Framed s o t [] nc ns) (entryFrame m ([Value.ref b] : List Value).toArray 7) := by
  subst hb
  obtain ⟨o, t', ⟨ho, hn, hu⟩, hn0, hu0, g⟩ := hw (s.heap.size, 0, fun _ => 0, fun _ => 0, fun _ _ => 0, fun _ _ => 0, fun _ _ => none) rfl rfl (fun _ => rfl)
  subst ho
  have hl := lv_entry [Value.ref (cX C).1] (n := 7) (by show 1 ≤ 7; decide)
  rw [lg_entry_eq]
  generalize (lg_sl [Value.ref (cX C).1] ++ List.replicate (7 - (lg_sl [Value.ref (cX C).1]).length) Slot.unset).toArray = ls at hl ⊢
  have hR : Rel C (tv (s.heap.size, 0, fun _ => 0, fun _ => 0, fun _ _ => 0, fun _ _ => 0, fun _ _ => none)) s.heap := ⟨rfl, by rw [hB]; exact Nat.le_refl _, fun q _ => by rw [hH], fun a ha => absurd rfl ha⟩
  have k := g p e s m #[Value.ref (cX C).1] below meth c s.heap [] ls hC hR hR (Nat.le_refl _) (Nat.le_refl _) (fun _ hz => by cases hz) hl
  rw [Nat.sub_self, Nat.sub_self] at k
  intro T hT X
  have hn1 : tN t' ≤ s.heap.size + nc := hn
  have hu1 : tU t' ≤ 0 + ns := hu
  obtain ⟨tt, st, oc, r1, r2, ⟨r3, r3'⟩, r4, Ls, r5, r6⟩ := k T hT (st_room X (rm_mono X.room hR1 (by show tN t' - s.heap.size ≤ _; omega) (by show tU t' - 0 ≤ _; omega) hR4))
  have r3'' : oc = .returned (some (.int 1)) := r3'
  refine ⟨tt, st, oc, r1, r2, r3'', ⟨_, r3''⟩, r4, sbn_mono (sbn_drop r5 (fun q hq => by rw [← hB]; exact r6 q hq)) (by show tN t' - s.heap.size ≤ _; omega) (by show tU t' - 0 ≤ _; omega)⟩
