/-! readDotted -/
section PN
variable {b : By} {n : Nat}
theorem pnF_ok : ∀ (f i : Nat) (cs cs' : List Nat) (j : Nat), i ≤ n → pnF b n f i cs = .inl (cs', j) → i ≤ j ∧ j ≤ n ∧ ∃ ms, cs' = cs ++ ms ∧ ms.length + i ≤ j ∧ ∀ x ∈ ms, x < 1114112 := by
  intro f
  induction f with
  | zero =>
    intro i cs cs' j hi h
    rw [pnF] at h
    injection h with h
    injection h with h1 h2
    subst h1 h2
    exact ⟨by omega, hi, [], by simp, by simp, by simp⟩
  | succ f ih =>
    intro i cs cs' j hi h
    rw [pnF] at h
    split at h
    · split at h
      · rename_i l v e
        obtain ⟨e1, e2, e3⟩ := cpS_le e
        obtain ⟨g1, g2, ms, g3, g4, g5⟩ := ih _ _ _ _ e2 h
        refine ⟨by omega, g2, v :: ms, by rw [g3]; simp, by simp; omega, fun x hx => ?_⟩
        rcases List.mem_cons.mp hx with rfl | hx
        · exact e3
        · exact g5 x hx
      · cases h
    · injection h with h
      injection h with h1 h2
      subst h1 h2
      exact ⟨by omega, hi, [], by simp, by simp, by simp⟩
theorem pnS_ok {i j : Nat} {cs : List Nat} (hn : n ≤ 1200) (hi : i ≤ n) (h : pnS b n i = .inl (cs, j)) : i < j ∧ j ≤ n ∧ cs.length + i ≤ j ∧ okC cs := by
  unfold pnS at h
  cases hp : pnF b n (n + 1 - i) i [] with
  | inr p => rw [hp] at h; cases h
  | inl x =>
    obtain ⟨cs0, j0⟩ := x
    rw [hp] at h
    cases cs0 with
    | nil => cases h
    | cons c cs1 =>
      have h' : (Sum.inl (c :: cs1, j0) : (List Nat × Nat) ⊕ Nat) = .inl (cs, j) := h
      injection h' with h'
      injection h' with h1 h2
      subst h1 h2
      obtain ⟨g1, g2, ms, g3, g4, g5⟩ := pnF_ok _ _ _ _ _ hi hp
      have g6 : c :: cs1 = ms := by simpa using g3
      rw [← g6] at g4 g5
      have g7 : (c :: cs1).length = cs1.length + 1 := rfl
      exact ⟨by omega, g2, g4, by omega, fun x hx => by have := g5 x hx; omega⟩
end PN
section QDT
variable {C : Cx} {d E : Nat} {Post : OutT → Ht → Prop} {t t1 t' : Ht} {qr r tp ch : Nat} {b : By} {n i o f : Nat} {L : LT}
/-- the only selector of a segment -/
theorem KB.add {a l j : Nat} {x : QF} {s : Bool} {sp : (Nat × LT × QF × Bool) ⊕ (Nat × Nat)} {rc rs : Nat} {P : OutT → Ht → Prop} (kk : KB C qr r tp ch b n o t a l i L sp rc rs Post) (hC : CQ t' qr r tp ch b n j o L) (hX : QX qr r ch t t') (hl : LsA C t l [] 0 0) (haN : a < tN t) (hQ : L.1 = 0 → QR C t' x 2 [] (rg (tN t) (tN t')) [tN t] false) (hK : tK t' (tN t) = 10) (hN : tN t < tN t') (hij : i < j) (hB1 : tN t' + 1 + rc ≤ tN t + 40 * (j - i)) (hB2 : tU t' + 10 + rs ≤ tU t + 600 * (j - i)) (hsp : sp = .inl (j, L, qP x qN, s)) (k : ∀ t4, Post (.inl (some (svI (bI s)))) t4 → P (.inl (some (svI 1))) t4) : CalG C mtab (d + 8) 273 [svR (some l), svR (some (tN t))] t' P := by
  have hl1 := hl.1
  have hlN := hl.2.2.2.2.1
  have kl : tK t' l = 1 := (hX.2.1 l hlN).1.trans hl1
  have lq : l ≠ qr ∧ l ≠ r ∧ l ≠ ch ∧ l ≠ tp := by
    refine ⟨fun z => ?_, fun z => ?_, fun z => ?_, fun z => ?_⟩
    · rw [z, hC.2.2.1.1] at kl; cases kl
    · rw [z, hC.1.1.1] at kl; cases kl
    · rw [z, hC.1.2.2.1] at kl; cases kl
    · rw [z, hC.1.1.2.2.1] at kl; cases kl
  have hl2 : LsA C t' l [] 0 0 := hl.frame hX.1 (hX.same hlN lq.1 lq.2.1 lq.2.2.1) (fun z => absurd z (Nat.lt_irrefl _))
  refine qadd (kd := 10) (d := d) hl2 (by omega) (by simp) (fun z hz => by cases hz) ⟨hK, hN⟩ (Or.inr (Or.inl rfl)) (fun t3 c' e' g1 g2 g3 g4 g5 => ?_)
  have g5' : e' = tN t' ∧ tN t3 = tN t' + 1 ∧ tU t3 = tU t' + 10 := by
    rcases g5 with ⟨q1, -⟩ | ⟨q1, q2, -, q4⟩
    · omega
    · exact ⟨q1, q2, q4 rfl rfl⟩
  have hs3 : ∀ x, x < tN t' → x ≠ l → sameAt t' t3 x := fun x x1 x2 => g4 x x1 x2 (fun z => absurd z (Nat.lt_irrefl _))
  have hC3 : CQ t3 qr r tp ch b n j o L := hC.old (by omega) (fun x x1 x2 => hs3 x x1 (by rcases x2 with rfl | rfl | rfl | rfl <;> (intro z; first | exact lq.1 z.symm | exact lq.2.1 z.symm | exact lq.2.2.1 z.symm | exact lq.2.2.2 z.symm)))
  have hX3 : QXe [l] qr r ch t t3 := (QXe.rx (X := [l]) hX).up (QXe.of (X := [l]) (by omega) (fun x x1 x2 => hs3 x x1 (by simpa using x2))) (fun x hx => Or.inl hx)
  refine k t3 (kk.1 j L _ s hsp t3 [tN t] c' e' hC3 hX3 g1 g2 ⟨g3, by omega, by omega⟩ (fun z => ⟨z, rfl, ?_⟩) hij ⟨by omega, by omega⟩)
  show QR C t3 (.append x .nil) 2 [a, l, e'] (rg (tN t) (tN t3)) [tN t] false
  unfold QR
  rw [if_neg (by decide), if_neg (by decide)]
  refine ⟨tN t, [], rfl, ⟨rg (tN t) (tN t'), fun y hy => ⟨hy.1, by have := hy.2; omega⟩, fun y hy w => ?_, QR.frame (t := t') (t' := t3) (by omega) _ _ _ _ _ _ (hQ z) (fun y hy => hs3 y hy.2 (by have := hy.1; omega))⟩, rfl⟩
  simp only [List.mem_cons, List.not_mem_nil, or_false] at hy
  have w1 := w.1
  have w2 := w.2
  rcases hy with rfl | rfl | rfl <;> omega
set_option maxHeartbeats 1000000 in
theorem q57 {strict : Bool} {a l : Nat} (h : CQ t qr r tp ch b n i o L) (hi1 : 1 ≤ i) (ha : tK t a = 9 ∧ tR t a 0 = some l ∧ a < tN t) (hl : LsA C t l [] 0 0) (kk : KB C qr r tp ch b n o t a l i L (dtQ b n strict i L) 30 550 Post) : CalG C mtab (d + 9) 57 [svR (some qr), svR (some a), svI (bI strict)] t Post := by
  obtain ⟨n1, n2, n3, n4, n5, n6⟩ := h.ne
  have hv := h.2.2.1
  have hK := h.1.1.1
  have hn : n ≤ 1200 := h.1.1.2.2.2.2.2.2.1
  have hin := h.2.1
  have hqN := h.2.2.2.1
  have hrN := h.1.2.2.2.2.2.1
  have hcN := h.1.2.2.2.2.1
  have htN := h.1.2.2.2.2.2.2
  have hat := h.1.1.2.2.2.2.2.1
  have nm : KB C qr r tp ch b n o t a l i L (match pnS b n i with
      | .inr p => .inr (1, p)
      | .inl (cs, j) => .inl (j, L, qP (qNam cs) qN, true)) 30 550 Post → CalG C mtab (d + 8) 109 [svR (some (tN t)), svI (0 : Int32)] (tNew t 10 0 8) (aftV (fun v1 t2 => v1 = none ∧ tK t2 qr = 6 ∧ onR (tR t2 qr 0) (fun a6 => tK t2 a6 = 7 ∧ CalG C mtab (d + 8) 96 [svR (some a6)] t2 (aftV (fun v7 t8 => rR v7 (fun x12 => tK t8 (tN t) = 10 ∧ onR (some a) (fun a13 => tK (sR t8 (tN t) 1 x12) a13 = 9 ∧ onR (tR (sR t8 (tN t) 1 x12) a13 0) (fun a14 => tK (sR t8 (tN t) 1 x12) a14 = 1 ∧ CalG C mtab (d + 8) 273 [svR (some a14), svR (some (tN t))] (sR t8 (tN t) 1 x12) (aftV (fun v15 t16 => rI v15 (fun x20 => ((1 : Int32) = 0 ∨ (1 : Int32) = 1) ∧ Post (.inl (some (svI (1 : Int32)))) t16)) (fun k17 q18 t19 => Post (.inr (k17, q18)) t19)))))) (fun k9 q10 t11 => Post (.inr (k9, q10)) t11)))) (fun k3 q4 t5 => Post (.inr (k3, q4)) t5)) := by
    intro kk
    refine q109 (fun t2 hF => ?_)
    obtain ⟨f1, ⟨f2, f3⟩, f4, f5, f6, f7, f8⟩ := hF
    have hC2 : CQ t2 qr r tp ch b n i o L := h.old (by omega) (fun x hx _ => f1 x hx)
    have hX2 : QX qr r ch t t2 := QX.of (by omega) f1
    have hv2 := hC2.2.2.1
    refine ⟨rfl, hv2.1, onS hv2.2.1 ⟨hC2.1.1.1, r96 hC2.1 hC2.2.1 hi1 (fun cs j es t3 x1 x2 x3 x4 x5 => ?_) (fun p es t3 hB => ?_)⟩⟩
    · obtain ⟨s1, s2, s3, s4⟩ := pnS_ok hn hin es
      rw [es] at kk
      have s3' : sameAt t2 t3 (tN t) := x1.same (by omega) (by omega) (by omega)
      have hC3 := hC2.x x1 x4 s2
      have hC4 : CQ (sR t3 (tN t) 1 (some (tN t2))) qr r tp ch b n j o L := hC3.old (Nat.le_refl _) (fun x _ hx => sameAt_sR (by rcases hx with rfl | rfl | rfl | rfl <;> omega))
      have hX4 : QX qr r ch t (sR t3 (tN t) 1 (some (tN t2))) := (hX2.trans (QX.rx x1)).up (by show tN t ≤ tN t3; omega) (fun x hx => sameAt_sR (by omega))
      have r4 : tR (sR t3 (tN t) 1 (some (tN t2))) (tN t) 1 = some (tN t2) := by simp [ht]
      have i4 : IAr (sR t3 (tN t) 1 (some (tN t2))) (tN t2) cs := x5.frame (sameAt_sR (by omega))
      have k4 : tK (sR t3 (tN t) 1 (some (tN t2))) (tN t) = 10 := s3'.1.trans f4
      have j4 : tI (sR t3 (tN t) 1 (some (tN t2))) (tN t) 0 = 0 := (s3'.2.2.1 0).trans f5
      have c4 : tN (sR t3 (tN t) 1 (some (tN t2))) = tN t3 := rfl
      have c5 : tU (sR t3 (tN t) 1 (some (tN t2))) = tU t3 := rfl
      refine ⟨s3'.1.trans f4, ?_⟩
      revert hC4 hX4 r4 i4 k4 j4 c4 c5
      generalize sR t3 (tN t) 1 (some (tN t2)) = t4
      intro hC4 hX4 r4 i4 k4 j4 c4 c5
      have hX4a := hX4.2.1 a ha.2.2
      have hX4l := hX4.2.1 l hl.2.2.2.2.1
      refine ⟨hX4a.1.trans ha.1, onS ((hX4a.2.2.1 0).trans ha.2.1) ⟨hX4l.1.trans hl.1, KB.add (x := qNam cs) (s := true) (d := d) kk hC4 hX4 hl ha.2.2 (fun _ => ?_) k4 (by omega) s1 (by omega) (by omega) rfl (fun t5 hp => ⟨Or.inr rfl, hp⟩)⟩⟩
      refine QR.mk (k := 1) (us := []) (av' := []) (F1 := fun _ => False) (by decide) (by decide) ⟨Nat.le_refl _, by omega⟩ (fun _ z => z.elim) ?_ (Or.inl rfl)
      unfold HL
      rw [if_neg (by decide), if_neg (by decide), if_pos rfl, if_pos rfl, unC_qC]
      exact ⟨k4, j4, tN t2, r4, ⟨by omega, by omega⟩, i4, s4⟩
    · rw [es] at kk
      refine kk.2 1 p rfl t3 (QDe.of (QXe.rx hX2) (hC2.bd hB)) ?_
      have := hB.2.1
      have := hB.2.2.1
      unfold BG
      omega
  refine cal57 ?_
  cases hst : strict with
  | true =>
    rw [hst] at kk
    refine ⟨fun z => absurd z (by decide), fun _ => nm ?_⟩
    unfold dtQ at kk
    rw [if_neg (fun z => by cases z.1)] at kk
    exact kk
  | false =>
    rw [hst] at kk
    unfold dtQ at kk
    refine ⟨fun _ => ⟨hv.1, onS hv.2.1 ⟨hK, r85 h.1.1 ⟨fun e42 => ⟨hv.1, onS hv.2.1 ⟨hK, onS hv.2.1 ⟨hK, ?_⟩⟩⟩, fun e42 => nm ?_⟩⟩⟩, fun z => absurd rfl z⟩
    · rw [if_pos ⟨rfl, e42⟩] at kk
      rw [hat, nI_1]
      have hlt := (pk_nn e42 (by decide)).1
      have hC1 := h.to (j := i + 1) (by omega)
      have hX1 : QX qr r ch t (sI t r 4 (nI (i + 1))) := QX.rx (RX.I (Or.inr rfl))
      have ka1 : tK (sI t r 4 (nI (i + 1))) a = 9 := ha.1
      have ra1 : tR (sI t r 4 (nI (i + 1))) a 0 = some l := ha.2.1
      have c1 : tN (sI t r 4 (nI (i + 1))) = tN t := rfl
      have c2 : tU (sI t r 4 (nI (i + 1))) = tU t := rfl
      revert hC1 hX1 ka1 ra1 c1 c2
      generalize sI t r 4 (nI (i + 1)) = t1
      intro hC1 hX1 ka1 ra1 c1 c2
      refine ⟨ka1, ?_⟩
      rw [← c1]
      refine q109 (fun t2 hF => ?_)
      obtain ⟨f1, ⟨f2, f3⟩, f4, f5, f6, f7, f8⟩ := hF
      rw [c1] at f1 f2 f4 f5 ⊢
      have hC2 : CQ t2 qr r tp ch b n (i + 1) o L := hC1.old (by omega) (fun x hx _ => f1 x (by omega))
      have hX2 : QX qr r ch t t2 := hX1.up (by omega) (fun x hx => f1 x hx)
      have hX2l := hX2.2.1 l hl.2.2.2.2.1
      refine ⟨rfl, onS ra1 ⟨hX2l.1.trans hl.1, KB.add (x := qAll) (s := false) (d := d) kk hC2 hX2 hl ha.2.2 (fun _ => ?_) f4 (by omega) (by omega) (by omega) (by omega) rfl (fun t5 hp => ⟨Or.inl rfl, hp⟩)⟩⟩
      refine QR.mk (k := 2) (us := []) (av' := []) (F1 := fun _ => False) (by decide) (by decide) ⟨Nat.le_refl _, by omega⟩ (fun _ z => z.elim) ?_ (Or.inl rfl)
      unfold HL
      rw [if_neg (by decide), if_neg (by decide), if_pos rfl, if_neg (by decide), if_pos rfl]
      exact ⟨f4, f5⟩
    · rw [if_neg (fun z => e42 z.2)] at kk
      exact kk
end QDT
