/-! readComparison, readBasicFrom, readNegatedTest -/
def CPr (qr r tp ch : Nat) (b : By) (n o : Nat) (t1 t' : Ht) (a : Nat) (v : Int32) (k : Nat) (L1 : LT) : Prop := CQ t' qr r tp ch b n k o L1 ∧ QX qr r ch t1 t' ∧ (tK t' (tN t1) = 11 ∧ tI t' (tN t1) 0 = 2 ∧ tI t' (tN t1) 3 = 0 ∧ tI t' (tN t1) 4 = v ∧ tR t' (tN t1) 5 = some a) ∧ tN t' = tN t1 + 1 ∧ tU t' = tU t1 + 9
section QCP
variable {C : Cx} {X : List Nat} {d E : Nat} {Post : OutT → Ht → Prop} {t t1 t' : Ht} {qr r tp ch : Nat} {b : By} {n i o f : Nat} {L : LT}
theorem CPr.to {a k k' : Nat} {v : Int32} {L1 : LT} (h : CPr qr r tp ch b n o t1 t' a v k L1) (hr : r < tN t1) (hk : k' ≤ n) : CPr qr r tp ch b n o t1 (sI t' r 4 (nI k')) a v k' L1 := by
  obtain ⟨hC, hX, ⟨a1, a2, a3, a4, a5⟩, h1, h2⟩ := h
  exact ⟨hC.to hk, hX.trans (QX.rx (RX.I (Or.inr rfl))), ⟨a1, (sI_at (by omega)).trans a2, (sI_at (by omega)).trans a3, (sI_at (by omega)).trans a4, a5⟩, h1, h2⟩
theorem CPr.sg {a k : Nat} {v w : Int32} {L1 : LT} (h : CPr qr r tp ch b n o t1 t' a v k L1) (hq : qr < tN t1) (hr : r < tN t1) (hc : ch < tN t1) (htp : tp < tN t1) : CPr qr r tp ch b n o t1 (sI t' (tN t1) 4 w) a w k L1 := by
  obtain ⟨hC, hX, ⟨a1, a2, a3, a4, a5⟩, h1, h2⟩ := h
  exact ⟨hC.old (Nat.le_refl _) (fun x _ hx => sameAt_sI (by rcases hx with rfl | rfl | rfl | rfl <;> omega)), hX.up (by rw [sIN]; omega) (fun x hx => sameAt_sI (by omega)), ⟨a1, (sI_at (by omega)).trans a2, (sI_at (by omega)).trans a3, sI_eq, a5⟩, h1, h2⟩
theorem QR.m5 {k : Nat} {z : QF} {av as : List Nat} {F : Nat → Prop} {s : Bool} (h : QR C t z 6 av F as s) : QR C t (.tag k z) 5 av F as s := by
  unfold QR; rw [if_pos rfl]; exact h
theorem QR.m6 {x y : QF} {av : List Nat} {u v : Nat} {F F1 F2 : Nat → Prop} {s : Bool} (hx : isTg x = true) (hy : isTg y = true) (h1 : ∀ z, F1 z → F z) (h2 : nav av F1) (h3 : QR C t x 7 [] F1 [u] false) (g1 : ∀ z, F2 z → F z) (g2 : nav av F2) (g3 : QR C t y 7 [] F2 [v] false) (g4 : ∀ z, F1 z → ¬ F2 z) : QR C t (.append x y) 6 av F [u, v] s := by
  unfold QR; rw [if_neg (by decide), if_pos rfl]
  exact ⟨u, v, rfl, hx, hy, ⟨F1, h1, h2, h3, F2, g1, g2, g3, g4⟩⟩
theorem KFm.imp {sp : Qs} {rc rs : Nat} {P' : OutT → Ht → Prop} (h : KFm C qr r tp ch b n o rc rs t i L sp Post) (hp : ∀ a t, Post (.inl (some (svR (some a)))) t → P' (.inl (some (svR (some a)))) t) (hq : ∀ t, Post (.inr (200, 0)) t → P' (.inr (200, 0)) t) : KFm C qr r tp ch b n o rc rs t i L sp P' :=
  ⟨fun j L' x e t' a g1 g2 g3 g4 g5 g6 => hp _ _ (h.1 j L' x e t' a g1 g2 g3 g4 g5 g6), fun w p e t' g1 g2 => hq _ (h.2 w p e t' g1 g2)⟩
/-- a comparison's right side -/
def cpQ (b : By) (n f : Nat) (x : QF) (j : Nat) (L : LT) : Qs := match sgN b n j with
  | .inr p => .inr (1, p)
  | .inl (j, s) => match opQ b n f (orN b n f) (agN b n f) true (sk b n j) L with
    | .inr e => .inr e
    | .inl (k, L', y) => .inl (k, L', qT 13 (qT s (qP x y)))
set_option maxHeartbeats 1000000 in
theorem q72 {j a : Nat} {L1 : LT} {x : QF} (hf : f ≤ 16) (ih : ∀ f0, f = f0 + 1 → P63 C qr r tp ch b n (E + 8) f0) (ih9 : ∀ f0, f = f0 + 1 → P79 C qr r tp ch b n (E + 11) f0) (h : OH C X qr r tp ch b n (16 - f) t t1 i L j L1 x a) (hq : qr < tN t) (hr : r < tN t) (hc : ch < tN t) (htp : tp < tN t) (hop : atOp b n j = true) (kk : KFx C X qr r tp ch b n (16 - f) 30 400 t t1 i L (cpQ b n f x j L1) Post) : CalG C mtab (E + 15) 72 [svR (some qr), svR (some a)] t1 Post := by
  obtain ⟨k1, k2⟩ := kk
  obtain ⟨hC, hX, hQ, hO, ⟨hT, hk⟩, ⟨a1, a2, a3, hXb, hXa⟩, hij, hB⟩ := h
  have hjn := hC.2.1
  have hN1 := hX.1
  have hO' := hO
  obtain ⟨kd, sg, ⟨o1, -, -, -⟩, -⟩ := hO'
  unfold BG at hB
  have sn := sameAt_new (t := t1) (kd := 11) (l := 0) (u := 9) a2
  refine cal72 ?_
  unfold vc72
  refine ⟨sn.1.trans o1, ?_⟩
  rw [sn.2.2.1 1, a3]
  refine q111 (k := 2) (by omega) (by omega) (by omega) (fun t3 hF => ?_)
  obtain ⟨f1, ⟨f2, f3⟩, f4, f5, f6, f7⟩ := hF
  have hP : ∃ v, CPr qr r tp ch b n (16 - f) t1 (sR t3 (tN t1) 5 (some a)) a v j L1 := by
    refine ⟨tI t3 (tN t1) 4, (hC.old (by omega) (fun x hx _ => f1 x hx)).old (Nat.le_refl _) (fun x _ hx => sameAt_sR (by rcases hx with rfl | rfl | rfl | rfl <;> omega)), (QX.of (by omega) f1).up (by rw [sRN]; omega) (fun x hx => sameAt_sR (by omega)), ⟨f4, f5, f7, rfl, sR_eq⟩, f2, f3⟩
  refine ⟨rfl, f4, ?_⟩
  revert hP
  generalize sR t3 (tN t1) 5 (some a) = t4
  rintro ⟨v, hP⟩
  refine ⟨hP.1.2.2.1.1, q73 hP.1 hop (fun j' s e hlt s1 s6 hC5 => ?_) (fun p e t7 hD hN7 hU7 => ?_)⟩
  · have hP1 := hP.to (k' := j') (by omega) hC5.2.1
    revert hP1 hC5
    generalize sI t4 r 4 (nI j') = t8
    intro hC5 hP1
    refine ⟨hP1.2.2.1.1, ?_⟩
    have hP2 := hP1.sg (w := nI (s - 1)) (by omega) (by omega) (by omega) (by omega)
    revert hP2
    generalize sI t8 (tN t1) 4 (nI (s - 1)) = t9
    intro hP2
    have hC9 := hP2.1
    have hs9 := sk_le (b := b) hC9.2.1
    have slo9 := sk_lo (b := b) (n := n) (i := j')
    refine ⟨hC9.2.2.1.1, onS hC9.2.2.1.2.1 ⟨hC9.1.1.1, r87 hC9.1.1 hC9.2.1 ⟨rfl, ?_⟩⟩⟩
    have hP3 := hP2.to (k' := sk b n j') (by omega) hs9
    revert hP3
    generalize sI t9 r 4 (nI (sk b n j')) = t10
    intro hP3
    obtain ⟨hC10, hX10, ⟨c1, c2, c3, c4, c5⟩, d1, d2⟩ := hP3
    refine ⟨hC10.2.2.1.1, q74f (E := E) (strict := true) hf ih ih9 hC10 ⟨fun k L' y e2 t5 u g1 g2 g3 g4 g5 g6 g7 g8 => ?_, fun w p e2 t5 hD hB5 => ?_⟩⟩
    · have hsp : cpQ b n f x j L1 = .inl (k, L', qT 13 (qT s (qP x y))) := by unfold cpQ; rw [e]; show (match opQ b n f (orN b n f) (agN b n f) true (sk b n j') L1 with
          | .inr e => .inr e
          | .inl (k, L', y) => .inl (k, L', qT 13 (qT s (qP x y))) : Qs) = _; rw [e2]
      have hN5 := g2.1
      have sc := g2.same (x := tN t1) (by omega) (by omega) (by omega) (by omega)
      refine ⟨sc.1.trans c1, ?_⟩
      have hs : ∀ z, z ≠ tN t1 → sameAt t5 (sR t5 (tN t1) 6 (some u)) z := fun z hz => sameAt_sR hz
      have e1 : tK (sR t5 (tN t1) 6 (some u)) = tK t5 := sRK
      have e3 : tN (sR t5 (tN t1) 6 (some u)) = tN t5 := sRN
      have e4 : tU (sR t5 (tN t1) 6 (some u)) = tU t5 := sRU
      have e5 : tI (sR t5 (tN t1) 6 (some u)) = tI t5 := sRI
      have e6 : tR (sR t5 (tN t1) 6 (some u)) (tN t1) 6 = some u := sR_eq
      have e7 : tR (sR t5 (tN t1) 6 (some u)) (tN t1) 5 = tR t5 (tN t1) 5 := sR_at (by omega)
      revert hs e1 e3 e4 e5 e6 e7
      generalize sR t5 (tN t1) 6 (some u) = t6
      intro hs e1 e3 e4 e5 e6 e7
      unfold BG at g8
      refine k1 k L' _ hsp t6 (tN t1) (g1.old (by omega) (fun z _ hz => hs z (by rcases hz with rfl | rfl | rfl | rfl <;> omega))) ((hX10.trans g2).up (by omega) (fun z hz => hs z (by omega))) (fun z => ?_) ⟨by rw [e1]; exact sc.1.trans c1, by omega, by omega, fun w => by have := hXb _ w; omega⟩ (by omega) ⟨by omega, by omega⟩
      obtain ⟨z1, z2⟩ := g3 z
      obtain ⟨w1, w2⟩ := hQ z1
      refine ⟨w1, rfl, QR.mk (k := 13) (us := [a, u]) (av' := [tN t1]) (F1 := hg X (tN t) (tN t6)) (by decide) (by decide) ⟨⟨by omega, by omega⟩, fun w => by have := hXb _ w; omega⟩ (fun _ q => q) ?_ (Or.inr ?_)⟩
      · unfold HL
        rw [if_neg (by decide), if_neg (by decide), if_neg (by decide), if_pos rfl, if_neg (by decide), if_neg (by decide), if_pos rfl, e1, e5, e6, e7]
        exact ⟨sc.1.trans c1, (sc.2.2.1 0).trans c2, (sc.2.2.1 3).trans c3, (sc.2.2.1 4).trans c4, rfl, rfl, a, u, (sc.2.2.2.2 5).trans c5, rfl, rfl⟩
      · refine QR.m5 (QR.m6 (F1 := hg X (tN t) (tN t1)) (F2 := rg (tN t10) (tN t5)) hT g5 (fun q hq => ⟨⟨hq.1.1, by have := hq.1.2; omega⟩, hq.2⟩) (fun q hq w => ?_) ?_ (fun q hq => ⟨⟨by have := hq.1; omega, by have := hq.2; omega⟩, fun w => by have := hXb _ w; have := hq.1; omega⟩) (fun q hq w => ?_) ?_ (fun q hq w => by have := hq.1.2; have := w.1; omega))
        · rw [List.mem_singleton.mp hq] at w
          have := w.1.2
          omega
        · exact QR.frame (t := t1) (t' := t6) (by omega) _ _ _ _ _ _ w2 (fun q hq => (((hX10.trans g2).same hq.1.2 (by have := hq.1.1; omega) (by have := hq.1.1; omega) (by have := hq.1.1; omega))).trans (hs q (by have := hq.1.2; omega)))
        · rw [List.mem_singleton.mp hq] at w
          have := w.1
          omega
        · exact QR.frame (t := t5) (t' := t6) (by omega) _ _ _ _ _ _ z2 (fun q hq => hs q (by have := hq.1; omega))
    · have hsp : cpQ b n f x j L1 = .inr (w, p) := by unfold cpQ; rw [e]; show (match opQ b n f (orN b n f) (agN b n f) true (sk b n j') L1 with
          | .inr e => .inr e
          | .inl (k, L', y) => .inl (k, L', qT 13 (qT s (qP x y))) : Qs) = _; rw [e2]
      refine k2 w p hsp t5 (QD.of hX10 hD) ?_
      unfold BG at hB5 ⊢
      omega
  · have hsp : cpQ b n f x j L1 = .inr (1, p) := by unfold cpQ; rw [e]
    obtain ⟨-, hX4, -, d1, d2⟩ := hP
    refine k2 1 p hsp t7 (QD.of hX4 hD) ⟨by omega, by omega⟩
end QCP
