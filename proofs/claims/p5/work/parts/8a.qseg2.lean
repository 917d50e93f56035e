/-! readSegment, the method -/
section QS56
variable {C : Cx} {d E : Nat} {Post : OutT → Ht → Prop} {t t1 t' : Ht} {qr r tp ch : Nat} {b : By} {n i o f : Nat} {L : LT}
def dpQ (b : By) (n : Nat) (strict : Bool) (i : Nat) : Nat := if strict = false ∧ pk b n (i + 1) = 46 then 1 else 0
theorem sgQ_b {orD : Nat → LT → Qs} {strict : Bool} (h : pk b n i = 91) : sgQ b n f orD strict i L = mkQ 0 (bkQ b n f orD strict i L) := if_pos h
theorem sgQ_0 {orD : Nat → LT → Qs} {strict : Bool} (h : ¬ pk b n i = 91) (hd : dpQ b n strict i = 0) : sgQ b n f orD strict i L = mkQ 0 (dtQ b n strict (i + 1) L) := by
  unfold sgQ
  unfold dpQ at hd
  have : ¬ (strict = false ∧ pk b n (i + 1) = 46) := fun z => by rw [if_pos z] at hd; cases hd
  rw [if_neg h, if_neg this]
theorem sgQ_1 {orD : Nat → LT → Qs} {strict : Bool} (h : ¬ pk b n i = 91) (hd : dpQ b n strict i = 1) : sgQ b n f orD strict i L = if pk b n (i + 2) = 91 then mkQ 1 (bkQ b n f orD false (i + 2) L) else mkQ 1 (dtQ b n strict (i + 2) L) := by
  unfold sgQ
  unfold dpQ at hd
  have : strict = false ∧ pk b n (i + 1) = 46 := by
    by_cases z : strict = false ∧ pk b n (i + 1) = 46
    · exact z
    · rw [if_neg z] at hd; cases hd
  rw [if_neg h, if_pos this]
theorem dpQ_le {strict : Bool} : dpQ b n strict i ≤ 1 := by unfold dpQ; split <;> omega
theorem dpQ_n {strict : Bool} (h : dpQ b n strict i = 1) : i + 1 < n := by
  unfold dpQ at h
  by_cases z : strict = false ∧ pk b n (i + 1) = 46
  · exact (pk_nn z.2 (by decide)).1
  · rw [if_neg z] at h; cases h
set_option maxHeartbeats 2000000 in
theorem q56 {strict s0 : Bool} {p lp c e : Nat} {us : List Nat} (hf : f ≤ 16) (ih : ∀ f0, f = f0 + 1 → P63 C qr r tp ch b n (E + 8) f0) (h : CQ t qr r tp ch b n i (16 - f) L) (hi : i < n) (hp : tK t p = 5 ∧ tR t p 1 = some lp ∧ p < tN t ∧ tI t p 2 = bI s0) (hl : LsA C t lp us c e) (hc : 2 * c ≤ 3 * us.length + 20) (hlen : us.length ≤ 600) (hus : ∀ z ∈ us, tK t z = 9 ∧ z < tN t)
    (kk : KG C qr r tp ch b n (16 - f) t p lp c e us s0 i L (sgQ b n f (orN b n f) strict i L) Post) : CalG C mtab (E + 12) 56 [svR (some qr), svR (some p), svI (bI strict)] t Post := by
  obtain ⟨k1, k2⟩ := kk
  have hqN := h.2.2.2.1
  have hrN := h.1.2.2.2.2.2.1
  have hcN := h.1.2.2.2.2.1
  have htN := h.1.2.2.2.2.2.2
  have hlN := hl.2.2.2.2.1
  have hpN := hp.2.2.1
  have nl := h.nk hl.1 (by omega)
  have np := h.nk hp.1 (by omega)
  have plp : p ≠ lp := fun z => by have := hp.1; rw [z, hl.1] at this; cases this
  have ne : 0 < c → (e ≠ qr ∧ e ≠ r ∧ e ≠ ch ∧ e ≠ tp) ∧ e ≠ p ∧ e < tN t := fun z => ⟨h.nk (hl.kd z).1 (by omega), fun y => (by have := hp.1; rw [← y, (hl.kd z).1] at this; cases this), (hl.kd z).2⟩
  have hdl := dpQ_le (b := b) (n := n) (strict := strict) (i := i)
  refine cal56 (fun m l3 t' => m = 2 ∧ l3 = some (tN t) ∧ ¬ pk b n i = 91 ∧ ∃ c' e', SGm C qr r tp ch b n (16 - f) t t' p lp c e us s0 L (dpQ b n strict i) (i + 1) c' e')
    (fun m l3 t' => m = 1 ∧ l3 = some (tN t) ∧ ¬ pk b n i = 91 ∧ ∃ c' e', SGm C qr r tp ch b n (16 - f) t t' p lp c e us s0 L (dpQ b n strict i) (i + 1 + dpQ b n strict i) c' e')
    (fun m l3 l4 t' => m = 0 ∧ l3 = some (tN t) ∧ SH C qr r tp ch b n (16 - f) t t' p lp c e us s0 i L (sgQ b n f (orN b n f) strict i L) l4) ?_ ?_ ?_ ?_
  · refine q108 (fun t2 hF => ?_)
    obtain ⟨f1, ⟨f2, f3⟩, f4, f5, f6, f7⟩ := hF
    have hC2 : CQ t2 qr r tp ch b n i (16 - f) L := h.old (by omega) (fun x hx _ => f1 x hx)
    have s2p := f1 p hpN
    have s2l := f1 lp hlN
    have hl2 : LsA C t2 lp us c e := hl.frame (by omega) s2l (fun z => f1 e (ne z).2.2)
    refine ⟨rfl, s2p.1.trans hp.1, onS ((s2p.2.2.2.2 1).trans hp.2.1) ⟨hl2.1, qadd (kd := 9) (d := E + 3) hl2 hc hlen (fun z hz => ⟨(f1 z (hus z hz).2).1.trans (hus z hz).1, by have := (hus z hz).2; omega⟩) ⟨f4, by omega⟩ (Or.inl rfl) (fun t3 c' e' g1 g2 g3 g4 g5 => ?_)⟩⟩
    have g2' : 2 * c' ≤ 3 * (us.length + 1) + 20 := by simpa using g2
    have g5' : ((0 < c ∧ e' = e ∧ e < tN t) ∨ e' = tN t + 2) ∧ e' < tN t3 ∧ tN t + 2 ≤ tN t3 ∧ tN t3 ≤ tN t + 3 ∧ tU t3 ≤ tU t + 915 := by
      rcases g5 with ⟨q1, q2, q3, q4, q5⟩ | ⟨q1, q2, q3, q4⟩
      · have := (ne q1).2.2
        exact ⟨Or.inl ⟨q1, q2, this⟩, by omega, by omega, by omega, by omega⟩
      · exact ⟨Or.inr (by omega), by omega, by omega, by omega, by omega⟩
    have hX2 : QXe (pX p lp c e) qr r ch t t2 := QXe.rx (QX.of (by omega) f1)
    have hX3 : QXe (pX p lp c e) qr r ch t t3 := hX2.trans (QXe.of (by omega) (fun x x1 x2 => g4 x x1 (nX_ x2).2.1 (nX_ x2).2.2))
    have hC3 : CQ t3 qr r tp ch b n i (16 - f) L := hC2.old (by omega) (fun x x1 x2 => g4 x x1 (by rcases x2 with rfl | rfl | rfl | rfl <;> (intro z; first | exact nl.1 z.symm | exact nl.2.1 z.symm | exact nl.2.2.1 z.symm | exact nl.2.2.2 z.symm)) (fun z y => by
      have w := (ne z).1
      rcases x2 with rfl | rfl | rfl | rfl
      · exact w.1 y.symm
      · exact w.2.1 y.symm
      · exact w.2.2.1 y.symm
      · exact w.2.2.2 y.symm))
    have s3a := g4 (tN t) (by omega) (by omega) (fun z => by have := (ne z).2.2; omega)
    have s3b := g4 (tN t + 1) (by omega) (by omega) (fun z => by have := (ne z).2.2; omega)
    have s3p := g4 p (by omega) plp (fun z y => (ne z).2.1 y.symm)
    have hS : SGm C qr r tp ch b n (16 - f) t t3 p lp c e us s0 L 0 i c' e' := ⟨hC3, hX3, ⟨g1, g2', g3⟩, g5'.1, g5'.2, ⟨s3a.1.trans f4, (s3a.2.2.1 1).trans f5, (s3a.2.2.2.2 0).trans f6, f7.frame (by omega) s3b (fun z => absurd z (Nat.lt_irrefl _))⟩, ⟨s3p.1.trans (s2p.1.trans hp.1), (s3p.2.2.2.2 1).trans ((s2p.2.2.2.2 1).trans hp.2.1), (s3p.2.2.1 2).trans ((s2p.2.2.1 2).trans hp.2.2.2), (s3p.2.2.1 0).trans (s2p.2.2.1 0)⟩⟩
    have hv := hC3.2.2.1
    have hK := hC3.1.1.1
    have hS6 := hS.2.2.2.2.2.1
    refine ⟨hv.1, onS hv.2.1 ⟨hK, r85 hC3.1.1 ⟨fun e91 => ⟨hv.1, q58 (E := E) hf ih hC3 hi ⟨hS6.1, hS6.2.2.1, by omega⟩ hS6.2.2.2 ?_⟩, fun e91 => ⟨hv.1, onS hv.2.1 ⟨hK, onS hv.2.1 ⟨hK, ?_⟩⟩⟩⟩⟩⟩
    · exact SGm.tail hS hqN hrN hcN hpN hlN (sgQ_b e91) (by omega) (Nat.le_refl _) (by omega) (by omega) (fun x t4 hh => ⟨0, rfl, rfl, rfl, rfl, rfl, hh⟩) k2
    rw [hC3.1.1.2.2.2.2.2.1, nI_1]
    have hS1 := hS.to hrN hpN hlN (k' := i + 1) (by omega)
    revert hS1
    generalize sI t3 r 4 (nI (i + 1)) = t5
    intro hS1
    have hC5 := hS1.1
    have hv5 := hC5.2.2.1
    have k9 := hS1.2.2.2.2.2.1.1
    have dn : ∀ x : Int32, ∀ dd, dpQ b n strict i = dd → x = nI dd → ∃ k, some qr = some qr ∧ some p = some p ∧ bI strict = bI strict ∧ k = 2 ∧ some (tN t) = some (tN t) ∧ ¬ pk b n i = 91 ∧ ∃ c' e', SGm C qr r tp ch b n (16 - f) t (sI t5 (tN t) 1 x) p lp c e us s0 L (dpQ b n strict i) (i + 1) c' e' := fun x dd hdd hx => ⟨2, rfl, rfl, rfl, rfl, rfl, e91, c', e', by rw [hdd]; exact hS1.deep hqN hrN hcN htN hpN hlN hx⟩
    cases hst : strict with
    | true =>
      refine ⟨fun z => absurd z (by decide), fun _ => ⟨k9, Or.inl rfl, ?_⟩⟩
      rw [← hst]
      exact dn 0 0 (by unfold dpQ; rw [hst]; exact if_neg (fun z => by cases z.1)) rfl
    | false =>
      refine ⟨fun _ => ⟨hv5.1, onS hv5.2.1 ⟨hC5.1.1.1, r85 hC5.1.1 ⟨fun e46 => ⟨k9, Or.inr rfl, ?_⟩, fun e46 => ⟨k9, Or.inl rfl, ?_⟩⟩⟩⟩, fun z => absurd rfl z⟩
      · rw [← hst]
        exact dn 1 1 (by unfold dpQ; exact if_pos ⟨hst, e46⟩) rfl
      · rw [← hst]
        exact dn 0 0 (by unfold dpQ; exact if_neg (fun z => e46 z.2)) rfl
  · rintro m l3 t' ⟨rfl, rfl, h91, c', e', hS⟩
    have hC5 := hS.1
    have hv5 := hC5.2.2.1
    have hK5 := hC5.1.1.1
    have k9 := hS.2.2.2.2.2.1
    refine ⟨k9.1, fun e0 => ⟨1, by omega, rfl, rfl, rfl, rfl, rfl, h91, c', e', ?_⟩, fun e0 => ⟨hv5.1, onS hv5.2.1 ⟨hK5, onS hv5.2.1 ⟨hK5, ?_⟩⟩⟩⟩
    · rw [k9.2.1] at e0
      have : dpQ b n strict i = 0 := (nI_eq (b := 0) (by omega) (by decide)).mp e0
      rw [this] at hS ⊢
      exact hS
    · rw [k9.2.1] at e0
      have hd1 : dpQ b n strict i = 1 := by
        have : dpQ b n strict i ≠ 0 := fun z => e0 (by rw [z]; rfl)
        omega
      have hlt := dpQ_n hd1
      rw [hC5.1.1.2.2.2.2.2.1, nI_1]
      refine ⟨1, by omega, rfl, rfl, rfl, rfl, rfl, h91, c', e', ?_⟩
      have := hS.to hrN hpN hlN (k' := i + 1 + 1) (by omega)
      rw [hd1] at this ⊢
      exact this
  · rintro m l3 t' ⟨rfl, rfl, h91, c', e', hS⟩
    have hC5 := hS.1
    have hv5 := hC5.2.2.1
    have hK5 := hC5.1.1.1
    have k9 := hS.2.2.2.2.2.1
    have hN5 := hS.2.2.2.2.1
    refine ⟨k9.1, fun e0 => ⟨hv5.1, ?_⟩, fun e0 => ⟨hv5.1, onS hv5.2.1 ⟨hK5, r85 hC5.1.1 ⟨fun e91 => ⟨hv5.1, ?_⟩, fun e91 => ⟨hv5.1, ?_⟩⟩⟩⟩⟩
    · rw [k9.2.1] at e0
      have hd0 : dpQ b n strict i = 0 := (nI_eq (b := 0) (by omega) (by decide)).mp e0
      rw [hd0] at hS
      refine q57 (d := E + 2) hS.1 (by omega) ⟨k9.1, k9.2.2.1, by omega⟩ k9.2.2.2 ?_
      exact SGm.tail hS hqN hrN hcN hpN hlN (sgQ_0 h91 hd0) (by omega) (by omega) (by omega) (by omega) (fun x t4 hh => ⟨0, by omega, rfl, rfl, rfl, rfl, rfl, hh⟩) k2
    · rw [k9.2.1] at e0
      have hd1 : dpQ b n strict i = 1 := by
        have : dpQ b n strict i ≠ 0 := fun z => e0 (by rw [z]; rfl)
        omega
      rw [hd1] at hS e91
      have hsp := sgQ_1 (f := f) (orD := orN b n f) (L := L) h91 hd1
      rw [if_pos e91] at hsp
      refine q58 (E := E) (strict := false) hf ih hS.1 (pk_nn e91 (by decide)).1 ⟨k9.1, k9.2.2.1, by omega⟩ k9.2.2.2 ?_
      exact SGm.tail hS hqN hrN hcN hpN hlN hsp (by omega) (by omega) (by omega) (by omega) (fun x t4 hh => ⟨0, by omega, rfl, rfl, rfl, rfl, rfl, hh⟩) k2
    · rw [k9.2.1] at e0
      have hd1 : dpQ b n strict i = 1 := by
        have : dpQ b n strict i ≠ 0 := fun z => e0 (by rw [z]; rfl)
        omega
      rw [hd1] at hS e91
      have hsp := sgQ_1 (f := f) (orD := orN b n f) (L := L) h91 hd1
      rw [if_neg e91] at hsp
      refine q57 (d := E + 2) hS.1 (by omega) ⟨k9.1, k9.2.2.1, by omega⟩ k9.2.2.2 ?_
      exact SGm.tail hS hqN hrN hcN hpN hlN hsp (by omega) (by omega) (by omega) (by omega) (fun x t4 hh => ⟨0, by omega, rfl, rfl, rfl, rfl, rfl, hh⟩) k2
  · rintro m l3 l4 t' ⟨rfl, rfl, dd, j, L', y, s, c', e', hsp, hd, rfl, hC, hX, ⟨l1, l2, l3⟩, he, ⟨p1, p2, p3, p4⟩, ⟨a1, a2, a3⟩, hQ, hij, hB⟩
    have fin : ∀ x : Int32, x = bI (s0 && (s && dd == 0)) → Post (.inl none) (sI t' p 2 x) := fun x hx => by
      have hs : ∀ z, z ≠ p → sameAt t' (sI t' p 2 x) z := fun z hz => sameAt_sI hz
      have b1 : tK (sI t' p 2 x) = tK t' := sIK
      have b2 : tR (sI t' p 2 x) = tR t' := sIR
      have b3 : tN (sI t' p 2 x) = tN t' := sIN
      have b4 : tU (sI t' p 2 x) = tU t' := sIU
      have b5 : tI (sI t' p 2 x) p 2 = x := sI_eq
      have b6 : tI (sI t' p 2 x) p 0 = tI t' p 0 := sI_at (by omega)
      revert hs b1 b2 b3 b4 b5 b6
      generalize sI t' p 2 x = t5
      intro hs b1 b2 b3 b4 b5 b6
      have epe : e' ≠ p := fun z => by have := (l1.kd l3).1; rw [z, p1] at this; cases this
      refine k1 j L' (qT dd y) (s && dd == 0) hsp t5 c' e' (hC.old (by omega) (fun z _ hz => hs z (by rcases hz with rfl | rfl | rfl | rfl <;> (intro w; first | exact np.1 w.symm | exact np.2.1 w.symm | exact np.2.2.1 w.symm | exact np.2.2.2 w.symm)))) (hX.trans (QXe.of (by omega) (fun z _ hz => hs z (nX_ hz).1))) (l1.frame (by omega) (hs lp (fun z => plp z.symm)) (fun _ => hs e' epe)) l2 l3 (by rw [b3]; exact he) ⟨b5.trans hx, b6.trans p4, by rw [b2]; exact p2, by rw [b1]; exact p1⟩ (by rw [b1]; exact a1) (by omega) (fun z => ?_) hij (by unfold BG at hB ⊢; omega)
      obtain ⟨z1, z2⟩ := hQ z
      rw [b3]
      exact ⟨z1, QR.frame (t := t') (t' := t5) (by omega) _ _ _ _ _ _ z2 (fun v hv => hs v (by have := hv.1.1; omega))⟩
    refine ⟨p1, fun e0 => ⟨p1, Or.inl rfl, fin 0 ?_⟩, fun e0 => ⟨fun e1 => ⟨p1, Or.inl rfl, fin 0 ?_⟩, fun e1 => ⟨a1, fun e2 => ⟨p1, Or.inr rfl, fin 1 ?_⟩, fun e2 => ⟨p1, Or.inl rfl, fin 0 ?_⟩⟩⟩⟩
    · rw [p3] at e0
      rw [bI_0.mp e0]; rfl
    · rw [bI_0.mp e1]; cases s0 <;> rfl
    · rw [a2] at e2
      have : dd = 0 := (nI_eq (b := 0) (by omega) (by decide)).mp e2
      rw [p3] at e0
      have h0 : s0 = true := by
        cases hq : s0 with
        | true => rfl
        | false => rw [hq] at e0; exact absurd rfl e0
      have h1 : s = true := by
        cases hq : s with
        | true => rfl
        | false => rw [hq] at e1; exact absurd rfl e1
      rw [h0, h1, this]; rfl
    · rw [a2] at e2
      have : dd = 1 := by
        have : dd ≠ 0 := fun z => e2 (by rw [z]; rfl)
        omega
      rw [this]; cases s0 <;> cases s <;> rfl
end QS56
