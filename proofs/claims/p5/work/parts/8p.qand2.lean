/-! readAnd, the method -/
section QA2
variable {C : Cx} {X : List Nat} {d E : Nat} {Post : OutT → Ht → Prop} {t tb t1 t' : Ht} {qr r tp ch : Nat} {b : By} {n i o f : Nat} {L : LT}
theorem anQ_l {r0 : Qs} {j : Nat} {L1 : LT} {x : QF} (h : r0 = .inl (j, L1, x)) : anQ b n f (orN b n f) (agN b n f) r0 = lpQ b n f (n + 1) j L1 (qP x qN) := by rw [h]; rfl
theorem anQ_r {r0 : Qs} {e : Nat × Nat} (h : r0 = .inr e) : anQ b n f (orN b n f) (agN b n f) r0 = .inr e := by rw [h]; rfl
set_option maxHeartbeats 2000000 in
theorem q64 {x1 : Option Nat} {r0 : Qs} (hf : f ≤ 16) (ih : ∀ e f0, f = f0 + 1 → P63 C qr r tp ch b n (E + e + 8) f0) (ih9 : ∀ e f0, f = f0 + 1 → P79 C qr r tp ch b n (E + e + 11) f0) (h : BGN C X qr r tp ch b n f t tb i L x1 r0) (hi : i ≤ n) (hqN : qr < tN t) (hrN : r < tN t) (hcN : ch < tN t) (htN : tp < tN t) (hbud : ∀ a x j L1, x1 = some a → OH C X qr r tp ch b n (16 - f) t tb i L j L1 x a → BG t tb (j - i) 32 432) (kk : KFx C X qr r tp ch b n (16 - f) 25 300 t tb i L (anQ b n f (orN b n f) (agN b n f) r0) Post) : CalG C mtab (E + 18) 64 [svR (some qr), svR x1] tb Post := by
  obtain ⟨jb, Lb, hCb, hXb, hXX⟩ := h.cq
  have htb := hXb.1
  have hn : n ≤ 1200 := hCb.1.1.2.2.2.2.2.2.1
  refine cal64 (fun m l2 l3 t' => l2 = some (tN tb) ∧ ∃ j Lc y us c e g, m = n - j ∧ l3 = nI (us.length - 1) ∧ 3 * us.length ≤ j + 2 ∧ n < g + j ∧ LBs C X qr r tp ch b n (16 - f) 25 300 t tb t' 1 i L j Lc y us c e ∧ anQ b n f (orN b n f) (agN b n f) r0 = lpQ b n f g j Lc y) ?_ ?_
  · have sn : ∀ x, x < tN tb → sameAt tb (tNew tb 11 0 9) x := fun x hx => sameAt_new hx
    have hCn : CQ (tNew tb 11 0 9) qr r tp ch b n jb (16 - f) Lb := hCb.old (by show tN tb ≤ tN tb + 1; omega) (fun x hx _ => sn x hx)
    refine ⟨hCn.2.2.1.1, onS hCn.2.2.1.2.1 ⟨hCn.1.1.1, q111l (k := 1) (Or.inr rfl) (fun t3 hF => ?_)⟩⟩
    have hF' := hF
    obtain ⟨f1, ⟨f2, f3⟩, f4, f5, f6, f7, f8, f9⟩ := hF
    have hC3 : CQ t3 qr r tp ch b n jb (16 - f) Lb := hCb.old (by omega) (fun x hx _ => f1 x hx)
    refine ⟨rfl, f4, ?_⟩
    rcases h with ⟨rfl, rfl, rfl, hC, hr0⟩ | ⟨a, x, j, L1, rfl, hO, hr0⟩
    · have hC3' : CQ t3 qr r tp ch b n i (16 - f) L := hC.old (by omega) (fun x hx _ => f1 x hx)
      refine ⟨hC3.2.2.1.1, q66 (E := E) hf ih ih9 hC3' ⟨fun j L2 x e t2 u hC2 hX2 hQ2 hu hij hB => ?_, fun w p e t2 hD hB => ?_⟩⟩
      · unfold BG at hB
        have kl : tK t2 (tN tb + 1) = 1 := (hX2.2.1 _ (by omega)).1.trans f9.1
        refine onS f8 ⟨kl, LBs.first (X := []) (F0 := rg (tN t3) (tN t2)) (rc := 25) (rs := 300) (i := i) (L := L) (x := x) hF' (Nat.le_refl _) hqN hrN hcN htN (fun z hz => by cases hz) hC2 hX2 (fun z hz => ⟨⟨by have := hz.1; omega, hz.2⟩, fun w => by cases w⟩) (fun w => by have := w.1; omega) (fun w => by have := w.1; omega) hQ2 ⟨hu.1, by omega, hu.2.2, (fun w => by cases w), by omega⟩ hij (by omega) (by omega) (fun t4 c e' hL => ?_)⟩
        exact ⟨n - j, rfl, rfl, rfl, j, L2, qP x qN, [u], c, e', n + 1, rfl, rfl, by simp; omega, by omega, hL, anQ_l (hr0.trans e)⟩
      · refine kk.2 w p (anQ_r (hr0.trans e)) t2 (QD.of (QX.of (by omega) f1) hD) ?_
        unfold BG at hB ⊢
        omega
    · have hB3 : BG t t3 (j - i) 30 420 := by
        have := hbud a x j L1 rfl hO
        unfold BG at this ⊢
        omega
      have hO3 := hO.push hF' hB3
      refine ⟨hC3.2.2.1.1, q69 (E := E + 1) hf (ih 1) (ih9 1) hO3 hqN hrN hcN htN hi ⟨fun k L2 y e t2 u hC2 hX2 hQ2 hu hij hB => ?_, fun w p e t2 hD hB => ?_⟩⟩
      · unfold BG at hB
        have kl : tK t2 (tN tb + 1) = 1 := (hX2.2.1 _ (by omega)).1.trans f9.1
        have hN2 := hX2.1
        refine onS f8 ⟨kl, LBs.first (X := X) (F0 := hg (tN tb :: (tN tb + 1) :: X) (tN t) (tN t2)) (rc := 25) (rs := 300) (i := i) (L := L) (x := y) hF' htb hqN hrN hcN htN hXX hC2 hX2 (fun z hz => ⟨hz.1, fun w => hz.2 (by simp [w])⟩) (fun w => w.2 (by simp)) (fun w => w.2 (by simp)) hQ2 ⟨hu.1, hu.2.1, hu.2.2.1, fun w => hu.2.2.2 (by simp [w]), fun w => hu.2.2.2 (by simp [w])⟩ hij (by omega) (by omega) (fun t4 c e' hL => ?_)⟩
        exact ⟨n - k, rfl, rfl, rfl, k, L2, qP y qN, [u], c, e', n + 1, rfl, rfl, by simp; omega, by omega, hL, anQ_l (hr0.trans e)⟩
      · refine kk.2 w p (anQ_r (hr0.trans e)) t2 (QD.of (QX.of (by omega) f1) hD) ?_
        unfold BG at hB ⊢
        omega
  · rintro m l2 l3 t' ⟨rfl, j, Lc, y, us, c, e, g, rfl, rfl, h3, hg, hL, hsp⟩
    have hC := hL.1
    have hv := hC.2.2.1
    have hK := hC.1.1.1
    have hjn := hC.2.1
    have hpos := hL.2.2.2.2.1.2.1
    have a1 := hL.2.2.2.2.2.1.1
    have hsj := sk_le (b := b) hjn
    have sloj := sk_lo (b := b) (n := n) (i := j)
    have hij := hL.2.2.2.2.2.2.1
    obtain ⟨g0, rfl⟩ : ∃ g0, g = g0 + 1 := ⟨g - 1, by omega⟩
    unfold lpQ at hsp
    rw [lsF] at hsp
    refine ⟨hv.1, onS hv.2.1 ⟨hK, ?_⟩⟩
    rw [hC.1.1.2.2.2.2.1]
    refine ⟨fun z => ?_, fun _ => ⟨hv.1, q65 (by decide) hC (fun e1 e2 hC1 => ?_) (fun e1 hC1 => ?_) (fun e1 e2 t7 hD hN hU' => ?_)⟩⟩
    · have : n ≤ us.length - 1 := (nI_leI (by omega) (by omega)).mp z
      omega
    · rw [if_pos e1, if_pos e2] at hsp
      have hl1 := (pk_nn e2 (by decide)).1
      have hs2 := sk_le (b := b) (n := n) (i := sk b n j + 2) (by omega)
      have slo2 := sk_lo (b := b) (n := n) (i := sk b n j + 2)
      have hL1 := hL.to hrN htb (k := sk b n (sk b n j + 2)) (by omega) hs2
      have c1 : tN (sI t' r 4 (nI (sk b n (sk b n j + 2)))) = tN t' := sIN
      have c2 : tU (sI t' r 4 (nI (sk b n (sk b n j + 2)))) = tU t' := sIU
      revert hL1 hC1 c1 c2
      generalize sI t' r 4 (nI (sk b n (sk b n j + 2))) = t1
      intro hC1 hL1 c1 c2
      have a1' := hL1.2.2.2.2.2.1
      refine ⟨fun z => absurd z (by decide), fun _ => ⟨a1'.1, hC1.2.2.1.1, q66 (E := E) hf ih ih9 hC1 ⟨fun k L2 x2 e3 t2 u hC2 hX2 hQ2 hu hkk hB => ?_, fun w p e3 t2 hD hB => ?_⟩⟩⟩
      · rw [e3] at hsp
        have hkn := hC2.2.1
        unfold BG at hB
        obtain ⟨-, hXt, ⟨q1, q2, q3, q4, q5⟩, -, -, -, -, q6, q7⟩ := id hL
        obtain ⟨-, hXt1, ⟨p1, -⟩, -, -, -, -, p6, p7⟩ := id hL1
        have hN1 := hXt1.1
        have kl : tK t2 (tN tb + 1) = 1 := (hX2.2.1 _ p1.2.2.2.2.1).1.trans p1.1
        refine onS a1'.2.2.2 ⟨kl, hL1.next (x2 := x2) htb hqN hrN hcN htN hXX hC2 hX2 hQ2 hu (by omega) (by omega) (by omega) (by omega) (fun t4 c' e' hL4 => ?_)⟩
        have hlen2 : (us ++ [u]).length = us.length + 1 := by simp
        exact ⟨n - k, by omega, rfl, rfl, rfl, k, L2, _, us ++ [u], c', e', g0, rfl, by rw [nI_1, hlen2]; congr 1; omega, by rw [hlen2]; omega, by omega, hL4, hsp⟩
      · rw [e3] at hsp
        obtain ⟨-, hXt1, -, -, -, -, -, p6, p7⟩ := id hL1
        refine kk.2 w p hsp t2 (QD.of hXt1 hD) ?_
        unfold BG at hB ⊢
        omega
    · rw [if_neg e1] at hsp
      have hL1 := hL.to hrN htb (k := sk b n j) sloj hsj
      revert hL1 hC1
      generalize sI t' r 4 (nI (sk b n j)) = t1
      intro hC1 hL1
      exact ⟨fun _ => ⟨hL1.2.2.2.2.2.1.1, LBs.fin hL1 (Or.inr rfl) rfl htb hXX hsp (kk.imp (fun _ _ z => z) (fun _ z => z))⟩, fun z => absurd rfl z⟩
    · rw [if_pos e1, if_neg e2] at hsp
      have hl1 := sk_lt1 (by decide) e1
      obtain ⟨-, hXt, -, -, -, -, -, p6, p7⟩ := id hL
      refine kk.2 1 _ hsp t7 (QD.of hXt hD) ⟨by omega, by omega⟩
end QA2
