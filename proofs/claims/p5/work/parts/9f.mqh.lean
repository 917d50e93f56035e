/-! all, any, OF THE REFERENCE, 2 -/
def aLQ (b : By) (n f g j : Nat) (L : LT) (y : QF) : Qs := qOne 11 (lsF b n 38 (baQ b n f (orN b n f) (agN b n f)) g j L y)
def IAl (M P : Nat) (b : By) (n f : Nat) (X : List Nat) (sm s : Nat) (tr : Bool) (t0 : Ht) (i q c : Nat) (L0 : LT) (S : Qs) (k m : Nat) (l2 l3 l4 : Int32) (t' : Ht) : Prop :=
  l2 = nI k ∧ ∃ p q' c' L' y la g j, l3 = nI la ∧ p ≤ j ∧ sk b n p = sk b n j ∧ LAm M P b n (16 - f) X 11 sm s tr t0 i q c L0 t' p q' c' L' y k la ∧ ((l4 = 1 ∧ m = n + 1 - p + 1 ∧ n < g + j ∧ S = aLQ b n f g j L' y) ∨ (l4 = 0 ∧ m = 0 ∧ S = .inl (j, L', qT 11 y)))
section MQH
variable {C : Cx} {d E f f0 : Nat} {Post : OutT → Ht → Prop} {t t0 t1 t' : Ht} {M P : Nat} {b : By} {n i q c o i' q' c' o' : Nat} {L L' L0 L1 : LT} {X : List Nat}
theorem aLQ_i {r0 : Qs} {j : Nat} {x : QF} (h : r0 = .inl (j, L, x)) : anQ b n f (orN b n f) (agN b n f) r0 = aLQ b n f (n + 1) j L (qP x qN) := by rw [h]; rfl
theorem aLQ_r {r0 : Qs} {e : Nat × Nat} (h : r0 = .inr e) : anQ b n f (orN b n f) (agN b n f) r0 = .inr e := by rw [h]; rfl
theorem aLQ_stk {g j : Nat} {y : QF} (h : stk b n (sk b n j)) : aLQ b n f (g + 1) j L y = .inl (sk b n j, L, qT 11 y) := by unfold aLQ; rw [lsF_stk (Or.inl rfl) h]; rfl
set_option maxHeartbeats 2000000 in
theorem all_st {tr : Bool} {S : Qs} {sm s k m : Nat} {x1 l2 l3 l4 : Int32} (hf : f ≤ 16) (ih : ∀ e f0, f = f0 + 1 → P210 C M P b n (E + e + 8) f0) (ih9 : ∀ e f0, f = f0 + 1 → P211 C M P b n (E + e + 11) f0) (hc : c + s ≤ 2 * i + sm) (kk : KQ M P b n (16 - f) X 3 sm s tr false false t0 i q c L0 S Post) (hI : IAl M P b n f X sm s tr t0 i q c L0 S k m l2 l3 l4 t') : vc209_34 (CalG C mtab (E + 17)) (cS C) (cG C) Post (fun l2 l3 l4 t => ∃ k', k' < m ∧ (some M) = (some M) ∧ x1 = x1 ∧ IAl M P b n f X sm s tr t0 i q c L0 S k k' l2 l3 l4 t) M x1 l2 l3 l4 t' := by
  obtain ⟨k1, k2⟩ := kk
  obtain ⟨rfl, p, q', c', L', y, la, g, j, rfl, hpj, hsk, hL, hw⟩ := hI
  have hL' := hL
  obtain ⟨hG, hk, hl, ht, hip, hb⟩ := hL'
  have h' := hG.1
  have hn := h'.hn
  have hpn := h'.2.1
  have hP := h'.2.2.1.1
  have slo := sk_lo (b := b) (n := n) (i := p)
  have hskn := sk_le (b := b) hpn
  refine ⟨fun e0 => ?_, fun e0 => ?_⟩
  · obtain ⟨-, -, e⟩ := hw.resolve_left (fun w => by rw [w.1] at e0; exact absurd e0 (by decide))
    exact k1 j L' _ e t' p q' c' k hG ⟨hip, hpj, hsk, fun z => by cases z⟩ (fun z1 z2 => hL.tree (Or.inr rfl) z1 z2) ⟨fun z => by omega, fun z => by omega⟩ ⟨hk.1, hk.2.1, hk.2.2.1⟩ (by omega) (fun z => by cases z)
  obtain ⟨rfl, rfl, hg, e⟩ := hw.resolve_right (fun w => e0 w.1)
  have sloj := sk_lo (b := b) (n := n) (i := j)
  obtain ⟨g0, rfl⟩ : ∃ g0, g = g0 + 1 := ⟨g - 1, by omega⟩
  unfold aLQ at e
  rw [lsF] at e
  refine ⟨h'.K, h'.K, mqB hG (fun hG1 => ⟨rfl, hG1.1.K, mqI hG1.1 (fun e38 => ⟨fun z => absurd z (by decide), fun _ => ⟨hG1.1.K, hG1.1.K, hG1.1.K, ?_⟩⟩) (fun e38 => ⟨fun _ => ⟨hG1.1.K, ?_⟩, fun z => absurd rfl z⟩)⟩)⟩
  · have hlt := (pk_nn e38 (by decide)).1
    rw [hsk] at e38
    rw [if_pos e38] at e
    rw [hG1.1.at, nI_1]
    have hg1 : GO M P b n [] t' p q' c' (sI (sI t' M 5 (nI (sk b n p))) M 5 (nI (sk b n p + 1))) (sk b n p + 1) q' c' (16 - f) L' := ((GO.rfl' h').to (j := sk b n p) slo hskn (by have := h'.2.2.2.2.2.1; omega)).to (by omega) (by omega) (by have := h'.2.2.2.2.2.1; omega)
    refine mqN (by decide) hg1 (fun e39 hg2 => ⟨rfl, hg2.1.K, ?_⟩) (fun e39 t2 hF => k2 1 (sk b n p + 1) (Or.inl ?_) t2 (FQ.of hG hF))
    · rw [hsk] at e39
      rw [if_pos e39] at e
      have slo2 := sk_lo (b := b) (n := n) (i := sk b n p + 1 + 1)
      refine mqB hg2 (fun hg3 => ⟨rfl, hg3.1.K, onS hg3.1.r17 ⟨hg3.1.k14, hg3.1.K, ?_⟩⟩)
      have e2 : sk b n (sk b n j + 2) = sk b n (sk b n p + 1 + 1) := by rw [hsk]
      rw [e2] at e
      refine m206 (E := E) hf ih ih9 hg3.1 (by omega) ⟨fun j2 L2 x e3 t2 i2 q2 c2 u r1 r2 r3 r4 r5 r6 _ => onS hg3.1.a3.1 ?_, fun w p2 e3 t2 hF => k2 w p2 ?_ t2 (FQ.of (hG.trans hg3 (fun z hz => by cases hz)) hF)⟩
      · rw [e3] at e
        have h2 := r1.1
        have hla : la < 2400 := by have := h2.2.2.2.2.2.2.2; have := r1.2.2.2.2.2; omega
        have cl : (nI la).toNatClampNeg = la := nI_clamp (by omega)
        have vl : vp_in (nI la) 2400 := vin h2 hla
        have hN := hL.next (s2 := 0) hg3 r1 (fun z => r3 rfl z) r5 ⟨by omega, by omega⟩ (by omega) (by omega)
        refine ⟨h2.a3.2.1, by rw [h2.a3.2.2]; exact vl, h2.K, onS h2.r17 ⟨h2.k14, onS h2.a3.1 ⟨h2.a3.2.1, ?_, ?_⟩⟩⟩
        · show vp_in (nI la) (tL t2 (P + 4)); rw [h2.a3.2.2]; exact vl
        rw [cl, sI_eq]
        exact ⟨n + 1 - i2 + 1, by omega, rfl, rfl, rfl, i2, q2, c2, L2, qApp y x, u, g0, j2, rfl, r2.2.1, r2.2.2.1, hN, Or.inl ⟨rfl, rfl, by omega, e⟩⟩
      · rcases e3 with e3 | ⟨rfl, j2, L2, x, e3, e4, e5, e6, e7⟩
        · rw [e3] at e; exact Or.inl e
        · rw [e3] at e
          have e : S = aLQ b n f g0 j2 L2 (qApp y x) := e
          obtain ⟨g1, rfl⟩ : ∃ g1, g0 = g1 + 1 := ⟨g0 - 1, by omega⟩
          rw [e4] at e6
          rw [aLQ_stk e6] at e
          exact Or.inr ⟨rfl, _, L2, _, e, by rw [e4, sk_sk], (fun z => by cases z), by rw [e4]; exact e6, fun z => by omega⟩
    · rw [hsk] at e39 ⊢
      rw [if_neg e39] at e
      exact e
  · rw [h'.at, sI_sI]
    rw [hsk] at e38
    rw [if_neg e38] at e
    refine ⟨0, by omega, rfl, rfl, rfl, p, q', c', L', y, la, 0, sk b n j, rfl, by omega, by rw [sk_sk]; exact hsk, hL.to (Nat.le_refl _) hpn, Or.inr ⟨rfl, rfl, e⟩⟩
set_option maxHeartbeats 1000000 in
theorem m209a (hf : f ≤ 16) (ih : ∀ e f0, f = f0 + 1 → P210 C M P b n (E + e + 8) f0) (ih9 : ∀ e f0, f = f0 + 1 → P211 C M P b n (E + e + 11) f0) (h : PS t M P b n i q c (16 - f) L0) (hc : c + 1 ≤ 2 * i) (kk : KQ M P b n (16 - f) [] 3 0 1 true false false t i q c L0 (anQ b n f (orN b n f) (agN b n f) (baQ b n f (orN b n f) (agN b n f) i L0)) Post) : CalG C mtab (E + 18) 209 [svR (some M), svI (-1 : Int32)] t Post := by
  obtain ⟨S, hsp⟩ : ∃ S, S = anQ b n f (orN b n f) (agN b n f) (baQ b n f (orN b n f) (agN b n f) i L0) := ⟨_, rfl⟩
  rw [← hsp] at kk
  have hn := h.hn
  have hin := h.2.1
  have hP := h.2.2.1.1
  have cl : (nI c).toNatClampNeg = c := nI_clamp (by omega)
  have v : vp_in (nI c) 2400 := vin h (by omega)
  refine cal209 (IAl M P b n f [] 0 1 true t i q c L0 S c) ?_ (fun m l2 l3 l4 t' hI => all_st hf ih ih9 (by omega) kk hI)
  refine ⟨h.K, m181 h (by omega) (fun t2 r1 r2 r3 => ⟨fun _ => ⟨r1.1.K, ?_⟩, fun z => absurd rfl z⟩)⟩
  refine m206 (E := E) hf ih ih9 r1.1 (by omega) ⟨fun j2 L2 x e3 t3 i2 q2 c2 u g1 g2 g3 g4 g5 g6 _ => ⟨g1.1.K, onS g1.1.r17 ⟨g1.1.k14, onS g1.1.a1.1 ⟨g1.1.a1.2.1, by rw [g1.1.a1.2.2]; exact v, ?_⟩⟩⟩, fun w p2 e3 t3 hF => kk.2 w p2 ?_ t3 (FQ.of r1 hF)⟩
  · rw [cl]
    have sq := g1.sq (z := c) (by omega)
    refine ⟨n + 1 - i2 + 1, rfl, rfl, rfl, i2, q2, c2, L2, qP x qN, u, n + 1, j2, rfl, g2.2.1, g2.2.2.1, LAm.first (r1.trans g1 (fun z hz => by cases hz)) ⟨Nat.le_refl _, by omega, (sq.2 (by simp)).trans r2.2.2.2.1, (sq.1.1 1 (by omega)).trans r2.1⟩ ⟨Or.inl (by omega), g5.2.1, by omega⟩ (fun _ => ⟨rfl, g5.1, g5.2.2, fun z => g3 rfl z⟩) g2.1 (by omega), Or.inl ⟨rfl, rfl, by omega, hsp.trans (aLQ_i e3)⟩⟩
  · rcases e3 with e3 | ⟨rfl, j2, L2, x, e3, e4, e5, e6, e7⟩
    · exact Or.inl (hsp.trans (aLQ_r e3))
    · rw [e4] at e6
      have e := hsp.trans (aLQ_i e3)
      rw [aLQ_stk e6] at e
      exact Or.inr ⟨rfl, _, L2, _, e, by rw [e4, sk_sk], (fun z => by cases z), by rw [e4]; exact e6, fun z => by omega⟩
theorem GO.at {a p q1 c1 : Nat} (h : PS t M P b n p q1 c1 o L1) : GO M P b n [a] t (p - 1) q1 c1 t p q1 c1 o L1 := ⟨h, MV.rfl', TGm.rfl', by omega, Nat.le_refl _, Nat.le_refl _⟩
set_option maxHeartbeats 1000000 in
theorem m209b {r0 : Qs} {a p q1 c1 j : Nat} {x : QF} (hf : f ≤ 16) (ih : ∀ e f0, f = f0 + 1 → P210 C M P b n (E + e + 8) f0) (ih9 : ∀ e f0, f = f0 + 1 → P211 C M P b n (E + e + 11) f0) (h : PS t M P b n p q1 c1 (16 - f) L1) (hp : 1 ≤ p) (ha : a < c1) (hc : c1 + 1 ≤ 2 * p) (hpj : p ≤ j ∧ sk b n p = sk b n j) (hr : r0 = .inl (j, L1, x)) (kk : KQ M P b n (16 - f) [a] 3 1 0 false false false t (p - 1) q1 c1 L1 (anQ b n f (orN b n f) (agN b n f) r0) Post) : CalG C mtab (E + 18) 209 [svR (some M), svI (nI a)] t Post := by
  obtain ⟨S, hsp⟩ : ∃ S, S = anQ b n f (orN b n f) (agN b n f) r0 := ⟨_, rfl⟩
  rw [← hsp] at kk
  have hn := h.hn
  have hpn := h.2.1
  have hP := h.2.2.1.1
  have cl : (nI c1).toNatClampNeg = c1 := nI_clamp (by omega)
  have v : vp_in (nI c1) 2400 := vin h (by omega)
  refine cal209 (IAl M P b n f [a] 1 0 false t (p - 1) q1 c1 L1 S c1) ?_ (fun m l2 l3 l4 t' hI => all_st hf ih ih9 (by omega) kk hI)
  refine ⟨h.K, m181 h (by omega) (fun t2 r1 r2 r3 => ⟨fun z => absurd z (nI_m1 (by omega)), fun _ => ⟨r1.1.K, onS r1.1.r17 ⟨r1.1.k14, onS r1.1.a1.1 ⟨r1.1.a1.2.1, by rw [r1.1.a1.2.2]; exact v, ?_⟩⟩⟩⟩)⟩
  rw [cl]
  exact ⟨n + 1 - p + 1, rfl, rfl, rfl, p, q1, c1 + 1, L1, qP x qN, a, n + 1, j, rfl, hpj.1, hpj.2, LAm.first ((GO.at h).trans r1 (fun z hz => by cases hz)) ⟨Nat.le_refl _, by omega, r2.2.2.2.1, r2.1⟩ ⟨Or.inr (by simp), by omega, by omega⟩ (fun z => by cases z) (by omega) (by omega), Or.inl ⟨rfl, rfl, by omega, hsp.trans (aLQ_i hr)⟩⟩
end MQH
