/-! TESTS AND COMPARISONS -/
def OTk (x : QF) : Prop := isLit x = true ∨ isFun x = true ∨ ∃ (p : Nat) (y : QF), x = .tag 25 (.tag p y)
/-- cells from lo to hi but for some -/
def hg (X : List Nat) (lo hi : Nat) : Nat → Prop := fun z => rg lo hi z ∧ z ∉ X
theorem hg_nil {lo hi : Nat} : hg [] lo hi = rg lo hi := by
  funext z
  exact propext ⟨fun h => h.1, fun h => ⟨h, fun w => by cases w⟩⟩
/-- an operand in hand; X lies beside it -/
def OH (C : Cx) (X : List Nat) (qr r tp ch : Nat) (b : By) (n o : Nat) (t t1 : Ht) (i : Nat) (L : LT) (j : Nat) (L1 : LT) (x : QF) (a : Nat) : Prop :=
  CQ t1 qr r tp ch b n j o L1 ∧ QX qr r ch t t1 ∧ (L1.1 = 0 → L.1 = 0 ∧ QR C t1 x 7 [] (hg X (tN t) (tN t1)) [a] false) ∧ OKx t1 a x ∧ (isTg x = true ∧ OTk x) ∧ (tN t ≤ a ∧ a < tN t1 ∧ tI t1 a 1 = nI i ∧ (∀ z ∈ X, z < tN t1) ∧ a ∉ X) ∧ i < j ∧ BG t t1 (j - i) 30 420
/-- a formula read from the heap tb on, its cells from those of t on but for X -/
def KFx (C : Cx) (X : List Nat) (qr r tp ch : Nat) (b : By) (n o rc rs : Nat) (t tb : Ht) (i : Nat) (L : LT) (sp : Qs) (Post : OutT → Ht → Prop) : Prop :=
  (∀ j L' x, sp = .inl (j, L', x) → ∀ t' a, CQ t' qr r tp ch b n j o L' → QX qr r ch tb t' → (L'.1 = 0 → L.1 = 0 ∧ isTg x = true ∧ QR C t' x 3 [] (hg X (tN t) (tN t')) [a] false) → (tK t' a = 11 ∧ tN t ≤ a ∧ a < tN t' ∧ a ∉ X) → i < j → BG t t' (j - i) rc rs → Post (.inl (some (svR (some a)))) t') ∧
  (∀ w p, sp = .inr (w, p) → ∀ t', QD qr r ch tb t' w p → BG t t' (n + 1 - i) rc rs → Post (.inr (200, 0)) t')
section QTS
variable {C : Cx} {X : List Nat} {d E : Nat} {Post : OutT → Ht → Prop} {t t1 t' : Ht} {qr r tp ch : Nat} {b : By} {n i o f : Nat} {L : LT}
theorem opQ_k {orD : Nat → LT → Qs} {agD : Nat → LT → (Nat × LT × QF × Bool) ⊕ (Nat × Nat)} {strict : Bool} {j : Nat} {L' : LT} {x : QF} (h : opQ b n f orD agD strict i L = .inl (j, L', x)) : OTk x := by
  unfold opQ at h
  split at h
  · unfold ptQ at h
    split at h
    · cases h
    · rename_i s y e
      injection h with h
      injection h with h1 h
      injection h with h2 h
      exact Or.inr (Or.inr ⟨_, _, h.symm⟩)
  · split at h
    · unfold wrQ at h
      split at h
      · unfold fnQ at h
        split at h
        · cases h
        · split at h
          · cases h
          · split at h
            · injection h with h
              injection h with h1 h
              injection h with h2 h
              rw [← h]; exact Or.inr (Or.inl rfl)
            · injection h with h
              injection h with h1 h
              injection h with h2 h
              rw [← h]; exact Or.inr (Or.inl rfl)
      · split at h
        · injection h with h
          injection h with h1 h
          injection h with h2 h
          rw [← h]; exact Or.inl rfl
        · split at h
          · injection h with h
            injection h with h1 h
            injection h with h2 h
            rw [← h]; exact Or.inl rfl
          · split at h
            · injection h with h
              injection h with h1 h
              injection h with h2 h
              rw [← h]; exact Or.inl rfl
            · cases h
    · split at h
      · split at h
        · cases h
        · injection h with h
          injection h with h1 h
          injection h with h2 h
          rw [← h]; exact Or.inl rfl
      · split at h
        · split at h
          · cases h
          · injection h with h
            injection h with h1 h
            injection h with h2 h
            rw [← h]; exact Or.inl rfl
        · cases h
theorem OH.to {j k a : Nat} {L1 : LT} {x : QF} (h : OH C X qr r tp ch b n o t t1 i L j L1 x a) (hq : qr < tN t) (hr : r < tN t) (hjk : j ≤ k) (hk : k ≤ n) : OH C X qr r tp ch b n o t (sI t1 r 4 (nI k)) i L k L1 x a := by
  obtain ⟨hC, hX, hQ, hO, hT, ⟨a1, a2, a3, hXb, hXa⟩, hij, hB⟩ := h
  have hC1 := hC.to hk
  have hX1 : QX qr r ch t (sI t1 r 4 (nI k)) := hX.trans (QX.rx (RX.I (Or.inr rfl)))
  have hs : ∀ y, y ≠ r → sameAt t1 (sI t1 r 4 (nI k)) y := fun y hy => sameAt_sI hy
  have b3 : tN (sI t1 r 4 (nI k)) = tN t1 := sIN
  have b4 : tU (sI t1 r 4 (nI k)) = tU t1 := sIU
  revert hC1 hX1 hs b3 b4
  generalize sI t1 r 4 (nI k) = t2
  intro hC1 hX1 hs b3 b4
  unfold BG at hB
  have sa := hs a (by omega)
  refine ⟨hC1, hX1, fun z => ?_, hO.eq2 (by omega) sa (fun v hv => hs v (hC.nk hv (by omega)).2.1), hT, ⟨a1, by omega, (sa.2.2.1 1).trans a3, by rw [b3]; exact hXb, hXa⟩, by omega, ⟨by omega, by omega⟩⟩
  obtain ⟨z1, z2⟩ := hQ z
  rw [b3]
  exact ⟨z1, QR.frame (t := t1) (t' := t2) (by omega) _ _ _ _ _ _ z2 (fun v hv => hs v (by have := hv.1.1; omega))⟩
/-- a path as a test -/
theorem QR.test {a : Nat} {F : Nat → Prop} {p : QF} {av : List Nat} (h : QR C t (.tag 25 p) 7 av F [a] false) : QR C t (.tag 14 p) 3 [] F [a] false := by
  obtain ⟨h1, us, av', F1, h2, h3, h4⟩ := h.tag (by decide) (by decide)
  unfold HL at h3
  rw [if_neg (by decide), if_neg (by decide), if_neg (by decide), if_neg (by decide), if_pos rfl, if_pos rfl] at h3
  obtain ⟨g1, g2, g3, g4, g5, g6, u, g7, g8⟩ := h3
  refine QR.mk (k := 14) (us := us) (av' := av') (F1 := F1) (by decide) (by decide) h1 h2 ?_ (Or.inr ?_)
  · unfold HL
    rw [if_neg (by decide), if_neg (by decide), if_neg (by decide), if_pos rfl, if_neg (by decide), if_neg (by decide), if_neg (by decide), if_pos rfl]
    exact ⟨g1, g2, g3, g4, g5, g6, u, g7, g8⟩
  · rcases h4 with z | z
    · cases z
    · exact z
theorem KFm.x {sp : Qs} {rc rs : Nat} {tb : Ht} (h : KFm C qr r tp ch b n o rc rs t i L sp Post) (hx : QX qr r ch t tb) : KFx C [] qr r tp ch b n o rc rs t tb i L sp Post :=
  ⟨fun j L' x e t' a g1 g2 g3 g4 g5 g6 => h.1 j L' x e t' a g1 (hx.trans g2) (fun z => by have := g3 z; rw [hg_nil] at this; exact this) ⟨g4.1, g4.2.1, g4.2.2.1⟩ g5 g6, fun w p e t' g1 g2 => h.2 w p e t' (QD.of hx g1) g2⟩
theorem KFx.imp {sp : Qs} {rc rs : Nat} {tb : Ht} {P' : OutT → Ht → Prop} (h : KFx C X qr r tp ch b n o rc rs t tb i L sp Post) (hp : ∀ a t, Post (.inl (some (svR (some a)))) t → P' (.inl (some (svR (some a)))) t) (hq : ∀ t, Post (.inr (200, 0)) t → P' (.inr (200, 0)) t) : KFx C X qr r tp ch b n o rc rs t tb i L sp P' :=
  ⟨fun j L' x e t' a g1 g2 g3 g4 g5 g6 => hp _ _ (h.1 j L' x e t' a g1 g2 g3 g4 g5 g6), fun w p e t' g1 g2 => hq _ (h.2 w p e t' g1 g2)⟩
theorem KFx.ofb {sp : Qs} {rc rs : Nat} {tb t2 : Ht} (h : KFx C X qr r tp ch b n o rc rs t tb i L sp Post) (hx : QX qr r ch tb t2) : KFx C X qr r tp ch b n o rc rs t t2 i L sp Post :=
  ⟨fun j L' x e t' a g1 g2 g3 g4 g5 g6 => h.1 j L' x e t' a g1 (hx.trans g2) g3 g4 g5 g6, fun w p e t' g1 g2 => h.2 w p e t' (QD.of hx g1) g2⟩
theorem OH.mk {j a : Nat} {L1 : LT} {x : QF} (g1 : CQ t1 qr r tp ch b n j o L1) (g2 : QX qr r ch t t1) (g3 : L1.1 = 0 → L.1 = 0 ∧ QR C t1 x 7 [] (rg (tN t) (tN t1)) [a] false) (g4 : OKx t1 a x) (g5 : isTg x = true) (hk : OTk x) (g6 : tN t ≤ a ∧ a < tN t1 ∧ tI t1 a 1 = nI i) (g7 : i < j) (g8 : BG t t1 (j - i) 34 450) : OH C [] qr r tp ch b n o t t1 i L j L1 x a := by
  refine ⟨g1, g2, fun z => ?_, g4, ⟨g5, hk⟩, ⟨g6.1, g6.2.1, g6.2.2, fun z hz => (by cases hz), fun w => by cases w⟩, g7, ?_⟩
  · rw [hg_nil]; exact g3 z
  · unfold BG at g8 ⊢; omega
/-- asTest -/
theorem q70 {j a : Nat} {L1 : LT} {x : QF} (h : OH C X qr r tp ch b n o t t1 i L j L1 x a) (hq : qr < tN t) (hr : r < tN t) (hc : ch < tN t) (hi : i ≤ n) (kk : KFx C X qr r tp ch b n o 30 400 t t1 i L (tsQ x i j L1) Post) : CalG C mtab (d + 2) 70 [svR (some qr), svR (some a)] t1 Post := by
  obtain ⟨hC, hX, hQ, ⟨kd, sg, ⟨o1, o2, o3, o4⟩, o5, o6, o7, o8⟩, ⟨hT, hk⟩, ⟨a1, a2, a3, hXb, hXa⟩, hij, hB⟩ := h
  have hv := hC.2.2.1
  have hK := hC.1.1.1
  have hjn := hC.2.1
  have hn : n ≤ 1200 := hC.1.1.2.2.2.2.2.2.1
  have hN1 := hX.1
  unfold BG at hB
  refine cal70 ?_
  unfold vc70
  refine ⟨o1, ?_⟩
  rw [o2]
  refine ⟨fun e => ?_, fun e => ⟨o1, q115 (kd := kd) (sg := sg) ⟨o1, o2, o3, o4⟩ ?_⟩⟩
  · have e3 : kd = 3 := (nI_eq (b := 3) (by omega) (by decide)).mp e
    have hl : isLit x = true := by rw [o6, e3]; rfl
    have hsp : tsQ x i j L1 = .inr (1, j) := by unfold tsQ; rw [if_pos hl]
    refine ⟨hv.1, hv.1, onS hv.2.1 ⟨hK, onS hv.2.1 ⟨hK, hC.fl rfl hC.1.1.2.2.2.2.2.1 (fun t7 hD hB7 => kk.2 1 j hsp t7 hD ?_)⟩⟩⟩
    unfold BG at hB7 ⊢
    omega
  · have e3 : ¬ kd = 3 := fun z => e (by rw [z]; rfl)
    have hl : ¬ isLit x = true := by rw [o6]; simp [e3]
    cases hf : isFk kd with
    | true =>
      have hfx : isFun x = true := by rw [o7, hf]
      have hsp : tsQ x i j L1 = .inl (j, noteL L1 2 i, qT 27 qN) := by unfold tsQ; rw [if_neg hl, if_pos hfx]
      refine ⟨fun z => absurd z (by decide), fun _ => ⟨o1, hv.1, ?_⟩⟩
      rw [a3]
      refine q50 (k := 2) hC (by omega) (by omega) (fun t2 g1 g2 g3 g4 => ⟨rfl, ?_⟩)
      refine kk.1 j _ _ hsp t2 a g1 g2 (fun z => absurd z (noteL_n (by decide))) ⟨(g2.2.1 a (by omega)).1.trans o1, a1, by omega, hXa⟩ hij ⟨by omega, by omega⟩
    | false =>
      have hfx : ¬ isFun x = true := by rw [o7, hf]; decide
      refine ⟨fun _ => ?_, fun z => absurd rfl z⟩
      rcases hk with z | z | ⟨p, y, rfl⟩
      · exact absurd z hl
      · exact absurd z hfx
      · refine kk.1 j L1 (.tag 14 (.tag p y)) rfl t1 a hC QX.rfl' (fun z => ?_) ⟨o1, a1, a2, hXa⟩ hij ⟨by omega, by omega⟩
        obtain ⟨z1, z2⟩ := hQ z
        exact ⟨z1, rfl, z2.test⟩
end QTS
