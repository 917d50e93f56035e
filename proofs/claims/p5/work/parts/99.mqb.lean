/-! function, OF THE REFERENCE -/
def FlA (b : By) (n : Nat) (sp : (Nat × LT × QF × Bool) ⊕ (Nat × Nat)) (w p : Nat) : Prop := sp = .inr (w, p) ∨ (w = 1 ∧ ∃ j L' x lg, sp = .inl (j, L', x, lg) ∧ p = sk b n j ∧ stk b n p)
def akI (x : QF) (lg : Bool) : Int32 := if lg then 4 else if isPth x then 2 else if isFun x then 3 else 1
def KAm (M P : Nat) (b : By) (n o : Nat) (t : Ht) (i q c : Nat) (L : LT) (sp : (Nat × LT × QF × Bool) ⊕ (Nat × Nat)) (Post : OutT → Ht → Prop) : Prop :=
  (∀ j L' x lg, sp = .inl (j, L', x, lg) → ∀ t' i' q' c' a, GO M P b n [] t i q c t' i' q' c' o L' → (i < i' ∧ i' ≤ j ∧ sk b n i' = sk b n j) → (lg = false → OTk x ∧ isTg x = true ∧ KDm 7 t' P a x ∧ (L'.1 = 0 → L.1 = 0 ∧ QM t' P (M + 3) 2400 q' x 7 (rg c c') [a])) → tI t' M 22 = akI x lg → (c ≤ a ∧ a < c') → c' ≤ c + 2 * (i' - i) + 2 → Post (.inl (some (svI (nI a)))) t') ∧
  (∀ w p, FlA b n sp w p → ∀ t', FQ M P t t' w p → Post (.inr (16, M + 1)) t')
def P211 (C : Cx) (M P : Nat) (b : By) (n D f : Nat) : Prop := ∀ (Post : OutT → Ht → Prop) (t : Ht) (i q c : Nat) (L : LT), PS t M P b n i q c (16 - f) L → c + 2 ≤ 2 * i → KAm M P b n (16 - f) t i q c L ((leQ b n f).2 i L) Post → CalG C mtab D 211 [svR (some M)] t Post
def fnF (k : Nat) (x : QF) (lg : Bool) : Bool := !lg && (if k = 1 then isCmp x else isPth x)
theorem wants_f {k : Nat} {x : QF} {lg : Bool} (hk : k ≤ 3) : wants k x lg = (decide (k ≠ 0) && fnF k x lg) := by
  unfold wants fnF
  obtain rfl | rfl | rfl | rfl : k = 0 ∨ k = 1 ∨ k = 2 ∨ k = 3 := by omega
  · cases lg <;> simp
  · cases lg <;> simp
  · cases lg <;> simp
  · cases lg <;> simp
theorem fnK_le {b : By} {n i j : Nat} : fnK b n i j ≤ 3 := by
  unfold fnK
  split
  · omega
  split
  · omega
  split <;> omega
theorem OTk_c {x : QF} (h : OTk x) (hp : isPth x = false) : isCmp x = true := by
  rcases h with h | h | ⟨p, y, rfl⟩
  · cases x with
    | tag k z =>
      have h : (k == 20 || k == 21 || k == 22 || k == 23 || k == 24) = true := h
      simp at h
      obtain (((rfl | rfl) | rfl) | rfl) | rfl := h
      all_goals rfl
    | _ => cases h
  · cases x with
    | tag k z =>
      have h : (k == 26 || k == 27) = true := h
      simp at h
      obtain rfl | rfl := h
      all_goals rfl
    | _ => cases h
  · cases hp
/-- a function's part, its arguments so far -/
def FNs (M P : Nat) (b : By) (n f0 : Nat) (t0 : Ht) (i q c : Nat) (L : LT) (K : Nat) (t' : Ht) (p q' c' : Nat) (L' : LT) (mc : Nat) (x : QF) (lg : Bool) (l5 : Int32) : Prop :=
  GO M P b n [] t0 i q c t' p q' c' (16 - f0) L' ∧ (tI t' (P + 1) c = 26 ∧ tI t' (P + 5) c = nI K ∧ tI t' (P + 4) c = -1) ∧ (mc = 0 → l5 = 0 ∧ L' = L) ∧ (mc ≠ 0 → l5 = bI (fnF K x lg)) ∧ (mc = 1 → lg = false → L'.1 = 0 → L.1 = 0 ∧ isTg x = true ∧ ∃ a, tI t' (P + 2) c = nI a ∧ QM t' P (M + 3) 2400 q' x 7 (rg (c + 1) c') [a]) ∧ c < c' ∧ i < p ∧ mc ≤ p
section MQB
variable {C : Cx} {d E f f0 : Nat} {Post : OutT → Ht → Prop} {t t0 t1 t' : Ht} {M P : Nat} {b : By} {n i q c o i' q' c' o' : Nat} {L L' : LT} {X : List Nat}
theorem FNs.to {K p q' c' mc p2 : Nat} {x : QF} {lg : Bool} {l5 : Int32} (h : FNs M P b n f0 t0 i q c L K t' p q' c' L' mc x lg l5) (h1 : p ≤ p2) (h2 : p2 ≤ n) : FNs M P b n f0 t0 i q c L K (sI t' M 5 (nI p2)) p2 q' c' L' mc x lg l5 := by
  obtain ⟨g, ⟨e1, e5, e4⟩, z0, z1, zt, hcc, hip, hmp⟩ := h
  have hP := g.1.2.2.1.1
  refine ⟨g.to (by omega) h2 (by have := g.1.2.2.2.2.2.1; omega), ⟨?_, ?_, ?_⟩, z0, z1, fun a1 a2 a3 => ?_, hcc, by omega, by omega⟩
  · rw [sI_at (by omega)]; exact e1
  · rw [sI_at (by omega)]; exact e5
  · rw [sI_at (by omega)]; exact e4
  · obtain ⟨w1, w2, a, w3, w4⟩ := zt a1 a2 a3
    exact ⟨w1, w2, a, by rw [sI_at (by omega)]; exact w3, w4.fr (fun z hz => ⟨(SQa.w (Or.inl (by omega))).1, fun _ => (SQa.w (Or.inl (by omega))).2⟩) (fun k _ _ => sI_at (by omega)) (Nat.le_refl _)⟩
theorem noteL_0 {L : LT} {k p : Nat} (hk : k ≠ 0) : ¬ (noteL L k p).1 = 0 := by
  unfold noteL
  split
  · exact hk
  · rename_i w
    exact fun z => w (Or.inl z)
set_option maxHeartbeats 2000000 in
theorem m212 {j : Nat} (hf : f ≤ 16) (ih : ∀ f0, f = f0 + 1 → P211 C M P b n (E + 11) f0) (hG : GO M P b n [] t0 i q c t j q c (16 - f) L) (hij : i < j) (hj : pk b n j = 40) (hc : c ≤ 2 * i) (kk : KQ M P b n (16 - f) [] 7 1 0 true false false t0 i q c L (fnQ b n f (agN b n f) i j L) Post) : CalG C mtab (E + 12) 212 [svR (some M), svI (nI i)] t Post := by
  have h := hG.1
  have hn := h.hn
  have hP := h.2.2.1.1
  have hq := h.2.2.2.2.2.1
  have hlt := (pk_nn hj (by decide)).1
  have cl : (nI c).toNatClampNeg = c := nI_clamp (by omega)
  have v : vp_in (nI c) 2400 := vin h (by omega)
  have hKle : fnK b n i j ≤ 3 := fnK_le
  obtain ⟨k1, k2⟩ := kk
  have slo := sk_lo (b := b) (n := n) (i := j + 1)
  have hsk := sk_le (b := b) (n := n) (i := j + 1) (by omega)
  obtain ⟨A, hA⟩ : ∃ A, A = (if pk b n (sk b n (j + 1)) = 41 then .inl (sk b n (j + 1) + 1, L, 0, qN, false) else agF b n (agN b n f) (n + 1) (sk b n (j + 1)) L 0 qN false) := ⟨_, rfl⟩
  have hsp0 : f = 0 → fnQ b n f (agN b n f) i j L = .inr (4, j) := fun e => by unfold fnQ; rw [if_pos e]
  have hspE : ∀ e, ¬ f = 0 → A = .inr e → fnQ b n f (agN b n f) i j L = .inr e := fun e hf e2 => by unfold fnQ; rw [if_neg hf, ← hA, e2]
  have hspI : ∀ k L' m x lg, ¬ f = 0 → A = .inl (k, L', m, x, lg) → fnQ b n f (agN b n f) i j L = if m = 1 ∧ wants (fnK b n i j) x lg then .inl (k, L', qT 26 (qT (fnK b n i j) x)) else .inl (k, noteL L' 2 i, qT 27 qN) := fun k L' m x lg hf e2 => by unfold fnQ; rw [if_neg hf, ← hA, e2]
  refine cal212 (fun m l2 t' => m = 4 * n + 20 ∧ t' = t ∧ l2 = nI (fnK b n i j))
    (fun m l2 l3 l4 l5 l6 t' => l2 = nI (fnK b n i j) ∧ l3 = nI c ∧ ∃ f0 p q' c' L' mc x lg g, f = f0 + 1 ∧ l4 = nI mc ∧ sk b n p = p ∧ FNs M P b n f0 t0 i q c L (fnK b n i j) t' p q' c' L' mc x lg l5 ∧ ((l6 = 1 ∧ m = 3 * (n + 1 - p) + 3 ∧ n < g + p ∧ c' + 3 ≤ c + 2 * (p - i) ∧ A = agF b n (agN b n f) g p L' mc x lg) ∨ (l6 = 0 ∧ m = 1 ∧ c' + 1 ≤ c + 2 * (p - i) ∧ A = if pk b n p = 41 then .inl (p + 1, L', mc, x, lg) else .inr (1, p))))
    (fun m l2 l3 l4 l5 l6 l7 t' => l2 = nI (fnK b n i j) ∧ l3 = nI c ∧ ∃ f0 p i2 j2 q' c' L' mc x lg g, f = f0 + 1 ∧ l4 = nI mc ∧ m = 3 * (n + 1 - p) + 2 ∧ p ≤ n ∧ n < g + 1 + p ∧ p < i2 ∧ mc + 1 ≤ i2 ∧ sk b n i2 = sk b n j2 ∧ FNs M P b n f0 t0 i q c L (fnK b n i j) t' i2 q' c' L' (mc + 1) x lg l5 ∧ c' + 1 ≤ c + 2 * (i2 - i) ∧ A = if pk b n (sk b n j2) = 44 then agF b n (agN b n f) g (sk b n (sk b n j2 + 1)) L' (mc + 1) x lg else if pk b n (sk b n j2) = 41 then .inl (sk b n j2 + 1, L', mc + 1, x, lg) else .inr (1, sk b n j2))
    (fun m l2 l3 l4 l5 t' => m = 0 ∧ l2 = nI (fnK b n i j) ∧ l3 = nI c ∧ ∃ f0 p q' c' L' mc x lg, f = f0 + 1 ∧ l4 = nI mc ∧ FNs M P b n f0 t0 i q c L (fnK b n i j) t' p q' c' L' mc x lg l5 ∧ c' + 1 ≤ c + 2 * (p - i) ∧ A = if pk b n p = 41 then .inl (p + 1, L', mc, x, lg) else .inr (1, p)) ?_ ?_ ?_ ?_ ?_
  · have w : ∀ x : Bool, ¬ bI x = 0 → x = true := fun x hx => by
      cases x with
      | true => rfl
      | false => exact absurd rfl hx
    refine ⟨h.K, m197 (m := 3) (by omega) h (by omega) ⟨fun e3 => ⟨h.K, m197 (m := 1) (by omega) h (by omega) ⟨fun e1 => ⟨h.K, m197 (m := 9) (by omega) h (by omega) ⟨fun e9 => ⟨4 * n + 20, rfl, rfl, rfl, rfl, ?_⟩, fun e9 => ⟨4 * n + 20, rfl, rfl, rfl, rfl, ?_⟩⟩⟩, fun e1 => ⟨4 * n + 20, rfl, rfl, rfl, rfl, ?_⟩⟩⟩, fun e3 => ⟨4 * n + 20, rfl, rfl, rfl, rfl, ?_⟩⟩⟩
    · unfold fnK; rw [bI_0.mp e3, bI_0.mp e1, bI_0.mp e9]; rfl
    · unfold fnK; rw [bI_0.mp e3, bI_0.mp e1, w _ e9]; rfl
    · unfold fnK; rw [bI_0.mp e3, w _ e1]; rfl
    · unfold fnK; rw [w _ e3]; rfl
  · rintro m l2 t' ⟨rfl, rfl, rfl⟩
    refine ⟨h.K, m183 h (fun ho hG1 => ⟨rfl, hG1.1.K, ?_⟩) (fun ho t2 hF => k2 4 j (Or.inl (hsp0 (by omega))) t2 (FQ.of hG hF))⟩
    obtain ⟨f0, rfl⟩ : ∃ f0, f = f0 + 1 := ⟨f - 1, by omega⟩
    have eo : 16 - (f0 + 1) + 1 = 16 - f0 := by omega
    rw [eo] at hG1 ⊢
    refine m181 hG1.1 (by omega) (fun t2 g1 g2 g3 => ⟨g1.1.K, onS g1.1.r17 ⟨g1.1.k14, onS g1.1.a4.1 ⟨g1.1.a4.2.1, by rw [g1.1.a4.2.2]; exact v, g1.1.K, g1.1.K, g1.1.K, ?_⟩⟩⟩)
    have hG2 := (hG.trans hG1 (fun z hz => by cases hz)).trans g1 (fun z hz => by cases hz)
    rw [cl, sI_at (by omega), g1.1.at, nI_1]
    have hG3 : GO M P b n [] t0 i q c (sI t2 (P + 5) c (nI (fnK b n i j))) j q (c + 1) (16 - f0) L := hG2.I (Or.inl ⟨by omega, by omega, Or.inl (Nat.le_refl _)⟩)
    have hF3 : FNs M P b n f0 t0 i q c L (fnK b n i j) (sI t2 (P + 5) c (nI (fnK b n i j))) j q (c + 1) L 0 qN false 0 := by
      refine ⟨hG3, ⟨?_, sI_eq, ?_⟩, fun _ => ⟨rfl, rfl⟩, fun z => absurd rfl z, fun z => by omega, by omega, hij, by omega⟩
      · rw [sI_at (by omega)]; exact g2.1
      · rw [sI_at (by omega)]; exact g2.2.2.2.1
    have hF4 := hF3.to (p2 := j + 1) (by omega) (by omega)
    refine mqB hF4.1 (fun hG5 => ⟨rfl, hG5.1.K, ?_⟩)
    have hF5 := hF4.to (p2 := sk b n (j + 1)) slo hsk
    refine mqI hG5.1 (fun e41 => ⟨fun z => absurd z (by decide), fun _ => ⟨0, by omega, rfl, rfl, rfl, rfl, rfl, f0, _, q, c + 1, L, 0, qN, false, rfl, rfl, hF5, by omega, ?_⟩⟩) (fun e41 => ⟨fun _ => ⟨3 * (n + 1 - sk b n (j + 1)) + 3, by omega, rfl, rfl, rfl, rfl, f0, sk b n (j + 1), q, c + 1, L, 0, qN, false, n + 1, rfl, rfl, sk_sk, hF5, Or.inl ⟨rfl, rfl, by omega, by omega, ?_⟩⟩, fun z => absurd rfl z⟩)
    · rw [hA, if_pos e41, if_pos e41]
    · rw [hA, if_neg e41]
  · rintro m l2 l3 l4 l5 l6 t' ⟨rfl, rfl, f0, p, q', c', L', mc, x, lg, g, rfl, rfl, hsp, hF, hw⟩
    refine ⟨fun e6 => ?_, fun e6 => ?_⟩
    · obtain ⟨-, rfl, hb, e⟩ := hw.resolve_left (fun w => by rw [w.1] at e6; exact absurd e6 (by decide))
      exact ⟨0, by omega, rfl, rfl, rfl, rfl, rfl, f0, p, q', c', L', mc, x, lg, rfl, rfl, hF, hb, e⟩
    obtain ⟨rfl, rfl, hg, hb, e⟩ := hw.resolve_right (fun w => e6 w.1)
    have hF' := hF
    obtain ⟨hGp, he, z0, z1, zt, hcc, hip, hmp⟩ := hF
    have hp := hGp.1
    have hpn := hp.2.1
    obtain ⟨g0, rfl⟩ : ∃ g0, g = g0 + 1 := ⟨g - 1, by omega⟩
    rw [agF] at e
    refine ⟨hp.K, ih f0 rfl _ t' p q' c' L' hp (by omega) ⟨fun j2 L2 y ly e2 t2 i2 q2 c2 a g1 g2 g3 g4 g5 g6 => ?_, fun w p2 e2 t2 hFq => k2 w p2 ?_ t2 (FQ.of hGp hFq)⟩⟩
    · have e2' : agN b n (f0 + 1) p L' = .inl (j2, L2, y, ly) := e2
      rw [e2'] at e
      have e : A = if pk b n (sk b n j2) = 44 then agF b n (agN b n (f0 + 1)) g0 (sk b n (sk b n j2 + 1)) L2 (mc + 1) (if mc = 0 then y else x) (if mc = 0 then ly else lg) else if pk b n (sk b n j2) = 41 then .inl (sk b n j2 + 1, L2, mc + 1, (if mc = 0 then y else x), (if mc = 0 then ly else lg)) else .inr (1, sk b n j2) := e
      have h2 := g1.1
      have sq := g1.sq (z := c) (by omega)
      have hpc := h2.2.2.2.2.2.2.2
      have hG2 := hGp.trans g1 (fun z hz => by cases hz)
      refine ⟨fun e4 => ?_, fun e4 => ?_⟩
      · have hm0 : mc = 0 := (nI_eq (b := 0) (by omega) (by decide)).mp e4
        subst hm0
        rw [if_pos rfl, if_pos rfl] at e
        have hL := (z0 rfl).2
        have ca : (nI a).toNatClampNeg = a := nI_clamp (by omega)
        have va : vp_in (nI a) 2400 := vin h2 (by omega)
        have hG3 : GO M P b n [] t0 i q c (sI t2 (P + 2) c (nI a)) i2 q2 c2 (16 - f0) L2 := hG2.I (Or.inl ⟨by omega, by omega, Or.inl (Nat.le_refl _)⟩)
        have out : ∀ l5 : Int32, l5 = bI (fnF (fnK b n i j) y ly) → ∃ k, k < 3 * (n + 1 - p) + 3 ∧ some M = some M ∧ nI i = nI i ∧ (nI (fnK b n i j) = nI (fnK b n i j) ∧ nI c = nI c ∧ ∃ f0' p i2 j2 q' c' L' mc x lg g, f0 + 1 = f0' + 1 ∧ nI 0 = nI mc ∧ k = 3 * (n + 1 - p) + 2 ∧ p ≤ n ∧ n < g + 1 + p ∧ p < i2 ∧ mc + 1 ≤ i2 ∧ sk b n i2 = sk b n j2 ∧ FNs M P b n f0' t0 i q c L (fnK b n i j) (sI t2 (P + 2) c (nI a)) i2 q' c' L' (mc + 1) x lg l5 ∧ c' + 1 ≤ c + 2 * (i2 - i) ∧ A = if pk b n (sk b n j2) = 44 then agF b n (agN b n (f0 + 1)) g (sk b n (sk b n j2 + 1)) L' (mc + 1) x lg else if pk b n (sk b n j2) = 41 then .inl (sk b n j2 + 1, L', mc + 1, x, lg) else .inr (1, sk b n j2)) := fun l5 hl => by
          refine ⟨3 * (n + 1 - p) + 2, by omega, rfl, rfl, rfl, rfl, f0, p, i2, j2, q2, c2, L2, 0, y, ly, g0, rfl, rfl, rfl, hpn, by omega, g2.1, by omega, g2.2.2, ⟨hG3, ⟨?_, ?_, ?_⟩, fun z => by omega, fun _ => hl, fun _ hly hz => ?_, by omega, by omega, by omega⟩, by omega, e⟩
          · rw [sI_at (by omega)]; exact (sq.1.1 1 (by omega)).trans he.1
          · rw [sI_at (by omega)]; exact (sq.1.1 5 (by omega)).trans he.2.1
          · rw [sI_at (by omega)]; exact (sq.2 (by simp)).trans he.2.2
          · obtain ⟨-, w1, w2, w3⟩ := g3 hly
            obtain ⟨w4, w5⟩ := w3 hz
            rw [hL] at w4
            refine ⟨w4, w1, a, sI_eq, ?_⟩
            refine QM.wide _ _ (rg c' c2) _ _ (w5.fr (fun z hz => ⟨(SQa.w (Or.inr (Or.inr (by have := hz.1; omega)))).1, fun _ => (SQa.w (Or.inr (Or.inr (by have := hz.1; omega)))).2⟩) (fun k _ _ => sI_at (by omega)) (Nat.le_refl _)) (fun z hz => ⟨by have := hz.1; omega, hz.2⟩)
        refine ⟨h2.K, onS h2.r17 ⟨h2.k14, onS h2.a1.1 ⟨h2.a1.2.1, by rw [h2.a1.2.2]; exact v, h2.K, ?_⟩⟩⟩
        rw [cl, sI_at (by omega), g4]
        have kk1 : nI (fnK b n i j) = (1 : Int32) ↔ fnK b n i j = 1 := nI_eq (b := 1) (by omega) (by decide)
        have pth : akI y ly = 2 ↔ (ly = false ∧ isPth y = true) := by
          unfold akI
          cases ly <;> cases isPth y <;> cases isFun y <;> simp <;> decide
        have mor : akI y ly = 4 ↔ ly = true := by
          unfold akI
          cases ly <;> cases isPth y <;> cases isFun y <;> simp <;> decide
        refine ⟨fun a2 => ?_, fun a2 => ?_⟩
        · obtain ⟨b1, b2⟩ := pth.mp a2
          refine ⟨fun a1 => ⟨h2.K, fun a3 => absurd (mor.mp a3) (by rw [b1]; decide), fun _ => ⟨fun z => absurd z (by decide), fun _ => ⟨h2.K, onS h2.r17 ⟨h2.k14, onS h2.a2.1 ⟨h2.a2.2.1, ?_, ?_⟩⟩⟩⟩⟩, fun a1 => out 1 ?_⟩
          · show vp_in (nI a) (tL t2 (P + 3)); rw [h2.a2.2.2]; exact va
          · rw [ca, sI_at (by omega)]
            obtain ⟨w0, w1, w2, w3⟩ := g3 b1
            obtain ⟨pp, yy, rfl⟩ : ∃ (pp : Nat) (yy : QF), y = .tag 25 (.tag pp yy) := by
              rcases w0 with w | w | w
              · cases y with
                | tag k z =>
                  have b2 : (k == 25) = true := b2
                  have : k = 25 := by simpa using b2
                  subst this; cases w
                | _ => cases b2
              · cases y with
                | tag k z =>
                  have b2 : (k == 25) = true := b2
                  have : k = 25 := by simpa using b2
                  subst this; cases w
                | _ => cases b2
              · exact w
            have hp4 := ((w2.2 rfl).2 pp yy rfl).2
            rw [((w2.2 rfl).2 pp yy rfl).1]
            have cm : isCmp (.tag 25 (.tag pp yy)) = decide (pp / 2 = 1) := by
              show (pp == 2 || pp == 3) = _
              obtain rfl | rfl | rfl | rfl : pp = 0 ∨ pp = 1 ∨ pp = 2 ∨ pp = 3 := by omega
              all_goals rfl
            refine ⟨fun z => out 1 ?_, fun z => out 0 ?_⟩
            · have : pp / 2 = 1 := (nI_eq (b := 1) (by omega) (by decide)).mp z
              unfold fnF
              rw [b1, if_pos (kk1.mp a1), cm, this]; rfl
            · have : ¬ pp / 2 = 1 := fun w => z (by rw [w]; rfl)
              unfold fnF
              rw [b1, if_pos (kk1.mp a1), cm, decide_eq_false this]; rfl
          · unfold fnF
            rw [b1, if_neg (fun w => a1 (kk1.mpr w)), b2]; rfl
        · refine ⟨fun a1 => ⟨h2.K, fun a3 => out 0 ?_, fun a3 => ⟨fun _ => out 1 ?_, fun z => absurd rfl z⟩⟩, fun a1 => out 0 ?_⟩
          · unfold fnF; rw [mor.mp a3]; rfl
          · have hly : ly = false := by
              cases ly with
              | false => rfl
              | true => exact absurd (mor.mpr rfl) a3
            have hnp : isPth y = false := by
              cases hx : isPth y with
              | false => rfl
              | true => exact absurd (pth.mpr ⟨hly, hx⟩) a2
            obtain ⟨w0, w1, w2, w3⟩ := g3 hly
            unfold fnF
            rw [hly, if_pos (kk1.mp a1), OTk_c w0 hnp]; rfl
          · unfold fnF
            rw [if_neg (fun w => a1 (kk1.mpr w))]
            cases ly with
            | true => rfl
            | false =>
              have hnp : isPth y = false := by
                cases hx : isPth y with
                | false => rfl
                | true => exact absurd (pth.mpr ⟨rfl, hx⟩) a2
              rw [hnp]; rfl
      · have hm0 : ¬ mc = 0 := fun z => e4 (by rw [z]; rfl)
        rw [if_neg hm0, if_neg hm0] at e
        refine ⟨3 * (n + 1 - p) + 2, by omega, rfl, rfl, rfl, rfl, f0, p, i2, j2, q2, c2, L2, mc, x, lg, g0, rfl, rfl, rfl, hpn, by omega, g2.1, by omega, g2.2.2, ⟨hG2, ⟨(sq.1.1 1 (by omega)).trans he.1, (sq.1.1 5 (by omega)).trans he.2.1, (sq.2 (by simp)).trans he.2.2⟩, fun z => by omega, fun _ => z1 hm0, fun z => by omega, by omega, by omega, by omega⟩, by omega, e⟩
    · rcases e2 with e2 | ⟨rfl, j2, L2, y, ly, e2, e3, e4⟩
      · have e2' : agN b n (f0 + 1) p L' = .inr (w, p2) := e2
        rw [e2'] at e
        exact Or.inl (hspE _ (by omega) e)
      · have e2' : agN b n (f0 + 1) p L' = .inl (j2, L2, y, ly) := e2
        rw [e2'] at e
        have e : A = if pk b n (sk b n j2) = 44 then agF b n (agN b n (f0 + 1)) g0 (sk b n (sk b n j2 + 1)) L2 (mc + 1) (if mc = 0 then y else x) (if mc = 0 then ly else lg) else if pk b n (sk b n j2) = 41 then .inl (sk b n j2 + 1, L2, mc + 1, (if mc = 0 then y else x), (if mc = 0 then ly else lg)) else .inr (1, sk b n j2) := e
        rw [← e3, if_neg (stk_no e4).1, if_neg (stk_no e4).2.2.1] at e
        exact Or.inl (hspE _ (by omega) e)
  · rintro m l2 l3 l4 l5 l6 l7 t' ⟨rfl, rfl, f0, p, i2, j2, q', c', L', mc, x, lg, g, rfl, rfl, rfl, hpn, hg, hpi, hmi, hs2, hF, hb, e⟩
    have hGp := hF.1
    have hi2 := hGp.1.2.1
    have hip2 := hF.2.2.2.2.2.2.1
    have slo2 := sk_lo (b := b) (n := n) (i := i2)
    have hsk2 := sk_le (b := b) hi2
    refine ⟨hGp.1.K, mqB hGp (fun hG1 => ⟨rfl, hG1.1.K, ?_⟩)⟩
    have hF1 := hF.to slo2 hsk2
    rw [← hs2] at e
    refine mqI hG1.1 (fun e44 => ⟨fun z => absurd z (by decide), fun _ => ⟨hG1.1.K, hG1.1.K, hG1.1.K, ?_⟩⟩) (fun e44 => ⟨fun _ => ⟨1, by omega, rfl, rfl, rfl, rfl, f0, sk b n i2, q', c', L', mc + 1, x, lg, 0, rfl, by rw [nI_1], sk_sk, hF1, Or.inr ⟨rfl, rfl, by omega, ?_⟩⟩, fun z => absurd rfl z⟩)
    · have hlt2 := (pk_nn e44 (by decide)).1
      rw [if_pos e44] at e
      rw [hG1.1.at, nI_1]
      have slo3 := sk_lo (b := b) (n := n) (i := sk b n i2 + 1)
      have hsk3 := sk_le (b := b) (n := n) (i := sk b n i2 + 1) (by omega)
      have hF2 := hF1.to (p2 := sk b n i2 + 1) (by omega) (by omega)
      refine mqB hF2.1 (fun hG3 => ⟨rfl, 3 * (n + 1 - sk b n (sk b n i2 + 1)) + 3, by omega, rfl, rfl, rfl, rfl, f0, sk b n (sk b n i2 + 1), q', c', L', mc + 1, x, lg, g, rfl, by rw [nI_1], sk_sk, hF2.to slo3 hsk3, Or.inl ⟨rfl, rfl, by omega, by omega, e⟩⟩)
    · rw [if_neg e44] at e; exact e
  · rintro m l2 l3 l4 l5 t' ⟨rfl, rfl, rfl, f0, p, q', c', L', mc, x, lg, rfl, rfl, hF, hb, e⟩
    have hGp := hF.1
    have hpn := hGp.1.2.1
    refine ⟨hGp.1.K, mqN (by decide) hGp (fun e41 hG1 => ⟨rfl, hG1.1.K, hG1.1.K, ?_⟩) (fun e41 t2 hFq => k2 1 p (Or.inl (hspE _ (by omega) (by rw [e, if_neg e41]))) t2 hFq)⟩
    rw [if_pos e41] at e
    have hlt2 := (pk_nn e41 (by decide)).1
    have hsp := hspI _ _ _ _ _ (by omega) e
    have hF1 := hF.to (p2 := p + 1) (by omega) (by omega)
    rw [hG1.1.2.2.2.1.2, nI_o (by omega)]
    have hG2 : GO M P b n [] t0 i q c (sI (sI t' M 5 (nI (p + 1))) M 18 (nI (16 - (f0 + 1)))) (p + 1) q' c' (16 - (f0 + 1)) L' := hF1.1.op (by omega)
    obtain ⟨-, he, z0, z1, zt, hcc, hip, hmp⟩ := hF1
    have hin := hG.2.2.2.1
    have e1 : tI (sI (sI t' M 5 (nI (p + 1))) M 18 (nI (16 - (f0 + 1)))) (P + 1) c = 26 := by rw [sI_at (by omega)]; exact he.1
    have e5 : tI (sI (sI t' M 5 (nI (p + 1))) M 18 (nI (16 - (f0 + 1)))) (P + 5) c = nI (fnK b n i j) := by rw [sI_at (by omega)]; exact he.2.1
    have e4 : tI (sI (sI t' M 5 (nI (p + 1))) M 18 (nI (16 - (f0 + 1)))) (P + 4) c = -1 := by rw [sI_at (by omega)]; exact he.2.2
    have et : mc = 1 → lg = false → L'.1 = 0 → L.1 = 0 ∧ isTg x = true ∧ ∃ a, tI (sI (sI t' M 5 (nI (p + 1))) M 18 (nI (16 - (f0 + 1)))) (P + 2) c = nI a ∧ QM (sI (sI t' M 5 (nI (p + 1))) M 18 (nI (16 - (f0 + 1)))) P (M + 3) 2400 q' x 7 (rg (c + 1) c') [a] := fun a1 a2 a3 => by
      obtain ⟨w1, w2, a, w3, w4⟩ := zt a1 a2 a3
      exact ⟨w1, w2, a, by rw [sI_at (by omega)]; exact w3, w4.fr (fun z hz => ⟨(SQa.w (Or.inl (by omega))).1, fun _ => (SQa.w (Or.inl (by omega))).2⟩) (fun k _ _ => sI_at (by omega)) (Nat.le_refl _)⟩
    revert hG2 e1 e5 e4 et
    generalize sI (sI t' M 5 (nI (p + 1))) M 18 (nI (16 - (f0 + 1))) = t2
    intro hG2 e1 e5 e4 et
    have late : ¬ (mc = 1 ∧ wants (fnK b n i j) x lg = true) → CalG C mtab (E + 11) 182 [svR (some M), svI (2 : Int32), svI (nI i)] t2 (aftV (fun v6 t7 => v6 = none ∧ Post (.inl (some (svI (nI c)))) t7) (fun k8 q9 t10 => Post (.inr (k8, q9)) t10)) := by
      intro hno
      rw [if_neg hno] at hsp
      refine m182 (kk := 2) hG2.1 (by omega) (by omega) (by omega) (fun t3 g1 g2 g3 => ⟨rfl, ?_⟩)
      refine k1 _ _ _ hsp t3 (p + 1) q' c' c (hG2.trans g1 (fun z hz => by cases hz)) ⟨by omega, Nat.le_refl _, rfl, fun z => by cases z⟩ (fun _ z => absurd z (noteL_0 (by omega))) ⟨fun z => by omega, fun _ => ⟨(g2 _ _ (by omega)).trans e1, fun p y ep => by cases ep⟩⟩ ⟨Nat.le_refl _, hcc, (g2 _ _ (by omega)).trans e4⟩ (by omega) (fun z => by cases z)
    have hw := wants_f (x := x) (lg := lg) hKle
    refine ⟨fun a0 => ⟨hG2.1.K, late (fun w => ?_)⟩, fun a0 => ⟨fun a1 => ⟨fun a2 => ⟨hG2.1.K, late (fun w => ?_)⟩, fun a2 => ?_⟩, fun a1 => ⟨hG2.1.K, late (fun w => ?_)⟩⟩⟩
    · have : fnK b n i j = 0 := (nI_eq (b := 0) (by omega) (by decide)).mp a0
      rw [hw, this] at w
      exact absurd w.2 (by simp)
    · rw [z1 (by omega)] at a2
      rw [hw, bI_0.mp a2] at w
      exact absurd w.2 (by simp)
    · have hm1 : mc = 1 := (nI_eq (b := 1) (by omega) (by decide)).mp a1
      have hfit : fnF (fnK b n i j) x lg = true := by
        cases hx : fnF (fnK b n i j) x lg with
        | true => rfl
        | false => rw [z1 (by omega), hx] at a2; exact absurd rfl a2
      have hK0 : ¬ fnK b n i j = 0 := fun z => a0 (by rw [z]; rfl)
      have hwt : wants (fnK b n i j) x lg = true := by rw [hw, hfit]; simp [hK0]
      rw [if_pos ⟨hm1, hwt⟩] at hsp
      have hlg : lg = false := by
        cases lg with
        | false => rfl
        | true => unfold fnF at hfit; cases hfit
      refine k1 _ _ _ hsp t2 (p + 1) q' c' c hG2 ⟨by omega, Nat.le_refl _, rfl, fun z => by cases z⟩ (fun _ z => ?_) ⟨fun z => by omega, fun _ => ⟨e1, fun p y ep => by cases ep⟩⟩ ⟨Nat.le_refl _, hcc, e4⟩ (by omega) (fun z => by cases z)
      obtain ⟨w1, w2, a, w3, w4⟩ := et hm1 hlg z
      refine ⟨w1, rfl, QM.mk (m := 7) (k := 26) (us := [a]) (F1 := rg (c + 1) c') (by decide) (by decide) (by decide) ⟨Nat.le_refl _, hcc⟩ (fun z hz => ⟨by have := hz.1; omega, hz.2⟩) (fun z => by have := z.1; omega) ?_ (Or.inr ?_)⟩
      · unfold HM
        rw [if_neg (by decide), if_neg (by decide), if_neg (by decide), if_neg (by decide), if_pos rfl, if_neg (by decide), if_neg (by decide), if_neg (by decide), if_pos rfl]
        exact ⟨e1, e5, by show 1 ≤ fnK b n i j; omega, hKle, rfl, a, w3, rfl⟩
      · show QM t2 P (M + 3) 2400 q' (.tag (fnK b n i j) x) 8 (rg (c + 1) c') [a]
        unfold QM
        rw [if_neg (by decide), if_pos rfl]
        exact ⟨w2, w4⟩
    · exact a1 (by rw [w.1]; rfl)
end MQB
