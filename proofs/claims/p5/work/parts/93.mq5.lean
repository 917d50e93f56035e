/-! member, OF THE REFERENCE -/
def f184 (x : Int32) : Int32 := if f162 x = 0 then (if x < 65 then (if x = 95 then 1 else if x ≤ 127 then 0 else 1) else if x ≤ 90 then 1 else if x = 95 then 1 else if x ≤ 127 then 0 else 1) else 1
theorem f184_t : ∀ c, c < 256 → f184 (nI c) = bI (nmN c false) := by decide +kernel
theorem f184_p {b : By} {n i : Nat} (hb : ∀ k, b k < 256) : f184 (pk b n i) = bI (nmS b n i false) := by
  unfold nmS
  by_cases h : i < n
  · rw [pkI h, f184_t _ (hb i)]; simp [h]
  · rw [pkO (Nat.not_lt.mp h)]; simp [h, bI]; decide
theorem nmS_d {b : By} {n i : Nat} (hb : ∀ k, b k < 256) : nmS b n i true = (nmS b n i false || dgt b n i) := by
  unfold nmS nmN dgt
  cases decide (i < n) <;> cases decide (97 ≤ b i) <;> cases decide (b i ≤ 122) <;> cases decide (65 ≤ b i) <;> cases decide (b i ≤ 90) <;> cases decide (b i = 95) <;> cases decide (128 ≤ b i) <;> cases decide (48 ≤ b i) <;> cases decide (b i ≤ 57) <;> rfl
section MQ5
variable {C : Cx} {d E f : Nat} {Post : OutT → Ht → Prop} {t t1 t' : Ht} {M P : Nat} {b : By} {n i q c o i' q' c' o' : Nat} {L L' : LT} {X : List Nat}
theorem m184 {x : Int32} (k : Post (.inl (some (svI (f184 x)))) t) : CalG C mtab (d + 2) 184 [svR (some M), svI x] t Post := by
  refine cal184 (p162 ?_)
  unfold f184 at k
  refine ⟨fun e => ?_, fun e => ⟨Or.inr rfl, ?_⟩⟩
  · rw [if_pos e] at k
    refine ⟨fun e1 => ?_, fun e1 => ?_⟩
    · rw [if_pos e1] at k
      refine ⟨fun e2 => ⟨Or.inr rfl, ?_⟩, fun e2 => ⟨fun e3 => ⟨Or.inl rfl, ?_⟩, fun e3 => ⟨Or.inr rfl, ?_⟩⟩⟩
      · rw [if_pos e2] at k; exact k
      · rw [if_neg e2, if_pos e3] at k; exact k
      · rw [if_neg e2, if_neg e3] at k; exact k
    · rw [if_neg e1] at k
      refine ⟨fun e2 => ⟨Or.inr rfl, ?_⟩, fun e2 => ⟨fun e3 => ⟨Or.inr rfl, ?_⟩, fun e3 => ⟨fun e4 => ⟨Or.inl rfl, ?_⟩, fun e4 => ⟨Or.inr rfl, ?_⟩⟩⟩⟩
      · rw [if_pos e2] at k; exact k
      · rw [if_neg e2, if_pos e3] at k; exact k
      · rw [if_neg e2, if_neg e3, if_pos e4] at k; exact k
      · rw [if_neg e2, if_neg e3, if_neg e4] at k; exact k
  · rw [if_neg e] at k; exact k
theorem nmS_lt {i : Nat} {dd : Bool} (h : nmS b n i dd = true) : i < n := by
  unfold nmS at h
  simp at h
  exact h.1
set_option maxHeartbeats 1000000 in
theorem m191 (h : PS t M P b n i q c o L) (hc : c < 2400)
    (k1 : ∀ cs j, pnS b n i = .inl (cs, j) → ∀ t2, GO M P b n [] t i q c t2 j (q + cs.length) (c + 1) o L → i < j → (tI t2 (P + 1) c = 1 ∧ PTx t2 P (M + 3) 2400 (q + cs.length) c cs ∧ tI t2 (P + 4) c = -1) → tI t2 M 21 = tI t M 21 → Post (.inl (some (svI (nI c)))) t2)
    (k2 : ∀ p, pnS b n i = .inr p → ∀ t2, FQ M P t t2 1 p → Post (.inr (16, M + 1)) t2) : CalG C mtab (d + 5) 191 [svR (some M)] t Post := by
  have hn := h.hn
  have hin := h.2.1
  have hq := h.2.2.2.2.2.1
  have hb := h.1.1.2.2.2.2.2.2.2.2.2.2.1
  have n1 : M + 3 ≠ M := by omega
  refine cal191 (fun m l1 t' => l1 = nI q ∧ ∃ f cs j, cs.length + i ≤ j ∧ j ≤ n ∧ m = n + 1 - j ∧ n + 1 - j ≤ f ∧ SM t t' M (M + 1) (M + 3) q cs j ∧ pnE (pnF b n f j cs) = pnS b n i ∧ (cs = [] → nmS b n j false = true)) ?_ ?_
  · refine ⟨h.K, m156 h.1.1 ⟨h.K, m184 ?_⟩⟩
    rw [f184_p hb]
    refine ⟨fun e => ⟨h.K, mqF (GO.rfl' (X := []) h) (fun t2 hF => k2 i ?_ t2 hF)⟩, fun e => ⟨h.K, n + 1 - i, rfl, h.1.2.2.2.2, n + 1 - i, [], i, by simp, hin, rfl, Nat.le_refl _, ⟨MX.rfl', h.at, h.1.2.2.2.2, fun k hk => by simp at hk⟩, rfl, fun _ => ?_⟩⟩
    · unfold pnS
      rw [show n + 1 - i = (n - i) + 1 by omega, pnF, if_neg (by have := bI_0.mp e; simp [this])]
      rfl
    · cases hx : nmS b n i false with
      | true => rfl
      | false => rw [hx] at e; exact absurd rfl e
  · rintro m l1 t' ⟨rfl, f, cs, j, hcj, hjn, hm, hf, hs, hst, hcs⟩
    obtain ⟨f0, rfl⟩ : ∃ f0, f = f0 + 1 := ⟨f - 1, by omega⟩
    have hG : GO M P b n [] t i q c t' j (q + cs.length) c o L := (GO.rfl' h).x hs.1 hs.2.1 hs.2.2.1 (by omega) hjn (by omega) (by omega)
    have h' := hG.1
    have more : nmS b n j true = true → CalG C mtab (d + 4) 163 [svR (some M)] t' (aftV (fun v13 t14 => rI v13 (fun x18 => tK t14 M = 17 ∧ CalG C mtab (d + 4) 164 [svR (some M), svI x18] t14 (aftV (fun v19 t20 => v19 = none ∧ ∃ k, k < m ∧ some M = some M ∧ (nI q = nI q ∧ ∃ f cs j, cs.length + i ≤ j ∧ j ≤ n ∧ k = n + 1 - j ∧ n + 1 - j ≤ f ∧ SM t t20 M (M + 1) (M + 3) q cs j ∧ pnE (pnF b n f j cs) = pnS b n i ∧ (cs = [] → nmS b n j false = true))) (fun k21 q22 t23 => Post (.inr (k21, q22)) t23)))) (fun k15 q16 t17 => Post (.inr (k15, q16)) t17)) := by
      intro hy
      have hjlt := nmS_lt hy
      have hy' : nmS b n j (decide (0 < cs.length)) = true := by
        cases cs with
        | nil => exact hcs rfl
        | cons a r => simpa using hy
      rw [pnF, if_pos hy'] at hst
      refine m163 h'.1.1 hjlt (fun l v e => ?_) (fun e => ?_)
      · rw [e] at hst
        obtain ⟨l1, l2, l3⟩ := cpS_le e
        have hs1 := SM.to (j' := j + l) n1 hs
        refine ⟨h'.K, m164 (ch := M + 3) h'.K h'.1.2.1 h'.1.2.2.1 h'.1.2.2.2.1 (p := q + cs.length) ?_ (by omega) n1 ⟨rfl, n + 1 - (j + l), by omega, rfl, rfl, f0, cs ++ [v], j + l, by simp; omega, l2, rfl, by omega, SM.keep n1 hs1, hst, fun w => by simp at w⟩⟩
        rw [sI_at (by omega)]; exact h'.1.2.2.2.2
      · rw [e] at hst
        exact k2 j hst.symm _ (FQ.of hG FQ.told)
    refine ⟨h'.K, m156 h'.1.1 ⟨h'.K, m184 ?_⟩⟩
    rw [f184_p hb]
    refine ⟨fun e => ⟨h'.K, m156 h'.1.1 (d161 hb ⟨fun e2 => ⟨h'.K, ?_⟩, fun e2 => ⟨h'.K, more ?_⟩⟩)⟩, fun e => ⟨h'.K, more ?_⟩⟩
    · have e' := bI_0.mp e
      have e2' := bI_0.mp e2
      have hne : ¬ cs = [] := fun w => by rw [hcs w] at e'; cases e'
      have hpos : 0 < cs.length := List.length_pos_iff.mpr hne
      have hy' : nmS b n j (decide (0 < cs.length)) = false := by
        rw [decide_eq_true hpos, nmS_d hb, e', e2']; rfl
      rw [pnF, if_neg (by rw [hy']; decide)] at hst
      have hst' : pnS b n i = .inl (cs, j) := by
        rw [← hst]
        cases cs with
        | nil => exact absurd rfl hne
        | cons a r => rfl
      obtain ⟨s1, s2, s3, s4⟩ := pnS_ok hn hin hst'
      refine m187 (cs := cs) (p := q) h' (by omega) rfl (fun t3 g1 g2 g3 => ?_)
      refine k1 cs j hst' t3 (hG.trans g1 (fun z hz => by cases hz)) s1 ⟨g2.1, ⟨q, g2.2.1, g2.2.2.1, ⟨by omega, Nat.le_refl _, fun k hk => ?_⟩, s4⟩, g2.2.2.2⟩ ((g3 21).trans (hs.1.2.2.2.2.2.2.1 M 21 (by omega) (by omega) (by omega)))
      rw [g1.2.2.1.2 (q + k) (by omega)]
      exact hs.2.2.2 k hk
    · rw [nmS_d hb]
      cases hx : dgt b n j with
      | true => simp
      | false => rw [hx] at e2; exact absurd rfl e2
    · rw [nmS_d hb]
      cases hx : nmS b n j false with
      | true => rfl
      | false => rw [hx] at e; exact absurd rfl e
end MQ5
