/-! json and query, OF THE CLASS -/
/-- the class's own cells -/
def BSh (t : Ht) (B : Nat) : Prop := (tK t B = 13 ∧ tK t (B + 1) = 100 ∧ tL t (B + 1) = 1200 ∧ tK t (B + 2) = 7 ∧ tK t (B + 3) = 101 ∧ tL t (B + 3) = 1200 ∧ tK t (B + 4) = 12 ∧ tK t (B + 5) = 6 ∧ tK t (B + 6) = 2 ∧ tK t (B + 7) = 105 ∧ tL t (B + 7) = 34 ∧ tK t (B + 8) = 4 ∧ tK t (B + 9) = 100 ∧ tL t (B + 9) = 2400) ∧
  (tR t B 0 = some (B + 1) ∧ tR t B 1 = some (B + 2) ∧ tR t B 2 = some (B + 4) ∧ tR t B 3 = some (B + 5) ∧ tR t B 4 = some (B + 6) ∧ tR t B 5 = some (B + 8)) ∧
  (tR t (B + 2) 0 = some (B + 1) ∧ tR t (B + 2) 1 = some (B + 3) ∧ tR t (B + 4) 0 = some (B + 2) ∧ tR t (B + 5) 0 = some (B + 2) ∧ tR t (B + 6) 0 = some (B + 7) ∧ tR t (B + 8) 0 = some (B + 9)) ∧ B + 9 < tN t
def TPc (t : Ht) (B tp : Nat) (b : By) : Prop := tI t B 6 = nI tp ∧ tp ≤ 1200 ∧ (∀ k, b k < 256) ∧ ∀ k, k < tp → tI t (B + 1) k &&& 255 = nI (b k)
section CJQ
variable {C : Cx} {d E : Nat} {Post : OutT → Ht → Prop} {t t1 t' : Ht} {B tp n : Nat} {b : By} {V : VT}
theorem BSh.of (h : BSh t B) (hN : tN t ≤ tN t') (hk : ∀ x, B ≤ x → x ≤ B + 9 → tK t' x = tK t x ∧ tL t' x = tL t x) (hr : ∀ x k, B ≤ x → x ≤ B + 9 → x ≠ B + 7 → (x = B → k ≤ 5) → (x ≠ B → k ≤ 1) → tR t' x k = tR t x k) : BSh t' B := by
  obtain ⟨⟨a0, a1, a1', a2, a3, a3', a4, a5, a6, a7, a7', a8, a9, a9'⟩, ⟨r0, r1, r2, r3, r4, r5⟩, ⟨s0, s1, s2, s3, s4, s5⟩, hB⟩ := h
  refine ⟨⟨(hk _ (by omega) (by omega)).1.trans a0, (hk _ (by omega) (by omega)).1.trans a1, (hk _ (by omega) (by omega)).2.trans a1', (hk _ (by omega) (by omega)).1.trans a2, (hk _ (by omega) (by omega)).1.trans a3, (hk _ (by omega) (by omega)).2.trans a3', (hk _ (by omega) (by omega)).1.trans a4, (hk _ (by omega) (by omega)).1.trans a5, (hk _ (by omega) (by omega)).1.trans a6, (hk _ (by omega) (by omega)).1.trans a7, (hk _ (by omega) (by omega)).2.trans a7', (hk _ (by omega) (by omega)).1.trans a8, (hk _ (by omega) (by omega)).1.trans a9, (hk _ (by omega) (by omega)).2.trans a9'⟩, ⟨(hr _ _ (by omega) (by omega) (by omega) (by omega) (by omega)).trans r0, (hr _ _ (by omega) (by omega) (by omega) (by omega) (by omega)).trans r1, (hr _ _ (by omega) (by omega) (by omega) (by omega) (by omega)).trans r2, (hr _ _ (by omega) (by omega) (by omega) (by omega) (by omega)).trans r3, (hr _ _ (by omega) (by omega) (by omega) (by omega) (by omega)).trans r4, (hr _ _ (by omega) (by omega) (by omega) (by omega) (by omega)).trans r5⟩, ⟨(hr _ _ (by omega) (by omega) (by omega) (by omega) (by omega)).trans s0, (hr _ _ (by omega) (by omega) (by omega) (by omega) (by omega)).trans s1, (hr _ _ (by omega) (by omega) (by omega) (by omega) (by omega)).trans s2, (hr _ _ (by omega) (by omega) (by omega) (by omega) (by omega)).trans s3, (hr _ _ (by omega) (by omega) (by omega) (by omega) (by omega)).trans s4, (hr _ _ (by omega) (by omega) (by omega) (by omega) (by omega)).trans s5⟩, by omega⟩
/-- the heap behind begin -/
def bgH (t : Ht) (B n : Nat) : Ht := sI (sI (sI (sI (sI (sI t (B + 2) 3 (nI n)) (B + 2) 4 0) (B + 2) 5 0) (B + 2) 6 (-1)) B 6 0) B 7 1
theorem c141b {x1 : Int32} (h : BSh t B) (hT : TPc t B tp b) (k0 : (x1 < 0 ∨ ¬ x1 ≤ nI tp) → Post (.inl (some (svI 0))) t) (k1 : ∀ n, n ≤ tp → x1 = nI n → Post (.inl (some (svI 1))) (bgH t B n)) : CalG C mtab (d + 3) 141 [svR (some B), svI x1] t Post := by
  obtain ⟨⟨a0, a1, a1', a2, -⟩, ⟨r0, r1, -⟩, ⟨s0, -⟩, hB⟩ := h
  obtain ⟨T1, T2, T3, T4⟩ := hT
  refine cal141 ⟨fun e => ⟨Or.inl rfl, k0 (Or.inl e)⟩, fun e => ⟨a0, fun e2 => ⟨a0, onS r1 ⟨a2, c82 a2 s0 a1 a1' ⟨rfl, a0, a0, Or.inr rfl, Or.inr rfl, ?_⟩⟩⟩, fun e2 => ⟨Or.inl rfl, k0 (Or.inr (by rw [T1] at e2; exact e2))⟩⟩⟩
  obtain ⟨n, hn, rfl⟩ := nI_of e
  rw [T1] at e2
  have hnt : n ≤ tp := (nI_leI hn (by omega)).mp e2
  have e1200 : ¬ (1200 : Int32) < nI n := fun w => absurd w (nI_nlt (a := 1200) (b := n) (by omega) (by omega))
  rw [if_neg e1200]
  exact k1 n hnt rfl
theorem bgH_same {x : Nat} (h1 : x ≠ B) (h2 : x ≠ B + 2) : sameAt t (bgH t B n) x := by
  unfold bgH
  exact (((((sameAt_sI h2).trans (sameAt_sI h2)).trans (sameAt_sI h2)).trans (sameAt_sI h2)).trans (sameAt_sI h1)).trans (sameAt_sI h1)
theorem bgH_rb (h : BSh t B) (hT : TPc t B tp b) (hn : n ≤ tp) : RB (bgH t B n) (B + 2) (B + 1) (B + 3) b n 0 := by
  obtain ⟨⟨a0, a1, a1', a2, a3, a3', -⟩, ⟨r0, r1, -⟩, ⟨s0, s1, -⟩, hB⟩ := h
  obtain ⟨T1, T2, T3, T4⟩ := hT
  refine ⟨⟨a2, s0, a1, a1', ?_, ?_, by omega, by omega, T3, fun k hk => ?_⟩, s1, a3, a3', ?_, ?_, ?_⟩
  · unfold bgH; rw [sI_at (by omega), sI_at (by omega), sI_at (by omega), sI_at (by omega), sI_at (by omega)]; exact sI_eq
  · unfold bgH; rw [sI_at (by omega), sI_at (by omega), sI_at (by omega), sI_at (by omega)]; exact sI_eq
  · rw [(bgH_same (by omega) (by omega)).2.2.1 k]; exact T4 k (by omega)
  · show B + 3 < tN t; omega
  · show B + 2 < tN t; omega
  · show B + 1 < tN t; omega
theorem bgH_i : tI (bgH t B n) B 6 = 0 ∧ tI (bgH t B n) B 7 = 1 ∧ tI (bgH t B n) (B + 2) 5 = 0 ∧ tI (bgH t B n) (B + 2) 6 = -1 := by
  unfold bgH
  refine ⟨?_, sI_eq, ?_, ?_⟩
  · rw [sI_at (by omega)]; exact sI_eq
  · rw [sI_at (by omega), sI_at (by omega), sI_at (by omega)]; exact sI_eq
  · rw [sI_at (by omega), sI_at (by omega)]; exact sI_eq
/-- what the caller of json needs -/
def KCj (C : Cx) (B : Nat) (b : By) (tp : Nat) (V : VT) (x1 : Int32) (t : Ht) (Post : OutT → Ht → Prop) : Prop :=
  ((x1 < 0 ∨ ¬ x1 ≤ nI tp) → Post (.inl (some (svI (-1 : Int32)))) t) ∧
  (∀ n, n ≤ tp → x1 = nI n → ∀ w p, whS b n (wnS b n true) V = .inr (w, p) → ∀ t', (∀ x, x < tN t → x ∉ [B, B + 2, B + 3, B + 4] → sameAt t t' x) → BSh t' B → (tR t' B 8 = tR t B 8 ∧ tR t' B 9 = tR t B 9 ∧ tI t' B 6 = 0 ∧ tI t' B 7 = 1) → (tI t' (B + 2) 5 = nI w ∧ tI t' (B + 2) 6 = nI p) → (tN t ≤ tN t' ∧ tN t' ≤ tN t + 8 * (n + 1) ∧ tU t' ≤ tU t + 600 * (n + 1)) → Post (.inl (some (svI (nI w)))) t') ∧
  (∀ n, n ≤ tp → x1 = nI n → ∀ j c V', whS b n (wnS b n true) V = .inl (j, c, V') → ∀ t' G, (∀ x, x < tN t → x ∉ [B, B + 2, B + 3, B + 4, B + 6] → sameAt t t' x) → BSh t' B → (tR t' B 8 = some (gA G 0) ∧ tR t' B 9 = tR t B 9 ∧ tI t' B 6 = 0 ∧ tI t' B 7 = 1) → (tI t' (B + 2) 5 = 0 ∧ tI t' (B + 2) 6 = -1) → (tR t' (B + 6) 2 = none ∧ ∀ k, tI t' (B + 6) k = tI t (B + 6) k) → NV C (tN t) t' G V' c → 0 < c → (tN t ≤ tN t' ∧ tN t' ≤ tN t + 8 * (n + 1) ∧ tU t' ≤ tU t + 600 * (n + 1)) → Post (.inl (some (svI (0 : Int32)))) t')
set_option maxHeartbeats 1000000 in
theorem cJson {x1 : Int32} (h : BSh t B) (hT : TPc t B tp b) (kk : KCj C B b tp V x1 t Post) : CalG C mtab (E + 141) 130 [svR (some B), svI x1] t Post := by
  obtain ⟨k0, k1, k2⟩ := kk
  have h' := h
  obtain ⟨⟨a0, a1, a1', a2, a3, a3', a4, a5, a6, -⟩, ⟨r0, r1, r2, r3, r4, r5⟩, ⟨s0, s1, s2, s3, s4, s5⟩, hB⟩ := h'
  refine cal130 ⟨a0, c141b h hT (fun e => ⟨fun _ => k0 e, fun z => absurd rfl z⟩) (fun n hn e => ⟨fun z => absurd z (by decide), fun _ => ⟨a0, onS r2 ⟨a4, ?_⟩⟩⟩)⟩
  have hrb := bgH_rb h hT hn
  have hi := bgH_i (t := t) (B := B) (n := n)
  have hsm : ∀ x, x ≠ B → x ≠ B + 2 → sameAt t (bgH t B n) x := fun x => bgH_same
  have hN1 : tN (bgH t B n) = tN t := rfl
  have hU1 : tU (bgH t B n) = tU t := rfl
  have hKt : tK (bgH t B n) = tK t := rfl
  have hLt : tL (bgH t B n) = tL t := rfl
  have hRt : tR (bgH t B n) = tR t := rfl
  revert hrb hi hsm hN1 hU1 hKt hLt hRt
  generalize bgH t B n = t1
  intro hrb hi hsm hN1 hU1 hKt hLt hRt
  have keep : ∀ t2, VF (B + 4) (B + 2) (B + 3) t1 t2 → (∀ x, x < tN t → x ∉ [B, B + 2, B + 3, B + 4] → sameAt t t2 x) ∧ BSh t2 B ∧ (∀ x k, x < tN t → (x ≠ B + 4 ∨ k ≠ 2) → tR t2 x k = tR t x k) ∧ (tI t2 B 6 = 0 ∧ tI t2 B 7 = 1) := fun t2 hv => by
    obtain ⟨v1, v2⟩ := hv
    rw [hN1] at v1 v2
    refine ⟨fun x hx hxn => ?_, h.of v1 (fun x h1 h2 => ?_) (fun x k h1 h2 h7 h3 h4 => ?_), fun x k hx hk => ?_, ?_, ?_⟩
    · simp only [List.mem_cons, List.not_mem_nil, or_false, not_or] at hxn
      obtain ⟨w1, w2, w3, w4, w5⟩ := v2 x hx
      have s := hsm x hxn.1 hxn.2.1
      exact ⟨w1.trans s.1, w2.trans s.2.1, fun k => (w5 k hxn.2.2.1 (Or.inl hxn.2.1) (Or.inl hxn.2.2.2)).trans (s.2.2.1 k), fun k => (w3 k).trans (s.2.2.2.1 k), fun k => (w4 k (Or.inl hxn.2.2.2)).trans (s.2.2.2.2 k)⟩
    · obtain ⟨w1, w2, w3, w4, w5⟩ := v2 x (by omega)
      exact ⟨by rw [w1, hKt], by rw [w2, hLt]⟩
    · obtain ⟨w1, w2, w3, w4, w5⟩ := v2 x (by omega)
      rw [w4 k (by omega), hRt]
    · obtain ⟨w1, w2, w3, w4, w5⟩ := v2 x hx
      rw [w4 k hk, hRt]
    · obtain ⟨w1, w2, w3, w4, w5⟩ := v2 B (by omega)
      rw [w5 6 (by omega) (by omega) (by omega)]; exact hi.1
    · obtain ⟨w1, w2, w3, w4, w5⟩ := v2 B (by omega)
      rw [w5 7 (by omega) (by omega) (by omega)]; exact hi.2.1
  refine r119 (d := E) V ⟨hrb, ⟨by rw [hKt]; exact a4, by rw [hRt]; exact s2⟩, by rw [hN1]; omega⟩ (fun j c V' e2 t2 G hv hnv hc e5 e6 hN hU => ?_) (fun w q e2 t2 hv hN hU => ?_)
  · obtain ⟨f1, f2, f3, f4⟩ := keep t2 hv
    have hv1 := hv.1
    rw [hN1] at hnv hN hv1
    rw [hU1] at hU
    have b13 : tK t2 B = 13 := f2.1.1
    refine ⟨b13, b13, onS (a := B + 6) ?_ ⟨f2.1.2.2.2.2.2.2.2.2.1, cal1 ⟨f2.1.2.2.2.2.2.2.2.2.1, rfl, ?_⟩⟩⟩
    · rw [sR_at (by omega)]; exact f2.2.1.2.2.2.2.1
    have sm : ∀ x, x ≠ B → x ≠ B + 6 → sameAt t2 (sR (sR t2 B 8 (some (gA G 0))) (B + 6) 2 none) x := fun x h1 h2 => (sameAt_sR h1).trans (sameAt_sR h2)
    refine k2 n hn e j c V' e2 _ G (fun x hx hxn => ?_) (f2.of (Nat.le_refl _) (fun x _ _ => ⟨rfl, rfl⟩) (fun x k h1 h2 h7 h3 h4 => ?_)) ⟨?_, ?_, f4.1, f4.2⟩ ⟨e5.trans hi.2.2.1, e6.trans hi.2.2.2⟩ ⟨sR_eq, fun k => ?_⟩ (hnv.frame (Nat.le_refl _) (fun x h1 h2 _ => sm x (by omega) (by omega))) hc ⟨hv1, by show tN t2 ≤ _; omega, by show tU t2 ≤ _; omega⟩
    · simp only [List.mem_cons, List.not_mem_nil, or_false, not_or] at hxn
      exact (f1 x hx (by simp only [List.mem_cons, List.not_mem_nil, or_false, not_or]; omega)).trans (sm x hxn.1 hxn.2.2.2.2)
    · rw [sR_at (by omega), sR_at (by omega)]
    · rw [sR_at (by omega)]; exact sR_eq
    · rw [sR_at (by omega), sR_at (by omega)]; exact f3 B 9 (by omega) (by omega)
    · show tI t2 (B + 6) k = _
      exact (f1 (B + 6) (by omega) (by simp)).2.2.1 k
  · obtain ⟨f1, f2, f3, f4⟩ := keep t2 hv.1
    have hv1 := hv.1.1
    rw [hN1] at hN hv1
    rw [hU1] at hU
    refine ⟨rfl, f2.1.1, onS f2.2.1.2.1 ⟨f2.1.2.2.2.1, ?_⟩⟩
    rw [hv.2.1]
    exact k1 n hn e w q e2 t2 f1 f2 ⟨f3 B 8 (by omega) (by omega), f3 B 9 (by omega) (by omega), f4.1, f4.2⟩ ⟨hv.2.1, hv.2.2⟩ ⟨hv1, hN, hU⟩
/-- what the caller of query needs -/
def KCq (C : Cx) (B : Nat) (b : By) (tp : Nat) (x1 : Int32) (t : Ht) (Post : OutT → Ht → Prop) : Prop :=
  ((x1 < 0 ∨ ¬ x1 ≤ nI tp) → Post (.inl (some (svI (-1 : Int32)))) t) ∧
  (∀ n, n ≤ tp → x1 = nI n → ∀ w p, whQ b n = .inr (w, p) → ∀ t', (∀ x, x < tN t → x ∉ [B, B + 2, B + 3, B + 5] → sameAt t t' x) → BSh t' B → (tR t' B 8 = tR t B 8 ∧ tR t' B 9 = tR t B 9 ∧ tI t' B 6 = 0 ∧ tI t' B 7 = 1) → (tI t' (B + 2) 5 = nI w ∧ tI t' (B + 2) 6 = nI p) → (tN t ≤ tN t' ∧ tN t' ≤ tN t + 40 * n + 2 ∧ tU t' ≤ tU t + 600 * n + 16) → Post (.inl (some (svI (nI w)))) t') ∧
  (∀ n, n ≤ tp → x1 = nI n → ∀ s x, whQ b n = .inl (s, x) → ∀ t', (∀ x, x < tN t → x ∉ [B, B + 2, B + 3, B + 5, B + 6] → sameAt t t' x) → BSh t' B → (tR t' B 8 = tR t B 8 ∧ tR t' B 9 = some (tN t) ∧ tI t' B 6 = 0 ∧ tI t' B 7 = 1) → (tI t' (B + 2) 5 = 0 ∧ tI t' (B + 2) 6 = -1) → (tR t' (B + 6) 2 = none ∧ ∀ k, tI t' (B + 6) k = tI t (B + 6) k) → QR C t' (qT (1 + (if s then 2 else 0)) x) 0 [] (rg (tN t) (tN t')) [tN t] false → (tN t ≤ tN t' ∧ tN t' ≤ tN t + 40 * n + 2 ∧ tU t' ≤ tU t + 600 * n + 16) → Post (.inl (some (svI (0 : Int32)))) t')
set_option maxHeartbeats 1000000 in
theorem cQuery {x1 : Int32} (h : BSh t B) (hT : TPc t B tp b) (kk : KCq C B b tp x1 t Post) : CalG C mtab (E + 231) 131 [svR (some B), svI x1] t Post := by
  obtain ⟨k0, k1, k2⟩ := kk
  have h' := h
  obtain ⟨⟨a0, a1, a1', a2, a3, a3', a4, a5, a6, -⟩, ⟨r0, r1, r2, r3, r4, r5⟩, ⟨s0, s1, s2, s3, s4, s5⟩, hB⟩ := h'
  refine cal131 ⟨a0, c141b h hT (fun e => ⟨fun _ => k0 e, fun z => absurd rfl z⟩) (fun n hn e => ⟨fun z => absurd z (by decide), fun _ => ⟨a0, onS r3 ⟨a5, ?_⟩⟩⟩)⟩
  have hrb := bgH_rb h hT hn
  have hi := bgH_i (t := t) (B := B) (n := n)
  have hsm : ∀ x, x ≠ B → x ≠ B + 2 → sameAt t (bgH t B n) x := fun x => bgH_same
  have hN1 : tN (bgH t B n) = tN t := rfl
  have hU1 : tU (bgH t B n) = tU t := rfl
  have hKt : tK (bgH t B n) = tK t := rfl
  have hLt : tL (bgH t B n) = tL t := rfl
  have hRt : tR (bgH t B n) = tR t := rfl
  revert hrb hi hsm hN1 hU1 hKt hLt hRt
  generalize bgH t B n = t1
  intro hrb hi hsm hN1 hU1 hKt hLt hRt
  have keep : ∀ t2, QY (B + 5) (B + 2) (B + 3) t1 t2 → (∀ x, x < tN t → x ∉ [B, B + 2, B + 3, B + 5] → sameAt t t2 x) ∧ BSh t2 B ∧ (∀ x k, x < tN t → tR t2 x k = tR t x k) ∧ (tI t2 B 6 = 0 ∧ tI t2 B 7 = 1) := fun t2 hv => by
    obtain ⟨v1, v2, v3⟩ := hv
    rw [hN1] at v1 v2 v3
    refine ⟨fun x hx hxn => ?_, h.of v1 (fun x h1 h2 => ?_) (fun x k h1 h2 h7 h3 h4 => ?_), fun x k hx => ?_, ?_, ?_⟩
    · simp only [List.mem_cons, List.not_mem_nil, or_false, not_or] at hxn
      obtain ⟨w1, w2, w3, w4⟩ := v2 x hx
      have s := hsm x hxn.1 hxn.2.1
      exact ⟨w1.trans s.1, w2.trans s.2.1, fun k => (v3 x k hx hxn.2.2.1 (Or.inl hxn.2.1) (Or.inl hxn.2.2.2)).trans (s.2.2.1 k), fun k => (w4 k).trans (s.2.2.2.1 k), fun k => (w3 k).trans (s.2.2.2.2 k)⟩
    · obtain ⟨w1, w2, w3, w4⟩ := v2 x (by omega)
      exact ⟨by rw [w1, hKt], by rw [w2, hLt]⟩
    · obtain ⟨w1, w2, w3, w4⟩ := v2 x (by omega)
      rw [w3 k, hRt]
    · obtain ⟨w1, w2, w3, w4⟩ := v2 x hx
      rw [w3 k, hRt]
    · rw [v3 B 6 (by omega) (by omega) (by omega) (by omega)]; exact hi.1
    · rw [v3 B 7 (by omega) (by omega) (by omega) (by omega)]; exact hi.2.1
  refine q49 (E := E) hrb ⟨by rw [hKt]; exact a5, by rw [hRt]; exact s3⟩ (by rw [hN1]; omega) ⟨fun s x e2 t2 hC hX hQ hN hb => ?_, fun w p e2 t2 hD hb => ?_⟩
  · obtain ⟨f1, f2, f3, f4⟩ := keep t2 hX.y
    have hv1 := hX.1
    rw [hN1] at hN hb hv1 hQ
    rw [hU1] at hb
    have b13 : tK t2 B = 13 := f2.1.1
    have e5 : tI t2 (B + 2) 5 = 0 := (hX.2.2 _ _ (by rw [hN1]; omega) (by omega) (by omega) (by omega)).trans hi.2.2.1
    have e6 : tI t2 (B + 2) 6 = -1 := (hX.2.2 _ _ (by rw [hN1]; omega) (by omega) (by omega) (by omega)).trans hi.2.2.2
    rw [hN1]
    refine ⟨b13, b13, onS (a := B + 6) ?_ ⟨f2.1.2.2.2.2.2.2.2.2.1, cal1 ⟨f2.1.2.2.2.2.2.2.2.2.1, rfl, ?_⟩⟩⟩
    · rw [sR_at (by omega)]; exact f2.2.1.2.2.2.2.1
    have sm : ∀ x, x ≠ B → x ≠ B + 6 → sameAt t2 (sR (sR t2 B 9 (some (tN t))) (B + 6) 2 none) x := fun x h1 h2 => (sameAt_sR h1).trans (sameAt_sR h2)
    refine k2 n hn e s x e2 _ (fun x hx hxn => ?_) (f2.of (Nat.le_refl _) (fun x _ _ => ⟨rfl, rfl⟩) (fun x k h1 h2 h7 h3 h4 => ?_)) ⟨?_, ?_, f4.1, f4.2⟩ ⟨e5, e6⟩ ⟨sR_eq, fun k => ?_⟩ (QR.frame (t := t2) (t' := sR (sR t2 B 9 (some (tN t))) (B + 6) 2 none) (Nat.le_refl _) _ _ _ _ _ _ hQ (fun v hv => sm v (by have := hv.1; omega) (by have := hv.1; omega))) ⟨hv1, by show tN t2 ≤ _; omega, by show tU t2 ≤ _; omega⟩
    · simp only [List.mem_cons, List.not_mem_nil, or_false, not_or] at hxn
      exact (f1 x hx (by simp only [List.mem_cons, List.not_mem_nil, or_false, not_or]; omega)).trans (sm x hxn.1 hxn.2.2.2.2)
    · rw [sR_at (by omega), sR_at (by omega)]
    · rw [sR_at (by omega), sR_at (by omega)]; exact f3 B 8 (by omega)
    · rw [sR_at (by omega)]; exact sR_eq
    · show tI t2 (B + 6) k = _
      exact (f1 (B + 6) (by omega) (by simp)).2.2.1 k
  · obtain ⟨f1, f2, f3, f4⟩ := keep t2 hD.1
    have hv1 := hD.1.1
    rw [hN1] at hb hv1
    rw [hU1] at hb
    refine ⟨rfl, f2.1.1, onS f2.2.1.2.1 ⟨f2.1.2.2.2.1, ?_⟩⟩
    rw [hD.2.1]
    exact k1 n hn e w p e2 t2 f1 f2 ⟨f3 B 8 (by omega), f3 B 9 (by omega), f4.1, f4.2⟩ ⟨hD.2.1, hD.2.2⟩ ⟨hv1, hb.1, hb.2⟩
end CJQ
