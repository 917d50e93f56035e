/-! json AND query BETWEEN CALLS -/
theorem whQ_s {b : By} {n : Nat} {s : Bool} {x : QF} (h : whQ b n = .inl (s, x)) : s = true → sgL x = true := by
  unfold whQ at h
  split at h
  · split at h
    · cases h
    · rename_i j hh L s' x' e
      split at h
      · split at h
        · rename_i hL
          injection h with h; injection h with h1 h2; subst h1 h2
          exact (sgS_g (fun i L _ => (leQ_g 15).1 i L) e hL).2.2.1
        · cases h
      · cases h
  · cases h
/-- the table that a reading begins with: of no weight -/
def V00 : VT := fun _ => eMk 0 none 0 0 [] 0
section JQ
variable {C : Cx} {d E : Nat} {Post : OutT → Ht → Prop} {t t' t2 : Ht} {B M S S' P P' tp : Nat} {b : By}
theorem CInv.fr2 (h : CInv C B t) (hN : tN t ≤ tN t') (hS : BSh t' B) (hs : ∀ x, x < tN t → B + 62 < x → sameAt t t' x) (hk : ∀ x, x ≤ B + 62 → tK t' x ≠ 8 ∧ tK t' x ≠ 104) (h8 : tR t' B 8 = tR t B 8) (h9 : tR t' B 9 = tR t B 9) (h6 : tR t' (B + 6) 2 = tR t (B + 6) 2) (h7 : ∀ k, tR t' (B + 7) k = tR t (B + 7) k) (ho : tI t' (B + 8) 1 = tI t (B + 8) 1) : CInv C B t' := by
  obtain ⟨⟨f1, f2, ⟨o, o1, o2⟩, f4, f5⟩, lo, hi, q1, v1⟩ := h
  refine ⟨⟨hS, f2.fr hN f5 h7 hs, ⟨o, ho.trans o1, o2⟩, by omega, hk⟩, lo, hi, ?_, ?_⟩
  · rcases q1 with q1 | ⟨q, g, x, q1⟩
    · exact Or.inl (h9.trans q1)
    · exact Or.inr ⟨q, g, x, q1.fr hN h9 hs⟩
  · rcases v1 with ⟨v1, v2⟩ | ⟨T, t1, G, V, c, v1, v2, v3⟩
    · exact Or.inl ⟨h8.trans v1, h6.trans v2⟩
    · refine Or.inr ⟨T, t1, G, V, c, v1.fr hN h8 hs, v2.fr hN f5 h6 hs, ?_⟩
      rw [h9]; exact v3
/-- kinds of the fixed cells, where only cells of the class itself may have changed -/
theorem kd_fx (h : CFx t B) (hS : BSh t' B) (hs : ∀ x, x < tN t → (x < B ∨ B + 9 < x) → tK t' x = tK t x) : ∀ x, x ≤ B + 62 → tK t' x ≠ 8 ∧ tK t' x ≠ 104 := fun x hx => by
  by_cases e : x < B ∨ B + 9 < x
  · rw [hs x (by have := h.2.2.2.1; omega) e]; exact h.2.2.2.2 x hx
  · obtain ⟨⟨a0, a1, a1', a2, a3, a3', a4, a5, a6, a7, a7', a8, a9, a9'⟩, -⟩ := hS
    obtain rfl | rfl | rfl | rfl | rfl | rfl | rfl | rfl | rfl | rfl : x = B ∨ x = B + 1 ∨ x = B + 2 ∨ x = B + 3 ∨ x = B + 4 ∨ x = B + 5 ∨ x = B + 6 ∨ x = B + 7 ∨ x = B + 8 ∨ x = B + 9 := by omega
    · rw [a0]; decide
    · rw [a1]; decide
    · rw [a2]; decide
    · rw [a3]; decide
    · rw [a4]; decide
    · rw [a5]; decide
    · rw [a6]; decide
    · rw [a7]; decide
    · rw [a8]; decide
    · rw [a9]; decide
/-- what json and query of the class leave -/
def CJr (C : Cx) (B : Nat) (t t' : Ht) (n : Nat) : Prop := CInv C B t' ∧ (∀ x, B + 10 ≤ x → x ≤ B + 62 → sameAt t t' x) ∧ (tI t' B 6 = 0 ∧ tI t' B 7 = 1) ∧ tN t ≤ tN t' ∧ tN t' ≤ tN t + 40 * n + 8 ∧ tU t' ≤ tU t + 600 * n + 600 ∧ ∀ k, tR t' (B + 7) k = tR t (B + 7) k
set_option maxHeartbeats 1000000 in
theorem iJson {x1 : Int32} (h : CInv C B t) (hT : TPc t B tp b) (k0 : (x1 < 0 ∨ ¬ x1 ≤ nI tp) → Post (.inl (some (svI (-1 : Int32)))) t)
    (k1 : ∀ n, n ≤ tp → x1 = nI n → ∀ w p, whS b n (wnS b n true) V00 = .inr (w, p) → ∀ t', CJr C B t t' n → tI t' (B + 2) 5 = nI w → tI t' (B + 2) 6 = nI p → Post (.inl (some (svI (nI w)))) t')
    (k2 : ∀ n, n ≤ tp → x1 = nI n → ∀ j c V', whS b n (wnS b n true) V00 = .inl (j, c, V') → ∀ t', CJr C B t t' n → tI t' (B + 2) 5 = 0 → tI t' (B + 2) 6 = -1 → Post (.inl (some (svI (0 : Int32)))) t') : CalG C mtab (E + 141) 130 [svR (some B), svI x1] t Post := by
  have hS := h.1.1
  have hN := h.1.2.2.2.1
  have htp := hT.2.1
  have hb := hT.2.2.1
  refine cJson (V := V00) hS hT ⟨k0, fun n hn e w p he t' hs hS' ⟨e8, e9, e6, e7⟩ ⟨e5, e6'⟩ ⟨n1, n2, n3⟩ => ?_, fun n hn e j c V' he t' G hs hS' ⟨e8, e9, e6, e7⟩ ⟨e5, e6'⟩ ⟨r2, ri⟩ hnv hc ⟨n1, n2, n3⟩ => ?_⟩
  · have sx : ∀ x, x < tN t → (x < B ∨ B + 4 < x ∨ x = B + 1) → sameAt t t' x := fun x h1 h2 => hs x h1 (by simp only [List.mem_cons, List.not_mem_nil, or_false, not_or]; omega)
    refine k1 n hn e w p he t' ⟨h.fr2 n1 hS' (fun x h1 h2 => sx x h1 (by omega)) (kd_fx h.1 hS' (fun x h1 h2 => (sx x h1 (by omega)).1)) e8 e9 ((sx (B + 6) (by omega) (by omega)).2.2.2.2 2) (fun k => (sx (B + 7) (by omega) (by omega)).2.2.2.2 k) ((sx (B + 8) (by omega) (by omega)).2.2.1 1), fun x h1 h2 => sx x (by omega) (by omega), ⟨e6, e7⟩, n1, by omega, Nat.le_trans n3 (Nat.le_of_eq (by rw [Nat.mul_add, Nat.mul_one, Nat.add_assoc])), fun k => (sx (B + 7) (by omega) (by omega)).2.2.2.2 k⟩ e5 e6'
  · have sx : ∀ x, x < tN t → (x < B ∨ B + 6 < x ∨ x = B + 1 ∨ x = B + 5) → sameAt t t' x := fun x h1 h2 => hs x h1 (by simp only [List.mem_cons, List.not_mem_nil, or_false, not_or]; omega)
    have s7 := sx (B + 7) (by omega) (by omega)
    have s8 := sx (B + 8) (by omega) (by omega)
    have hsb : ∀ x, x < tN t → B + 62 < x → sameAt t t' x := fun x h1 h2 => sx x h1 (by omega)
    have h0 := h
    obtain ⟨⟨f1, f2, ⟨o, o1, o2⟩, f4, f5⟩, lo, hi, q1, v1⟩ := h
    refine k2 n hn e j c V' he t' ⟨⟨⟨hS', f2.fr n1 f5 (fun k => s7.2.2.2.2 k) hsb, ⟨o, (s8.2.2.1 1).trans o1, o2⟩, by omega, kd_fx h0.1 hS' (fun x h1 h2 => (sx x h1 (by omega)).1)⟩, lo, hi, ?_, Or.inr ⟨tN t, t', G, V', c, ⟨e8, hnv, by omega, Nat.le_refl _, fun _ _ _ _ => sameAt.rfl', whS_vok hb (by omega) he⟩, Or.inl r2, ?_⟩⟩, fun x h1 h2 => sx x (by omega) (by omega), ⟨e6, e7⟩, n1, by omega, Nat.le_trans n3 (Nat.le_of_eq (by rw [Nat.mul_add, Nat.mul_one, Nat.add_assoc])), fun k => s7.2.2.2.2 k⟩ e5 e6'
    · rcases q1 with q1 | ⟨q, g, x, q1⟩
      · exact Or.inl (e9.trans q1)
      · exact Or.inr ⟨q, g, x, q1.fr n1 e9 hsb⟩
    · rcases q1 with q1 | ⟨q, g, x, q1⟩
      · exact Or.inl (e9.trans q1)
      · exact Or.inr (Or.inl q1.2.2.2.1)
set_option maxHeartbeats 1000000 in
theorem iQuery {x1 : Int32} (h : CInv C B t) (hT : TPc t B tp b) (k0 : (x1 < 0 ∨ ¬ x1 ≤ nI tp) → Post (.inl (some (svI (-1 : Int32)))) t)
    (k1 : ∀ n, n ≤ tp → x1 = nI n → ∀ w p, whQ b n = .inr (w, p) → ∀ t', CJr C B t t' n → tI t' (B + 2) 5 = nI w → tI t' (B + 2) 6 = nI p → Post (.inl (some (svI (nI w)))) t')
    (k2 : ∀ n, n ≤ tp → x1 = nI n → ∀ s x, whQ b n = .inl (s, x) → ∀ t', CJr C B t t' n → tI t' (B + 2) 5 = 0 → tI t' (B + 2) 6 = -1 → Post (.inl (some (svI (0 : Int32)))) t') : CalG C mtab (E + 231) 131 [svR (some B), svI x1] t Post := by
  have hS := h.1.1
  have hN := h.1.2.2.2.1
  refine cQuery hS hT ⟨k0, fun n hn e w p he t' hs hS' ⟨e8, e9, e6, e7⟩ ⟨e5, e6'⟩ ⟨n1, n2, n3⟩ => ?_, fun n hn e s x he t' hs hS' ⟨e8, e9, e6, e7⟩ ⟨e5, e6'⟩ ⟨r2, ri⟩ hQ ⟨n1, n2, n3⟩ => ?_⟩
  · have sx : ∀ x, x < tN t → (x < B ∨ B + 5 < x ∨ x = B + 1 ∨ x = B + 4) → sameAt t t' x := fun x h1 h2 => hs x h1 (by simp only [List.mem_cons, List.not_mem_nil, or_false, not_or]; omega)
    refine k1 n hn e w p he t' ⟨h.fr2 n1 hS' (fun x h1 h2 => sx x h1 (by omega)) (kd_fx h.1 hS' (fun x h1 h2 => (sx x h1 (by omega)).1)) e8 e9 ((sx (B + 6) (by omega) (by omega)).2.2.2.2 2) (fun k => (sx (B + 7) (by omega) (by omega)).2.2.2.2 k) ((sx (B + 8) (by omega) (by omega)).2.2.1 1), fun x h1 h2 => sx x (by omega) (by omega), ⟨e6, e7⟩, n1, by omega, by omega, fun k => (sx (B + 7) (by omega) (by omega)).2.2.2.2 k⟩ e5 e6'
  · have sx : ∀ x, x < tN t → (x < B ∨ B + 6 < x ∨ x = B + 1 ∨ x = B + 4) → sameAt t t' x := fun x h1 h2 => hs x h1 (by simp only [List.mem_cons, List.not_mem_nil, or_false, not_or]; omega)
    have s7 := sx (B + 7) (by omega) (by omega)
    have s8 := sx (B + 8) (by omega) (by omega)
    have hsb : ∀ x, x < tN t → B + 62 < x → sameAt t t' x := fun x h1 h2 => sx x h1 (by omega)
    have h0 := h
    obtain ⟨⟨f1, f2, ⟨o, o1, o2⟩, f4, f5⟩, lo, hi, q1, v1⟩ := h
    have hg : gdQ (.tag (1 + (if s then 2 else 0)) x) 10 := by
      show (1 + (if s then 2 else 0)) < 4 ∧ (2 ≤ (1 + (if s then 2 else 0)) → sgL x = true) ∧ gdQ x 1
      refine ⟨by split <;> omega, fun z => whQ_s he ?_, whQ_g he⟩
      cases s with
      | true => rfl
      | false => exact absurd z (by decide)
    refine k2 n hn e s x he t' ⟨⟨⟨hS', f2.fr n1 f5 (fun k => s7.2.2.2.2 k) hsb, ⟨o, (s8.2.2.1 1).trans o1, o2⟩, by omega, kd_fx h0.1 hS' (fun x h1 h2 => (sx x h1 (by omega)).1)⟩, tN t, tN t', Or.inr ⟨tN t, _, x, e9, hQ, by omega, Nat.le_refl _, hg, whQ_f he, whQ_d he⟩, ?_⟩, fun x h1 h2 => sx x (by omega) (by omega), ⟨e6, e7⟩, n1, by omega, by omega, fun k => s7.2.2.2.2 k⟩ e5 e6'
    rcases v1 with ⟨v1, v2⟩ | ⟨T, t1, G, V, c, v1, v2, v3⟩
    · exact Or.inl ⟨e8.trans v1, r2⟩
    · exact Or.inr ⟨T, t1, G, V, c, v1.fr n1 e8 hsb, Or.inl r2, Or.inr (Or.inr v1.2.2.2.1)⟩
theorem MTb.mk2 (h : MTb t M S S' P P') : ((S' = M + 4 ∨ S' = M + 17) ∧ (S = M + 4 ∨ S = M + 17) ∧ S ≠ S') ∧ ((P' = M + 30 ∨ P' = M + 39) ∧ (P = M + 30 ∨ P = M + 39) ∧ P ≠ P') := by
  obtain ⟨h1, h2, -⟩ := h
  omega
theorem MFx.rw (f : MFx t M) (hs : S = M + 4 ∨ S = M + 17) : RwM t S := by
  rcases hs with e | e
  · rw [e]; exact f.2.2.2.1.1
  · rw [e]; exact f.2.2.2.1.2
theorem MFx.pa (f : MFx t M) (hp : P = M + 30 ∨ P = M + 39) : PaM t P := by
  rcases hp with e | e
  · rw [e]; exact f.2.2.2.2.1
  · rw [e]; exact f.2.2.2.2.2
set_option maxHeartbeats 1000000 in
theorem jJson {x1 : Int32} (h : MInv t M) (hT : TPd t M tp b) (k0 : (x1 < 0 ∨ ¬ x1 ≤ nI tp) → ∀ t', MInv t' M → MOu M t t' → (∀ k, tI t' (M + 2) k = tI t (M + 2) k) → (∀ k, k = 3 ∨ k = 14 ∨ k = 15 → tI t' M k = tI t M k) → Post (.inl (some (svI (-1 : Int32)))) t')
    (k1 : ∀ n, n ≤ tp → x1 = nI n → ∀ w p, whS b n (wnS b n true) V00 = .inr (w, p) → ∀ t', MInv t' M → MOu M t t' → tI t' M 3 = 0 → tI t' M 14 = nI w → tI t' M 15 = nI p → Post (.inl (some (svI (nI w)))) t')
    (k2 : ∀ n, n ≤ tp → x1 = nI n → ∀ j c V', whS b n (wnS b n true) V00 = .inl (j, c, V') → ∀ t', MInv t' M → MOu M t t' → tI t' M 3 = 0 → tI t' M 14 = 0 → tI t' M 15 = -1 → Post (.inl (some (svI (0 : Int32)))) t') : CalG C mtab (E + 72) 179 [svR (some M), svI x1] t Post := by
  have h0 := h
  obtain ⟨f, hU, S, S', P, P', hTb, hV, hQ⟩ := h
  have hTb0 := hTb
  obtain ⟨⟨a1, a2, a3⟩, a4, a5, a6⟩ := hTb.mk2
  obtain ⟨hs, hp, t1, t2, t3, t4⟩ := hTb
  have htp := hT.2.1
  have hb := hT.2.2.1
  have ou : ∀ {t'}, MWj M S' t t' → MOu M t t' := fun {t'} g => by
    obtain ⟨g1, g2, g3, g4, g5, g6, g7⟩ := g
    exact ⟨g1, g2, fun x hx => ⟨by rw [g3], by rw [g4], fun k => g7 x k (by omega) (Or.inl (by omega)) (Or.inl (by omega)) (Or.inl (by omega)), fun k => g6 x k (by omega) (Or.inl (by omega)), fun k => g5 x k (Or.inl (by omega))⟩, g3, g4⟩
  refine mJson (V := V00) (S := S') (S' := S) f.1 ⟨a1, f.1.1, t2, f.rw a1⟩ t1 hT ⟨fun e => ?_, fun n hn e w p he t' g gR ⟨g14, g15, g0, g3', g12, g24⟩ gch => ?_, fun n hn e j c V' he t' g ⟨gr1, gr2⟩ ⟨g14, g15, g0, g3', g12, g24⟩ ⟨m1, m2, m3⟩ hRT _ => ?_⟩
  · have g : MUw M t (sI t M 0 0) := MUw.of (MU.I (Or.inl rfl))
    exact k0 e _ (h0.mu g (hU.fr (sI_at (by omega)))) g.ou (fun k => sI_at (by omega)) (fun k hk => sI_at (by omega))
  · have go := ou g
    obtain ⟨g1, g2, g3, g4, g5, g6, g7⟩ := g
    refine k1 n hn e w p he t' ⟨f.fr (fun x _ _ => ⟨by rw [g3], by rw [g4]⟩) (fun x k _ _ => by rw [gR]) (fun k _ _ _ _ => by rw [gR]), hU.fr (g7 M 35 (by omega) (Or.inl (by omega)) (Or.inl (by omega)) (by omega)), S, S', P, P', hTb0.fr (fun k => by rw [gR]), ?_, ?_⟩ go g3' g14 g15
    · exact hV.fr a2 g12 g24 (fun x k h1 h2 => g7 x k (by omega) (Or.inl (by omega)) (Or.inl (by omega)) (Or.inl (by omega))) (fun k => g6 _ _ (by omega) (Or.inl (by omega))) (fun k hk => gch k (by omega)) (fun k => g7 _ _ (by omega) (Or.inl (by omega)) (Or.inl (by omega)) (Or.inl (by omega)))
    · exact hQ.fr (g7 M 13 (by omega) (Or.inl (by omega)) (Or.inl (by omega)) (by omega)) (fun x k h1 h2 => g7 x k (by omega) (Or.inl (by omega)) (Or.inl (by omega)) (Or.inl (by omega))) (fun x k h1 h2 => g6 x k (by omega) (Or.inl (by omega))) (fun k h1 h2 => gch k h2)
  · have go := ou g
    obtain ⟨g1, g2, g3, g4, g5, g6, g7⟩ := g
    refine k2 n hn e j c V' he t' ⟨f.fr (fun x _ _ => ⟨by rw [g3], by rw [g4]⟩) (fun x k h1 h2 => g5 x k (Or.inl (by omega))) (fun k z1 z2 _ _ => g5 M k (Or.inr ⟨z1, z2⟩)), hU.fr (g7 M 35 (by omega) (Or.inl (by omega)) (Or.inl (by omega)) (by omega)), S', S, P, P', ⟨by omega, hp, gr1, gr2, (g5 M 16 (by omega)).trans t3, (g5 M 17 (by omega)).trans t4⟩, Or.inr ⟨by rw [g12]; decide, V', c, hRT, whS_vok hb (by omega) he, m3, Or.inl g24⟩, ?_⟩ go g3' g14 g15
    exact hQ.fr (g7 M 13 (by omega) (Or.inl (by omega)) (Or.inl (by omega)) (by omega)) (fun x k h1 h2 => g7 x k (by omega) (Or.inl (by omega)) (Or.inl (by omega)) (Or.inl (by omega))) (fun x k h1 h2 => g6 x k (by omega) (Or.inl (by omega))) (fun k h1 h2 => g7 _ _ (by omega) (Or.inl (by omega)) (Or.inr ⟨h1, h2⟩) (Or.inl (by omega)))
set_option maxHeartbeats 1000000 in
theorem jQuery {x1 : Int32} (h : MInv t M) (hT : TPd t M tp b) (k0 : (x1 < 0 ∨ ¬ x1 ≤ nI tp) → ∀ t', MInv t' M → MOu M t t' → (∀ k, tI t' (M + 2) k = tI t (M + 2) k) → (∀ k, k = 3 ∨ k = 14 ∨ k = 15 → tI t' M k = tI t M k) → Post (.inl (some (svI (-1 : Int32)))) t')
    (k1 : ∀ n, n ≤ tp → x1 = nI n → ∀ w p, whQ b n = .inr (w, p) → ∀ t', MInv t' M → MOu M t t' → tI t' M 3 = 0 → tI t' M 14 = nI w → tI t' M 15 = nI p → Post (.inl (some (svI (nI w)))) t')
    (k2 : ∀ n, n ≤ tp → x1 = nI n → ∀ s x, whQ b n = .inl (s, x) → ∀ t', MInv t' M → MOu M t t' → tI t' M 3 = 0 → tI t' M 14 = 0 → tI t' M 15 = -1 → Post (.inl (some (svI (0 : Int32)))) t') : CalG C mtab (E + 230) 213 [svR (some M), svI x1] t Post := by
  have h0 := h
  obtain ⟨f, hU, S, S', P, P', hTb, hV, hQ⟩ := h
  have hTb0 := hTb
  obtain ⟨⟨a1, a2, a3⟩, a4, a5, a6⟩ := hTb.mk2
  obtain ⟨hs, hp, t1, t2, t3, t4⟩ := hTb
  have htp := hT.2.1
  have ou : ∀ {t'}, MWq M P' t t' → MOu M t t' := fun {t'} g => by
    obtain ⟨g1, g2, g3, g4, g5, g6, g7⟩ := g
    exact ⟨g1, g2, fun x hx => ⟨by rw [g3], by rw [g4], fun k => g7 x k (by omega) (Or.inl (by omega)) (Or.inl (by omega)) (Or.inl (by omega)), fun k => g6 x k (by omega) (Or.inl (by omega)), fun k => g5 x k (Or.inl (by omega))⟩, g3, g4⟩
  refine mQuery (P := P') (P' := P) f.1 ⟨a4, t4, f.pa a4⟩ t3 hT ⟨fun e => ?_, fun n hn e w p he t' g gR ⟨g14, g15, g0, g3', g13, g24⟩ gch => ?_, fun n hn e s x he t' c us g ⟨gr1, gr2⟩ ⟨g14, g15, g0, g3', g13, g24⟩ ⟨m1, m2, m3⟩ hqL hQM hc => ?_⟩
  · have g : MUw M t (sI t M 0 0) := MUw.of (MU.I (Or.inl rfl))
    exact k0 e _ (h0.mu g (hU.fr (sI_at (by omega)))) g.ou (fun k => sI_at (by omega)) (fun k hk => sI_at (by omega))
  · have go := ou g
    obtain ⟨g1, g2, g3, g4, g5, g6, g7⟩ := g
    refine k1 n hn e w p he t' ⟨f.fr (fun x _ _ => ⟨by rw [g3], by rw [g4]⟩) (fun x k _ _ => by rw [gR]) (fun k _ _ _ _ => by rw [gR]), hU.fr (g7 M 35 (by omega) (Or.inl (by omega)) (Or.inl (by omega)) (by omega)), S, S', P, P', hTb0.fr (fun k => by rw [gR]), ?_, ?_⟩ go g3' g14 g15
    · exact hV.fr a2 (g7 M 12 (by omega) (Or.inl (by omega)) (Or.inl (by omega)) (by omega)) g24 (fun x k h1 h2 => g7 x k (by omega) (Or.inl (by omega)) (Or.inl (by omega)) (Or.inl (by omega))) (fun k => g6 _ _ (by omega) (Or.inl (by omega))) (fun k hk => gch k (by omega)) (fun k => g7 _ _ (by omega) (Or.inl (by omega)) (Or.inl (by omega)) (Or.inl (by omega)))
    · exact hQ.fr g13 (fun x k h1 h2 => g7 x k (by omega) (Or.inl (by omega)) (Or.inl (by omega)) (Or.inl (by omega))) (fun x k h1 h2 => g6 x k (by omega) (Or.inl (by omega))) (fun k h1 h2 => gch k h2)
  · have go := ou g
    obtain ⟨g1, g2, g3, g4, g5, g6, g7⟩ := g
    refine k2 n hn e s x he t' ⟨f.fr (fun x _ _ => ⟨by rw [g3], by rw [g4]⟩) (fun x k h1 h2 => g5 x k (Or.inl (by omega))) (fun k _ _ z1 z2 => g5 M k (Or.inr ⟨z1, z2⟩)), hU.fr (g7 M 35 (by omega) (Or.inl (by omega)) (Or.inl (by omega)) (by omega)), S, S', P', P, ⟨hs, by omega, (g5 M 10 (by omega)).trans t1, (g5 M 11 (by omega)).trans t2, gr1, gr2⟩, ?_, Or.inr ⟨by rw [g13]; decide, x, rg 0 c, us, fun z hz => by have := hz.2; omega, hQM, m1, whQ_g he, whQ_f he, whQ_d he⟩⟩ go g3' g14 g15
    exact hV.z a2 (g7 M 12 (by omega) (Or.inl (by omega)) (Or.inl (by omega)) (by omega)) g24 (fun x k h1 h2 => g7 x k (by omega) (Or.inl (by omega)) (Or.inl (by omega)) (Or.inl (by omega))) (fun k => g6 _ _ (by omega) (Or.inl (by omega))) (fun k hk => g7 _ _ (by omega) (Or.inl (by omega)) (Or.inr hk) (Or.inl (by omega)))
end JQ
