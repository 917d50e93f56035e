/-! feed AND fault, OF BOTH -/
/-- byte i of a word, as it is kept -/
def byW (x : Int32) (i : Nat) : Int32 := ((x >>> (nI (24 - 8 * i) &&& 31)).toInt8.toInt32).toInt8.toInt32
/-- byte j of five words -/
def wd5 (x1 x2 x3 x4 x5 : Int32) (j : Nat) : Int32 := if j < 4 then x1 else if j < 8 then x2 else if j < 12 then x3 else if j < 16 then x4 else x5
theorem b8_n (z : Int8) : ∃ n, n < 256 ∧ z = Int8.ofNat n := by
  refine ⟨z.toUInt8.toNat, z.toUInt8.toNat_lt, ?_⟩
  cases z with
  | ofUInt8 u =>
    exact congrArg Int8.ofUInt8 (UInt8.ofNat_toNat (x := u)).symm
theorem b8_k : ∀ n, n < 256 → ((Int8.ofNat n).toInt32).toInt8.toInt32 &&& 255 = nI n := by decide +kernel
theorem byW_n (x : Int32) (i : Nat) : ∃ n, n < 256 ∧ byW x i &&& 255 = nI n := by
  obtain ⟨n, hn, e⟩ := b8_n (x >>> (nI (24 - 8 * i) &&& 31)).toInt8
  refine ⟨n, hn, ?_⟩
  unfold byW
  rw [e]
  exact b8_k n hn
theorem sh4 : ∀ i, i < 20 → ((24 : Int32) - ((8 : Int32) * (nI i - nI i / (4 : Int32) * (4 : Int32)))) = nI (24 - 8 * (i % 4)) := by decide
theorem l2s : ∀ i, i < 4 → nI (24 - 8 * i) + (-8 : Int32) = (if i + 1 < 4 then nI (24 - 8 * (i + 1)) else -8) := by decide
theorem l2n : ∀ i, i < 4 → ¬ nI (24 - 8 * i) < 0 := by decide
/-- what was written: n bytes w behind the first v, nothing else of a -/
def Wr (a v n : Nat) (w : Nat → Int32) (t t' : Ht) : Prop := (∀ j, j < n → tI t' a (v + j) = w j) ∧ ∀ j, j < v → tI t' a j = tI t a j
section FDD
variable {C : Cx} {d : Nat} {Post : OutT → Ht → Prop} {t t' t2 : Ht} {B M tp : Nat} {b : By}
theorem c140w {x0 a : Nat} {x : Int32} {v : Nat} (hx : tK t x0 = 13) (hr : tR t x0 0 = some a) (ha : tK t a = 100) (hl : tL t a = 1200) (hne : x0 ≠ a) (hv : tI t x0 6 = nI v) (hv4 : v + 4 ≤ 1200)
    (k : ∀ t', TF x0 a 6 t t' → tI t' x0 6 = nI (v + 4) → Wr a v 4 (byW x) t t' → Post (.inl none) t') : CalG C mtab (d + 1) 140 [svR (some x0), svI x] t Post := by
  refine cal140 (fun n l2 t' => ∃ i : Nat, i ≤ 4 ∧ n = 4 - i ∧ l2 = (if i < 4 then nI (24 - 8 * i) else -8) ∧ TF x0 a 6 t t' ∧ tI t' x0 6 = nI (v + i) ∧ Wr a v i (byW x) t t') ?_ ?_
  · exact ⟨4, rfl, rfl, 0, by omega, rfl, rfl, TF.rfl', hv, fun j hj => absurd hj (Nat.not_lt_zero _), fun _ _ => rfl⟩
  · rintro n l2 t' ⟨i, hi, rfl, rfl, hT, h6, hW⟩
    by_cases e : i < 4
    · rw [if_pos e]
      have hx' : tK t' x0 = 13 := by rw [hT.2.2.1]; exact hx
      refine ⟨fun z => absurd z (l2n i e), fun _ => ⟨hx', ?_⟩⟩
      rw [h6]
      refine ⟨fun z => absurd ((nI_leI (a := 1200) (by decide) (by omega)).mp z) (by omega), fun _ => ⟨hx', hx', ?_⟩⟩
      rw [hT.2.2.2.2.1, hr]
      refine ⟨by rw [hT.2.2.1]; exact ha, by rw [hT.2.2.2.1, hl]; exact vp_in_nI (by omega) (by decide), hx', hx', ?_⟩
      rw [nI_clamp (by omega), sI_at (by omega), h6, l2s i e, show nI (v + i) + 1 = nI (v + i + 1) from nI_add _ 1]
      refine ⟨4 - (i + 1), by omega, rfl, rfl, i + 1, by omega, rfl, rfl, hT.trans TF.step, sI_eq, fun j hj => ?_, fun j hj => ?_⟩
      · rw [sI_at (by omega)]
        by_cases ej : j = i
        · rw [ej, sI_eq]; rfl
        · rw [sI_at (by omega)]; exact hW.1 j (by omega)
      · rw [sI_at (by omega), sI_at (by omega)]; exact hW.2 j hj
    · rw [if_neg e]
      have : i = 4 := by omega
      subst this
      exact ⟨fun _ => k t' hT h6 hW, fun z => absurd (by decide) z⟩
theorem Wr.app {a v m n : Nat} {w1 w2 w : Nat → Int32} (h : Wr a v m w1 t t') (g : Wr a (v + m) n w2 t' t2) (h1 : ∀ j, j < m → w j = w1 j) (h2 : ∀ j, j < n → w (m + j) = w2 j) : Wr a v (m + n) w t t2 := by
  refine ⟨fun j hj => ?_, fun j hj => (g.2 j (by omega)).trans (h.2 j hj)⟩
  by_cases e : j < m
  · rw [g.2 (v + j) (by omega), h.1 j e, h1 j e]
  · have := g.1 (j - m) (by omega)
    rw [show v + m + (j - m) = v + j by omega] at this
    rw [this, ← h2 (j - m) (by omega), show m + (j - m) = j by omega]
def wB (x1 x2 x3 x4 x5 : Int32) (j : Nat) : Int32 := byW (wd5 x1 x2 x3 x4 x5 j) (j % 4)
/-- feed, of the class -/
theorem cFeed {x1 x2 x3 x4 x5 : Int32} (hS : BSh t B) (h6 : tI t B 6 = nI tp) (htp : tp ≤ 1200) (k0 : 1200 < tp + 20 → Post (.inl (some (svI (-1 : Int32)))) t)
    (k1 : tp + 20 ≤ 1200 → ∀ t', TF B (B + 1) 6 t t' → tI t' B 6 = nI (tp + 20) → Wr (B + 1) tp 20 (wB x1 x2 x3 x4 x5) t t' → Post (.inl (some (svI (nI (tp + 20))))) t') : CalG C mtab (d + 2) 129 [svR (some B), svI x1, svI x2, svI x3, svI x4, svI x5] t Post := by
  have hx := hS.1.1
  have hr := hS.2.1.1
  have ha := hS.1.2.1
  have hl := hS.1.2.2.1
  refine cal129 ⟨hx, ?_⟩
  rw [h6, show nI tp + 20 = nI (tp + 20) from nI_add tp 20]
  refine ⟨fun e => ⟨hx, ?_⟩, fun e => k0 (Nat.not_le.mp (fun z => e (nI_le (b := 1200) z (by decide))))⟩
  have e : tp + 20 ≤ 1200 := (nI_leI (b := 1200) (by omega) (by decide)).mp e
  have one : ∀ {q : Nat} {x : Int32} {t2 : Ht} {Q : Ht → Prop}, q + 4 ≤ 20 → TF B (B + 1) 6 t t2 → tI t2 B 6 = nI (tp + q) → (∀ t3, TF B (B + 1) 6 t t3 → tI t3 B 6 = nI (tp + (q + 4)) → Wr (B + 1) (tp + q) 4 (byW x) t2 t3 → Q t3) → tK t2 B = 13 ∧ CalG C mtab (d + 1) 140 [svR (some B), svI x] t2 (aftV (fun v1 t3 => v1 = none ∧ Q t3) (fun k3 q4 t5 => Post (.inr (k3, q4)) t5)) := fun {q x t2 Q} hq hT hv kk => ⟨by rw [hT.2.2.1]; exact hx, c140w (by rw [hT.2.2.1]; exact hx) (by rw [hT.2.2.2.2.1]; exact hr) (by rw [hT.2.2.1]; exact ha) (by rw [hT.2.2.2.1]; exact hl) (by omega) hv (by omega) (fun t3 T3 v3 W3 => ⟨rfl, kk t3 (hT.trans T3) (by rw [v3, Nat.add_assoc]) W3⟩)⟩
  refine (one (q := 0) (by decide) TF.rfl' h6 (fun t2 T2 v2 W2 => one (q := 4) (by decide) T2 v2 (fun t3 T3 v3 W3 => one (q := 8) (by decide) T3 v3 (fun t4 T4 v4 W4 => one (q := 12) (by decide) T4 v4 (fun t5 T5 v5 W5 => one (q := 16) (by decide) T5 v5 (fun t6 T6 v6 W6 => ⟨by rw [T6.2.2.1]; exact hx, ?_⟩)))))).2
  rw [v6]
  have w : ∀ q i, q < 5 → i < 4 → wB x1 x2 x3 x4 x5 (4 * q + i) = byW (if q = 0 then x1 else if q = 1 then x2 else if q = 2 then x3 else if q = 3 then x4 else x5) i := fun q i hq hi => by
    unfold wB wd5
    rw [show (4 * q + i) % 4 = i by omega]
    congr 1
    obtain rfl | rfl | rfl | rfl | rfl : q = 0 ∨ q = 1 ∨ q = 2 ∨ q = 3 ∨ q = 4 := by omega
    · rw [if_pos (by omega), if_pos rfl]
    · rw [if_neg (by omega), if_pos (by omega), if_neg (by decide), if_pos rfl]
    · rw [if_neg (by omega), if_neg (by omega), if_pos (by omega), if_neg (by decide), if_neg (by decide), if_pos rfl]
    · rw [if_neg (by omega), if_neg (by omega), if_neg (by omega), if_pos (by omega), if_neg (by decide), if_neg (by decide), if_neg (by decide), if_pos rfl]
    · rw [if_neg (by omega), if_neg (by omega), if_neg (by omega), if_neg (by omega), if_neg (by decide), if_neg (by decide), if_neg (by decide), if_neg (by decide)]
  have a2 : Wr (B + 1) tp 4 (wB x1 x2 x3 x4 x5) t t2 := ⟨fun j hj => (W2.1 j hj).trans (by have := w 0 j (by decide) hj; rw [if_pos rfl, show 4 * 0 + j = j by omega] at this; exact this.symm), W2.2⟩
  have a3 : Wr (B + 1) tp 8 (wB x1 x2 x3 x4 x5) t t3 := a2.app W3 (fun j hj => rfl) (fun j hj => by have := w 1 j (by decide) hj; rw [this]; rfl)
  have a4 : Wr (B + 1) tp 12 (wB x1 x2 x3 x4 x5) t t4 := a3.app W4 (fun j hj => rfl) (fun j hj => by have := w 2 j (by decide) hj; rw [this]; rfl)
  have a5 : Wr (B + 1) tp 16 (wB x1 x2 x3 x4 x5) t t5 := a4.app W5 (fun j hj => rfl) (fun j hj => by have := w 3 j (by decide) hj; rw [this]; rfl)
  have a6 : Wr (B + 1) tp 20 (wB x1 x2 x3 x4 x5) t t6 := a5.app W6 (fun j hj => rfl) (fun j hj => by have := w 4 j (by decide) hj; rw [this]; rfl)
  exact k1 e t6 T6 v6 a6
set_option maxHeartbeats 1000000 in
/-- feed, of the reference -/
theorem mFeed {x1 x2 x3 x4 x5 : Int32} (hb : MBs t M) (h3 : tI t M 3 = nI tp) (htp : tp ≤ 1200) (k0 : 1200 < tp + 20 → Post (.inl (some (svI (-1 : Int32)))) (sI t M 0 0))
    (k1 : tp + 20 ≤ 1200 → ∀ t', TF M (M + 2) 3 (sI t M 0 0) t' → tI t' M 3 = nI (tp + 20) → Wr (M + 2) tp 20 (wB x1 x2 x3 x4 x5) (sI t M 0 0) t' → Post (.inl (some (svI (nI (tp + 20))))) t') : CalG C mtab (d + 1) 154 [svR (some M), svI x1, svI x2, svI x3, svI x4, svI x5] t Post := by
  obtain ⟨hx, -, -, hr, ha, hl, -⟩ := hb
  have e3 : tI (sI t M 0 0) M 3 = nI tp := (sI_at (by omega)).trans h3
  by_cases e : tp + 20 ≤ 1200
  · refine cal154 (fun n l6 t' => ∃ i : Nat, i ≤ 20 ∧ n = 20 - i ∧ l6 = nI i ∧ TF M (M + 2) 3 (sI t M 0 0) t' ∧ tI t' M 3 = nI (tp + i) ∧ Wr (M + 2) tp i (wB x1 x2 x3 x4 x5) (sI t M 0 0) t') ?_ ?_
    · refine ⟨hx, hx, ?_⟩
      rw [e3, show nI tp + 20 = nI (tp + 20) from nI_add tp 20]
      exact ⟨fun _ => ⟨20, rfl, rfl, rfl, rfl, rfl, rfl, 0, by omega, rfl, rfl, TF.rfl', e3, fun j hj => absurd hj (Nat.not_lt_zero _), fun _ _ => rfl⟩, fun z => absurd (nI_le (b := 1200) e (by decide)) z⟩
    · rintro n l6 t' ⟨i, hi, rfl, rfl, hT, h3', hW⟩
      have hM : tK t' M = 17 := by rw [hT.2.2.1]; exact hx
      have hr' : tR t' M 2 = some (M + 2) := by rw [hT.2.2.2.2.1]; exact hr
      have key : i < 20 → ∀ x, wd5 x1 x2 x3 x4 x5 i = x → tK t' M = 17 ∧ tK t' M = 17 ∧ (¬ (4 : Int32) = 0) ∧ onR (tR t' M 2) (fun a1 => tK t' a1 = 100 ∧ vp_in (tI t' M 3) (tL t' a1) ∧ tK (sI t' a1 ((tI t' M 3)).toNatClampNeg ((((x >>> (((24 : Int32) - ((8 : Int32) * (nI i - nI i / (4 : Int32) * (4 : Int32)))) &&& 31))).toInt8.toInt32).toInt8.toInt32)) M = 17 ∧ tK (sI t' a1 ((tI t' M 3)).toNatClampNeg ((((x >>> (((24 : Int32) - ((8 : Int32) * (nI i - nI i / (4 : Int32) * (4 : Int32)))) &&& 31))).toInt8.toInt32).toInt8.toInt32)) M = 17 ∧
          ∃ k, k < 20 - i ∧ some M = some M ∧ x1 = x1 ∧ x2 = x2 ∧ x3 = x3 ∧ x4 = x4 ∧ x5 = x5 ∧ ∃ i' : Nat, i' ≤ 20 ∧ k = 20 - i' ∧ nI i + 1 = nI i' ∧ TF M (M + 2) 3 (sI t M 0 0) (sI (sI t' a1 ((tI t' M 3)).toNatClampNeg ((((x >>> (((24 : Int32) - ((8 : Int32) * (nI i - nI i / (4 : Int32) * (4 : Int32)))) &&& 31))).toInt8.toInt32).toInt8.toInt32)) M 3 ((tI (sI t' a1 ((tI t' M 3)).toNatClampNeg ((((x >>> (((24 : Int32) - ((8 : Int32) * (nI i - nI i / (4 : Int32) * (4 : Int32)))) &&& 31))).toInt8.toInt32).toInt8.toInt32)) M 3) + (1 : Int32))) ∧ tI (sI (sI t' a1 ((tI t' M 3)).toNatClampNeg ((((x >>> (((24 : Int32) - ((8 : Int32) * (nI i - nI i / (4 : Int32) * (4 : Int32)))) &&& 31))).toInt8.toInt32).toInt8.toInt32)) M 3 ((tI (sI t' a1 ((tI t' M 3)).toNatClampNeg ((((x >>> (((24 : Int32) - ((8 : Int32) * (nI i - nI i / (4 : Int32) * (4 : Int32)))) &&& 31))).toInt8.toInt32).toInt8.toInt32)) M 3) + (1 : Int32))) M 3 = nI (tp + i') ∧ Wr (M + 2) tp i' (wB x1 x2 x3 x4 x5) (sI t M 0 0) (sI (sI t' a1 ((tI t' M 3)).toNatClampNeg ((((x >>> (((24 : Int32) - ((8 : Int32) * (nI i - nI i / (4 : Int32) * (4 : Int32)))) &&& 31))).toInt8.toInt32).toInt8.toInt32)) M 3 ((tI (sI t' a1 ((tI t' M 3)).toNatClampNeg ((((x >>> (((24 : Int32) - ((8 : Int32) * (nI i - nI i / (4 : Int32) * (4 : Int32)))) &&& 31))).toInt8.toInt32).toInt8.toInt32)) M 3) + (1 : Int32)))) := by
        intro hi2 x hxx
        rw [hr', h3', sh4 i hi2]
        refine ⟨hM, hM, by decide, by rw [hT.2.2.1]; exact ha, by rw [hT.2.2.2.1]; show vp_in _ (tL t (M + 2)); rw [hl]; exact vp_in_nI (by omega) (by decide), hM, hM, ?_⟩
        rw [nI_clamp (by omega), sI_at (by omega), h3', show nI (tp + i) + 1 = nI (tp + i + 1) from nI_add _ 1]
        refine ⟨20 - (i + 1), by omega, rfl, rfl, rfl, rfl, rfl, rfl, i + 1, by omega, rfl, nI_1 i, hT.trans TF.step, sI_eq, fun j hj => ?_, fun j hj => ?_⟩
        · rw [sI_at (by omega)]
          by_cases ej : j = i
          · rw [ej, sI_eq]
            unfold wB byW
            rw [hxx]
          · rw [sI_at (by omega)]; exact hW.1 j (by omega)
        · rw [sI_at (by omega), sI_at (by omega)]; exact hW.2 j hj
      have c4 : ∀ m, m ≤ 20 → (nI m ≤ nI i ↔ m ≤ i) := fun m hm => nI_leI (by omega) (by omega)
      refine ⟨fun z => ⟨hM, ?_⟩, fun z => ?_⟩
      · have z := (c4 20 (by decide)).mp z
        have : i = 20 := by omega
        subst this
        rw [h3']
        exact k1 e t' hT h3' hW
      · have hi2 : i < 20 := Nat.not_le.mp (fun w => z ((c4 20 (by decide)).mpr w))
        refine ⟨fun z4 => ?_, fun z4 => key hi2 x1 (by unfold wd5; rw [if_pos (Nat.not_le.mp (fun w => z4 ((c4 4 (by decide)).mpr w)))])⟩
        have z4 := (c4 4 (by decide)).mp z4
        refine ⟨fun z8 => ?_, fun z8 => key hi2 x2 (by unfold wd5; rw [if_neg (by omega), if_pos (Nat.not_le.mp (fun w => z8 ((c4 8 (by decide)).mpr w)))])⟩
        have z8 := (c4 8 (by decide)).mp z8
        refine ⟨fun z12 => ?_, fun z12 => key hi2 x3 (by unfold wd5; rw [if_neg (by omega), if_neg (by omega), if_pos (Nat.not_le.mp (fun w => z12 ((c4 12 (by decide)).mpr w)))])⟩
        have z12 := (c4 12 (by decide)).mp z12
        refine ⟨fun z16 => ?_, fun z16 => key hi2 x4 (by unfold wd5; rw [if_neg (by omega), if_neg (by omega), if_neg (by omega), if_pos (Nat.not_le.mp (fun w => z16 ((c4 16 (by decide)).mpr w)))])⟩
        have z16 := (c4 16 (by decide)).mp z16
        exact key hi2 x5 (by unfold wd5; rw [if_neg (by omega), if_neg (by omega), if_neg (by omega), if_neg (by omega)])
  · refine cal154 (fun _ _ _ => False) ⟨hx, hx, ?_⟩ (fun _ _ _ z => z.elim)
    rw [e3, show nI tp + 20 = nI (tp + 20) from nI_add tp 20]
    exact ⟨fun z => absurd ((nI_leI (b := 1200) (by omega) (by decide)).mp z) e, fun _ => k0 (by omega)⟩
/-- fault, of the class and of the reference -/
theorem cFault {x1 : Int32} (hS : BSh t B) (k : Post (.inl (some (svI (if tI t B 7 = 0 then -1 else if x1 = 0 then tI t (B + 2) 5 else if x1 = 1 then tI t (B + 2) 6 else -1)))) t) : CalG C mtab (d + 1) 132 [svR (some B), svI x1] t Post := by
  have hx := hS.1.1
  refine cal132 ⟨hx, fun e => ?_, fun e => ⟨fun e0 => ⟨hx, onS hS.2.1.2.1 ⟨hS.1.2.2.2.1, ?_⟩⟩, fun e0 => ⟨fun e1 => ⟨hx, onS hS.2.1.2.1 ⟨hS.1.2.2.2.1, ?_⟩⟩, fun e1 => ?_⟩⟩⟩
  · rw [if_pos e] at k; exact k
  · rw [if_neg e, if_pos e0] at k; exact k
  · rw [if_neg e, if_neg e0, if_pos e1] at k; exact k
  · rw [if_neg e, if_neg e0, if_neg e1] at k; exact k
end FDD
