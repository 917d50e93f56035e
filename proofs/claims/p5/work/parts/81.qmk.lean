/-! MAKERS OF A QUERY'S OBJECTS, and what is asked of them -/
def FS (t t2 : Ht) (k : Int32) : Prop := (∀ x, x < tN t → sameAt t t2 x) ∧ (tN t2 = tN t + 1 ∧ tU t2 = tU t + 8) ∧ tK t2 (tN t) = 10 ∧ tI t2 (tN t) 0 = k ∧ tI t2 (tN t) 2 = 0 ∧ tI t2 (tN t) 3 = 0 ∧ tJ t2 (tN t) 6 = 1
def FT (t t2 : Ht) (k p : Int32) : Prop := (∀ x, x < tN t → sameAt t t2 x) ∧ (tN t2 = tN t + 1 ∧ tU t2 = tU t + 9) ∧ tK t2 (tN t) = 11 ∧ tI t2 (tN t) 0 = k ∧ tI t2 (tN t) 1 = p ∧ tI t2 (tN t) 3 = 0
def FTl (C : Cx) (t t2 : Ht) (k p : Int32) : Prop := (∀ x, x < tN t → sameAt t t2 x) ∧ (tN t2 = tN t + 2 ∧ tU t2 = tU t + 12) ∧ tK t2 (tN t) = 11 ∧ tI t2 (tN t) 0 = k ∧ tI t2 (tN t) 1 = p ∧ tI t2 (tN t) 3 = 0 ∧ tR t2 (tN t) 2 = some (tN t + 1) ∧ LsA C t2 (tN t + 1) [] 0 0
def FG (C : Cx) (t t2 : Ht) : Prop := (∀ x, x < tN t → sameAt t t2 x) ∧ (tN t2 = tN t + 2 ∧ tU t2 = tU t + 5) ∧ tK t2 (tN t) = 9 ∧ tI t2 (tN t) 1 = 0 ∧ tR t2 (tN t) 0 = some (tN t + 1) ∧ LsA C t2 (tN t + 1) [] 0 0
def FPa (C : Cx) (t t2 : Ht) (k : Int32) : Prop := (∀ x, x < tN t → sameAt t t2 x) ∧ (tN t2 = tN t + 2 ∧ tU t2 = tU t + 6) ∧ tK t2 (tN t) = 5 ∧ tI t2 (tN t) 0 = k ∧ tI t2 (tN t) 2 = 1 ∧ tR t2 (tN t) 1 = some (tN t + 1) ∧ LsA C t2 (tN t + 1) [] 0 0
def FLt (t t2 : Ht) (kd : Nat) (p : Int32) : Prop := (∀ x, x < tN t → sameAt t t2 x) ∧ (tN t2 = tN t + 2 ∧ tU t2 = tU t + 20) ∧ (tK t2 (tN t) = 11 ∧ tI t2 (tN t) 0 = 3 ∧ tI t2 (tN t) 1 = p ∧ tR t2 (tN t) 8 = some (tN t + 1)) ∧ tK t2 (tN t + 1) = 3 ∧ tI t2 (tN t + 1) 0 = nI kd ∧ tR t2 (tN t + 1) 4 = none ∧ tR t2 (tN t + 1) 6 = none
section QMK
variable {C : Cx} {d : Nat} {Post : OutT → Ht → Prop} {t t' : Ht}
theorem q109 {k : Int32} (kk : ∀ t2, FS t t2 k → Post (.inl none) t2) : CalG C mtab (d + 1) 109 [svR (some (tN t)), svI k] (tNew t 10 0 8) Post := by
  refine cal109 ⟨by simp [ht], by simp [ht], kk _ ⟨fun x hx => ?_, ⟨rfl, rfl⟩, ?_, ?_, ?_, ?_, ?_⟩⟩
  · have e : ¬ x = tN t := by omega
    exact ⟨by simp [ht, e], by simp [ht, e], fun j => by simp [ht, e], fun j => by simp [ht, e], fun j => by simp [ht, e]⟩
  all_goals simp [ht]
/-- a new list -/
def NewL (C : Cx) (t1 t2 : Ht) : Prop := (∀ x, x < tN t1 → sameAt t1 t2 x) ∧ tN t2 = tN t1 + 1 ∧ tU t2 = tU t1 + 3 ∧ LsA C t2 (tN t1) [] 0 0
theorem s266f {t1 : Ht} (k : ∀ t2, NewL C t1 t2 → Post (.inl none) t2) : CalG C mtab (d + 3) 266 [svR (some (tN t1))] (tNew t1 1 0 3) Post := by
  refine s266 (by simp [ht]) (k _ ⟨fun x hx => ?_, ?_, ?_, ⟨?_, ?_, ?_, ?_, ?_, Or.inl ⟨rfl, ?_⟩⟩⟩)
  · have e : ¬ x = tN t1 := by omega
    exact ⟨by simp [ht, e], by simp [ht, e], fun j => by simp [ht, e], fun j => by simp [ht, e], fun j => by simp [ht, e]⟩
  · simp [ht]
  · simp [ht]
  · simp [ht]
  · simp [ht]; rfl
  · simp
  · decide
  · simp [ht]
  · simp [ht]
theorem q111 {k : Nat} {p : Int32} (h0 : k ≠ 0) (h1 : k ≠ 1) (hk : k < 100) (kk : ∀ t2, FT t t2 (nI k) p → Post (.inl none) t2) : CalG C mtab (d + 4) 111 [svR (some (tN t)), svI (nI k), svI p] (tNew t 11 0 9) Post := by
  refine cal111 ⟨by simp [ht], by simp [ht], fun e => ?_, fun _ => ⟨fun e => ?_, fun _ => ⟨by simp [ht], kk _ ⟨fun x hx => ?_, ⟨rfl, rfl⟩, ?_, ?_, ?_, ?_⟩⟩⟩⟩
  · exact absurd ((nI_eq (b := 0) (by omega) (by decide)).mp e) h0
  · exact absurd ((nI_eq (b := 1) (by omega) (by decide)).mp e) h1
  · have e : ¬ x = tN t := by omega
    exact ⟨by simp [ht, e], by simp [ht, e], fun j => by simp [ht, e], fun j => by simp [ht, e], fun j => by simp [ht, e]⟩
  all_goals simp [ht]
theorem q111l {k : Nat} {p : Int32} (hk : k = 0 ∨ k = 1) (kk : ∀ t2, FTl C t t2 (nI k) p → Post (.inl none) t2) : CalG C mtab (d + 4) 111 [svR (some (tN t)), svI (nI k), svI p] (tNew t 11 0 9) Post := by
  have key : ∀ tt, tt = sI (sI (tNew t 11 0 9) (tN t) 0 (nI k)) (tN t) 1 p → CalG C mtab (d + 3) 266 [svR (some (tN t + 1))] (tNew tt 1 0 3) (aftV (fun v1 t2 => v1 = none ∧ tK t2 (tN t) = 11 ∧ Post (.inl none) (sR t2 (tN t) 2 (some (tN t + 1)))) (fun k3 q4 t5 => Post (.inr (k3, q4)) t5)) := by
    intro tt hT
    have hN : tN tt = tN t + 1 := by rw [hT]; simp [ht]
    have hU : tU tt = tU t + 9 := by rw [hT]; simp [ht]
    have hK : tK tt (tN t) = 11 := by rw [hT]; simp [ht]
    have hI : tI tt (tN t) 0 = nI k ∧ tI tt (tN t) 1 = p ∧ tI tt (tN t) 3 = 0 := by rw [hT]; simp [ht]
    have hsm : ∀ x, x < tN t → sameAt t tt x := fun x hx => by
      have e : ¬ x = tN t := by omega
      rw [hT]
      exact ⟨by simp [ht, e], by simp [ht, e], fun j => by simp [ht, e], fun j => by simp [ht, e], fun j => by simp [ht, e]⟩
    clear hT
    rw [← hN]
    refine s266f (fun t2 hF => ?_)
    obtain ⟨f1, f2, f3, f4⟩ := hF
    rw [hN] at f4 f2
    rw [hN]
    have s1 := f1 (tN t) (by omega)
    refine ⟨rfl, s1.1.trans hK, kk _ ⟨fun x hx => ((hsm x hx).trans (f1 x (by omega))).trans (sameAt_sR (by omega)), ⟨?_, ?_⟩, s1.1.trans hK, (s1.2.2.1 0).trans hI.1, (s1.2.2.1 1).trans hI.2.1, (s1.2.2.1 3).trans hI.2.2, by simp [ht], f4.frame (Nat.le_refl _) (sameAt_sR (by omega)) (fun z => absurd z (Nat.lt_irrefl _))⟩⟩
    · show tN t2 = _; omega
    · show tU t2 = _; omega
  refine cal111 ⟨by simp [ht], by simp [ht], fun e => key _ rfl, fun e => ⟨fun e2 => key _ rfl, fun e2 => ?_⟩⟩
  rcases hk with rfl | rfl
  · exact absurd rfl e
  · exact absurd rfl e2
theorem q108 (kk : ∀ t2, FG C t t2 → Post (.inl none) t2) : CalG C mtab (d + 4) 108 [svR (some (tN t))] (tNew t 9 0 2) Post := by
  refine cal108 ?_
  unfold vc108
  have hN : tN (tNew t 9 0 2) = tN t + 1 := rfl
  have hU : tU (tNew t 9 0 2) = tU t + 2 := rfl
  have hK : tK (tNew t 9 0 2) (tN t) = 9 := by simp [ht]
  have hI : tI (tNew t 9 0 2) (tN t) 1 = 0 := by simp [ht]
  have hsm : ∀ x, x < tN t → sameAt t (tNew t 9 0 2) x := fun x hx => sameAt_new hx
  revert hN hU hK hI hsm
  generalize tNew t 9 0 2 = tt
  intro hN hU hK hI hsm
  refine s266f (fun t2 hF => ?_)
  obtain ⟨f1, f2, f3, f4⟩ := hF
  rw [hN] at f4 f2 ⊢
  have s1 := f1 (tN t) (by omega)
  refine ⟨rfl, s1.1.trans hK, kk _ ⟨fun x hx => ((hsm x hx).trans (f1 x (by omega))).trans (sameAt_sR (by omega)), ⟨?_, ?_⟩, s1.1.trans hK, (s1.2.2.1 1).trans hI, by simp [ht], f4.frame (Nat.le_refl _) (sameAt_sR (by omega)) (fun z => absurd z (Nat.lt_irrefl _))⟩⟩
  · show tN t2 = _; omega
  · show tU t2 = _; omega
theorem q47 {k : Int32} (hk : k = 0 ∨ k = 1) (kk : ∀ t2, FPa C t t2 k → Post (.inl none) t2) : CalG C mtab (d + 4) 47 [svR (some (tN t)), svI k] (tNew t 5 0 3) Post := by
  refine cal47 ?_
  unfold vc47
  have hN : tN (tNew t 5 0 3) = tN t + 1 := rfl
  have hU : tU (tNew t 5 0 3) = tU t + 3 := rfl
  have hK : tK (tNew t 5 0 3) (tN t) = 5 := by simp [ht]
  have hsm : ∀ x, x < tN t → sameAt t (tNew t 5 0 3) x := fun x hx => sameAt_new hx
  revert hN hU hK hsm
  generalize tNew t 5 0 3 = tt
  intro hN hU hK hsm
  refine s266f (fun t2 hF => ?_)
  obtain ⟨f1, f2, f3, f4⟩ := hF
  rw [hN] at f4 f2 ⊢
  have s1 := f1 (tN t) (by omega)
  have k1 := s1.1.trans hK
  refine ⟨rfl, k1, k1, Or.inr rfl, k1, hk, kk _ ⟨fun x hx => ?_, ⟨?_, ?_⟩, k1, ?_, ?_, ?_, ?_⟩⟩
  · have e1 : x ≠ tN t := by omega
    exact ((hsm x hx).trans (f1 x (by omega))).trans ((sameAt_sR e1).trans ((sameAt_sI e1).trans (sameAt_sI e1)))
  · show tN t2 = _; omega
  · show tU t2 = _; omega
  · simp [ht]
  · simp [ht]
  · simp [ht]
  · have e1 : tN t + 1 ≠ tN t := by omega
    exact f4.frame (Nat.le_refl _) ((sameAt_sR e1).trans ((sameAt_sI e1).trans (sameAt_sI e1))) (fun z => absurd z (Nat.lt_irrefl _))
/-- literal -/
theorem q75 {kd : Nat} {p : Int32} (hk : kd < 5) (kk : ∀ t2, FLt t t2 kd p → Post (.inl (some (svR (some (tN t))))) t2) : CalG C mtab (d + 5) 75 [svI (nI kd), svI p] t Post := by
  refine cal75 (q111 (k := 3) (by omega) (by omega) (by omega) (fun t2 hF => ⟨rfl, r26 (dp := 0) (o := 0) (by omega) (fun t7 hG => ⟨rfl, ?_⟩)⟩))
  obtain ⟨f1, ⟨f2, f3⟩, f4, f5, f6, f7⟩ := hF
  obtain ⟨g1, ⟨g2, g3, g4, g5, g6, g7⟩, ⟨g8, g9, g10, g11, g12⟩, g13⟩ := hG
  have s1 := g1 (tN t) (by omega)
  have g14 : tN t7 = tN t2 + 1 ∧ tU t7 = tU t2 + 11 ∧ tR t7 (tN t2) 4 = none := by
    rcases g13 with ⟨-, q1, q2, q3⟩ | ⟨q, -⟩
    · exact ⟨q1, q2, q3⟩
    · omega
  rw [f2] at g2 g3 g8 g14
  have hne : ¬ tN t + 1 = tN t := by omega
  refine ⟨s1.1.trans f4, ?_⟩
  rw [f2]
  refine kk _ ⟨fun x hx => ((f1 x hx).trans (g1 x (by omega))).trans (sameAt_sR (by omega)), ⟨?_, ?_⟩, ⟨s1.1.trans f4, ?_, ?_, ?_⟩, g2, ?_, ?_, ?_⟩
  · show tN t7 = _; omega
  · show tU t7 = _; omega
  · show tI t7 (tN t) 0 = _; rw [s1.2.2.1 0]; exact f5
  · show tI t7 (tN t) 1 = _; rw [s1.2.2.1 1]; exact f6
  · simp [ht]
  · exact g3
  · simp [ht, hne, g14.2.2]
  · simp [ht, hne, g8]
/-- functionNamed -/
theorem q78 {qr r tp ch : Nat} {b : By} {n i o f : Nat} {L : LT} (h : CQ t qr r tp ch b n i o L) (hf : f ≤ i) (k : Post (.inl (some (svI (if fnK b n f i = 0 then 8 else nI (fnK b n f i + 4))))) t) : CalG C mtab (d + 6) 78 [svR (some qr), svI (nI f)] t Post := by
  have hv := h.2.2.1
  have hK := h.1.1.1
  have hn : n ≤ 1200 := h.1.1.2.2.2.2.2.2.1
  have hin := h.2.1
  have hat := h.1.1.2.2.2.2.2.1
  refine cal78 ?_
  unfold vc78
  rw [hv.2.1]
  refine ⟨hv.1, hv.1, hK, hK, ?_⟩
  rw [hat]
  unfold fnK isWrd at k
  refine r90 (m := 3) (by decide) h.1.1 hf (by omega) ⟨fun e => ⟨hv.1, hv.1, ?_⟩, fun e => ?_⟩
  · have e3 := bI_0.mp e
    rw [e3] at k
    rw [hv.2.1]
    refine ⟨hK, hK, ?_⟩
    rw [hat]
    refine r90 (m := 1) (by decide) h.1.1 hf (by omega) ⟨fun e => ⟨hv.1, hv.1, ?_⟩, fun e => ?_⟩
    · have e1 := bI_0.mp e
      rw [e1] at k
      rw [hv.2.1]
      refine ⟨hK, hK, ?_⟩
      rw [hat]
      refine r90 (m := 9) (by decide) h.1.1 hf (by omega) ⟨fun e => ?_, fun e => ?_⟩
      · have e9 := bI_0.mp e
        rw [e9] at k
        exact k
      · have e9 : (decide (i - f = (txW 9).length) && wdB b n (txW 9) f) = true := by
          cases z : (decide (i - f = (txW 9).length) && wdB b n (txW 9) f) with
          | true => rfl
          | false => rw [z] at e; exact absurd rfl e
        rw [e9] at k
        exact k
    · have e1 : (decide (i - f = (txW 1).length) && wdB b n (txW 1) f) = true := by
        cases z : (decide (i - f = (txW 1).length) && wdB b n (txW 1) f) with
        | true => rfl
        | false => rw [z] at e; exact absurd rfl e
      rw [e1] at k
      exact k
  · have e3 : (decide (i - f = (txW 3).length) && wdB b n (txW 3) f) = true := by
      cases z : (decide (i - f = (txW 3).length) && wdB b n (txW 3) f) with
      | true => rfl
      | false => rw [z] at e; exact absurd rfl e
    rw [e3] at k
    exact k
/-- a term by its kind; of a path: whether it is singular -/
def OK (t : Ht) (a kd : Nat) (sg : Bool) : Prop := tK t a = 11 ∧ tI t a 0 = nI kd ∧ kd < 10 ∧ (kd = 4 → ∃ u, tR t a 7 = some u ∧ tK t u = 5 ∧ tI t u 2 = bI sg ∧ u < tN t)
def isFk (kd : Nat) : Bool := decide (5 ≤ kd) && decide (kd ≤ 8)
def isCk (kd : Nat) (sg : Bool) : Bool := decide (kd = 3) || (isFk kd || (decide (kd = 4) && sg))
theorem q115 {a kd : Nat} {sg : Bool} (h : OK t a kd sg) (k : Post (.inl (some (svI (bI (isFk kd))))) t) : CalG C mtab (d + 1) 115 [svR (some a)] t Post := by
  obtain ⟨h1, h2, h3, -⟩ := h
  refine cal115 ?_
  unfold vc115
  rw [h2]
  unfold isFk at k
  refine ⟨h1, fun e => ⟨Or.inl rfl, ?_⟩, fun e => ⟨h1, fun e2 => ⟨Or.inl rfl, ?_⟩, fun e2 => ⟨Or.inr rfl, ?_⟩⟩⟩
  · have : ¬ 5 ≤ kd := fun z => absurd e (nI_nlt (a := kd) (b := 5) z (by omega))
    simp [this] at k; exact k
  · have : ¬ kd ≤ 8 := fun z => absurd e2 (nI_nlt (a := 8) (b := kd) z (by omega))
    simp [this] at k; exact k
  · have a1 : 5 ≤ kd := Nat.not_lt.mp (fun z => e (nI_lt (b := 5) z (by decide)))
    have a2 : kd ≤ 8 := Nat.not_lt.mp (fun z => e2 (nI_lt (a := 8) z (by omega)))
    simp [a1, a2] at k; exact k
theorem q116 {a kd : Nat} {sg : Bool} (h : OK t a kd sg) (k : Post (.inl (some (svI (bI (isCk kd sg))))) t) : CalG C mtab (d + 2) 116 [svR (some a)] t Post := by
  have hh := h
  obtain ⟨h1, h2, h3, h4⟩ := h
  refine cal116 ?_
  unfold vc116
  rw [h2]
  unfold isCk at k
  refine ⟨h1, fun e => ⟨Or.inr rfl, ?_⟩, fun e => ⟨h1, q115 hh ⟨fun e2 => ⟨h1, ?_⟩, fun e2 => ⟨Or.inr rfl, ?_⟩⟩⟩⟩
  · have : kd = 3 := (nI_eq (b := 3) (by omega) (by decide)).mp e
    simp [this] at k; exact k
  · rw [h2]
    have a3 : ¬ kd = 3 := fun z => e (by rw [z]; rfl)
    have af := bI_0.mp e2
    rw [af] at k
    refine ⟨fun e3 => ⟨h1, ?_⟩, fun e3 => ⟨Or.inl rfl, ?_⟩⟩
    · have a4 : kd = 4 := (nI_eq (b := 4) (by omega) (by decide)).mp e3
      obtain ⟨u, g1, g2, g3, -⟩ := h4 a4
      rw [g1]
      refine ⟨h1, g2, ?_⟩
      rw [g3]
      simp [a3, a4] at k
      cases sg with
      | false => exact ⟨fun _ => ⟨Or.inl rfl, k⟩, fun z => absurd rfl z⟩
      | true => exact ⟨fun z => absurd z (by decide), fun _ => ⟨Or.inr rfl, k⟩⟩
    · have a4 : ¬ kd = 4 := fun z => e3 (by rw [z]; rfl)
      simp [a3, a4] at k; exact k
  · have af : isFk kd = true := by
      cases z : isFk kd with
      | true => rfl
      | false => rw [z] at e2; exact absurd rfl e2
    simp [af] at k; exact k
theorem q117 {a kf u kd : Nat} {sg : Bool} (ha : tK t a = 11 ∧ tI t a 0 = nI kf ∧ kf < 10) (h : OK t u kd sg) (k : Post (.inl (some (svI (bI (if kf = 5 then isCk kd sg else (decide (kf = 6 ∨ kf = 7) && decide (kd = 4))))))) t) : CalG C mtab (d + 3) 117 [svR (some a), svR (some u)] t Post := by
  obtain ⟨a1, a2, a3⟩ := ha
  have hh := h
  obtain ⟨h1, h2, h3, h4⟩ := h
  have b01 : ∀ x : Bool, bI x = 0 ∨ bI x = 1 := fun x => by cases x <;> simp [bI]
  have ck4 : ∀ {P : Prop}, (∀ z : Bool, z = decide (kd = 4) → P = Post (.inl (some (svI (bI z)))) t) → True := fun _ => trivial
  refine cal117 ?_
  unfold vc117
  rw [a2]
  refine ⟨a1, fun e => ⟨h1, q116 hh ⟨b01 _, ?_⟩⟩, fun e => ⟨a1, fun e2 => ⟨h1, ?_⟩, fun e2 => ⟨a1, fun e3 => ⟨h1, ?_⟩, fun e3 => ⟨Or.inl rfl, ?_⟩⟩⟩⟩
  · have : kf = 5 := (nI_eq (b := 5) (by omega) (by decide)).mp e
    simp [this] at k; exact k
  · have : kf = 6 := (nI_eq (b := 6) (by omega) (by decide)).mp e2
    rw [h2]
    simp [this] at k
    refine ⟨fun e4 => ⟨Or.inr rfl, ?_⟩, fun e4 => ⟨Or.inl rfl, ?_⟩⟩
    · have : kd = 4 := (nI_eq (b := 4) (by omega) (by decide)).mp e4
      simp [this] at k; exact k
    · have : ¬ kd = 4 := fun z => e4 (by rw [z]; rfl)
      simp [this] at k; exact k
  · have : kf = 7 := (nI_eq (b := 7) (by omega) (by decide)).mp e3
    rw [h2]
    simp [this] at k
    refine ⟨fun e4 => ⟨Or.inr rfl, ?_⟩, fun e4 => ⟨Or.inl rfl, ?_⟩⟩
    · have : kd = 4 := (nI_eq (b := 4) (by omega) (by decide)).mp e4
      simp [this] at k; exact k
    · have : ¬ kd = 4 := fun z => e4 (by rw [z]; rfl)
      simp [this] at k; exact k
  · have b5 : ¬ kf = 5 := fun z => e (by rw [z]; rfl)
    have b6 : ¬ kf = 6 := fun z => e2 (by rw [z]; rfl)
    have b7 : ¬ kf = 7 := fun z => e3 (by rw [z]; rfl)
    simp [b5, b6, b7] at k; exact k
/-- a selector by its kind -/
def SK (t : Ht) (a : Nat) (x : QF) : Prop := tK t a = 10 ∧ ∃ z, tI t a 0 = nI z ∧ z < 5 ∧ isSel1 x = (z == 0 || z == 2)
/-- isSingular -/
theorem q110 {a : Nat} {x : QF} (h : SK t a x) (kk : Post (.inl (some (svI (bI (isSel1 x))))) t) : CalG C mtab (d + 1) 110 [svR (some a)] t Post := by
  obtain ⟨g1, z, g2, g3, g4⟩ := h
  rw [g4] at kk
  refine cal110 ?_
  unfold vc110
  rw [g2]
  have : z = 0 ∨ z = 1 ∨ z = 2 ∨ z = 3 ∨ z = 4 := by omega
  rcases this with rfl | rfl | rfl | rfl | rfl
  · exact ⟨g1, fun _ => ⟨Or.inr rfl, kk⟩, fun z => absurd rfl z⟩
  · exact ⟨g1, fun z => absurd z (by decide), fun _ => ⟨g1, fun z => absurd z (by decide), fun _ => ⟨Or.inl rfl, kk⟩⟩⟩
  · exact ⟨g1, fun z => absurd z (by decide), fun _ => ⟨g1, fun _ => ⟨Or.inr rfl, kk⟩, fun z => absurd rfl z⟩⟩
  · exact ⟨g1, fun z => absurd z (by decide), fun _ => ⟨g1, fun z => absurd z (by decide), fun _ => ⟨Or.inl rfl, kk⟩⟩⟩
  · exact ⟨g1, fun z => absurd z (by decide), fun _ => ⟨g1, fun z => absurd z (by decide), fun _ => ⟨Or.inl rfl, kk⟩⟩⟩
end QMK
