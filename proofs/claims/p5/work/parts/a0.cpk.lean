/-! THE CLASS'S FINDER: rows that fill, all kids, slices -/
def RwL (B c : Nat) (G : GT) (t : Ht) (r ri : Nat) (l : List Nat) : Prop := Rw t G r l ∧ tR t (B + 7) ri = some r ∧ ri < 34 ∧ ∀ j ∈ l, j < c
abbrev zP : Nat → Prop := fun _ => False
abbrev coF : Nat → List Nat → Nat → Ev (List Nat) := fun j acc k => coE acc j k
section CE6
variable {C : Cx} {d : Nat} {Post : OutT → Ht → Prop} {B T lk lk' c r ri nd : Nat} {t1 t t' t2 : Ht} {G : GT} {V : VT} {O O' K K' : Nat → Prop} {l : List Nat}
theorem ESt.z (h : ESt C B T t1 G V c O t lk) : ESt C B T t1 G V c zP t lk := by
  obtain ⟨a1, a2, a3, a4, ⟨b1, b2, b3, b4, b5⟩, a6⟩ := h
  exact ⟨a1, a2, a3, a4, ⟨b1, b2, b3, b4, fun _ w => w.elim⟩, a6⟩
theorem EFr.zo (g : EFr B zP K t t') : EFr B O K t t' := g.om (fun _ w => w.elim)
theorem ESt.bk (h : ESt C B T t1 G V c O t lk) (g : EFr B zP K t t') (h2 : ESt C B T t1 G V c zP t' lk') : ESt C B T t1 G V c O t' lk' := h.go (O := O) g.zo h2.2.2.1 h2.2.2.2.1 h2.rw
theorem EFe.bk {e : Int32 × Nat} (h : ESt C B T t1 G V c O t lk) (he : EFe C B T t1 G V c zP K t t' e) : EFe C B T t1 G V c O zP t t' e := by
  obtain ⟨t2, a1, a2, a3⟩ := he
  exact ⟨t2, a1.zo.le (fun _ w => w.elim), h.bk a1 a2, a3⟩
theorem opE_m {o : Option Nat} {l' : List Nat} (ho : ∀ j, o = some j → j < c) (hl : ∀ j ∈ l, j < c) (e : opE l o lk = .inl (l', lk')) : ∀ j ∈ l', j < c := by
  cases o with
  | none => injection e with e; injection e with e _; subst e; exact hl
  | some x =>
    have e : coE l x lk = .inl (l', lk') := e
    unfold coE at e
    split at e
    · cases e
    · injection e with e; injection e with e _; subst e
      intro j hj
      rcases List.mem_append.mp hj with w | w
      · exact hl j w
      · rw [List.mem_singleton.mp w]; exact ho x rfl
/-- put -/
theorem c7r {o : Option Nat} (h : ESt C B T t1 G V c O t lk) (hr : RwL B c G t r ri l) (ho : ∀ j, o = some j → j < c) (k1 : ∀ l', opE l o lk = .inl (l', lk) → ∀ t', ESt C B T t1 G V c O t' lk → EFr B zP (Kb 34 ri) t t' → RwL B c G t' r ri l' → Post (.inl none) t') (k2 : ∀ e, opE l o lk = .inr e → ∀ t', EFe C B T t1 G V c O zP t t' e → Post (.inr (201, 0)) t') : CalG C mtab (d + 2) 7 [svR (some (B + 6)), svR (o.map (gA G)), svR (some r)] t Post :=
  c7 (n := 34) h.z hr.1 hr.2.2.1 hr.2.1 ho (fun l' e t' a1 a2 a3 a4 => k1 l' e t' (h.bk a2 a1) a2 ⟨a3, a4, hr.2.2.1, opE_m ho hr.2.2.2 e⟩) (fun e he t' hx => k2 e he t' (EFe.bk h hx))
/-- emptyRow -/
theorem c8r (h : ESt C B T t1 G V c O t lk) (hi : ri < 34) (k : ∀ t' r, ESt C B T t1 G V c O t' lk → EFr B zP (Kb 34 ri) t t' → RwL B c G t' r ri [] → Post (.inl (some (svR (some r)))) t') : CalG C mtab (d + 2) 8 [svR (some (B + 6)), svI (nI ri)] t Post :=
  c8 (n := 34) h.z hi (fun t' r a1 a2 a3 a4 => k t' r (h.bk a2 a1) a2 ⟨a3, a4, hi, fun j hj => by cases hj⟩)
theorem EFr.tz (h : ESt C B T t1 G V c O t lk) (g : EFr B O' K t t') (g2 : EFr B O' K t' t2) : EFr B O' K t t2 := g.trans h.hB h.rw g2 (fun _ w => w)
theorem ESt.vl (h : ESt C B T t1 G V c O t lk) (hnd : nd < c) : VLf C t G V c (.inl nd) (gA G nd) := VLf.node h.nv hnd (h.2.2.2.2.2.2.2 nd hnd).1
/-- pickAll -/
theorem c13 (h : ESt C B T t1 G V c O t lk) (hnd : nd < c) (hr : RwL B c G t r ri l) (k1 : ∀ l' lk', foE coF (eS (V nd)) l lk = .inl (l', lk') → ∀ t', ESt C B T t1 G V c O t' lk' → EFr B zP (Kb 34 ri) t t' → RwL B c G t' r ri l' → Post (.inl none) t') (k2 : ∀ e, foE coF (eS (V nd)) l lk = .inr e → ∀ t', EFe C B T t1 G V c O zP t t' e → Post (.inr (201, 0)) t') : CalG C mtab (d + 5) 13 [svR (some (B + 6)), svR (some (gA G nd)), svR (some r)] t Post := by
  obtain ⟨S, hS⟩ : ∃ S, S = foE coF (eS (V nd)) l lk := ⟨_, rfl⟩
  rw [← hS] at k1 k2
  have hlen : (eS (V nd)).length ≤ 300 := (h.vl hnd).2.2.2.2.2.1.1
  refine cal13 (fun n l3 t' => ∃ m l', l3 = nI m ∧ m ≤ (eS (V nd)).length ∧ n = (eS (V nd)).length - m ∧ ESt C B T t1 G V c O t' lk ∧ EFr B zP (Kb 34 ri) t t' ∧ RwL B c G t' r ri l' ∧ S = foE coF ((eS (V nd)).drop m) l' lk) ?_ ?_
  · exact ⟨_, rfl, rfl, rfl, 0, l, rfl, Nat.zero_le _, rfl, h, EFr.rfl', hr, hS⟩
  · rintro n l3 t' ⟨m, l', rfl, hm, rfl, h', hE, hr', hs⟩
    have hv := h'.vl hnd
    refine ⟨hv.1.1, c27 hv ⟨fun e => ?_, fun e => ⟨hv.1.1, ?_⟩⟩⟩
    · have hm2 : (eS (V nd)).length ≤ m := (nI_leI (by omega) (by omega)).mp e
      rw [List.drop_eq_nil_of_le hm2] at hs
      exact k1 l' lk hs t' h' hE hr'
    · have hm2 : m < (eS (V nd)).length := Nat.not_le.mp (fun z => e (nI_le z (by omega)))
      rw [nI_l (by omega)]
      refine c28 h'.nv hv ?_
      rw [kiV_m (V := V) (a := .inl nd) hm2 hlen]
      rw [List.drop_eq_getElem_cons hm2] at hs
      have ex : (knV V (.inl nd)).getD m 0 = (eS (V nd))[m] := by show (eS (V nd)).getD m 0 = _; simp [List.getD, hm2]
      rw [ex]
      have hs : S = bE (coE l' (eS (V nd))[m] lk) (foE coF ((eS (V nd)).drop (m + 1))) := hs
      refine ⟨h'.k2, c7r (o := some (eS (V nd))[m]) h' hr' (fun j hj => by injection hj with hj; subst hj; exact hv.2.2.2.2.2.1.2 _ (List.getElem_mem hm2)) (fun l2 e2 t3 h3 hE3 hr3 => ⟨rfl, ?_⟩) (fun er he t3 hx => ?_)⟩
      · have e2 : coE l' (eS (V nd))[m] lk = .inl (l2, lk) := e2
        rw [e2] at hs
        exact ⟨(eS (V nd)).length - (m + 1), by omega, rfl, rfl, rfl, m + 1, l2, nI_1 m, by omega, rfl, h3, hE.tz h hE3, hr3, hs⟩
      · have he : coE l' (eS (V nd))[m] lk = .inr er := he
        rw [he] at hs
        exact k2 er hs t3 (EFe.of h (hE.zo.le (K' := zP) (fun _ w => w.elim)) hx (fun _ w => w))
theorem c251 {x y : Int64} (h : Post (.inl (some (svJ (if x < y then y else x)))) t) : CalG C mtab (d + 1) 251 [svJ x, svJ y] t Post := by
  refine cal251 ⟨fun e => ?_, fun e => ?_⟩
  · rw [if_pos ((lg_cmp_lt x y).mp e)] at h; exact h
  · rw [if_neg (fun z => e ((lg_cmp_lt x y).mpr z))] at h; exact h
theorem wiV_e {z lo hi : Int64} (h : lo ≤ hi) : (if lo < (if z < hi then z else hi) then (if z < hi then z else hi) else lo) = wiV z lo hi := by
  unfold wiV
  simp only [Int64.lt_iff_toInt_lt, Int64.le_iff_toInt_le] at *
  by_cases h1 : z.toInt < hi.toInt
  · rw [if_pos h1]
    by_cases h2 : lo.toInt < z.toInt
    · rw [if_pos h2, if_neg (by omega), if_neg (by omega)]
    · rw [if_neg h2]
      by_cases h3 : z.toInt < lo.toInt
      · rw [if_pos h3]
      · rw [if_neg h3, if_neg (by omega)]
        exact Int64.toInt_inj.mp (by omega)
  · rw [if_neg h1]
    by_cases h2 : lo.toInt < hi.toInt
    · rw [if_pos h2, if_neg (by omega)]
      by_cases h3 : hi.toInt < z.toInt
      · rw [if_pos h3]
      · rw [if_neg h3]; exact Int64.toInt_inj.mp (by omega)
    · rw [if_neg h2, if_neg (by omega)]
      by_cases h3 : hi.toInt < z.toInt
      · rw [if_pos h3]; exact Int64.toInt_inj.mp (by omega)
      · rw [if_neg h3]; exact Int64.toInt_inj.mp (by omega)
/-- bounded -/
theorem c16 {z lo hi : Int64} {n : Nat} (hn : n < 2 ^ 31) (h : lo ≤ hi) (k : Post (.inl (some (svJ (wiV (plV z n) lo hi)))) t) : CalG C mtab (d + 2) 16 [svJ z, svI (nI n), svJ lo, svJ hi] t Post := by
  refine cal16 ⟨fun e => ?_, fun e => ?_⟩
  · rw [lg_cmp_ge] at e
    unfold plV at k
    rw [if_neg (Int64.not_lt.mpr e)] at k
    exact c253 (c251 (by rw [wiV_e h]; exact k))
  · rw [lg_cmp_ge] at e
    unfold plV at k
    rw [if_pos (Int64.not_le.mp e)] at k
    rw [nI_l hn]
    exact c253 (c251 (by rw [wiV_e h]; exact k))
theorem nI_l1 {n : Nat} (h : n < 2 ^ 31) : (nI n - 1).toInt64 = lN n - 1 := by
  cases n with
  | zero => decide
  | succ n =>
    rw [nI_s1, nI_l (by omega)]
    exact (lN_sub (a := n + 1) (b := 1) (by omega)).symm
theorem lN1_toInt {n : Nat} (h : n < 2 ^ 31) : (lN n - 1).toInt = (n : Int) - 1 := by
  cases n with
  | zero => decide
  | succ n =>
    have : lN (n + 1) - 1 = lN n := lN_sub (a := n + 1) (b := 1) (by omega)
    rw [this, lN_toInt (by omega)]
    omega
theorem wiV_r {z lo hi : Int64} (h : lo ≤ hi) : lo.toInt ≤ (wiV z lo hi).toInt ∧ (wiV z lo hi).toInt ≤ hi.toInt := by
  unfold wiV
  simp only [Int64.lt_iff_toInt_lt, Int64.le_iff_toInt_le] at *
  split
  · exact ⟨by omega, by omega⟩
  · split
    · exact ⟨by omega, by omega⟩
    · exact ⟨by omega, by omega⟩
def upA (n : Nat) (o : Option Int64) (dd lo hi : Int64) : Int64 := match o with
  | none => dd
  | some z => wiV (plV z n) lo hi
theorem upA_r {n : Nat} {o : Option Int64} {dd lo hi : Int64} (h : lo ≤ hi) (h1 : lo.toInt ≤ dd.toInt ∧ dd.toInt ≤ hi.toInt) : lo.toInt ≤ (upA n o dd lo hi).toInt ∧ (upA n o dd lo hi).toInt ≤ hi.toInt := by
  cases o with
  | none => exact h1
  | some z => exact wiV_r h
theorem isN {o : Option Int64} (h : bI o.isSome = 0) : o = none := by
  cases o with
  | none => rfl
  | some z => exact absurd (show (1 : Int32) = 0 from h) (by decide)
theorem isS {o : Option Int64} (h : ¬ bI o.isSome = 0) : ∃ z, o = some z := by
  cases o with
  | none => exact absurd rfl h
  | some z => exact ⟨z, rfl⟩
theorem i64_ad {x y : Int64} (h1 : -9223372036854775808 ≤ x.toInt + y.toInt) (h2 : x.toInt + y.toInt < 9223372036854775808) : (x + y).toInt = x.toInt + y.toInt := by
  rw [Int64.toInt_add, Int.bmod_eq_of_le] <;> omega
theorem slP_e {n : Nat} {a e s : Option Int64} : slP n a e s = if s.getD 1 = 0 then [] else if 0 < s.getD 1 then upV 301 (upA n a 0 0 (lN n)) (upA n e (lN n) 0 (lN n)) (s.getD 1) else dnV 301 (upA n a (lN n - 1) (-1) (lN n - 1)) (upA n e (-1) (-1) (lN n - 1)) (s.getD 1) := rfl
theorem i64_0 : (0 : Int64).toInt = 0 := by decide
theorem i64_m1 : (-1 : Int64).toInt = -1 := by decide
set_option maxHeartbeats 2000000 in
/-- pickSlice -/
theorem c15 {a : Nat} {x : QF} (h : ESt C B T t1 G V c O t lk) (hnd : nd < c) (hr : RwL B c G t r ri l) (ka : tK t a = 10) (ha : a < tN t) (hz : sliH t a x) (hst : stQ x) (k1 : ∀ l' lk', foE coF (slV V nd x) l lk = .inl (l', lk') → ∀ t', ESt C B T t1 G V c O t' lk' → EFr B zP (Kb 34 ri) t t' → RwL B c G t' r ri l' → Post (.inl none) t') (k2 : ∀ e, foE coF (slV V nd x) l lk = .inr e → ∀ t', EFe C B T t1 G V c O zP t t' e → Post (.inr (201, 0)) t') : CalG C mtab (d + 5) 15 [svR (some (B + 6)), svR (some a), svR (some (gA G nd)), svR (some r)] t Post := by
  obtain ⟨S, hS⟩ : ∃ S, S = foE coF (slV V nd x) l lk := ⟨_, rfl⟩
  rw [← hS] at k1 k2
  have hv := h.vl hnd
  have hlen : (eS (V nd)).length ≤ 300 := hv.2.2.2.2.2.1.1
  have v3 : tI t (gA G nd) 0 = nI (eK (V nd)) := hv.1.2.2.1
  have v4 : eK (V nd) < 7 := hv.1.2.2.2
  obtain ⟨p, q, w, rfl⟩ : ∃ p q w, x = .append p (.append q w) := by
    unfold sliH at hz
    split at hz
    · exact ⟨_, _, _, rfl⟩
    · exact hz.elim
  obtain ⟨z1, z2, z3, z4, z5⟩ : tI t a 2 = bI (unO p).isSome ∧ tI t a 3 = bI (unO q).isSome ∧ (∀ z, unO p = some z → tJ t a 4 = z) ∧ (∀ z, unO q = some z → tJ t a 5 = z) ∧ tJ t a 6 = (unO w).getD 1 := hz
  have hst : ∀ z, unO w = some z → -9007199254740992 < z.toInt ∧ z.toInt < 9007199254740992 := hst
  have hst2 : -9007199254740992 < ((unO w).getD 1).toInt ∧ ((unO w).getD 1).toInt < 9007199254740992 := by
    cases hw : unO w with
    | none => show _ < (1 : Int64).toInt ∧ (1 : Int64).toInt < _; decide
    | some z => exact hst z hw
  obtain ⟨st, hstd⟩ : ∃ st, st = (unO w).getD 1 := ⟨_, rfl⟩
  have hS5 : eK (V nd) = 5 → S = foE coF ((slP (eS (V nd)).length (unO p) (unO q) (unO w)).map (fun k => (eS (V nd)).getD k 0)) l lk := fun z => by
    rw [hS]; unfold slV; rw [if_pos z]
  rw [slP_e, ← hstd] at hS5
  rw [← hstd] at z5 hst2
  obtain ⟨N, hN⟩ : ∃ N, N = (eS (V nd)).length := ⟨_, rfl⟩
  rw [← hN] at hS5
  have hNl : lN N = lN N := rfl
  have hsame : ∀ t', EFr B zP (Kb 34 ri) t t' → sameAt t t' a := fun t' g => g.same h ha (by omega) (fun w => w)
  have lo1 : (0 : Int64) ≤ lN N := by rw [Int64.le_iff_toInt_le, lN_toInt (by omega), i64_0]; omega
  have lo2 : (-1 : Int64) ≤ lN N - 1 := by rw [Int64.le_iff_toInt_le, lN1_toInt (by omega), i64_m1]; omega
  have lNt : (lN N).toInt = (N : Int) := lN_toInt (by omega)
  have lN1 : (lN N - 1).toInt = (N : Int) - 1 := lN1_toInt (by omega)
  -- one node more
  have one : ∀ {dd : Nat} {l' : List Nat} {t' : Ht} {P : OutT → Ht → Prop} {f0 : Nat → Prop} {i : Int64} {rest : List Nat}, ESt C B T t1 G V c O t' lk → RwL B c G t' r ri l' → EFr B zP (Kb 34 ri) t t' → 0 ≤ i.toInt → i.toInt < N → S = foE coF ((i.toInt.toNat :: rest).map (fun k => (eS (V nd)).getD k 0)) l' lk →
      (∀ l2 t3, ESt C B T t1 G V c O t3 lk → EFr B zP (Kb 34 ri) t t3 → RwL B c G t3 r ri l2 → S = foE coF (rest.map (fun k => (eS (V nd)).getD k 0)) l2 lk → P (.inl none) t3) → (∀ er t3, S = .inr er → EFe C B T t1 G V c O zP t t3 er → P (.inr (201, 0)) t3) →
      kiV V (.inl nd) i = some ((eS (V nd)).getD i.toInt.toNat 0) ∧ CalG C mtab (dd + 2) 7 [svR (some (B + 6)), svR (some (gA G ((eS (V nd)).getD i.toInt.toNat 0))), svR (some r)] t' P := by
    intro dd l' t' P f0 i rest h' hr' hE hi0 hi1 hs q1 q2
    obtain ⟨m, hm, hmi, hmt⟩ := lN_of (x := i) (N := N) (by rw [Int64.lt_iff_toInt_lt, i64_0]; omega) (by rw [Int64.lt_iff_toInt_lt, lNt]; omega) (by omega)
    have hmN : m < (eS (V nd)).length := by omega
    rw [hmt] at hs ⊢
    refine ⟨by rw [hmi]; exact kiV_m (V := V) (a := .inl nd) hmN hlen, ?_⟩
    have hs : S = bE (coE l' ((eS (V nd)).getD m 0) lk) (foE coF (rest.map (fun k => (eS (V nd)).getD k 0))) := hs
    refine c7r (o := some ((eS (V nd)).getD m 0)) h' hr' (fun j hj => by injection hj with hj; subst hj; exact hv.2.2.2.2.2.1.2 _ (gd_mem hmN)) (fun l2 e2 t3 h3 hE3 hr3 => ?_) (fun er he t3 hx => ?_)
    · have e2 : coE l' ((eS (V nd)).getD m 0) lk = .inl (l2, lk) := e2
      rw [e2] at hs
      exact q1 l2 t3 h3 (hE.tz h hE3) hr3 hs
    · have he : coE l' ((eS (V nd)).getD m 0) lk = .inr er := he
      rw [he] at hs
      exact q2 er t3 hs (EFe.of h (hE.zo.le (K' := zP) (fun _ w => w.elim)) hx (fun _ w => w))
  refine cal15 (fun n l4 l5 l7 t' => eK (V nd) = 5 ∧ 0 < st.toInt ∧ l5.toInt ≤ N ∧ 0 ≤ l7.toInt ∧ l5.toInt - l7.toInt < n ∧ ∃ l', ESt C B T t1 G V c O t' lk ∧ EFr B zP (Kb 34 ri) t t' ∧ RwL B c G t' r ri l' ∧ S = foE coF ((upV n l7 l5 st).map (fun k => (eS (V nd)).getD k 0)) l' lk)
    (fun n l4 l5 l7 t' => eK (V nd) = 5 ∧ st.toInt < 0 ∧ -1 ≤ l5.toInt ∧ l7.toInt < N ∧ l7.toInt - l5.toInt < n ∧ ∃ l', ESt C B T t1 G V c O t' lk ∧ EFr B zP (Kb 34 ri) t t' ∧ RwL B c G t' r ri l' ∧ S = foE coF ((dnV n l7 l5 st).map (fun k => (eS (V nd)).getD k 0)) l' lk) ?_ ?_ ?_
  · refine ⟨hv.1.1, fun e => ⟨ka, fun e1 => ?_, fun e1 => ⟨hv.1.1, c27 hv ⟨ka, ?_⟩⟩⟩, fun e => ?_⟩
    · rw [v3] at e
      have e := (nI_eq (b := 5) (by omega) (by decide)).mp e
      rw [z5, lg_cmp_eq] at e1
      have hs := hS5 e
      rw [if_pos e1] at hs
      exact k1 l lk hs t h EFr.rfl' hr
    · rw [v3] at e
      have e := (nI_eq (b := 5) (by omega) (by decide)).mp e
      rw [z5, lg_cmp_eq] at e1
      have hs := hS5 e
      rw [if_neg e1] at hs
      have eN : (knV V (.inl nd)).length = N := hN.symm
      rw [z5, lg_cmp_le, eN]
      refine ⟨fun e2 => ?_, fun e2 => ?_⟩
      · rw [if_neg (fun z => lg_le_not_lt e2 z)] at hs
        have hneg : st.toInt < 0 := by
          rw [Int64.le_iff_toInt_le, i64_0] at e2
          have : st.toInt ≠ 0 := fun z => e1 (Int64.toInt_inj.mp (by rw [z, i64_0]))
          omega
        rw [nI_l1 (by omega)]
        have fin : ∀ A E, A = upA N (unO p) (lN N - 1) (-1) (lN N - 1) → E = upA N (unO q) (-1) (-1) (lN N - 1) → ∃ k, some (B + 6) = some (B + 6) ∧ some a = some a ∧ some (gA G nd) = some (gA G nd) ∧ some r = some r ∧ eK (V nd) = 5 ∧ st.toInt < 0 ∧ -1 ≤ E.toInt ∧ A.toInt < N ∧ A.toInt - E.toInt < (k : Nat) ∧ ∃ l', ESt C B T t1 G V c O t lk ∧ EFr B zP (Kb 34 ri) t t ∧ RwL B c G t r ri l' ∧ S = foE coF ((dnV k A E st).map (fun k => (eS (V nd)).getD k 0)) l' lk := by
          intro A E hA hE
          rw [← hA, ← hE] at hs
          have rA := upA_r (n := N) (o := unO p) (dd := lN N - 1) lo2 (by rw [i64_m1, lN1]; omega)
          have rE := upA_r (n := N) (o := unO q) (dd := -1) lo2 (by rw [i64_m1, lN1]; omega)
          rw [← hA, i64_m1, lN1] at rA
          rw [← hE, i64_m1, lN1] at rE
          exact ⟨301, rfl, rfl, rfl, rfl, e, hneg, rE.1, by omega, by omega, l, h, EFr.rfl', hr, hs⟩
        refine ⟨ka, fun e3 => ⟨ka, fun e4 => ?_, fun e4 => ⟨ka, ?_⟩⟩, fun e3 => ⟨ka, ?_⟩⟩
        · have n3 : unO q = none := isN (z2 ▸ e3)
          have n4 : unO p = none := isN (z1 ▸ e4)
          exact fin _ _ (by rw [n4]; rfl) (by rw [n3]; rfl)
        · have n3 : unO q = none := isN (z2 ▸ e3)
          obtain ⟨zz, n4⟩ := isS (o := unO p) (z1 ▸ e4)
          rw [z3 zz n4]
          exact c16 (by omega) lo2 (fin _ _ (by rw [n4]; rfl) (by rw [n3]; rfl))
        · obtain ⟨zy, n3⟩ := isS (o := unO q) (z2 ▸ e3)
          rw [z4 zy n3]
          refine c16 (by omega) lo2 ⟨ka, ?_⟩
          refine ⟨fun e4 => ?_, fun e4 => ⟨ka, ?_⟩⟩
          · have n4 : unO p = none := isN (z1 ▸ e4)
            exact fin _ _ (by rw [n4]; rfl) (by rw [n3]; rfl)
          · obtain ⟨zz, n4⟩ := isS (o := unO p) (z1 ▸ e4)
            rw [z3 zz n4]
            exact c16 (by omega) lo2 (fin _ _ (by rw [n4]; rfl) (by rw [n3]; rfl))
      · have e2 : 0 < st := Int64.not_le.mp e2
        rw [if_pos e2] at hs
        have hpos : 0 < st.toInt := by rw [Int64.lt_iff_toInt_lt, i64_0] at e2; exact e2
        rw [nI_l (by omega)]
        have fin : ∀ A E, A = upA N (unO p) 0 0 (lN N) → E = upA N (unO q) (lN N) 0 (lN N) → ∃ k, some (B + 6) = some (B + 6) ∧ some a = some a ∧ some (gA G nd) = some (gA G nd) ∧ some r = some r ∧ eK (V nd) = 5 ∧ 0 < st.toInt ∧ E.toInt ≤ N ∧ 0 ≤ A.toInt ∧ E.toInt - A.toInt < (k : Nat) ∧ ∃ l', ESt C B T t1 G V c O t lk ∧ EFr B zP (Kb 34 ri) t t ∧ RwL B c G t r ri l' ∧ S = foE coF ((upV k A E st).map (fun k => (eS (V nd)).getD k 0)) l' lk := by
          intro A E hA hE
          rw [← hA, ← hE] at hs
          have rA := upA_r (n := N) (o := unO p) (dd := 0) lo1 (by rw [i64_0, lNt]; omega)
          have rE := upA_r (n := N) (o := unO q) (dd := lN N) lo1 (by rw [i64_0, lNt]; omega)
          rw [← hA, i64_0, lNt] at rA
          rw [← hE, i64_0, lNt] at rE
          exact ⟨301, rfl, rfl, rfl, rfl, e, hpos, rE.2, rA.1, by omega, l, h, EFr.rfl', hr, hs⟩
        refine ⟨ka, fun e3 => ⟨ka, fun e4 => ?_, fun e4 => ⟨ka, ?_⟩⟩, fun e3 => ⟨ka, ?_⟩⟩
        · have n3 : unO q = none := isN (z2 ▸ e3)
          have n4 : unO p = none := isN (z1 ▸ e4)
          exact fin _ _ (by rw [n4]; rfl) (by rw [n3]; rfl)
        · have n3 : unO q = none := isN (z2 ▸ e3)
          obtain ⟨zz, n4⟩ := isS (o := unO p) (z1 ▸ e4)
          rw [z3 zz n4]
          exact c16 (by omega) lo1 (fin _ _ (by rw [n4]; rfl) (by rw [n3]; rfl))
        · obtain ⟨zy, n3⟩ := isS (o := unO q) (z2 ▸ e3)
          rw [z4 zy n3]
          refine c16 (by omega) lo1 ⟨ka, ?_⟩
          refine ⟨fun e4 => ?_, fun e4 => ⟨ka, ?_⟩⟩
          · have n4 : unO p = none := isN (z1 ▸ e4)
            exact fin _ _ (by rw [n4]; rfl) (by rw [n3]; rfl)
          · obtain ⟨zz, n4⟩ := isS (o := unO p) (z1 ▸ e4)
            rw [z3 zz n4]
            exact c16 (by omega) lo1 (fin _ _ (by rw [n4]; rfl) (by rw [n3]; rfl))
    · rw [v3] at e
      have hs : S = .inl (l, lk) := by rw [hS]; unfold slV; rw [if_neg (fun z => e (by rw [z]; rfl))]; rfl
      exact k1 l lk hs t h EFr.rfl' hr
  · rintro n l4 l5 l7 t' ⟨e, hpos, hE, h7, hfu, l', h', hF, hr', hs⟩
    refine ⟨fun e1 => ?_, fun e1 => ⟨(h'.vl hnd).1.1, ?_⟩⟩
    · rw [lg_cmp_ge] at e1
      have hs : S = .inl (l', lk) := by
        rw [hs]
        cases n with
        | zero => rfl
        | succ n => rw [upV, if_neg (lg_le_not_lt e1)]; rfl
      exact k1 l' lk hs t' h' hF hr'
    · rw [lg_cmp_ge] at e1
      have hlt : l7 < l5 := Int64.not_le.mp e1
      have hlt2 := hlt
      rw [Int64.lt_iff_toInt_lt] at hlt2
      cases n with
      | zero => omega
      | succ n =>
        rw [upV, if_pos hlt] at hs
        have sa := hsame t' hF
        obtain ⟨y1, y2⟩ := one (dd := d + 2) (f0 := fun _ => True) (i := l7) h' hr' hF h7 (by omega) hs (P := aftV (fun v8 t9 => v8 = none ∧ onR (some a) (fun a13 => tK t9 a13 = 10 ∧ ∃ k, k < n + 1 ∧ some (B + 6) = some (B + 6) ∧ some a = some a ∧ some (gA G nd) = some (gA G nd) ∧ some r = some r ∧ eK (V nd) = 5 ∧ 0 < st.toInt ∧ l5.toInt ≤ N ∧ 0 ≤ (l7 + tJ t9 a13 6).toInt ∧ l5.toInt - (l7 + tJ t9 a13 6).toInt < (k : Nat) ∧ ∃ l', ESt C B T t1 G V c O t9 lk ∧ EFr B zP (Kb 34 ri) t t9 ∧ RwL B c G t9 r ri l' ∧ S = foE coF ((upV k (l7 + tJ t9 a13 6) l5 st).map (fun k => (eS (V nd)).getD k 0)) l' lk)) (fun k10 q11 t12 => Post (.inr (k10, q11)) t12)) (fun l2 t3 h3 hE3 hr3 hs3 => by
          have sa3 := hsame t3 hE3
          refine ⟨rfl, sa3.1.trans ka, ?_⟩
          rw [sa3.2.2.2.1 6, z5]
          have hadd := i64_ad (x := l7) (y := st) (by omega) (by omega)
          exact ⟨n, by omega, rfl, rfl, rfl, rfl, e, hpos, hE, by omega, by omega, l2, h3, hE3, hr3, hs3⟩) (fun er t3 hs3 hx => k2 er hs3 t3 hx)
        refine c28 h'.nv (h'.vl hnd) ?_
        rw [y1]
        exact ⟨h'.k2, y2⟩
  · rintro n l4 l5 l7 t' ⟨e, hneg, hE, h7, hfu, l', h', hF, hr', hs⟩
    refine ⟨fun e1 => ?_, fun e1 => ⟨(h'.vl hnd).1.1, ?_⟩⟩
    · rw [lg_cmp_le] at e1
      have hs : S = .inl (l', lk) := by
        rw [hs]
        cases n with
        | zero => rfl
        | succ n => rw [dnV, if_neg (lg_le_not_lt e1)]; rfl
      exact k1 l' lk hs t' h' hF hr'
    · rw [lg_cmp_le] at e1
      have hlt : l5 < l7 := Int64.not_le.mp e1
      have hlt2 := hlt
      rw [Int64.lt_iff_toInt_lt] at hlt2
      cases n with
      | zero => omega
      | succ n =>
        rw [dnV, if_pos hlt] at hs
        have sa := hsame t' hF
        obtain ⟨y1, y2⟩ := one (dd := d + 2) (f0 := fun _ => True) (i := l7) h' hr' hF (by omega) h7 hs (P := aftV (fun v8 t9 => v8 = none ∧ onR (some a) (fun a13 => tK t9 a13 = 10 ∧ ∃ k, k < n + 1 ∧ some (B + 6) = some (B + 6) ∧ some a = some a ∧ some (gA G nd) = some (gA G nd) ∧ some r = some r ∧ eK (V nd) = 5 ∧ st.toInt < 0 ∧ -1 ≤ l5.toInt ∧ (l7 + tJ t9 a13 6).toInt < N ∧ (l7 + tJ t9 a13 6).toInt - l5.toInt < (k : Nat) ∧ ∃ l', ESt C B T t1 G V c O t9 lk ∧ EFr B zP (Kb 34 ri) t t9 ∧ RwL B c G t9 r ri l' ∧ S = foE coF ((dnV k (l7 + tJ t9 a13 6) l5 st).map (fun k => (eS (V nd)).getD k 0)) l' lk)) (fun k10 q11 t12 => Post (.inr (k10, q11)) t12)) (fun l2 t3 h3 hE3 hr3 hs3 => by
          have sa3 := hsame t3 hE3
          refine ⟨rfl, sa3.1.trans ka, ?_⟩
          rw [sa3.2.2.2.1 6, z5]
          have hadd := i64_ad (x := l7) (y := st) (by omega) (by omega)
          exact ⟨n, by omega, rfl, rfl, rfl, rfl, e, hneg, hE, by omega, by omega, l2, h3, hE3, hr3, hs3⟩) (fun er t3 hs3 hx => k2 er hs3 t3 hx)
        refine c28 h'.nv (h'.vl hnd) ?_
        rw [y1]
        exact ⟨h'.k2, y2⟩
end CE6
