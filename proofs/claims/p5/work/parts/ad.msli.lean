/-! THE REFERENCE'S FIND: sliced, filtered -/
theorem tl_b (a b e : Bool) : ((nI ((if a then 1 else 0) + (if b then 2 else 0) + (if e then 4 else 0)) &&& (4 : Int32)) = 0 ↔ e = false) ∧ ((nI ((if a then 1 else 0) + (if b then 2 else 0) + (if e then 4 else 0)) &&& (1 : Int32)) = 0 ↔ a = false) ∧ ((nI ((if a then 1 else 0) + (if b then 2 else 0) + (if e then 4 else 0)) &&& (2 : Int32)) = 0 ↔ b = false) := by
  cases a <;> cases b <;> cases e <;> decide
theorem isS_n {o : Option Int64} (h : o.isSome = false) : o = none := by
  cases o with
  | none => rfl
  | some z => cases h
theorem isS_s {o : Option Int64} (h : ¬ o.isSome = false) : ∃ z, o = some z := by
  cases o with
  | none => exact absurd rfl h
  | some z => exact ⟨z, rfl⟩
section RF7
variable {C : Cx} {d : Nat} {Post : OutT → Ht → Prop} {t0 t t' t2 : Ht} {M S P : Nat} {V : VT} {c lk lk' f D lv : Nat} {l l' : List Nat} {bs : Nat}
set_option maxHeartbeats 2000000 in
/-- sliced -/
theorem m222 {x : QF} {a nd : Nat} (H : G0 t0 M S P V c) (h : GS t0 M t lk) (hnd : nd < c) (h5 : eK (V nd) = 5) (ha : a < 2400) (hz : sliM t0 P a x) (hst : stQ x) (hl : LsM M c t bs l) (hb : bs + 1000 ≤ 36000)
    (k1 : ∀ l' lk' t', GS t0 M t' lk' → LK t0 V c M (bs + l.length) t t' → LsM M c t' bs l' → l.length ≤ l'.length → Post (.inl none) t') (k2 : ∀ t', MF M t0 t' → Post (.inr (16, M + 1)) t') : CalG C mtab (d + 3) 222 [svR (some M), svI (nI a), svI (nI nd)] t Post := by
  have hK := kM H h
  have hlen := H.sl hnd
  have Rn := H.2.1 nd hnd
  obtain ⟨p, q, w, rfl⟩ : ∃ p q w, x = .append p (.append q w) := by
    unfold sliM at hz
    split at hz
    · exact ⟨_, _, _, rfl⟩
    · exact hz.elim
  obtain ⟨z1, z2, z3, z4⟩ : tI t0 (P + 5) a = nI ((if (unO p).isSome then 1 else 0) + (if (unO q).isSome then 2 else 0) + (if (unO w).isSome then 4 else 0)) ∧ (∀ z, unO p = some z → tJ t0 (P + 6) a = z) ∧ (∀ z, unO q = some z → tJ t0 (P + 7) a = z) ∧ (∀ z, unO w = some z → tJ t0 (P + 8) a = z) := hz
  have hst : ∀ z, unO w = some z → -9007199254740992 < z.toInt ∧ z.toInt < 9007199254740992 := hst
  have hst2 : -9007199254740992 < ((unO w).getD 1).toInt ∧ ((unO w).getD 1).toInt < 9007199254740992 := by
    cases hw : unO w with
    | none => show _ < (1 : Int64).toInt ∧ (1 : Int64).toInt < _; decide
    | some z => exact hst z hw
  obtain ⟨b4, b1, b2⟩ := tl_b (unO p).isSome (unO q).isSome (unO w).isSome
  generalize nI ((if (unO p).isSome then 1 else 0) + (if (unO q).isSome then 2 else 0) + (if (unO w).isSome then 4 else 0)) = tl at z1 b4 b1 b2
  obtain ⟨st, hstd⟩ : ∃ st, st = (unO w).getD 1 := ⟨_, rfl⟩
  rw [← hstd] at hst2
  obtain ⟨N, hN⟩ : ∃ N, N = (eS (V nd)).length := ⟨_, rfl⟩
  have hsz : tI t0 (S + 6) nd = nI N := by
    rw [Rn.1.1.2.2.2.2.1, hN]
    unfold szE
    rw [if_neg (by omega)]
  have lo1 : (0 : Int64) ≤ lN N := by rw [Int64.le_iff_toInt_le, lN_toInt (by omega), i64_0]; omega
  have lo2 : (-1 : Int64) ≤ lN N - 1 := by rw [Int64.le_iff_toInt_le, lN1_toInt (by omega), i64_m1]; omega
  have lNt : (lN N).toInt = (N : Int) := lN_toInt (by omega)
  have lN1 : (lN N - 1).toInt = (N : Int) - 1 := lN1_toInt (by omega)
  obtain ⟨lo, hlo⟩ : ∃ lo : Int64, lo = if st ≤ 0 then -1 else 0 := ⟨_, rfl⟩
  obtain ⟨hi, hhi⟩ : ∃ hi : Int64, hi = if st ≤ 0 then lN N - 1 else lN N := ⟨_, rfl⟩
  obtain ⟨da, hda⟩ : ∃ da : Int64, da = if st ≤ 0 then lN N - 1 else 0 := ⟨_, rfl⟩
  obtain ⟨de, hde⟩ : ∃ de : Int64, de = if st ≤ 0 then -1 else lN N := ⟨_, rfl⟩
  obtain ⟨A, hA⟩ : ∃ A, A = upA N (unO p) da lo hi := ⟨_, rfl⟩
  obtain ⟨E, hE⟩ : ∃ E, E = upA N (unO q) de lo hi := ⟨_, rfl⟩
  have pl : ∀ z : Int64, ¬ z < 0 → plV z N = z := fun z hz => by unfold plV; rw [if_neg hz]
  have pn : ∀ z : Int64, z < 0 → plV z N = z + lN N := fun z hz => by unfold plV; rw [if_pos hz]
  have one : ∀ {dd : Nat} {l' : List Nat} {t' : Ht} {Q : Ht → Prop} {i : Int64}, GS t0 M t' lk → LsM M c t' bs l' → LK t0 V c M (bs + l.length) t t' → l.length ≤ l'.length → 0 ≤ i.toInt → i.toInt < N →
      (∀ l2 t3, GS t0 M t3 lk → LsM M c t3 bs l2 → LK t0 V c M (bs + l.length) t t3 → l.length ≤ l2.length → Q t3) → tK t' M = 17 ∧ CalG C mtab (dd + 2) 220 [svR (some M), svI (nI nd), svI i.toInt32] t' (aftV (fun v1 t2 => rI v1 (fun x6 => tK t2 M = 17 ∧ CalG C mtab (dd + 2) 215 [svR (some M), svI x6] t2 (aftV (fun v7 t8 => v7 = none ∧ Q t8) (fun k9 q10 t11 => Post (.inr (k9, q10)) t11)))) (fun k3 q4 t5 => Post (.inr (k3, q4)) t5)) := by
    intro dd l' t' Q i h' hl' hL hle hi0 hi1 q1
    obtain ⟨m, hm, hmi, hmt⟩ := lN_of (x := i) (N := N) (by rw [Int64.lt_iff_toInt_lt, i64_0]; omega) (by rw [Int64.lt_iff_toInt_lt, lNt]; omega) (by omega)
    have hmN : m < (eS (V nd)).length := by omega
    rw [hmi, lN_i]
    refine ⟨kM H h', m220 H h' hnd hmN ⟨kM H h', ?_⟩⟩
    refine m215 H h' hl' hb (H.kid hnd hmN).1 (fun t3 h3 hL3 hl3 => ⟨rfl, q1 _ t3 h3 hl3 (hL.trans hL3 (by omega)) ?_⟩) k2
    rw [List.length_append]; omega
  refine cal222 (fun n l3 l5 l6 t' => n = 409 ∧ t = t' ∧ l3 = lN N ∧ tl = l5 ∧ st = l6)
    (fun n l3 l5 l6 t' => n = 408 ∧ t = t' ∧ l3 = lN N ∧ tl = l5 ∧ st = l6 ∧ st ≠ 0)
    (fun n l3 l5 l6 l8 t' => n = 407 ∧ t = t' ∧ l3 = lN N ∧ tl = l5 ∧ st = l6 ∧ st ≠ 0 ∧ lo = l8)
    (fun n l3 l5 l6 l8 l10 t' => n = 406 ∧ t = t' ∧ l3 = lN N ∧ tl = l5 ∧ st = l6 ∧ st ≠ 0 ∧ lo = l8 ∧ hi = l10)
    (fun n l3 l5 l6 l8 l10 l12 t' => n = 405 ∧ t = t' ∧ l3 = lN N ∧ tl = l5 ∧ st = l6 ∧ st ≠ 0 ∧ lo = l8 ∧ hi = l10 ∧ da = l12)
    (fun n l3 l5 l6 l8 l10 l12 t' => n = 404 ∧ t = t' ∧ l3 = lN N ∧ tl = l5 ∧ st = l6 ∧ st ≠ 0 ∧ lo = l8 ∧ hi = l10 ∧ A = l12)
    (fun n l3 l5 l6 l8 l10 l12 l14 t' => n = 403 ∧ t = t' ∧ l3 = lN N ∧ tl = l5 ∧ st = l6 ∧ st ≠ 0 ∧ lo = l8 ∧ hi = l10 ∧ A = l12 ∧ de = l14)
    (fun n l3 l5 l6 l8 l10 l12 l14 t' => n = 402 ∧ t = t' ∧ st = l6 ∧ st ≠ 0 ∧ A = l12 ∧ E = l14)
    (fun n l3 l5 l6 l8 l10 l12 l14 l16 t' => st = l6 ∧ ∃ l', GS t0 M t' lk ∧ LsM M c t' bs l' ∧ LK t0 V c M (bs + l.length) t t' ∧ l.length ≤ l'.length ∧ ((0 < st.toInt ∧ l14.toInt ≤ N ∧ 0 ≤ l16.toInt ∧ l14.toInt - l16.toInt < n) ∨ (st.toInt < 0 ∧ -1 ≤ l14.toInt ∧ l16.toInt < N ∧ l16.toInt - l14.toInt < n)))
    ?_ ?_ ?_ ?_ ?_ ?_ ?_ ?_ ?_ ?_
  · refine ⟨hK, gS5 H h hnd ⟨hK, gP4 H h ha ?_⟩⟩
    rw [rS H h (k := 6) (by decide) hnd, rP H h (k := 5) (by decide) ha, z1, hsz, nI_l (by omega)]
    refine ⟨fun e => ⟨409, rfl, rfl, rfl, rfl, rfl, rfl, rfl, ?_⟩, fun e => ⟨hK, gP7 H h ha ⟨409, rfl, rfl, rfl, rfl, rfl, rfl, rfl, ?_⟩⟩⟩
    · rw [hstd, isS_n (b4.mp e)]; rfl
    · obtain ⟨z, e⟩ := isS_s (fun y => e (b4.mpr y))
      rw [rPJ H h (k := 8) (by decide) ha, z4 z e, hstd, e]; rfl
  · rintro n l3 l5 l6 t' ⟨rfl, rfl, rfl, rfl, rfl⟩
    refine ⟨fun e => ?_, fun e => ⟨408, by decide, rfl, rfl, rfl, rfl, rfl, rfl, rfl, rfl, fun z => e (by rw [z, lg_cmp_eq])⟩⟩
    exact k1 l lk _ h LK.rfl' hl (Nat.le_refl _)
  · rintro n l3 l5 l6 t' ⟨rfl, rfl, rfl, rfl, rfl, hne⟩
    exact ⟨fun e => ⟨407, by decide, rfl, rfl, rfl, rfl, rfl, rfl, rfl, rfl, hne, by rw [hlo, if_pos ((lg_cmp_le _ _).mp e)]⟩, fun e => ⟨407, by decide, rfl, rfl, rfl, rfl, rfl, rfl, rfl, rfl, hne, by rw [hlo, if_neg (fun z => e ((lg_cmp_le _ _).mpr z))]⟩⟩
  · rintro n l3 l5 l6 l8 t' ⟨rfl, rfl, rfl, rfl, rfl, hne, rfl⟩
    exact ⟨fun e => ⟨406, by decide, rfl, rfl, rfl, rfl, rfl, rfl, rfl, rfl, hne, rfl, by rw [hhi, if_pos ((lg_cmp_le _ _).mp e)]⟩, fun e => ⟨406, by decide, rfl, rfl, rfl, rfl, rfl, rfl, rfl, rfl, hne, rfl, by rw [hhi, if_neg (fun z => e ((lg_cmp_le _ _).mpr z))]⟩⟩
  · rintro n l3 l5 l6 l8 l10 t' ⟨rfl, rfl, rfl, rfl, rfl, hne, rfl, rfl⟩
    exact ⟨fun e => ⟨405, by decide, rfl, rfl, rfl, rfl, rfl, rfl, rfl, rfl, hne, rfl, rfl, by rw [hda, if_pos ((lg_cmp_le _ _).mp e)]⟩, fun e => ⟨405, by decide, rfl, rfl, rfl, rfl, rfl, rfl, rfl, rfl, hne, rfl, rfl, by rw [hda, if_neg (fun z => e ((lg_cmp_le _ _).mpr z))]⟩⟩
  · rintro n l3 l5 l6 l8 l10 l12 t' ⟨rfl, rfl, rfl, rfl, rfl, hne, rfl, rfl, rfl⟩
    refine ⟨fun e => ⟨404, by decide, rfl, rfl, rfl, rfl, rfl, rfl, rfl, rfl, hne, rfl, rfl, by rw [hA, isS_n (b1.mp e)]; rfl⟩, fun e => ?_⟩
    obtain ⟨z, e⟩ := isS_s (fun y => e (b1.mpr y))
    refine ⟨hK, gP5 H h ha ?_⟩
    rw [rPJ H h (k := 6) (by decide) ha, z2 z e]
    refine ⟨fun e1 => ⟨hK, gP5 H h ha ?_⟩, fun e1 => ⟨hK, gP5 H h ha ?_⟩⟩
    · rw [rPJ H h (k := 6) (by decide) ha, z2 z e]
      rw [lg_cmp_ge] at e1
      refine m221 ⟨404, by decide, rfl, rfl, rfl, rfl, rfl, rfl, rfl, rfl, hne, rfl, rfl, ?_⟩
      rw [hA, e]
      show wiV (plV z N) _ _ = _
      rw [pl z (Int64.not_lt.mpr e1)]
    · rw [rPJ H h (k := 6) (by decide) ha, z2 z e]
      rw [lg_cmp_ge] at e1
      refine m221 ⟨404, by decide, rfl, rfl, rfl, rfl, rfl, rfl, rfl, rfl, hne, rfl, rfl, ?_⟩
      rw [hA, e]
      show wiV (plV z N) _ _ = _
      rw [pn z (Int64.not_le.mp e1)]
  · rintro n l3 l5 l6 l8 l10 l12 t' ⟨rfl, rfl, rfl, rfl, rfl, hne, rfl, rfl, rfl⟩
    exact ⟨fun e => ⟨403, by decide, rfl, rfl, rfl, rfl, rfl, rfl, rfl, rfl, hne, rfl, rfl, rfl, by rw [hde, if_pos ((lg_cmp_le _ _).mp e)]⟩, fun e => ⟨403, by decide, rfl, rfl, rfl, rfl, rfl, rfl, rfl, rfl, hne, rfl, rfl, rfl, by rw [hde, if_neg (fun z => e ((lg_cmp_le _ _).mpr z))]⟩⟩
  · rintro n l3 l5 l6 l8 l10 l12 l14 t' ⟨rfl, rfl, rfl, rfl, rfl, hne, rfl, rfl, rfl, rfl⟩
    refine ⟨fun e => ⟨402, by decide, rfl, rfl, rfl, rfl, rfl, rfl, hne, rfl, by rw [hE, isS_n (b2.mp e)]; rfl⟩, fun e => ?_⟩
    obtain ⟨z, e⟩ := isS_s (fun y => e (b2.mpr y))
    refine ⟨hK, gP6 H h ha ?_⟩
    rw [rPJ H h (k := 7) (by decide) ha, z3 z e]
    refine ⟨fun e1 => ⟨hK, gP6 H h ha ?_⟩, fun e1 => ⟨hK, gP6 H h ha ?_⟩⟩
    · rw [rPJ H h (k := 7) (by decide) ha, z3 z e]
      rw [lg_cmp_ge] at e1
      refine m221 ⟨402, by decide, rfl, rfl, rfl, rfl, rfl, rfl, hne, rfl, ?_⟩
      rw [hE, e]
      show wiV (plV z N) _ _ = _
      rw [pl z (Int64.not_lt.mpr e1)]
    · rw [rPJ H h (k := 7) (by decide) ha, z3 z e]
      rw [lg_cmp_ge] at e1
      refine m221 ⟨402, by decide, rfl, rfl, rfl, rfl, rfl, rfl, hne, rfl, ?_⟩
      rw [hE, e]
      show wiV (plV z N) _ _ = _
      rw [pn z (Int64.not_le.mp e1)]
  · rintro n l3 l5 l6 l8 l10 l12 l14 t' ⟨rfl, rfl, rfl, hne, rfl, rfl⟩
    by_cases e2 : st ≤ 0
    · have hneg : st.toInt < 0 := by
        rw [Int64.le_iff_toInt_le, i64_0] at e2
        have : st.toInt ≠ 0 := fun z => hne (Int64.toInt_inj.mp (by rw [z, i64_0]))
        omega
      rw [if_pos e2] at hlo hhi hda hde
      rw [hlo, hhi, hda] at hA
      rw [hlo, hhi, hde] at hE
      have rA := upA_r (n := N) (o := unO p) (dd := lN N - 1) lo2 (by rw [i64_m1, lN1]; omega)
      have rE := upA_r (n := N) (o := unO q) (dd := -1) lo2 (by rw [i64_m1, lN1]; omega)
      rw [← hA, i64_m1, lN1] at rA
      rw [← hE, i64_m1, lN1] at rE
      exact ⟨301, by decide, rfl, rfl, rfl, rfl, l, h, hl, LK.rfl', Nat.le_refl _, Or.inr ⟨hneg, rE.1, by omega, by omega⟩⟩
    · have hpos : 0 < st.toInt := by
        have e2 := Int64.not_le.mp e2
        rw [Int64.lt_iff_toInt_lt, i64_0] at e2; exact e2
      rw [if_neg e2] at hlo hhi hda hde
      rw [hlo, hhi, hda] at hA
      rw [hlo, hhi, hde] at hE
      have rA := upA_r (n := N) (o := unO p) (dd := 0) lo1 (by rw [i64_0, lNt]; omega)
      have rE := upA_r (n := N) (o := unO q) (dd := lN N) lo1 (by rw [i64_0, lNt]; omega)
      rw [← hA, i64_0, lNt] at rA
      rw [← hE, i64_0, lNt] at rE
      exact ⟨301, by decide, rfl, rfl, rfl, rfl, l, h, hl, LK.rfl', Nat.le_refl _, Or.inl ⟨hpos, rE.2, rA.1, by omega⟩⟩
  · rintro n l3 l5 l6 l8 l10 l12 l14 l16 t' ⟨rfl, l', h', hl', hL, hle, hh⟩
    refine ⟨fun e => ?_, fun e => ?_⟩
    · have e := (lg_cmp_le _ _).mp e
      rcases hh with ⟨hpos, -⟩ | ⟨hneg, hE1, h16, hfu⟩
      · rw [Int64.le_iff_toInt_le, i64_0] at e; omega
      refine ⟨fun e1 => ?_, fun e1 => ?_⟩
      · exact k1 l' lk t' h' hL hl' hle
      · rw [lg_cmp_le] at e1
        have hlt : l14 < l16 := Int64.not_le.mp e1
        have hlt2 := hlt
        rw [Int64.lt_iff_toInt_lt] at hlt2
        cases n with
        | zero => omega
        | succ n =>
          refine one h' hl' hL hle (by omega) h16 (fun l2 t3 h3 hl3 hL3 hle3 => ?_)
          have hadd := i64_ad (x := l16) (y := st) (by omega) (by omega)
          exact ⟨n, by omega, rfl, rfl, rfl, rfl, l2, h3, hl3, hL3, hle3, Or.inr ⟨hneg, hE1, by omega, by omega⟩⟩
    · have e : ¬ st ≤ 0 := fun z => e ((lg_cmp_le _ _).mpr z)
      rcases hh with ⟨hpos, hE1, h16, hfu⟩ | ⟨hneg, -⟩
      · refine ⟨fun e1 => ?_, fun e1 => ?_⟩
        · exact k1 l' lk t' h' hL hl' hle
        · rw [lg_cmp_ge] at e1
          have hlt : l16 < l14 := Int64.not_le.mp e1
          have hlt2 := hlt
          rw [Int64.lt_iff_toInt_lt] at hlt2
          cases n with
          | zero => omega
          | succ n =>
            refine one h' hl' hL hle h16 (by omega) (fun l2 t3 h3 hl3 hL3 hle3 => ?_)
            have hadd := i64_ad (x := l16) (y := st) (by omega) (by omega)
            exact ⟨n, by omega, rfl, rfl, rfl, rfl, l2, h3, hl3, hL3, hle3, Or.inl ⟨hpos, hE1, by omega, by omega⟩⟩
      · have e := Int64.not_le.mp e
        rw [Int64.lt_iff_toInt_lt, i64_0] at e; omega
/-- filtered -/
theorem m223 {x : QF} {a nd : Nat} (H : G0 t0 M S P V c) (h : GS t0 M t lk) (r3 : R3 C t0 M P V c x) (hq : Qm t0 M P x 3 [a]) (hg : gdQ x 3) (hf : fdQ x 3 + (lv + 1) ≤ 16) (hD : dqQ x 3 + 40 * fdQ x 3 + 140 ≤ D) (hnd : nd < c) (hl : LsM M c t (2000 * lv + 1000) l)
    (k1 : ∀ l' lk' t', GS t0 M t' lk' → LK t0 V c M (2000 * lv + 1000 + l.length) t t' → LsM M c t' (2000 * lv + 1000) l' → l.length ≤ l'.length → Post (.inl none) t') (k2 : ∀ t', MF M t0 t' → Post (.inr (16, M + 1)) t') : CalG C mtab (D + 1) 223 [svR (some M), svI (nI a), svI (nI nd), svI (nI lv)] t Post := by
  have hK := kM H h
  have hc := H.2.2.2.2
  have Rn := H.2.1 nd hnd
  obtain ⟨J, hJ⟩ : ∃ J : Nat → Int32 → Int32 → Ht → Prop, J = fun n l4 l5 t' => ∃ m l2 lk2, n = (eS (V nd)).length - m ∧ m ≤ (eS (V nd)).length ∧ l4 = nI (2000 * lv + 1000) ∧ l5 = oIx (eS (V nd))[m]? ∧ GS t0 M t' lk2 ∧ LsM M c t' (2000 * lv + 1000) l2 ∧ LK t0 V c M (2000 * lv + 1000 + l.length) t t' ∧ l.length ≤ l2.length := ⟨_, rfl⟩
  refine cal223 J ?_ ?_
  · refine ⟨hK, hK, gS1 H h hnd ?_⟩
    rw [rS H h (k := 2) (by decide) hnd, Rn.1.1.2.1, hl.1, hJ]
    exact ⟨_, rfl, rfl, rfl, rfl, 0, l, lk, rfl, Nat.zero_le _, rfl, rfl, h, hl, LK.rfl', Nat.le_refl _⟩
  · intro n l4 l5 t' hj
    rw [hJ] at hj
    obtain ⟨m, l2, lk2, rfl, hm, rfl, rfl, h', hl', hL, hle⟩ := hj
    by_cases z : m < (eS (V nd)).length
    · have hk := H.kid hnd z
      rw [oIx_get z]
      refine ⟨fun e => absurd e (nI_m1 (by omega)), fun _ => ⟨kM H h', ?_⟩⟩
      obtain ⟨D0, rfl⟩ : ∃ D0, D = D0 + 2 := ⟨D - 2, by omega⟩
      refine m214 H h' (fun h1 => ⟨rfl, kM H h1, kM H h1, ?_⟩) k2
      have hl1 : LsM M c (sI t' M 23 (nI (lk2 + 1))) (2000 * lv + 1000) l2 := hl'.I (by decide) (by decide)
      have hL1 : LK t0 V c M (2000 * lv + 1000 + l.length) t (sI t' M 23 (nI (lk2 + 1))) := hL.trans LK.I (Nat.le_refl _)
      generalize sI t' M 23 (nI (lk2 + 1)) = t1 at h1 hl1 hL1 ⊢
      rw [show nI lv + 1 = nI (lv + 1) from nI_add lv 1, hl1.2.1]
      have hl2 := hl1.2.2.1
      refine r3 a _ (lv + 1) (lk2 + 1) _ t1 _ hq hg hf hD h1 hk.1 (fun r lk3 t3 h3 hL3 => ?_) k2
      have h4 : GS t0 M (sI (sI t3 M 27 (nI (2000 * lv + 1000))) M 28 (nI l2.length)) lk3 := (h3.I (by decide)).I (by decide)
      have hl4 : LsM M c (sI (sI t3 M 27 (nI (2000 * lv + 1000))) M 28 (nI l2.length)) (2000 * lv + 1000) l2 := ⟨by rw [sI_at (by omega), sI_eq], sI_eq, hl2, fun k hk => by rw [sI_at (by omega), sI_at (by omega), hL3.1 _ (by omega)]; exact hl1.2.2.2.1 k hk, hl1.2.2.2.2⟩
      have hL4 : LK t0 V c M (2000 * lv + 1000 + l.length) t (sI (sI t3 M 27 (nI (2000 * lv + 1000))) M 28 (nI l2.length)) := (hL1.trans (hL3.le (K' := 2000 * lv + 1000 + l.length) (by omega)) (Nat.le_refl _)).trans ((LK.I).trans LK.I (Nat.le_refl _)) (Nat.le_refl _)
      refine ⟨kM H h3, (kM H h3 :), ?_⟩
      generalize sI (sI t3 M 27 (nI (2000 * lv + 1000))) M 28 (nI l2.length) = t4 at h4 hl4 hL4 ⊢
      have nx : ∀ l5 t5, GS t0 M t5 lk3 → LsM M c t5 (2000 * lv + 1000) l5 → LK t0 V c M (2000 * lv + 1000 + l.length) t t5 → l.length ≤ l5.length → ∃ k, k < (eS (V nd)).length - m ∧ some M = some M ∧ nI a = nI a ∧ nI nd = nI nd ∧ nI lv = nI lv ∧ J k (nI (2000 * lv + 1000)) (tI t5 (S + 4) (nI ((eS (V nd)).getD m 0)).toNatClampNeg) t5 := by
        intro l5 t5 h5 hl5 hL5 hle5
        rw [rS H h5 (k := 4) (by decide) hk.1, Rn.1.2.2 m z, hJ]
        exact ⟨_, (by omega : (eS (V nd)).length - (m + 1) < (eS (V nd)).length - m), rfl, rfl, rfl, rfl, m + 1, l5, lk3, rfl, by omega, rfl, rfl, h5, hl5, hL5, hle5⟩
      refine ⟨fun y => ⟨kM H h4, gS3 H h4 hk.1 (nx l2 t4 h4 hl4 hL4 hle)⟩, fun _ => ⟨kM H h4, m215 H h4 hl4 (by omega) hk.1 (fun t5 h5 hL5 hl5 => ⟨rfl, kM H h5, gS3 H h5 hk.1 (nx _ t5 h5 hl5 (hL4.trans hL5 (by omega)) (by rw [List.length_append]; omega))⟩) k2⟩⟩
    · rw [oIx_no (by omega)]
      exact ⟨fun _ => k1 l2 lk2 t' h' hL hl' hle, fun e => absurd rfl e⟩
end RF7
