/-! Arrays.copyOf and ArrayList -/
theorem cpW_A : cpW (Mof mE276) 150 := ⟨gw (w := Cond.methodLink "java/util/Arrays" 150 arraycopyName) (tw3 (i := 57) rfl) rfl, gw (w := Cond.native arraycopyName) (tw3 (i := 59) rfl) rfl, gw (w := Cond.static arraycopyName) (tw3 (i := 58) rfl) rfl, gw (w := Cond.initialized "java/lang/System") (tw1 (i := 25) rfl) rfl⟩
theorem cpW_B : cpW (Mof mE275) 150 := cpW_A
theorem mo276 : MOF 276 mE276 X276 := ⟨rfl, by decide +kernel, mK276.1.1, pj8_ok, X276_ok⟩
theorem mo275 : MOF 275 mE275 X275 := ⟨rfl, by decide +kernel, mK275.1.1, pj8_ok, X275_ok⟩
theorem mo274 : MOF 274 mE274 X274 := ⟨rfl, by decide +kernel, mK274.1.1, pj8_ok, X274_ok⟩
theorem mo267 : MOF 267 mE267 X267 := ⟨rfl, by decide +kernel, mK267.1.1, pj5_ok, X267_ok⟩
theorem mo272 : MOF 272 mE272 X272 := ⟨rfl, by decide +kernel, mK272.1.1, pj5_ok, X272_ok⟩
theorem mo273 : MOF 273 mE273 X273 := ⟨rfl, by decide +kernel, mK273.1.1, pj5_ok, X273_ok⟩
section LI
variable {C : Cx} {d : Nat} {Post : OutT → Ht → Prop} {t : Ht}
theorem s276 {a m : Nat} (ha : a < tN t) (hk : tK t a = 101) (hm : m < tL t a) (hL : tL t a < 2 ^ 31) (hm2 : m ≤ 60000000) (k : Post (.inl (some (svR (some (tN t))))) (cpI (tNew t 101 m m) a (tN t) m)) : CalG C mtab (d + 2) 276 [svR (some a), svI (nI m)] t Post := by
  have hcl : (nI m).toNatClampNeg = m := nI_clamp (by omega)
  have hne : ¬ a = tN t := by omega
  have k0 : tK (tNew t 101 m m) a = 101 := by simp [ht, hne, hk]
  have k1 : tK (tNew t 101 m m) (tN t) = 101 := by simp [ht]
  have l0 : tL (tNew t 101 m m) a = tL t a := by simp [ht, hne]
  have l1 : tL (tNew t 101 m m) (tN t) = m := by simp [ht]
  refine cal_WG mo276 (Nat.le_of_ble_eq_true rfl) ?_
  refine wseg (X := X276) [28] 22 pj8_ok X276_ok ?_
  refine ⟨by rw [hk]; decide, by rw [hk]; decide, fun e => absurd ((nI_eq (by omega) hL).mp e) (by omega), fun _ => ⟨nI_pos (by omega), by rw [hcl]; exact hm2, ?_⟩⟩
  rw [hcl]
  refine ⟨by show 100 ≤ tK (tNew t 101 m m) a; rw [k0]; decide, by show tK (tNew t 101 m m) a < 106; rw [k0]; decide, c252 ?_⟩
  show WG C (Mof mE276) (d + 1 + 1) t Post 28 _ [svI (if nI m < nI (tL (tNew t 101 m m) a) then nI m else nI (tL (tNew t 101 m m) a)), svI 0, svR (some (tN t)), svI 0, svR (some a)] (tNew t 101 m m)
  rw [l0, if_pos (nI_lt hm hL)]
  have w : WG C (Mof mE276) (d + 1 + 1) t Post 31 [(2, svR (some (tN t))), (0, svR (some a)), (1, svI (nI m))] [] (cpI (tNew t 101 m m) a (tN t) m) := by
    refine wseg (X := X276) [] 4 pj8_ok X276_ok ?_
    exact k
  obtain ⟨o, t', q1, q2, q3, g⟩ := w
  refine ⟨o, t', q1, q2, q3, ?_⟩
  refine gd_copyI (a0 := a) (a := tN t) (m := m) (idx := 150) k0 k1 (by show m ≤ tL (tNew t 101 m m) a; omega) (by show m ≤ tL (tNew t 101 m m) (tN t); omega) (by omega) (fun j => ⟨tI (tNew t 101 m m) a j, ?_⟩) cpW_A (by unfold frD; omega) (by unfold loD; omega) (by decide) (k276_d (28, .invokestatic 150, 3) (by simp [k276])) ?_
  · show tV (tNew t 101 m m) a j = _
    unfold tV; rw [k0]; rfl
  · rw [hCpy_I k0 k1]; exact g
/-- an element of a list here: a Node, a Segment, a Selector or a Term -/
def kE (k : Nat) : Prop := k = 3 ∨ k = 9 ∨ k = 10 ∨ k = 11
theorem elOK_of {y : Nat} (h : kE (tK t y)) : elOK (tv t) (.ref y) := by
  rcases h with h | h | h | h
  · exact Or.inr ⟨y, 2, _, rfl, rfl, by decide, h, List.mem_of_getElem? (l := cWl) (i := 8) rfl⟩
  · exact Or.inr ⟨y, 8, _, rfl, rfl, by decide, h, List.mem_of_getElem? (l := cWl) (i := 9) rfl⟩
  · exact Or.inr ⟨y, 9, _, rfl, rfl, by decide, h, List.mem_of_getElem? (l := cWl) (i := 10) rfl⟩
  · exact Or.inr ⟨y, 10, _, rfl, rfl, by decide, h, List.mem_of_getElem? (l := cWl) (i := 11) rfl⟩
theorem gd_getC {M : Mi} {h0 h h' : Hp} {fr lo a idx : Nat} {o' : Out} {pc : Nat} {lv : List (Nat × Value)} {st : List Value} (hk : hK h a = 103) (w1 : Cond.methodLink M.1 idx ⟨"java/lang/Object", "getClass", "()Ljava/lang/Class;"⟩ ∈ gW) (hfr : 1 ≤ fr) (hlo : 30 ≤ lo) (hW : (st.map fun v => v.category).sum ≤ 8) (hdg : decode M.2.2.1 pc = .ok (.invokevirtual idx, 3))
    (kk : Gd C M fr lo h0 o' h' (pc + 3) lv (.ref (cS C 20) :: st) h) : Gd C M fr lo h0 o' h' pc lv (.ref a :: st) h := by
  intro p e s m args below meth c H locs ls hc hR0 hR hn hu hq hl
  have hts : ∀ w ∈ gW, w.before args s = true := fun w hw => hc.2.2.2.2.2.2.2.2.1 w hw args
  obtain ⟨-, -, -, -, -, hM, hD⟩ := hc.2.2.2.2.2.2.2.2.2.2.2.2.2.2.2.2.2
  obtain ⟨hb, he, ha, hra⟩ := gd_arr (t := 3) hc.2.2.2.2.2.2.2.2 hR hk (by decide)
  have hra' : va_RA s (cA C 3) (.object "java/lang/Object") := hra
  exact va_getC hc.1 hc.2.1 (by rw [hc.2.2.1]; exact hl.1.symm) hc.2.2.2.2.2.2.1 (hts _ w1) (va_Dc.use hD) (hts _ (gw (w := Cond.selects "[Ljava/lang/Object;" ⟨"java/lang/Object", "getClass", "()Ljava/lang/Class;"⟩ ⟨"java/lang/Object", "getClass", "()Ljava/lang/Class;"⟩) (tw9 (i := 25) rfl) rfl)) (hts _ (gw (w := Cond.instanceMethod ⟨"java/lang/Object", "getClass", "()Ljava/lang/Class;"⟩) (tw3 (i := 106) rfl) rfl)) (hts _ (gw (w := Cond.native ⟨"java/lang/Object", "getClass", "()Ljava/lang/Class;"⟩) (tw3 (i := 128) rfl) rfl)) hM
    ⟨_, he, rfl, va_nmO hra' (by decide)⟩ hfr (by show _ ≤ lo; omega) hdg (kk p e s m args below meth c H locs ls hc hR0 hR hn hu hq hl)
theorem gd_ldcM {M : Mi} {h0 h h' : Hp} {fr lo idx : Nat} {o' : Out} {pc : Nat} {lv : List (Nat × Value)} {st : List Value} (w1 : Cond.classLink M.1 idx "[Ljava/lang/Object;" ∈ gW) (hdg : decode M.2.2.1 pc = .ok (.ldc idx, 2))
    (kk : Gd C M fr lo h0 o' h' (pc + 2) lv (.ref (cS C 20) :: st) h) : Gd C M fr lo h0 o' h' pc lv st h := by
  intro p e s m args below meth c H locs ls hc hR0 hR hn hu hq hl
  obtain ⟨-, -, -, -, -, hM, hD⟩ := hc.2.2.2.2.2.2.2.2.2.2.2.2.2.2.2.2.2
  exact va_ldcM hc.1 hc.2.1 hc.2.2.2.2.2.2.1 (hc.2.2.2.2.2.2.2.2.1 _ w1 args) hM hdg (kk p e s m args below meth c H locs ls hc hR0 hR hn hu hq hl)
theorem s275 {a m : Nat} (ha : a < tN t) (hk : tK t a = 103) (hm : tL t a ≤ m) (hm2 : m ≤ 60000000) (hel : ∀ j, j < tL t a → ∃ y, tR t a j = some y ∧ y < tN t ∧ kE (tK t y)) (k : Post (.inl (some (svR (some (tN t))))) (cpR (tNew t 103 m m) a (tN t) (tL t a))) : CalG C mtab (d + 2) 275 [svR (some a), svI (nI m), svR (some (cS C 20))] t Post := by
  have hcl : (nI m).toNatClampNeg = m := nI_clamp (by omega)
  have hne : ¬ a = tN t := by omega
  have k0 : tK (tNew t 103 m m) a = 103 := by simp [ht, hne, hk]
  have k1 : tK (tNew t 103 m m) (tN t) = 103 := by simp [ht]
  have l0 : tL (tNew t 103 m m) a = tL t a := by simp [ht, hne]
  have l1 : tL (tNew t 103 m m) (tN t) = m := by simp [ht]
  refine cal_WG mo275 (Nat.le_of_ble_eq_true rfl) ?_
  refine wseg (X := X275) [1] 2 pj8_ok X275_ok ?_
  show WG C (Mof mE275) (d + 1 + 1) t Post 1 _ [svR (some (cS C 20))] t
  refine wg_gd 3 [svR (some (cS C 20)), svR (some (cS C 20))] (fun o' h' g => gd_ldcM (gw (w := Cond.classLink "java/util/Arrays" 110 "[Ljava/lang/Object;") (tw3 (i := 132) rfl) rfl) (k275_d (1, .ldc 110, 2) (by simp [k275])) g) ?_
  refine wg_step (pc' := 6) (st' := []) (fun hx hb _ z => lv_acmp_ne (rx := some (cS C 20)) (ry := some (cS C 20)) (rest := []) (tgt := 13) hx hb kx275 rfl (fun q => absurd rfl q) (fun _ => z)) ?_
  refine wseg (X := X275) [35] 22 pj8_ok X275_ok ?_
  refine ⟨nI_pos (by omega), by rw [hcl]; exact hm2, ?_⟩
  rw [hcl]
  refine ⟨by show 100 ≤ tK (tNew t 103 m m) a; rw [k0]; decide, by show tK (tNew t 103 m m) a < 106; rw [k0]; decide, c252 ?_⟩
  show WG C (Mof mE275) (d + 1 + 1) t Post 35 _ [svI (if nI m < nI (tL (tNew t 103 m m) a) then nI m else nI (tL (tNew t 103 m m) a)), svI 0, svR (some (tN t)), svI 0, svR (some a)] (tNew t 103 m m)
  rw [l0, if_neg (nI_nlt hm (by omega))]
  have w : WG C (Mof mE275) (d + 1 + 1) t Post 38 [(3, svR (some (tN t))), (0, svR (some a)), (1, svI (nI m)), (2, svR (some (cS C 20)))] [] (cpR (tNew t 103 m m) a (tN t) (tL t a)) := by
    refine wseg (X := X275) [] 4 pj8_ok X275_ok ?_
    exact k
  obtain ⟨o, t', q1, q2, q3, g⟩ := w
  refine ⟨o, t', q1, q2, q3, ?_⟩
  refine gd_copyR (a0 := a) (a := tN t) (m := tL t a) (idx := 150) k0 k1 (by show tL t a ≤ tL (tNew t 103 m m) a; omega) (by show tL t a ≤ tL (tNew t 103 m m) (tN t); omega) (by omega) (fun j hj => ?_) cpW_B (by unfold frD; omega) (by unfold loD; omega) (by decide) (k275_d (35, .invokestatic 150, 3) (by simp [k275])) ?_
  · obtain ⟨y, e1, e2, e3⟩ := hel j hj
    have e4 : tV (tNew t 103 m m) a j = .ref y := by
      have : tR (tNew t 103 m m) a j = some y := by simp [ht, hne, e1]
      unfold tV; rw [k0, this]; rfl
    show elOK (tv (tNew t 103 m m)) (tV (tNew t 103 m m) a j)
    rw [e4]
    refine elOK_of ?_
    have hy : ¬ y = tN t := by omega
    simp only [ht, hy, if_false]
    exact e3
  · rw [hCpy_R k0 k1]; exact g
theorem s274 {a m : Nat} (ha : a < tN t) (hk : tK t a = 103) (hm : tL t a ≤ m) (hm2 : m ≤ 60000000) (hel : ∀ j, j < tL t a → ∃ y, tR t a j = some y ∧ y < tN t ∧ kE (tK t y)) (k : Post (.inl (some (svR (some (tN t))))) (cpR (tNew t 103 m m) a (tN t) (tL t a))) : CalG C mtab (d + 3) 274 [svR (some a), svI (nI m)] t Post := by
  refine cal_WG mo274 (Nat.le_of_ble_eq_true rfl) ?_
  refine wseg (X := X274) [3] 5 pj8_ok X274_ok ?_
  show WG C (Mof mE274) (d + 2 + 1) t Post 3 _ [svR (some a), svI (nI m), svR (some a)] t
  refine wg_gd 6 [svR (some (cS C 20)), svI (nI m), svR (some a)] (fun o' h' g => gd_getC hk (gw (w := Cond.methodLink "java/util/Arrays" 86 ⟨"java/lang/Object", "getClass", "()Ljava/lang/Class;"⟩) (tw3 (i := 105) rfl) rfl) (by unfold frD; omega) (by unfold loD; omega) (by show 1 + (1 + 0) ≤ 8; decide) (k274_d (3, .invokevirtual 86, 3) (by simp [k274])) g) ?_
  refine wseg (X := X274) [] 4 pj8_ok X274_ok ?_
  exact s275 ha hk hm hm2 hel k
end LI
