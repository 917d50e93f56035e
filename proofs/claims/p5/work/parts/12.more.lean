/-! arrays of references, casts, constants, statics -/
section GM
variable {C : Cx} {M : Mi} {h0 h h' h1 : Hp} {fr lo fr' lo' : Nat} {o o' : Out} {pc pc' : Nat} {lv lv' : List (Nat × Value)} {st st' rest : List Value}
theorem gd_ldcS {idx n : Nat} {tx : String} (hs : (M.1, idx, tx, n) ∈ strL) (hdg : decode M.2.2.1 pc = .ok (.ldc idx, 2)) (kk : Gd C M fr lo h0 o' h' (pc + 2) lv (.ref (cS C n) :: st) h) : Gd C M fr lo h0 o' h' pc lv st h := by
  intro p e s m args below meth c H locs ls hc hR0 hR hn hu hq hl T hT X
  obtain ⟨t, a1, b1⟩ := kk p e s m args below meth c H locs ls hc hR0 hR hn hu hq hl T hT X
  have hstr := hc.2.2.2.2.2.2.2.2.2.2.2.2.2.2.1 _ hs
  exact ⟨t, X.ldcString hc.1 (own := M.1) (text := tx) (index := idx) (a := cS C n) hc.2.2.2.2.2.2.1 hstr.1 hstr.2 (g := F0 m pc ls st) rfl (by rw [hc.2.1]; exact hdg) _ a1, b1⟩
theorem gd_ldcSW {idx n : Nat} {tx : String} (hs : (M.1, idx, tx, n) ∈ strL) (hdg : decode M.2.2.1 pc = .ok (.ldc_w idx, 3)) (kk : Gd C M fr lo h0 o' h' (pc + 3) lv (.ref (cS C n) :: st) h) : Gd C M fr lo h0 o' h' pc lv st h := by
  intro p e s m args below meth c H locs ls hc hR0 hR hn hu hq hl T hT X
  obtain ⟨t, a1, b1⟩ := kk p e s m args below meth c H locs ls hc hR0 hR hn hu hq hl T hT X
  have hstr := hc.2.2.2.2.2.2.2.2.2.2.2.2.2.2.1 _ hs
  exact ⟨t, X.ldcStringW hc.1 (own := M.1) (text := tx) (index := idx) (a := cS C n) hc.2.2.2.2.2.2.1 hstr.1 hstr.2 (g := F0 m pc ls st) rfl (by rw [hc.2.1]; exact hdg) _ a1, b1⟩
theorem gd_gets {idx g : Nat} {cn n dsc : String} (hs : (cn, n, dsc, g) ∈ stL) (hlink : Cond.fieldLink M.1 idx cn n dsc ∈ gW) (hdg : decode M.2.2.1 pc = .ok (.getstatic idx, 3)) (kk : Gd C M fr lo h0 o' h' (pc + 3) lv (va_rf (cG C g) :: st) h) : Gd C M fr lo h0 o' h' pc lv st h := by
  intro p e s m args below meth c H locs ls hc hR0 hR hn hu hq hl
  have hold : ∀ q, q < cB C → s.heap[q]? = (cH C)[q]? := hR0.2.2.1
  have hZ := (hc.2.2.2.2.2.2.2.2.2.2.2.2.2.2.2.1 _ hs).kept (H1 := s.heap) (fun a _ ha => hold a (Nat.not_le.mp ha))
  exact va_gets hc.1 hc.2.1 hZ ⟨by rw [hR0.1, hR.1]; exact hn, fun q h1 h2 => by rw [hold q (Nat.not_le.mp h2)]; exact hR.2.2.1 q (Nat.not_le.mp h2), hq⟩ hc.2.2.2.2.2.2.1 (hc.2.2.2.2.2.2.2.2.1 _ hlink args) (fun _ z => z) hdg (kk p e s m args below meth c H locs ls hc hR0 hR hn hu hq hl)
theorem gd_cast {idx a ci : Nat} {r : vw_C} (hr : vwCl[ci]? = some r) (hci : ci < 99) (hk : hK h a = ci + 1) (hw : Cond.classLink M.1 idx r.1 ∈ gW) (hcw : (r.1, r.1) ∈ cWl) (hdg : decode M.2.2.1 pc = .ok (.checkcast idx, 3)) (kk : Gd C M fr lo h0 o' h' (pc + 3) lv (.ref a :: st) h) : Gd C M fr lo h0 o' h' pc lv (.ref a :: st) h := by
  intro p e s m args below meth c H locs ls hc hR0 hR hn hu hq hl
  obtain ⟨-, -, hcell⟩ := hR.2.2.2 a (by rw [hk]; omega)
  obtain ⟨r9, hr9, cell, q1, q2, q3, -⟩ := hcell.1 (by rw [hk]; omega)
  rw [hk, Nat.add_sub_cancel] at q2
  obtain ⟨-, hfc, -⟩ := hc.2.2.2.2.2.2.2.2.2.2.1.1 ci _ hr
  exact va_castY hc.1 hc.2.1 hc.2.2.2.2.2.2.1 (hc.2.2.2.2.2.2.2.2.1 _ hw args) ((hc.2.2.2.2.2.2.2.2.2.2.2.1 _ hcw).word #[]) ⟨cell, q1, by rw [q3]; rfl, by rw [q2]; exact hfc⟩ hdg (kk p e s m args below meth c H locs ls hc hR0 hR hn hu hq hl)
theorem gd_anew {t idx : Nat} {n : Int32} {E : String} (ht : t < 6) (hE : aT t = .object E) (hao : E ∈ aOl) (hw : Cond.classLink M.1 idx E ∈ gW) (hn0 : ¬ n < 0) (hsz : n.toNatClampNeg ≤ 60000000) (hdg : decode M.2.2.1 pc = .ok (.anewarray idx, 3)) (hN' : hN h + 1 ≤ hN h') (hU' : hU h + n.toNatClampNeg ≤ hU h')
    (kk : Gd C M fr lo h0 o' h' (pc + 3) lv (.ref (hN h) :: st) (hNew h (100 + t) n.toNatClampNeg n.toNatClampNeg (fun _ => .null))) : Gd C M fr lo h0 o' h' pc lv (.int n :: st) h := by
  intro p e s m args below meth c H locs ls hc hR0 hR hn hu hq hl
  have hra := (hc.2.2.2.2.2.2.2.2.2.2.1.2 t _ (cTys_at ht)).2
  refine W.anew hc.1 hc.2.1 hc.2.2.2.2.2.2.1 (hc.2.2.2.2.2.2.2.2.1 _ hw args) (va_AO.use (hc.2.2.2.2.2.2.2.2.2.2.2.2.1 _ hao)) (g := F0 m pc ls (.int n :: st)) rfl hdg rfl hn0 (by omega) (by show hN h - hN h0 + 1 ≤ hN h' - hN h0; omega) (by show hU h - hU h0 + n.toNatClampNeg ≤ hU h' - hU h0; omega) fun cA' kA comp z1 z2 z3 z4 => ?_
  have hcA : cA' = cA C t := by
    rw [hE] at hra
    obtain ⟨kA9, comp9, -, -, -, h9⟩ := hra
    exact Option.some.inj (z1.symm.trans h9)
  subst hcA
  rw [arrV_new]
  have e1 : hN (hNew h (100 + t) n.toNatClampNeg n.toNatClampNeg (fun _ => Value.null)) - hN h0 = hN h - hN h0 + 1 := by show hN h + 1 - hN h0 = _; omega
  have e2 : hU (hNew h (100 + t) n.toNatClampNeg n.toNatClampNeg (fun _ => Value.null)) - hU h0 = hU h - hU h0 + n.toNatClampNeg := by show hU h + n.toNatClampNeg - hU h0 = _; omega
  have kk' := kk p e s m args below meth c (H.push (arrV (cA C t) n.toNatClampNeg (fun _ => Value.null))) locs ls hc hR0 (hR.push ⟨fun z => absurd z (by simp [hNew, hK]), fun _ _ => ⟨by simp [hNew, hK]; omega, ?_⟩⟩) (by show hN h0 ≤ hN h + 1; omega) (by show hU h0 ≤ hU h + n.toNatClampNeg; omega) hq hl
  · rw [e1, e2] at kk'
    rw [hR.1]
    exact kk'
  · have e9 : (H.push (arrV (cA C t) n.toNatClampNeg (fun _ => Value.null)))[hN h]? = some (arrV (cA C t) n.toNatClampNeg (fun _ => Value.null)) := by rw [← hR.1]; simp
    rw [e9]
    simp [hNew, hK, hL, hV]
theorem gd_aast {a b t ci : Nat} {j : Int32} {E : String} {r : vw_C} (hk : hK h a = 100 + t) (ht : t < 6) (hE : aT t = .object E) (hi : vp_in j (hL h a)) (hr : vwCl[ci]? = some r) (hci : ci < 99) (hkb : hK h b = ci + 1) (hcw : (r.1, E) ∈ cWl) (hdg : decode M.2.2.1 pc = .ok (.aastore, 1))
    (kk : Gd C M fr lo h0 o' h' (pc + 1) lv st (hSet h a j.toNatClampNeg (.ref b))) : Gd C M fr lo h0 o' h' pc lv (.ref b :: .int j :: .ref a :: st) h := by
  intro p e s m args below meth c H locs ls hc hR0 hR hn hu hq hl
  obtain ⟨hb, he, ha, hra⟩ := gd_arr hc.2.2.2.2.2.2.2.2 hR hk ht
  rw [hE] at hra
  obtain ⟨kA, comp, z1, z2, z3, -⟩ := hra
  obtain ⟨-, -, hcell⟩ := hR.2.2.2 b (by rw [hkb]; omega)
  obtain ⟨r9, hr9, cell, q1, q2, q3, -⟩ := hcell.1 (by rw [hkb]; omega)
  rw [hkb, Nat.add_sub_cancel] at q2
  obtain ⟨-, hfc, kC, hkC, -⟩ := hc.2.2.2.2.2.2.2.2.2.2.1.1 ci _ hr
  obtain ⟨c3, c4, w1, w2, w3⟩ := hc.2.2.2.2.2.2.2.2.2.2.2.1 _ hcw
  cases Option.some.inj (w1.symm.trans hfc)
  cases Option.some.inj (w2.symm.trans z3)
  obtain ⟨kcomp, hkcomp, -⟩ := Vm.findClass_spec z3
  have hlt : j.toNatClampNeg < hL h a := Nat.not_le.mp fun q => hi (Or.inr q)
  have h0' : ¬ j < 0 := fun q => hi (Or.inl q)
  exact W.aast hc.1 hc.2.1 he (fun q z => by cases z) (fun z => by cases z) z1 z2 rfl hkcomp ⟨h0', by rw [arrV_size]; exact hlt⟩ q1 (fun q z => by rw [q3] at z; cases z) (by rw [q2]; exact hkC) (by rw [q2]; exact w3) rfl rfl hdg fun H1 e1 e2 e3 => kk p e s m args below meth c H1 _ ls hc hR0 (gd_ast hc.2.2.2.2.2.2.2.2 hR hk ht e1 e2 e3) hn hu (gd_locs hq hb) hl
theorem gd_aastN {a t : Nat} {j : Int32} {E : String} (hk : hK h a = 100 + t) (ht : t < 6) (hE : aT t = .object E) (hi : vp_in j (hL h a)) (hdg : decode M.2.2.1 pc = .ok (.aastore, 1))
    (kk : Gd C M fr lo h0 o' h' (pc + 1) lv st (hSet h a j.toNatClampNeg .null)) : Gd C M fr lo h0 o' h' pc lv (.null :: .int j :: .ref a :: st) h := by
  intro p e s m args below meth c H locs ls hc hR0 hR hn hu hq hl
  obtain ⟨hb, he, ha, hra⟩ := gd_arr hc.2.2.2.2.2.2.2.2 hR hk ht
  exact va_WaastN (C := E) hc.1 hc.2.1 he (by rw [← hE]; exact ha _ _) (fun z => by cases z) (by rw [arrV_size]; exact hi) rfl rfl hdg fun H1 e1 e2 e3 => kk p e s m args below meth c H1 _ ls hc hR0 (gd_ast hc.2.2.2.2.2.2.2.2 hR hk ht e1 e2 e3) hn hu (gd_locs hq hb) hl
theorem gd_sld {j : Int32} (hi : vp_in j (cX C).2.1) (hdg : decode M.2.2.1 pc = .ok (.iaload, 1)) (kk : Gd C M fr lo h0 o' h' (pc + 1) lv (.int ((cX C).2.2 j.toNatClampNeg) :: st) h) : Gd C M fr lo h0 o' h' pc lv (.int j :: .ref (cX C).1 :: st) h := by
  intro p e s m args below meth c H locs ls hc hR0 hR hn hu hq hl
  obtain ⟨z1, z2, -⟩ := hc.2.2.2.2.2.2.2.2.2.2.2.2.2.2.2.2.2
  obtain ⟨scr, s1, s2, s3, s4, s5⟩ := z2.kept (H1 := H) (hR.2.2.1 _ z1)
  have hlt : j.toNatClampNeg < (cX C).2.1 := Nat.not_le.mp fun q => hi (Or.inr q)
  exact W.iald hc.1 hc.2.1 s1 s2 s3 (by rw [s4]; exact hi) (s5 _ hlt) rfl rfl hdg (kk p e s m args below meth c H locs ls hc hR0 hR hn hu hq hl)
theorem gd_slen (hdg : decode M.2.2.1 pc = .ok (.arraylength, 1)) (kk : Gd C M fr lo h0 o' h' (pc + 1) lv (.int (nI (cX C).2.1) :: st) h) : Gd C M fr lo h0 o' h' pc lv (.ref (cX C).1 :: st) h := by
  intro p e s m args below meth c H locs ls hc hR0 hR hn hu hq hl
  obtain ⟨z1, z2, -⟩ := hc.2.2.2.2.2.2.2.2.2.2.2.2.2.2.2.2.2
  obtain ⟨scr, s1, s2, s3, s4, s5⟩ := z2.kept (H1 := H) (hR.2.2.1 _ z1)
  exact W.alen hc.1 hc.2.1 s1 s2 (by rw [s4]; rfl) rfl rfl hdg (kk p e s m args below meth c H locs ls hc hR0 hR hn hu hq hl)
end GM
