/-! ArrayList.add, get, size -/
section AD
variable {C : Cx} {d : Nat} {Post : OutT → Ht → Prop} {t : Ht} {a : Nat}
section MC
variable {M : Mi} {h0 h h' : Hp} {fr lo : Nat} {o' : Out} {pc : Nat} {lv : List (Nat × Value)} {st : List Value}
theorem gd_getMod {a : Nat} (w1 : Cond.fieldLink M.1 63 "java/util/ArrayList" "modCount" "I" ∈ gW) (hk : hK h a = 1) (hdg : decode M.2.2.1 pc = .ok (.getfield 63, 3)) (kk : Gd C M fr lo h0 o' h' (pc + 3) lv (hV h a 0 :: st) h) : Gd C M fr lo h0 o' h' pc lv (.ref a :: st) h := by
  intro p e s m args below meth c H locs ls hc hR0 hR hn hu hL hl
  obtain ⟨hr, hin, -, -, -⟩ := cl0
  have hts : ∀ w ∈ gW, w.before args s = true := fun w hw => hc.2.2.2.2.2.2.2.2.1 w hw args
  obtain ⟨-, -, hcell⟩ := hR.2.2.2 a (by rw [hk]; decide)
  obtain ⟨r9, hr9, hob⟩ := hcell.1 (by rw [hk]; decide)
  rw [hk] at hr9 hob
  cases hr.symm.trans hr9
  obtain ⟨cell, q1, q2, q3, q4⟩ := hob
  obtain ⟨hS, hfc, kC, hkC, hkind⟩ := hc.2.2.2.2.2.2.2.2.2.2.1.1 0 _ hr
  obtain ⟨cf, kf, fi, f, hi, hsl⟩ := hS 0 (by decide)
  have hst := (u_facts hfc hkC (u_lays hts hin (k := 0) (by decide)) hi).1
  have hv : cell.slots[f.slot]? = some (hV h a 0) := by rw [hsl]; exact q4 0 (by decide)
  have hi' := u_same (hts _ (gw (w := Cond.sameField "java/util/ArrayList" "java/util/AbstractList" "modCount" "I") (tw2 (i := 90) rfl) rfl)) _ hi
  exact W.getf hc.1 hc.2.1 hc.2.2.2.2.2.2.1 (hts _ w1) hi' hst q1 (by rw [q3]; exact fun h => by cases h) hv rfl rfl hdg (kk p e s m args below meth c H locs ls hc hR0 hR hn hu hL hl)
theorem gd_putMod {a : Nat} {x : Int32} (w1 : Cond.fieldLink M.1 63 "java/util/ArrayList" "modCount" "I" ∈ gW) (hk : hK h a = 1) (hdg : decode M.2.2.1 pc = .ok (.putfield 63, 3)) (kk : Gd C M fr lo h0 o' h' (pc + 3) lv st (hSet h a 0 (.int x))) : Gd C M fr lo h0 o' h' pc lv (.int x :: .ref a :: st) h := by
  intro p e s m args below meth c H locs ls hc hR0 hR hn hu hL hl
  obtain ⟨hr, hin, hty0, hnm, -⟩ := cl0
  have hts : ∀ w ∈ gW, w.before args s = true := fun w hw => hc.2.2.2.2.2.2.2.2.1 w hw args
  have hk0 : hK h a ≠ 0 := by rw [hk]; decide
  obtain ⟨hba, -, hcell⟩ := hR.2.2.2 a hk0
  obtain ⟨r9, hr9, hob⟩ := hcell.1 (by rw [hk]; decide)
  rw [hk] at hr9 hob
  cases hr.symm.trans hr9
  obtain ⟨cell, q1, q2, q3, q4⟩ := hob
  have hKK := hc.2.2.2.2.2.2.2.2.2.2.1
  have hap := va_apart (own := M.1) hts hin _ hty0 hnm hKK hr
  obtain ⟨hS, hfc, kC, hkC, hkind⟩ := hKK.1 0 _ hr
  obtain ⟨cf, kf, fi, f, hi, hsl⟩ := hS 0 (by decide)
  have hlay := hts _ (hin _ (u_in_lay (k := 0) (by decide)))
  unfold u_lay at hlay
  rw [if_neg (by decide)] at hlay
  have hst := (u_facts hfc hkC (u_lays hts hin (k := 0) (by decide)) hi).1
  have hslot : f.slot < cell.slots.size := by rw [hsl]; exact k2_hasslot (q4 0 (by decide))
  have h6 := u_store hfc hkC hkind hlay hi (hty0 0 (by decide)) (v := .int x) rfl rfl
  have hi' := u_same (hts _ (gw (w := Cond.sameField "java/util/ArrayList" "java/util/AbstractList" "modCount" "I") (tw2 (i := 90) rfl) rfl)) _ hi
  refine W.putK hc.1 hc.2.1 (f := f) ⟨hc.2.2.2.2.2.2.1, hts _ w1, ⟨_, _, _, hi'⟩, hst⟩ (by rw [q2]; exact h6) q1 q3 hslot rfl rfl hdg ?_
  intro H' e1 e2 e3
  refine kk p e s m args below meth c H' _ ls hc hR0 (hR.put hk0 e2 e3 ⟨fun _ => ⟨(RJx4a65c, TJx4a65c, 3), ?_, ?_⟩, fun z => ?_⟩) hn hu (fun z hz => ?_) hl
  · show vwCl[hK h a - 1]? = some _
    rw [hk]; exact hr
  · show t_OB a (cC C (hK h a - 1)) _ (cI C (hK h a - 1)) H' _
    rw [hk]
    rw [hsl] at e1
    refine t_OB.to (V := updV (hV h a) 0 (.int x)) ⟨_, e1, q2, q3, t_set q4 hap (by decide) (.int x)⟩ (fun j _ => ?_)
    simp [updV, hSet, hV]
  · exact absurd z (by show ¬ 100 ≤ hK h a; rw [hk]; decide)
  · rcases List.mem_append.mp hz with z | z
    · exact hL _ z
    · rw [List.mem_singleton.mp z]; exact hba
end MC
theorem s269 (hk : tK t a = 1) (k : Post (.inl (some (svI (tI t a 2)))) t) : CalG C mtab (d + 1) 269 [svR (some a)] t Post := cal269 ⟨hk, k⟩
theorem s270 {e i : Nat} (hk : tK t a = 1) (hr : tR t a 1 = some e) (hke : tK t e = 103) (hi : i < tL t e) (hl : tL t e < 2 ^ 31) (k : Post (.inl (some (svR (tR t e i)))) t) : CalG C mtab (d + 1) 270 [svR (some a), svI (nI i)] t Post := by
  refine cal270 ⟨hk, ?_⟩
  rw [hr]
  refine ⟨by rw [hke]; decide, by rw [hke]; decide, vp_in_nI hi hl, ?_⟩
  rw [nI_clamp (by omega)]
  exact k
theorem s271 {e i m : Nat} (hk : tK t a = 1) (hr : tR t a 1 = some e) (hke : tK t e = 103) (hn : tI t a 2 = nI m) (him : i < m) (hm : m ≤ tL t e) (hl : tL t e < 2 ^ 31) (k : Post (.inl (some (svR (tR t e i)))) t) : CalG C mtab (d + 3) 271 [svR (some a), svI (nI i)] t Post := by
  refine cal271 ⟨hk, ?_⟩
  rw [hn]
  exact cal277 (s280 him (by omega) ⟨hk, s270 hk hr hke (by omega) hl k⟩)
theorem s268a (ha : a < tN t) (hk : tK t a = 1) (hz : tI t a 2 = 0) (hr : tR t a 1 = cG C 2) (k : Post (.inl (some (svR (some (tN t))))) (sR (tNew t 103 10 10) a 1 (some (tN t)))) : CalG C mtab (d + 3) 268 [svR (some a)] t Post := by
  refine cal268 ⟨hk, hk, ?_⟩
  rw [hz]
  exact s267a ha hk hr k
theorem s268b {e c : Nat} (ha : a < tN t) (hk : tK t a = 1) (hz : tI t a 2 = nI c) (hr : tR t a 1 = some e) (he : e < tN t) (hke : tK t e = 103) (hl : tL t e = c) (hc : 10 ≤ c) (hc2 : c ≤ 30000000) (hel : ∀ j, j < c → ∃ y, tR t e j = some y ∧ y < tN t ∧ kE (tK t y))
    (k : Post (.inl (some (svR (some (tN t))))) (sR (cpR (tNew t 103 (c + c / 2) (c + c / 2)) e (tN t) c) a 1 (some (tN t)))) : CalG C mtab (d + 5) 268 [svR (some a)] t Post := by
  refine cal268 ⟨hk, hk, ?_⟩
  rw [hz, nI_1]
  exact s267b ha hk hr he hke hl hc hc2 hel k
theorem okA_of {x : Nat} (h : kE (tK t x)) : okA 103 (tK t x) := Or.inr (Or.inr ⟨rfl, h⟩)
set_option maxRecDepth 20000 in
theorem s272b {e c n x : Nat} (hk : tK t a = 1) (hr : tR t a 1 = some e) (hne : a ≠ e) (hke : tK t e = 103) (hl : tL t e = c) (hn : n < c) (hc2 : c ≤ 30000000) (hx : kE (tK t x)) (k : Post (.inl none) (sI (sR t e n (some x)) a 2 (nI (n + 1)))) : CalG C mtab (d + 6) 272 [svR (some a), svR (some x), svR (some e), svI (nI n)] t Post := by
  refine cal_WG mo272 (Nat.le_of_ble_eq_true rfl) ?_
  refine wseg (X := X272) [] 20 pj5_ok X272_ok ?_
  refine ⟨by rw [hke]; decide, by rw [hke]; decide, fun q => ?_, fun _ => ⟨by rw [hke]; decide, by rw [hke]; decide, ?_, ?_, ?_⟩⟩
  · rw [hl] at q; exact absurd ((nI_eq (by omega) (by omega)).mp q) (by omega)
  · rw [hl]; exact vp_in_nI hn (by omega)
  · show okA (tK t e) (tK t x)
    rw [hke]; exact okA_of hx
  · refine ⟨hk, ?_⟩
    rw [nI_clamp (by omega)]
    show Post (.inl none) (sI (sR t e n (some x)) a 2 (nI n + 1))
    rw [nI_1]
    exact k
end AD
