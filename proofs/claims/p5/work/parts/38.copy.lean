/-! ARRAYCOPY -/
def hCpy (h : Hp) (a0 a m : Nat) : Hp := (hN h, hU h, hK h, hL h, fun b j => if b = a then (if j < m then hV h a0 j else hV h a j) else hV h b j)
theorem Rel.upd {C : Cx} {h h2 : Hp} {H H1 : Heap} {a : Nat} (hR : Rel C h H) (e1 : hN h2 = hN h) (e3 : hK h2 = hK h) (e4 : hL h2 = hL h) (e5 : ∀ b, b ≠ a → hV h2 b = hV h b) (hk : hK h a ≠ 0) (hz : H1.size = H.size) (hq : ∀ q, q ≠ a → H1[q]? = H[q]?) (hc : CellOK C h2 H1 a) : Rel C h2 H1 := by
  obtain ⟨r1, r2, r3, r4⟩ := hR
  refine ⟨by rw [hz, r1, e1], by rw [e1]; exact r2, fun q hlt => ?_, fun b hb => ?_⟩
  · have : q ≠ a := fun e => by subst e; exact absurd (r4 q hk).1 (Nat.not_le.mpr hlt)
    rw [hq q this]; exact r3 q hlt
  · rw [e3] at hb
    obtain ⟨q1, q2, q3⟩ := r4 b hb
    refine ⟨q1, by rw [e1]; exact q2, ?_⟩
    by_cases e : b = a
    · subst e; exact hc
    · have k1 := q3.kept (H1 := H1) (hq b e)
      refine ⟨fun z => ?_, fun z1 z2 => ?_⟩
      · rw [e5 b e, e3]; rw [e3] at z; exact k1.1 z
      · rw [e5 b e, e3, e4]; rw [e3] at z1 z2; exact k1.2 z1 z2
section CPY
variable {C : Cx} {M : Mi} {h0 h h' : Hp} {fr lo : Nat} {o' : Out} {pc : Nat} {lv : List (Nat × Value)} {st : List Value}
/-- the words of arraycopy -/
def cpW (M : Mi) (idx : Nat) : Prop := Cond.methodLink M.1 idx arraycopyName ∈ gW ∧ Cond.native arraycopyName ∈ gW ∧ Cond.static arraycopyName ∈ gW ∧ Cond.initialized "java/lang/System" ∈ gW
theorem cpE {tt a0 a m : Nat} (hm : m < 2 ^ 31) (hm0 : m ≤ hL h a0) : copied (arrV (cA C tt) (hL h a0) (hV h a0)) (arrV (cA C tt) (hL h a) (hV h a)) 0 0 (nI m) = arrV (cA C tt) (hL h a) (hV (hCpy h a0 a m) a) := by
  have e := va_copied (fun z : Value => z) (cA C tt) (cA C tt) (n0 := hL h a0) (n1 := hL h a) (sp := 0) (dp := 0) (n := m) (hV h a0) (hV h a) (by omega)
  show (arrV (cA C tt) (hL h a) (hV h a)).storeRun 0 ((arrV (cA C tt) (hL h a0) (hV h a0)).stretch 0 (nI m).toNatClampNeg) = _
  rw [nI_clamp hm]
  refine e.trans ?_
  congr 1
  funext k
  simp [va_cpy, hCpy, hV]
theorem gd_copyI {a0 a m idx : Nat} (hk0 : hK h a0 = 101) (hk1 : hK h a = 101) (hm0 : m ≤ hL h a0) (hm1 : m ≤ hL h a) (hm : m < 2 ^ 31) (hint : ∀ k, ∃ x, hV h a0 k = .int x) (hw : cpW M idx) (hfr : 1 ≤ fr) (hlo : 40 ≤ lo) (hW : (st.map fun v => v.category).sum ≤ 8) (hdg : decode M.2.2.1 pc = .ok (.invokestatic idx, 3))
    (kk : Gd C M fr lo h0 o' h' (pc + 3) lv st (hCpy h a0 a m)) : Gd C M fr lo h0 o' h' pc lv (.int (nI m) :: .int 0 :: .ref a :: .int 0 :: .ref a0 :: st) h := by
  intro p e s m9 args below meth c H locs ls hc hR0 hR hn hu hq hl T hT X
  have hts : ∀ w ∈ gW, w.before args s = true := fun w hw => hc.2.2.2.2.2.2.2.2.1 w hw args
  obtain ⟨w1, w2, w3, w4⟩ := hw
  obtain ⟨hb0, he0, ha0, -⟩ := gd_arr (t := 1) hc.2.2.2.2.2.2.2.2 hR hk0 (by decide)
  obtain ⟨hb1, he1, ha1, -⟩ := gd_arr (t := 1) hc.2.2.2.2.2.2.2.2 hR hk1 (by decide)
  obtain ⟨-, k0, hk0', cm0, hkk0⟩ := ha0 (hL h a0) (hV h a0)
  obtain ⟨-, k1, hk1', cm1, hkk1⟩ := ha1 (hL h a) (hV h a)
  obtain ⟨vm', X', step⟩ := X.arraycopy hc.1 hc.2.2.2.2.2.2.1 (hts _ w1) (hts _ w2) (hts _ w3) (hts _ w4) (src := a0) (dst := a) (cs := arrV (cA C 1) (hL h a0) (hV h a0)) (cd := arrV (cA C 1) (hL h a) (hV h a)) (srcPos := 0) (destPos := 0) (n := nI m) (by rw [hT]; exact he0) (by rw [hT]; exact he1)
    (fun _ h => by cases h) (fun _ h => by cases h) (fun h => by cases h) (fun h => by cases h) hk0' hk1' hkk0 hkk1 rfl (by decide) (by decide) (nI_pos hm)
    (by rw [nI_toInt hm, arrV_size]; show ¬ (0 : Int) + (m : Int) > (hL h a0 : Int); omega) (by rw [nI_toInt hm, arrV_size]; show ¬ (0 : Int) + (m : Int) > (hL h a : Int); omega)
    (fun vm₁ _ i hi => by
      rw [nI_clamp hm] at hi
      obtain ⟨x, hx⟩ := hint i
      have e : (arrV (cA C 1) (hL h a0) (hV h a0)).slots.getD ((0 : Int32).toNatClampNeg + i) .null = .int x := by
        rw [show (0 : Int32).toNatClampNeg + i = i from Nat.zero_add i, Array.getD_eq_getD_getElem?, arrV_read _ _ (by omega), hx]
        rfl
      rw [e]
      exact ⟨rfl, trivial⟩)
    (g := F0 m9 pc ls (.int (nI m) :: .int 0 :: .ref a :: .int 0 :: .ref a0 :: st)) rfl (by rw [hc.2.2.1]; exact hl.1) (rest := st) rfl (by rw [hc.2.1]; exact hdg) hfr (by show 2 * 0 + _ + _ ≤ _; have hw : nativeFrameWords "java/lang/System" "arraycopy" 5 = 7 := (by decide); show 2 * 0 + _ + (nativeFrameWords "java/lang/System" "arraycopy" 5 + 11) ≤ lo; omega)
  rw [cpE hm hm0] at X' step
  have hla : a < H.size := (Array.getElem?_eq_some_iff.mp he1).1
  have hheap : ((T.setVm vm').setCell a (arrV (cA C 1) (hL h a) (hV (hCpy h a0 a m) a))).heap = H.setIfInBounds a (arrV (cA C 1) (hL h a) (hV (hCpy h a0 a m) a)) := by rw [← hT]; rfl
  have oq : ∀ q : Nat, q ≠ a → (H.setIfInBounds a (arrV (cA C 1) (hL h a) (hV (hCpy h a0 a m) a)))[q]? = H[q]? := fun q hq => by simp [Array.getElem?_setIfInBounds, Ne.symm hq]
  have hRn : Rel C (hCpy h a0 a m) (H.setIfInBounds a (arrV (cA C 1) (hL h a) (hV (hCpy h a0 a m) a))) := hR.upd rfl rfl rfl (fun b hb => by funext j; simp [hCpy, hV, hb]) (by rw [hk1]; decide) (by simp) oq
    ⟨fun z => absurd z (by show ¬ hK h a < 100; rw [hk1]; decide), fun _ _ => ⟨by show hK h a - 100 < 6; rw [hk1]; decide, by show _ = some (arrV (cA C (hK h a - 100)) _ _); rw [hk1]; simp [Array.getElem?_setIfInBounds, hla]; rfl⟩⟩
  obtain ⟨t9, a1, b1⟩ := kk p e s m9 args below meth c _ _ ls hc hR0 hRn hn hu (fun z hz => by
      rcases List.mem_append.mp hz with h | h
      · exact hq z h
      · obtain ⟨w, -, hw⟩ := List.mem_map.mp h
        rw [← hw]
        exact hb1) hl _ hheap X'
  exact ⟨t9, step t9 a1, b1⟩
/-- what an array of objects may hold here -/
def elOK (h : Hp) (v : Value) : Prop := v = .null ∨ ∃ (y ci : Nat) (r : vw_C), v = .ref y ∧ vwCl[ci]? = some r ∧ ci < 99 ∧ hK h y = ci + 1 ∧ (r.1, "java/lang/Object") ∈ cWl
theorem gd_copyR {a0 a m idx : Nat} (hk0 : hK h a0 = 103) (hk1 : hK h a = 103) (hm0 : m ≤ hL h a0) (hm1 : m ≤ hL h a) (hm : m < 2 ^ 31) (hel : ∀ k, k < m → elOK h (hV h a0 k)) (hw : cpW M idx) (hfr : 1 ≤ fr) (hlo : 40 ≤ lo) (hW : (st.map fun v => v.category).sum ≤ 8) (hdg : decode M.2.2.1 pc = .ok (.invokestatic idx, 3))
    (kk : Gd C M fr lo h0 o' h' (pc + 3) lv st (hCpy h a0 a m)) : Gd C M fr lo h0 o' h' pc lv (.int (nI m) :: .int 0 :: .ref a :: .int 0 :: .ref a0 :: st) h := by
  intro p e s m9 args below meth c H locs ls hc hR0 hR hn hu hq hl T hT X
  have hts : ∀ w ∈ gW, w.before args s = true := fun w hw => hc.2.2.2.2.2.2.2.2.1 w hw args
  obtain ⟨w1, w2, w3, w4⟩ := hw
  obtain ⟨hb0, he0, ha0, -⟩ := gd_arr (t := 3) hc.2.2.2.2.2.2.2.2 hR hk0 (by decide)
  obtain ⟨hb1, he1, ha1, hra⟩ := gd_arr (t := 3) hc.2.2.2.2.2.2.2.2 hR hk1 (by decide)
  obtain ⟨-, k0, hk0', cm0, hkk0⟩ := ha0 (hL h a0) (hV h a0)
  obtain ⟨-, k1, hk1', cm1, hkk1⟩ := ha1 (hL h a) (hV h a)
  obtain ⟨vm', X', step⟩ := X.arraycopy hc.1 hc.2.2.2.2.2.2.1 (hts _ w1) (hts _ w2) (hts _ w3) (hts _ w4) (src := a0) (dst := a) (cs := arrV (cA C 3) (hL h a0) (hV h a0)) (cd := arrV (cA C 3) (hL h a) (hV h a)) (srcPos := 0) (destPos := 0) (n := nI m) (by rw [hT]; exact he0) (by rw [hT]; exact he1)
    (fun _ h => by cases h) (fun _ h => by cases h) (fun h => by cases h) (fun h => by cases h) hk0' hk1' hkk0 hkk1 rfl (by decide) (by decide) (nI_pos hm)
    (by rw [nI_toInt hm, arrV_size]; show ¬ (0 : Int) + (m : Int) > (hL h a0 : Int); omega) (by rw [nI_toInt hm, arrV_size]; show ¬ (0 : Int) + (m : Int) > (hL h a : Int); omega)
    (fun vm₁ hal i hi => by
      rw [nI_clamp hm] at hi
      have e : (arrV (cA C 3) (hL h a0) (hV h a0)).slots.getD ((0 : Int32).toNatClampNeg + i) .null = hV h a0 i := by
        rw [show (0 : Int32).toNatClampNeg + i = i from Nat.zero_add i, Array.getD_eq_getD_getElem?, arrV_read _ _ (by omega)]
        rfl
      rw [e]
      rcases hel i hi with hv | ⟨y, ci, r, hv, hr, hci, hky, hcw⟩
      · rw [hv]; exact ⟨rfl, trivial⟩
      · rw [hv]
        obtain ⟨-, -, hcell⟩ := hR.2.2.2 y (by rw [hky]; omega)
        obtain ⟨r9, hr9, cellV, g1, g2, g3, -⟩ := hcell.1 (by rw [hky]; omega)
        rw [hky, Nat.add_sub_cancel] at g2
        obtain ⟨-, hfc, kC, hkC, -⟩ := hc.2.2.2.2.2.2.2.2.2.2.1.1 ci _ hr
        have hra' : va_RA s (cA C 3) (.object "java/lang/Object") := hra
        obtain ⟨kA, comp, r1, r2, r3, -⟩ := hra'
        have hk1'' : s.vm.classes[cA C 3]? = some k1 := hk1'
        cases hk1''.symm.trans r1
        cases hkk1.symm.trans r2
        obtain ⟨c3, c4, x1, x2, x3⟩ := hc.2.2.2.2.2.2.2.2.2.2.2.1 _ hcw
        cases Option.some.inj (x1.symm.trans hfc)
        cases Option.some.inj (x2.symm.trans r3)
        obtain ⟨kE, hkE, -⟩ := Vm.findClass_spec r3
        obtain ⟨kC', hkC', -⟩ := hal.2.2 _ _ hkC
        obtain ⟨kE', hkE', -⟩ := hal.2.2 _ _ hkE
        refine ⟨rfl, cellV, (show T.heap[y]? = some cellV by rw [hT]; exact g1), (fun q h => by rw [g3] at h; cases h), ⟨kC', by rw [g2]; exact hkC'⟩, ?_, ?_⟩
        · exact ⟨kE', hkE'⟩
        · show vm₁.assignable _ _ = true
          rw [hal.assignable, g2]
          exact x3)
    (g := F0 m9 pc ls (.int (nI m) :: .int 0 :: .ref a :: .int 0 :: .ref a0 :: st)) rfl (by rw [hc.2.2.1]; exact hl.1) (rest := st) rfl (by rw [hc.2.1]; exact hdg) hfr (by show 2 * 0 + _ + _ ≤ _; have hw : nativeFrameWords "java/lang/System" "arraycopy" 5 = 7 := (by decide); show 2 * 0 + _ + (nativeFrameWords "java/lang/System" "arraycopy" 5 + 11) ≤ lo; omega)
  rw [cpE hm hm0] at X' step
  have hla : a < H.size := (Array.getElem?_eq_some_iff.mp he1).1
  have hheap : ((T.setVm vm').setCell a (arrV (cA C 3) (hL h a) (hV (hCpy h a0 a m) a))).heap = H.setIfInBounds a (arrV (cA C 3) (hL h a) (hV (hCpy h a0 a m) a)) := by rw [← hT]; rfl
  have oq : ∀ q : Nat, q ≠ a → (H.setIfInBounds a (arrV (cA C 3) (hL h a) (hV (hCpy h a0 a m) a)))[q]? = H[q]? := fun q hq => by simp [Array.getElem?_setIfInBounds, Ne.symm hq]
  have hRn : Rel C (hCpy h a0 a m) (H.setIfInBounds a (arrV (cA C 3) (hL h a) (hV (hCpy h a0 a m) a))) := hR.upd rfl rfl rfl (fun b hb => by funext j; simp [hCpy, hV, hb]) (by rw [hk1]; decide) (by simp) oq
    ⟨fun z => absurd z (by show ¬ hK h a < 100; rw [hk1]; decide), fun _ _ => ⟨by show hK h a - 100 < 6; rw [hk1]; decide, by show _ = some (arrV (cA C (hK h a - 100)) _ _); rw [hk1]; simp [Array.getElem?_setIfInBounds, hla]; rfl⟩⟩
  obtain ⟨t9, a1, b1⟩ := kk p e s m9 args below meth c _ _ ls hc hR0 hRn hn hu (fun z hz => by
      rcases List.mem_append.mp hz with h | h
      · exact hq z h
      · obtain ⟨w, -, hw⟩ := List.mem_map.mp h
        rw [← hw]
        exact hb1) hl _ hheap X'
  exact ⟨t9, step t9 a1, b1⟩
end CPY
/-! over the typed heap -/
def cpI (t : Ht) (a0 a m : Nat) : Ht := (tN t, tU t, tK t, tL t, fun b j => if b = a then (if j < m then tI t a0 j else tI t a j) else tI t b j, tJ t, tR t)
def cpR (t : Ht) (a0 a m : Nat) : Ht := (tN t, tU t, tK t, tL t, tI t, tJ t, fun b j => if b = a then (if j < m then tR t a0 j else tR t a j) else tR t b j)
theorem hCpy_I {t : Ht} {a0 a m : Nat} (h0 : tK t a0 = 101) (h1 : tK t a = 101) : hCpy (tv t) a0 a m = tv (cpI t a0 a m) := by
  have e : (fun b j => if b = a then (if j < m then tV t a0 j else tV t a j) else tV t b j) = tV (cpI t a0 a m) := by
    funext b j
    have hk : ∀ q, tK (cpI t a0 a m) q = tK t q := fun _ => rfl
    have hi : tI (cpI t a0 a m) b j = if b = a then (if j < m then tI t a0 j else tI t a j) else tI t b j := rfl
    unfold tV
    rw [hk, hi]
    by_cases e : b = a
    · subst e
      rw [if_pos rfl, if_pos rfl, h0, h1]
      by_cases hj : j < m
      · rw [if_pos hj, if_pos hj]; rfl
      · rw [if_neg hj, if_neg hj]; rfl
    · rw [if_neg e, if_neg e]; rfl
  show (tN t, tU t, tK t, tL t, fun b j => if b = a then (if j < m then tV t a0 j else tV t a j) else tV t b j) = (tN t, tU t, tK t, tL t, tV (cpI t a0 a m))
  rw [e]
theorem hCpy_R {t : Ht} {a0 a m : Nat} (h0 : tK t a0 = 103) (h1 : tK t a = 103) : hCpy (tv t) a0 a m = tv (cpR t a0 a m) := by
  have e : (fun b j => if b = a then (if j < m then tV t a0 j else tV t a j) else tV t b j) = tV (cpR t a0 a m) := by
    funext b j
    have hk : ∀ q, tK (cpR t a0 a m) q = tK t q := fun _ => rfl
    have hi : tR (cpR t a0 a m) b j = if b = a then (if j < m then tR t a0 j else tR t a j) else tR t b j := rfl
    unfold tV
    rw [hk, hi]
    by_cases e : b = a
    · subst e
      rw [if_pos rfl, if_pos rfl, h0, h1]
      by_cases hj : j < m
      · rw [if_pos hj, if_pos hj]; rfl
      · rw [if_neg hj, if_neg hj]; rfl
    · rw [if_neg e, if_neg e]; rfl
  show (tN t, tU t, tK t, tL t, fun b j => if b = a then (if j < m then tV t a0 j else tV t a j) else tV t b j) = (tN t, tU t, tK t, tL t, tV (cpR t a0 a m))
  rw [e]
