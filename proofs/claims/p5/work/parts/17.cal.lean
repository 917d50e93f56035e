/-! A METHOD'S CONTRACT OUT OF ITS WEAKEST PRECONDITION -/
def largs : Nat → List SV → LV
  | _, [] => []
  | i, v :: vs => (i, v) :: largs (if svC v = 2 then i + 2 else i + 1) vs
theorem largs_map : ∀ (as : List SV) (i : Nat), lv_args i (as.map vv) = (largs i as).map fv
  | [], _ => rfl
  | v :: vs, i => by
    have h := largs_map vs (if svC v = 2 then i + 2 else i + 1)
    simp only [List.map_cons, lv_args, largs, vv_cat, h]
    rfl
theorem lg_sl_len : ∀ (as : List SV), (lg_sl (as.map vv)).length = wgt as
  | [] => rfl
  | v :: vs => by
    have h := lg_sl_len vs
    have e := vv_cat v
    by_cases hc : svC v = 2
    · rw [hc] at e
      simp only [List.map_cons, lg_sl, List.flatMap_cons, List.length_append, wgt, List.sum_cons] at h ⊢
      rw [h, if_pos e, hc]; rfl
    · have h1 : svC v = 1 := by
        rcases v with x | x | x
        · rfl
        · exact absurd rfl hc
        · rfl
      rw [h1] at e
      simp only [List.map_cons, lg_sl, List.flatMap_cons, List.length_append, wgt, List.sum_cons] at h ⊢
      rw [h, if_neg (by rw [e]; decide), h1]; rfl
/-- method j of the table, its code and its pool -/
def MO (j : Nat) (q : ME) (X : MT) : Prop := mtab[j]? = some q ∧ plainName q.1.cls = true ∧ xb_Is q.1 q.2.1 q.2.2.1 q.2.2.2.1 q.2.2.2.2.1 q.2.2.2.2.2 ∧ PoolOK q.1.cls X.2.1 mtab mt ∧ CodeOK (Mof q) X
def KI (Inv : Nat → Nat → LV → List SV → Ht → Prop) (n pc : Nat) (lv : LV) (st : List SV) (t : Ht) : Prop := ∃ lv', (∀ q ∈ lv', q ∈ lv) ∧ Inv n pc lv' st t
section CA
variable {C : Cx} {d j : Nat} {q : ME} {X : MT} {as : List SV} {t : Ht} {Post : OutT → Ht → Prop} {cut : List Nat}
theorem WG.less {M : Mi} {t0 : Ht} {Q : OutT → Ht → Prop} {pc : Nat} {lv lv' : LV} {st : List SV} (h : WG C M d t0 Q pc lv' st t) (hs : ∀ q ∈ lv', q ∈ lv) : WG C M d t0 Q pc lv st t := by
  obtain ⟨o, t', h1, h2, h3, h4⟩ := h
  refine ⟨o, t', h1, h2, h3, ?_⟩
  intro p e s m args below meth c H locs ls hc hR0 hR hn hu hq hl
  exact h4 p e s m args below meth c H locs ls hc hR0 hR hn hu hq (lv_less hl (fun z hz => by
    obtain ⟨w, hw, rfl⟩ := List.mem_map.mp hz
    exact List.mem_map.mpr ⟨w, hs w hw, rfl⟩))
theorem cal_of {Kc : Nat → LV → List SV → Ht → Prop} {N : Nat} (h : MO j q X) (hsz : wgt as ≤ q.2.2.2.1) (hKc : ∀ pc lv st t', pc ∈ cut → Kc pc lv st t' → WG C (Mof q) (d + 1) t Post pc lv st t')
    (hw : wpc (CalG C mtab d) mt (cS C) (cG C) none X Post cut Kc N 0 (largs 0 as) [] t) : CalG C mtab (d + 1) j as t Post := by
  obtain ⟨h1, h2, h3, h4, h5⟩ := h
  obtain ⟨o, t1, a1, a2, a3, a4⟩ := wpc_sound (M := Mof q) (t0 := t) h4 h5 (fun _ hz => by cases hz) hKc N 0 _ _ _ hw
  rw [← largs_map] at a4
  exact ⟨q, h1, o, t1, a1, a2, a3, CM_of h2 h3 (by rw [lg_sl_len]; exact hsz) a4⟩
theorem cal_ofN {N : Nat} (h : MO j q X) (hsz : wgt as ≤ q.2.2.2.1) (hw : wpc (CalG C mtab d) mt (cS C) (cG C) none X Post [] (fun _ _ _ _ => False) N 0 (largs 0 as) [] t) : CalG C mtab (d + 1) j as t Post :=
  cal_of h hsz (fun _ _ _ _ hz => by cases hz) hw
theorem wg_loop {M : Mi} {t0 : Ht} {Q : OutT → Ht → Prop} {sc : Option (Nat × Nat × (Nat → Int32))} {N : Nat} {Inv : Nat → Nat → LV → List SV → Ht → Prop} (hP : PoolOK M.1 X.2.1 mtab mt) (hC : CodeOK M X) (hsc : ∀ s9, sc = some s9 → s9 = cX C)
    (hstep : ∀ n pc lv st t', pc ∈ cut → Inv n pc lv st t' → wpc (CalG C mtab d) mt (cS C) (cG C) sc X Q cut (fun pc lv st t'' => ∃ k, k < n ∧ KI Inv k pc lv st t'') N pc lv st t') :
    ∀ (n pc : Nat) (lv : LV) (st : List SV) (t' : Ht), pc ∈ cut → Inv n pc lv st t' → WG C M (d + 1) t0 Q pc lv st t' := by
  intro n
  induction n using Nat.strongRecOn with
  | _ n ih =>
    intro pc lv st t' hpc hi
    refine wpc_sound hP hC hsc ?_ N pc lv st t' (hstep n pc lv st t' hpc hi)
    rintro pc2 lv2 st2 t2 hm ⟨k, hk, lv', hs, hi2⟩
    exact WG.less (ih k hk pc2 lv' st2 t2 hm hi2) hs
theorem cal_loop {N N' : Nat} (Inv : Nat → Nat → LV → List SV → Ht → Prop) (h : MO j q X) (hsz : wgt as ≤ q.2.2.2.1)
    (hw : wpc (CalG C mtab d) mt (cS C) (cG C) none X Post cut (fun pc lv st t'' => ∃ k, KI Inv k pc lv st t'') N 0 (largs 0 as) [] t)
    (hstep : ∀ n pc lv st t', pc ∈ cut → Inv n pc lv st t' → wpc (CalG C mtab d) mt (cS C) (cG C) none X Post cut (fun pc lv st t'' => ∃ k, k < n ∧ KI Inv k pc lv st t'') N' pc lv st t') : CalG C mtab (d + 1) j as t Post := by
  refine cal_of h hsz ?_ hw
  rintro pc lv st t' hm ⟨k, lv', hs, hi⟩
  exact WG.less (wg_loop (M := Mof q) h.2.2.2.1 h.2.2.2.2 (fun _ hz => by cases hz) hstep k pc lv' st t' hm hi) hs
end CA
/-! THE TYPED HEAP, READ -/
theorem ht : (∀ t a k x, tN (sI t a k x) = tN t) ∧ (∀ t a k x, tU (sI t a k x) = tU t) ∧ (∀ t a k x, tK (sI t a k x) = tK t) ∧ (∀ t a k x, tL (sI t a k x) = tL t) ∧ (∀ t a k x, tJ (sI t a k x) = tJ t) ∧ (∀ t a k x, tR (sI t a k x) = tR t) ∧
    (∀ t a k x, tN (sJ t a k x) = tN t) ∧ (∀ t a k x, tU (sJ t a k x) = tU t) ∧ (∀ t a k x, tK (sJ t a k x) = tK t) ∧ (∀ t a k x, tL (sJ t a k x) = tL t) ∧ (∀ t a k x, tI (sJ t a k x) = tI t) ∧ (∀ t a k x, tR (sJ t a k x) = tR t) ∧
    (∀ t a k x, tN (sR t a k x) = tN t) ∧ (∀ t a k x, tU (sR t a k x) = tU t) ∧ (∀ t a k x, tK (sR t a k x) = tK t) ∧ (∀ t a k x, tL (sR t a k x) = tL t) ∧ (∀ t a k x, tI (sR t a k x) = tI t) ∧ (∀ t a k x, tJ (sR t a k x) = tJ t) ∧
    (∀ t a k x b j, tI (sI t a k x) b j = if b = a ∧ j = k then x else tI t b j) ∧ (∀ t a k x b j, tJ (sJ t a k x) b j = if b = a ∧ j = k then x else tJ t b j) ∧ (∀ t a k x b j, tR (sR t a k x) b j = if b = a ∧ j = k then x else tR t b j) ∧
    (∀ t kd l u, tN (tNew t kd l u) = tN t + 1) ∧ (∀ t kd l u, tU (tNew t kd l u) = tU t + u) ∧ (∀ t kd l u b, tK (tNew t kd l u) b = if b = tN t then kd else tK t b) ∧ (∀ t kd l u b, tL (tNew t kd l u) b = if b = tN t then l else tL t b) ∧
    (∀ t kd l u b j, tI (tNew t kd l u) b j = if b = tN t then 0 else tI t b j) ∧ (∀ t kd l u b j, tJ (tNew t kd l u) b j = if b = tN t then 0 else tJ t b j) ∧ (∀ t kd l u b j, tR (tNew t kd l u) b j = if b = tN t then none else tR t b j) := by
  refine ⟨fun _ _ _ _ => rfl, fun _ _ _ _ => rfl, fun _ _ _ _ => rfl, fun _ _ _ _ => rfl, fun _ _ _ _ => rfl, fun _ _ _ _ => rfl, fun _ _ _ _ => rfl, fun _ _ _ _ => rfl, fun _ _ _ _ => rfl, fun _ _ _ _ => rfl, fun _ _ _ _ => rfl, fun _ _ _ _ => rfl, fun _ _ _ _ => rfl, fun _ _ _ _ => rfl, fun _ _ _ _ => rfl, fun _ _ _ _ => rfl, fun _ _ _ _ => rfl, fun _ _ _ _ => rfl,
    fun _ _ _ _ _ _ => rfl, fun _ _ _ _ _ _ => rfl, fun _ _ _ _ _ _ => rfl, fun _ _ _ _ => rfl, fun _ _ _ _ => rfl, fun _ _ _ _ _ => rfl, fun _ _ _ _ _ => rfl, fun t kd l u b j => ?_, fun t kd l u b j => ?_, fun t kd l u b j => ?_⟩
  · show up1 (tI t) (tN t) (fun _ => 0) b j = _; unfold up1; split <;> rfl
  · show up1 (tJ t) (tN t) (fun _ => 0) b j = _; unfold up1; split <;> rfl
  · show up1 (tR t) (tN t) (fun _ => none) b j = _; unfold up1; split <;> rfl
