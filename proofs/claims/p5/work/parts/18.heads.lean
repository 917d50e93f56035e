/-! LOOPS: at each head the values of the locals, by a shape (number, 0: int, 1: long, 2: reference) -/
def endL (vs : List SV) (P : Prop) : Prop := match vs with
  | [] => P
  | _ => False
theorem endL_of {vs : List SV} {P : Prop} (h : endL vs P) : vs = [] ∧ P := by
  cases vs with
  | nil => exact ⟨rfl, h⟩
  | cons _ _ => exact h.elim
def svT : SV → Nat
  | .inl _ => 0
  | .inr (.inl _) => 1
  | .inr (.inr _) => 2
def col : List (Nat × Nat) → LV → (List SV → Prop) → Prop
  | [], _, f => f []
  | (i, ty) :: r, lv, f => match lv.lookup i with
    | some v => gd (svT v == ty) (col r lv (fun vs => f (v :: vs)))
    | none => False
theorem col_of : ∀ (sh : List (Nat × Nat)) {lv : LV} {f : List SV → Prop}, col sh lv f → ∃ vs, f vs ∧ ∀ q ∈ (sh.map Prod.fst).zip vs, q ∈ lv
  | [], _, _, h => ⟨[], h, fun _ hq => by cases hq⟩
  | (i, ty) :: r, lv, f, h => by
    unfold col at h
    cases hv : lv.lookup i with
    | none => rw [hv] at h; exact h.elim
    | some v =>
      rw [hv] at h
      obtain ⟨-, h⟩ := gd_of h
      obtain ⟨vs, h1, h2⟩ := col_of r h
      refine ⟨v :: vs, h1, fun q hq => ?_⟩
      rcases List.mem_cons.mp hq with rfl | hq
      · exact lk_mem hv
      · exact h2 q hq
def HDs (shapes : List (Nat × List (Nat × Nat))) (pc : Nat) (lv : LV) (st : List SV) (f : List SV → Prop) : Prop := match st with
  | [] => match shapes.lookup pc with
    | some sh => col sh lv f
    | none => False
  | _ => False
def zipS (shapes : List (Nat × List (Nat × Nat))) (pc : Nat) (vs : List SV) : LV := match shapes.lookup pc with
  | some sh => (sh.map Prod.fst).zip vs
  | none => []
theorem HDs_of {shapes : List (Nat × List (Nat × Nat))} {pc : Nat} {lv : LV} {st : List SV} {f : List SV → Prop} (h : HDs shapes pc lv st f) : st = [] ∧ ∃ vs, f vs ∧ ∀ q ∈ zipS shapes pc vs, q ∈ lv := by
  cases st with
  | cons _ _ => exact h.elim
  | nil =>
    refine ⟨rfl, ?_⟩
    unfold HDs at h
    unfold zipS
    cases hs : shapes.lookup pc with
    | none => rw [hs] at h; exact h.elim
    | some sh => rw [hs] at h; exact col_of sh h
section CH
variable {C : Cx} {d j : Nat} {q : ME} {X : MT} {as : List SV} {t : Ht} {Post : OutT → Ht → Prop}
theorem wg_heads {M : Mi} {t0 : Ht} {Q : OutT → Ht → Prop} {sc : Option (Nat × Nat × (Nat → Int32))} {N : Nat} (shapes : List (Nat × List (Nat × Nat))) (J : Nat → Nat → List SV → Ht → Prop) (hP : PoolOK M.1 X.2.1 mtab mt) (hC : CodeOK M X) (hsc : ∀ s9, sc = some s9 → s9 = cX C)
    (hstep : ∀ n pc vs t', pc ∈ shapes.map Prod.fst → J n pc vs t' → wpc (CalG C mtab d) mt (cS C) (cG C) sc X Q (shapes.map Prod.fst) (fun pc lv st t'' => HDs shapes pc lv st (fun vs => ∃ k, k < n ∧ J k pc vs t'')) N pc (zipS shapes pc vs) [] t') :
    ∀ (n pc : Nat) (vs : List SV) (t' : Ht), pc ∈ shapes.map Prod.fst → J n pc vs t' → WG C M (d + 1) t0 Q pc (zipS shapes pc vs) [] t' := by
  intro n
  induction n using Nat.strongRecOn with
  | _ n ih =>
    intro pc vs t' hpc hi
    refine wpc_sound hP hC hsc ?_ N pc _ _ t' (hstep n pc vs t' hpc hi)
    intro pc2 lv2 st2 t2 hm h2
    obtain ⟨rfl, vs2, ⟨k, hk, hJ⟩, hs⟩ := HDs_of h2
    exact WG.less (ih k hk pc2 vs2 t2 hm hJ) hs
theorem cal_heads {N N' : Nat} (shapes : List (Nat × List (Nat × Nat))) (J : Nat → Nat → List SV → Ht → Prop) (h : MO j q X) (hsz : wgt as ≤ q.2.2.2.1)
    (hw : wpc (CalG C mtab d) mt (cS C) (cG C) none X Post (shapes.map Prod.fst) (fun pc lv st t'' => HDs shapes pc lv st (fun vs => ∃ k, J k pc vs t'')) N 0 (largs 0 as) [] t)
    (hstep : ∀ n pc vs t', pc ∈ shapes.map Prod.fst → J n pc vs t' → wpc (CalG C mtab d) mt (cS C) (cG C) none X Post (shapes.map Prod.fst) (fun pc lv st t'' => HDs shapes pc lv st (fun vs => ∃ k, k < n ∧ J k pc vs t'')) N' pc (zipS shapes pc vs) [] t') : CalG C mtab (d + 1) j as t Post := by
  refine cal_of h hsz ?_ hw
  intro pc lv st t' hm h2
  obtain ⟨rfl, vs2, ⟨k, hJ⟩, hs⟩ := HDs_of h2
  exact WG.less (wg_heads (M := Mof q) shapes J h.2.2.2.1 h.2.2.2.2 (fun _ hz => by cases hz) hstep k pc vs2 t' hm hJ) hs
end CH
