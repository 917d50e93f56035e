/-! every instruction -/
section S2
variable {C : Cx} {M : Mi} {X : MT} {mtab : List ME} {mt : List (Nat × Nat × Nat)} {d : Nat} {t0 t : Ht} {Q : OutT → Ht → Prop} {K : Nat → LV → List SV → Ht → Prop} {pc len : Nat} {lv : LV} {st : List SV} {sc : Option (Nat × Nat × (Nat → Int32))}
theorem tV_of {t : Ht} {a k n : Nat} (h : slN (tK t a) k = n) : tV t a k = vv (rdS t a k n) := by
  unfold tV rdS
  rw [h]
  match n with
  | 0 => rfl
  | 1 => rfl
  | n + 2 => rfl
theorem slN_obj {kd ci k : Nat} (h : kd = ci + 1) (hci : ci < 17) : slN kd k = tyN (fTy ci k) := by
  unfold slN
  rw [if_pos (by omega), h, Nat.add_sub_cancel]
theorem dflt_ok {ty : FieldType} (h : noFl ty = true) : defaultValue ty = dV (tyN ty) := by
  cases ty <;> first | rfl | (cases h)
theorem gd_of {b : Bool} {P : Prop} (h : gd b P) : b = true ∧ P := by
  cases b with
  | true => exact ⟨rfl, h⟩
  | false => exact h.elim
theorem okJ_of {ty : FieldType} {x : Int32} {P : Prop} (h : okJ ty x P) : okI ty x ∧ P := by
  cases ty <;> first | (exact ⟨trivial, h⟩) | (exact ⟨h.1, h.2⟩) | (exact h.elim)
theorem emp_of {α : Type} {l : List α} (h : l.isEmpty = true) : l = [] := List.isEmpty_iff.mp h
/-- caught here, or out -/
theorem exc_sound (hC : CodeOK M X) (hK : ∀ pc lv st t, K pc lv st t → WG C M d t0 Q pc lv st t) {kd a : Nat} {st : List Value} (h : exc X Q K pc lv t kd a) :
    ∃ (o : OutT) (t' : Ht), Q o t' ∧ tN t ≤ tN t' ∧ tU t ≤ tU t' ∧ Gx C M (frD d) (loD d) (tv t0) (oo o) (tv t') pc (lv.map fv) st (tv t) kd a := by
  unfold exc at h
  rcases hC.2.2.2.1 with ⟨h1, h2⟩ | ⟨s, e, hpc, ct, kd', h1, h2, h3, h4⟩
  · rw [h2] at h
    exact ⟨_, t, h, Nat.le_refl _, Nat.le_refl _, gx_out (by rw [h1]; intro q hq; cases hq)⟩
  · rw [h2] at h
    dsimp only at h
    by_cases hcov : s ≤ pc ∧ pc < e
    · rw [if_pos hcov] at h
      obtain ⟨rfl, h⟩ := h
      rcases h4 with ⟨rfl, hw⟩ | ⟨e9, he9, rfl, hw⟩
      · rw [if_pos rfl] at h
        obtain ⟨o, t', q1, q2, q3, q4⟩ := hK _ _ _ _ h
        exact ⟨o, t', q1, q2, q3, gx_catch16 h1 hcov.1 hcov.2 h3 hw q4⟩
      · rw [if_neg (by omega)] at h
        split at h
        · rename_i k l9 heq
          obtain ⟨z1, z2, z3, -⟩ := hC.1 _ _ _ heq
          simp only [ilenOK, beq_iff_eq] at z2
          subst z2
          obtain ⟨o, t', q1, q2, q3, q4⟩ := hK _ _ _ _ h
          refine ⟨o, t', q1, q2, q3, gx_catchX (k := k.val) he9 h1 hcov.1 hcov.2 h3 hw (by simpa [stoOK] using z3) (Or.inl ⟨k, z1, rfl, rfl⟩) ?_⟩
          rw [fmap_filter (p := fun q => !(q.1 == k.val) && !(q.1 + 1 == k.val && svC q.2 == 2)) (fun q => by rw [← vv_cat]; rfl)]
          exact q4
        · rename_i k l9 heq
          obtain ⟨z1, z2, z3, -⟩ := hC.1 _ _ _ heq
          simp only [ilenOK, beq_iff_eq] at z2
          subst z2
          obtain ⟨o, t', q1, q2, q3, q4⟩ := hK _ _ _ _ h
          refine ⟨o, t', q1, q2, q3, gx_catchX (k := k) he9 h1 hcov.1 hcov.2 h3 hw (by simpa [stoOK] using z3) (Or.inr ⟨z1, rfl⟩) ?_⟩
          rw [fmap_filter (p := fun q => !(q.1 == k) && !(q.1 + 1 == k && svC q.2 == 2)) (fun q => by rw [← vv_cat]; rfl)]
          exact q4
        · exact h.elim
    · rw [if_neg hcov] at h
      exact ⟨_, t, h, Nat.le_refl _, Nat.le_refl _, gx_out (by rw [h1]; intro q hq; rw [List.mem_singleton.mp hq]; exact hcov)⟩
theorem retK_of {rk : Nat} {v : Option SV} {f : List SV → Prop} (h : retK rk v f) : f v.toList := by
  unfold retK at h
  split at h
  · obtain ⟨rfl, h⟩ := h; exact h
  · unfold rI at h; split at h
    · exact h
    · exact h.elim
  · unfold rJ at h; split at h
    · exact h
    · exact h.elim
  · unfold rR at h; split at h
    · exact h
    · exact h.elim
theorem aft_sound {rk : Nat} (hC : CodeOK M X) (hK : ∀ pc lv st t, K pc lv st t → WG C M d t0 Q pc lv st t) {o1 : OutT} (h : aft X Q K rk pc lv st o1 t) :
    ∃ (o : OutT) (t' : Ht), Q o t' ∧ tN t ≤ tN t' ∧ tU t ≤ tU t' ∧ Aft C M (frD d) (loD d) (tv t0) (oo o) (tv t') pc (lv.map fv) (st.map vv) (oo o1) (tv t) := by
  cases o1 with
  | inl v =>
    have h := retK_of (f := fun l => K (pc + 3) lv (l ++ st) t) h
    obtain ⟨o, t', q1, q2, q3, q4⟩ := hK _ _ _ _ h
    refine ⟨o, t', q1, q2, q3, ?_⟩
    cases v with
    | none => exact q4
    | some v => exact q4
  | inr x => exact exc_sound hC hK h
theorem gW_byte : Cond.arrayClass (aT 0) ∈ gW := List.mem_filter.mpr ⟨by decide +kernel, by decide +kernel⟩
theorem gW_int : Cond.arrayClass (aT 1) ∈ gW := List.mem_filter.mpr ⟨by decide +kernel, by decide +kernel⟩
theorem gW_long : Cond.arrayClass (aT 2) ∈ gW := List.mem_filter.mpr ⟨by decide +kernel, by decide +kernel⟩
set_option maxHeartbeats 4000000 in
theorem st1_sound (hP : PoolOK M.1 X.2.1 mtab mt) (hC : CodeOK M X) (hK : ∀ pc lv st t, K pc lv st t → WG C M (d + 1) t0 Q pc lv st t) {i : Instr} (hi : X.1.lookup pc = some (i, len))
    (hsc : ∀ s9, sc = some s9 → s9 = cX C) (h : st1 (CalG C mtab d) mt (cS C) (cG C) sc X Q K i len pc lv st t) : WG C M (d + 1) t0 Q pc lv st t := by
  obtain ⟨hdg, hl, hs, htg⟩ := hC.1 pc i len hi
  cases i with
  | aconst_null =>
    simp only [ilenOK, beq_iff_eq] at hl; subst hl
    exact wg_step (st' := svR none :: st) (fun hx hb _ k => lv_null hx hb hdg k) (hK _ _ _ _ h)
  | iconst n =>
    simp only [ilenOK, beq_iff_eq] at hl; subst hl
    exact wg_step (st' := svI _ :: st) (fun hx hb _ k => lv_iconst hx hb hdg rfl k) (hK _ _ _ _ h)
  | bipush n =>
    simp only [ilenOK, beq_iff_eq] at hl; subst hl
    exact wg_step (st' := svI _ :: st) (fun hx hb _ k => lv_bipush hx hb hdg rfl k) (hK _ _ _ _ h)
  | sipush n =>
    simp only [ilenOK, beq_iff_eq] at hl; subst hl
    exact wg_step (st' := svI _ :: st) (fun hx hb _ k => lv_sipush hx hb hdg rfl k) (hK _ _ _ _ h)
  | lconst n =>
    simp only [ilenOK, beq_iff_eq] at hl; subst hl
    exact wg_step (st' := svJ _ :: st) (fun hx hb _ k => lv_lconst hx hb hdg rfl k) (hK _ _ _ _ h)
  | ldc idx =>
    simp only [ilenOK, beq_iff_eq] at hl; subst hl
    simp only [st1] at h
    split at h
    · rename_i v heq
      exact wg_stepC (st' := svI v :: st) (fun hx hb ho ht k => lv_ldc hx hb ho (ht _ (hP.2.2.2.1 idx v heq)) hdg k) (hK _ _ _ _ h)
    · split at h
      · rename_i n heq
        obtain ⟨tx, htx⟩ := hP.2.2.2.2.2.1 idx n heq
        obtain ⟨o, t', q1, q2, q3, q4⟩ := hK _ _ _ _ h
        exact ⟨o, t', q1, q2, q3, gd_ldcS htx hdg q4⟩
      · exact h.elim
  | ldc_w idx =>
    simp only [ilenOK, beq_iff_eq] at hl; subst hl
    simp only [st1] at h
    split at h
    · rename_i v heq
      exact wg_stepC (st' := svI v :: st) (fun hx hb ho ht k => lv_ldcw hx hb ho (ht _ (hP.2.2.2.1 idx v heq)) hdg k) (hK _ _ _ _ h)
    · split at h
      · rename_i n heq
        obtain ⟨tx, htx⟩ := hP.2.2.2.2.2.1 idx n heq
        obtain ⟨o, t', q1, q2, q3, q4⟩ := hK _ _ _ _ h
        exact ⟨o, t', q1, q2, q3, gd_ldcSW htx hdg q4⟩
      · exact h.elim
  | ldc2_w idx =>
    simp only [ilenOK, beq_iff_eq] at hl; subst hl
    simp only [st1] at h
    split at h
    · rename_i v heq
      exact wg_stepC (st' := svJ v :: st) (fun hx hb ho ht k => lv_ldc2 hx hb ho (ht _ (hP.2.2.2.2.1 idx v heq)) hdg k) (hK _ _ _ _ h)
    · exact h.elim
  | iload k =>
    simp only [ilenOK, beq_iff_eq] at hl; subst hl
    simp only [st1] at h
    split at h
    · rename_i x heq
      exact wg_step (st' := svI x :: st) (fun hx hb hv k => lv_iload hx hb hdg (lk_at heq hv) k) (hK _ _ _ _ h)
    · exact h.elim
  | iload_n k =>
    simp only [ilenOK, beq_iff_eq] at hl; subst hl
    simp only [st1] at h
    split at h
    · rename_i x heq
      exact wg_step (st' := svI x :: st) (fun hx hb hv k => lv_iload_n hx hb hdg rfl (lk_at heq hv) k) (hK _ _ _ _ h)
    · exact h.elim
  | lload k =>
    simp only [ilenOK, beq_iff_eq] at hl; subst hl
    simp only [st1] at h
    split at h
    · rename_i x heq
      exact wg_step (st' := svJ x :: st) (fun hx hb hv k => lv_lload hx hb hdg (lk_at heq hv) k) (hK _ _ _ _ h)
    · exact h.elim
  | lload_n k =>
    simp only [ilenOK, beq_iff_eq] at hl; subst hl
    simp only [st1] at h
    split at h
    · rename_i x heq
      exact wg_step (st' := svJ x :: st) (fun hx hb hv k => lv_lload_n hx hb hdg rfl (lk_at heq hv) k) (hK _ _ _ _ h)
    · exact h.elim
  | aload k =>
    simp only [ilenOK, beq_iff_eq] at hl; subst hl
    simp only [st1] at h
    split at h
    · rename_i x heq
      cases x with
      | none => exact wg_step (st' := svR none :: st) (fun hx hb hv k => lv_aloadN hx hb hdg (lk_at heq hv) k) (hK _ _ _ _ h)
      | some a => exact wg_step (st' := svR (some a) :: st) (fun hx hb hv k => lv_aload hx hb hdg (lk_at heq hv) k) (hK _ _ _ _ h)
    · exact h.elim
  | aload_n k =>
    simp only [ilenOK, beq_iff_eq] at hl; subst hl
    simp only [st1] at h
    split at h
    · rename_i x heq
      cases x with
      | none => exact wg_step (st' := svR none :: st) (fun hx hb hv k => lv_aload_nN hx hb hdg rfl (lk_at heq hv) k) (hK _ _ _ _ h)
      | some a => exact wg_step (st' := svR (some a) :: st) (fun hx hb hv k => lv_aload_n hx hb hdg rfl (lk_at heq hv) k) (hK _ _ _ _ h)
    · exact h.elim
  | istore k =>
    simp only [ilenOK, beq_iff_eq] at hl; subst hl
    obtain ⟨x, r, rfl, h⟩ := popI_of h
    exact wg_stepL (st' := r) (lv' := lset1 lv k (svI x)) (fun hx hb hv kk => lv_istore hx hb hdg hv (by simpa [stoOK] using hs) (lset1_map (v := svI x)) kk) (hK _ _ _ _ h)
  | istore_n k =>
    simp only [ilenOK, beq_iff_eq] at hl; subst hl
    obtain ⟨x, r, rfl, h⟩ := popI_of h
    exact wg_stepL (st' := r) (lv' := lset1 lv k.val (svI x)) (fun hx hb hv kk => lv_istore_n hx hb hdg rfl hv (by simpa [stoOK] using hs) (lset1_map (v := svI x)) kk) (hK _ _ _ _ h)
  | lstore k =>
    simp only [ilenOK, beq_iff_eq] at hl; subst hl
    obtain ⟨x, r, rfl, h⟩ := popJ_of h
    exact wg_stepL (st' := r) (lv' := lset2 lv k (svJ x)) (fun hx hb hv kk => lv_lstore hx hb hdg hv (by simpa [stoOK] using hs) (lset2_map (v := svJ x)) kk) (hK _ _ _ _ h)
  | lstore_n k =>
    simp only [ilenOK, beq_iff_eq] at hl; subst hl
    obtain ⟨x, r, rfl, h⟩ := popJ_of h
    exact wg_stepL (st' := r) (lv' := lset2 lv k.val (svJ x)) (fun hx hb hv kk => lv_lstore_n hx hb hdg rfl hv (by simpa [stoOK] using hs) (lset2_map (v := svJ x)) kk) (hK _ _ _ _ h)
  | astore k =>
    simp only [ilenOK, beq_iff_eq] at hl; subst hl
    obtain ⟨x, r, rfl, h⟩ := popR_of h
    cases x with
    | none => exact wg_stepL (st' := r) (lv' := lset1 lv k (svR none)) (fun hx hb hv kk => lv_astoreN hx hb hdg hv (by simpa [stoOK] using hs) (lset1_map (v := svR none)) kk) (hK _ _ _ _ h)
    | some a => exact wg_stepL (st' := r) (lv' := lset1 lv k (svR (some a))) (fun hx hb hv kk => lv_astore hx hb hdg hv (by simpa [stoOK] using hs) (lset1_map (v := svR (some a))) kk) (hK _ _ _ _ h)
  | astore_n k =>
    simp only [ilenOK, beq_iff_eq] at hl; subst hl
    obtain ⟨x, r, rfl, h⟩ := popR_of h
    cases x with
    | none => exact wg_stepL (st' := r) (lv' := lset1 lv k.val (svR none)) (fun hx hb hv kk => lv_astore_nN hx hb hdg rfl hv (by simpa [stoOK] using hs) (lset1_map (v := svR none)) kk) (hK _ _ _ _ h)
    | some a => exact wg_stepL (st' := r) (lv' := lset1 lv k.val (svR (some a))) (fun hx hb hv kk => lv_astore_n hx hb hdg rfl hv (by simpa [stoOK] using hs) (lset1_map (v := svR (some a))) kk) (hK _ _ _ _ h)
  | iinc k n =>
    simp only [ilenOK, beq_iff_eq] at hl; subst hl
    simp only [st1] at h
    split at h
    · rename_i x heq
      obtain ⟨pl, hpl⟩ := List.getElem?_of_mem (List.mem_map_of_mem (f := fv) (lk_mem heq))
      exact wg_stepL (st' := st) (lv' := lset1 lv k (svI (x + Int32.ofInt n))) (fun hx hb hv kk => lv_iinc hx hb hdg hv hpl rfl (by simpa [stoOK] using hs) (lset1_map (v := svI (x + Int32.ofInt n))) kk) (hK _ _ _ _ h)
    · exact h.elim
  | pop =>
    simp only [ilenOK, beq_iff_eq] at hl; subst hl
    simp only [st1] at h
    cases st with
    | nil => exact h.elim
    | cons v r =>
      obtain ⟨g1, g2⟩ := gd_of h
      exact wg_step (st' := r) (fun hx hb _ k => lv_pop hx hb hdg (svC_cat (by simpa using g1)) k) (hK _ _ _ _ g2)
  | pop2 =>
    simp only [ilenOK, beq_iff_eq] at hl; subst hl
    obtain ⟨y, r, rfl, h⟩ := popJ_of h
    exact wg_step (st' := r) (fun hx hb _ k => lv_pop2_2 (va := .long y) hx hb hdg rfl k) (hK _ _ _ _ h)
  | dup =>
    simp only [ilenOK, beq_iff_eq] at hl; subst hl
    simp only [st1] at h
    cases st with
    | nil => exact h.elim
    | cons v r =>
      obtain ⟨g1, g2⟩ := gd_of h
      exact wg_step (st' := v :: v :: r) (fun hx hb _ k => lv_dup hx hb hdg (svC_cat (by simpa using g1)) k) (hK _ _ _ _ g2)
  | dup2 =>
    simp only [ilenOK, beq_iff_eq] at hl; subst hl
    simp only [st1] at h
    split at h
    · rename_i y r
      exact wg_step (st' := svJ y :: svJ y :: r) (fun hx hb _ k => lv_dup2_2 (va := .long y) hx hb hdg rfl k) (hK _ _ _ _ h)
    · rename_i v w r _
      obtain ⟨g1, g2⟩ := gd_of h
      rw [Bool.and_eq_true] at g1
      exact wg_step (st' := v :: w :: v :: w :: r) (fun hx hb _ k => lv_dup2_11 hx hb hdg (svC_cat (by simpa using g1.1)) (svC_cat (by simpa using g1.2)) k) (hK _ _ _ _ g2)
    · exact h.elim
  | iadd =>
    simp only [ilenOK, beq_iff_eq] at hl; subst hl
    obtain ⟨y, r, rfl, h⟩ := popI_of h
    obtain ⟨x, r, rfl, h⟩ := popI_of h
    exact wg_step (st' := svI (x + y) :: r) (fun hx hb _ k => lv_iadd hx hb hdg k) (hK _ _ _ _ h)
  | isub =>
    simp only [ilenOK, beq_iff_eq] at hl; subst hl
    obtain ⟨y, r, rfl, h⟩ := popI_of h
    obtain ⟨x, r, rfl, h⟩ := popI_of h
    exact wg_step (st' := svI (x - y) :: r) (fun hx hb _ k => lv_isub hx hb hdg k) (hK _ _ _ _ h)
  | imul =>
    simp only [ilenOK, beq_iff_eq] at hl; subst hl
    obtain ⟨y, r, rfl, h⟩ := popI_of h
    obtain ⟨x, r, rfl, h⟩ := popI_of h
    exact wg_step (st' := svI (x * y) :: r) (fun hx hb _ k => lv_imul hx hb hdg k) (hK _ _ _ _ h)
  | iand =>
    simp only [ilenOK, beq_iff_eq] at hl; subst hl
    obtain ⟨y, r, rfl, h⟩ := popI_of h
    obtain ⟨x, r, rfl, h⟩ := popI_of h
    exact wg_step (st' := svI (x &&& y) :: r) (fun hx hb _ k => lv_iand hx hb hdg k) (hK _ _ _ _ h)
  | ior =>
    simp only [ilenOK, beq_iff_eq] at hl; subst hl
    obtain ⟨y, r, rfl, h⟩ := popI_of h
    obtain ⟨x, r, rfl, h⟩ := popI_of h
    exact wg_step (st' := svI (x ||| y) :: r) (fun hx hb _ k => lv_ior hx hb hdg k) (hK _ _ _ _ h)
  | ixor =>
    simp only [ilenOK, beq_iff_eq] at hl; subst hl
    obtain ⟨y, r, rfl, h⟩ := popI_of h
    obtain ⟨x, r, rfl, h⟩ := popI_of h
    exact wg_step (st' := svI (x ^^^ y) :: r) (fun hx hb _ k => lv_ixor hx hb hdg k) (hK _ _ _ _ h)
  | ishl =>
    simp only [ilenOK, beq_iff_eq] at hl; subst hl
    obtain ⟨y, r, rfl, h⟩ := popI_of h
    obtain ⟨x, r, rfl, h⟩ := popI_of h
    exact wg_step (st' := svI (x <<< (y &&& 31)) :: r) (fun hx hb _ k => lv_ishl hx hb hdg k) (hK _ _ _ _ h)
  | ishr =>
    simp only [ilenOK, beq_iff_eq] at hl; subst hl
    obtain ⟨y, r, rfl, h⟩ := popI_of h
    obtain ⟨x, r, rfl, h⟩ := popI_of h
    exact wg_step (st' := svI (x >>> (y &&& 31)) :: r) (fun hx hb _ k => lv_ishr hx hb hdg k) (hK _ _ _ _ h)
  | idiv =>
    simp only [ilenOK, beq_iff_eq] at hl; subst hl
    obtain ⟨y, r, rfl, h⟩ := popI_of h
    obtain ⟨x, r, rfl, h⟩ := popI_of h
    exact wg_step (st' := svI (x / y) :: r) (fun hx hb _ k => lv_idiv hx hb hdg h.1 k) (hK _ _ _ _ h.2)
  | irem =>
    simp only [ilenOK, beq_iff_eq] at hl; subst hl
    obtain ⟨y, r, rfl, h⟩ := popI_of h
    obtain ⟨x, r, rfl, h⟩ := popI_of h
    exact wg_step (st' := svI (x - x / y * y) :: r) (fun hx hb _ k => lv_irem hx hb hdg h.1 k) (hK _ _ _ _ h.2)
  | ladd =>
    simp only [ilenOK, beq_iff_eq] at hl; subst hl
    obtain ⟨y, r, rfl, h⟩ := popJ_of h
    obtain ⟨x, r, rfl, h⟩ := popJ_of h
    exact wg_step (st' := svJ (x + y) :: r) (fun hx hb _ k => lv_ladd hx hb hdg k) (hK _ _ _ _ h)
  | lsub =>
    simp only [ilenOK, beq_iff_eq] at hl; subst hl
    obtain ⟨y, r, rfl, h⟩ := popJ_of h
    obtain ⟨x, r, rfl, h⟩ := popJ_of h
    exact wg_step (st' := svJ (x - y) :: r) (fun hx hb _ k => lv_lsub hx hb hdg k) (hK _ _ _ _ h)
  | lmul =>
    simp only [ilenOK, beq_iff_eq] at hl; subst hl
    obtain ⟨y, r, rfl, h⟩ := popJ_of h
    obtain ⟨x, r, rfl, h⟩ := popJ_of h
    exact wg_step (st' := svJ (x * y) :: r) (fun hx hb _ k => lv_lmul hx hb hdg k) (hK _ _ _ _ h)
  | ldiv =>
    simp only [ilenOK, beq_iff_eq] at hl; subst hl
    obtain ⟨y, r, rfl, h⟩ := popJ_of h
    obtain ⟨x, r, rfl, h⟩ := popJ_of h
    exact wg_step (st' := svJ (x / y) :: r) (fun hx hb _ k => lv_ldiv hx hb hdg h.1 k) (hK _ _ _ _ h.2)
  | lrem =>
    simp only [ilenOK, beq_iff_eq] at hl; subst hl
    obtain ⟨y, r, rfl, h⟩ := popJ_of h
    obtain ⟨x, r, rfl, h⟩ := popJ_of h
    exact wg_step (st' := svJ (x - x / y * y) :: r) (fun hx hb _ k => lv_lrem hx hb hdg h.1 k) (hK _ _ _ _ h.2)
  | lneg =>
    simp only [ilenOK, beq_iff_eq] at hl; subst hl
    obtain ⟨x, r, rfl, h⟩ := popJ_of h
    exact wg_step (st' := svJ (-x) :: r) (fun hx hb _ k => lv_lneg hx hb hdg k) (hK _ _ _ _ h)
  | lcmp =>
    simp only [ilenOK, beq_iff_eq] at hl; subst hl
    obtain ⟨y, r, rfl, h⟩ := popJ_of h
    obtain ⟨x, r, rfl, h⟩ := popJ_of h
    exact wg_step (st' := svI (lg_cmp x y) :: r) (fun hx hb _ k => W.lcmp hx hb hdg k) (hK _ _ _ _ h)
  | i2l =>
    simp only [ilenOK, beq_iff_eq] at hl; subst hl
    obtain ⟨x, r, rfl, h⟩ := popI_of h
    exact wg_step (st' := svJ x.toInt64 :: r) (fun hx hb _ k => lv_i2l hx hb hdg rfl k) (hK _ _ _ _ h)
  | l2i =>
    simp only [ilenOK, beq_iff_eq] at hl; subst hl
    obtain ⟨x, r, rfl, h⟩ := popJ_of h
    exact wg_step (st' := svI x.toInt32 :: r) (fun hx hb _ k => lv_l2i hx hb hdg rfl k) (hK _ _ _ _ h)
  | i2b =>
    simp only [ilenOK, beq_iff_eq] at hl; subst hl
    obtain ⟨x, r, rfl, h⟩ := popI_of h
    exact wg_step (st' := svI x.toInt8.toInt32 :: r) (fun hx hb _ k => lv_i2b hx hb hdg rfl k) (hK _ _ _ _ h)
  | ifCond c off =>
    simp only [ilenOK, beq_iff_eq] at hl; subst hl
    obtain ⟨x, r, rfl, h⟩ := popI_of h
    exact wg_if0 hdg (by simpa [tgtOK] using htg) h (hK _ _ _ _) (hK _ _ _ _)
  | if_icmp c off =>
    simp only [ilenOK, beq_iff_eq] at hl; subst hl
    obtain ⟨y, r, rfl, h⟩ := popI_of h
    obtain ⟨x, r, rfl, h⟩ := popI_of h
    exact wg_ifI hdg (by simpa [tgtOK] using htg) h (hK _ _ _ _) (hK _ _ _ _)
  | ifnull off =>
    simp only [ilenOK, beq_iff_eq] at hl; subst hl
    obtain ⟨x, r, rfl, h⟩ := popR_of h
    have e := tgt_ok (pc := pc) (off := off) (by simpa [tgtOK] using htg)
    cases x with
    | none => exact wg_step (st' := r) (fun hx hb _ k => lv_ifnullN hx hb hdg e k) (hK _ _ _ _ h)
    | some a => exact wg_step (st' := r) (fun hx hb _ k => lv_ifnull hx hb hdg k) (hK _ _ _ _ h)
  | ifnonnull off =>
    simp only [ilenOK, beq_iff_eq] at hl; subst hl
    obtain ⟨x, r, rfl, h⟩ := popR_of h
    have e := tgt_ok (pc := pc) (off := off) (by simpa [tgtOK] using htg)
    cases x with
    | none => exact wg_step (st' := r) (fun hx hb _ k => lv_ifnonnullN hx hb hdg k) (hK _ _ _ _ h)
    | some a => exact wg_step (st' := r) (fun hx hb _ k => lv_ifnonnull hx hb hdg e k) (hK _ _ _ _ h)
  | goto off =>
    simp only [ilenOK, beq_iff_eq] at hl; subst hl
    exact wg_step (st' := st) (fun hx hb _ k => lv_goto hx hb hdg (tgt_ok (by simpa [tgtOK] using htg)) k) (hK _ _ _ _ h)
  | lookupswitch dd ps =>
    obtain ⟨x, r, rfl, h⟩ := popI_of h
    simp only [tgtOK, Bool.and_eq_true, decide_eq_true_eq, List.all_eq_true] at htg
    obtain ⟨⟨⟨t1, t2⟩, t3⟩, t4⟩ := htg
    have h9 := sw_of (J := fun o => K (tgt pc o) lv r t) ps.toList (fun q hq => by have := t4 q hq; simpa using this) h
    have hoff : 0 ≤ (pc : Int) + Op.lookupswitch.offset ps.toList dd x.toInt := by
      have key : ∀ l : List (Int × Int), (∀ q ∈ l, 0 ≤ (pc : Int) + q.2) → 0 ≤ (pc : Int) + Op.lookupswitch.offset l dd x.toInt := by
        intro l
        induction l with
        | nil => intro _; simpa [Op.lookupswitch.offset] using t1
        | cons q l ih =>
          intro hq
          obtain ⟨k, o⟩ := q
          unfold Op.lookupswitch.offset
          split
          · exact hq _ List.mem_cons_self
          · exact ih (fun z hz => hq z (List.mem_cons_of_mem _ hz))
      exact key _ (fun q hq => by have := t2 q hq; simpa using this)
    exact wg_step (st' := r) (fun hx hb _ k => lv_lookup hx hb hdg (by simpa [List.all_eq_true] using t3) rfl (tgt_ok hoff) k) (hK _ _ _ _ h9)
  | tableswitch dd lo hi offs =>
    obtain ⟨x, r, rfl, h⟩ := popI_of h
    simp only [tgtOK, Bool.and_eq_true, decide_eq_true_eq, List.all_eq_true] at htg
    obtain ⟨⟨⟨⟨t1, t2⟩, t3⟩, t4⟩, t5⟩ := htg
    have hsz : (offs.toList.length : Int) = offs.size := by simp
    rcases swL_of (J := fun o => K (tgt pc o) lv r t) offs.toList lo t4 (by rw [hsz]; omega) h with ⟨j, o, q1, q2, q3⟩ | ⟨q1, q2⟩
    · have hj : j < offs.toList.length := (List.getElem?_eq_some_iff.mp q1).1
      have ho : offs[(x.toInt - lo).toNat]? = some o := by
        rw [q2, show (lo + (j : Int) - lo).toNat = j by omega, ← Array.getElem?_toList]; exact q1
      have hoff : 0 ≤ (pc : Int) + o := by have := t2 o (List.mem_of_getElem? q1); simpa using this
      exact wg_step (st' := r) (fun hx hb _ k => lv_tableIn hx hb hdg (by omega) (by omega) ho (tgt_ok hoff) k) (hK _ _ _ _ q3)
    · exact wg_step (st' := r) (fun hx hb _ k => lv_tableOut hx hb hdg (by omega) (tgt_ok (by simpa using t1)) k) (hK _ _ _ _ q2)
  | getfield idx =>
    simp only [ilenOK, beq_iff_eq] at hl; subst hl
    obtain ⟨x, r, e1, h2⟩ := popR_of h
    subst e1; clear h
    obtain ⟨a, e2, h3⟩ := onR_of h2
    subst e2; clear h2
    split at h3
    · rename_i ci k w heq
      obtain ⟨hci, rr, ⟨c1, c2, c3, c4, c5⟩, hk, hlink, -⟩ := hP.1 idx ci k w heq
      obtain ⟨hka, h⟩ := h3
      obtain ⟨o, t', q1, q2, q3, q4⟩ := hK _ _ _ _ h
      refine ⟨o, t', q1, q2, q3, gd_get (a := a) (ci := ci) (k := k) (st := r.map vv) ⟨rr, fTy ci, c1, hk, c2, c3, c4, hlink⟩ hka (by omega) hdg ?_⟩
      have e : hV (tv t) a k = vv (rdS t a k (tyN (fTy ci k))) := tV_of (slN_obj hka hci)
      rw [e]
      exact q4
    · exact h3.elim
  | putfield idx =>
    simp only [ilenOK, beq_iff_eq] at hl; subst hl
    simp only [st1] at h
    cases st with
    | nil => exact h.elim
    | cons v st =>
      obtain ⟨x, r, e1, h2⟩ := popR_of h
      subst e1; clear h
      obtain ⟨a, e2, h3⟩ := onR_of h2
      subst e2; clear h2
      split at h3
      · rename_i ci k w heq
        obtain ⟨hci, rr, ⟨c1, c2, c3, c4, c5⟩, hk, hlink, hw1⟩ := hP.1 idx ci k w heq
        obtain ⟨hka, h⟩ := h3
        obtain ⟨g1, h⟩ := gd_of h
        have hfin : isFin ci k = false ∨ (w = 1 ∧ X.2.2.2.1 = true) := by
          rw [Bool.or_eq_true] at g1
          rcases g1 with z | z
          · exact Or.inl (by simpa using z)
          · rw [Bool.and_eq_true] at z
            exact Or.inr ⟨by simpa using z.1, z.2⟩
        have hsl := slN_obj (k := k) hka hci
        have hF : FL M idx ci k := ⟨rr, fTy ci, c1, hk, c2, c3, c4, hlink⟩
        have hty : ∀ r, vwCl[ci]? = some r → parseFieldDescriptor (r.2.1 k).2.2.1 = some (fTy ci k) := fun r9 h9 => by cases c1.symm.trans h9; exact c3 k hk
        have hfin' : ∀ r : vw_C, vwCl[ci]? = some r → (r.2.1 k).2.2.2 = true → M.2.1 = "<init>" ∧ (r.2.1 k).1 = M.1 ∧ Cond.fieldLink M.1 idx (r.2.1 k).1 (r.2.1 k).2.1 (r.2.1 k).2.2.1 ∈ gW := by
          intro r9 h9 hf
          cases c1.symm.trans h9
          have hfe : isFin ci k = true := by
            unfold isFin
            have : vwCl.getD ci ("", fun _ => ("", "", "", false), 0) = rr := by rw [List.getD_eq_getElem?_getD, c1]; rfl
            rw [this]; exact hf
          rcases hfin with z | ⟨z1, z2⟩
          · rw [hfe] at z; cases z
          · obtain ⟨w1, w2⟩ := hw1 z1
            exact ⟨hC.2.2.1 z2, w1, w2⟩
        rcases v with x | x | x
        · have hn0 : tyN (fTy ci k) = 0 := by
            generalize tyN (fTy ci k) = n at h
            match n, h with
            | 0, _ => rfl
            | 1, h => exact h.elim
            | 2, h => exact h.elim
            | n + 3, h => exact h.elim
          rw [hn0] at h
          obtain ⟨hok, h⟩ := okJ_of h
          obtain ⟨o, t', q1, q2, q3, q4⟩ := hK _ _ _ _ h
          refine ⟨o, t', q1, q2, q3, gd_put (st := r.map vv) hF hty hka (by omega) ?_ hfin' hdg ?_⟩
          · generalize fTy ci k = ty at hok
            cases ty <;> first | (exact hok.elim) | (exact ⟨rfl, rfl⟩) | (rcases hok with rfl | rfl <;> exact ⟨by decide, by decide⟩)
          · rw [show vv (Sum.inl x) = Value.int x from rfl, hSet_sI (hsl.trans hn0)]
            exact q4
        · have hn0 : tyN (fTy ci k) = 1 := by
            generalize tyN (fTy ci k) = n at h
            match n, h with
            | 0, h => exact h.elim
            | 1, _ => rfl
            | 2, h => exact h.elim
            | n + 3, h => exact h.elim
          rw [hn0] at h
          obtain ⟨o, t', q1, q2, q3, q4⟩ := hK _ _ _ _ h
          refine ⟨o, t', q1, q2, q3, gd_put (st := r.map vv) hF hty hka (by omega) ?_ hfin' hdg ?_⟩
          · generalize fTy ci k = ty at hn0
            cases ty <;> first | (exact ⟨rfl, rfl⟩) | (cases hn0)
          · rw [show vv (Sum.inr (Sum.inl x)) = Value.long x from rfl, hSet_sJ (hsl.trans hn0)]
            exact q4
        · have hn0 : tyN (fTy ci k) = 2 := by
            generalize tyN (fTy ci k) = n at h
            match n, h with
            | 0, h => exact h.elim
            | 1, h => exact h.elim
            | 2, _ => rfl
            | n + 3, h => exact h.elim
          rw [hn0] at h
          obtain ⟨o, t', q1, q2, q3, q4⟩ := hK _ _ _ _ h
          refine ⟨o, t', q1, q2, q3, gd_put (st := r.map vv) hF hty hka (by omega) ?_ hfin' hdg ?_⟩
          · generalize fTy ci k = ty at hn0
            cases ty <;> first | (cases x <;> exact ⟨rfl, rfl⟩) | (cases hn0)
          · rw [show vv (Sum.inr (Sum.inr x)) = va_rf x from rfl, hSet_sR (hsl.trans hn0)]
            exact q4
      · exact h3.elim
  | getstatic idx =>
    simp only [ilenOK, beq_iff_eq] at hl; subst hl
    simp only [st1] at h
    split at h
    · rename_i g heq
      obtain ⟨cn, n, dsc, g1, g2⟩ := hP.2.2.2.2.2.2 idx g heq
      obtain ⟨o, t', q1, q2, q3, q4⟩ := hK _ _ _ _ h
      exact ⟨o, t', q1, q2, q3, gd_gets g1 g2 hdg q4⟩
    · exact h.elim
  | arraylength =>
    simp only [ilenOK, beq_iff_eq] at hl; subst hl
    cases sc with
    | none =>
      obtain ⟨x, r, e1, h2⟩ := popR_of h
      subst e1; clear h
      obtain ⟨a, e2, h3⟩ := onR_of h2
      subst e2; clear h2
      obtain ⟨k1, k2, h⟩ := h3
      obtain ⟨o, t', q1, q2, q3, q4⟩ := hK _ _ _ _ h
      exact ⟨o, t', q1, q2, q3, gd_alen (a := a) (t := tK t a - 100) (st := r.map vv) (by show tK t a = _; omega) (by omega) hdg q4⟩
    | some s9 =>
      have e9 := hsc s9 rfl
      subst e9
      obtain ⟨x, r, e1, h2⟩ := popR_of h
      subst e1; clear h
      obtain ⟨a, e2, h3⟩ := onR_of h2
      subst e2; clear h2
      obtain ⟨rfl, h⟩ := h3
      obtain ⟨o, t', q1, q2, q3, q4⟩ := hK _ _ _ _ h
      exact ⟨o, t', q1, q2, q3, gd_slen (st := r.map vv) hdg q4⟩
  | baload =>
    simp only [ilenOK, beq_iff_eq] at hl; subst hl
    obtain ⟨j, r, e0, h1⟩ := popI_of h
    subst e0; clear h
    obtain ⟨x, r, e1, h2⟩ := popR_of h1
    subst e1; clear h1
    obtain ⟨a, e2, h3⟩ := onR_of h2
    subst e2; clear h2
    obtain ⟨k1, k2, h⟩ := h3
    obtain ⟨o, t', q1, q2, q3, q4⟩ := hK _ _ _ _ h
    refine ⟨o, t', q1, q2, q3, gd_bald (a := a) (st := r.map vv) k1 k2 hdg ?_⟩
    rw [show hV (tv t) a j.toNatClampNeg = vv (svI (tI t a j.toNatClampNeg)) from tV_of (n := 0) (by rw [k1]; rfl)]
    exact q4
  | iaload =>
    simp only [ilenOK, beq_iff_eq] at hl; subst hl
    cases sc with
    | none =>
      obtain ⟨j, r, e0, h1⟩ := popI_of h
      subst e0; clear h
      obtain ⟨x, r, e1, h2⟩ := popR_of h1
      subst e1; clear h1
      obtain ⟨a, e2, h3⟩ := onR_of h2
      subst e2; clear h2
      obtain ⟨k1, k2, h⟩ := h3
      obtain ⟨o, t', q1, q2, q3, q4⟩ := hK _ _ _ _ h
      refine ⟨o, t', q1, q2, q3, gd_iald (a := a) (st := r.map vv) k1 k2 hdg ?_⟩
      rw [show hV (tv t) a j.toNatClampNeg = vv (svI (tI t a j.toNatClampNeg)) from tV_of (n := 0) (by rw [k1]; rfl)]
      exact q4
    | some s9 =>
      have e9 := hsc s9 rfl
      subst e9
      obtain ⟨j, r, e0, h1⟩ := popI_of h
      subst e0; clear h
      obtain ⟨x, r, e1, h2⟩ := popR_of h1
      subst e1; clear h1
      obtain ⟨a, e2, h3⟩ := onR_of h2
      subst e2; clear h2
      obtain ⟨rfl, k2, h⟩ := h3
      obtain ⟨o, t', q1, q2, q3, q4⟩ := hK _ _ _ _ h
      exact ⟨o, t', q1, q2, q3, gd_sld (st := r.map vv) k2 hdg q4⟩
  | laload =>
    simp only [ilenOK, beq_iff_eq] at hl; subst hl
    obtain ⟨j, r, e0, h1⟩ := popI_of h
    subst e0; clear h
    obtain ⟨x, r, e1, h2⟩ := popR_of h1
    subst e1; clear h1
    obtain ⟨a, e2, h3⟩ := onR_of h2
    subst e2; clear h2
    obtain ⟨k1, k2, h⟩ := h3
    obtain ⟨o, t', q1, q2, q3, q4⟩ := hK _ _ _ _ h
    refine ⟨o, t', q1, q2, q3, gd_lald (a := a) (st := r.map vv) k1 k2 hdg ?_⟩
    rw [show hV (tv t) a j.toNatClampNeg = vv (svJ (tJ t a j.toNatClampNeg)) from tV_of (n := 1) (by rw [k1]; rfl)]
    exact q4
  | aaload =>
    simp only [ilenOK, beq_iff_eq] at hl; subst hl
    obtain ⟨j, r, e0, h1⟩ := popI_of h
    subst e0; clear h
    obtain ⟨x, r, e1, h2⟩ := popR_of h1
    subst e1; clear h1
    obtain ⟨a, e2, h3⟩ := onR_of h2
    subst e2; clear h2
    obtain ⟨k1, k1', k2, h⟩ := h3
    obtain ⟨o, t', q1, q2, q3, q4⟩ := hK _ _ _ _ h
    have hcase : tK t a = 103 ∨ tK t a = 104 ∨ tK t a = 105 := by omega
    refine ⟨o, t', q1, q2, q3, gd_aald (a := a) (t := tK t a - 100) (st := r.map vv) (by show tK t a = _; omega) (by omega) (by rcases hcase with z | z | z <;> rw [z] <;> rfl) k2 hdg ?_⟩
    rw [show hV (tv t) a j.toNatClampNeg = vv (svR (tR t a j.toNatClampNeg)) from tV_of (n := 2) (by rcases hcase with z | z | z <;> rw [z] <;> rfl)]
    exact q4
  | bastore =>
    simp only [ilenOK, beq_iff_eq] at hl; subst hl
    obtain ⟨v, r, e9, h0⟩ := popI_of h
    subst e9; clear h
    obtain ⟨j, r, e0, h1⟩ := popI_of h0
    subst e0; clear h0
    obtain ⟨x, r, e1, h2⟩ := popR_of h1
    subst e1; clear h1
    obtain ⟨a, e2, h3⟩ := onR_of h2
    subst e2; clear h2
    obtain ⟨k1, k2, h⟩ := h3
    obtain ⟨o, t', q1, q2, q3, q4⟩ := hK _ _ _ _ h
    refine ⟨o, t', q1, q2, q3, gd_bast (a := a) (st := r.map vv) k1 k2 hdg ?_⟩
    rw [hSet_sI (by rw [k1]; rfl)]
    exact q4
  | iastore =>
    simp only [ilenOK, beq_iff_eq] at hl; subst hl
    obtain ⟨v, r, e9, h0⟩ := popI_of h
    subst e9; clear h
    obtain ⟨j, r, e0, h1⟩ := popI_of h0
    subst e0; clear h0
    obtain ⟨x, r, e1, h2⟩ := popR_of h1
    subst e1; clear h1
    obtain ⟨a, e2, h3⟩ := onR_of h2
    subst e2; clear h2
    obtain ⟨k1, k2, h⟩ := h3
    obtain ⟨o, t', q1, q2, q3, q4⟩ := hK _ _ _ _ h
    refine ⟨o, t', q1, q2, q3, gd_iast (a := a) (st := r.map vv) k1 k2 hdg ?_⟩
    rw [hSet_sI (by rw [k1]; rfl)]
    exact q4
  | lastore =>
    simp only [ilenOK, beq_iff_eq] at hl; subst hl
    obtain ⟨v, r, e9, h0⟩ := popJ_of h
    subst e9; clear h
    obtain ⟨j, r, e0, h1⟩ := popI_of h0
    subst e0; clear h0
    obtain ⟨x, r, e1, h2⟩ := popR_of h1
    subst e1; clear h1
    obtain ⟨a, e2, h3⟩ := onR_of h2
    subst e2; clear h2
    obtain ⟨k1, k2, h⟩ := h3
    obtain ⟨o, t', q1, q2, q3, q4⟩ := hK _ _ _ _ h
    refine ⟨o, t', q1, q2, q3, gd_last (a := a) (st := r.map vv) k1 k2 hdg ?_⟩
    rw [hSet_sJ (by rw [k1]; rfl)]
    exact q4
  | aastore =>
    simp only [ilenOK, beq_iff_eq] at hl; subst hl
    obtain ⟨v, r, e9, h0⟩ := popR_of h
    subst e9; clear h
    obtain ⟨j, r, e0, h1⟩ := popI_of h0
    subst e0; clear h0
    obtain ⟨x, r, e1, h2⟩ := popR_of h1
    subst e1; clear h1
    obtain ⟨a, e2, h3⟩ := onR_of h2
    subst e2; clear h2
    obtain ⟨k1, k1', k2, k3, h⟩ := h3
    obtain ⟨o, t', q1, q2, q3, q4⟩ := hK _ _ _ _ h
    have hcase : tK t a = 103 ∨ tK t a = 104 ∨ tK t a = 105 := by omega
    have hsl : slN (tK t a) j.toNatClampNeg = 2 := by rcases hcase with z | z | z <;> rw [z] <;> rfl
    rw [← hSet_sR hsl] at q4
    obtain ⟨E, hE⟩ : ∃ E, aT (tK t a - 100) = .object E := by rcases hcase with z | z | z <;> rw [z] <;> exact ⟨_, rfl⟩
    cases v with
    | none => exact ⟨o, t', q1, q2, q3, gd_aastN (a := a) (t := tK t a - 100) (st := r.map vv) (by show tK t a = _; omega) (by omega) hE k2 hdg q4⟩
    | some b =>
      have k3' : okA (tK t a) (tK t b) := k3
      rcases k3' with ⟨z1, z2⟩ | ⟨z1, z2⟩ | ⟨z1, z2⟩
      · rw [z1] at hE; cases hE
        exact ⟨o, t', q1, q2, q3, gd_aast (a := a) (b := b) (t := 4) (ci := 2) (st := r.map vv) z1 (by decide) rfl k2 rfl (by decide) z2 (by decide +kernel) hdg q4⟩
      · rw [z1] at hE; cases hE
        exact ⟨o, t', q1, q2, q3, gd_aast (a := a) (b := b) (t := 5) (ci := 7) (st := r.map vv) z1 (by decide) rfl k2 rfl (by decide) z2 (by decide +kernel) hdg q4⟩
      · rw [z1] at hE; cases hE
        rcases z2 with z2 | z2 | z2 | z2
        · exact ⟨o, t', q1, q2, q3, gd_aast (a := a) (b := b) (t := 3) (ci := 2) (st := r.map vv) z1 (by decide) rfl k2 rfl (by decide) z2 (by decide +kernel) hdg q4⟩
        · exact ⟨o, t', q1, q2, q3, gd_aast (a := a) (b := b) (t := 3) (ci := 8) (st := r.map vv) z1 (by decide) rfl k2 rfl (by decide) z2 (by decide +kernel) hdg q4⟩
        · exact ⟨o, t', q1, q2, q3, gd_aast (a := a) (b := b) (t := 3) (ci := 9) (st := r.map vv) z1 (by decide) rfl k2 rfl (by decide) z2 (by decide +kernel) hdg q4⟩
        · exact ⟨o, t', q1, q2, q3, gd_aast (a := a) (b := b) (t := 3) (ci := 10) (st := r.map vv) z1 (by decide) rfl k2 rfl (by decide) z2 (by decide +kernel) hdg q4⟩
  | newarray at_ =>
    simp only [ilenOK, beq_iff_eq] at hl; subst hl
    obtain ⟨n, r, e0, h1⟩ := popI_of h
    subst e0; clear h
    obtain ⟨k1, k2, k3, h⟩ := gd_of h1
    have k1 : aKd at_ < 3 := by simpa using k1
    obtain ⟨o, t', q1, q2, q3, q4⟩ := hK _ _ _ _ h
    have hat : newarray.typeOf at_ = aT (aKd at_) := by cases at_ <;> first | rfl | (exact absurd k1 (by decide))
    have hw : Cond.arrayClass (aT (aKd at_)) ∈ gW := by cases at_ <;> first | (exact gW_byte) | (exact gW_int) | (exact gW_long) | (exact absurd k1 (by decide))
    refine ⟨o, t', q1, Nat.le_trans (Nat.le_succ _) q2, Nat.le_trans (Nat.le_add_right _ _) q3, gd_newa (st := r.map vv) k1 hat hw k2 k3 hdg q2 q3 ?_⟩
    rw [hNew_tv (fun k => by cases at_ <;> first | rfl | (exact absurd k1 (by decide)))]
    exact q4
  | anewarray idx =>
    simp only [ilenOK, beq_iff_eq] at hl; subst hl
    obtain ⟨n, r, e0, h1⟩ := popI_of h
    subst e0; clear h
    split at h1
    · rename_i kd heq
      obtain ⟨k01, k2, k3, h⟩ := gd_of h1
      rw [Bool.and_eq_true] at k01
      have k0 : 3 ≤ aKo kd := by simpa using k01.1
      have k1 : aKo kd < 6 := by simpa using k01.2
      obtain ⟨o, t', q1, q2, q3, q4⟩ := hK _ _ _ _ h
      obtain ⟨p1, p2⟩ := hP.2.2.1 idx kd heq
      have hkd : kd = 3 ∨ kd = 8 ∨ kd = 300 := by
        unfold aKo at k1
        by_cases z1 : kd = 3
        · exact Or.inl z1
        · by_cases z2 : kd = 8
          · exact Or.inr (Or.inl z2)
          · by_cases z3 : kd = 300
            · exact Or.inr (Or.inr z3)
            · simp [z1, z2, z3] at k1
      refine ⟨o, t', q1, Nat.le_trans (Nat.le_succ _) q2, Nat.le_trans (Nat.le_add_right _ _) q3, ?_⟩
      rw [← hNew_tv (f := fun _ => Value.null) (fun k => by rcases hkd with rfl | rfl | rfl <;> rfl)] at q4
      rcases hkd with rfl | rfl | rfl
      · obtain ⟨-, rr, c1, c2, -⟩ := p1 (by decide)
        have : rr = (RX1, TX1, 11) := Option.some.inj (c1.1.symm.trans rfl)
        subst this
        exact gd_anew (st := r.map vv) (t := 4) (E := "PathHouse$Node") (by decide) rfl (by decide) c2 k2 k3 hdg q2 q3 q4
      · obtain ⟨-, rr, c1, c2, -⟩ := p1 (by decide)
        have : rr = (RX6, TX6, 2) := Option.some.inj (c1.1.symm.trans rfl)
        subst this
        exact gd_anew (st := r.map vv) (t := 5) (E := "PathHouse$Row") (by decide) rfl (by decide) c2 k2 k3 hdg q2 q3 q4
      · exact gd_anew (st := r.map vv) (t := 3) (E := "java/lang/Object") (by decide) rfl (by decide) (p2 rfl) k2 k3 hdg q2 q3 q4
    · exact h1.elim
  | new idx =>
    simp only [ilenOK, beq_iff_eq] at hl; subst hl
    simp only [st1] at h
    split at h
    · rename_i kd heq
      obtain ⟨p1, p2⟩ := hP.2.2.1 idx kd heq
      by_cases hkd : kd < 100
      · rw [if_pos hkd] at h
        obtain ⟨hk1, rr, ⟨c1, c2, c3, c4, c5⟩, w1, w2, w3⟩ := p1 hkd
        obtain ⟨o, t', q1, q2, q3, q4⟩ := hK _ _ _ _ h
        have hkk : kd - 1 + 1 = kd := by omega
        refine ⟨o, t', q1, Nat.le_trans (Nat.le_succ _) q2, Nat.le_trans (Nat.le_add_right _ _) q3, gd_new (ci := kd - 1) (ty := fTy (kd - 1)) (f := fun k => dV (slN kd k)) c1 (by omega) c2 c3 (fun k hk => ?_) w1 w2 w3 hdg q2 q3 ?_⟩
        · rw [dflt_ok (c5 k hk)]
          have : slN kd k = tyN (fTy (kd - 1) k) := by unfold slN; rw [if_pos hkd]
          rw [this]
        · rw [hkk, hNew_tv (fun k => rfl)]
          exact q4
      · rw [if_neg hkd] at h
        obtain ⟨k12, h⟩ := gd_of h
        rw [Bool.and_eq_true] at k12
        have k1 : wgt st ≤ 8 := by simpa using k12.1
        have k2 : X.2.2.2.2 = [] := emp_of k12.2
        split at h
        · rename_i l3 is l4 ic l6 l9 d3 d4 d6 d9
          obtain ⟨e9, sn, text, he9, rfl, htw⟩ := hC.2.2.2.2 pc idx _ kd is l4 ic l6 hi heq hkd d4 d6
          obtain ⟨x3, y3, -⟩ := hC.1 _ _ _ d3
          obtain ⟨x4, y4, -⟩ := hC.1 _ _ _ d4
          obtain ⟨x6, y6, -⟩ := hC.1 _ _ _ d6
          obtain ⟨x9, y9, -⟩ := hC.1 _ _ _ d9
          simp only [ilenOK, beq_iff_eq] at y3 y4 y6 y9
          subst y3 y4 y6 y9
          have hh : M.2.2.2.2.2 = [] := by
            rcases hC.2.2.2.1 with ⟨z1, z2⟩ | ⟨s9, e8, hpc, ct, kd', z1, z2, -⟩
            · exact z1
            · rw [z2] at k2; cases k2
          refine ⟨_, _, h, Nat.le_succ _, Nat.le_add_right _ _, ?_⟩
          have g := gd_throwS (C := C) (M := M) (h0 := tv t0) (h := tv t) (fr := frD (d + 1)) (lo := loD (d + 1)) (lv := lv.map fv) (st := st.map vv) (f := fun k => dV (slN 0 k)) htw (by rw [hh]; intro q hq; cases hq) (by unfold frD; omega) (by unfold loD; omega) (by rw [wgt_cat]; exact k1) hdg x3 x4 x6 x9
          rw [hNew_tv (f := fun k => dV (slN 0 k)) (fun k => rfl)] at g
          exact g
        · exact h.elim
    · exact h.elim
  | checkcast idx =>
    simp only [ilenOK, beq_iff_eq] at hl; subst hl
    simp only [st1] at h
    split at h
    · rename_i kd heq
      obtain ⟨hkd0, h⟩ := gd_of h
      have hkd : kd = 3 ∨ kd = 9 ∨ kd = 10 ∨ kd = 11 := by simp at hkd0; omega
      obtain ⟨x, r, e1, h2⟩ := popR_of h
      subst e1; clear h
      cases x with
      | none => exact wg_step (st' := svR none :: r) (fun hx hb _ k => lv_castN hx hb hdg k) (hK _ _ _ _ h2)
      | some a =>
        obtain ⟨ha, h⟩ := h2
        obtain ⟨o, t', q1, q2, q3, q4⟩ := hK _ _ _ _ h
        refine ⟨o, t', q1, q2, q3, ?_⟩
        obtain ⟨p1, -⟩ := hP.2.2.1 idx kd heq
        rcases hkd with rfl | rfl | rfl | rfl
        · obtain ⟨-, rr, c1, c2, -⟩ := p1 (by decide)
          have : rr = (RX1, TX1, 11) := Option.some.inj (c1.1.symm.trans rfl)
          subst this
          exact gd_cast (ci := 2) (st := r.map vv) rfl (by decide) ha c2 (by decide +kernel) hdg q4
        · obtain ⟨-, rr, c1, c2, -⟩ := p1 (by decide)
          have : rr = (RX7, TX7, 2) := Option.some.inj (c1.1.symm.trans rfl)
          subst this
          exact gd_cast (ci := 8) (st := r.map vv) rfl (by decide) ha c2 (by decide +kernel) hdg q4
        · obtain ⟨-, rr, c1, c2, -⟩ := p1 (by decide)
          have : rr = (RX8, TX8, 8) := Option.some.inj (c1.1.symm.trans rfl)
          subst this
          exact gd_cast (ci := 9) (st := r.map vv) rfl (by decide) ha c2 (by decide +kernel) hdg q4
        · obtain ⟨-, rr, c1, c2, -⟩ := p1 (by decide)
          have : rr = (RX9, TX9, 9) := Option.some.inj (c1.1.symm.trans rfl)
          subst this
          exact gd_cast (ci := 10) (st := r.map vv) rfl (by decide) ha c2 (by decide +kernel) hdg q4
    · exact h.elim
  | athrow =>
    simp only [ilenOK, beq_iff_eq] at hl; subst hl
    obtain ⟨x, r, e1, h2⟩ := popR_of h
    subst e1; clear h
    obtain ⟨a, e2, h3⟩ := onR_of h2
    subst e2; clear h2
    obtain ⟨k1, h⟩ := h3
    obtain ⟨o, t', q1, q2, q3, q4⟩ := exc_sound (st := r.map vv) hC hK h
    exact ⟨o, t', q1, q2, q3, gd_athrow k1 hdg q4⟩
  | ireturn =>
    simp only [ilenOK, beq_iff_eq] at hl; subst hl
    obtain ⟨x, r, e1, h2⟩ := popI_of h
    subst e1; clear h
    obtain ⟨g1, h⟩ := gd_of h2
    cases emp_of g1
    split at h
    · rename_i ty heq
      obtain ⟨hok, h⟩ := okJ_of h
      refine ⟨_, t, h, Nat.le_refl _, Nat.le_refl _, gd_iret (ty := ty) (hC.2.1.symm.trans heq) ?_ hdg⟩
      cases ty <;> first | (exact hok.elim) | rfl | (rcases hok with rfl | rfl <;> decide)
    · exact h.elim
  | lreturn =>
    simp only [ilenOK, beq_iff_eq] at hl; subst hl
    obtain ⟨x, r, e1, h2⟩ := popJ_of h
    subst e1; clear h
    obtain ⟨g1, h⟩ := gd_of h2
    cases emp_of g1
    split at h
    · rename_i heq
      exact ⟨_, t, h, Nat.le_refl _, Nat.le_refl _, gd_lret (hC.2.1.symm.trans heq) hdg⟩
    · exact h.elim
  | areturn =>
    simp only [ilenOK, beq_iff_eq] at hl; subst hl
    obtain ⟨x, r, e1, h2⟩ := popR_of h
    subst e1; clear h
    obtain ⟨g1, h⟩ := gd_of h2
    cases emp_of g1
    have hv : vv (svR x) = .null ∨ ∃ a, vv (svR x) = .ref a := by
      cases x with
      | none => exact Or.inl rfl
      | some a => exact Or.inr ⟨a, rfl⟩
    split at h
    · rename_i n heq
      exact ⟨_, t, h, Nat.le_refl _, Nat.le_refl _, gd_aret (hC.2.1.symm.trans heq) (Or.inl ⟨n, rfl⟩) hv hdg⟩
    · rename_i n heq
      exact ⟨_, t, h, Nat.le_refl _, Nat.le_refl _, gd_aret (hC.2.1.symm.trans heq) (Or.inr ⟨n, rfl⟩) hv hdg⟩
    · exact h.elim
  | return_ =>
    simp only [ilenOK, beq_iff_eq] at hl; subst hl
    obtain ⟨g1, h2⟩ := gd_of h
    cases emp_of g1
    clear h
    split at h2
    · rename_i heq
      exact ⟨_, t, h2, Nat.le_refl _, Nat.le_refl _, gd_vret (hC.2.1.symm.trans heq) hdg⟩
    · exact h2.elim
  | invokevirtual idx =>
    simp only [ilenOK, beq_iff_eq] at hl; subst hl
    simp only [st1] at h
    split at h
    · rename_i j heq
      split at h
      · rename_i na ci rk heq2
        obtain ⟨as, r, ha, e1, h2⟩ := popN_of na h
        subst e1; clear h
        obtain ⟨x, r, e1, h3⟩ := popR_of h2
        subst e1; clear h2
        obtain ⟨b, e2, h4⟩ := onR_of h3
        subst e2; clear h3
        by_cases hci4 : ci = 4000
        · rw [if_pos hci4] at h4
          obtain ⟨g1, ⟨n, hn10, rfl⟩, q, hq, o1, t1, hpost, hn1, hu1, hcm⟩ := gd_of h4
          have hw : wgt r ≤ 8 := by simpa using g1
          rcases hP.2.1 idx j heq with ⟨rfl, hno, -⟩ | ⟨-, q9, na9, ci9, rk9, m1, m2, ⟨e1, e2, e3, e4, e5, e6, e7⟩, ⟨-, -, -, ko⟩, hlk⟩
          · rw [hno] at heq2; cases heq2
          · cases Option.some.inj (m1.symm.trans hq)
            cases Option.some.inj (m2.symm.trans heq2)
            obtain ⟨i1, i3⟩ := ko hci4
            obtain ⟨o, t', z1, z2, z3, z4⟩ := aft_sound (d := d + 1) hC hK hpost
            refine ⟨o, t', z1, Nat.le_trans hn1 z2, Nat.le_trans hu1 z3, ?_⟩
            have g := gd_callT (C := C) (M := M) (fr := frD (d + 1)) (lo := loD (d + 1)) (h0 := tv t0) (o' := oo o) (h' := tv t') (lv := lv.map fv) (rest := r.map vv) (pc := pc) (idx := idx) (n := n) (as := as.map vv) hcm e1 e3 e4 (by unfold frD; omega) (by unfold loD; omega) hn1 hu1 z2 z3 hn10 hlk i1 i3 e5 (fun sig hsig => by rw [List.length_map, ha]; exact e6 sig hsig) hdg (by rw [wgt_cat]; exact hw) z4
            rw [← List.map_reverse] at g
            simpa [List.map_append, vv, svR, va_rf] using g
        · rw [if_neg hci4] at h4
          obtain ⟨g1, hkb, q, hq, o1, t1, hpost, hn1, hu1, hcm⟩ := gd_of h4
          rw [Bool.and_eq_true] at g1
          have hci : ci < 99 := by simpa using g1.1
          have hw : wgt r ≤ 8 := by simpa using g1.2
          rcases hP.2.1 idx j heq with ⟨rfl, hno, -⟩ | ⟨-, q9, na9, ci9, rk9, m1, m2, ⟨e1, e2, e3, e4, e5, e6, e7⟩, ⟨ko, -, -, -⟩, hlk⟩
          · rw [hno] at heq2; cases heq2
          · cases Option.some.inj (m1.symm.trans hq)
            cases Option.some.inj (m2.symm.trans heq2)
            obtain ⟨i1, rr, i2, i3⟩ := ko hci
            obtain ⟨o, t', z1, z2, z3, z4⟩ := aft_sound (d := d + 1) hC hK hpost
            refine ⟨o, t', z1, Nat.le_trans hn1 z2, Nat.le_trans hu1 z3, ?_⟩
            have g := gd_callV (C := C) (M := M) (fr := frD (d + 1)) (lo := loD (d + 1)) (h0 := tv t0) (o' := oo o) (h' := tv t') (lv := lv.map fv) (rest := r.map vv) (pc := pc) (idx := idx) (b := b) (as := as.map vv) hcm e1 e3 e4 (by unfold frD; omega) (by unfold loD; omega) hn1 hu1 z2 z3 i2 hci hkb hlk i1 i3 e5 (fun sig hsig => by rw [List.length_map, ha]; exact e6 sig hsig) hdg (by rw [wgt_cat]; exact hw) z4
            rw [← List.map_reverse] at g
            simpa [List.map_append, vv, svR, va_rf] using g
      · exact h.elim
    · exact h.elim
  | invokestatic idx =>
    simp only [ilenOK, beq_iff_eq] at hl; subst hl
    simp only [st1] at h
    split at h
    · rename_i j heq
      split at h
      · rename_i na ci rk heq2
        obtain ⟨as, r, ha, e1, h2⟩ := popN_of na h
        subst e1; clear h
        obtain ⟨g1, q, hq, o1, t1, hpost, hn1, hu1, hcm⟩ := gd_of h2
        rw [Bool.and_eq_true] at g1
        have hci : ci = 1000 := by simpa using g1.1
        have hw : wgt r ≤ 8 := by simpa using g1.2
        rcases hP.2.1 idx j heq with ⟨rfl, hno, -⟩ | ⟨-, q9, na9, ci9, rk9, m1, m2, ⟨e1, e2, e3, e4, e5, e6, e7⟩, ⟨-, ko, -⟩, hlk⟩
        · rw [hno] at heq2; cases heq2
        · cases Option.some.inj (m1.symm.trans hq)
          cases Option.some.inj (m2.symm.trans heq2)
          have i1 := ko hci
          obtain ⟨o, t', z1, z2, z3, z4⟩ := aft_sound (d := d + 1) hC hK hpost
          refine ⟨o, t', z1, Nat.le_trans hn1 z2, Nat.le_trans hu1 z3, ?_⟩
          have g := gd_callS (C := C) (M := M) (fr := frD (d + 1)) (lo := loD (d + 1)) (h0 := tv t0) (o' := oo o) (h' := tv t') (lv := lv.map fv) (rest := r.map vv) (pc := pc) (idx := idx) (as := as.map vv) hcm e1 e2 e3 e4 (by unfold frD; omega) (by unfold loD; omega) hn1 hu1 z2 z3 hlk i1 e5 (fun sig hsig => by rw [List.length_map, ha]; exact e6 sig hsig) hdg (by rw [wgt_cat]; exact hw) z4
          rw [← List.map_reverse] at g
          simpa [List.map_append, vv, svR, va_rf] using g
      · exact h.elim
    · exact h.elim
  | invokespecial idx =>
    simp only [ilenOK, beq_iff_eq] at hl; subst hl
    simp only [st1] at h
    split at h
    · rename_i j heq
      rcases hP.2.1 idx j heq with ⟨rfl, -, w1, w2, w3⟩ | ⟨hj, q9, na9, ci9, rk9, m1, m2, ⟨e1, e2, e3, e4, e5, e6, e7⟩, ⟨-, -, ko, -⟩, hlk⟩
      · rw [if_pos rfl] at h
        obtain ⟨x, r, e1, h2⟩ := popR_of h
        subst e1; clear h
        obtain ⟨b, e2, h⟩ := onR_of h2
        subst e2
        obtain ⟨g1, h⟩ := gd_of h
        have hw : wgt r ≤ 8 := by simpa using g1
        obtain ⟨o, t', q1, q2, q3, q4⟩ := hK _ _ _ _ h
        exact ⟨o, t', q1, q2, q3, gd_objInit (b := b) w1 w2 w3 (by unfold frD; omega) (by unfold loD; omega) (by rw [wgt_cat]; exact hw) hdg q4⟩
      · rw [if_neg hj, m2] at h
        obtain ⟨as, r, ha, e1', h2⟩ := popN_of na9 h
        subst e1'; clear h
        obtain ⟨x, r, e1', h3⟩ := popR_of h2
        subst e1'; clear h2
        obtain ⟨b, e2', h4⟩ := onR_of h3
        subst e2'; clear h3
        obtain ⟨g1, q, hq, o1, t1, hpost, hn1, hu1, hcm⟩ := gd_of h4
        rw [Bool.and_eq_true] at g1
        have hci : ci9 = 2000 := by simpa using g1.1
        have hw : wgt r ≤ 8 := by simpa using g1.2
        cases Option.some.inj (m1.symm.trans hq)
        obtain ⟨i1, i2, i3⟩ := ko hci
        rw [i3] at hcm e3
        obtain ⟨o, t', z1, z2, z3, z4⟩ := aft_sound (d := d + 1) hC hK hpost
        refine ⟨o, t', z1, Nat.le_trans hn1 z2, Nat.le_trans hu1 z3, ?_⟩
        have g := gd_callI (C := C) (M := M) (fr := frD (d + 1)) (lo := loD (d + 1)) (h0 := tv t0) (o' := oo o) (h' := tv t') (lv := lv.map fv) (rest := r.map vv) (pc := pc) (idx := idx) (b := b) (as := as.map vv) hcm e3 e4 (by unfold frD; omega) (by unfold loD; omega) hn1 hu1 z2 z3 hlk i2 i1 e5 (fun sig hsig => by rw [List.length_map, ha]; exact e6 sig hsig) hdg (by rw [wgt_cat]; exact hw) z4
        rw [← List.map_reverse] at g
        simpa [List.map_append, vv, svR, va_rf] using g
    · exact h.elim
  | _ => exact h.elim
theorem wpc_sound (hP : PoolOK M.1 X.2.1 mtab mt) (hC : CodeOK M X) (hsc : ∀ s9, sc = some s9 → s9 = cX C) {cut : List Nat} {Kc : Nat → LV → List SV → Ht → Prop} (hKc : ∀ pc lv st t, pc ∈ cut → Kc pc lv st t → WG C M (d + 1) t0 Q pc lv st t) :
    ∀ (n pc : Nat) (lv : LV) (st : List SV) (t : Ht), wpc (CalG C mtab d) mt (cS C) (cG C) sc X Q cut Kc n pc lv st t → WG C M (d + 1) t0 Q pc lv st t
  | 0, _, _, _, _, h => h.elim
  | n + 1, pc, lv, st, t, h => by
    unfold wpc at h
    split at h
    · rename_i i len heq
      refine st1_sound hP hC (fun pc' lv' st' t' h' => ?_) heq hsc h
      by_cases hm : pc' ∈ cut
      · rw [if_pos hm] at h'; exact hKc _ _ _ _ hm h'
      · rw [if_neg hm] at h'; exact wpc_sound hP hC hsc hKc n pc' lv' st' t' h'
    · exact h.elim
end S2
