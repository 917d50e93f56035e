/-! wp IS SOUND -/
abbrev ME : Type := MethodName × Cond × ByteArray × Nat × Option FieldType × List (Nat × Nat × Nat × Nat)
def frD (d : Nat) : Nat := d + 8
def loD (d : Nat) : Nat := 45 * d + 120
def CalG (C : Cx) (mtab : List ME) (d : Nat) (j : Nat) (as : List SV) (t : Ht) (Post : OutT → Ht → Prop) : Prop :=
  ∃ q : ME, mtab[j]? = some q ∧ ∃ (o : OutT) (t1 : Ht), Post o t1 ∧ tN t ≤ tN t1 ∧ tU t ≤ tU t1 ∧ CM C (frD d) (loD d) q.1 q.2.1 (as.map vv) (tv t) (oo o) (tv t1)
def fv (q : Nat × SV) : Nat × Value := (q.1, vv q.2)
def WG (C : Cx) (M : Mi) (d : Nat) (t0 : Ht) (Q : OutT → Ht → Prop) (pc : Nat) (lv : LV) (st : List SV) (t : Ht) : Prop :=
  ∃ (o : OutT) (t' : Ht), Q o t' ∧ tN t ≤ tN t' ∧ tU t ≤ tU t' ∧ Gd C M (frD d) (loD d) (tv t0) (oo o) (tv t') pc (lv.map fv) (st.map vv) (tv t)
def ilenOK (i : Instr) (len : Nat) : Bool := match i with
  | .tableswitch .. => true
  | .lookupswitch .. => true
  | .bipush _ => len == 2
  | .sipush _ => len == 3
  | .ldc _ => len == 2
  | .ldc_w _ => len == 3
  | .ldc2_w _ => len == 3
  | .iload _ => len == 2
  | .lload _ => len == 2
  | .aload _ => len == 2
  | .istore _ => len == 2
  | .lstore _ => len == 2
  | .astore _ => len == 2
  | .iinc _ _ => len == 3
  | .ifCond _ _ => len == 3
  | .if_icmp _ _ => len == 3
  | .ifnull _ => len == 3
  | .ifnonnull _ => len == 3
  | .goto _ => len == 3
  | .getfield _ => len == 3
  | .putfield _ => len == 3
  | .getstatic _ => len == 3
  | .new _ => len == 3
  | .newarray _ => len == 2
  | .anewarray _ => len == 3
  | .checkcast _ => len == 3
  | .invokevirtual _ => len == 3
  | .invokestatic _ => len == 3
  | .invokespecial _ => len == 3
  | _ => len == 1
def stoOK (i : Instr) (nL : Nat) : Bool := match i with
  | .istore k => k < nL
  | .lstore k => k + 1 < nL
  | .astore k => k < nL
  | .istore_n k => k.val < nL
  | .lstore_n k => k.val + 1 < nL
  | .astore_n k => k.val < nL
  | .iinc k _ => k < nL
  | _ => true
def tgtOK (pc : Nat) (i : Instr) : Bool := match i with
  | .ifCond _ off => 0 ≤ (pc : Int) + off
  | .if_icmp _ off => 0 ≤ (pc : Int) + off
  | .ifnull off => 0 ≤ (pc : Int) + off
  | .ifnonnull off => 0 ≤ (pc : Int) + off
  | .goto off => 0 ≤ (pc : Int) + off
  | .tableswitch d lo hi offs => 0 ≤ (pc : Int) + d && offs.toList.all (fun o => 0 ≤ (pc : Int) + o) && decide (hi = lo + offs.size - 1) && decide (-2147483648 ≤ lo) && decide (hi ≤ 2147483647)
  | .lookupswitch d ps => 0 ≤ (pc : Int) + d && ps.toList.all (fun o => 0 ≤ (pc : Int) + o.2) && ((ps.toList.zip (ps.toList.drop 1)).all (fun (a, next) => a.1 < next.1)) && ps.toList.all (fun o => decide (-2147483648 ≤ o.1) && decide (o.1 ≤ 2147483647))
  | _ => true
def EOK (q : ME) (na : Nat) : Prop := xb_Is q.1 q.2.1 q.2.2.1 q.2.2.2.1 q.2.2.2.2.1 q.2.2.2.2.2 ∧ (∀ (A : Array Value) (s : State), q.2.1.before A s = true → ∃ mk, s.methodNamed? q.1 = some mk) ∧ q.2.1 ∈ gW ∧ Cond.initialized q.1.cls ∈ gW ∧
  (q.1.cls ≠ "java/lang/invoke/MethodHandle" ∧ q.1.cls ≠ "java/lang/invoke/VarHandle") ∧ (∀ sig, parseMethodDescriptor q.1.desc = some sig → na = sig.parameters.length) ∧ q.2.2.2.1 ≤ 26
def kindOK (q : ME) (ci : Nat) : Prop :=
  (ci < 99 → Cond.instanceMethod q.1 ∈ gW ∧ ∃ r : vw_C, vwCl[ci]? = some r ∧ Cond.selects r.1 q.1 q.1 ∈ gW) ∧ (ci = 1000 → Cond.static q.1 ∈ gW) ∧ (ci = 2000 → Cond.instanceMethod q.1 ∈ gW ∧ q.1.name = "<init>" ∧ q.2.1 = .code q.1 q.2.2.1 q.2.2.2.1 none) ∧ (ci = 4000 → Cond.instanceMethod q.1 ∈ gW ∧ Cond.selects "java/lang/String" q.1 q.1 ∈ gW)
def noFl : FieldType → Bool
  | .float => false
  | .double => false
  | _ => true
def clOK (ci : Nat) (r : vw_C) : Prop := vwCl[ci]? = some r ∧ (∀ w ∈ u_ws r.1 r.2.1 r.2.2, w ∈ gW) ∧ (∀ k, k < r.2.2 → parseFieldDescriptor (r.2.1 k).2.2.1 = some (fTy ci k)) ∧ (∀ a, a < r.2.2 → ∀ b, b < r.2.2 → a ≠ b → (r.2.1 a).2.1 ≠ (r.2.1 b).2.1) ∧ (∀ k, k < r.2.2 → noFl (fTy ci k) = true)
/-- the pool of a class, and the methods of the table -/
def PoolOK (own : String) (P : Pool) (mtab : List ME) (mt : List (Nat × Nat × Nat)) : Prop :=
  (∀ idx ci k w, P.1.lookup idx = some (ci, k, w) → ci < 17 ∧ ∃ r : vw_C, clOK ci r ∧ k < r.2.2 ∧ (Cond.fieldLink own idx (r.2.1 k).1 (r.2.1 k).2.1 (r.2.1 k).2.2.1 ∈ gW ∨ ∃ host, Cond.fieldLinkNest own idx (r.2.1 k).1 (r.2.1 k).2.1 (r.2.1 k).2.2.1 host ∈ nW) ∧ (w = 1 → (r.2.1 k).1 = own ∧ Cond.fieldLink own idx (r.2.1 k).1 (r.2.1 k).2.1 (r.2.1 k).2.2.1 ∈ gW)) ∧
  (∀ idx j, P.2.1.lookup idx = some j → (j = 9999 ∧ mt[9999]? = none ∧ Cond.methodLink own idx Lib.objectInit ∈ gW ∧ Cond.instanceMethod Lib.objectInit ∈ gW ∧ Cond.code Lib.objectInit ⟨#[0xb1]⟩ 1 none ∈ gW) ∨ (j ≠ 9999 ∧ ∃ (q : ME) (na ci rk : Nat), mtab[j]? = some q ∧ mt[j]? = some (na, ci, rk) ∧ EOK q na ∧ kindOK q ci ∧ (Cond.methodLink own idx q.1 ∈ gW ∨ ∃ host, Cond.methodLinkNest own idx q.1 host ∈ nW))) ∧
  (∀ idx kd, P.2.2.1.lookup idx = some kd → (kd < 100 → 1 ≤ kd ∧ ∃ r : vw_C, clOK (kd - 1) r ∧ Cond.classLink own idx r.1 ∈ gW ∧ Cond.instantiable r.1 (nSl.getD (kd - 1) 0) ∈ gW ∧ Cond.initialized r.1 ∈ gW) ∧ (kd = 300 → Cond.classLink own idx "java/lang/Object" ∈ gW)) ∧
  (∀ idx v, P.2.2.2.1.lookup idx = some v → Cond.constant own idx v ∈ gW) ∧ (∀ idx v, P.2.2.2.2.1.lookup idx = some v → Cond.constantLong own idx v ∈ gW) ∧
  (∀ idx n, P.2.2.2.2.2.1.lookup idx = some n → ∃ tx, (own, idx, tx, n) ∈ strL) ∧ (∀ idx g, P.2.2.2.2.2.2.lookup idx = some g → ∃ c n dsc, (c, n, dsc, g) ∈ stL ∧ Cond.fieldLink own idx c n dsc ∈ gW)
/-- a method's code table is its code -/
def CodeOK (M : Mi) (X : MT) : Prop :=
  (∀ pc i len, X.1.lookup pc = some (i, len) → decode M.2.2.1 pc = .ok (i, len) ∧ ilenOK i len = true ∧ stoOK i M.2.2.2.1 = true ∧ tgtOK pc i = true) ∧ X.2.2.1 = M.2.2.2.2.1 ∧ (X.2.2.2.1 = true → M.2.1 = "<init>") ∧
  ((M.2.2.2.2.2 = [] ∧ X.2.2.2.2 = []) ∨ ∃ s e hpc ct kd, M.2.2.2.2.2 = [(s, e, hpc, ct)] ∧ X.2.2.2.2 = [(s, e, hpc, kd)] ∧ ct ≠ 0 ∧ ((kd = 16 ∧ Cond.classLink M.1 ct "PathHouseModel$Stop" ∈ gW) ∨ ∃ e9, e9 < 3 ∧ kd = 200 + e9 ∧ Cond.classLink M.1 ct (exN e9) ∈ gW)) ∧
  (∀ pc ik l0 kd is l4 ic l6, X.1.lookup pc = some (.new ik, l0) → X.2.1.2.2.1.lookup ik = some kd → ¬ kd < 100 → X.1.lookup (pc + 4) = some (.ldc is, l4) → X.1.lookup (pc + 6) = some (.invokespecial ic, l6) → ∃ e9 sn text, e9 < 3 ∧ kd = 200 + e9 ∧ TW M ik is ic e9 sn text)
section SO
theorem lk_mem {lv : LV} {k : Nat} {v : SV} (h : lv.lookup k = some v) : (k, v) ∈ lv := by
  induction lv with
  | nil => cases h
  | cons q r ih =>
    obtain ⟨a, b⟩ := q
    rw [List.lookup_cons] at h
    by_cases e : k = a
    · subst e
      simp at h
      rw [h]
      exact List.mem_cons_self
    · have e' : (k == a) = false := by simp [e]
      rw [e'] at h
      exact List.mem_cons_of_mem _ (ih h)
theorem lk_at {lv : LV} {k n : Nat} {v : SV} {ls : Array Slot} (h : lv.lookup k = some v) (hl : lv_has ls n (lv.map fv)) : ls[k]? = some (.val (vv v)) := hl.2.2 (k, vv v) (List.mem_map.mpr ⟨_, lk_mem h, rfl⟩)
theorem fmap_filter {lv : LV} {p : Nat × SV → Bool} {p' : Nat × Value → Bool} (h : ∀ q, p' (fv q) = p q) : (lv.map fv).filter p' = (lv.filter p).map fv := by
  rw [List.filter_map]
  congr 1
  exact List.filter_congr (fun q _ => h q)
theorem lset1_map {lv : LV} {i : Nat} {v : SV} : (i, vv v) :: (lv.map fv).filter (fun q => !(q.1 == i) && !(q.1 + 1 == i && q.2.category == 2)) = (lset1 lv i v).map fv := by
  rw [fmap_filter (p := fun q => !(q.1 == i) && !(q.1 + 1 == i && svC q.2 == 2)) (fun q => by rw [← vv_cat]; rfl)]
  rfl
theorem lset2_map {lv : LV} {i : Nat} {v : SV} : (i, vv v) :: (lv.map fv).filter (fun q => !(q.1 == i) && (!(q.1 == i + 1) && !(q.1 + 1 == i && q.2.category == 2))) = (lset2 lv i v).map fv := by
  rw [fmap_filter (p := fun q => !(q.1 == i) && (!(q.1 == i + 1) && !(q.1 + 1 == i && svC q.2 == 2))) (fun q => by rw [← vv_cat]; rfl)]
  rfl
theorem popI_of {st : List SV} {f : Int32 → List SV → Prop} (h : popI st f) : ∃ x r, st = svI x :: r ∧ f x r := by
  unfold popI at h
  split at h
  · exact ⟨_, _, rfl, h⟩
  · exact h.elim
theorem popJ_of {st : List SV} {f : Int64 → List SV → Prop} (h : popJ st f) : ∃ x r, st = svJ x :: r ∧ f x r := by
  unfold popJ at h
  split at h
  · exact ⟨_, _, rfl, h⟩
  · exact h.elim
theorem popR_of {st : List SV} {f : Option Nat → List SV → Prop} (h : popR st f) : ∃ x r, st = svR x :: r ∧ f x r := by
  unfold popR at h
  split at h
  · exact ⟨_, _, rfl, h⟩
  · exact h.elim
theorem onR_of {r : Option Nat} {f : Nat → Prop} (h : onR r f) : ∃ a, r = some a ∧ f a := by
  cases r with
  | none => exact h.elim
  | some a => exact ⟨a, rfl, h⟩
theorem popN_of : ∀ (n : Nat) {st : List SV} {f : List SV → List SV → Prop}, popN n st f → ∃ as r, as.length = n ∧ st = as.reverse ++ r ∧ f as r
  | 0, st, f, h => ⟨[], st, rfl, rfl, h⟩
  | n + 1, st, f, h => by
    unfold popN at h
    cases st with
    | nil => exact h.elim
    | cons v r =>
      obtain ⟨as, r', h1, h2, h3⟩ := popN_of n h
      exact ⟨as ++ [v], r', by simp [h1], by simp [h2], h3⟩
theorem wgt_cat (st : List SV) : ((st.map vv).map fun v => v.category).sum = wgt st := by
  unfold wgt
  rw [List.map_map]
  congr 1
  apply List.map_congr_left
  intro v _
  rcases v with x | x | x
  · rfl
  · rfl
  · cases x <;> rfl
theorem svC_cat {v : SV} (h : svC v = 1) : (vv v).category = 1 := by
  rcases v with x | x | x
  · rfl
  · cases h
  · cases x <;> rfl
theorem tgt_ok {pc : Nat} {off : Int} (h : 0 ≤ (pc : Int) + off) : (pc : Int) + off = (tgt pc off : Nat) := by
  unfold tgt
  omega
end SO
