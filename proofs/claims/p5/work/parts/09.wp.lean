/-! THE TYPED HEAP, AND THE WEAKEST PRECONDITION OF A CODE TABLE AS A PROPOSITION -/
abbrev SV : Type := Int32 ⊕ Int64 ⊕ Option Nat
def vv : SV → Value
  | .inl x => .int x
  | .inr (.inl y) => .long y
  | .inr (.inr r) => va_rf r
/-- size, slots, kinds, lengths, ints, longs, references -/
abbrev Ht : Type := Nat × Nat × (Nat → Nat) × (Nat → Nat) × (Nat → Nat → Int32) × (Nat → Nat → Int64) × (Nat → Nat → Option Nat)
def tN (t : Ht) : Nat := t.1
def tU (t : Ht) : Nat := t.2.1
def tK (t : Ht) : Nat → Nat := t.2.2.1
def tL (t : Ht) : Nat → Nat := t.2.2.2.1
def tI (t : Ht) : Nat → Nat → Int32 := t.2.2.2.2.1
def tJ (t : Ht) : Nat → Nat → Int64 := t.2.2.2.2.2.1
def tR (t : Ht) : Nat → Nat → Option Nat := t.2.2.2.2.2.2
abbrev tyCl : List (Nat → FieldType) := [tyJx4a65c, tyX0, tyX1, tyX2, tyX3, tyX4, tyX5, tyX6, tyX7, tyX8, tyX9, tyX10, tyX11, tyX12, tyX13, tyX14, tyX15]
def fTy (ci k : Nat) : FieldType := (tyCl.getD ci (fun _ => .int)) k
/-- 0: an int (or smaller), 1: a long, 2: a reference -/
def tyN : FieldType → Nat
  | .long => 1
  | .object _ => 2
  | .array _ => 2
  | _ => 0
def slN (kd k : Nat) : Nat := if kd < 100 then tyN (fTy (kd - 1) k) else if kd < 102 then 0 else if kd = 102 then 1 else 2
def tV (t : Ht) (a k : Nat) : Value := match slN (tK t a) k with
  | 0 => .int (tI t a k)
  | 1 => .long (tJ t a k)
  | _ => va_rf (tR t a k)
def tv (t : Ht) : Hp := (tN t, tU t, tK t, tL t, tV t)
def up2 {α : Type} (f : Nat → Nat → α) (a k : Nat) (x : α) : Nat → Nat → α := fun b j => if b = a ∧ j = k then x else f b j
def sI (t : Ht) (a k : Nat) (x : Int32) : Ht := (tN t, tU t, tK t, tL t, up2 (tI t) a k x, tJ t, tR t)
def sJ (t : Ht) (a k : Nat) (x : Int64) : Ht := (tN t, tU t, tK t, tL t, tI t, up2 (tJ t) a k x, tR t)
def sR (t : Ht) (a k : Nat) (x : Option Nat) : Ht := (tN t, tU t, tK t, tL t, tI t, tJ t, up2 (tR t) a k x)
def up1 {α : Type} (f : Nat → α) (a : Nat) (x : α) : Nat → α := fun b => if b = a then x else f b
/-- a new cell: all 0 and null -/
def tNew (t : Ht) (kd len used : Nat) : Ht := (tN t + 1, tU t + used, up1 (tK t) (tN t) kd, up1 (tL t) (tN t) len, up1 (tI t) (tN t) (fun _ => 0), up1 (tJ t) (tN t) (fun _ => 0), up1 (tR t) (tN t) (fun _ => none))
theorem hSet_tv {t t' : Ht} {a k : Nat} {v : Value} (h1 : tN t' = tN t) (h2 : tU t' = tU t) (h3 : tK t' = tK t) (h4 : tL t' = tL t) (h5 : ∀ b j, tV t' b j = if b = a ∧ j = k then v else tV t b j) : hSet (tv t) a k v = tv t' := by
  unfold hSet tv hN hU hK hL hV
  rw [h1, h2, h3, h4]
  congr 4
  funext b j
  exact (h5 b j).symm
theorem hSet_sI {t : Ht} {a k : Nat} {x : Int32} (h : slN (tK t a) k = 0) : hSet (tv t) a k (.int x) = tv (sI t a k x) := by
  refine hSet_tv rfl rfl rfl rfl (fun b j => ?_)
  by_cases e : b = a ∧ j = k
  · rw [if_pos e, e.1, e.2]; simp [tV, sI, tK, tI, up2] at h ⊢; rw [h]; rfl
  · rw [if_neg e]; unfold tV; simp only [sI, tK, tI, tJ, tR, up2, if_neg e]
theorem hSet_sJ {t : Ht} {a k : Nat} {x : Int64} (h : slN (tK t a) k = 1) : hSet (tv t) a k (.long x) = tv (sJ t a k x) := by
  refine hSet_tv rfl rfl rfl rfl (fun b j => ?_)
  by_cases e : b = a ∧ j = k
  · rw [if_pos e, e.1, e.2]; simp [tV, sJ, tK, tJ, up2] at h ⊢; rw [h]; rfl
  · rw [if_neg e]; unfold tV; simp only [sJ, tK, tI, tJ, tR, up2, if_neg e]
theorem slN_le (kd k : Nat) : slN kd k = 0 ∨ slN kd k = 1 ∨ slN kd k = 2 := by
  unfold slN
  split
  · cases fTy (kd - 1) k <;> simp [tyN]
  · split
    · simp
    · split <;> simp
theorem hSet_sR {t : Ht} {a k : Nat} {x : Option Nat} (h : slN (tK t a) k = 2) : hSet (tv t) a k (va_rf x) = tv (sR t a k x) := by
  refine hSet_tv rfl rfl rfl rfl (fun b j => ?_)
  by_cases e : b = a ∧ j = k
  · rw [if_pos e, e.1, e.2]; simp [tV, sR, tK, tR, up2] at h ⊢; rw [h]; rfl
  · rw [if_neg e]; unfold tV; simp only [sR, tK, tI, tJ, tR, up2, if_neg e]
def dV (n : Nat) : Value := match n with
  | 0 => .int 0
  | 1 => .long 0
  | _ => .null
theorem hNew_tv {t : Ht} {kd len used : Nat} {f : Nat → Value} (hf : ∀ k, f k = dV (slN kd k)) : hNew (tv t) kd len used f = tv (tNew t kd len used) := by
  unfold hNew tv hN hU hK hL hV
  congr 4
  funext b j
  by_cases e : b = tN t
  · subst e
    simp [tV, tNew, tK, tI, tJ, tR, up1, tN, hf j, va_rf, dV]
  · simp only [tN] at e
    simp [tV, tNew, tK, tI, tJ, tR, up1, tN, e]
/-! what the code table of a method is read with -/
abbrev OutT : Type := Option SV ⊕ (Nat × Nat)
def oo : OutT → Out
  | .inl v => .inl (v.map vv)
  | .inr x => .inr x
/-- pools: fields (class, number, 1: this class's own), methods, classes (kind), ints, longs, strings, statics -/
abbrev Pool : Type := List (Nat × Nat × Nat × Nat) × List (Nat × Nat) × List (Nat × Nat) × List (Nat × Int32) × List (Nat × Int64) × List (Nat × Nat) × List (Nat × Nat)
abbrev LV : Type := List (Nat × SV)
def svC : SV → Nat
  | .inr (.inl _) => 2
  | _ => 1
theorem vv_cat (v : SV) : (vv v).category = svC v := by
  rcases v with x | x | x
  · rfl
  · rfl
  · cases x <;> rfl
def lset1 (lv : LV) (i : Nat) (v : SV) : LV := (i, v) :: lv.filter (fun q => !(q.1 == i) && !(q.1 + 1 == i && svC q.2 == 2))
def lset2 (lv : LV) (i : Nat) (v : SV) : LV := (i, v) :: lv.filter (fun q => !(q.1 == i) && (!(q.1 == i + 1) && !(q.1 + 1 == i && svC q.2 == 2)))
def ldrop (lv : LV) (i : Nat) : LV := lv.filter (fun q => !(q.1 == i) && !(q.1 + 1 == i && svC q.2 == 2))
def onR (r : Option Nat) (f : Nat → Prop) : Prop := match r with
  | some a => f a
  | none => False
def nuR (r : Option Nat) (A : Prop) (B : Nat → Prop) : Prop := match r with
  | none => A
  | some a => B a
def br (c A B : Prop) : Prop := (c → A) ∧ (¬ c → B)
def tgt (pc : Nat) (off : Int) : Nat := ((pc : Int) + off).toNat

def popI (st : List SV) (f : Int32 → List SV → Prop) : Prop := match st with
  | .inl x :: r => f x r
  | _ => False
def popJ (st : List SV) (f : Int64 → List SV → Prop) : Prop := match st with
  | .inr (.inl x) :: r => f x r
  | _ => False
def popR (st : List SV) (f : Option Nat → List SV → Prop) : Prop := match st with
  | .inr (.inr x) :: r => f x r
  | _ => False
def popN : Nat → List SV → (List SV → List SV → Prop) → Prop
  | 0, st, f => f [] st
  | n + 1, st, f => match st with
    | v :: r => popN n r (fun as r' => f (as ++ [v]) r')
    | [] => False
def svI (x : Int32) : SV := .inl x
def svJ (x : Int64) : SV := .inr (.inl x)
def svR (r : Option Nat) : SV := .inr (.inr r)
/-- what an int field or an int answer of a type takes -/
def okI (ty : FieldType) (x : Int32) : Prop := match ty with
  | .int => True
  | .boolean => x = 0 ∨ x = 1
  | _ => False
def okJ (ty : FieldType) (x : Int32) (P : Prop) : Prop := match ty with
  | .int => P
  | .boolean => (x = 0 ∨ x = 1) ∧ P
  | _ => False
def isFin (ci k : Nat) : Bool := ((vwCl.getD ci ("", fun _ => ("", "", "", false), 0)).2.1 k).2.2.2
def rdS (t : Ht) (a k n : Nat) : SV := match n with
  | 0 => svI (tI t a k)
  | 1 => svJ (tJ t a k)
  | _ => svR (tR t a k)
abbrev nSl : List Nat := [3, 5, 11, 2, 3, 4, 7, 2, 2, 8, 9, 3, 10, 12, 14, 8, 37]
def aKd (a : ArrayType) : Nat := match a with
  | .byte => 0
  | .int => 1
  | .long => 2
  | _ => 99
def aKo (kd : Nat) : Nat := if kd = 3 then 4 else if kd = 8 then 5 else if kd = 300 then 3 else 99
def okA (ka kb : Nat) : Prop := (ka = 104 ∧ kb = 3) ∨ (ka = 105 ∧ kb = 8) ∨ (ka = 103 ∧ (kb = 3 ∨ kb = 9 ∨ kb = 10 ∨ kb = 11))
def gd (b : Bool) (P : Prop) : Prop := match b with
  | true => P
  | false => False
def wgt (st : List SV) : Nat := (st.map svC).sum
def sw (x : Int32) (J : Int → Prop) (D : Prop) : List (Int × Int) → Prop
  | [] => D
  | (k, o) :: r => br (x = Int32.ofInt k) (J o) (sw x J D r)
def swL (lo : Int) : List Int → List (Int × Int)
  | [] => []
  | o :: r => (lo, o) :: swL (lo + 1) r
abbrev Code1 : Type := List (Nat × Instr × Nat)
/-- the method: its code table, its pool, what it returns, whether it is a constructor, its handler (from, to, at, kind) -/
abbrev MT : Type := Code1 × Pool × Option FieldType × Bool × List (Nat × Nat × Nat × Nat)
def rI (v : Option SV) (f : Int32 → Prop) : Prop := match v with
  | some (.inl x) => f x
  | _ => False
def rJ (v : Option SV) (f : Int64 → Prop) : Prop := match v with
  | some (.inr (.inl x)) => f x
  | _ => False
def rR (v : Option SV) (f : Option Nat → Prop) : Prop := match v with
  | some (.inr (.inr x)) => f x
  | _ => False
/-- what comes back: nothing, an int, a long, a reference -/
def retK (rk : Nat) (v : Option SV) (f : List SV → Prop) : Prop := match rk with
  | 0 => v = none ∧ f []
  | 1 => rI v (fun x => f [svI x])
  | 2 => rJ v (fun x => f [svJ x])
  | _ => rR v (fun x => f [svR x])
def aftV (f : Option SV → Ht → Prop) (g : Nat → Nat → Ht → Prop) (o : OutT) (t : Ht) : Prop := match o with
  | .inl v => f v t
  | .inr x => g x.1 x.2 t
section WP
variable (Cal : Nat → List SV → Ht → (OutT → Ht → Prop) → Prop) (mt : List (Nat × Nat × Nat)) (sA : Nat → Nat) (gV : Nat → Option Nat) (sc : Option (Nat × Nat × (Nat → Int32))) (X : MT) (Q : OutT → Ht → Prop) (K : Nat → LV → List SV → Ht → Prop)
def exc (pc : Nat) (lv : LV) (t : Ht) (kd a : Nat) : Prop := match X.2.2.2.2 with
  | [] => Q (.inr (kd, a)) t
  | (s, e, hpc, kd') :: _ => if s ≤ pc ∧ pc < e then
      kd = kd' ∧ (if kd' = 16 then K hpc lv [svR (some a)] t else match X.1.lookup hpc with
        | some (.astore_n k, _) => K (hpc + 1) (ldrop lv k.val) [] t
        | some (.astore k, _) => K (hpc + 2) (ldrop lv k) [] t
        | _ => False)
    else Q (.inr (kd, a)) t
def aft (rk pc : Nat) (lv : LV) (st : List SV) : OutT → Ht → Prop := aftV (fun v t => retK rk v (fun l => K (pc + 3) lv (l ++ st) t)) (fun kd a t => exc X Q K pc lv t kd a)
def ifI (c : ClassFile.Cond) (x y : Int32) (A B : Prop) : Prop := match c with
  | .eq => br (x = y) A B
  | .ne => br (x = y) B A
  | .lt => br (x < y) A B
  | .ge => br (y ≤ x) A B
  | .gt => br (y < x) A B
  | .le => br (x ≤ y) A B
def st1 (i : Instr) (len pc : Nat) (lv : LV) (st : List SV) (t : Ht) : Prop := match i with
  | .aconst_null => K (pc + 1) lv (svR none :: st) t
  | .iconst n => K (pc + 1) lv (svI (Int32.ofInt n) :: st) t
  | .bipush n => K (pc + 2) lv (svI (Int8.ofInt n).toInt32 :: st) t
  | .sipush n => K (pc + 3) lv (svI (Int16.ofInt n).toInt32 :: st) t
  | .lconst n => K (pc + 1) lv (svJ (Int64.ofNat n) :: st) t
  | .ldc idx => match X.2.1.2.2.2.1.lookup idx with
    | some v => K (pc + 2) lv (svI v :: st) t
    | none => match X.2.1.2.2.2.2.2.1.lookup idx with
      | some n => K (pc + 2) lv (svR (some (sA n)) :: st) t
      | none => False
  | .ldc_w idx => match X.2.1.2.2.2.1.lookup idx with
    | some v => K (pc + 3) lv (svI v :: st) t
    | none => match X.2.1.2.2.2.2.2.1.lookup idx with
      | some n => K (pc + 3) lv (svR (some (sA n)) :: st) t
      | none => False
  | .ldc2_w idx => match X.2.1.2.2.2.2.1.lookup idx with
    | some v => K (pc + 3) lv (svJ v :: st) t
    | none => False
  | .iload k => match lv.lookup k with
    | some (.inl x) => K (pc + 2) lv (svI x :: st) t
    | _ => False
  | .iload_n k => match lv.lookup k.val with
    | some (.inl x) => K (pc + 1) lv (svI x :: st) t
    | _ => False
  | .lload k => match lv.lookup k with
    | some (.inr (.inl x)) => K (pc + 2) lv (svJ x :: st) t
    | _ => False
  | .lload_n k => match lv.lookup k.val with
    | some (.inr (.inl x)) => K (pc + 1) lv (svJ x :: st) t
    | _ => False
  | .aload k => match lv.lookup k with
    | some (.inr (.inr x)) => K (pc + 2) lv (svR x :: st) t
    | _ => False
  | .aload_n k => match lv.lookup k.val with
    | some (.inr (.inr x)) => K (pc + 1) lv (svR x :: st) t
    | _ => False
  | .istore k => popI st fun x st => K (pc + 2) (lset1 lv k (svI x)) st t
  | .istore_n k => popI st fun x st => K (pc + 1) (lset1 lv k.val (svI x)) st t
  | .lstore k => popJ st fun x st => K (pc + 2) (lset2 lv k (svJ x)) st t
  | .lstore_n k => popJ st fun x st => K (pc + 1) (lset2 lv k.val (svJ x)) st t
  | .astore k => popR st fun x st => K (pc + 2) (lset1 lv k (svR x)) st t
  | .astore_n k => popR st fun x st => K (pc + 1) (lset1 lv k.val (svR x)) st t
  | .iinc k n => match lv.lookup k with
    | some (.inl x) => K (pc + 3) (lset1 lv k (svI (x + Int32.ofInt n))) st t
    | _ => False
  | .pop => match st with
    | v :: r => gd (svC v == 1) (K (pc + 1) lv r t)
    | [] => False
  | .pop2 => popJ st fun _ st => K (pc + 1) lv st t
  | .dup => match st with
    | v :: r => gd (svC v == 1) (K (pc + 1) lv (v :: v :: r) t)
    | [] => False
  | .dup2 => match st with
    | .inr (.inl y) :: r => K (pc + 1) lv (svJ y :: svJ y :: r) t
    | v :: w :: r => gd (svC v == 1 && svC w == 1) (K (pc + 1) lv (v :: w :: v :: w :: r) t)
    | _ => False
  | .iadd => popI st fun y st => popI st fun x st => K (pc + 1) lv (svI (x + y) :: st) t
  | .isub => popI st fun y st => popI st fun x st => K (pc + 1) lv (svI (x - y) :: st) t
  | .imul => popI st fun y st => popI st fun x st => K (pc + 1) lv (svI (x * y) :: st) t
  | .iand => popI st fun y st => popI st fun x st => K (pc + 1) lv (svI (x &&& y) :: st) t
  | .ior => popI st fun y st => popI st fun x st => K (pc + 1) lv (svI (x ||| y) :: st) t
  | .ixor => popI st fun y st => popI st fun x st => K (pc + 1) lv (svI (x ^^^ y) :: st) t
  | .ishl => popI st fun y st => popI st fun x st => K (pc + 1) lv (svI (x <<< (y &&& 31)) :: st) t
  | .ishr => popI st fun y st => popI st fun x st => K (pc + 1) lv (svI (x >>> (y &&& 31)) :: st) t
  | .idiv => popI st fun y st => popI st fun x st => ¬ y = 0 ∧ K (pc + 1) lv (svI (x / y) :: st) t
  | .irem => popI st fun y st => popI st fun x st => ¬ y = 0 ∧ K (pc + 1) lv (svI (x - x / y * y) :: st) t
  | .ladd => popJ st fun y st => popJ st fun x st => K (pc + 1) lv (svJ (x + y) :: st) t
  | .lsub => popJ st fun y st => popJ st fun x st => K (pc + 1) lv (svJ (x - y) :: st) t
  | .lmul => popJ st fun y st => popJ st fun x st => K (pc + 1) lv (svJ (x * y) :: st) t
  | .ldiv => popJ st fun y st => popJ st fun x st => ¬ y = 0 ∧ K (pc + 1) lv (svJ (x / y) :: st) t
  | .lrem => popJ st fun y st => popJ st fun x st => ¬ y = 0 ∧ K (pc + 1) lv (svJ (x - x / y * y) :: st) t
  | .lneg => popJ st fun x st => K (pc + 1) lv (svJ (-x) :: st) t
  | .lcmp => popJ st fun y st => popJ st fun x st => K (pc + 1) lv (svI (lg_cmp x y) :: st) t
  | .i2l => popI st fun x st => K (pc + 1) lv (svJ x.toInt64 :: st) t
  | .l2i => popJ st fun x st => K (pc + 1) lv (svI x.toInt32 :: st) t
  | .i2b => popI st fun x st => K (pc + 1) lv (svI x.toInt8.toInt32 :: st) t
  | .ifCond c off => popI st fun x st => ifI c x 0 (K (tgt pc off) lv st t) (K (pc + 3) lv st t)
  | .if_icmp c off => popI st fun y st => popI st fun x st => ifI c x y (K (tgt pc off) lv st t) (K (pc + 3) lv st t)
  | .ifnull off => popR st fun r st => nuR r (K (tgt pc off) lv st t) (fun _ => K (pc + 3) lv st t)
  | .ifnonnull off => popR st fun r st => nuR r (K (pc + 3) lv st t) (fun _ => K (tgt pc off) lv st t)
  | .goto off => K (tgt pc off) lv st t
  | .tableswitch d lo hi offs => popI st fun x st => sw x (fun o => K (tgt pc o) lv st t) (K (tgt pc d) lv st t) (swL lo offs.toList)
  | .lookupswitch d ps => popI st fun x st => sw x (fun o => K (tgt pc o) lv st t) (K (tgt pc d) lv st t) ps.toList
  | .getfield idx => popR st fun r st => onR r fun a => match X.2.1.1.lookup idx with
    | some (ci, k, _) => tK t a = ci + 1 ∧ K (pc + 3) lv (rdS t a k (tyN (fTy ci k)) :: st) t
    | none => False
  | .putfield idx => match st with
    | v :: st => popR st fun r st => onR r fun a => match X.2.1.1.lookup idx with
      | some (ci, k, w) => tK t a = ci + 1 ∧ gd (!isFin ci k || (w == 1 && X.2.2.2.1)) (match tyN (fTy ci k), v with
        | 0, .inl x => okJ (fTy ci k) x (K (pc + 3) lv st (sI t a k x))
        | 1, .inr (.inl x) => K (pc + 3) lv st (sJ t a k x)
        | 2, .inr (.inr x) => K (pc + 3) lv st (sR t a k x)
        | _, _ => False)
      | none => False
    | [] => False
  | .arraylength => match sc with
    | none => popR st fun r st => onR r fun a => 100 ≤ tK t a ∧ tK t a < 106 ∧ K (pc + 1) lv (svI (nI (tL t a)) :: st) t
    | some s9 => popR st fun r st => onR r fun a => a = s9.1 ∧ K (pc + 1) lv (svI (nI s9.2.1) :: st) t
  | .baload => popI st fun j st => popR st fun r st => onR r fun a => tK t a = 100 ∧ vp_in j (tL t a) ∧ K (pc + 1) lv (svI (tI t a j.toNatClampNeg) :: st) t
  | .iaload => match sc with
    | none => popI st fun j st => popR st fun r st => onR r fun a => tK t a = 101 ∧ vp_in j (tL t a) ∧ K (pc + 1) lv (svI (tI t a j.toNatClampNeg) :: st) t
    | some s9 => popI st fun j st => popR st fun r st => onR r fun a => a = s9.1 ∧ vp_in j s9.2.1 ∧ K (pc + 1) lv (svI (s9.2.2 j.toNatClampNeg) :: st) t
  | .laload => popI st fun j st => popR st fun r st => onR r fun a => tK t a = 102 ∧ vp_in j (tL t a) ∧ K (pc + 1) lv (svJ (tJ t a j.toNatClampNeg) :: st) t
  | .aaload => popI st fun j st => popR st fun r st => onR r fun a => 103 ≤ tK t a ∧ tK t a < 106 ∧ vp_in j (tL t a) ∧ K (pc + 1) lv (svR (tR t a j.toNatClampNeg) :: st) t
  | .bastore => popI st fun x st => popI st fun j st => popR st fun r st => onR r fun a => tK t a = 100 ∧ vp_in j (tL t a) ∧ K (pc + 1) lv st (sI t a j.toNatClampNeg x.toInt8.toInt32)
  | .iastore => popI st fun x st => popI st fun j st => popR st fun r st => onR r fun a => tK t a = 101 ∧ vp_in j (tL t a) ∧ K (pc + 1) lv st (sI t a j.toNatClampNeg x)
  | .lastore => popJ st fun x st => popI st fun j st => popR st fun r st => onR r fun a => tK t a = 102 ∧ vp_in j (tL t a) ∧ K (pc + 1) lv st (sJ t a j.toNatClampNeg x)
  | .newarray at_ => popI st fun n st => gd (decide (aKd at_ < 3)) (¬ n < 0 ∧ n.toNatClampNeg ≤ 60000000 ∧ K (pc + 2) lv (svR (some (tN t)) :: st) (tNew t (100 + aKd at_) n.toNatClampNeg n.toNatClampNeg))
  | .new idx => match X.2.1.2.2.1.lookup idx with
    | some kd => if kd < 100 then K (pc + 3) lv (svR (some (tN t)) :: st) (tNew t kd 0 (nSl.getD (kd - 1) 0)) else
      gd (decide (wgt st ≤ 8) && X.2.2.2.2.isEmpty) (match X.1.lookup (pc + 3), X.1.lookup (pc + 4), X.1.lookup (pc + 6), X.1.lookup (pc + 9) with
      | some (.dup, _), some (.ldc _, _), some (.invokespecial _, _), some (.athrow, _) => Q (.inr (kd, 0)) (tNew t 0 0 6)
      | _, _, _, _ => False)
    | none => False
  | .getstatic idx => match X.2.1.2.2.2.2.2.2.lookup idx with
    | some g => K (pc + 3) lv (svR (gV g) :: st) t
    | none => False
  | .anewarray idx => popI st fun n st => match X.2.1.2.2.1.lookup idx with
    | some kd => gd (decide (3 ≤ aKo kd) && decide (aKo kd < 6)) (¬ n < 0 ∧ n.toNatClampNeg ≤ 60000000 ∧ K (pc + 3) lv (svR (some (tN t)) :: st) (tNew t (100 + aKo kd) n.toNatClampNeg n.toNatClampNeg))
    | none => False
  | .aastore => popR st fun v st => popI st fun j st => popR st fun r st => onR r fun a => 103 ≤ tK t a ∧ tK t a < 106 ∧ vp_in j (tL t a) ∧ nuR v True (fun b => okA (tK t a) (tK t b)) ∧ K (pc + 1) lv st (sR t a j.toNatClampNeg v)
  | .checkcast idx => match X.2.1.2.2.1.lookup idx with
    | some kd => gd (kd == 3 || kd == 9 || kd == 10 || kd == 11) (popR st fun r st => nuR r (K (pc + 3) lv (svR none :: st) t) (fun a => tK t a = kd ∧ K (pc + 3) lv (svR (some a) :: st) t))
    | none => False
  | .invokevirtual idx => match X.2.1.2.1.lookup idx with
    | some j => match mt[j]? with
      | some (na, ci, rk) => popN na st fun as st => popR st fun r st => onR r fun b => if ci = 4000 then gd (decide (wgt st ≤ 8)) ((∃ n, n < 10 ∧ b = sA n) ∧ Cal j (svR (some b) :: as) t (aft X Q K rk pc lv st)) else gd (decide (ci < 99) && decide (wgt st ≤ 8)) (tK t b = ci + 1 ∧ Cal j (svR (some b) :: as) t (aft X Q K rk pc lv st))
      | none => False
    | none => False
  | .invokestatic idx => match X.2.1.2.1.lookup idx with
    | some j => match mt[j]? with
      | some (na, ci, rk) => popN na st fun as st => gd (ci == 1000 && decide (wgt st ≤ 8)) (Cal j as t (aft X Q K rk pc lv st))
      | none => False
    | none => False
  | .invokespecial idx => match X.2.1.2.1.lookup idx with
    | some j => if j = 9999 then popR st fun r st => onR r fun _ => gd (decide (wgt st ≤ 8)) (K (pc + 3) lv st t) else match mt[j]? with
      | some (na, ci, rk) => popN na st fun as st => popR st fun r st => onR r fun b => gd (ci == 2000 && decide (wgt st ≤ 8)) (Cal j (svR (some b) :: as) t (aft X Q K rk pc lv st))
      | none => False
    | none => False
  | .athrow => popR st fun r st => onR r fun a => tK t a = 16 ∧ exc X Q K pc lv t 16 a
  | .ireturn => popI st fun x r => gd r.isEmpty (match X.2.2.1 with
    | some ty => okJ ty x (Q (.inl (some (svI x))) t)
    | none => False)
  | .lreturn => popJ st fun x r => gd r.isEmpty (match X.2.2.1 with
    | some .long => Q (.inl (some (svJ x))) t
    | _ => False)
  | .areturn => popR st fun x r => gd r.isEmpty (match X.2.2.1 with
    | some (.object _) => Q (.inl (some (svR x))) t
    | some (.array _) => Q (.inl (some (svR x))) t
    | _ => False)
  | .return_ => gd st.isEmpty (match X.2.2.1 with
    | none => Q (.inl none) t
    | _ => False)
  | _ => False
end WP
/-- wp with cut points: n instructions at the most -/
def wpc (Cal : Nat → List SV → Ht → (OutT → Ht → Prop) → Prop) (mt : List (Nat × Nat × Nat)) (sA : Nat → Nat) (gV : Nat → Option Nat) (sc : Option (Nat × Nat × (Nat → Int32))) (X : MT) (Q : OutT → Ht → Prop) (cut : List Nat) (Kc : Nat → LV → List SV → Ht → Prop) : Nat → Nat → LV → List SV → Ht → Prop
  | 0, _, _, _, _ => False
  | n + 1, pc, lv, st, t => match X.1.lookup pc with
    | some (i, len) => st1 Cal mt sA gV sc X Q (fun pc' lv' st' t' => if pc' ∈ cut then Kc pc' lv' st' t' else wpc Cal mt sA gV sc X Q cut Kc n pc' lv' st' t') i len pc lv st t
    | none => False
