/-! weakest preconditions: the JDK -/
/-- java/lang/String.checkIndex(II)V -/
def vc258 (Cal : Nat → List SV → Ht → (OutT → Ht → Prop) → Prop) (sA : Nat → Nat) (gV : Nat → Option Nat) (Q : OutT → Ht → Prop)  (x1 : Int32) (x2 : Int32) (t : Ht) : Prop := Cal 280 [svI x1, svI x2, svR (gV 3)] t (aftV (fun v1 t2 => rI v1 (fun x6 => Q (.inl none) t2)) (fun k3 q4 t5 => Q (.inr (k3, q4)) t5))
theorem mo258 : MOF 258 mE258 X258 := ⟨rfl, by decide +kernel, mK258.1.1, pj0_ok, X258_ok⟩
set_option maxRecDepth 100000 in
theorem cal258 {C : Cx} {d : Nat} {Post : OutT → Ht → Prop} {x1 : Int32} {x2 : Int32} {t : Ht} (h : vc258 (CalG C mtab d) (cS C) (cG C) Post x1 x2 t) : CalG C mtab (d + 1) 258 [svI x1, svI x2] t Post := cal_ofNF (N := 8) mo258 (Nat.le_of_ble_eq_true rfl) h
/-- java/util/AbstractCollection.<init>()V -/
def vc264 (Cal : Nat → List SV → Ht → (OutT → Ht → Prop) → Prop) (sA : Nat → Nat) (gV : Nat → Option Nat) (Q : OutT → Ht → Prop)  (x0 : Nat) (t : Ht) : Prop := Q (.inl none) t
theorem mo264 : MOF 264 mE264 X264 := ⟨rfl, by decide +kernel, mK264.1.1, pj7_ok, X264_ok⟩
set_option maxRecDepth 100000 in
theorem cal264 {C : Cx} {d : Nat} {Post : OutT → Ht → Prop} {x0 : Nat} {t : Ht} (h : vc264 (CalG C mtab d) (cS C) (cG C) Post x0 t) : CalG C mtab (d + 1) 264 [svR (some x0)] t Post := cal_ofNF (N := 5) mo264 (Nat.le_of_ble_eq_true rfl) h
/-- java/util/AbstractList.<init>()V -/
def vc265 (Cal : Nat → List SV → Ht → (OutT → Ht → Prop) → Prop) (sA : Nat → Nat) (gV : Nat → Option Nat) (Q : OutT → Ht → Prop)  (x0 : Nat) (t : Ht) : Prop := Cal 264 [svR (some x0)] t (aftV (fun v1 t2 => v1 = none ∧ tK t2 x0 = 1 ∧ Q (.inl none) (sI t2 x0 0 (0 : Int32))) (fun k3 q4 t5 => Q (.inr (k3, q4)) t5))
theorem mo265 : MOF 265 mE265 X265 := ⟨rfl, by decide +kernel, mK265.1.1, pj6_ok, X265_ok⟩
set_option maxRecDepth 100000 in
theorem cal265 {C : Cx} {d : Nat} {Post : OutT → Ht → Prop} {x0 : Nat} {t : Ht} (h : vc265 (CalG C mtab d) (cS C) (cG C) Post x0 t) : CalG C mtab (d + 1) 265 [svR (some x0)] t Post := cal_ofNF (N := 8) mo265 (Nat.le_of_ble_eq_true rfl) h
/-- java/util/ArrayList.<init>()V -/
def vc266 (Cal : Nat → List SV → Ht → (OutT → Ht → Prop) → Prop) (sA : Nat → Nat) (gV : Nat → Option Nat) (Q : OutT → Ht → Prop)  (x0 : Nat) (t : Ht) : Prop := Cal 265 [svR (some x0)] t (aftV (fun v1 t2 => v1 = none ∧ tK t2 x0 = 1 ∧ Q (.inl none) (sR t2 x0 1 (gV 2))) (fun k3 q4 t5 => Q (.inr (k3, q4)) t5))
theorem mo266 : MOF 266 mE266 X266 := ⟨rfl, by decide +kernel, mK266.1.1, pj5_ok, X266_ok⟩
set_option maxRecDepth 100000 in
theorem cal266 {C : Cx} {d : Nat} {Post : OutT → Ht → Prop} {x0 : Nat} {t : Ht} (h : vc266 (CalG C mtab d) (cS C) (cG C) Post x0 t) : CalG C mtab (d + 1) 266 [svR (some x0)] t Post := cal_ofNF (N := 8) mo266 (Nat.le_of_ble_eq_true rfl) h
/-- java/util/ArrayList.grow()[Ljava/lang/Object; -/
def vc268 (Cal : Nat → List SV → Ht → (OutT → Ht → Prop) → Prop) (sA : Nat → Nat) (gV : Nat → Option Nat) (Q : OutT → Ht → Prop)  (x0 : Nat) (t : Ht) : Prop := tK t x0 = 1 ∧ tK t x0 = 1 ∧ Cal 267 [svR (some x0), svI ((tI t x0 2) + (1 : Int32))] t (aftV (fun v1 t2 => rR v1 (fun x6 => Q (.inl (some (svR x6))) t2)) (fun k3 q4 t5 => Q (.inr (k3, q4)) t5))
theorem mo268 : MOF 268 mE268 X268 := ⟨rfl, by decide +kernel, mK268.1.1, pj5_ok, X268_ok⟩
set_option maxRecDepth 100000 in
theorem cal268 {C : Cx} {d : Nat} {Post : OutT → Ht → Prop} {x0 : Nat} {t : Ht} (h : vc268 (CalG C mtab d) (cS C) (cG C) Post x0 t) : CalG C mtab (d + 1) 268 [svR (some x0)] t Post := cal_ofNF (N := 9) mo268 (Nat.le_of_ble_eq_true rfl) h
/-- java/util/ArrayList.size()I -/
def vc269 (Cal : Nat → List SV → Ht → (OutT → Ht → Prop) → Prop) (sA : Nat → Nat) (gV : Nat → Option Nat) (Q : OutT → Ht → Prop)  (x0 : Nat) (t : Ht) : Prop := tK t x0 = 1 ∧ Q (.inl (some (svI (tI t x0 2)))) t
theorem mo269 : MOF 269 mE269 X269 := ⟨rfl, by decide +kernel, mK269.1.1, pj5_ok, X269_ok⟩
set_option maxRecDepth 100000 in
theorem cal269 {C : Cx} {d : Nat} {Post : OutT → Ht → Prop} {x0 : Nat} {t : Ht} (h : vc269 (CalG C mtab d) (cS C) (cG C) Post x0 t) : CalG C mtab (d + 1) 269 [svR (some x0)] t Post := cal_ofNF (N := 5) mo269 (Nat.le_of_ble_eq_true rfl) h
/-- java/util/ArrayList.elementData(I)Ljava/lang/Object; -/
def vc270 (Cal : Nat → List SV → Ht → (OutT → Ht → Prop) → Prop) (sA : Nat → Nat) (gV : Nat → Option Nat) (Q : OutT → Ht → Prop)  (x0 : Nat) (x1 : Int32) (t : Ht) : Prop := tK t x0 = 1 ∧ onR (tR t x0 1) (fun a1 => 103 ≤ tK t a1 ∧ tK t a1 < 106 ∧ vp_in x1 (tL t a1) ∧ Q (.inl (some (svR (tR t a1 (x1).toNatClampNeg)))) t)
theorem mo270 : MOF 270 mE270 X270 := ⟨rfl, by decide +kernel, mK270.1.1, pj5_ok, X270_ok⟩
set_option maxRecDepth 100000 in
theorem cal270 {C : Cx} {d : Nat} {Post : OutT → Ht → Prop} {x0 : Nat} {x1 : Int32} {t : Ht} (h : vc270 (CalG C mtab d) (cS C) (cG C) Post x0 x1 t) : CalG C mtab (d + 1) 270 [svR (some x0), svI x1] t Post := cal_ofNF (N := 7) mo270 (Nat.le_of_ble_eq_true rfl) h
/-- java/util/ArrayList.get(I)Ljava/lang/Object; -/
def vc271 (Cal : Nat → List SV → Ht → (OutT → Ht → Prop) → Prop) (sA : Nat → Nat) (gV : Nat → Option Nat) (Q : OutT → Ht → Prop)  (x0 : Nat) (x1 : Int32) (t : Ht) : Prop := tK t x0 = 1 ∧ Cal 277 [svI x1, svI (tI t x0 2)] t (aftV (fun v1 t2 => rI v1 (fun x6 => tK t2 x0 = 1 ∧ Cal 270 [svR (some x0), svI x1] t2 (aftV (fun v7 t8 => rR v7 (fun x12 => Q (.inl (some (svR x12))) t8)) (fun k9 q10 t11 => Q (.inr (k9, q10)) t11)))) (fun k3 q4 t5 => Q (.inr (k3, q4)) t5))
theorem mo271 : MOF 271 mE271 X271 := ⟨rfl, by decide +kernel, mK271.1.1, pj5_ok, X271_ok⟩
set_option maxRecDepth 100000 in
theorem cal271 {C : Cx} {d : Nat} {Post : OutT → Ht → Prop} {x0 : Nat} {x1 : Int32} {t : Ht} (h : vc271 (CalG C mtab d) (cS C) (cG C) Post x0 x1 t) : CalG C mtab (d + 1) 271 [svR (some x0), svI x1] t Post := cal_ofNF (N := 11) mo271 (Nat.le_of_ble_eq_true rfl) h
/-- java/util/Objects.checkIndex(II)I -/
def vc277 (Cal : Nat → List SV → Ht → (OutT → Ht → Prop) → Prop) (sA : Nat → Nat) (gV : Nat → Option Nat) (Q : OutT → Ht → Prop)  (x1 : Int32) (x2 : Int32) (t : Ht) : Prop := Cal 280 [svI x1, svI x2, svR none] t (aftV (fun v1 t2 => rI v1 (fun x6 => Q (.inl (some (svI x6))) t2)) (fun k3 q4 t5 => Q (.inr (k3, q4)) t5))
theorem mo277 : MOF 277 mE277 X277 := ⟨rfl, by decide +kernel, mK277.1.1, pj2_ok, X277_ok⟩
set_option maxRecDepth 100000 in
theorem cal277 {C : Cx} {d : Nat} {Post : OutT → Ht → Prop} {x1 : Int32} {x2 : Int32} {t : Ht} (h : vc277 (CalG C mtab d) (cS C) (cG C) Post x1 x2 t) : CalG C mtab (d + 1) 277 [svI x1, svI x2] t Post := cal_ofNF (N := 7) mo277 (Nat.le_of_ble_eq_true rfl) h
/-- jdk/internal/util/ArraysSupport.newLength(III)I -/
def vc278 (Cal : Nat → List SV → Ht → (OutT → Ht → Prop) → Prop) (sA : Nat → Nat) (gV : Nat → Option Nat) (Q : OutT → Ht → Prop)  (x1 : Int32) (x2 : Int32) (x3 : Int32) (t : Ht) : Prop := Cal 250 [svI x2, svI x3] t (aftV (fun v1 t2 => rI v1 (fun x6 => br ((x1 + x6) ≤ (0 : Int32)) (Cal 279 [svI x1, svI x2] t2 (aftV (fun v7 t8 => rI v7 (fun x12 => Q (.inl (some (svI x12))) t8)) (fun k9 q10 t11 => Q (.inr (k9, q10)) t11))) (br ((2147483639 : Int32) < (x1 + x6)) (Cal 279 [svI x1, svI x2] t2 (aftV (fun v13 t14 => rI v13 (fun x18 => Q (.inl (some (svI x18))) t14)) (fun k15 q16 t17 => Q (.inr (k15, q16)) t17))) (Q (.inl (some (svI (x1 + x6)))) t2)))) (fun k3 q4 t5 => Q (.inr (k3, q4)) t5))
theorem mo278 : MOF 278 mE278 X278 := ⟨rfl, by decide +kernel, mK278.1.1, pj4_ok, X278_ok⟩
set_option maxRecDepth 100000 in
theorem cal278 {C : Cx} {d : Nat} {Post : OutT → Ht → Prop} {x1 : Int32} {x2 : Int32} {x3 : Int32} {t : Ht} (h : vc278 (CalG C mtab d) (cS C) (cG C) Post x1 x2 x3 t) : CalG C mtab (d + 1) 278 [svI x1, svI x2, svI x3] t Post := cal_ofNF (N := 20) mo278 (Nat.le_of_ble_eq_true rfl) h
/-- jdk/internal/util/Preconditions.checkIndex(IILjava/util/function/BiFunction;)I -/
def vc280 (Cal : Nat → List SV → Ht → (OutT → Ht → Prop) → Prop) (sA : Nat → Nat) (gV : Nat → Option Nat) (Q : OutT → Ht → Prop)  (x1 : Int32) (x2 : Int32) (x3 : Option Nat) (t : Ht) : Prop := br (x1 < 0) (False) (br (x1 < x2) (Q (.inl (some (svI x1))) t) (False))
theorem mo280 : MOF 280 mE280 X280 := ⟨rfl, by decide +kernel, mK280.1.1, pj3_ok, X280_ok⟩
set_option maxRecDepth 100000 in
theorem cal280 {C : Cx} {d : Nat} {Post : OutT → Ht → Prop} {x1 : Int32} {x2 : Int32} {x3 : Option Nat} {t : Ht} (h : vc280 (CalG C mtab d) (cS C) (cG C) Post x1 x2 x3 t) : CalG C mtab (d + 1) 280 [svI x1, svI x2, svR x3] t Post := cal_ofNF (N := 14) mo280 (Nat.le_of_ble_eq_true rfl) h
