/-! THE TABLE OF A VALUE: kind, the one above, depth, number; chars, name, index; kids, last -/
abbrev Ent : Type := (Nat × Option Nat × Nat × Int64) × (List Nat × Option (List Nat) × Option Nat) × (List Nat × Nat)
abbrev VT : Type := Nat → Ent
def eK (e : Ent) : Nat := e.1.1
def eU (e : Ent) : Option Nat := e.1.2.1
def eD (e : Ent) : Nat := e.1.2.2.1
def eJ (e : Ent) : Int64 := e.1.2.2.2
def eC (e : Ent) : List Nat := e.2.1.1
def eN (e : Ent) : Option (List Nat) := e.2.1.2.1
def eX (e : Ent) : Option Nat := e.2.1.2.2
def eS (e : Ent) : List Nat := e.2.2.1
def eL (e : Ent) : Nat := e.2.2.2
def eMk (k : Nat) (u : Option Nat) (d : Nat) (j : Int64) (cs : List Nat) (c : Nat) : Ent := ((k, u, d, j), (cs, none, none), ([], c))
def eNam (e : Ent) (nm : Option (List Nat)) (ix : Option Nat) : Ent := (e.1, (e.2.1.1, nm, ix), e.2.2)
def eAdd (e : Ent) (k : Nat) : Ent := (e.1, e.2.1, (e.2.2.1 ++ [k], e.2.2.2))
def eLst (e : Ent) (l : Nat) : Ent := (e.1, e.2.1, (e.2.2.1, l))
/-- the place that a new kid of p has in it, if p is an array -/
def kIx (e : Ent) : Option Nat := if eK e = 5 then some (eS e).length else none
def vAdo (V : VT) (p k : Nat) (nm : Option (List Nat)) : VT := up1 (up1 V k (eNam (V k) nm (kIx (V p)))) p (eAdd (V p) k)
def vLst (V : VT) (p l : Nat) : VT := up1 V p (eLst (V p) l)
/-- the kind of the value that a byte begins -/
def kdB (x : Int32) : Option Nat := if x = 34 then some 4 else if x = 91 then some 5 else if x = 102 then some 1 else if x = 110 then some 0 else if x = 116 then some 2 else if x = 123 then some 6 else if x = 45 then some 3 else
  if (if x < 48 then (0 : Int32) else if 57 < x then 0 else 1) = 0 then none else some 3
abbrev Rs : Type := (Nat × Nat × VT) ⊕ (Nat × Nat)
section VSP
variable (b : By) (n : Nat) (rd : Nat → Nat → VT → Rs) (p : Nat)
/-- the elements of an array p -/
def elF : Nat → Nat → Nat → VT → Rs
  | 0, i, _, _ => .inr (1, i)
  | g + 1, i, c, V => match rd i c V with
    | .inr e => .inr e
    | .inl (j, c', V') => if pk b n (sk b n j) = 44 then elF g (sk b n (sk b n j + 1)) c' (vAdo V' p c none) else
      if pk b n (sk b n j) = 93 then .inl (sk b n j + 1, c', vAdo V' p c none) else .inr (1, sk b n j)
def hasN (V : VT) (p : Nat) (cs : List Nat) : Bool := (eS (V p)).any (fun k => eN (V k) == some cs)
/-- one member of an object p -/
def mbS (i c : Nat) (V : VT) : Rs := if pk b n i = 34 then (match stS b n 34 (i + 1) with
  | .inr q => .inr (1, q)
  | .inl (cs, j0) => if hasN V p cs then .inr (2, i) else if pk b n (sk b n j0) = 58 then (match rd (sk b n (sk b n j0 + 1)) c V with
    | .inr e => .inr e
    | .inl (j, c', V') => .inl (j, c', vAdo V' p c (some cs))) else .inr (1, sk b n j0)) else .inr (1, i)
def obF : Nat → Nat → Nat → VT → Rs
  | 0, i, _, _ => .inr (1, i)
  | g + 1, i, c, V => match mbS b n rd p i c V with
    | .inr e => .inr e
    | .inl (j, c', V') => if pk b n (sk b n j) = 44 then obF g (sk b n (sk b n j + 1)) c' V' else
      if pk b n (sk b n j) = 125 then .inl (sk b n j + 1, c', V') else .inr (1, sk b n j)
end VSP
section VS2
variable (b : By) (n : Nat) (W : Nat → (Nat × Bool × Nat) ⊕ Nat)
def wdK (k : Nat) : Nat := if k = 0 then 4 else if k = 1 then 2 else 7
/-- what stands behind the first byte of a value of kind k at i; its node is c, which V has already; d: its number's digits -/
def rsS (rd : Nat → Nat → VT → Rs) (k i c : Nat) (V : VT) : Rs :=
  if k < 3 then (match wdS b n (txW (wdK k)) i with
    | .inr p => .inr (1, p)
    | .inl j => .inl (j, c + 1, V)) else
  if k = 3 then (match W i with
    | .inr p => .inr (1, p)
    | .inl (j, m, N) => if 9007199254740991 < N then .inr (3, i) else .inl (j, c + 1, up1 V c (eMk 3 (eU (V c)) (eD (V c)) (sgR m N) [] c))) else
  if k = 4 then (match stS b n 34 (i + 1) with
    | .inr p => .inr (1, p)
    | .inl (cs, j) => .inl (j, c + 1, up1 V c (eMk 4 (eU (V c)) (eD (V c)) 0 cs c))) else
  if k = 5 then (if pk b n (sk b n (i + 1)) = 93 then .inl (sk b n (i + 1) + 1, c + 1, V) else elF b n rd c (n + 1) (sk b n (i + 1)) (c + 1) V) else
  if pk b n (sk b n (i + 1)) = 125 then .inl (sk b n (i + 1) + 1, c + 1, V) else obF b n rd c (n + 1) (sk b n (i + 1)) (c + 1) V
def rsL (c : Nat) (x : Rs) : Rs := match x with
  | .inr e => .inr e
  | .inl (j, c', V') => .inl (j, c', vLst V' c (c' - 1))
/-- a value at i, the c-th: f more depths below it -/
def vaS : Nat → Option Nat → Nat → Nat → VT → Rs
  | 0, _, i, _, _ => match kdB (pk b n i) with
    | none => .inr (1, i)
    | some _ => .inr (4, i)
  | f + 1, u, i, c, V => match kdB (pk b n i) with
    | none => .inr (1, i)
    | some k => if 300 ≤ c then .inr (4, i) else rsL c (rsS b n W (vaS f (some c)) k i c (up1 V c (eMk k u (30 - f) 0 [] c)))
/-- a whole text -/
def whS (V : VT) : Rs := match vaS b n W 30 none (sk b n 0) 0 V with
  | .inr e => .inr e
  | .inl (j, c, V') => if sk b n j < n then .inr (1, sk b n j) else .inl (sk b n j, c, V')
end VS2
theorem kdB_dgt : ∀ x, x < 256 → (kdB (nI x) = none ∨ ∃ k, k < 7 ∧ kdB (nI x) = some k) := by decide +kernel
theorem kdB_lt {b : By} {n i k : Nat} (hb : ∀ k, b k < 256) (h : kdB (pk b n i) = some k) : i < n ∧ k < 7 := by
  by_cases e : i < n
  · rw [pkI e] at h
    rcases kdB_dgt _ (hb i) with z | ⟨k', h1, z⟩
    · rw [z] at h; cases h
    · rw [z] at h
      injection h with h
      subst h
      exact ⟨e, h1⟩
  · rw [pkO (by omega)] at h
    rw [show kdB (-1) = none by decide] at h; cases h
