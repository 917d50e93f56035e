/-! WHAT A QUERY FINDS. A value is a node of the table, or (kind, number, characters); Ev: what comes out and the LOOKS, or why it stopped and the LOOKS -/
abbrev Vl : Type := Nat ⊕ (Nat × Int64 × List Nat)
abbrev Ev (α : Type) : Type := (α × Nat) ⊕ (Int32 × Nat)
def bE {α β : Type} (x : Ev α) (f : α → Nat → Ev β) : Ev β := match x with
  | .inr e => .inr e
  | .inl (a, k) => f a k
def loE (k : Nat) : Ev Unit := if 60000 ≤ k then .inr (-3, k) else .inl ((), k + 1)
def coE (l : List Nat) (x k : Nat) : Ev (List Nat) := if 1000 ≤ l.length then .inr (-4, k) else .inl (l ++ [x], k)
def foE {α : Type} (f : Nat → α → Nat → Ev α) : List Nat → α → Nat → Ev α
  | [], a, k => .inl (a, k)
  | x :: xs, a, k => bE (f x a k) (foE f xs)
section EVS
variable (V : VT)
def mbV (i : Nat) (cs : List Nat) : Option Nat := if eK (V i) = 6 then (eS (V i)).find? (fun k => eN (V k) == some cs) else none
/-- the place that a number tells -/
def plV (z : Int64) (n : Nat) : Int64 := if z < 0 then z + lN n else z
def elV (i : Nat) (z : Int64) : Option Nat := if eK (V i) = 5 then (if plV z (eS (V i)).length < 0 ∨ lN (eS (V i)).length ≤ plV z (eS (V i)).length then none else some ((eS (V i)).getD (plV z (eS (V i)).length).toInt.toNat 0)) else none
def wiV (z lo hi : Int64) : Int64 := if z < lo then lo else if hi < z then hi else z
/-- places up to the end, by the step -/
def upV : Nat → Int64 → Int64 → Int64 → List Nat
  | 0, _, _, _ => []
  | f + 1, i, e, s => if i < e then i.toInt.toNat :: upV f (i + s) e s else []
def dnV : Nat → Int64 → Int64 → Int64 → List Nat
  | 0, _, _, _ => []
  | f + 1, i, e, s => if e < i then i.toInt.toNat :: dnV f (i + s) e s else []
def slP (n : Nat) (a e s : Option Int64) : List Nat :=
  if s.getD 1 = 0 then [] else
  if 0 < s.getD 1 then upV 301 (match a with | none => 0 | some z => wiV (plV z n) 0 (lN n)) (match e with | none => lN n | some z => wiV (plV z n) 0 (lN n)) (s.getD 1) else
  dnV 301 (match a with | none => lN n - 1 | some z => wiV (plV z n) (-1) (lN n - 1)) (match e with | none => -1 | some z => wiV (plV z n) (-1) (lN n - 1)) (s.getD 1)
def slV (i : Nat) (x : QF) : List Nat := if eK (V i) = 5 then (match x with
  | .append p (.append q r) => (slP (eS (V i)).length (unO p) (unO q) (unO r)).map (fun k => (eS (V i)).getD k 0)
  | _ => []) else []
def kdV (a : Vl) : Nat := match a with
  | .inl i => eK (V i)
  | .inr z => z.1
def inV (a : Vl) : Int64 := match a with
  | .inl i => eJ (V i)
  | .inr z => z.2.1
def chV (a : Vl) : List Nat := match a with
  | .inl i => eC (V i)
  | .inr z => z.2.2
def knV (a : Vl) : List Nat := match a with
  | .inl i => eS (V i)
  | .inr _ => []
/-- whether the kids of x are those of another: oth tells the other kid -/
def eqL (g : Nat → Nat → Nat → Ev Bool) (oth : Nat → Nat → Option Nat) : List Nat → Nat → Nat → Ev Bool
  | [], _, k => .inl (true, k)
  | x :: r, m, k => match oth x m with
    | none => .inl (false, k)
    | some o => bE (g x o k) (fun s k => if s then eqL g oth r (m + 1) k else .inl (false, k))
def otV (a b : Vl) (x m : Nat) : Option Nat := if kdV V a = 5 then (knV V b)[m]? else (match b with
  | .inl j => mbV V j ((eN (V x)).getD [])
  | .inr _ => none)
def eqV : Nat → Vl → Vl → Nat → Ev Bool
  | 0, _, _, k => bE (loE k) (fun _ k => .inl (false, k))
  | f + 1, a, b, k => bE (loE k) (fun _ k => if kdV V a ≠ kdV V b ∨ (knV V a).length ≠ (knV V b).length then .inl (false, k) else
    if kdV V a = 3 then .inl (decide (inV V a = inV V b), k) else if kdV V a = 4 then .inl (decide (chV V a = chV V b), k) else
    eqL (fun x o => eqV f (.inl x) (.inl o)) (otV V a b) (knV V a) 0 k)
def ltC : List Nat → List Nat → Bool
  | [], [] => false
  | [], _ :: _ => true
  | _ :: _, [] => false
  | x :: a, y :: b => if x = y then ltC a b else decide (x < y)
def lsO (a b : Option Vl) : Bool := match a, b with
  | some a, some b => if kdV V a = kdV V b then (if kdV V a = 3 then decide (inV V a < inV V b) else if kdV V a = 4 then ltC (chV V a) (chV V b) else false) else false
  | _, _ => false
def eqO (a b : Option Vl) (k : Nat) : Ev Bool := match a, b with
  | none, none => .inl (true, k)
  | some a, some b => eqV V 30 a b k
  | _, _ => .inl (false, k)
def cmO (s : Nat) (a b : Option Vl) (k : Nat) : Ev Bool :=
  if s = 1 then eqO V a b k else if s = 2 then bE (eqO V a b k) (fun r k => .inl (!r, k)) else
  if s = 3 then .inl (lsO V a b, k) else if s = 4 then (if lsO V a b then .inl (true, k) else eqO V a b k) else
  if s = 5 then .inl (lsO V b a, k) else (if lsO V b a then .inl (true, k) else eqO V b a k)
def lnO (a : Option Vl) : Option Vl := match a with
  | none => none
  | some a => if kdV V a < 4 then none else some (.inr (3, lN (if kdV V a = 4 then (chV V a).length else (knV V a).length), []))
def trE (r : Bool) : List Nat × Option Vl := (if r then [0] else [], none)
def onE (l : List Nat) : Option Vl := if l.length = 1 then some (.inl (l.headD 0)) else none
/-- m: 1 segments (l: the nodes before), 11 a segment, 2 selectors at nd (l: what came before), 12 a selector, 3 a formula at nd ([] is false), 13 an or's, 14 an and's, 5, 6 a comparison, 7 an operand, 8 a function's inside, 9 a path operand's nodes, 10 a path's inside -/
def ev : QF → Nat → Nat → List Nat → Nat → Ev (List Nat × Option Vl)
  | .append x y, m, nd, l, k =>
    if m = 1 then bE (ev x 11 nd l k) (fun r k => ev y 1 nd r.1 k) else
    if m = 2 then bE (loE k) (fun _ k => bE (ev x 12 nd l k) (fun r k => ev y 2 nd r.1 k)) else
    if m = 13 then bE (ev x 3 nd [] k) (fun r k => if r.1 = [] then ev y 13 nd [] k else .inl (r, k)) else
    if m = 14 then bE (ev x 3 nd [] k) (fun r k => if r.1 = [] then .inl (r, k) else ev y 14 nd [] k) else
    bE (ev x 7 nd [] k) (fun a k => bE (ev y 7 nd [] k) (fun b k => bE (cmO V (l.headD 0) a.2 b.2 k) (fun r k => .inl (trE r, k))))
  | .tag g x, m, nd, l, k =>
    if m = 11 then bE (foE (fun i acc k => if g = 1 then foE (fun j acc k => bE (loE k) (fun _ k => bE (ev x 2 j acc k) (fun r k => .inl (r.1, k)))) (List.range' i (eL (V i) + 1 - i)) acc k else bE (ev x 2 i acc k) (fun r k => .inl (r.1, k))) l [] k) (fun r k => .inl ((r, none), k)) else
    if m = 12 then bE (
      if g = 1 then (match mbV V nd (unC x) with
        | none => .inl (l, k)
        | some j => coE l j k) else
      if g = 2 then foE (fun j acc k => coE acc j k) (eS (V nd)) l k else
      if g = 3 then (match elV V nd (unI x) with
        | none => .inl (l, k)
        | some j => coE l j k) else
      if g = 4 then foE (fun j acc k => coE acc j k) (slV V nd x) l k else
      foE (fun j acc k => bE (loE k) (fun _ k => bE (ev x 3 j [] k) (fun r k => if r.1 = [] then .inl (acc, k) else coE acc j k))) (eS (V nd)) l k) (fun r k => .inl ((r, none), k)) else
    if m = 3 then (
      if g = 10 then ev x 13 nd [] k else if g = 11 then ev x 14 nd [] k else
      if g = 12 then bE (ev x 3 nd [] k) (fun r k => .inl (trE (decide (r.1 = [])), k)) else
      if g = 13 then ev x 5 nd [] k else
      if g = 14 then bE (ev x 10 nd [] k) (fun r k => .inl (trE (decide (r.1 ≠ [])), k)) else .inl (([], none), k)) else
    if m = 5 then ev x 6 nd [g] k else
    if m = 10 then ev x 1 nd [if g % 2 = 1 then 0 else nd] k else
    if m = 9 then ev x 10 nd [] k else
    if m = 8 then (if g = 1 then bE (ev x 7 nd [] k) (fun r k => .inl (([], lnO V r.2), k)) else bE (ev x 9 nd [] k) (fun r k => .inl (([], if g = 2 then some (.inr (3, lN r.1.length, [])) else onE r.1), k))) else
    if g = 20 then .inl (([], some (.inr (3, unI x, []))), k) else
    if g = 21 then .inl (([], some (.inr (4, 0, unC x))), k) else
    if g = 22 then .inl (([], some (.inr (2, 0, []))), k) else
    if g = 23 then .inl (([], some (.inr (1, 0, []))), k) else
    if g = 24 then .inl (([], some (.inr (0, 0, []))), k) else
    if g = 25 then bE (ev x 10 nd [] k) (fun r k => .inl (([], onE r.1), k)) else ev x 8 nd [] k
  | _, m, _, l, k => if m = 14 then .inl (trE true, k) else if m = 13 then .inl (trE false, k) else .inl ((l, none), k)
end EVS
/-- how many filters lie within one another -/
def fdQ : QF → Nat → Nat
  | .append x y, m => if m = 1 then max (fdQ x 11) (fdQ y 1) else if m = 2 then max (fdQ x 12) (fdQ y 2) else if m = 13 then max (fdQ x 3) (fdQ y 13) else max (fdQ x 7) (fdQ y 7)
  | .tag g x, m => if m = 11 then fdQ x 2 else if m = 12 then (if g = 5 then fdQ x 3 + 1 else 0) else
    if m = 3 then (if g = 10 ∨ g = 11 then fdQ x 13 else if g = 12 then fdQ x 3 else if g = 13 then fdQ x 5 else if g = 14 then fdQ x 10 else 0) else
    if m = 5 then fdQ x 6 else if m = 10 then fdQ x 1 else if m = 8 then fdQ x 7 else if g = 25 then fdQ x 10 else if g = 26 then fdQ x 8 else 0
  | _, _ => 0
