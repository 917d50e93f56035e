/-! A QUERY AS A TREE. The carrier is core Lean's Format, used as a tree with numbers: tag k x, append x y (a pair, a list's cell), nil. -/
abbrev QF : Type := Std.Format
def qN : QF := .nil
def qT (k : Nat) (x : QF) : QF := .tag k x
def qP (x y : QF) : QF := .append x y
/-- characters, numbers -/
def qC : List Nat → QF
  | [] => .nil
  | c :: cs => .tag c (qC cs)
def unC : QF → List Nat
  | .tag c x => c :: unC x
  | _ => []
theorem unC_qC : ∀ cs : List Nat, unC (qC cs) = cs
  | [] => rfl
  | c :: cs => by show c :: unC (qC cs) = _; rw [unC_qC cs]
def qI (m : Bool) (N : Nat) : QF := .tag (if m then 1 else 0) (.tag N .nil)
def unI : QF → Int64
  | .tag m (.tag N _) => sgR (m == 1) N
  | _ => 0
theorem unI_qI (m : Bool) (N : Nat) : unI (qI m N) = sgR m N := by cases m <;> rfl
/-- a list of trees, the last one behind -/
def qApp : QF → QF → QF
  | .append x y, z => .append x (qApp y z)
  | _, z => .append z .nil
def qLen : QF → Nat
  | .append _ y => qLen y + 1
  | _ => 0
/-! the parts: selectors 1 name, 2 all, 3 index, 4 slice, 5 filter; segment: tag deep, its selectors; path: tag (root + 2 single), its segments;
    10 or, 11 and (lists), 12 not, 13 comparison (tag sign, pair), 14 a path as a test; 20 int, 21 string, 22 true, 23 false, 24 null, 25 path, 26 function (tag which, argument), 27 a function with a fault -/
def qNam (cs : List Nat) : QF := qT 1 (qC cs)
def qAll : QF := qT 2 qN
def qIdx (m : Bool) (N : Nat) : QF := qT 3 (qI m N)
def qOpt (o : Option (Bool × Nat)) : QF := match o with
  | none => qN
  | some (m, N) => qT 0 (qI m N)
def unO : QF → Option Int64
  | .tag _ x => some (unI x)
  | _ => none
def qSli (a b c : Option (Bool × Nat)) : QF := qT 4 (qP (qOpt a) (qP (qOpt b) (qOpt c)))
def qFil (x : QF) : QF := qT 5 x
def isSel1 : QF → Bool
  | .tag k _ => k == 1 || k == 3
  | _ => false
/-- what may be compared -/
def isCmp : QF → Bool
  | .tag 25 (.tag r _) => r == 2 || r == 3
  | .tag k _ => k == 20 || k == 21 || k == 22 || k == 23 || k == 24 || k == 26 || k == 27
  | _ => false
def isLit : QF → Bool
  | .tag k _ => k == 20 || k == 21 || k == 22 || k == 23 || k == 24
  | _ => false
def isFun : QF → Bool
  | .tag k _ => k == 26 || k == 27
  | _ => false
def isPth : QF → Bool
  | .tag k _ => k == 25
  | _ => false
abbrev LT : Type := Nat × Nat
def noteL (L : LT) (k p : Nat) : LT := if L.1 = 0 ∨ p < L.2 then (k, p) else L
abbrev Qs : Type := (Nat × LT × QF) ⊕ (Nat × Nat)
section QS
variable (b : By) (n : Nat)
def atInt (i : Nat) : Bool := decide (pk b n i = 45) || dgt b n i
def atStr (i : Nat) : Bool := decide (pk b n i = 34) || decide (pk b n i = 39)
def atOp (i : Nat) : Bool := decide (pk b n i = 61) || (decide (pk b n i = 33) || (decide (pk b n i = 60) || decide (pk b n i = 62)))
def isSm (i : Nat) : Bool := decide (i < n) && (decide (97 ≤ b i) && decide (b i ≤ 122))
def isWd (i : Nat) : Bool := isSm b n i || (dgt b n i || decide (pk b n i = 95))
/-- an int, noted if it is too great -/
def inQ (mz : Bool) (i : Nat) (L : LT) : (Nat × LT × Bool × Nat) ⊕ (Nat × Nat) := match wnS b n mz i with
  | .inr p => .inr (1, p)
  | .inl (j, m, N) => .inl (j, (if 9007199254740991 < N then noteL L 3 i else L), m, N)
/-- the step of a slice -/
def slT (a e : Option (Bool × Nat)) (j : Nat) (L : LT) : Qs := if pk b n j = 58 then (if atInt b n (sk b n (j + 1)) then (match inQ b n false (sk b n (j + 1)) L with
    | .inr x => .inr x
    | .inl (k, L', m, N) => .inl (k, L', qSli a e (some (m, N)))) else .inl (sk b n (j + 1), L, qSli a e none)) else .inl (j, L, qSli a e none)
/-- a slice from its first : on -/
def slQ (a : Option (Bool × Nat)) (i : Nat) (L : LT) : Qs :=
  if atInt b n (sk b n (i + 1)) then (match inQ b n false (sk b n (i + 1)) L with
    | .inr x => .inr x
    | .inl (j, L', m, N) => slT b n a (some (m, N)) (sk b n j) L') else slT b n a none (sk b n (i + 1)) L
variable (f : Nat) (orD : Nat → LT → Qs) (agD : Nat → LT → (Nat × LT × QF × Bool) ⊕ (Nat × Nat))
/-- a selector -/
def seQ (strict : Bool) (i : Nat) (L : LT) : Qs :=
  if atStr b n i then (match stS b n (pk b n i) (i + 1) with
    | .inr p => .inr (1, p)
    | .inl (cs, j) => .inl (j, L, qNam cs)) else
  if atInt b n i then (match inQ b n false i L with
    | .inr x => .inr x
    | .inl (j, L', m, N) => if strict = false ∧ pk b n (sk b n j) = 58 then slQ b n (some (m, N)) (sk b n j) L' else .inl (j, L', qIdx m N)) else
  if strict then .inr (1, i) else
  if pk b n i = 58 then slQ b n none i L else
  if pk b n i = 63 then (if f = 0 then .inr (4, i) else match orD (sk b n (i + 1)) L with
    | .inr x => .inr x
    | .inl (j, L', x) => .inl (j, L', qFil x)) else
  if pk b n i = 42 then .inl (i + 1, L, qAll) else .inr (1, i)
/-- the selectors behind the first one, up to ] -/
def slF : Nat → Nat → LT → QF → Qs
  | 0, i, _, _ => .inr (1, i)
  | g + 1, i, L, x => if pk b n (sk b n i) = 44 then (match seQ b n f orD false (sk b n (sk b n i + 1)) L with
      | .inr e => .inr e
      | .inl (j, L', y) => slF g j L' (qApp x y)) else
    if pk b n (sk b n i) = 93 then .inl (sk b n i + 1, L, x) else .inr (1, sk b n i)
/-- brackets: whether they are a singular one's, too -/
def bkQ (strict : Bool) (i : Nat) (L : LT) : (Nat × LT × QF × Bool) ⊕ (Nat × Nat) :=
  match seQ b n f orD strict (if strict then i + 1 else sk b n (i + 1)) L with
  | .inr e => .inr e
  | .inl (j, L', x) => if strict then (if pk b n j = 93 then .inl (j + 1, L', qP x qN, isSel1 x) else .inr (1, j)) else
    match slF b n f orD (n + 1) j L' (qP x qN) with
    | .inr e => .inr e
    | .inl (k, L'', y) => .inl (k, L'', y, !(isBl (pk b n (i + 1))) && decide (pk b n j = 93) && isSel1 x)
/-- * or a name -/
def dtQ (strict : Bool) (i : Nat) (L : LT) : (Nat × LT × QF × Bool) ⊕ (Nat × Nat) :=
  if strict = false ∧ pk b n i = 42 then .inl (i + 1, L, qP qAll qN, false) else match pnS b n i with
    | .inr p => .inr (1, p)
    | .inl (cs, j) => .inl (j, L, qP (qNam cs) qN, true)
def mkQ (d : Nat) (x : (Nat × LT × QF × Bool) ⊕ (Nat × Nat)) : (Nat × LT × QF × Bool) ⊕ (Nat × Nat) := match x with
  | .inr e => .inr e
  | .inl (j, L', y, s) => .inl (j, L', qT d y, s && d == 0)
/-- a segment: whether it is a singular one's, too -/
def sgQ (strict : Bool) (i : Nat) (L : LT) : (Nat × LT × QF × Bool) ⊕ (Nat × Nat) :=
  if pk b n i = 91 then mkQ 0 (bkQ b n f orD strict i L) else
  if strict = false ∧ pk b n (i + 1) = 46 then (if pk b n (i + 2) = 91 then mkQ 1 (bkQ b n f orD false (i + 2) L) else mkQ 1 (dtQ b n strict (i + 2) L)) else mkQ 0 (dtQ b n strict (i + 1) L)
/-- segments from the place i on, which is behind blanks; behind: the place behind the last one -/
def sgF (strict : Bool) : Nat → Nat → Nat → LT → Bool → QF → (Nat × Nat × LT × Bool × QF) ⊕ (Nat × Nat)
  | 0, i, _, _, _, _ => .inr (1, i)
  | g + 1, i, h, L, s, x => if pk b n i = 46 ∨ pk b n i = 91 then (match sgQ b n f orD strict i L with
      | .inr e => .inr e
      | .inl (j, L', y, s') => sgF strict g (sk b n j) j L' (s && s') (qApp x y)) else .inl (i, h, L, s, x)
def sgS (strict : Bool) (i : Nat) (L : LT) : (Nat × Nat × LT × Bool × QF) ⊕ (Nat × Nat) := sgF b n f orD strict (n + 1) (sk b n i) i L true qN
/-- a path from its @ or $ on -/
def ptQ (strict : Bool) (i : Nat) (L : LT) : Qs := match sgS b n f orD strict (i + 1) L with
  | .inr e => .inr e
  | .inl (j, _, L', s, x) => .inl (j, L', qT 25 (qT ((if pk b n i = 36 then 1 else 0) + (if s then 2 else 0)) x))
/-- the end of a word -/
def wdF : Nat → Nat → Nat
  | 0, i => i
  | g + 1, i => if isWd b n i then wdF g (i + 1) else i
def isWrd (i j m : Nat) : Bool := decide (j - i = (txW m).length) && wdB b n (txW m) i
def fnK (i j : Nat) : Nat := if isWrd b n i j 3 then 1 else if isWrd b n i j 1 then 2 else if isWrd b n i j 9 then 3 else 0
/-- whether a function takes the argument -/
def wants (k : Nat) (x : QF) (lg : Bool) : Bool := !lg && (if k = 1 then isCmp x else decide (k = 2 ∨ k = 3) && isPth x)
/-- the arguments up to ): how many before, the first one -/
def agF : Nat → Nat → LT → Nat → QF → Bool → (Nat × LT × Nat × QF × Bool) ⊕ (Nat × Nat)
  | 0, i, _, _, _, _ => .inr (1, i)
  | g + 1, i, L, m, x, lg => match agD i L with
    | .inr e => .inr e
    | .inl (j, L', y, ly) => if pk b n (sk b n j) = 44 then agF g (sk b n (sk b n j + 1)) L' (m + 1) (if m = 0 then y else x) (if m = 0 then ly else lg) else
      if pk b n (sk b n j) = 41 then .inl (sk b n j + 1, L', m + 1, (if m = 0 then y else x), (if m = 0 then ly else lg)) else .inr (1, sk b n j)
/-- a function: its name from i on, its ( at j -/
def fnQ (i j : Nat) (L : LT) : Qs := if f = 0 then .inr (4, j) else
  match (if pk b n (sk b n (j + 1)) = 41 then .inl (sk b n (j + 1) + 1, L, 0, qN, false) else agF b n agD (n + 1) (sk b n (j + 1)) L 0 qN false) with
  | .inr e => .inr e
  | .inl (k, L', m, x, lg) => if m = 1 ∧ wants (fnK b n i j) x lg then .inl (k, L', qT 26 (qT (fnK b n i j) x)) else .inl (k, noteL L' 2 i, qT 27 qN)
def wrQ (i : Nat) (L : LT) : Qs :=
  if pk b n (wdF b n (n - i) i) = 40 then fnQ b n f agD i (wdF b n (n - i) i) L else
  if isWrd b n i (wdF b n (n - i) i) 4 then .inl (wdF b n (n - i) i, L, qT 24 qN) else
  if isWrd b n i (wdF b n (n - i) i) 2 then .inl (wdF b n (n - i) i, L, qT 23 qN) else
  if isWrd b n i (wdF b n (n - i) i) 7 then .inl (wdF b n (n - i) i, L, qT 22 qN) else .inr (1, wdF b n (n - i) i)
/-- an operand -/
def opQ (strict : Bool) (i : Nat) (L : LT) : Qs :=
  if pk b n i = 64 ∨ pk b n i = 36 then ptQ b n f orD strict i L else
  if isSm b n i then wrQ b n f agD i L else
  if atInt b n i then (match inQ b n true i L with
    | .inr x => .inr x
    | .inl (j, L', m, N) => .inl (j, L', qT 20 (qI m N))) else
  if atStr b n i then (match stS b n (pk b n i) (i + 1) with
    | .inr p => .inr (1, p)
    | .inl (cs, j) => .inl (j, L, qT 21 (qC cs))) else .inr (1, i)
/-- an operand x, which began at h, as a test, at i -/
def tsQ (x : QF) (h i : Nat) (L : LT) : Qs := if isLit x then .inr (1, i) else if isFun x then .inl (i, noteL L 2 h, qT 27 qN) else match x with
  | .tag 25 p => .inl (i, L, qT 14 p)
  | _ => .inr (1, i)
/-- the sign of a comparison at i -/
def sgN (i : Nat) : (Nat × Nat) ⊕ Nat :=
  if pk b n i = 61 then (if pk b n (i + 1) = 61 then .inl (i + 2, 1) else .inr (i + 1)) else
  if pk b n i = 33 then (if pk b n (i + 1) = 61 then .inl (i + 2, 2) else .inr (i + 1)) else
  if pk b n i = 60 then (if pk b n (i + 1) = 61 then .inl (i + 2, 4) else .inl (i + 1, 3)) else
  if pk b n (i + 1) = 61 then .inl (i + 2, 6) else .inl (i + 1, 5)
/-- what comes of an operand x, which began at h and ended ahead of i -/
def bfQ (x : QF) (h i : Nat) (L : LT) : Qs :=
  if isCmp x && atOp b n (sk b n i) then (match sgN b n (sk b n i) with
    | .inr p => .inr (1, p)
    | .inl (j, s) => match opQ b n f orD agD true (sk b n j) L with
      | .inr e => .inr e
      | .inl (k, L', y) => .inl (k, L', qT 13 (qT s (qP x y)))) else tsQ x h (sk b n i) L
/-- ( OR ) -/
def grQ (i : Nat) (L : LT) : Qs := if f = 0 then .inr (4, i) else match orD (sk b n (i + 1)) L with
  | .inr e => .inr e
  | .inl (j, L', x) => if pk b n j = 41 then .inl (j + 1, L', x) else .inr (1, j)
def baQ (i : Nat) (L : LT) : Qs :=
  if pk b n i = 33 then (match (if pk b n (sk b n (i + 1)) = 40 then grQ b n f orD (sk b n (i + 1)) L else
      if atInt b n (sk b n (i + 1)) || atStr b n (sk b n (i + 1)) then .inr (1, sk b n (i + 1)) else match opQ b n f orD agD false (sk b n (i + 1)) L with
        | .inr e => .inr e
        | .inl (j, L', x) => tsQ x (sk b n (i + 1)) j L' : Qs) with
    | .inr e => .inr e
    | .inl (j, L', x) => .inl (j, L', qT 12 x)) else
  if pk b n i = 40 then grQ b n f orD i L else match opQ b n f orD agD false i L with
    | .inr e => .inr e
    | .inl (j, L', x) => bfQ b n f orD agD x i j L'
/-- the parts of an AND behind the first, of an OR: c is their sign; it ends behind blanks -/
def lsF (c : Int32) (rd : Nat → LT → Qs) : Nat → Nat → LT → QF → Qs
  | 0, i, _, _ => .inr (1, i)
  | g + 1, i, L, x => if pk b n (sk b n i) = c then (if pk b n (sk b n i + 1) = c then (match rd (sk b n (sk b n i + 2)) L with
      | .inr e => .inr e
      | .inl (j, L', y) => lsF c rd g j L' (qApp x y)) else .inr (1, sk b n i + 1)) else .inl (sk b n i, L, x)
def qOne (k : Nat) (x : Qs) : Qs := match x with
  | .inr e => .inr e
  | .inl (j, L, y) => .inl (j, L, qT k y)
/-- an AND, an OR, whose first operand is read by r -/
def anQ (r : Qs) : Qs := match r with
  | .inr e => .inr e
  | .inl (j, L, x) => qOne 11 (lsF b n 38 (baQ b n f orD agD) (n + 1) j L (qP x qN))
def orQ (r : Qs) : Qs := match anQ b n f orD agD r with
  | .inr e => .inr e
  | .inl (j, L, x) => qOne 10 (lsF b n 124 (fun i L => anQ b n f orD agD (baQ b n f orD agD i L)) (n + 1) j L (qP x qN))
def lgQ (x : Qs) : (Nat × LT × QF × Bool) ⊕ (Nat × Nat) := match x with
  | .inr e => .inr e
  | .inl (j, L', y) => .inl (j, L', y, true)
/-- an argument -/
def arQ (i : Nat) (L : LT) : (Nat × LT × QF × Bool) ⊕ (Nat × Nat) :=
  if pk b n i = 33 ∨ pk b n i = 40 then lgQ (orQ b n f orD agD (baQ b n f orD agD i L)) else match opQ b n f orD agD false i L with
    | .inr e => .inr e
    | .inl (j, L', x) => if ((pk b n (sk b n j) = 38 ∨ pk b n (sk b n j) = 124) ∧ isLit x = false) ∨ (isCmp x = true ∧ atOp b n (sk b n j) = true) then lgQ (orQ b n f orD agD (bfQ b n f orD agD x i (sk b n j) L')) else .inl (sk b n j, L', x, false)
end QS
/-- the levels: f more may be opened -/
def leQ (b : By) (n : Nat) : Nat → (Nat → LT → Qs) × (Nat → LT → (Nat × LT × QF × Bool) ⊕ (Nat × Nat))
  | 0 => (fun i L => orQ b n 0 (fun i _ => .inr (1, i)) (fun i _ => .inr (1, i)) (baQ b n 0 (fun i _ => .inr (1, i)) (fun i _ => .inr (1, i)) i L), arQ b n 0 (fun i _ => .inr (1, i)) (fun i _ => .inr (1, i)))
  | f + 1 => (fun i L => orQ b n (f + 1) (leQ b n f).1 (leQ b n f).2 (baQ b n (f + 1) (leQ b n f).1 (leQ b n f).2 i L), arQ b n (f + 1) (leQ b n f).1 (leQ b n f).2)
/-- what is open at a level, and the next one's readers -/
def orN (b : By) (n f : Nat) : Nat → LT → Qs := match f with
  | 0 => fun i _ => .inr (1, i)
  | f + 1 => (leQ b n f).1
def agN (b : By) (n f : Nat) : Nat → LT → (Nat × LT × QF × Bool) ⊕ (Nat × Nat) := match f with
  | 0 => fun i _ => .inr (1, i)
  | f + 1 => (leQ b n f).2
/-- a whole query: its tree, its number of segments by qLen, whether it is singular -/
def whQ (b : By) (n : Nat) : (Bool × QF) ⊕ (Nat × Nat) := if pk b n 0 = 36 then (match sgS b n 16 (orN b n 16) false 1 (0, 0) with
  | .inr e => .inr e
  | .inl (j, h, L, s, x) => if j = h ∧ j = n then (if L.1 = 0 then .inl (s, x) else .inr L) else .inr (1, j)) else .inr (1, 0)
