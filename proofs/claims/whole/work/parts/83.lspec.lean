/-! the law's text, read from the left by pieces -/
abbrev Rs (α : Type) : Type := (Int × Int) ⊕ (Int × α)
abbrev Ph : Type := (Nat → Int) → Option Int32
abbrev Pc : Type := (Nat → Int) → Option Bool
def ar (op : Int) (x y : Int32) : Option Int32 := if op = 43 then some (x + y) else if op = 45 then some (x - y) else if op = 42 then some (x * y) else if op = 47 then xdiv x y else xrem x y
def ph2 (op : Int) (a b : Ph) : Ph := fun F => (a F).bind fun x => (b F).bind fun y => ar op x y
def cmpv (op : Int) (x y : Int32) : Bool := if op = 60 then decide (x < y) else if op = 62 then decide (y < x) else decide (x = y)
def phc (op : Int) (a b : Ph) : Pc := fun F => (a F).bind fun x => (b F).map fun y => cmpv op x y
def phAnd (a b : Pc) : Pc := fun F => (a F).bind fun x => if x = true then b F else some false
def phOr (a b : Pc) : Pc := fun F => (a F).bind fun x => if x = true then some true else b F
def phNot (a : Pc) : Pc := fun F => (a F).map fun x => !x
def bo (a : Pc) : Ph := fun F => (a F).map fun x => if x = true then 1 else 0
abbrev isDg (c : Int) : Prop := 48 ≤ c ∧ c ≤ 57
abbrev isOp (c : Int) : Prop := c = 43 ∨ c = 45 ∨ c = 42 ∨ c = 47 ∨ c = 37
def fcI (c : Int) : Option Nat := if c = 97 then some 1 else if c = 98 then some 2 else if c = 100 then some 8 else if c = 103 then some 4 else if c = 104 then some 7 else if c = 107 then some 5 else if c = 110 then some 3 else if c = 114 then some 6 else if c = 118 then some 11 else if c = 119 then some 0 else if c = 120 then some 9 else if c = 121 then some 10 else none
def numV (sg : Int → Int) : Nat → Int → Int → Int × Int
  | 0, v, p => (v, p)
  | k + 1, v, p => if isDg (sg p) then numV sg k (v * 10 + sg p - 48) (p + 1) else (v, p)
def pNum (sg : Int → Int) (p : Int) : Rs Ph := if isDg (sg (numV sg 5 0 p).2) then .inl (2, (numV sg 5 0 p).2) else .inr ((numV sg 5 0 p).2, (fun _ => some (j32 (numV sg 5 0 p).1)))
def pFac (sg : Int → Int) (S : Int → Int → Rs Ph) (o p : Int) : Rs Ph :=
  if sg p = 91 then
    if o < 6 then match S (o + 1) (p + 1) with
      | .inl e => .inl e
      | .inr (q, φ) => if sg q = 93 then .inr ((q + 1), φ) else .inl (1, q)
    else .inl (5, p)
  else if isDg (sg p) then pNum sg p
  else match fcI (sg p) with
    | some i => .inr ((p + 1), (fun F => some (j32 (F i))))
    | none => .inl (1, p)
def fin (pd : Option (Int × Ph)) (t : Ph) : Ph := match pd with
  | none => t
  | some (c, l) => ph2 c l t
def pSumL (sg : Int → Int) (Fc : Int → Int → Rs Ph) (o : Int) : Nat → Int → Option (Int × Ph) → Ph → Rs Ph
  | 0, p, pd, t => .inr (p, (fin pd t))
  | k + 1, p, pd, t => if isOp (sg p) then match Fc o (p + 1) with
      | .inl e => .inl e
      | .inr (q, φ) => if sg p = 43 ∨ sg p = 45 then pSumL sg Fc o k q (some (sg p, fin pd t)) φ else pSumL sg Fc o k q pd (ph2 (sg p) t φ)
    else .inr (p, (fin pd t))
def pSum (sg : Int → Int) (Fc : Int → Int → Rs Ph) (o p : Int) : Rs Ph := match Fc o p with
  | .inl e => .inl e
  | .inr (q, φ) => pSumL sg Fc o 200 q none φ
def rSum (sg : Int → Int) : Nat → Int → Int → Rs Ph
  | 0 => fun _ p => .inl (1, p)
  | D + 1 => pSum sg (pFac sg (rSum sg D))
def fio (pd : Option Pc) (t : Pc) : Pc := match pd with
  | none => t
  | some l => phOr l t
def pChoL (sg : Int → Int) (Pi : Int → Int → Rs Pc) (o : Int) : Nat → Int → Option Pc → Pc → Rs Pc
  | 0, p, pd, t => .inr (p, (fio pd t))
  | k + 1, p, pd, t => if sg p = 124 ∨ sg p = 38 then match Pi o (p + 1) with
      | .inl e => .inl e
      | .inr (q, φ) => if sg p = 124 then pChoL sg Pi o k q (some (fio pd t)) φ else pChoL sg Pi o k q pd (phAnd t φ)
    else .inr (p, (fio pd t))
def pCho (sg : Int → Int) (Pi : Int → Int → Rs Pc) (o p : Int) : Rs Pc := match Pi o p with
  | .inl e => .inl e
  | .inr (q, φ) => pChoL sg Pi o 200 q none φ
abbrev isCm (c : Int) : Prop := c = 60 ∨ c = 62 ∨ c = 61
def pCmp (sg : Int → Int) (o p : Int) : Rs Pc := match rSum sg 8 o p with
  | .inl e => .inl e
  | .inr (q, a) => if isCm (sg q) then match rSum sg 8 o (q + 1) with
      | .inl e => .inl e
      | .inr (r, b) => .inr (r, (phc (sg q) a b))
    else .inl (1, q)
def pPie (sg : Int → Int) (Ch Pi : Int → Int → Rs Pc) (o p : Int) : Rs Pc :=
  if sg p = 33 then
    if o < 6 then match Pi (o + 1) (p + 1) with
      | .inl e => .inl e
      | .inr (q, φ) => .inr (q, (phNot φ))
    else .inl (5, p)
  else if sg p = 40 then
    if o < 6 then match Ch (o + 1) (p + 1) with
      | .inl e => .inl e
      | .inr (q, φ) => if sg q = 41 then .inr ((q + 1), φ) else .inl (1, q)
    else .inl (5, p)
  else pCmp sg o p
def rPie (sg : Int → Int) : Nat → Int → Int → Rs Pc
  | 0 => fun _ p => .inl (1, p)
  | D + 1 => pPie sg (pCho sg (rPie sg D)) (rPie sg D)
/-- a clause: its letter, its amount, its condition -/
abbrev Cl : Type := Int × Ph × Pc
abbrev isLt (c : Int) : Prop := c = 111 ∨ c = 112 ∨ c = 108
def pCla (sg : Int → Int) (k p : Int) : Rs Cl :=
  if isLt (sg p) then
    if k < 14 then match rSum sg 8 0 (p + 1) with
      | .inl e => .inl e
      | .inr (q, a) => if sg q = 40 then match pCho sg (rPie sg 8) 1 (q + 1) with
          | .inl e => .inl e
          | .inr (r, c) => if sg r = 41 then .inr ((r + 1), (sg p, a, c)) else .inl (1, r)
        else .inl (1, q)
    else .inl (4, p)
  else .inl (1, p)
/-- the clauses from the k-th on; ls: those read -/
def pLaw (sg : Int → Int) (N : Int) : Nat → Int → List Cl → Rs (List Cl)
  | 0, p, ls => .inr (p, ls)
  | k + 1, p, ls => if p < N then
      if sg p = 59 then match pCla sg ls.length (p + 1) with
        | .inl e => .inl e
        | .inr (q, c) => pLaw sg N k q (ls ++ [c])
      else .inl (1, p)
    else .inr (p, ls)
def pAll (sg : Int → Int) (N : Int) : Rs (List Cl) := match pCla sg 0 0 with
  | .inl e => .inl e
  | .inr (q, c) => pLaw sg N 14 q [c]
/-- what is owed -/
def valL (L b : Int) (F : Nat → Int) : List Cl → Int
  | [] => 0
  | c :: r => if c.1 = L ∧ c.2.2 F = some true then (match c.2.1 F with | none => 0 | some v => max 0 (min b v.toInt)) else valL L b F r
def sgT (T : Int → Int) (N : Int) (p : Int) : Int := if 0 ≤ p ∧ p < N then T p else -1
/-- what holds of what is read -/
def Okb (f q N : Int) : Prop := (f = 1 ∨ f = 2 ∨ f = 4 ∨ f = 5) ∧ 0 ≤ q ∧ q ≤ N
