/-! the languages: what a row of tokens tells -/
abbrev Dn : Type := (Nat → Int32) → Option Int32
/-- a clause: kind, how often, sum, test -/
abbrev Cls : Type := Nat × Nat × Dn × Dn
/-- tokens: how many, what each is, its number -/
abbrev Tok : Type := Nat × (Nat → Nat) × (Nat → Nat)
def lim (v : Int) : Option Int32 := if 1000000000 < v ∨ v < -1000000000 then none else some (Int32.ofInt v)
def jn (s : Nat) (a b : Int32) : Option Int32 :=
  if s = 160 then some (if a.toInt < b.toInt then 1 else 0)
  else if s = 161 then some (if a.toInt = b.toInt then 1 else 0)
  else if s = 162 then some (if b.toInt < a.toInt then 1 else 0)
  else if s = 143 then lim (a.toInt + b.toInt)
  else if s = 145 then lim (a.toInt - b.toInt)
  else if s = 142 then lim (a.toInt * b.toInt)
  else if b.toInt = 0 then none
  else if s = 147 then lim (a.toInt.tdiv b.toInt)
  else lim (a.toInt.tmod b.toInt)
def dNum (v : Int32) : Dn := fun _ => some v
def dWrd (w : Nat) : Dn := fun f => some (f w)
def dJn (s : Nat) (D E : Dn) : Dn := fun f => match D f with
  | none => none
  | some a => match E f with | none => none | some b => jn s a b
def dAnd (D E : Dn) : Dn := fun f => match D f with | none => none | some v => if v = 0 then some v else E f
def dOr (D E : Dn) : Dn := fun f => match D f with | none => none | some v => if v = 0 then E f else some v
def dNot (g : Bool) (D : Dn) : Dn := fun f => if g = true then (D f).map (fun v => 1 - v) else D f
abbrev PR : Type := Nat ⊕ (Nat × Nat × Dn)
abbrev Ps1 : Type := Nat → Nat → PR
def rThen (r : PR) (f : Nat → Nat → Dn → PR) : PR := match r with | .inl j => .inl j | .inr (k, l, D) => f k l D
def wL (c : Nat) : Nat := match c with | 9 => 0 | 10 => 2 | 11 => 3 | 12 => 6 | 13 => 1 | 14 => 4 | _ => 5
def wO (c : Nat) : Nat := match c with | 15 => 0 | 16 => 1 | 17 => 2 | 14 => 3 | 18 => 4 | 19 => 5 | _ => 11
def rLeaf (o : Bool) (T : Tok) (k l : Nat) : PR :=
  if T.2.1 k = 50 ∧ T.2.2 k ≤ 1000 then (if 50 ≤ l then .inl k else .inr (k + 1, l + 1, dNum (nI (T.2.2 k))))
  else if o = false ∧ 9 ≤ T.2.1 k ∧ T.2.1 k ≤ 15 then (if 50 ≤ l then .inl k else .inr (k + 1, l + 1, dWrd (wL (T.2.1 k))))
  else if o = true ∧ 13 ≤ T.2.1 k ∧ T.2.1 k ≤ 19 then (if 50 ≤ l then .inl k else if T.2.1 k = 13 ∨ T.2.1 k = 19 then
    (if T.2.1 (k + 1) = 50 ∧ T.2.2 (k + 1) < 6 then .inr (k + 2, l + 1, dWrd (wO (T.2.1 k) + T.2.2 (k + 1))) else .inl (k + 1))
    else .inr (k + 1, l + 1, dWrd (wO (T.2.1 k))))
  else .inl k
def rPart (o : Bool) (T : Tok) (sub : Option Ps1) (k l : Nat) : PR :=
  if T.2.1 k = 191 then (match sub with
    | none => .inl k
    | some s => rThen (s (k + 1) l) (fun k' l' D => if T.2.1 k' = 193 then .inr (k' + 1, l', D) else .inl k'))
  else rLeaf o T k l
def rTermL (T : Tok) (part : Ps1) : Nat → Nat → Nat → Dn → PR
  | 0, k, l, D => .inr (k, l, D)
  | F + 1, k, l, D => if T.2.1 k = 142 ∨ T.2.1 k = 147 ∨ T.2.1 k = 137 then rThen (part (k + 1) l) (fun k' l' D' => rTermL T part F k' l' (dJn (T.2.1 k) D D')) else .inr (k, l, D)
def rTerm (T : Tok) (part : Ps1) (k l : Nat) : PR := rThen (part k l) (rTermL T part 400)
def rSumL (T : Tok) (term : Ps1) : Nat → Nat → Nat → Dn → PR
  | 0, k, l, D => .inr (k, l, D)
  | F + 1, k, l, D => if T.2.1 k = 143 ∨ T.2.1 k = 145 then rThen (term (k + 1) l) (fun k' l' D' => rSumL T term F k' l' (dJn (T.2.1 k) D D')) else .inr (k, l, D)
def rSum (T : Tok) (part : Ps1) (k l : Nat) : PR := rThen (rTerm T part k l) (rSumL T (rTerm T part) 400)
/-- a sum with so many brackets yet -/
def rSumD (o : Bool) (T : Tok) : Nat → Ps1
  | 0 => rSum T (rPart o T none)
  | n + 1 => rSum T (rPart o T (some (rSumD o T n)))
def rNots (T : Tok) : Nat → Nat → Bool → Nat × Bool
  | 0, k, g => (k, g)
  | F + 1, k, g => if T.2.1 k = 8 then rNots T F (k + 1) (!g) else (k, g)
def rPos (T : Tok) (sum : Ps1) (sub : Option Ps1) (g : Bool) (k l : Nat) : PR :=
  if T.2.1 k = 140 then (match sub with
    | none => .inl k
    | some s => rThen (s (k + 1) l) (fun k' l' D => if T.2.1 k' = 141 then .inr (k' + 1, l', dNot g D) else .inl k'))
  else rThen (sum k l) (fun k1 l1 D1 => if T.2.1 k1 = 160 ∨ T.2.1 k1 = 161 ∨ T.2.1 k1 = 162 then
    rThen (sum (k1 + 1) l1) (fun k2 l2 D2 => .inr (k2, l2, dNot g (dJn (T.2.1 k1) D1 D2))) else .inl k1)
def rPlain (T : Tok) (sum : Ps1) (sub : Option Ps1) (k l : Nat) : PR := rPos T sum sub (rNots T 400 k false).2 (rNots T 400 k false).1 l
def rBothL (T : Tok) (plain : Ps1) : Nat → Nat → Nat → Dn → PR
  | 0, k, l, D => .inr (k, l, D)
  | F + 1, k, l, D => if T.2.1 k = 7 then rThen (plain (k + 1) l) (fun k' l' D' => rBothL T plain F k' l' (dAnd D D')) else .inr (k, l, D)
def rBoth (T : Tok) (plain : Ps1) (k l : Nat) : PR := rThen (plain k l) (rBothL T plain 400)
def rTestL (T : Tok) (both : Ps1) : Nat → Nat → Nat → Dn → PR
  | 0, k, l, D => .inr (k, l, D)
  | F + 1, k, l, D => if T.2.1 k = 6 then rThen (both (k + 1) l) (fun k' l' D' => rTestL T both F k' l' (dOr D D')) else .inr (k, l, D)
def rTest (T : Tok) (plain : Ps1) (k l : Nat) : PR := rThen (rBoth T plain k l) (rTestL T (rBoth T plain) 400)
def rTestD (o : Bool) (T : Tok) : Nat → Ps1
  | 0 => rTest T (rPlain T (rSumD o T 0) none)
  | n + 1 => rTest T (rPlain T (rSumD o T (n + 1)) (some (rTestD o T n)))
/-- behind a head: the sum, how often, the test -/
def rSumC (o : Bool) (T : Tok) (kd k l : Nat) : PR := if (if o = true then kd ≠ 3 else kd = 0) then rSumD o T 8 k l else .inr (k, l, dNum 0)
def rTms (o : Bool) (T : Tok) (k : Nat) : Nat ⊕ (Nat × Nat) :=
  if o = true ∧ T.2.1 k = 24 then (if T.2.1 (k + 1) = 50 ∧ 1 ≤ T.2.2 (k + 1) ∧ T.2.2 (k + 1) ≤ 20 then .inr (k + 2, T.2.2 (k + 1)) else .inl (k + 1)) else .inr (k, 1)
def rIf (o : Bool) (T : Tok) (k l : Nat) : PR := if T.2.1 k = 5 then rTestD o T 8 (k + 1) l else .inr (k, l, dNum 1)
def rHead (o : Bool) (c : Nat) : Option Nat := if o = true then (if 20 ≤ c ∧ c ≤ 23 then some (c - 20) else none) else (if 1 ≤ c ∧ c ≤ 4 then some (c - 1) else none)
def rClause (o : Bool) (T : Tok) (k l : Nat) : Nat ⊕ (Nat × Nat × Cls) := match rHead o (T.2.1 k) with
  | none => .inl k
  | some kd => match rSumC o T kd (k + 1) l with
    | .inl j => .inl j
    | .inr (k1, l1, D) => match rTms o T k1 with
      | .inl j => .inl j
      | .inr (k2, tm) => match rIf o T k2 l1 with
        | .inl j => .inl j
        | .inr (k3, l3, E) => .inr (k3, l3, kd, tm, D, E)
def rAll (o : Bool) (T : Tok) : Nat → Nat → Nat → Nat ⊕ List Cls
  | 0, k, _ => .inl k
  | F + 1, k, l => match rClause o T k l with
    | .inl j => .inl j
    | .inr (k1, l1, c) => if T.2.1 k1 = 159 then (match rAll o T F (k1 + 1) l1 with | .inl j => .inl j | .inr L => .inr (c :: L))
      else if T.1 ≤ k1 then .inr [c] else .inl k1
def rLaw (t : Tok) : Option (List Cls) := match rAll false t 12 0 0 with | .inl _ => none | .inr L => some L
/-- tokens end -/
def TkE (T : Tok) : Prop := T.1 ≤ 400 ∧ (∀ k, T.1 ≤ k → T.2.1 k = 0) ∧ ∀ k, T.2.1 k < 400 ∧ T.2.2 k < 2147483648
