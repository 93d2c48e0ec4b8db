/-! Laws as lists of clauses (kind, sum, test), and what they tell. -/
abbrev Cls : Type := Int × List (Int × Int) × List (Int × Int)
/-- what a clause comes to, if it holds -/
def hldK (wd : Int → Int) (c : Cls) : Option Int :=
  if c.2.2 ≠ [] ∧ (headK (evK wd c.2.2 [])).getD 0 = 0 then none else if c.1 = 3 then some 1 else headK (evK wd c.2.1 [])
/-- the last clause of a kind that holds, among the first n -/
def telK (wd : Int → Int) (kd : Int) (al : List Cls) : Nat → Option Int
  | 0 => none
  | n + 1 => match al[n]? with
    | none => telK wd kd al n
    | some c => if c.1 = kd then (match hldK wd c with
      | some v => some v
      | none => telK wd kd al n) else telK wd kd al n
/-- a code that the reader has made -/
def okC (nw : Int) (c : List (Int × Int)) : Prop := okK nw c ∧ lvK c ≤ 60 ∧ c.length ≤ 1000
/-- the class's text at x is this list of clauses -/
def TxR (h : Hp) (x n m : Nat) (al : List Cls) : Prop :=
  TxS h x n m ∧ n < 100000 ∧ m < 100000 ∧ hI h x 9 = al.length ∧ al.length ≤ m ∧ 0 ≤ hI h x 8 ∧ hI h x 8 ≤ n ∧
  ∀ (i : Nat) (c : Cls), al[i]? = some c → hI h (x + 3) i = c.1 ∧ 0 ≤ hI h (x + 4) i ∧ RpC (hI h (x + 1)) (hI h (x + 2)) (hI h (x + 4) i) c.2.1 ∧ hI h (x + 6) i = hI h (x + 4) i + lnC c.2.1 ∧ RpC (hI h (x + 1)) (hI h (x + 2)) (hI h (x + 6) i) c.2.2 ∧ hI h (x + 7) i = hI h (x + 6) i + lnC c.2.2 ∧ hI h (x + 7) i ≤ hI h x 8 ∧ (c.2.2 ≠ [] → 0 < lnC c.2.2) ∧ okC 10 c.2.1 ∧ okC 10 c.2.2
