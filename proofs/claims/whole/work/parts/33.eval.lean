/-! Codes of sums and tests as lists of items, and what they come to. -/
def opK (o u v : Int) : Int := if o = 5 then u + v else if o = 6 then u - v else if o = 7 then u * v else if o = 8 then Int.tdiv u v else if o = 9 then Int.tmod u v else if o = 10 then (if u < v then 1 else 0) else if o = 11 then (if v < u then 1 else 0) else (if u = v then 1 else 0)
def binK (o u v : Int) : Option Int := if (o = 8 ∨ o = 9) ∧ v = 0 then none else if -1000000000 ≤ opK o u v ∧ opK o u v ≤ 1000000000 then some (opK o u v) else none
/-- items: 0 a number, 1 a word, 2 so many nots, 3 or, 4 and (how many items it may leave out), 5 .. 12 two values to one -/
def evK (wd : Int → Int) : List (Int × Int) → List Int → Option (List Int)
  | [], st => some st
  | (o, a) :: r, st =>
    if o = 0 then evK wd r (a :: st)
    else if o = 1 then evK wd r (wd a :: st)
    else if o = 2 ∧ a % 2 = 0 then evK wd r st
    else match st with
      | [] => none
      | v :: s =>
        if o = 2 then evK wd r ((1 - v) :: s)
        else if o = 3 ∨ o = 4 then (if (v ≠ 0 ↔ o = 3) then evK wd (r.drop a.toNat) (v :: s) else evK wd r s)
        else match s with
          | [] => none
          | u :: s' => match binK o u v with
            | none => none
            | some w => evK wd r (w :: s')
termination_by r _ => r.length
decreasing_by all_goals (simp only [List.length_cons, List.length_drop]; omega)
/-- how many instructions of the class an item is -/
def szC (q : Int × Int) : Int := if q.1 = 2 then q.2 % 2 else 1
def lnC : List (Int × Int) → Int
  | [] => 0
  | q :: r => szC q + lnC r
/-- the class's code from pos on is this list -/
def RpC (op ar : Int → Int) : Int → List (Int × Int) → Prop
  | _, [] => True
  | pos, q :: r => (szC q = 1 → op pos = q.1 ∧ (q.1 ≤ 1 → ar pos = q.2) ∧ (q.1 = 3 ∨ q.1 = 4 → ar pos = pos + 1 + lnC (r.take q.2.toNat))) ∧ RpC op ar (pos + szC q) r
/-- what a list may hold: numbers, words below nw, as many values at most -/
def okK (nw : Int) (r : List (Int × Int)) : Prop := ∀ q ∈ r, 0 ≤ q.1 ∧ q.1 ≤ 12 ∧ (q.1 = 0 → 0 ≤ q.2 ∧ q.2 ≤ 1000) ∧ (q.1 = 1 → 0 ≤ q.2 ∧ q.2 < nw) ∧ (2 ≤ q.1 → 0 ≤ q.2)
def lvK : List (Int × Int) → Nat
  | [] => 0
  | q :: r => (if q.1 ≤ 1 then 1 else 0) + lvK r
theorem szC_nn {nw : Int} {r : List (Int × Int)} {q : Int × Int} (h : okK nw r) (hq : q ∈ r) : 0 ≤ szC q := by
  unfold szC
  split <;> omega
theorem lnC_nn (r : List (Int × Int)) : 0 ≤ lnC r := by
  induction r with
  | nil => exact Int.le_refl _
  | cons q r ih =>
    show 0 ≤ szC q + lnC r
    have : 0 ≤ szC q := by unfold szC; split <;> omega
    omega
theorem lnC_app (a b : List (Int × Int)) : lnC (a ++ b) = lnC a + lnC b := by
  induction a with
  | nil => show lnC b = 0 + lnC b; omega
  | cons q r ih => show szC q + lnC (r ++ b) = szC q + lnC r + lnC b; omega
theorem lnC_td (n : Nat) (r : List (Int × Int)) : lnC (r.take n) + lnC (r.drop n) = lnC r := by rw [← lnC_app, List.take_append_drop]
theorem RpC_drop {op ar : Int → Int} (n : Nat) : ∀ (r : List (Int × Int)) (pos : Int), RpC op ar pos r → RpC op ar (pos + lnC (r.take n)) (r.drop n) := by
  induction n with
  | zero => intro r pos h; simp only [List.take_zero, List.drop_zero, lnC, Int.add_zero]; exact h
  | succ n ih =>
    intro r pos h
    cases r with
    | nil => simp only [List.take_nil, List.drop_nil, lnC]; trivial
    | cons q r =>
      simp only [List.take_succ_cons, List.drop_succ_cons, lnC]
      have := ih r _ h.2
      rwa [Int.add_assoc] at this
theorem lvK_drop (n : Nat) : ∀ r : List (Int × Int), lvK (r.drop n) ≤ lvK r := by
  induction n with
  | zero => intro r; exact Nat.le_refl _
  | succ n ih =>
    intro r
    cases r with
    | nil => exact Nat.le_refl _
    | cons q r => simp only [List.drop_succ_cons, lvK]; have := ih r; omega
theorem okK_drop {nw : Int} {r : List (Int × Int)} (n : Nat) (h : okK nw r) : okK nw (r.drop n) := fun q hq => h q (List.mem_of_mem_drop hq)
theorem c_eq0 (a b : Int) : (icmp a b = 0) = (a = b) := by unfold icmp; apply propext; constructor <;> intro h <;> (repeat (split at * <;> try omega)) <;> omega
theorem c_ge0 (a b : Int) : (0 ≤ icmp a b) = (b ≤ a) := by unfold icmp; apply propext; constructor <;> intro h <;> (repeat (split at * <;> try omega)) <;> omega
theorem c_gt0 (a b : Int) : (0 < icmp a b) = (b < a) := by unfold icmp; apply propext; constructor <;> intro h <;> (repeat (split at * <;> try omega)) <;> omega
theorem c_le0 (a b : Int) : (icmp a b ≤ 0) = (a ≤ b) := by unfold icmp; apply propext; constructor <;> intro h <;> (repeat (split at * <;> try omega)) <;> omega
theorem c_lt0 (a b : Int) : (icmp a b < 0) = (a < b) := by unfold icmp; apply propext; constructor <;> intro h <;> (repeat (split at * <;> try omega)) <;> omega
theorem tdiv_bd {u v b : Int} (h : -b ≤ u ∧ u ≤ b) : -b ≤ Int.tdiv u v ∧ Int.tdiv u v ≤ b := by
  have h1 : (Int.tdiv u v).natAbs ≤ u.natAbs := by rw [Int.natAbs_tdiv]; exact Nat.div_le_self _ _
  omega
theorem tmod_bd {u v b : Int} (h : -b ≤ u ∧ u ≤ b) : -b ≤ Int.tmod u v ∧ Int.tmod u v ≤ b := by
  have h1 : (Int.tmod u v).natAbs ≤ u.natAbs := by rw [Int.natAbs_tmod]; exact Nat.mod_le _ _
  omega
theorem mul_bd {u v b : Int} (hb : 0 ≤ b) (h : -b ≤ u ∧ u ≤ b) (h2 : -b ≤ v ∧ v ≤ b) : -(b * b) ≤ u * v ∧ u * v ≤ b * b := by
  have h1 : (u * v).natAbs ≤ b.natAbs * b.natAbs := by rw [Int.natAbs_mul]; exact Nat.mul_le_mul (by omega) (by omega)
  have h3 : ((b.natAbs * b.natAbs : Nat) : Int) = b * b := by rw [← Int.natAbs_mul]; have : 0 ≤ b * b := Int.mul_nonneg hb hb; omega
  omega
