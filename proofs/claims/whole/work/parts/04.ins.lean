/-! Integers, and the instructions that touch no heap. -/
theorem inR_iff {x : Int} : InR x ↔ -2147483648 ≤ x ∧ x ≤ 2147483647 := Iff.rfl
theorem inL_iff {x : Int} : InL x ↔ -9223372036854775808 ≤ x ∧ x ≤ 9223372036854775807 := Iff.rfl
theorem wr_in (x : Int) : InR (wr x) := by
  unfold InR wr
  have h1 := Int.le_bmod (x := x) (m := 4294967296) (by decide)
  have h2 := Int.bmod_lt (x := x) (m := 4294967296) (by decide)
  omega
theorem wl_in (x : Int) : InL (wl x) := by
  unfold InL wl
  have h1 := Int.le_bmod (x := x) (m := 18446744073709551616) (by decide)
  have h2 := Int.bmod_lt (x := x) (m := 18446744073709551616) (by decide)
  omega
theorem wr_id {x : Int} (h1 : -2147483648 ≤ x) (h2 : x ≤ 2147483647) : wr x = x := by
  unfold wr
  rw [Int.bmod_eq_of_le] <;> omega
theorem wl_id {x : Int} (h1 : -9223372036854775808 ≤ x) (h2 : x ≤ 9223372036854775807) : wl x = x := by
  unfold wl
  rw [Int.bmod_eq_of_le] <;> omega
theorem i_toInt {x : Int} (h : InR x) : (Int32.ofInt x).toInt = x := by
  rw [Int32.toInt_ofInt]; exact wr_id h.1 h.2
theorem l_toInt {x : Int} (h : InL x) : (Int64.ofInt x).toInt = x := by
  rw [Int64.toInt_ofInt]; exact wl_id h.1 h.2
theorem i_wr (x : Int) : Int32.ofInt (wr x) = Int32.ofInt x := by
  apply Int32.toInt_inj.mp
  rw [i_toInt (wr_in x), Int32.toInt_ofInt]; rfl
theorem l_wl (x : Int) : Int64.ofInt (wl x) = Int64.ofInt x := by
  apply Int64.toInt_inj.mp
  rw [l_toInt (wl_in x), Int64.toInt_ofInt]; rfl
theorem inR_toInt (x : Int32) : InR x.toInt := by
  have h1 := x.le_toInt
  have h2 := x.toInt_lt
  unfold InR
  omega
theorem inL_toInt (x : Int64) : InL x.toInt := by
  have h1 := x.le_toInt
  have h2 := x.toInt_lt
  unfold InL
  omega
theorem i_lt {a b : Int} (ha : InR a) (hb : InR b) : Int32.ofInt a < Int32.ofInt b ↔ a < b := by
  rw [Int32.lt_iff_toInt_lt, i_toInt ha, i_toInt hb]
theorem i_le {a b : Int} (ha : InR a) (hb : InR b) : Int32.ofInt a ≤ Int32.ofInt b ↔ a ≤ b := by
  rw [Int32.le_iff_toInt_le, i_toInt ha, i_toInt hb]
theorem i_eq {a b : Int} (ha : InR a) (hb : InR b) : Int32.ofInt a = Int32.ofInt b ↔ a = b := by
  rw [← Int32.toInt_inj, i_toInt ha, i_toInt hb]
theorem l_lt {a b : Int} (ha : InL a) (hb : InL b) : Int64.ofInt a < Int64.ofInt b ↔ a < b := by
  rw [Int64.lt_iff_toInt_lt, l_toInt ha, l_toInt hb]
theorem l_eq {a b : Int} (ha : InL a) (hb : InL b) : Int64.ofInt a = Int64.ofInt b ↔ a = b := by
  rw [← Int64.toInt_inj, l_toInt ha, l_toInt hb]
theorem i_of (x : Int32) : Int32.ofInt x.toInt = x := by
  apply Int32.toInt_inj.mp; exact i_toInt (inR_toInt x)
theorem l_of (x : Int64) : Int64.ofInt x.toInt = x := by
  apply Int64.toInt_inj.mp; exact l_toInt (inL_toInt x)
theorem i_z : Int32.ofInt 0 = 0 := rfl
theorem inR0 : InR 0 := by unfold InR; omega
theorem i_clamp {x : Int} (h0 : 0 ≤ x) (h : InR x) : (Int32.ofInt x).toNatClampNeg = x.toNat := by
  show (Int32.ofInt x).toInt.toNat = x.toNat
  rw [i_toInt h]
theorem i_in {x : Int} {n : Nat} (h0 : 0 ≤ x) (h1 : x < n) (h : InR x) : vp_in (Int32.ofInt x) n := by
  rw [vp_in_iff, i_toInt h]; exact ⟨h0, h1⟩
def iand (a b : Int) : Int := (Int32.ofInt a &&& Int32.ofInt b).toInt
def ior (a b : Int) : Int := (Int32.ofInt a ||| Int32.ofInt b).toInt
def ixor (a b : Int) : Int := (Int32.ofInt a ^^^ Int32.ofInt b).toInt
def ishl (a b : Int) : Int := (Int32.ofInt a <<< (Int32.ofInt b &&& 31)).toInt
def ishr (a b : Int) : Int := (Int32.ofInt a >>> (Int32.ofInt b &&& 31)).toInt
def icmp (a b : Int) : Int := if a < b then -1 else if a = b then 0 else 1
/-- locals with a value stored at n -/
def isLg : Option AV → Bool
  | some (.inr (.inl _)) => true
  | _ => false
def setL : Lcs → Nat → AV → Lcs
  | [], _, _ => []
  | _ :: xs, 0, v => some v :: xs
  | x :: xs, 1, v => (if isLg x then none else x) :: setL xs 0 v
  | x :: xs, n + 2, v => x :: setL xs (n + 1) v
def setL2 : Lcs → Nat → AV → Lcs
  | [], _, _ => []
  | [x], _, _ => [x]
  | _ :: _ :: xs, 0, v => some v :: none :: xs
  | x :: xs, 1, v => (if isLg x then none else x) :: setL2 xs 0 v
  | x :: xs, n + 2, v => x :: setL2 xs (n + 1) v
theorem setL_len (ls : Lcs) (n : Nat) (v : AV) : (setL ls n v).length = ls.length := by
  induction ls generalizing n with
  | nil => cases n <;> rfl
  | cons x xs ih =>
    match n with
    | 0 => rfl
    | 1 => simp [setL, ih]
    | n + 2 => simp [setL, ih]
theorem setL_get (ls : Lcs) (n : Nat) (v w : AV) (hn : n < ls.length) (i : Nat) (h : (setL ls n v)[i]? = some (some w)) : (i = n ∧ w = v) ∨ (i ≠ n ∧ ls[i]? = some (some w) ∧ ¬ (i + 1 = n ∧ isLg (some w) = true)) := by
  induction ls generalizing n i with
  | nil => simp at hn
  | cons x xs ih =>
    match n, hn with
    | 0, _ =>
      cases i with
      | zero => simp [setL] at h; exact Or.inl ⟨rfl, h.symm⟩
      | succ i => simp [setL] at h; exact Or.inr ⟨by omega, by simpa using h, by omega⟩
    | 1, hn =>
      cases i with
      | zero =>
        simp only [setL, List.getElem?_cons_zero, Option.some.injEq] at h
        by_cases hx : isLg x = true
        · rw [if_pos hx] at h; cases h
        · rw [if_neg hx] at h
          exact Or.inr ⟨by omega, by rw [h]; rfl, fun q => hx (by rw [h]; exact q.2)⟩
      | succ i =>
        simp only [setL, List.getElem?_cons_succ] at h
        rcases ih 0 (by simp at hn ⊢; omega) i h with ⟨h1, h2⟩ | ⟨h1, h2, h3⟩
        · exact Or.inl ⟨by omega, h2⟩
        · exact Or.inr ⟨by omega, by simpa using h2, by omega⟩
    | n + 2, hn =>
      cases i with
      | zero =>
        simp only [setL, List.getElem?_cons_zero, Option.some.injEq] at h
        exact Or.inr ⟨by omega, by rw [h]; rfl, by omega⟩
      | succ i =>
        simp only [setL, List.getElem?_cons_succ] at h
        rcases ih (n + 1) (by simp at hn ⊢; omega) i h with ⟨h1, h2⟩ | ⟨h1, h2, h3⟩
        · exact Or.inl ⟨by omega, h2⟩
        · exact Or.inr ⟨by omega, by simpa using h2, fun q => h3 ⟨by omega, q.2⟩⟩
theorem setL2_len (ls : Lcs) (n : Nat) (v : AV) : (setL2 ls n v).length = ls.length := by
  induction ls generalizing n with
  | nil => cases n <;> rfl
  | cons x xs ih =>
    match xs, n with
    | [], n => cases n <;> rfl
    | y :: ys, 0 => rfl
    | y :: ys, 1 => simp [setL2, ih]
    | y :: ys, n + 2 => simp [setL2, ih]
theorem setL2_get (ls : Lcs) (n : Nat) (v w : AV) (hn : n + 1 < ls.length) (i : Nat) (h : (setL2 ls n v)[i]? = some (some w)) : (i = n ∧ w = v) ∨ (i ≠ n ∧ i ≠ n + 1 ∧ ls[i]? = some (some w) ∧ ¬ (i + 1 = n ∧ isLg (some w) = true)) := by
  induction ls generalizing n i with
  | nil => simp at hn
  | cons x xs ih =>
    match xs, n, hn, h, ih with
    | [], n, hn, _, _ => simp at hn
    | y :: ys, 0, _, h, ih =>
      match i, h with
      | 0, h => simp [setL2] at h; exact Or.inl ⟨rfl, h.symm⟩
      | 1, h => simp [setL2] at h
      | i + 2, h => simp [setL2] at h; exact Or.inr ⟨by omega, by omega, by simpa using h, by omega⟩
    | y :: ys, 1, hn, h, ih =>
      cases i with
      | zero =>
        simp only [setL2, List.getElem?_cons_zero, Option.some.injEq] at h
        by_cases hx : isLg x = true
        · rw [if_pos hx] at h; cases h
        · rw [if_neg hx] at h
          exact Or.inr ⟨by omega, by omega, by rw [h]; rfl, fun q => hx (by rw [h]; exact q.2)⟩
      | succ i =>
        simp only [setL2, List.getElem?_cons_succ] at h
        rcases ih 0 (by simp at hn ⊢; omega) i h with ⟨h1, h2⟩ | ⟨h1, h2, h3, h4⟩
        · exact Or.inl ⟨by omega, h2⟩
        · exact Or.inr ⟨by omega, by omega, by simpa using h3, by omega⟩
    | y :: ys, n + 2, hn, h, ih =>
      cases i with
      | zero =>
        simp only [setL2, List.getElem?_cons_zero, Option.some.injEq] at h
        exact Or.inr ⟨by omega, by omega, by rw [h]; rfl, by omega⟩
      | succ i =>
        simp only [setL2, List.getElem?_cons_succ] at h
        rcases ih (n + 1) (by simp at hn ⊢; omega) i h with ⟨h1, h2⟩ | ⟨h1, h2, h3, h4⟩
        · exact Or.inl ⟨by omega, h2⟩
        · exact Or.inr ⟨by omega, by omega, by simpa using h3, fun q => h4 ⟨by omega, q.2⟩⟩
