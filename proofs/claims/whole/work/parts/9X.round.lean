/-! round: rows of goals, by sets. -/
/-- a fold over a row of numbers -/
def fo {A : Type} (P : Int → A → A) (a : Int) : Nat → A → A
  | 0, acc => acc
  | c + 1, acc => fo P (a + 1) c (P a acc)
theorem fo_last {A : Type} {P : Int → A → A} : ∀ (c : Nat) (a : Int) (acc : A), fo P a (c + 1) acc = P (a + c) (fo P a c acc)
  | 0, a, acc => by show P a acc = P (a + ((0 : Nat) : Int)) acc; rw [Int.natCast_zero, Int.add_zero]
  | c + 1, a, acc => by
    have ih := fo_last (P := P) c (a + 1) (P a acc)
    show fo P (a + 1) (c + 1) (P a acc) = P (a + ((c + 1 : Nat) : Int)) (fo P (a + 1) c (P a acc))
    rw [ih, show a + 1 + (c : Int) = a + ((c + 1 : Nat) : Int) by omega]
/-- the least of those that may be taken, and the first that is it -/
def mn (ok : Int → Bool) (g : Int → Int) : Nat → Int
  | 0 => 2147483647
  | n + 1 => if ok n = true ∧ g n < mn ok g n then g n else mn ok g n
def fx (ok : Int → Bool) (g : Int → Int) : Nat → Int
  | 0 => 0
  | n + 1 => if ok n = true ∧ g n < mn ok g n then (n : Int) else fx ok g n
theorem mn_le {ok : Int → Bool} {g : Int → Int} : ∀ n : Nat, mn ok g n ≤ 2147483647 ∧ ∀ x : Int, 0 ≤ x → x < n → ok x = true → mn ok g n ≤ g x
  | 0 => ⟨Int.le_refl _, fun x x0 x1 => by omega⟩
  | n + 1 => by
    have ih := mn_le (ok := ok) (g := g) n
    rw [mn]
    by_cases c : ok n = true ∧ g n < mn ok g n
    · rw [if_pos c]
      refine ⟨by omega, fun x x0 x1 hx => ?_⟩
      by_cases e : x = n
      · rw [e]; omega
      · have := ih.2 x x0 (by omega) hx; omega
    · rw [if_neg c]
      refine ⟨ih.1, fun x x0 x1 hx => ?_⟩
      by_cases e : x = n
      · rw [e] at hx ⊢
        rcases Int.lt_or_le (g n) (mn ok g n) with q | q
        · exact absurd ⟨hx, q⟩ c
        · exact q
      · exact ih.2 x x0 (by omega) hx
/-- the first that is the least -/
theorem fx_is {ok : Int → Bool} {g : Int → Int} : ∀ n : Nat, (mn ok g n = 2147483647 ∧ fx ok g n = 0) ∨ ((0 ≤ fx ok g n ∧ fx ok g n < n) ∧ ok (fx ok g n) = true ∧ g (fx ok g n) = mn ok g n ∧ ∀ x : Int, 0 ≤ x → x < fx ok g n → ok x = true → mn ok g n < g x)
  | 0 => Or.inl ⟨rfl, rfl⟩
  | n + 1 => by
    have ih := fx_is (ok := ok) (g := g) n
    have le := mn_le (ok := ok) (g := g) n
    rw [mn, fx]
    by_cases c : ok n = true ∧ g n < mn ok g n
    · rw [if_pos c, if_pos c]
      exact Or.inr ⟨⟨by omega, by omega⟩, c.1, rfl, fun x x0 x1 hx => by have := le.2 x x0 x1 hx; omega⟩
    · rw [if_neg c, if_neg c]
      rcases ih with h | ⟨h1, h2, h3, h4⟩
      · exact Or.inl h
      · exact Or.inr ⟨⟨h1.1, by omega⟩, h2, h3, h4⟩
theorem mn_some {ok : Int → Bool} {g : Int → Int} {n : Nat} (x : Int) (x0 : 0 ≤ x) (x1 : x < n) (hx : ok x = true) (hg : g x < 2147483647) : (0 ≤ fx ok g n ∧ fx ok g n < n) ∧ ok (fx ok g n) = true ∧ g (fx ok g n) = mn ok g n ∧ ∀ x : Int, 0 ≤ x → x < fx ok g n → ok x = true → mn ok g n < g x := by
  rcases fx_is (ok := ok) (g := g) n with h | h
  · have := (mn_le (ok := ok) (g := g) n).2 x x0 x1 hx
    omega
  · exact h
/-- the first one is told by being so -/
theorem fx_uniq {ok : Int → Bool} {g : Int → Int} {n : Nat} {y : Int} (h : (0 ≤ fx ok g n ∧ fx ok g n < n) ∧ ok (fx ok g n) = true ∧ g (fx ok g n) = mn ok g n ∧ ∀ x : Int, 0 ≤ x → x < fx ok g n → ok x = true → mn ok g n < g x) (y0 : 0 ≤ y) (hy : ok y = true) (e : g y = mn ok g n) (hf : ∀ x : Int, 0 ≤ x → x < y → ok x = true → g x ≠ mn ok g n) : y = fx ok g n := by
  rcases Int.lt_trichotomy y (fx ok g n) with q | q | q
  · have := h.2.2.2 y y0 q hy; omega
  · exact q
  · exact absurd h.2.2.1 (hf _ h.1.1 q h.2.1)
/-- numbers that are all greater by c: the same is first -/
theorem mn_shift {ok : Int → Bool} {g : Int → Int} {n : Nat} {c : Int} (c0 : 0 ≤ c) (x : Int) (x0 : 0 ≤ x) (x1 : x < n) (hx : ok x = true) (hg : ∀ x : Int, 0 ≤ x → x < n → ok x = true → c + g x < 2147483647) : mn ok (fun x => c + g x) n = c + mn ok g n ∧ fx ok (fun x => c + g x) n = fx ok g n := by
  have h1 := mn_some (ok := ok) (g := fun x => c + g x) (n := n) x x0 x1 hx (hg x x0 x1 hx)
  have h2 := mn_some (ok := ok) (g := g) (n := n) x x0 x1 hx (by have := hg x x0 x1 hx; omega)
  have a1 := (mn_le (ok := ok) (g := fun x => c + g x) n).2 _ h2.1.1 h2.1.2 h2.2.1
  have a2 := (mn_le (ok := ok) (g := g) n).2 _ h1.1.1 h1.1.2 h1.2.1
  have b1 := h1.2.2.1
  have b2 := h2.2.2.1
  have e : mn ok (fun x => c + g x) n = c + mn ok g n := by omega
  refine ⟨e, fx_uniq h2 h1.1.1 h1.2.1 (by omega) (fun y y0 y1 hy z => ?_)⟩
  have := h1.2.2.2 y y0 y1 hy
  omega
theorem mn_congr {ok ok' : Int → Bool} {g g' : Int → Int} : ∀ n : Nat, (∀ x : Int, 0 ≤ x → x < n → ok' x = ok x ∧ (ok x = true → g' x = g x)) → mn ok' g' n = mn ok g n ∧ fx ok' g' n = fx ok g n
  | 0, _ => ⟨rfl, rfl⟩
  | n + 1, h => by
    have ih := mn_congr (ok := ok) (g := g) n (fun x x0 x1 => h x x0 (by omega))
    have hn := h n (by omega) (by omega)
    rw [mn, mn, fx, fx, ih.1, ih.2, hn.1]
    by_cases c : ok n = true
    · rw [hn.2 c]; exact ⟨rfl, rfl⟩
    · rw [if_neg (fun z => c z.1), if_neg (fun z => c z.1), if_neg (fun z => c z.1), if_neg (fun z => c z.1)]; exact ⟨rfl, rfl⟩
/-- a fold that keeps the least finds the first that is it -/
theorem fo_mn {A : Type} {ok : Int → Bool} {g : Int → Int} {q : Int → A} {P : Int → Int × A → Int × A} {acc : Int × A} (ha : acc.1 ≤ 2147483647) (hP : ∀ x acc, P x acc = if ok x = true then (if g x < acc.1 then (g x, q x) else acc) else acc) : ∀ n : Nat, fo P 0 n acc = if mn ok g n < acc.1 then (mn ok g n, q (fx ok g n)) else acc
  | 0 => by
    rw [show mn ok g 0 = 2147483647 from rfl, if_neg (by omega)]
    rfl
  | n + 1 => by
    have ih := fo_mn (P := P) ha hP n
    rw [fo_last, Int.zero_add, ih, hP]
    by_cases c : ok n = true ∧ g n < mn ok g n
    · have em : mn ok g (n + 1) = g n := by rw [mn, if_pos c]
      have ef : fx ok g (n + 1) = n := by rw [fx, if_pos c]
      rw [em, ef, if_pos c.1]
      by_cases c1 : mn ok g n < acc.1
      · rw [if_pos c1]
        simp only
        rw [if_pos c.2, if_pos (by omega)]
      · rw [if_neg c1]
    · have em : mn ok g (n + 1) = mn ok g n := by rw [mn, if_neg c]
      have ef : fx ok g (n + 1) = fx ok g n := by rw [fx, if_neg c]
      rw [em, ef]
      by_cases c0 : ok n = true
      · have c2 : ¬ g n < mn ok g n := fun z => c ⟨c0, z⟩
        rw [if_pos c0]
        by_cases c1 : mn ok g n < acc.1
        · rw [if_pos c1]
          simp only
          rw [if_neg c2]
        · have c3 : ¬ g n < acc.1 := by omega
          rw [if_neg c1, if_neg c3]
      · rw [if_neg c0]
/-- steps of a row of goals (the latest first); N: where it begins -/
def costL (fd : Int → Int → Int) (N : Nat) : List Int → Int
  | [] => 0
  | x :: l => costL fd N l + fd (l.headD N) x
/-- fewest steps through all that are not in l, with r of them -/
def dlK (fd : Int → Int → Int) (N : Nat) : Nat → List Int → Int
  | 0, _ => 0
  | r + 1, l => mn (fun x => !l.contains x) (fun x => fd (l.headD N) x + dlK fd N r (x :: l)) N
/-- the first such row -/
def coM (fd : Int → Int → Int) (N : Nat) : Nat → List Int → List Int
  | 0, l => l
  | r + 1, l => coM fd N r (fx (fun x => !l.contains x) (fun x => fd (l.headD N) x + dlK fd N r (x :: l)) N :: l)
/-- all rows, one after the other -/
def dfs (fd : Int → Int → Int) (N : Nat) : Nat → List Int → Int × List Int → Int × List Int
  | 0, l, acc => if costL fd N l < acc.1 then (costL fd N l, l) else acc
  | r + 1, l, acc => fo (fun x acc => if l.contains x = true then acc else dfs fd N r (x :: l) acc) 0 N acc
/-- rows of different goals -/
def RoL (N : Nat) (l : List Int) : Prop := l.Nodup ∧ ∀ y ∈ l, 0 ≤ y ∧ y < (N : Int)
theorem pig2 : ∀ (s : Nat) (l : List Int) (a : Int), l.Nodup → (∀ y ∈ l, a ≤ y ∧ y < a + s) → l.length ≤ s
  | 0, l, a, _, h => by
    cases l with
    | nil => exact Nat.le_refl _
    | cons x l => have := h x (List.mem_cons_self ..); omega
  | s + 1, l, a, nd, h => by
    by_cases c : (a + s) ∈ l
    · have le := pig2 s (l.erase (a + s)) a (nd.erase _) (fun y hy => by
        have m := (List.Nodup.mem_erase_iff nd).1 hy
        have := h y m.2
        have := m.1
        omega)
      have := List.length_erase_of_mem c
      have : 0 < l.length := List.length_pos_of_mem c
      omega
    · have le := pig2 s l a nd (fun y hy => by
        have := h y hy
        have : y ≠ a + s := fun e => c (e ▸ hy)
        omega)
      omega
/-- there is one that is not in the row -/
theorem some_out : ∀ (N : Nat) (l : List Int), l.length < N → ∃ x : Int, 0 ≤ x ∧ x < N ∧ l.contains x = false := by
  intro N l h
  have key : ∀ n : Nat, n ≤ N → (∃ x : Int, 0 ≤ x ∧ x < n ∧ l.contains x = false) ∨ ∀ x : Int, 0 ≤ x → x < n → x ∈ l := by
    intro n
    induction n with
    | zero => intro _; exact Or.inr (fun x x0 x1 => by omega)
    | succ n ih =>
      intro hn
      rcases ih (by omega) with ⟨x, x0, x1, x2⟩ | q
      · exact Or.inl ⟨x, x0, by omega, x2⟩
      · cases c : l.contains (n : Int) with
        | false => exact Or.inl ⟨n, by omega, by omega, c⟩
        | true =>
          refine Or.inr (fun x x0 x1 => ?_)
          by_cases e : x = n
          · rw [e]; exact List.contains_iff_mem.1 c
          · exact q x x0 (by omega)
  rcases key N (Nat.le_refl _) with q | q
  · exact q
  · exfalso
    -- all of 0 .. N - 1 are in l: a list of them is no longer than l
    have le : ∀ (n : Nat) (l : List Int), (∀ x : Int, 0 ≤ x → x < n → x ∈ l) → n ≤ l.length := by
      intro n
      induction n with
      | zero => intro l _; exact Nat.zero_le _
      | succ n ih =>
        intro l hl
        have m := hl n (by omega) (by omega)
        have := ih (l.erase (n : Int)) (fun x x0 x1 => (List.mem_erase_of_ne (by omega)).2 (hl x x0 (by omega)))
        have e := List.length_erase_of_mem m
        have : 0 < l.length := List.length_pos_of_mem m
        omega
    have := le N l q
    omega
theorem dlK_bd {fd : Int → Int → Int} {N : Nat} (hf : ∀ a b : Int, 0 ≤ a → a ≤ N → 0 ≤ b → b < N → 0 ≤ fd a b ∧ fd a b ≤ 8) : ∀ (r : Nat) (l : List Int), l.length + r = N → (∀ y ∈ l, 0 ≤ y ∧ y < (N : Int)) → 0 ≤ dlK fd N r l ∧ dlK fd N r l ≤ 8 * r
  | 0, l, _, _ => ⟨Int.le_refl _, Int.le_refl _⟩
  | r + 1, l, hl, hb => by
    obtain ⟨x, x0, x1, x2⟩ := some_out N l (by omega)
    have hd : 0 ≤ l.headD N ∧ l.headD N ≤ N := by
      cases l with
      | nil => show (0 : Int) ≤ N ∧ (N : Int) ≤ N; omega
      | cons y l => have := hb y (List.mem_cons_self ..); show 0 ≤ y ∧ y ≤ (N : Int); omega
    have bx : ∀ y : Int, 0 ≤ y → y < N → 0 ≤ fd (l.headD N) y + dlK fd N r (y :: l) ∧ fd (l.headD N) y + dlK fd N r (y :: l) ≤ 8 * (r + 1) := fun y y0 y1 => by
      have h1 := hf _ y hd.1 hd.2 y0 y1
      have h2 := dlK_bd hf r (y :: l) (by rw [List.length_cons]; omega) (fun z hz => by
        rcases List.mem_cons.1 hz with q | q
        · rw [q]; exact ⟨y0, y1⟩
        · exact hb z q)
      omega
    have b := bx x x0 x1
    have rN : (r : Int) + 1 ≤ N := by omega
    rw [dlK]
    have rb : (8 : Int) * (r + 1) < 2147483647 ∨ 2147483647 ≤ (8 : Int) * (r + 1) := by omega
    have le := mn_le (ok := fun x => !l.contains x) (g := fun x => fd (l.headD N) x + dlK fd N r (x :: l)) N
    have l1 := le.2 x x0 x1 (by rw [x2]; rfl)
    refine ⟨?_, by push_cast; omega⟩
    rcases fx_is (ok := fun x => !l.contains x) (g := fun x => fd (l.headD N) x + dlK fd N r (x :: l)) N with h | ⟨h1, _, h3, _⟩
    · rw [h.1]; omega
    · rw [← h3]; exact (bx _ h1.1 h1.2).1
theorem costL_bd {fd : Int → Int → Int} {N : Nat} (hf : ∀ a b : Int, 0 ≤ a → a ≤ N → 0 ≤ b → b < N → 0 ≤ fd a b ∧ fd a b ≤ 8) : ∀ l : List Int, (∀ y ∈ l, 0 ≤ y ∧ y < (N : Int)) → 0 ≤ costL fd N l ∧ costL fd N l ≤ 8 * l.length
  | [], _ => ⟨Int.le_refl _, Int.le_refl _⟩
  | x :: l, hb => by
    have ih := costL_bd hf l (fun y hy => hb y (List.mem_cons_of_mem _ hy))
    have hx := hb x (List.mem_cons_self ..)
    have hd : 0 ≤ l.headD N ∧ l.headD N ≤ N := by
      cases l with
      | nil => show (0 : Int) ≤ N ∧ (N : Int) ≤ N; omega
      | cons y l => have := hb y (List.mem_cons_of_mem _ (List.mem_cons_self ..)); show 0 ≤ y ∧ y ≤ (N : Int); omega
    have h1 := hf _ x hd.1 hd.2 hx.1 hx.2
    rw [costL, List.length_cons]
    push_cast
    omega
theorem dfs_is {fd : Int → Int → Int} {N : Nat} (hN : N ≤ 8) (hf : ∀ a b : Int, 0 ≤ a → a ≤ N → 0 ≤ b → b < N → 0 ≤ fd a b ∧ fd a b ≤ 8) : ∀ (r : Nat) (l : List Int) (acc : Int × List Int), l.length + r = N → (∀ y ∈ l, 0 ≤ y ∧ y < (N : Int)) → acc.1 ≤ 2147483647 → dfs fd N r l acc = if costL fd N l + dlK fd N r l < acc.1 then (costL fd N l + dlK fd N r l, coM fd N r l) else acc
  | 0, l, acc, _, _, _ => by rw [dfs, dlK, coM, Int.add_zero]
  | r + 1, l, acc, hl, hb, ha => by
    obtain ⟨x, x0, x1, x2⟩ := some_out N l (by omega)
    have hd : 0 ≤ l.headD N ∧ l.headD N ≤ N := by
      cases l with
      | nil => show (0 : Int) ≤ N ∧ (N : Int) ≤ N; omega
      | cons y l => have := hb y (List.mem_cons_self ..); show 0 ≤ y ∧ y ≤ (N : Int); omega
    have cb := costL_bd hf l hb
    -- within the fold only numbers below N are tried
    have P2 : ∀ n : Nat, n ≤ N → fo (fun x acc => if l.contains x = true then acc else dfs fd N r (x :: l) acc) 0 n acc = fo (fun x acc => if (!l.contains x) = true then (if (fun x => costL fd N l + (fd (l.headD N) x + dlK fd N r (x :: l))) x < acc.1 then ((fun x => costL fd N l + (fd (l.headD N) x + dlK fd N r (x :: l))) x, coM fd N r (x :: l)) else acc) else acc) 0 n acc ∧ (fo (fun x acc => if l.contains x = true then acc else dfs fd N r (x :: l) acc) 0 n acc).1 ≤ 2147483647 := by
      intro n
      induction n with
      | zero => intro _; exact ⟨rfl, ha⟩
      | succ n ih =>
        intro hn
        obtain ⟨e1, e2⟩ := ih (by omega)
        rw [fo_last, fo_last, Int.zero_add, ← e1]
        generalize fo (fun x acc => if l.contains x = true then acc else dfs fd N r (x :: l) acc) 0 n acc = A at *
        simp only
        cases c : l.contains (n : Int) with
        | true => simp only [Bool.not_true, if_true, Bool.false_eq_true, if_false]; exact ⟨trivial, e2⟩
        | false =>
          simp only [Bool.not_false, if_true, Bool.false_eq_true, if_false]
          have k := dfs_is hN hf r ((n : Int) :: l) A (by rw [List.length_cons]; omega) (fun z hz => by
            rcases List.mem_cons.1 hz with q | q
            · rw [q]; omega
            · exact hb z q) e2
          have ec : costL fd N ((n : Int) :: l) + dlK fd N r ((n : Int) :: l) = costL fd N l + (fd (l.headD N) n + dlK fd N r ((n : Int) :: l)) := by rw [costL]; omega
          rw [k, ec]
          refine ⟨rfl, ?_⟩
          split
          · simp only; omega
          · exact e2
    have bx : ∀ y : Int, 0 ≤ y → y < N → costL fd N l + (fd (l.headD N) y + dlK fd N r (y :: l)) < 2147483647 := fun y y0 y1 => by
      have h1 := hf _ y hd.1 hd.2 y0 y1
      have h2 := dlK_bd hf r (y :: l) (by rw [List.length_cons]; omega) (fun z hz => by
        rcases List.mem_cons.1 hz with q | q
        · rw [q]; exact ⟨y0, y1⟩
        · exact hb z q)
      omega
    have sh := mn_shift (ok := fun x => !l.contains x) (g := fun x => fd (l.headD N) x + dlK fd N r (x :: l)) (n := N) (c := costL fd N l) cb.1 x x0 x1 (by rw [x2]; rfl) (fun y y0 y1 _ => bx y y0 y1)
    rw [dfs, (P2 N (Nat.le_refl _)).1, fo_mn (ok := fun x => !l.contains x) (g := fun x => costL fd N l + (fd (l.headD N) x + dlK fd N r (x :: l))) (q := fun x => coM fd N r (x :: l)) ha (fun _ _ => rfl) N, sh.1, sh.2]
    rfl
/-- a set without one -/
def stR (s x : Nat) : Nat := s - bt s x * 2 ^ x
theorem stR_tab : ∀ s : Fin 256, ∀ x i : Fin 8, bt (stR s.val x.val) i.val = if i.val = x.val then 0 else bt s.val i.val := by decide +kernel
theorem stR_bt {s x i : Nat} (hs : s < 256) (hx : x < 8) (hi : i < 8) : bt (stR s x) i = if i = x then 0 else bt s i := stR_tab ⟨s, hs⟩ ⟨x, hx⟩ ⟨i, hi⟩
theorem stR_le (s x : Nat) : stR s x ≤ s := Nat.sub_le _ _
theorem stR_and_tab : ∀ s : Fin 256, ∀ x : Fin 8, iand (s.val : Int) (ixor (ishl 1 (x.val : Int)) (-1)) = ((stR s.val x.val : Nat) : Int) := by decide +kernel
theorem stR_and {s x : Nat} (hs : s < 256) (hx : x < 8) : iand (s : Int) (ixor (ishl 1 (x : Int)) (-1)) = ((stR s x : Nat) : Int) := stR_and_tab ⟨s, hs⟩ ⟨x, hx⟩
theorem stR_pc_tab : ∀ s : Fin 256, ∀ x : Fin 8, bt s.val x.val = 1 → pc (stR s.val x.val) + 1 = pc s.val := by decide +kernel
theorem stR_lt_tab : ∀ s : Fin 256, ∀ x : Fin 8, bt s.val x.val = 1 → stR s.val x.val < s.val := by decide +kernel
theorem all_tab : ∀ n : Fin 9, ∀ i : Fin 8, bt (2 ^ n.val - 1) i.val = if i.val < n.val then 1 else 0 := by decide +kernel
theorem all_pc : ∀ n : Fin 9, pc (2 ^ n.val - 1) = n.val := by decide +kernel
theorem pc_0_tab : ∀ s : Fin 256, pc s.val = 0 → s.val = 0 := by decide +kernel
/-- fewest steps through a set, by smaller sets -/
def dkK (fd : Int → Int → Int) (N : Nat) : Nat → Nat → Int → Int
  | 0, _, _ => 0
  | r + 1, s, f => mn (fun x => decide (bt s x.toNat = 1)) (fun x => fd f x + dkK fd N r (stR s x.toNat) x) N
/-- all that are not in a row -/
def slK (N : Nat) : List Int → Nat
  | [] => 2 ^ N - 1
  | x :: l => stR (slK N l) x.toNat
theorem slK_lt {N : Nat} (hN : N ≤ 8) : ∀ l : List Int, slK N l < 256
  | [] => by
    have := p2_le ⟨N, by omega⟩
    simp only at this
    have p : 1 ≤ 2 ^ N := Nat.one_le_two_pow
    show 2 ^ N - 1 < 256
    omega
  | x :: l => Nat.lt_of_le_of_lt (stR_le _ _) (slK_lt hN l)
theorem slK_bt {N : Nat} (hN : N ≤ 8) : ∀ (l : List Int), (∀ y ∈ l, 0 ≤ y ∧ y < (N : Int)) → ∀ i : Int, 0 ≤ i → i < 8 → bt (slK N l) i.toNat = if i < N ∧ l.contains i = false then 1 else 0
  | [], _, i, i0, i1 => by
    have := all_tab ⟨N, by omega⟩ ⟨i.toNat, by omega⟩
    simp only at this
    show bt (2 ^ N - 1) i.toNat = _
    rw [this]
    by_cases c : i < N
    · rw [if_pos (by omega), if_pos ⟨c, rfl⟩]
    · rw [if_neg (by omega), if_neg (fun z => c z.1)]
  | x :: l, hb, i, i0, i1 => by
    have hx := hb x (List.mem_cons_self ..)
    have ih := slK_bt hN l (fun y hy => hb y (List.mem_cons_of_mem _ hy)) i i0 i1
    show bt (stR (slK N l) x.toNat) i.toNat = _
    rw [stR_bt (slK_lt hN l) (by omega) (by omega), ih, List.contains_cons]
    by_cases c : i = x
    · rw [if_pos (by omega), if_neg (fun z => by have := z.2; rw [c, beq_self_eq_true] at this; cases this)]
    · rw [if_neg (by omega), beq_eq_false_iff_ne.2 c, Bool.false_or]
theorem ok_eq {N : Nat} {l : List Int} (hN : N ≤ 8) (hb : ∀ y ∈ l, 0 ≤ y ∧ y < (N : Int)) {x : Int} (x0 : 0 ≤ x) (x1 : x < N) : decide (bt (slK N l) x.toNat = 1) = !l.contains x := by
  rw [slK_bt hN l hb x x0 (by omega)]
  cases c : l.contains x with
  | true => rw [if_neg (fun z => by cases z.2)]; rfl
  | false => rw [if_pos ⟨x1, rfl⟩]; rfl
theorem dl_dk {fd : Int → Int → Int} {N : Nat} (hN : N ≤ 8) : ∀ (r : Nat) (l : List Int), (∀ y ∈ l, 0 ≤ y ∧ y < (N : Int)) → dlK fd N r l = dkK fd N r (slK N l) (l.headD N)
  | 0, l, _ => rfl
  | r + 1, l, hb => by
    rw [dlK, dkK]
    refine (mn_congr N (fun x x0 x1 => ⟨(ok_eq hN hb x0 x1).symm, fun _ => ?_⟩)).1
    rw [dl_dk hN r (x :: l) (fun y hy => by
      rcases List.mem_cons.1 hy with q | q
      · rw [q]; exact ⟨x0, x1⟩
      · exact hb y q)]
    rfl
/-- the next goal, told by sets -/
theorem fx_set {fd : Int → Int → Int} {N : Nat} (hN : N ≤ 8) {r : Nat} {l : List Int} (hb : ∀ y ∈ l, 0 ≤ y ∧ y < (N : Int)) : fx (fun x => !l.contains x) (fun x => fd (l.headD N) x + dlK fd N r (x :: l)) N = fx (fun x => decide (bt (slK N l) x.toNat = 1)) (fun x => fd (l.headD N) x + dkK fd N r (stR (slK N l) x.toNat) x) N :=
  (mn_congr N (fun x x0 x1 => ⟨(ok_eq hN hb x0 x1).symm, fun _ => by
    rw [dl_dk hN r (x :: l) (fun y hy => by
      rcases List.mem_cons.1 hy with q | q
      · rw [q]; exact ⟨x0, x1⟩
      · exact hb y q)]
    rfl⟩)).2
theorem slK_pc {N : Nat} (hN : N ≤ 8) : ∀ l : List Int, l.Nodup → (∀ y ∈ l, 0 ≤ y ∧ y < (N : Int)) → pc (slK N l) + l.length = N
  | [], _, _ => by
    have := all_pc ⟨N, by omega⟩
    simp only at this
    show pc (2 ^ N - 1) + 0 = N
    omega
  | x :: l, nd, hb => by
    have hx := hb x (List.mem_cons_self ..)
    have nd' := List.nodup_cons.1 nd
    have ih := slK_pc hN l nd'.2 (fun y hy => hb y (List.mem_cons_of_mem _ hy))
    have b := slK_bt hN l (fun y hy => hb y (List.mem_cons_of_mem _ hy)) x hx.1 (by omega)
    have nc : l.contains x = false := by
      cases c : l.contains x with
      | false => rfl
      | true => exact absurd (List.contains_iff_mem.1 c) nd'.1
    rw [if_pos ⟨hx.2, nc⟩] at b
    have t := stR_pc_tab ⟨slK N l, slK_lt hN l⟩ ⟨x.toNat, by omega⟩ b
    simp only at t
    show pc (stR (slK N l) x.toNat) + (x :: l).length = N
    rw [List.length_cons]
    omega
/-- whom a person owes, the latest first -/
def gsK (τ : Tw) (p : Int) : Nat → List Int
  | 0 => []
  | o + 1 => if 0 < τ 7 (p * 8 + o) then (o : Int) :: gsK τ p o else gsK τ p o
theorem gsK_in {τ : Tw} {p : Int} : ∀ n : Nat, (gsK τ p n).length ≤ n ∧ ∀ y ∈ gsK τ p n, 0 ≤ y ∧ y < (n : Int)
  | 0 => ⟨Nat.le_refl _, fun y hy => by cases hy⟩
  | n + 1 => by
    have ih := gsK_in (τ := τ) (p := p) n
    rw [gsK]
    by_cases c : 0 < τ 7 (p * 8 + n)
    · rw [if_pos c]
      refine ⟨by rw [List.length_cons]; omega, fun y hy => ?_⟩
      rcases List.mem_cons.1 hy with q | q
      · rw [q]; omega
      · have := ih.2 y q; omega
    · rw [if_neg c]
      exact ⟨by omega, fun y hy => by have := ih.2 y hy; omega⟩
/-- not oneself -/
theorem gsK_few {τ : Tw} {p : Int} (hz : τ 7 (p * 8 + p) = 0) (p0 : 0 ≤ p) : ∀ n : Nat, (p < n → (gsK τ p n).length + 1 ≤ n)
  | 0, h => by omega
  | n + 1, h => by
    have a := gsK_in (τ := τ) (p := p) n
    rw [gsK]
    by_cases e : p = n
    · rw [if_neg (by rw [← e, hz]; omega)]; omega
    · have ih := gsK_few hz p0 n (by omega)
      split
      · rw [List.length_cons]; omega
      · omega
theorem gsK_mono {τ : Tw} {p : Int} : ∀ n k : Nat, (gsK τ p n).length ≤ (gsK τ p (n + k)).length ∧ ((gsK τ p n).length = (gsK τ p (n + k)).length → gsK τ p (n + k) = gsK τ p n)
  | n, 0 => ⟨Nat.le_refl _, fun _ => rfl⟩
  | n, k + 1 => by
    have ih := gsK_mono (τ := τ) (p := p) n k
    rw [show n + (k + 1) = (n + k) + 1 by omega, gsK]
    by_cases c : 0 < τ 7 (p * 8 + ((n + k : Nat) : Int))
    · rw [if_pos c, List.length_cons]
      exact ⟨by omega, fun z => by omega⟩
    · rw [if_neg c]; exact ih
/-- steps between goals; the last one is the person -/
def fdS (τ : Tw) (gs : List Int) (p a b : Int) : Int := dist (τ 2 (if a < gs.length then gIx gs a else p)) (τ 2 (if b < gs.length then gIx gs b else p))
def roN (τ : Tw) (p : Int) : Nat := (gsK τ p (τ 0 11).toNat).length
def roF (τ : Tw) (p : Int) : Int → Int → Int := fdS τ (gsK τ p (τ 0 11).toNat) p
def roS (τ : Tw) (p i : Int) : Int := if 0 ≤ p ∧ p < τ 0 11 then (if i = -1 then dlK (roF τ p) (roN τ p) (roN τ p) [] else if 0 ≤ i ∧ i < roN τ p then gIx (gsK τ p (τ 0 11).toNat) (gIx (coM (roF τ p) (roN τ p) (roN τ p) []) i) else -1) else -1
/-- a found row is one of all goals -/
theorem coM_in {fd : Int → Int → Int} {N : Nat} (hN : N ≤ 8) (hf : ∀ a b : Int, 0 ≤ a → a ≤ N → 0 ≤ b → b < N → 0 ≤ fd a b ∧ fd a b ≤ 8) : ∀ (r : Nat) (l : List Int), l.length + r = N → l.Nodup → (∀ y ∈ l, 0 ≤ y ∧ y < (N : Int)) → (coM fd N r l).length = N ∧ ∀ y ∈ coM fd N r l, 0 ≤ y ∧ y < (N : Int)
  | 0, l, hl, _, hb => ⟨by show l.length = N; omega, hb⟩
  | r + 1, l, hl, nd, hb => by
    obtain ⟨x, x0, x1, x2⟩ := some_out N l (by omega)
    have hd : 0 ≤ l.headD N ∧ l.headD N ≤ N := by
      cases l with
      | nil => show (0 : Int) ≤ N ∧ (N : Int) ≤ N; omega
      | cons y l => have := hb y (List.mem_cons_self ..); show 0 ≤ y ∧ y ≤ (N : Int); omega
    have bx : fd (l.headD N) x + dlK fd N r (x :: l) < 2147483647 := by
      have h1 := hf _ x hd.1 hd.2 x0 x1
      have h2 := dlK_bd hf r (x :: l) (by rw [List.length_cons]; omega) (fun z hz => by
        rcases List.mem_cons.1 hz with q | q
        · rw [q]; exact ⟨x0, x1⟩
        · exact hb z q)
      omega
    have k := mn_some (ok := fun x => !l.contains x) (g := fun x => fd (l.headD N) x + dlK fd N r (x :: l)) (n := N) x x0 x1 (by rw [x2]; rfl) bx
    rw [coM]
    have nm : fx (fun x => !l.contains x) (fun x => fd (l.headD N) x + dlK fd N r (x :: l)) N ∉ l := fun z => by
      have h2 := k.2.1
      rw [List.contains_iff_mem.2 z] at h2
      cases h2
    exact coM_in hN hf r _ (by rw [List.length_cons]; omega) (List.nodup_cons.2 ⟨nm, nd⟩) (fun y hy => by
      rcases List.mem_cons.1 hy with q | q
      · rw [q]; exact k.1
      · exact hb y q)
