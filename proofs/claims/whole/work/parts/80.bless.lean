/-! Who blesses, as the best of all who may. -/
/-- strictly ahead -/
def ahR (τ : Tw) (s a r : Int) : Prop := dsS τ a s < dsS τ r s ∨ dsS τ a s = dsS τ r s ∧ (τ 3 r < τ 3 a ∨ τ 3 a = τ 3 r ∧ a < r)
theorem ahR_tr {τ : Tw} {s a r q : Int} (h1 : ahR τ s a r) (h2 : ahR τ s r q) : ahR τ s a q := by unfold ahR at *; omega
theorem ahR_to {τ : Tw} {s a r : Int} (h : a ≠ r) : ahR τ s a r ∨ ahR τ s r a := by unfold ahR; omega
theorem ahR_as {τ : Tw} {s a r : Int} (h1 : ahR τ s a r) (h2 : ahR τ s r a) : False := by unfold ahR at *; omega
theorem ahS_iff {τ : Tw} {a r s : Int} : ahS τ a r s = true ↔ r = -1 ∨ ahR τ s a r := by unfold ahS ahR; exact decide_eq_true_iff
/-- of the first n: B is who blesses -/
def BsK (τ : Tw) (al : List Cls) (s : Int) (out : Int → Bool) (n : Int) (B : Int) : Prop :=
  (B = -1 ∧ ∀ i, 0 ≤ i → i < n → out i = false → maS τ al i s = false) ∨ ((0 ≤ B ∧ B < n) ∧ out B = false ∧ maS τ al B s = true ∧ ∀ i, 0 ≤ i → i < n → out i = false → maS τ al i s = true → i ≠ B → ahR τ s B i)
theorem blK_spec {τ : Tw} {al : List Cls} {s : Int} {out : Int → Bool} : ∀ n : Nat, BsK τ al s out n (blK τ al s out n)
  | 0 => Or.inl ⟨rfl, fun i h0 h1 => by omega⟩
  | n + 1 => by
    have ih := blK_spec (τ := τ) (al := al) (s := s) (out := out) n
    have bd := blK_bd (τ := τ) (al := al) (s := s) (out := out) n
    rw [blK]
    generalize blK τ al s out n = B at *
    by_cases c : (!out n && maS τ al n s && ahS τ n B s) = true
    · rw [if_pos c]
      simp only [Bool.and_eq_true, Bool.not_eq_true'] at c
      obtain ⟨⟨c1, c2⟩, c3⟩ := c
      have c3 := ahS_iff.mp c3
      refine Or.inr ⟨by omega, c1, c2, fun i i0 i1 io im ne => ?_⟩
      rcases ih with ⟨e, h⟩ | ⟨e, h1, h2, h3⟩
      · have := h i i0 (by omega) io; rw [this] at im; cases im
      · have a1 : ahR τ s n B := by rcases c3 with c3 | c3; · omega
                                    · exact c3
        by_cases q : i = B
        · rw [q]; exact a1
        · exact ahR_tr a1 (h3 i i0 (by omega) io im q)
    · rw [if_neg c]
      have key : out n = false → maS τ al n s = true → ahS τ n B s = false := by
        intro k1 k2
        rw [k1, k2] at c
        simpa using c
      rcases ih with ⟨e, h⟩ | ⟨e, h1, h2, h3⟩
      · refine Or.inl ⟨e, fun i i0 i1 io => ?_⟩
        by_cases q : i = n
        · subst q
          cases hm : maS τ al n s with
          | false => rfl
          | true =>
            have := key io hm
            have t : ahS τ n B s = true := ahS_iff.mpr (Or.inl e)
            rw [t] at this; cases this
        · exact h i i0 (by omega) io
      · refine Or.inr ⟨by omega, h1, h2, fun i i0 i1 io im ne => ?_⟩
        by_cases q : i = n
        · subst q
          have := key io im
          rcases ahR_to (τ := τ) (s := s) (a := (n : Int)) (r := B) (by omega) with z | z
          · have t : ahS τ n B s = true := ahS_iff.mpr (Or.inr z)
            rw [t] at this; cases this
          · exact z
        · exact h3 i i0 (by omega) io im ne
theorem BsK.uniq {τ : Tw} {al : List Cls} {s n B C : Int} {out : Int → Bool} (h1 : BsK τ al s out n B) (h2 : BsK τ al s out n C) : B = C := by
  rcases h1 with ⟨e1, a1⟩ | ⟨e1, b1, c1, d1⟩ <;> rcases h2 with ⟨e2, a2⟩ | ⟨e2, b2, c2, d2⟩
  · omega
  · have := a1 C e2.1 e2.2 b2; rw [c2] at this; cases this
  · have := a2 B e1.1 e1.2 b1; rw [c1] at this; cases this
  · by_cases q : B = C
    · exact q
    · exact (ahR_as (d1 C e2.1 e2.2 b2 c2 (fun z => q z.symm)) (d2 B e1.1 e1.2 b1 c1 q)).elim
theorem blS_spec {τ : Tw} {al : List Cls} {s : Int} {out : Int → Bool} (W : WT τ) : BsK τ al s out (τ 0 11) (blS τ al s out) := by
  have := blK_spec (τ := τ) (al := al) (s := s) (out := out) (τ 0 11).toNat
  have hn := W.n
  rw [show ((τ 0 11).toNat : Int) = τ 0 11 by omega] at this
  exact this
/-- questions that do not ask of the place of p -/
theorem telS_up {τ : Tw} {al : List Cls} {p q kd a b f : Int} (h : a ≠ p) : telS (upT τ 2 p q) al kd a b f = telS τ al kd a b f := by
  have e : wdT (upT τ 2 p q) a b f = wdT τ a b f := by
    funext i
    unfold wdT
    rw [upT_k h]
    simp only [show ∀ k, upT τ 2 p q 1 k = τ 1 k from fun k => upT_i (by omega), show ∀ k, upT τ 2 p q 3 k = τ 3 k from fun k => upT_i (by omega), show ∀ k, upT τ 2 p q 4 k = τ 4 k from fun k => upT_i (by omega), show ∀ k, upT τ 2 p q 5 k = τ 5 k from fun k => upT_i (by omega), show ∀ k, upT τ 2 p q 8 k = τ 8 k from fun k => upT_i (by omega)]
  unfold telS
  rw [e]
theorem chS_up {τ : Tw} {al : List Cls} {p q i : Int} (h : i ≠ p) : chS (upT τ 2 p q) al i = chS τ al i := by
  unfold chS
  rw [telS_up h, show upT τ 2 p q 2 i = τ 2 i from upT_k h, upT_i (show (6 : Nat) ≠ 2 by omega), upT_i (show (1 : Nat) ≠ 2 by omega), upT_i (show (5 : Nat) ≠ 2 by omega)]
theorem reS_up {τ : Tw} {al : List Cls} {p q i : Int} (h : i ≠ p) : reS (upT τ 2 p q) al i = reS τ al i := by
  unfold reS
  rw [telS_up h, upT_i (show (4 : Nat) ≠ 2 by omega)]
theorem dsS_up {τ : Tw} {p q i j : Int} (hi : i ≠ p) (hj : j ≠ p) : dsS (upT τ 2 p q) i j = dsS τ i j := by unfold dsS; rw [upT_k hi, upT_k hj]
theorem maS_up {τ : Tw} {al : List Cls} {p q i j : Int} (hi : i ≠ p) (hj : j ≠ p) : maS (upT τ 2 p q) al i j = maS τ al i j := by
  unfold maS baS
  rw [telS_up hi, dsS_up hi hj, reS_up hi, upT_i (show (6 : Nat) ≠ 2 by omega)]
theorem ahR_up {τ : Tw} {p q s a r : Int} (hs : s ≠ p) (ha : a ≠ p) (hr : r ≠ p) : ahR (upT τ 2 p q) s a r ↔ ahR τ s a r := by
  unfold ahR
  rw [dsS_up ha hs, dsS_up hr hs, upT_i (show (3 : Nat) ≠ 2 by omega), upT_i (show (3 : Nat) ≠ 2 by omega)]
def outP (p : Int) : Int → Bool := fun o => decide (o = p)
/-- who blesses i with p in the place q, by who does so with p left out -/
theorem bl_with {τ : Tw} {al : List Cls} {p q i : Int} (W : WT τ) (W2 : WT (upT τ 2 p q)) (hp : 0 ≤ p ∧ p < τ 0 11) (hi : i ≠ p) : blS (upT τ 2 p q) al i (fun _ => false) = if (maS (upT τ 2 p q) al p i && ahS (upT τ 2 p q) p (blS τ al i (outP p)) i) = true then p else blS τ al i (outP p) := by
  have sp := blS_spec (al := al) (s := i) (out := outP p) W
  have e11 : upT τ 2 p q 0 11 = τ 0 11 := upT_i (by omega)
  have key : BsK (upT τ 2 p q) al i (fun _ => false) (τ 0 11) (if (maS (upT τ 2 p q) al p i && ahS (upT τ 2 p q) p (blS τ al i (outP p)) i) = true then p else blS τ al i (outP p)) := by
    generalize blS τ al i (outP p) = R at *
    have oo : ∀ o, o ≠ p → outP p o = false := fun o ho => decide_eq_false ho
    by_cases c : (maS (upT τ 2 p q) al p i && ahS (upT τ 2 p q) p R i) = true
    · rw [if_pos c]
      simp only [Bool.and_eq_true] at c
      have c2 := ahS_iff.mp c.2
      refine Or.inr ⟨hp, rfl, c.1, fun j j0 j1 _ jm jn => ?_⟩
      rw [maS_up jn hi] at jm
      rcases sp with ⟨e, h⟩ | ⟨e, h1, h2, h3⟩
      · have := h j j0 j1 (oo j jn); rw [this] at jm; cases jm
      · have Rp : R ≠ p := fun z => by rw [z] at h1; simp [outP] at h1
        have a1 : ahR (upT τ 2 p q) i p R := by rcases c2 with c2 | c2; · omega
                                                · exact c2
        by_cases z : j = R
        · rw [z]; exact a1
        · exact ahR_tr a1 ((ahR_up hi Rp jn).mpr (h3 j j0 j1 (oo j jn) jm z))
    · rw [if_neg c]
      have key : maS (upT τ 2 p q) al p i = true → ahS (upT τ 2 p q) p R i = false := by
        intro k1
        rw [k1] at c
        simpa using c
      rcases sp with ⟨e, h⟩ | ⟨e, h1, h2, h3⟩
      · refine Or.inl ⟨e, fun j j0 j1 _ => ?_⟩
        by_cases z : j = p
        · subst z
          cases hm : maS (upT τ 2 j q) al j i with
          | false => rfl
          | true =>
            have := key hm
            rw [ahS_iff.mpr (Or.inl e)] at this; cases this
        · rw [maS_up z hi]; exact h j j0 j1 (oo j z)
      · have Rp : R ≠ p := fun z => by rw [z] at h1; simp [outP] at h1
        refine Or.inr ⟨e, rfl, by rw [maS_up Rp hi]; exact h2, fun j j0 j1 _ jm jn => ?_⟩
        by_cases z : j = p
        · subst z
          have := key jm
          rcases ahR_to (τ := upT τ 2 j q) (s := i) (a := j) (r := R) (fun w => jn w) with w | w
          · rw [ahS_iff.mpr (Or.inr w)] at this; cases this
          · exact w
        · rw [maS_up z hi] at jm
          exact (ahR_up hi Rp z).mpr (h3 j j0 j1 (oo j z) jm jn)
  have sp2 := blS_spec (al := al) (s := i) (out := fun _ => false) W2
  rw [e11] at sp2
  exact sp2.uniq key
