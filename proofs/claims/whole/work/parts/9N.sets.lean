/-! masks: sets of people; what masks change. -/
/-- bit i of a set of at most eight people -/
def bt (s i : Nat) : Nat := s / 2 ^ i % 2
theorem bt_tab : ∀ s : Fin 256, ∀ i : Fin 8, iand (ishr (s.val : Int) (i.val : Int)) 1 = ((bt s.val i.val : Nat) : Int) := by decide +kernel
theorem bt_i {s i : Nat} (hs : s < 256) (hi : i < 8) : iand (ishr (s : Int) (i : Int)) 1 = ((bt s i : Nat) : Int) := bt_tab ⟨s, hs⟩ ⟨i, hi⟩
theorem bt_01 (s i : Nat) : bt s i = 0 ∨ bt s i = 1 := by unfold bt; omega
theorem or_tab : ∀ s : Fin 256, ∀ i : Fin 8, ior (s.val : Int) (ishl 1 (i.val : Int)) = ((s.val + (1 - bt s.val i.val) * 2 ^ i.val : Nat) : Int) := by decide +kernel
theorem or_0 : ∀ s : Fin 256, ior (s.val : Int) 0 = (s.val : Int) := by decide +kernel
theorem shl_0 : ∀ i : Fin 8, ishl 0 (i.val : Int) = 0 := by decide +kernel
theorem shl_1 : ∀ n : Fin 9, ishl 1 (n.val : Int) = ((2 ^ n.val : Nat) : Int) := by decide +kernel
theorem bt_set_tab : ∀ s : Fin 256, ∀ x i : Fin 8, bt (s.val + (1 - bt s.val x.val) * 2 ^ x.val) i.val = if i.val = x.val then 1 else bt s.val i.val := by decide +kernel
theorem set_lt_tab : ∀ s : Fin 256, ∀ x : Fin 8, s.val + (1 - bt s.val x.val) * 2 ^ x.val < 256 := by decide +kernel
theorem not_tab : ∀ n : Fin 9, ∀ s : Fin 256, s.val < 2 ^ n.val → iand ((2 ^ n.val : Nat) - 1 : Int) (ixor (s.val : Int) (-1)) = ((2 ^ n.val - 1 - s.val : Nat) : Int) := by decide +kernel
theorem bt_not_tab : ∀ n : Fin 9, ∀ s : Fin 256, s.val < 2 ^ n.val → ∀ i : Fin 8, bt (2 ^ n.val - 1 - s.val) i.val = if i.val < n.val then 1 - bt s.val i.val else 0 := by decide +kernel
theorem ofI {s : Nat} : (Int32.ofInt (s : Int)).toBitVec = BitVec.ofNat 32 s := by
  show BitVec.ofInt 32 (s : Int) = _
  exact BitVec.ofInt_natCast ..
theorem i32z {x : Int32} : x.toInt = 0 ↔ x.toBitVec = 0#32 := by
  constructor
  · intro h
    have : x = 0 := Int32.toInt_inj.1 (by rw [h]; rfl)
    rw [this]; rfl
  · intro h
    have : x = 0 := Int32.toBitVec_inj.1 (by rw [h]; rfl)
    rw [this]; rfl
theorem tbt {s i : Nat} : s.testBit i = decide (bt s i = 1) := by
  unfold bt; rw [Nat.testBit_eq_decide_div_mod_eq]
theorem bt_z (i : Nat) : bt 0 i = 0 := by unfold bt; rw [Nat.zero_div]
theorem and_z {s t : Nat} (hs : s < 256) : iand (s : Int) (t : Int) = 0 ↔ ∀ i, i < 8 → ¬ (bt s i = 1 ∧ bt t i = 1) := by
  unfold iand
  rw [i32z, Int32.toBitVec_and, ofI, ofI]
  constructor
  · intro h i hi ⟨h1, h2⟩
    have := congrArg (fun x => BitVec.getLsbD x i) h
    have i32 : i < 32 := by omega
    simp only [BitVec.getLsbD_and, BitVec.getLsbD_ofNat, tbt, h1, h2, i32, bt_z] at this
    simp at this
  · intro h
    apply BitVec.eq_of_getLsbD_eq
    intro i hi
    simp only [BitVec.getLsbD_and, BitVec.getLsbD_ofNat, tbt]
    by_cases c : i < 8
    · have := h i c
      by_cases c1 : bt s i = 1
      · have c2 : bt t i ≠ 1 := fun z => this ⟨c1, z⟩
        simp [c2, bt_z]
      · simp [c1, bt_z]
    · have : bt s i = 0 := by
        unfold bt
        rw [Nat.div_eq_of_lt (Nat.lt_of_lt_of_le hs (Nat.pow_le_pow_right (n := 2) (by omega) (show 8 ≤ i by omega)))]
      simp [this, bt_z]
theorem andn_z {s t : Nat} (hs : s < 256) : iand (s : Int) (ixor (t : Int) (-1)) = 0 ↔ ∀ i, i < 8 → bt s i = 1 → bt t i = 1 := by
  unfold iand ixor
  rw [Int32.ofInt_toInt, i32z, Int32.toBitVec_and, Int32.toBitVec_xor, ofI, ofI, show (Int32.ofInt (-1)).toBitVec = BitVec.allOnes 32 from by decide]
  constructor
  · intro h i hi h1
    have := congrArg (fun x => BitVec.getLsbD x i) h
    simp only [BitVec.getLsbD_and, BitVec.getLsbD_xor, BitVec.getLsbD_ofNat, BitVec.getLsbD_allOnes, tbt, h1] at this
    have i32 : i < 32 := by omega
    simp [i32, bt_z] at this
    exact this
  · intro h
    apply BitVec.eq_of_getLsbD_eq
    intro i hi
    simp only [BitVec.getLsbD_and, BitVec.getLsbD_xor, BitVec.getLsbD_ofNat, BitVec.getLsbD_allOnes, tbt]
    by_cases c : i < 8
    · have := h i c
      by_cases c1 : bt s i = 1
      · simp [c1, this c1, hi, bt_z]
      · simp [c1, bt_z]
    · have : bt s i = 0 := by
        unfold bt
        rw [Nat.div_eq_of_lt (Nat.lt_of_lt_of_le hs (Nat.pow_le_pow_right (n := 2) (by omega) (show 8 ≤ i by omega)))]
      simp [this, bt_z]
/-- how many -/
def pc (s : Nat) : Nat := bt s 0 + bt s 1 + bt s 2 + bt s 3 + bt s 4 + bt s 5 + bt s 6 + bt s 7
theorem bt_ext {s t : Nat} (hs : s < 256) (ht : t < 256) (h : ∀ i, i < 8 → bt s i = bt t i) : s = t := by
  have h0 := h 0 (by omega)
  have h1 := h 1 (by omega)
  have h2 := h 2 (by omega)
  have h3 := h 3 (by omega)
  have h4 := h 4 (by omega)
  have h5 := h 5 (by omega)
  have h6 := h 6 (by omega)
  have h7 := h 7 (by omega)
  simp only [bt, Nat.reducePow] at h0 h1 h2 h3 h4 h5 h6 h7
  omega
theorem pc_lt {s t : Nat} (hs : s < 256) (ht : t < 256) (h : ∀ i, i < 8 → bt s i = 1 → bt t i = 1) (hn : s ≠ t) : pc s < pc t := by
  have le : ∀ i, i < 8 → bt s i ≤ bt t i := fun i hi => by
    have := h i hi
    have := bt_01 s i
    have := bt_01 t i
    omega
  rcases Nat.lt_or_ge (pc s) (pc t) with c | c
  · exact c
  · exfalso
    apply hn
    have h0 := le 0 (by omega)
    have h1 := le 1 (by omega)
    have h2 := le 2 (by omega)
    have h3 := le 3 (by omega)
    have h4 := le 4 (by omega)
    have h5 := le 5 (by omega)
    have h6 := le 6 (by omega)
    have h7 := le 7 (by omega)
    unfold pc at c
    apply bt_ext hs ht
    intro i hi
    rcases (show i = 0 ∨ i = 1 ∨ i = 2 ∨ i = 3 ∨ i = 4 ∨ i = 5 ∨ i = 6 ∨ i = 7 by omega) with q | q | q | q | q | q | q | q <;> subst q <;> omega
theorem bt_lt_tab : ∀ n : Fin 9, ∀ s : Fin 256, (∀ i : Fin 8, n.val ≤ i.val → bt s.val i.val = 0) → s.val < 2 ^ n.val := by decide +kernel
theorem bt_hi_tab : ∀ n : Fin 9, ∀ s : Fin 256, s.val < 2 ^ n.val → ∀ i : Fin 8, n.val ≤ i.val → bt s.val i.val = 0 := by decide +kernel
theorem p2_le : ∀ n : Fin 9, 2 ^ n.val ≤ 256 := by decide
/-- a set, and one more -/
def stA (s x : Nat) : Nat := s + (1 - bt s x) * 2 ^ x
theorem stA_bt {s x i : Nat} (hs : s < 256) (hx : x < 8) (hi : i < 8) : bt (stA s x) i = if i = x then 1 else bt s i := bt_set_tab ⟨s, hs⟩ ⟨x, hx⟩ ⟨i, hi⟩
theorem stA_lt {s x : Nat} (hs : s < 256) (hx : x < 8) : stA s x < 256 := set_lt_tab ⟨s, hs⟩ ⟨x, hx⟩
theorem stA_or {s x : Nat} (hs : s < 256) (hx : x < 8) : ior (s : Int) (ishl 1 (x : Int)) = ((stA s x : Nat) : Int) := or_tab ⟨s, hs⟩ ⟨x, hx⟩
def bB (s : Nat) : Int → Bool := fun i => decide (bt s i.toNat = 1)
theorem bB_hw {s : Nat} (hs : s < 256) : ∀ i : Int, 0 ≤ i → i < 8 → iand (ishr (s : Int) i) 1 = if bB s i = true then 1 else 0 := by
  intro i i0 i1
  have := bt_i (s := s) (i := i.toNat) hs (by omega)
  rw [show ((i.toNat : Nat) : Int) = i by omega] at this
  rw [this]
  unfold bB
  rcases bt_01 s i.toNat with h | h
  · rw [h]; rfl
  · rw [h]; rfl
/-- a town with some more masked -/
def mkT (τ : Tw) (s : Nat) : Tw := fun i k => if i = 6 ∧ (0 ≤ k ∧ k < τ 0 11) ∧ bB s k = true then 1 else τ i k
theorem mk_i {τ : Tw} {s : Nat} {i : Nat} (hi : i ≠ 6) : mkT τ s i = τ i := by
  funext k
  unfold mkT
  rw [if_neg (fun z => hi z.1)]
theorem mk_6 {τ : Tw} {s : Nat} {k : Int} (hk : 0 ≤ k ∧ k < τ 0 11) : mkT τ s 6 k = if bB s k = true then 1 else τ 6 k := by
  unfold mkT
  by_cases c : bB s k = true
  · rw [if_pos ⟨rfl, hk, c⟩, if_pos c]
  · rw [if_neg (fun z => c z.2.2), if_neg c]
theorem WT.mk {τ : Tw} {s : Nat} (W : WT τ) : WT (mkT τ s) := by
  obtain ⟨a1, a2, a3, a4, a5, a6, a7, a8, a9, a10, a11⟩ := W
  refine ⟨a1, a2, fun k k0 k1 => ⟨(a3 k k0 k1).1, (a3 k k0 k1).2.1, (a3 k k0 k1).2.2.1, (a3 k k0 k1).2.2.2.1, ?_⟩, a4, a5, a6, a7, a8, a9, a10, a11⟩
  unfold mkT
  split
  · exact Or.inr rfl
  · exact (a3 k k0 k1).2.2.2.2
theorem telS_mk {τ : Tw} {al : List Cls} {s : Nat} {kd a b f : Int} : telS (mkT τ s) al kd a b f = telS τ al kd a b f := by
  have e : wdT (mkT τ s) a b f = wdT τ a b f := by
    funext i
    unfold wdT
    rw [mk_i (i := 2) (by omega), mk_i (i := 1) (by omega), mk_i (i := 3) (by omega), mk_i (i := 4) (by omega), mk_i (i := 5) (by omega), mk_i (i := 8) (by omega)]
  unfold telS
  rw [e]
theorem chS_mk {τ : Tw} {al : List Cls} {s : Nat} {p : Int} (hp : 0 ≤ p ∧ p < τ 0 11) : chS (mkT τ s) al p = if bB s p = true then 0 else chS τ al p := by
  unfold chS
  rw [telS_mk, mk_6 hp, mk_i (i := 2) (by omega), mk_i (i := 1) (by omega), mk_i (i := 5) (by omega)]
  by_cases c : bB s p = true
  · rw [if_pos c, if_pos c, if_pos (by omega)]
  · rw [if_neg c, if_neg c]
theorem duS_mk {τ : Tw} {al : List Cls} {s : Nat} {a b : Int} : duS (mkT τ s) al a b = duS τ al a b := by
  unfold duS dsS
  rw [telS_mk, mk_i (i := 2) (by omega)]
theorem maS_mk {τ : Tw} {al : List Cls} {s : Nat} {a b : Int} (ha : 0 ≤ a ∧ a < τ 0 11) : maS (mkT τ s) al a b = (!bB s a && maS τ al a b) := by
  unfold maS baS reS dsS
  rw [telS_mk, telS_mk, mk_6 ha, mk_i (i := 2) (by omega), mk_i (i := 4) (by omega)]
  by_cases c : bB s a = true
  · rw [if_pos c, c, decide_eq_false (fun z => by have := z.2.1; omega)]; rfl
  · rw [if_neg c, Bool.eq_false_iff.2 c]; rfl
theorem ahS_mk {τ : Tw} {s : Nat} {a r b : Int} : ahS (mkT τ s) a r b = ahS τ a r b := by
  unfold ahS dsS
  rw [mk_i (i := 2) (by omega), mk_i (i := 3) (by omega)]
theorem blK_mk {τ : Tw} {al : List Cls} {s : Nat} {x : Int} : ∀ n : Nat, (n : Int) ≤ τ 0 11 → blK (mkT τ s) al x (fun _ => false) n = blK τ al x (bB s) n
  | 0, _ => rfl
  | n + 1, hn => by
    rw [blK, blK, blK_mk n (by omega), maS_mk ⟨by omega, by omega⟩, ahS_mk]
    simp only [Bool.not_false, Bool.true_and]
theorem blS_mk {τ : Tw} {al : List Cls} {s : Nat} {x : Int} (W : WT τ) : blS (mkT τ s) al x (fun _ => false) = blS τ al x (bB s) := by
  have := W.n
  show blK (mkT τ s) al x (fun _ => false) (τ 0 11).toNat = _
  exact blK_mk _ (by omega)
/-- somebody gains of i's sneezes, those of s masked -/
def paidI (τ : Tw) (al : List Cls) (s : Nat) (i : Int) : Prop := 0 < chS τ al i ∧ blS τ al i (bB s) ≠ -1 ∧ 0 < duS τ al i (blS τ al i (bB s))
theorem ag_0 {τ : Tw} {al : List Cls} {s : Nat} (W : WT τ) : agS (mkT τ s) al = 0 ↔ ∀ i : Int, 0 ≤ i → i < τ 0 11 → bB s i = false → ¬ paidI τ al s i := by
  have hn := W.n
  have key : ∀ i : Int, 0 ≤ i → i < τ 0 11 → 0 ≤ agF (mkT τ s) al i ∧ (agF (mkT τ s) al i = 0 ↔ (bB s i = false → ¬ paidI τ al s i)) := by
    intro i i0 i1
    refine ⟨(agF_bd W.mk i0 (by omega)).1, ?_⟩
    unfold agF paidI
    rw [blS_mk W, chS_mk ⟨i0, i1⟩, duS_mk]
    have cb := chS_bd (al := al) W i0 (by omega)
    have db := duS_bd (τ := τ) (al := al) (s := i) (b := blS τ al i (bB s))
    by_cases c : blS τ al i (bB s) = -1
    · rw [if_pos c]
      exact ⟨fun _ _ z => z.2.1 c, fun _ => rfl⟩
    rw [if_neg c]
    by_cases c2 : bB s i = true
    · rw [if_pos c2, Int.zero_mul]
      exact ⟨fun _ z => (by rw [c2] at z; cases z), fun _ => rfl⟩
    rw [if_neg c2]
    constructor
    · intro h _ z
      have := Int.mul_pos z.1 z.2.2
      omega
    · intro h
      have h' := h (Bool.eq_false_iff.2 c2)
      by_cases c3 : 0 < chS τ al i
      · have : duS τ al i (blS τ al i (bB s)) = 0 := by
          by_cases c4 : 0 < duS τ al i (blS τ al i (bB s))
          · exact absurd ⟨c3, c, c4⟩ h'
          · omega
        rw [this, Int.mul_zero]
      · rw [show chS τ al i = 0 by omega, Int.zero_mul]
  have e11 : (mkT τ s) 0 11 = τ 0 11 := rfl
  have all : ∀ n : Nat, (n : Int) ≤ τ 0 11 → 0 ≤ sm (agF (mkT τ s) al) n ∧ (sm (agF (mkT τ s) al) n = 0 ↔ ∀ i : Int, 0 ≤ i → i < n → agF (mkT τ s) al i = 0) := by
    intro n
    induction n with
    | zero => intro _; exact ⟨Int.le_refl 0, fun _ i i0 i1 => by omega, fun _ => rfl⟩
    | succ n ih =>
      intro hn1
      have h1 := ih (by omega)
      have h2 := (key n (by omega) (by omega)).1
      have e : sm (agF (mkT τ s) al) (n + 1) = sm (agF (mkT τ s) al) n + agF (mkT τ s) al n := rfl
      rw [e]
      refine ⟨by omega, fun z i i0 i1 => ?_, fun z => ?_⟩
      · by_cases c : i = n
        · subst c; omega
        · exact h1.2.1 (by omega) i i0 (by omega)
      · rw [h1.2.2 (fun i i0 i1 => z i i0 (by omega)), z n (by omega) (by omega)]; rfl
  unfold agS su
  rw [e11, (all (τ 0 11).toNat (by omega)).2]
  exact ⟨fun z i i0 i1 => (key i i0 i1).2.1 (z i i0 (by omega)), fun z i i0 i1 => (key i i0 (by omega)).2.2 (z i i0 (by omega))⟩
/-- the line of those who may bless i: who stands before the k-th -/
def lnB (τ : Tw) (al : List Cls) (i : Int) : Nat → Nat
  | 0 => 0
  | k + 1 => if blS τ al i (bB (lnB τ al i k)) = -1 then lnB τ al i k else stA (lnB τ al i k) (blS τ al i (bB (lnB τ al i k))).toNat
def lnN (τ : Tw) (al : List Cls) (i : Int) (k : Nat) : Int := blS τ al i (bB (lnB τ al i k))
theorem lnN_bd {τ : Tw} {al : List Cls} {i : Int} {k : Nat} (W : WT τ) : -1 ≤ lnN τ al i k ∧ lnN τ al i k < τ 0 11 := by
  have hn := W.n
  rcases blS_spec (al := al) (s := i) (out := bB (lnB τ al i k)) W with ⟨e, _⟩ | ⟨e, _⟩
  · unfold lnN; omega
  · unfold lnN; omega
theorem lnB_lt {τ : Tw} {al : List Cls} {i : Int} (W : WT τ) : ∀ k : Nat, lnB τ al i k < 256
  | 0 => by show 0 < 256; omega
  | k + 1 => by
    have ih := lnB_lt (al := al) (i := i) W k
    have b := lnN_bd (al := al) (i := i) (k := k) W
    have hn := W.n
    unfold lnN at b
    rw [lnB]
    split
    · exact ih
    · exact stA_lt ih (by omega)
theorem bB_A {s x : Nat} {j : Int} (hs : s < 256) (hx : x < 8) (j0 : 0 ≤ j) (j8 : j < 8) : bB (stA s x) j = if j = x then true else bB s j := by
  unfold bB
  rw [stA_bt hs hx (by omega)]
  by_cases c : j = x
  · rw [if_pos (by omega), if_pos c]; rfl
  · rw [if_neg (by omega), if_neg c]
/-- all before the k-th are in s: the k-th is who blesses, or is in s too -/
theorem ln_is {τ : Tw} {al : List Cls} {i : Int} {s k : Nat} (W : WT τ) (h : ∀ j : Int, 0 ≤ j → j < 8 → bB (lnB τ al i k) j = true → bB s j = true) (hk : lnN τ al i k = -1 ∨ bB s (lnN τ al i k) = false) : blS τ al i (bB s) = lnN τ al i k := by
  have hn := W.n
  refine BsK.uniq (blS_spec (al := al) (s := i) (out := bB s) W) ?_
  have sub : ∀ j : Int, 0 ≤ j → j < τ 0 11 → bB s j = false → bB (lnB τ al i k) j = false := fun j j0 j1 z => by
    cases c : bB (lnB τ al i k) j with
    | false => rfl
    | true => rw [h j j0 (by omega) c] at z; cases z
  rcases blS_spec (al := al) (s := i) (out := bB (lnB τ al i k)) W with ⟨e, z⟩ | ⟨e, z1, z2, z3⟩
  · exact Or.inl ⟨e, fun j j0 j1 o => z j j0 j1 (sub j j0 j1 o)⟩
  · have hk' : bB s (lnN τ al i k) = false := by
      rcases hk with q | q
      · unfold lnN at q; omega
      · exact q
    exact Or.inr ⟨e, hk', z2, fun j j0 j1 o => z3 j j0 j1 (sub j j0 j1 o)⟩
theorem ln_next {τ : Tw} {al : List Cls} {i : Int} {s k : Nat} (W : WT τ) (h : ∀ j : Int, 0 ≤ j → j < 8 → bB (lnB τ al i k) j = true → bB s j = true) (h1 : lnN τ al i k ≠ -1) (h2 : bB s (lnN τ al i k) = true) : ∀ j : Int, 0 ≤ j → j < 8 → bB (lnB τ al i (k + 1)) j = true → bB s j = true := by
  intro j j0 j8 z
  have b := lnN_bd (al := al) (i := i) (k := k) W
  have hn := W.n
  have h1' : ¬ blS τ al i (bB (lnB τ al i k)) = -1 := h1
  rw [lnB, if_neg h1', bB_A (lnB_lt W k) (by unfold lnN at b; omega) j0 j8] at z
  by_cases c : j = ((blS τ al i (bB (lnB τ al i k))).toNat : Nat)
  · have : j = lnN τ al i k := by unfold lnN at b ⊢; omega
    rw [this]; exact h2
  · rw [if_neg c] at z; exact h j j0 j8 z
/-- how many stand before the k-th -/
theorem ln_pc {τ : Tw} {al : List Cls} {i : Int} (W : WT τ) : ∀ k : Nat, (∀ q, q < k → lnN τ al i q ≠ -1) → pc (lnB τ al i k) = k
  | 0, _ => by show pc 0 = 0; decide
  | k + 1, h => by
    have ih := ln_pc (al := al) (i := i) W k (fun q hq => h q (by omega))
    have h1 : ¬ blS τ al i (bB (lnB τ al i k)) = -1 := h k (by omega)
    have b := lnN_bd (al := al) (i := i) (k := k) W
    have hn := W.n
    have lt := lnB_lt (al := al) (i := i) W k
    unfold lnN at b
    have z : bt (lnB τ al i k) (blS τ al i (bB (lnB τ al i k))).toNat = 0 := by
      rcases blS_spec (al := al) (s := i) (out := bB (lnB τ al i k)) W with ⟨e, _⟩ | ⟨e, z1, _⟩
      · exact absurd e h1
      · have z1' : ¬ bt (lnB τ al i k) (blS τ al i (bB (lnB τ al i k))).toNat = 1 := of_decide_eq_false z1
        have := bt_01 (lnB τ al i k) (blS τ al i (bB (lnB τ al i k))).toNat
        omega
    rw [lnB, if_neg h1]
    have x8 : (blS τ al i (bB (lnB τ al i k))).toNat < 8 := by omega
    generalize (blS τ al i (bB (lnB τ al i k))).toNat = x at *
    generalize lnB τ al i k = s at *
    have A : ∀ j, j < 8 → bt (stA s x) j = if j = x then 1 else bt s j := fun j hj => stA_bt lt x8 hj
    unfold pc at ih ⊢
    rw [A 0 (by omega), A 1 (by omega), A 2 (by omega), A 3 (by omega), A 4 (by omega), A 5 (by omega), A 6 (by omega), A 7 (by omega)]
    rcases (show x = 0 ∨ x = 1 ∨ x = 2 ∨ x = 3 ∨ x = 4 ∨ x = 5 ∨ x = 6 ∨ x = 7 by omega) with q | q | q | q | q | q | q | q <;> subst q <;> simp <;> omega
/-- nobody stands at the line's end -/
theorem ln_end {τ : Tw} {al : List Cls} {i : Int} (W : WT τ) (h : ∀ q, q < 8 → lnN τ al i q ≠ -1) : lnN τ al i 8 = -1 := by
  have p := ln_pc (al := al) (i := i) W 8 h
  have hn := W.n
  rcases blS_spec (al := al) (s := i) (out := bB (lnB τ al i 8)) W with ⟨e, _⟩ | ⟨e, z1, _⟩
  · exact e
  · exfalso
    generalize lnB τ al i 8 = s at *
    have B : ∀ j, bt s j ≤ 1 := fun j => by have := bt_01 s j; omega
    have b0 := B 0
    have b1 := B 1
    have b2 := B 2
    have b3 := B 3
    have b4 := B 4
    have b5 := B 5
    have b6 := B 6
    have b7 := B 7
    have z1' : ¬ bt s (blS τ al i (bB s)).toNat = 1 := of_decide_eq_false z1
    unfold pc at p
    clear z1
    generalize (blS τ al i (bB s)) = y at *
    rcases (show y = 0 ∨ y = 1 ∨ y = 2 ∨ y = 3 ∨ y = 4 ∨ y = 5 ∨ y = 6 ∨ y = 7 by omega) with q | q | q | q | q | q | q | q <;> subst q <;> simp at z1' <;> omega
