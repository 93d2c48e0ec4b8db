/-! Bits of places. -/
def bitv (x c : Int) : Int32 := (Int32.ofInt x >>> (Int32.ofInt c &&& 31)) &&& 1
theorem bitv_i (x c : Int) : iand (ishr x c) 1 = (bitv x c).toInt := by
  unfold iand ishr bitv
  rw [Int32.ofInt_toInt]
  rfl
theorem tb_or (a b c : Int32) : ((a ||| b) >>> c) &&& 1 = ((a >>> c) &&& 1) ||| ((b >>> c) &&& 1) := by
  apply Int32.toBitVec_inj.1
  simp only [Int32.toBitVec_and, Int32.toBitVec_or, Int32.toBitVec_shiftRight, BitVec.sshiftRight_eq', BitVec.sshiftRight_or_distrib, BitVec.and_or_distrib_right]
theorem bitv_or (a b c : Int) : bitv (ior a b) c = bitv a c ||| bitv b c := by
  unfold bitv ior
  rw [Int32.ofInt_toInt]
  exact tb_or _ _ _
theorem bitv_tab : ∀ n c : Fin 25, bitv (ishl 1 (n.val : Int)) (c.val : Int) = if n.val = c.val then 1 else 0 := by decide +kernel
theorem bitv_zer : ∀ c : Fin 25, bitv 0 (c.val : Int) = 0 := by decide +kernel
theorem cn_bit {υ : Tw} {al : List Cls} {p : Int} (c : Nat) (hc : c < 25) : ∀ n : Nat, n ≤ 25 → bitv (cnK υ al p n) c = if c < n ∧ asn (upT υ 2 p c) al (υ 0 12).toNat = true then 1 else 0
  | 0, _ => by
    rw [if_neg (by omega)]
    exact bitv_zer ⟨c, hc⟩
  | n + 1, hn => by
    have ih := cn_bit (υ := υ) (al := al) (p := p) c hc n (by omega)
    have tb := bitv_tab ⟨n, by omega⟩ ⟨c, hc⟩
    simp only at tb
    rw [cnK]
    by_cases a : asn (upT υ 2 p n) al (υ 0 12).toNat = true
    · rw [if_pos a, bitv_or, ih, tb]
      by_cases e : n = c
      · subst e
        rw [if_neg (by omega), if_pos rfl, if_pos ⟨by omega, a⟩]; rfl
      · rw [if_neg e]
        by_cases k : c < n ∧ asn (upT υ 2 p c) al (υ 0 12).toNat = true
        · rw [if_pos k, if_pos ⟨by omega, k.2⟩]; rfl
        · rw [if_neg k, if_neg (fun z => k ⟨by omega, z.2⟩)]; rfl
    · rw [if_neg a, ih]
      by_cases k : c < n ∧ asn (upT υ 2 p c) al (υ 0 12).toNat = true
      · rw [if_pos k, if_pos ⟨by omega, k.2⟩]
      · rw [if_neg k, if_neg (fun z => k ⟨by
          rcases Nat.lt_or_ge c n with w | w
          · exact w
          · exfalso
            have : c = n := by omega
            rw [this] at z
            exact a z.2, z.2⟩)]
/-- whether a place is among those where p can have stood -/
theorem cn_is {υ : Tw} {al : List Cls} {p : Int} (c : Nat) (hc : c < 25) : iand (ishr (cnK υ al p 25) c) 1 = if asn (upT υ 2 p c) al (υ 0 12).toNat = true then 1 else 0 := by
  rw [bitv_i, cn_bit c hc 25 (by omega)]
  by_cases a : asn (upT υ 2 p c) al (υ 0 12).toNat = true
  · rw [if_pos ⟨hc, a⟩, if_pos a]; rfl
  · rw [if_neg (fun z => a z.2), if_neg a]; rfl
/-- nowhere: no place -/
theorem cn_0 {υ : Tw} {al : List Cls} {p : Int} : cnK υ al p 25 = 0 ↔ ∀ c : Nat, c < 25 → asn (upT υ 2 p c) al (υ 0 12).toNat = false := by
  constructor
  · intro e c hc
    cases a : asn (upT υ 2 p c) al (υ 0 12).toNat with
    | false => rfl
    | true =>
      have := cn_is (υ := υ) (al := al) (p := p) c hc
      rw [e, a, bitv_i] at this
      have z := bitv_zer ⟨c, hc⟩
      simp only at z
      rw [z] at this
      exact absurd this (by decide)
  · intro h
    have key : ∀ n : Nat, n ≤ 25 → cnK υ al p n = 0 := by
      intro n
      induction n with
      | zero => intro _; rfl
      | succ n ih => intro hn; rw [cnK, if_neg (by rw [h n (by omega)]; simp)]; exact ih (by omega)
    exact key 25 (by omega)
