/-! What can be undone. -/
def nuN (U : Pst) : Nat := if U.1 < 16 then U.1 + 1 else 16
def nuS (U : Pst) : Nat := if U.1 < 16 then 0 else 1
/-- one more that can be undone -/
def pushU (U : Pst) (kd : Int) (τ : Tw) : Pst := (nuN U, fun k => if k + 1 = nuN U then (kd, τ) else U.2 (k + nuS U))
theorem nu_cs (U : Pst) (h : U.1 ≤ 16) : (U.1 < 16 ∧ nuN U = U.1 + 1 ∧ nuS U = 0) ∨ (U.1 = 16 ∧ nuN U = 16 ∧ nuS U = 1) := by
  unfold nuN nuS
  by_cases c : U.1 < 16
  · rw [if_pos c, if_pos c]; exact Or.inl ⟨c, rfl, rfl⟩
  · rw [if_neg c, if_neg c]; exact Or.inr ⟨by omega, rfl, rfl⟩
theorem addR_congr {f g : Int → Int} {r s : Int → Int} {len v : Int} (hl : 0 < len) (hf : ∀ q, 0 ≤ q → q < 64 → f q = g q) (hr : ∀ i, 0 ≤ i → i < len → r i = s i) : ∀ n : Nat, (n : Int) ≤ len → ∀ q, 0 ≤ q → q < 64 → addR f r len v n q = addR g s len v n q
  | 0, _, q, q0, q1 => hf q q0 q1
  | n + 1, hn, q, q0, q1 => by
    have h1 := addR_congr hl hf hr (v := v) n (by omega) q q0 q1
    have h2 := hr n (by omega) (by omega)
    have h3 := hr (((n : Int) + 1) % len) (Int.emod_nonneg _ (by omega)) (Int.emod_lt_of_pos _ hl)
    show addR f r len v n q + (if q = r n * 8 + r ((n + 1) % len) then v else 0) = addR g s len v n q + (if q = s n * 8 + s ((n + 1) % len) then v else 0)
    rw [h1, h2, h3]
/-- only places, debts, terms matter, and a row's eleven numbers -/
theorem undoT_congr {row row' : Int → Int} {τ υ : Tw} (hr : ∀ j, 0 ≤ j → j < 11 → row' j = row j) (h3 : row 0 = 3 → 1 ≤ row 1 ∧ row 1 ≤ 8) (he : ∀ i k, dyI i → 0 ≤ k → k < twL i → υ i k = τ i k) {i : Nat} {k : Int} (hi : dyI i) (k0 : 0 ≤ k) (k1 : k < twL i) : undoT row' υ i k = undoT row τ i k := by
  unfold undoT
  rw [hr 0 (by omega) (by omega), hr 1 (by omega) (by omega), hr 2 (by omega) (by omega)]
  have ei := he i k hi k0 k1
  have up : ∀ (j : Nat) (q v w : Int), v = w → upT υ j q v i k = upT τ j q w i k := fun j q v w hv => by
    unfold upT
    split
    · exact hv
    · exact ei
  split
  · exact up _ _ _ _ rfl
  split
  · rename_i c
    obtain ⟨l1, l2⟩ := h3 c
    simp only
    split
    · rename_i c7
      subst c7
      exact addR_congr (by omega) (fun q q0 q1 => he 7 q hi q0 q1) (fun i i0 i1 => hr (3 + i) (by omega) (by omega)) _ (by omega) k k0 k1
    · exact ei
  split
  · exact up _ _ _ _ (by rw [he 8 0 (Or.inr (Or.inr rfl)) (by omega) (by simp [twL])])
  split
  · exact up _ _ _ _ rfl
  · exact ei
theorem UnC.congr {row row' : Int → Int} {kd n : Int} {υ τ τ' : Tw} (H : UnC row kd υ τ n) (hr : ∀ j, 0 ≤ j → j < 11 → row' j = row j) (he : ∀ i k, dyI i → 0 ≤ k → k < twL i → τ' i k = τ i k) : UnC row' kd υ τ' n := by
  obtain ⟨a1, a2, a3, a4, a5⟩ := H
  refine ⟨by rw [hr 0 (by omega) (by omega)]; exact a1, a2, fun c => by rw [hr 1 (by omega) (by omega)]; exact a3 c, fun c => ?_, fun i k hi k0 k1 => ?_⟩
  · obtain ⟨b1, b2, b4, b3⟩ := a4 c
    rw [hr 1 (by omega) (by omega), hr 2 (by omega) (by omega)]
    exact ⟨b1, b2, b4, fun i i0 i1 => by rw [hr _ (by omega) (by omega)]; exact b3 i i0 i1⟩
  · rw [a5 i k hi k0 k1]
    exact (undoT_congr hr (fun c => by obtain ⟨b1, b2, _, _⟩ := a4 (by omega); exact ⟨b1, b2⟩) he hi k0 k1).symm
theorem mix_off {τ τ' υ : Tw} (he : ∀ i, ¬ dyI i → τ' i = τ i) : mix τ' υ = mix τ υ := by
  funext i
  unfold mix
  by_cases c : i = 2 ∨ i = 7 ∨ i = 8
  · rw [if_pos c, if_pos c]
  · rw [if_neg c, if_neg c]; exact he i c
theorem mix_self {τ τ' : Tw} (he : ∀ i, ¬ dyI i → τ' i = τ i) : mix τ' τ = τ := by
  funext i
  unfold mix
  by_cases c : i = 2 ∨ i = 7 ∨ i = 8
  · rw [if_pos c]
  · rw [if_neg c]; exact he i c
theorem nd0 : ¬ dyI 0 := fun c => by unfold dyI at c; omega
theorem PastC.push {h h' : Hp} {b : Nat} {τ τ' : Tw} {U : Pst} {kd : Int} (P : PastC h b τ U) (hn : hI h' (b + 53) 1 = nuN U) (hr : ∀ (k : Nat) (j : Int), k + 1 < nuN U → 0 ≤ j → j < 11 → hI h' (b + 54) (11 * k + j) = hI h (b + 54) (11 * (k + nuS U : Nat) + j)) (hl : UnC (fun j => hI h' (b + 54) (11 * (nuN U - 1 : Nat) + j)) kd τ τ' (τ 0 11)) (W : WT τ) (he : ∀ i, ¬ dyI i → τ' i = τ i) : PastC h' b τ' (pushU U kd τ) := by
  obtain ⟨p1, p2, p3⟩ := P
  have cs := nu_cs U p2
  have e11 : τ' 0 11 = τ 0 11 := by rw [he 0 nd0]
  refine ⟨hn, (by show nuN U ≤ 16; omega), fun k hk => ?_⟩
  have hk' : k < nuN U := hk
  by_cases c : k + 1 = nuN U
  · have e1 : (pushU U kd τ).2 k = (kd, τ) := by show (if k + 1 = nuN U then _ else _) = _; rw [if_pos c]
    have e2 : nxU (pushU U kd τ) τ' k = τ' := by
      unfold nxU
      rw [if_neg (by show ¬ k + 1 < nuN U; omega)]
    rw [e1, e2, e11, show k = nuN U - 1 by omega]
    refine ⟨hl, ?_⟩
    show WT (mix τ' τ)
    rw [mix_self he]; exact W
  · have e1 : (pushU U kd τ).2 k = U.2 (k + nuS U) := by show (if k + 1 = nuN U then _ else _) = _; rw [if_neg c]
    have e2 : nxU (pushU U kd τ) τ' k = nxU U τ (k + nuS U) := by
      unfold nxU
      rw [if_pos (by show k + 1 < nuN U; omega)]
      show (if k + 1 + 1 = nuN U then (kd, τ) else U.2 (k + 1 + nuS U)).2 = _
      by_cases c2 : k + 1 + 1 = nuN U
      · rw [if_pos c2, if_neg (by omega)]
      · rw [if_neg c2, if_pos (by omega), show k + 1 + nuS U = k + nuS U + 1 by omega]
    obtain ⟨q1, q2⟩ := p3 (k + nuS U) (by omega)
    rw [e1, e2, e11]
    exact ⟨q1.congr (fun j j0 j1 => hr k j (by omega) j0 j1) (fun _ _ _ _ _ => rfl), by rw [mix_off he]; exact q2⟩
/-- a row is noted -/
def NtP (b : Nat) (U : Pst) (h : Hp) (kd x y : Int) (h' : Hp) : Prop :=
  Fr (fun a => a = b + 53 ∨ a = b + 54) h h' ∧ (∀ a k, hR h' a k = hR h a k) ∧ hI h' (b + 53) 1 = nuN U ∧ (∀ (k : Nat) (j : Int), k + 1 < nuN U → 0 ≤ j → j < 11 → hI h' (b + 54) (11 * k + j) = hI h (b + 54) (11 * (k + nuS U : Nat) + j)) ∧ hI h' (b + 54) (11 * (nuN U - 1 : Nat)) = kd ∧ hI h' (b + 54) (11 * (nuN U - 1 : Nat) + 1) = x ∧ hI h' (b + 54) (11 * (nuN U - 1 : Nat) + 2) = y
theorem c_note {G : Gv} {d b : Nat} {h : Hp} {U : Pst} {kd x y : Int} (hd : 1 ≤ d) (hB : gB G ≤ b) (S : PsS h (b + 53)) (hu : hI h (b + 53) 1 = U.1) (h16 : U.1 ≤ 16) : MA G M_X4_note d 0 0 [vr (b + 53), vi kd, vi x, vi y] h (fun r h' => r = some (vi (11 * (nuN U - 1 : Nat))) ∧ NtP b U h kd x y h') := by
  refine MA.mono (p_note (s := U.1) hd (by omega) S hu (by omega) (by omega)) ?_
  have cs := nu_cs U h16
  rintro r h' ⟨rfl, rfl⟩
  by_cases c : U.1 < 16
  · rw [if_pos (by omega : (U.1 : Int) < 16), if_pos (by omega : (U.1 : Int) < 16)]
    have e : (11 * (nuN U - 1 : Nat) : Int) = (U.1 : Int) * 11 := by omega
    refine ⟨by rw [e], ?_⟩
    unfold NtP
    rw [e]
    unfold noteH
    refine ⟨(((Fr.rfl'.sI (Or.inr rfl)).sI (Or.inr rfl)).sI (Or.inr rfl)).sI (Or.inl rfl), fun _ _ => rfl, by rw [g_Ie]; omega, fun k j k0 j0 j1 => ?_, ?_, ?_, ?_⟩
    · rw [show (k + nuS U : Nat) = k by omega]
      simp (disch := omega) only [g_In, g_Ij]
    · simp (disch := omega) only [g_In, g_Ij, g_Ie]
    · simp (disch := omega) only [g_In, g_Ij, g_Ie]
    · simp (disch := omega) only [g_In, g_Ij, g_Ie]
  · rw [if_neg (by omega : ¬ (U.1 : Int) < 16), if_neg (by omega : ¬ (U.1 : Int) < 16)]
    have e : (11 * (nuN U - 1 : Nat) : Int) = (15 : Int) * 11 := by omega
    refine ⟨by rw [e], ?_⟩
    unfold NtP
    rw [e]
    unfold noteH shiftH
    refine ⟨(((((Fr.rfl'.cp (Or.inr rfl)).sI (Or.inl rfl)).sI (Or.inr rfl)).sI (Or.inr rfl)).sI (Or.inr rfl)).sI (Or.inl rfl), fun _ _ => rfl, by rw [g_Ie]; omega, fun k j k0 j0 j1 => ?_, ?_, ?_, ?_⟩
    · simp (disch := omega) only [g_In, g_Ij, g_Ci]
      congr 1
      omega
    · simp (disch := omega) only [g_In, g_Ij, g_Ie]
    · simp (disch := omega) only [g_In, g_Ij, g_Ie]
    · simp (disch := omega) only [g_In, g_Ij, g_Ie]
