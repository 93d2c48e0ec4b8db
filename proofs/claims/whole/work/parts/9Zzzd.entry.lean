/-! What holds at the law's entry. -/
section
theorem ar_p {args : Array Value} {s : State} {ty : FieldType} (h : (Cond.arrayClass ty).before args s = true) : ∃ cA, ArrOfT s cA ty ∧ s.vm.findClass ("[" ++ ty.toString) = some cA := by
  obtain ⟨c, k, comp, h1, h2, h3⟩ := Cond.arrayClass_spec h
  exact ⟨c, fun n z => ⟨(fun k h => by cases h), k, h2, comp, h3⟩, h1⟩
theorem ar_o {args : Array Value} {s : State} {C : String} (h : (Cond.arrayOver (.object C)).before args s = true) : ∃ cA, ArrOfT s cA (.object C) ∧ va_RA s cA (.object C) := by
  obtain ⟨comp, c, k, h1, _, h3, h4, h5⟩ := Cond.arrayOver_spec h
  exact ⟨c, fun n z => ⟨(fun k h => by cases h), k, h3, comp, h4⟩, k, comp, h3, h4, h1, h5⟩
def fl1 : List Cond := flatC (Jvm.Cond.and given_1 narrow_1)
theorem st_l31 : ∀ i, i < nStr → sLen.getD i 0 < 2 ^ 31 := by decide +kernel
theorem st_ex : ∀ i, i < nStr → Cond.exactly (.string RX6 (sIdx.getD i 0)) "java/lang/String" ∈ fl1 := by decide +kernel
theorem st_co : ∀ i, i < nStr → Cond.eq (.field (.string RX6 (sIdx.getD i 0)) "java/lang/String" "coder" "B") (.int 0) ∈ fl1 := by decide +kernel
theorem st_ar : ∀ i, i < nStr → Cond.arrayOf (.field (.string RX6 (sIdx.getD i 0)) "java/lang/String" "value" "[B") .byte ∈ fl1 := by decide +kernel
theorem st_le : ∀ i, i < nStr → Cond.eq (.length (.field (.string RX6 (sIdx.getD i 0)) "java/lang/String" "value" "[B")) (.int (Int32.ofNat (sLen.getD i 0))) ∈ fl1 := by decide +kernel
theorem st_el : ∀ i, i < nStr → ∀ j : Nat, j < sLen.getD i 0 → Cond.eq (.elem (.field (.string RX6 (sIdx.getD i 0)) "java/lang/String" "value" "[B") (.int (Int32.ofNat j))) (.int ((sByt.getD i []).getD j 0)) ∈ fl1 := by decide +kernel
theorem st_ne : ∀ i, i < nStr → ∀ j, j < nStr → i ≠ j → Cond.not (Cond.eq (.string RX6 (sIdx.getD i 0)) (.string RX6 (sIdx.getD j 0))) ∈ fl1 ∨ Cond.not (Cond.eq (.string RX6 (sIdx.getD j 0)) (.string RX6 (sIdx.getD i 0))) ∈ fl1 := by decide +kernel
theorem st_sr : ∀ i, i < nStr → Cond.stringRef RX6 (sIdx.getD i 0) (sTxt.getD i "") ∈ lw_tbl := fun i hi => by
  match i, hi with
  | 0, _ => exact tin3 (List.mem_of_getElem? (i := 169) rfl)
  | 1, _ => exact tin3 (List.mem_of_getElem? (i := 170) rfl)
  | 2, _ => exact tin4 (List.mem_of_getElem? (i := 52) rfl)
  | 3, _ => exact tin4 (List.mem_of_getElem? (i := 45) rfl)
  | 4, _ => exact tin4 (List.mem_of_getElem? (i := 46) rfl)
  | 5, _ => exact tin4 (List.mem_of_getElem? (i := 47) rfl)
  | 6, _ => exact tin4 (List.mem_of_getElem? (i := 37) rfl)
  | 7, _ => exact tin4 (List.mem_of_getElem? (i := 32) rfl)
  | 8, _ => exact tin4 (List.mem_of_getElem? (i := 19) rfl)
  | 9, _ => exact tin4 (List.mem_of_getElem? (i := 43) rfl)
  | 10, _ => exact tin4 (List.mem_of_getElem? (i := 44) rfl)
  | n + 11, hn => exact absurd hn (by show ¬ n + 11 < 11; omega)
theorem cls_start {args : Array Value} {s : State} (hts : ∀ w ∈ gtb, w.before args s = true) : ∃ (dC : Nat → ClassId) (dI : Nat → Nat → Nat), ∀ (k : Nat) (q : vw_C), vwCl[k]? = some q → u_Kn s q.1 q.2.1 q.2.2 (dC k) (dI k) := by
  obtain ⟨c0, i0, h0⟩ := u_known (C := RX0) (T := TX0) (N := 6) (n := 6) hts iw_X0 (hts _ q431)
  obtain ⟨c1, i1, h1⟩ := u_known (C := RX1) (T := TX1) (N := 4) (n := 4) hts iw_X1 (hts _ q412)
  obtain ⟨c2, i2, h2⟩ := u_known (C := RX2) (T := TX2) (N := 1) (n := 1) hts iw_X2 (hts _ q1232)
  obtain ⟨c3, i3, h3⟩ := u_known (C := RX3) (T := TX3) (N := 5) (n := 5) hts iw_X3 (hts _ q346)
  obtain ⟨c4, i4, h4⟩ := u_known (C := RX4) (T := TX4) (N := 2) (n := 2) hts iw_X4 (hts _ q384)
  obtain ⟨c5, i5, h5⟩ := u_known (C := RX5) (T := TX5) (N := 17) (n := 17) hts iw_X5 (hts _ q459)
  obtain ⟨c6, i6, h6⟩ := u_known (C := RX6) (T := TX6) (N := 9) (n := 9) hts iw_X6 (hts _ q245)
  obtain ⟨c7, i7, h7⟩ := u_known (C := RX7) (T := TX7) (N := 2) (n := 2) hts iw_X7 (hts _ q352)
  obtain ⟨c8, i8, h8⟩ := u_known (C := RX8) (T := TX8) (N := 1) (n := 1) hts iw_X8 (hts _ q400)
  obtain ⟨c9, i9, h9⟩ := u_known (C := RX9) (T := TX9) (N := 10) (n := 10) hts iw_X9 (hts _ q251)
  obtain ⟨c10, i10, h10⟩ := u_known (C := RX10) (T := TX10) (N := 15) (n := 15) hts iw_X10 (hts _ q146)
  obtain ⟨c11, i11, h11⟩ := u_known (C := RX11) (T := TX11) (N := 17) (n := 17) hts iw_X11 (hts _ q138)
  obtain ⟨c12, i12, h12⟩ := u_known (C := RX12) (T := TX12) (N := 58) (n := 58) hts iw_X12 (hts _ q1292)
  refine ⟨fun k => [c0, c1, c2, c3, c4, c5, c6, c7, c8, c9, c10, c11, c12].getD k c0, fun k => [i0, i1, i2, i3, i4, i5, i6, i7, i8, i9, i10, i11, i12].getD k i0, ?_⟩
  intro k q hq
  match k, hq with
  | 0, hq => cases hq; exact h0
  | 1, hq => cases hq; exact h1
  | 2, hq => cases hq; exact h2
  | 3, hq => cases hq; exact h3
  | 4, hq => cases hq; exact h4
  | 5, hq => cases hq; exact h5
  | 6, hq => cases hq; exact h6
  | 7, hq => cases hq; exact h7
  | 8, hq => cases hq; exact h8
  | 9, hq => cases hq; exact h9
  | 10, hq => cases hq; exact h10
  | 11, hq => cases hq; exact h11
  | 12, hq => cases hq; exact h12
  | k + 13, hq => simp [vwCl] at hq
theorem fm_start {args : Array Value} {s : State} (hts : ∀ w ∈ lw_tbl, w.before args s = true) (hfl : ∀ w ∈ fl1, w.before args s = true) : ∃ n : Nat, va_Z "jdk/internal/util/Preconditions" "SIOOBE_FORMATTER" "Ljava/util/function/BiFunction;" (va_rf (if n = 0 then none else some (n - 1))) (fun q => s.heap.size ≤ q) s s.heap := by
  obtain ⟨v, hv, hr⟩ := Cond.isRef_spec (hfl (Cond.isRef (.static "jdk/internal/util/Preconditions" "SIOOBE_FORMATTER" "Ljava/util/function/BiFunction;")) (by decide +kernel))
  have hz := va_Zof (A := fun q => s.heap.size ≤ q) (hts (Cond.laysStatic "jdk/internal/util/Preconditions" "SIOOBE_FORMATTER" "Ljava/util/function/BiFunction;") (tin3 (List.mem_of_getElem? (i := 200) rfl))) (hts (Cond.initialized "jdk/internal/util/Preconditions") (tin1 (List.mem_of_getElem? (i := 17) rfl))) hv (fun a h1 h2 => by omega)
  cases v with
  | ref a => exact ⟨a + 1, by rw [if_neg (by omega)]; exact hz⟩
  | null => exact ⟨0, by rw [if_pos rfl]; exact hz⟩
  | _ => cases hr
theorem e_start {s : State} {b L : Nat} {xs : Nat → Int32} (l : Launch) (hts : ∀ w ∈ lw_tbl, w.before #[Value.ref b] s = true) (hX : va_X b L xs s s.heap) (hgv : (Jvm.Cond.and given_1 narrow_1).before #[Value.ref b] s = true) : ∃ G : Gv, (gLa G = l ∧ gB G = s.heap.size ∧ gH G = s.heap ∧ gs G = b ∧ gL G = L ∧ ∀ j, gx G j = (xs j).toInt) ∧ Env0 G s := by
  have htg : ∀ w ∈ gtb, w.before #[Value.ref b] s = true := fun w h => hts w (List.mem_filter.mp h).1
  have hfl : ∀ w ∈ fl1, w.before #[Value.ref b] s = true := flat_of_before _ hgv
  obtain ⟨dC, dI, hK⟩ := cls_start htg
  obtain ⟨a0, p0, q0⟩ := ar_p (htg _ q242)
  obtain ⟨a1, p1, q1⟩ := ar_p (htg _ q366)
  obtain ⟨a2, p2, q2⟩ := ar_p (htg _ q1494)
  have o3 := hts (Cond.arrayOver (.object "BlessLoan$Town")) (tin1 (List.mem_of_getElem? (i := 128) rfl))
  have o4 := hts (Cond.arrayOver (.object "BlessLoan$Text")) (tin1 (List.mem_of_getElem? (i := 37) rfl))
  obtain ⟨a3, p3, q3⟩ := ar_o o3
  obtain ⟨a4, p4, q4⟩ := ar_o o4
  obtain ⟨adK, adV, hS, hev⟩ := vk_Sof (args := #[Value.ref b]) (s := s) (N := nStr) (tm := fun i => .string RX6 (sIdx.getD i 0)) (len := sLen) (byt := sByt) (A := fun q => s.heap.size ≤ q) st_l31 (fun i hi => hfl _ (st_ex i hi)) (fun i hi => hfl _ (st_co i hi)) (fun i hi => hfl _ (st_ar i hi)) (fun i hi => hfl _ (st_le i hi)) (fun i hi j hj => hfl _ (st_el i hi j hj)) (fun i j hi hj hij => (st_ne i hi j hj hij).elim (fun h => Or.inl (hfl _ h)) (fun h => Or.inr (hfl _ h))) (fun a h1 h2 => by omega)
  have z1 := va_Zof (A := fun q => s.heap.size ≤ q) (hts (Cond.laysStatic "java/lang/String" "COMPACT_STRINGS" "Z") (tin3 (List.mem_of_getElem? (i := 184) rfl))) (hts (Cond.initialized "java/lang/String") (tin1 (List.mem_of_getElem? (i := 15) rfl))) (va_eqi (z := 1) (hfl (Cond.eq (.static "java/lang/String" "COMPACT_STRINGS" "Z") (.int 1)) (by decide +kernel))) (fun a h1 h2 => by omega)
  obtain ⟨f, z2⟩ := fm_start hts hfl
  obtain ⟨gKf, ek, ef⟩ : ∃ g : Nat → Nat, (∀ i, i < nStr → g i = adK i) ∧ g nStr = f := ⟨fun i => if i < nStr then adK i else f, fun i hi => if_pos hi, if_neg (by decide)⟩
  subst ef
  have hS' : vk_S nStr sLen sByt gKf adV (fun q => s.heap.size ≤ q) s s.heap := ⟨fun i hi => by rw [ek i hi]; exact hS.1 i hi, fun i j hi hj e => hS.2 i j hi hj (by rw [← ek i hi, ← ek j hj]; exact e)⟩
  obtain ⟨scr, s1, s2, s3, s4, s5⟩ := hX
  refine ⟨(l, dC, dI, fun k => [a0, a1, a2, a3, a4].getD k a0, s.heap.size, s.heap, gKf, adV, b, L, fun j => (xs j).toInt), ⟨rfl, rfl, rfl, rfl, rfl, fun _ => rfl⟩, ⟨⟨hK, fun k q hq => ?_⟩, ⟨hS', z1, z2⟩, ⟨fun i hi => ?_, ⟨va_AO.of o3, va_AO.of o4⟩, ?_⟩, scr, s1, s2, s3, s4, fun j hj => ?_⟩⟩
  · match k, hq with
    | 0, hq => cases hq; exact ⟨p0, q0⟩
    | 1, hq => cases hq; exact ⟨p1, q1⟩
    | 2, hq => cases hq; exact ⟨p2, q2⟩
    | 3, hq => cases hq; exact ⟨p3, q3⟩
    | 4, hq => cases hq; exact ⟨p4, q4⟩
    | k + 5, hq => simp [gT] at hq
  · show vk_R RX6 (sIdx.getD i 0) (sTxt.getD i "") (gKf i) s
    rw [ek i hi]
    exact vk_R.of (hts _ (st_sr i hi)) (hev i hi)
  · exact List.forall_mem_cons.mpr ⟨va_Nw.of rfl (hts _ (tin1 (List.mem_of_getElem? (i := 131) rfl))), List.forall_mem_cons.mpr ⟨va_Nw.of rfl (hts _ (tin1 (List.mem_of_getElem? (i := 238) rfl))), List.forall_mem_cons.mpr ⟨va_Nw.of rfl (hts _ (tin2 (List.mem_of_getElem? (i := 30) rfl))), List.forall_mem_cons.mpr ⟨va_Nw.of rfl (hts _ (tin2 (List.mem_of_getElem? (i := 46) rfl))), List.forall_mem_cons.mpr ⟨va_Nw.of rfl (hts _ (tin2 (List.mem_of_getElem? (i := 82) rfl))), fun _ h => absurd h List.not_mem_nil⟩⟩⟩⟩⟩
  · show scr.slots[j]? = some (.int (Int32.ofInt (xs j).toInt))
    rw [i_of]
    exact s5 j hj
/-- the start's heap -/
def hp0 (n b L : Nat) (x : Nat → Int) : Hp := (n, fun a => if a = b then (100, L) else (999, 0), fun a j => if a = b then x j.toNat else 0, fun _ _ => none)
theorem sim_start {G : Gv} {H : Heap} (h1 : gB G = H.size) (h2 : gH G = H) (h3 : gs G < H.size) (h4 : ∀ j, InR (gx G j)) : Sim G (hp0 H.size (gs G) (gL G) (gx G)) H := by
  refine ⟨rfl, Nat.le_of_eq h1, fun q _ => by rw [h2], ⟨if_pos rfl, fun j => ?_, by omega, h4⟩, fun a ha => ?_, fun a ha hb => ?_⟩
  · show (if gs G = gs G then gx G ((j : Int)).toNat else 0) = _
    rw [if_pos rfl]; rfl
  · by_cases e : a = gs G
    · exact Or.inl e
    · exact absurd (if_neg e) ha
  · exact absurd hb (by show ¬ a < H.size; omega)
end
