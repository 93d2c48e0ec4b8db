/-! Texts: what is read is good; raw code is what it stands for. -/
theorem rw1_len {we : Int → Int × Int} {pos : Int} {q : Int × Int} {r : Itm} (h : q.1 = 2 → 0 ≤ q.2) : ((rw1 we pos q r).length : Int) = szM q := by
  unfold rw1 szM
  by_cases c : q.1 = 2
  · have := h c
    rw [if_neg (by omega), if_neg (by omega), if_pos c, if_pos c, List.length_replicate]
    omega
  · rw [if_neg c, if_neg c]
    repeat' split
    all_goals rfl
theorem rp_raw {we : Int → Int × Int} {nw : Int} {op ar : Int → Int} {c : Itm} (hc : ∀ (i : Nat) (v : Int × Int), c[i]? = some v → op i = v.1 ∧ ar i = v.2) : ∀ (a pre post : Itm), okK nw a → c = pre ++ rwL we pre.length a ++ post → RpM we op ar pre.length a
  | [], _, _, _, _ => trivial
  | q :: r, pre, post, ok, e => by
    have h2 := ok q List.mem_cons_self
    have l1 := rw1_len (we := we) (pos := (pre.length : Int)) (q := q) (r := r) (fun z => h2.2.2.2.2 (by omega))
    have len : ((pre ++ rw1 we pre.length q r).length : Int) = pre.length + szM q := by rw [List.length_append]; omega
    have e1 : c = (pre ++ rw1 we pre.length q r) ++ rwL we ((pre ++ rw1 we pre.length q r).length : Int) r ++ post := by
      rw [len, e, rwL]
      simp only [List.append_assoc]
    have ih := rp_raw hc r (pre ++ rw1 we pre.length q r) post (fun z hz => ok z (List.mem_cons_of_mem _ hz)) e1
    rw [len] at ih
    have e2 : c = pre ++ (rw1 we pre.length q r ++ (rwL we ((pre ++ rw1 we pre.length q r).length : Int) r ++ post)) := by
      rw [e1]
      simp only [List.append_assoc]
    have hd : ∀ v, rw1 we pre.length q r = [v] → op pre.length = v.1 ∧ ar pre.length = v.2 := fun v z => hc _ v (by
      rw [e2, z, List.getElem?_append_right (Nat.le_refl _), Nat.sub_self]
      rfl)
    refine ⟨⟨fun z => ?_, fun z => ?_, fun z i i0 i1 => ?_, fun z => ?_, fun z => ?_, fun z => ?_⟩, ih⟩
    · exact hd (0, q.2) (by unfold rw1; rw [if_pos z])
    · exact hd (we q.2) (by unfold rw1; rw [if_neg (by omega), if_pos z])
    · have er : rw1 we pre.length q r = List.replicate q.2.toNat (28, 0) := by unfold rw1; rw [if_neg (by omega), if_neg (by omega), if_pos z]
      have := hc i.toNat (28, 0) (by
        rw [e2, er, List.getElem?_append_right (by omega), List.getElem?_append_left (by rw [List.length_replicate]; omega), List.getElem?_replicate, if_pos (by omega)])
      rw [show ((i.toNat : Nat) : Int) = i by omega] at this
      exact this.1
    · exact hd (30, pre.length + 1 + lnM (r.take q.2.toNat)) (by unfold rw1; rw [if_neg (by omega), if_neg (by omega), if_neg (by omega), if_pos z])
    · exact hd (29, pre.length + 1 + lnM (r.take q.2.toNat)) (by unfold rw1; rw [if_neg (by omega), if_neg (by omega), if_neg (by omega), if_neg (by omega), if_pos z])
    · exact (hd (q.1 + 15, 0) (by unfold rw1; rw [if_neg (by omega), if_neg (by omega), if_neg (by omega), if_neg (by omega), if_neg (by omega)])).1
/-- items lie in raw code, from pos on -/
def CdA (we : Int → Int × Int) (c : Itm) (pos : Int) (a : Itm) : Prop := ∃ pre post, c = pre ++ rwL we pos a ++ post ∧ pos = pre.length
theorem CdA.app {we : Int → Int × Int} {c a x : Itm} {pos : Int} (h : CdA we c pos a) : CdA we (c ++ x) pos a := by
  obtain ⟨pre, post, e1, e2⟩ := h
  exact ⟨pre, post ++ x, by rw [e1]; simp only [List.append_assoc], e2⟩
theorem CdA.end' {we : Int → Int × Int} {c a : Itm} : CdA we (c ++ rwL we c.length a) c.length a := ⟨c, [], by rw [List.append_nil], rfl⟩
theorem CdA.nil {we : Int → Int × Int} {c : Itm} {pos : Int} (h : 0 ≤ pos ∧ pos ≤ c.length) : CdA we c pos [] := ⟨c.take pos.toNat, c.drop pos.toNat, by show c = c.take pos.toNat ++ [] ++ c.drop pos.toNat; rw [List.append_nil, List.take_append_drop], by rw [List.length_take]; omega⟩
theorem CdA.rp {we : Int → Int × Int} {nw : Int} {op ar : Int → Int} {c a : Itm} {pos : Int} (h : CdA we c pos a) (ok : okK nw a) (hc : ∀ (i : Nat) (v : Int × Int), c[i]? = some v → op i = v.1 ∧ ar i = v.2) : RpM we op ar pos a ∧ 0 ≤ pos ∧ pos + lnM a ≤ c.length := by
  obtain ⟨pre, post, e1, e2⟩ := h
  have l := rw_len (we := we) a pos ok
  refine ⟨?_, by omega, ?_⟩
  · rw [e2] at e1 ⊢
    exact rp_raw hc a pre post ok e1
  · rw [e1, List.length_append, List.length_append]
    omega
theorem ty_ln {nw x : Int} {y : List Int} : ∀ it : Itm, okK nw it → TyK it [] (x :: y) → 0 < lnM it ∧ 0 < lnC it
  | [], _, h => by rw [TyK] at h; cases h
  | (o, n) :: r, ok, h => by
    have n1 := lnM_nn' (r := r) (nw := nw) (fun z hz => ok z (List.mem_cons_of_mem _ hz))
    have n2 := lnC_nn r
    rw [TyK] at h
    by_cases c1 : o ≤ 1
    · refine ⟨?_, ?_⟩
      · rw [lnM]; unfold szM; rw [if_neg (by simp only; omega)]; omega
      · rw [lnC]; unfold szC; rw [if_neg (by simp only; omega)]; omega
    · rw [if_neg c1] at h
      by_cases c2 : o = 2
      · rw [if_pos c2] at h
        obtain ⟨⟨_, e⟩, _⟩ := h
        cases e
      · rw [if_neg c2] at h
        by_cases c3 : o = 3 ∨ o = 4
        · rw [if_pos c3] at h
          obtain ⟨_, e, _⟩ := h
          cases e
        · rw [if_neg c3] at h
          obtain ⟨_, e, _⟩ := h
          cases e
/-- a code of a kind, or none -/
def gKd (nw ty : Int) (it : Itm) : Prop := okC nw it ∧ (it ≠ [] → TyK it [] [ty] ∧ 0 < lnM it ∧ 0 < lnC it)
theorem gKd.nil {nw ty : Int} : gKd nw ty [] := ⟨⟨(fun q hq => by cases hq), Nat.zero_le _, Nat.zero_le _⟩, fun z => absurd rfl z⟩
theorem GdR.gc {tp : Int → Int} {tl nw ty s k : Int} {r : PR} {s' k' : Int} {it : Itm} (h : GdR tp tl nw ty 0 s k r) (hs : 0 ≤ s) (ht : tl ≤ 400) (hk : 0 ≤ k) (e : r = .ok (s', k', it)) : gKd nw ty it ∧ it ≠ [] ∧ TyK it [] [ty] ∧ s < s' ∧ s' ≤ tl ∧ (k ≤ k' ∧ k' ≤ 50) := by
  obtain ⟨a1, a2, a3, a4, a5, a6, a7, a8, a9⟩ := h s' k' it e
  have ty := a9 []
  have l := ty_ln it a6 ty
  refine ⟨⟨⟨a6, by omega, by omega⟩, fun _ => ⟨ty, l⟩⟩, fun z => ?_, ty, a1, a2, a3⟩
  rw [z, TyK] at ty
  cases ty
/-- a good clause -/
def gdO (od : Bool) (q : Ocl) : Prop := (0 ≤ q.1 ∧ q.1 ≤ 3) ∧ gKd (nwO od) 0 q.2.1 ∧ gKd (nwO od) 0 q.2.2.1 ∧ gKd (nwO od) 1 q.2.2.2.1 ∧ (q.1 ≠ 3 → q.2.1 ≠ []) ∧ (od = false → q.2.2.1 = [] ∧ q.2.2.2.2 = 1) ∧ (od = true → (q.1 = 3 → q.2.1 = []) ∧ ((q.1 = 0 ∨ q.1 = 2) → q.2.2.1 ≠ []) ∧ (¬ (q.1 = 0 ∨ q.1 = 2) → q.2.2.1 = []) ∧ 1 ≤ q.2.2.2.2 ∧ q.2.2.2.2 ≤ 20)
def gdB (od : Bool) (tl kd s k : Int) (r : PB) : Prop := ∀ s' k' a c tm, r = .ok (s', k', a, c, tm) → (s ≤ s' ∧ s' ≤ tl) ∧ (k ≤ k' ∧ k' ≤ 50) ∧ gKd (nwO od) 0 a ∧ gKd (nwO od) 0 c ∧ (kd ≠ 3 → a ≠ []) ∧ (od = false → c = [] ∧ tm = 1) ∧ (od = true → (kd = 3 → a = []) ∧ ((kd = 0 ∨ kd = 2) → c ≠ []) ∧ (¬ (kd = 0 ∨ kd = 2) → c = []) ∧ 1 ≤ tm ∧ tm ≤ 20)
section
variable {tp : Int → Int} {tl s k kd : Int} {od : Bool}
theorem ti_gd {s0 k0 : Int} {a c : Itm} (hs : s0 ≤ s ∧ s ≤ tl) (hk : k0 ≤ k ∧ k ≤ 50) (ga : gKd 27 0 a) (gc : gKd 27 0 c) (na : kd ≠ 3 → a ≠ []) (na2 : kd = 3 → a = []) (nc : (kd = 0 ∨ kd = 2) → c ≠ []) (nc2 : ¬ (kd = 0 ∨ kd = 2) → c = []) : gdB true tl kd s0 k0 (tiR tp tl s k a c) := by
  intro s' k' a' c' tm e
  unfold tiR at e
  have n1 := nx_bd (tp := tp) hs.2
  have n2 := nx_bd (tp := tp) n1.1
  by_cases c1 : wdB tp tl s 5 = true
  · rw [if_pos c1] at e
    by_cases c2 : nmS tp tl (nxS tp tl s) 20 < 1
    · rw [if_pos c2] at e; cases e
    · rw [if_neg c2] at e
      have nb := nm_bd (tp := tp) (tl := tl) (s := nxS tp tl s) (most := 20) (by omega)
      cases e
      exact ⟨by omega, hk, ga, gc, na, (fun z => by cases z), fun _ => ⟨na2, nc, nc2, by omega, by omega⟩⟩
  · rw [if_neg c1] at e
    cases e
    exact ⟨hs, hk, ga, gc, na, (fun z => by cases z), fun _ => ⟨na2, nc, nc2, by omega, by omega⟩⟩
theorem se_gd {s0 k0 : Int} {a : Itm} (t4 : tl ≤ 400) (s00 : 0 ≤ s) (k00 : 0 ≤ k) (hs : s0 ≤ s ∧ s ≤ tl) (hk : k0 ≤ k ∧ k ≤ 50) (ga : gKd 27 0 a) (na : kd ≠ 3 → a ≠ []) (na2 : kd = 3 → a = []) : gdB true tl kd s0 k0 (seR tp tl kd s k a) := by
  intro s' k' a' c' tm e
  unfold seR at e
  by_cases c1 : kd = 0 ∨ kd = 2
  · rw [if_pos c1] at e
    by_cases c2 : wdB tp tl s (if kd = 0 then 3 else 4) = true
    · rw [if_pos c2] at e
      have n1 := nx_bd (tp := tp) hs.2
      have g := sm_gd (pt_gd (tp := tp) (tl := tl) (od := true) 8) (nxS tp tl s) k n1.1
      cases e2 : suR tp tl true (nxS tp tl s) k with
      | error z => rw [e2] at e; cases e
      | ok v =>
        obtain ⟨s2, k2, c⟩ := v
        rw [e2] at e
        simp only at e
        obtain ⟨q1, q2, q3, q4, q5, q6⟩ := g.gc (by omega) t4 k00 e2
        exact ti_gd (by omega) (by omega) ga q1 na na2 (fun _ => q2) (fun z => absurd c1 z) s' k' a' c' tm e
    · rw [if_neg c2] at e; cases e
  · rw [if_neg c1] at e
    exact ti_gd hs hk ga gKd.nil na na2 (fun z => absurd z c1) (fun _ => rfl) s' k' a' c' tm e
theorem bd_gd (t4 : tl ≤ 400) (s00 : 0 ≤ s) (k00 : 0 ≤ k) (hs : s ≤ tl) (hk : k ≤ 50) : gdB od tl kd s k (bdR tp tl od kd s k) := by
  intro s' k' a c tm e
  unfold bdR at e
  cases od with
  | true =>
    rw [if_pos rfl] at e
    unfold orR at e
    by_cases c1 : kd = 3
    · rw [if_pos c1] at e
      exact se_gd t4 s00 k00 ⟨Int.le_refl _, hs⟩ ⟨Int.le_refl _, hk⟩ gKd.nil (fun z => absurd c1 z) (fun _ => rfl) s' k' a c tm e
    · rw [if_neg c1] at e
      have g := sm_gd (pt_gd (tp := tp) (tl := tl) (od := true) 8) s k hs
      cases e2 : suR tp tl true s k with
      | error z => rw [e2] at e; cases e
      | ok v =>
        obtain ⟨s2, k2, a2⟩ := v
        rw [e2] at e
        simp only at e
        obtain ⟨q1, q2, q3, q4, q5, q6⟩ := g.gc s00 t4 k00 e2
        exact se_gd t4 (by omega) (by omega) ⟨by omega, q5⟩ q6 q1 (fun _ => q2) (fun z => absurd z c1) s' k' a c tm e
  | false =>
    rw [if_neg (by decide)] at e
    by_cases c1 : kd = 3
    · rw [if_pos c1] at e
      cases e
      exact ⟨⟨Int.le_refl _, hs⟩, ⟨Int.le_refl _, hk⟩, gKd.nil, gKd.nil, fun z => absurd c1 z, fun _ => ⟨rfl, rfl⟩, fun z => by cases z⟩
    · rw [if_neg c1] at e
      have g := sm_gd (pt_gd (tp := tp) (tl := tl) (od := false) 8) s k hs
      cases e2 : suR tp tl false s k with
      | error z => rw [e2] at e; cases e
      | ok v =>
        obtain ⟨s2, k2, a2⟩ := v
        rw [e2] at e
        simp only at e
        obtain ⟨q1, q2, q3, q4, q5, q6⟩ := g.gc s00 t4 k00 e2
        cases e
        exact ⟨⟨by omega, q5⟩, q6, q1, gKd.nil, fun _ => q2, fun _ => ⟨rfl, rfl⟩, fun z => by cases z⟩
def clI (od : Bool) : Nat := if od = true then 0 else 1
theorem am_kd : -1 ≤ amS tp tl s (clI od) ∧ amS tp tl s (clI od) ≤ 3 := by
  have ab := amR_bd (tp := tp) (tl := tl) (s := s) (sChs (clI od)) 0 s (decide (soS tp tl s = 0)) (by omega)
  obtain ⟨_, _, t1, t2⟩ := c32_tab
  have cw : c32 (sChs (clI od)) = 3 := by cases od <;> simp [clI, t1, t2]
  refine ⟨ab.1, ?_⟩
  have := ab.2.1
  unfold amS
  omega
theorem cl_gd {s' k' : Int} {q : Ocl} (t4 : tl ≤ 400) (s00 : 0 ≤ s) (k00 : 0 ≤ k) (hs : s ≤ tl) (hk : k ≤ 50) (e : clR tp tl od s k = .ok (s', k', q)) : gdO od q ∧ (s ≤ s' ∧ s' ≤ tl) ∧ (k ≤ k' ∧ k' ≤ 50) := by
  unfold clR at e
  have ak := am_kd (tp := tp) (tl := tl) (s := s) (od := od)
  have e0 : (if od = true then 0 else 1) = clI od := rfl
  rw [e0] at e
  by_cases c1 : amS tp tl s (clI od) = -1
  · rw [if_pos c1] at e; cases e
  rw [if_neg c1] at e
  have n1 := nx_bd (tp := tp) hs
  have g := bd_gd (tp := tp) (kd := amS tp tl s (clI od)) (od := od) t4 (show 0 ≤ nxS tp tl s by omega) k00 n1.1 hk
  cases e2 : bdR tp tl od (amS tp tl s (clI od)) (nxS tp tl s) k with
  | error z => rw [e2] at e; cases e
  | ok v =>
    obtain ⟨s2, k2, a, c, tm⟩ := v
    rw [e2] at e
    simp only at e
    obtain ⟨g1, g2, g3, g4, g5, g6, g7⟩ := g s2 k2 a c tm e2
    by_cases c2 : wdB tp tl s2 2 = true
    · rw [if_pos c2] at e
      have n2 := nx_bd (tp := tp) g1.2
      have gt := ts_gd (pl_gd (tp := tp) (tl := tl) (od := od) 8) (nxS tp tl s2) k2 n2.1
      cases e3 : teR tp tl od (nxS tp tl s2) k2 with
      | error z => rw [e3] at e; cases e
      | ok v =>
        obtain ⟨s3, k3, t⟩ := v
        rw [e3] at e
        simp only at e
        obtain ⟨q1, q2, q3, q4, q5, q6⟩ := gt.gc (by omega) t4 (by omega) e3
        cases e
        exact ⟨⟨⟨by simp only; omega, ak.2⟩, g3, g4, q1, g5, g6, g7⟩, ⟨by omega, q5⟩, by omega⟩
    · rw [if_neg c2] at e
      cases e
      exact ⟨⟨⟨by simp only; omega, ak.2⟩, g3, g4, gKd.nil, g5, g6, g7⟩, ⟨by omega, g1.2⟩, g2⟩
end
