/-! Orders: what they come to. -/
/-- the words of orders -/
def oW (τ : Tw) (dn lt : Int) (w : Int) : Int := if w = 0 then τ 8 0 else if w = 1 then dn else if w = 2 then lt else if w < 11 then (if w - 3 < τ 0 11 then τ 2 (w - 3) else -1) else if w < 19 then (if w - 11 < τ 0 11 then owT τ (w - 11) else 0) else (if w - 19 < τ 0 11 then owB τ (w - 19) else 0)
theorem oW_0 {τ : Tw} {dn lt : Int} : oW τ dn lt 0 = τ 8 0 ∧ oW τ dn lt 1 = dn ∧ oW τ dn lt 2 = lt := ⟨rfl, rfl, rfl⟩
theorem oW_i {τ : Tw} {dn lt i : Int} (h0 : 0 ≤ i) (h8 : i < 8) : oW τ dn lt (3 + i) = (if i < τ 0 11 then τ 2 i else -1) ∧ oW τ dn lt (11 + i) = (if i < τ 0 11 then owT τ i else 0) ∧ oW τ dn lt (19 + i) = (if i < τ 0 11 then owB τ i else 0) := by
  unfold oW
  refine ⟨?_, ?_, ?_⟩
  · rw [if_neg (by omega), if_neg (by omega), if_neg (by omega), if_pos (by omega), show 3 + i - 3 = i by omega]
  · rw [if_neg (by omega), if_neg (by omega), if_neg (by omega), if_neg (by omega), if_pos (by omega), show 11 + i - 11 = i by omega]
  · rw [if_neg (by omega), if_neg (by omega), if_neg (by omega), if_neg (by omega), if_neg (by omega), show 19 + i - 19 = i by omega]
theorem oW_bd {τ : Tw} {dn lt : Int} (W : WT τ) (hd : 0 ≤ dn ∧ dn ≤ 1000) (hl : -1 ≤ lt ∧ lt ≤ 1000) : ∀ w, 0 ≤ w → w < 27 → -1000000000 ≤ oW τ dn lt w ∧ oW τ dn lt w ≤ 1000000000 := by
  intro w w0 w1
  have mi := W.mi
  unfold oW
  by_cases c0 : w = 0
  · rw [if_pos c0]; omega
  rw [if_neg c0]
  by_cases c1 : w = 1
  · rw [if_pos c1]; omega
  rw [if_neg c1]
  by_cases c2 : w = 2
  · rw [if_pos c2]; omega
  rw [if_neg c2]
  by_cases c3 : w < 11
  · rw [if_pos c3]
    have := W.pl (k := w - 3) (by omega) (by omega)
    split <;> omega
  rw [if_neg c3]
  by_cases c4 : w < 19
  · rw [if_pos c4]
    have := owT_bd W (p := w - 11) (by omega) (by omega)
    split <;> omega
  rw [if_neg c4]
  have := owB_bd W (p := w - 19) (by omega) (by omega)
  split <;> omega
def sm1 (wd : Int → Int) (it : Itm) : Option Int := headK (evK wd it [])
theorem sm1_bd {wd : Int → Int} {nw v : Int} {it : Itm} (hw : ∀ i, 0 ≤ i → i < nw → -1000000000 ≤ wd i ∧ wd i ≤ 1000000000) (ok : okC nw it) (e : sm1 wd it = some v) : -1000001000 ≤ v ∧ v ≤ 1000001000 := by
  unfold sm1 at e
  cases c : evK wd it [] with
  | none => rw [c] at e; cases e
  | some r =>
    have b := evK_bd hw it.length it [] r 1000000000 (Nat.le_refl _) ok.1 (Int.le_refl _) (fun v hv => by cases hv) c
    rw [c] at e
    have l := ok.2.2
    cases r with
    | nil => cases e
    | cons x t =>
      have : x = v := by
        have e' : headK (some (x :: t)) = some v := e
        unfold headK at e'
        simpa using e'
      have := b x List.mem_cons_self
      omega
/-- one deed: its answer, the town, what can be undone -/
def actO (Λ : Lw) (q : Ocl) (τ : Tw) (U : Pst) (wd : Int → Int) : Option (Int × Tw × Pst) :=
  if q.1 = 3 then (if τ 8 0 < 9999 then some (τ 8 0 + 1, upT τ 8 0 (τ 8 0 + 1), pushU U 4 τ) else none)
  else match sm1 wd q.2.1 with
    | none => none
    | some v =>
      if q.1 = 1 then (if 0 ≤ v ∧ v < τ 0 11 then some (snA τ (alOf τ Λ) v, snT τ (alOf τ Λ) v, pushU U 1 τ) else none)
      else match sm1 wd q.2.2.1 with
        | none => none
        | some u =>
          if q.1 = 0 then (if (0 ≤ u ∧ u < 25) ∧ (0 ≤ v ∧ v < τ 0 11) ∧ dist (τ 2 v) u = 1 then some (τ 2 v, upT τ 2 v u, pushU U 0 τ) else none)
          else (if ((0 ≤ v ∧ v < τ 0 11) ∧ (0 ≤ u ∧ u < τ 0 11)) ∧ τ 7 (v * 8 + u) ≠ 0 then some (τ 7 (v * 8 + u), upT τ 7 (v * 8 + u) 0, pushU U 2 τ) else none)
abbrev OSt : Type := Tw × Pst × Int × Int
def wnt (wd : Int → Int) (t : Itm) : Bool := decide (t = []) || decide ((sm1 wd t).getD 0 ≠ 0)
def ltO (q : Ocl) (a lt : Int) : Int := if q.1 = 1 then (if a = 100 then -1 else a) else lt
def oneO (Λ : Lw) (q : Ocl) (S : OSt) : Option OSt := if wnt (oW S.1 S.2.2.1 S.2.2.2) q.2.2.2.1 = true then (match actO Λ q S.1 S.2.1 (oW S.1 S.2.2.1 S.2.2.2) with
  | none => none
  | some (a, τ, U) => some (τ, U, S.2.2.1 + 1, ltO q a S.2.2.2)) else some S
def repO (Λ : Lw) (q : Ocl) : Nat → OSt → Option OSt
  | 0, S => some S
  | n + 1, S => match oneO Λ q S with
    | none => none
    | some S' => repO Λ q n S'
def allO (Λ : Lw) : List Ocl → Int → OSt → Except Int OSt
  | [], _, S => .ok S
  | q :: r, c, S => match repO Λ q q.2.2.2.2.toNat S with
    | none => .error c
    | some S' => allO Λ r (c + 1) S'
theorem rep_id {Λ : Lw} {q : Ocl} {S : OSt} (h : wnt (oW S.1 S.2.2.1 S.2.2.2) q.2.2.2.1 = false) : ∀ n : Nat, repO Λ q n S = some S
  | 0 => rfl
  | n + 1 => by
    rw [repO]
    have e : oneO Λ q S = some S := by unfold oneO; rw [if_neg (by rw [h]; decide)]
    rw [e]
    exact rep_id h n
/-- what stays as it was while orders are run -/
def gdS (τ0 : Tw) (n : Int) (S : OSt) : Prop := WT S.1 ∧ (∀ i, ¬ dyI i → S.1 i = τ0 i) ∧ (0 ≤ S.2.2.1 ∧ S.2.2.1 ≤ n) ∧ (-1 ≤ S.2.2.2 ∧ S.2.2.2 ≤ 8)
theorem sn_nd {τ : Tw} {al : List Cls} {p : Int} : ∀ i, ¬ dyI i → snT τ al p i = τ i := fun i hi => by
  unfold snT
  by_cases c : snB τ al p = -1
  · rw [if_pos c]
  · rw [if_neg c]
    exact funext (fun q => upT_i (fun e => hi (Or.inr (Or.inl e))))
theorem act_gd {Λ : Lw} {q : Ocl} {τ τ' : Tw} {U U' : Pst} {wd : Int → Int} {a : Int} (W : WT τ) (e : actO Λ q τ U wd = some (a, τ', U')) : WT τ' ∧ (∀ i, ¬ dyI i → τ' i = τ i) ∧ 0 ≤ a ∧ (q.1 = 1 → a = 100 ∨ a < 8) := by
  have n8 := W.n
  unfold actO at e
  by_cases c3 : q.1 = 3
  · rw [if_pos c3] at e
    by_cases c : τ 8 0 < 9999
    · rw [if_pos c] at e
      cases e
      have mi := W.mi
      exact ⟨W.u8 (Or.inl ⟨rfl, by omega⟩), fun i hi => funext (fun q => upT_i (fun e => hi (Or.inr (Or.inr e)))), by omega, fun z => by omega⟩
    · rw [if_neg c] at e; cases e
  rw [if_neg c3] at e
  cases s1 : sm1 wd q.2.1 with
  | none => rw [s1] at e; cases e
  | some v =>
    rw [s1] at e
    simp only at e
    by_cases c1 : q.1 = 1
    · rw [if_pos c1] at e
      by_cases c : 0 ≤ v ∧ v < τ 0 11
      · rw [if_pos c] at e
        cases e
        have sb := snB_bd (al := alOf τ Λ) (p := v) W
        refine ⟨snT_W W c, sn_nd, ?_, fun _ => ?_⟩
        · unfold snA; split <;> omega
        · unfold snA; split <;> omega
      · rw [if_neg c] at e; cases e
    rw [if_neg c1] at e
    cases s2 : sm1 wd q.2.2.1 with
    | none => rw [s2] at e; cases e
    | some u =>
      rw [s2] at e
      simp only at e
      by_cases c0 : q.1 = 0
      · rw [if_pos c0] at e
        by_cases c : (0 ≤ u ∧ u < 25) ∧ (0 ≤ v ∧ v < τ 0 11) ∧ dist (τ 2 v) u = 1
        · rw [if_pos c] at e
          cases e
          have pl := W.pl (k := v) (by omega) (by omega)
          exact ⟨W.u2 c.1, fun i hi => funext (fun q => upT_i (fun e => hi (Or.inl e))), by omega, fun z => by omega⟩
        · rw [if_neg c] at e; cases e
      · rw [if_neg c0] at e
        by_cases c : ((0 ≤ v ∧ v < τ 0 11) ∧ (0 ≤ u ∧ u < τ 0 11)) ∧ τ 7 (v * 8 + u) ≠ 0
        · rw [if_pos c] at e
          cases e
          have ow := W.ow (k := v * 8 + u) (by omega) (by omega)
          have ne : v ≠ u := fun e => c.2 (W.oz (by omega) (by omega) (by omega) (by omega) (Or.inl e))
          exact ⟨W.u7 (by omega) c.1.1 c.1.2 ne, fun i hi => funext (fun q => upT_i (fun e => hi (Or.inr (Or.inl e)))), by omega, fun z => by omega⟩
        · rw [if_neg c] at e; cases e
theorem one_gd {Λ : Lw} {q : Ocl} {S S' : OSt} {τ0 : Tw} {n : Int} (H : gdS τ0 n S) (e : oneO Λ q S = some S') : gdS τ0 (n + 1) S' := by
  obtain ⟨W, nd, d1, l1⟩ := H
  unfold oneO at e
  by_cases c : wnt (oW S.1 S.2.2.1 S.2.2.2) q.2.2.2.1 = true
  · rw [if_pos c] at e
    cases s : actO Λ q S.1 S.2.1 (oW S.1 S.2.2.1 S.2.2.2) with
    | none => rw [s] at e; cases e
    | some v =>
      obtain ⟨a, τ, U⟩ := v
      rw [s] at e
      simp only at e
      cases e
      obtain ⟨w1, w2, w3, w4⟩ := act_gd W s
      refine ⟨w1, fun i hi => (w2 i hi).trans (nd i hi), by simp only; omega, ?_⟩
      simp only
      unfold ltO
      by_cases c1 : q.1 = 1
      · have := w4 c1
        rw [if_pos c1]; split <;> omega
      · rw [if_neg c1]; exact l1
  · rw [if_neg c] at e
    cases e
    exact ⟨W, nd, by omega, l1⟩
/-- clauses that are read are good -/
theorem tx_gd {tp : Int → Int} {tl : Int} {od : Bool} (t4 : tl ≤ 400) : ∀ (n : Nat) (s k : Int) (acc cl : List Ocl), 0 ≤ s → s ≤ tl → 0 ≤ k → k ≤ 50 → acc.length + n = 12 → (∀ q ∈ acc, gdO od q) → txR tp tl od n s k acc = .ok cl → (∀ q ∈ cl, gdO od q) ∧ 1 ≤ cl.length ∧ cl.length ≤ 12
  | 0, s, k, acc, cl, _, _, _, _, _, _, e => by rw [txR] at e; cases e
  | n + 1, s, k, acc, cl, s0, s1, k0, k1, hn, g, e => by
    rw [txR] at e
    cases c : clR tp tl od s k with
    | error z => rw [c] at e; cases e
    | ok v =>
      obtain ⟨s2, k2, q⟩ := v
      rw [c] at e
      simp only at e
      obtain ⟨gq, b1, b2⟩ := cl_gd t4 s0 k0 s1 k1 c
      have g2 : ∀ u ∈ acc ++ [q], gdO od u := fun u hu => by
        rcases List.mem_append.1 hu with z | z
        · exact g u z
        · rcases List.mem_cons.1 z with y | y
          · rw [y]; exact gq
          · cases y
      have l2 : (acc ++ [q]).length = acc.length + 1 := by rw [List.length_append, List.length_singleton]
      by_cases c1 : soS tp tl s2 = 3
      · rw [if_pos c1] at e
        cases e
        exact ⟨g2, by omega, by omega⟩
      · rw [if_neg c1] at e
        by_cases c2 : sgB tp tl s2 59 = true
        · rw [if_pos c2] at e
          have nx := nx_bd (tp := tp) b1.2
          exact tx_gd t4 n _ k2 _ cl (by omega) nx.1 (by omega) b2.2 (by omega) g2 e
        · rw [if_neg c2] at e; cases e
theorem tex_gd {tp : Int → Int} {tl : Int} {od : Bool} {cl : List Ocl} (T : TpB tp tl) (e : texR tp tl od = .ok cl) : (∀ q ∈ cl, gdO od q) ∧ 1 ≤ cl.length ∧ cl.length ≤ 12 := by
  have sk := skS_bd (tp := tp) (tl := tl) (q := 0) T.1.1
  exact tx_gd T.1.2 12 (skS tp tl 0) 0 [] cl sk.1 sk.2 (Int.le_refl _) (by omega) rfl (fun q hq => by cases hq) e
