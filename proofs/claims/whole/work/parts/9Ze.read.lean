/-! The reader: what is read, by recursive descent. -/
abbrev Itm : Type := List (Int × Int)
abbrev PR : Type := Except Int (Int × Int × Itm)
/-- a number or a word; od: of orders -/
def lfR (tp : Int → Int) (tl : Int) (od : Bool) (s k : Int) : PR :=
  if 50 ≤ k ∨ (nmS tp tl s 1000 = -1 ∧ amS tp tl s (if od = true then 9 else 10) = -1) then .error s
  else if od = true ∧ 3 ≤ amS tp tl s (if od = true then 9 else 10) then (if nmS tp tl (nxS tp tl s) 7 = -1 then .error (nxS tp tl s) else .ok (nxS tp tl (nxS tp tl s), k + 1, [(1, 3 + (amS tp tl s (if od = true then 9 else 10) - 3) * 8 + nmS tp tl (nxS tp tl s) 7)]))
  else .ok (nxS tp tl s, k + 1, [if amS tp tl s (if od = true then 9 else 10) = -1 then (0, nmS tp tl s 1000) else (1, amS tp tl s (if od = true then 9 else 10))])
/-- more of the same, with an operation behind each -/
def bnL (tp : Int → Int) (tl : Int) (op : Int → Int) (rd : Int → Int → PR) : Nat → Int → Int → Itm → PR
  | 0, s, k, it => .ok (s, k, it)
  | n + 1, s, k, it => if op s = -1 then .ok (s, k, it) else match rd (nxS tp tl s) k with
    | .error e => .error e
    | .ok (s2, k2, it2) => bnL tp tl op rd n s2 k2 (it ++ it2 ++ [(op s, 0)])
def mulO (tp : Int → Int) (tl s : Int) : Int := if sgB tp tl s 42 = true then 7 else if sgB tp tl s 47 = true then 8 else if sgB tp tl s 37 = true then 9 else -1
def addO (tp : Int → Int) (tl s : Int) : Int := if sgB tp tl s 43 = true then 5 else if sgB tp tl s 45 = true then 6 else -1
def cmpO (tp : Int → Int) (tl s : Int) : Int := if sgB tp tl s 60 = true then 10 else if sgB tp tl s 62 = true then 11 else if sgB tp tl s 61 = true then 12 else -1
def thenL (a : PR) (f : Int → Int → Itm → PR) : PR := match a with
  | .error e => .error e
  | .ok (s, k, it) => f s k it
def tmR (tp : Int → Int) (tl : Int) (pt : Int → Int → PR) (s k : Int) : PR := thenL (pt s k) (fun s k it => bnL tp tl (mulO tp tl) pt (tl - s).toNat s k it)
def smR (tp : Int → Int) (tl : Int) (pt : Int → Int → PR) (s k : Int) : PR := thenL (tmR tp tl pt s k) (fun s k it => bnL tp tl (addO tp tl) (tmR tp tl pt) (tl - s).toNat s k it)
/-- in brackets -/
def brR (tp : Int → Int) (tl : Int) (rd : Int → Int → PR) (cl s k : Int) : PR := thenL (rd (nxS tp tl s) k) (fun s k it => if sgB tp tl s cl = true then .ok (nxS tp tl s, k, it) else .error s)
def ptR (tp : Int → Int) (tl : Int) (od : Bool) : Nat → Int → Int → PR
  | 0, s, k => if sgB tp tl s 91 = true then .error s else lfR tp tl od s k
  | D + 1, s, k => if sgB tp tl s 91 = true then brR tp tl (smR tp tl (ptR tp tl od D)) 93 s k else lfR tp tl od s k
def cmR (tp : Int → Int) (tl : Int) (sm : Int → Int → PR) (s k : Int) : PR := thenL (sm s k) (fun s k a => if cmpO tp tl s = -1 then .error s else thenL (sm (nxS tp tl s) k) (fun s2 k2 b => .ok (s2, k2, a ++ b ++ [(cmpO tp tl s, 0)])))
/-- more of the same, behind a word that may leave it out -/
def jmL (tp : Int → Int) (tl : Int) (w : Nat) (o : Int) (rd : Int → Int → PR) : Nat → Int → Int → Itm → PR
  | 0, s, k, it => .ok (s, k, it)
  | n + 1, s, k, it => if wdB tp tl s w = true then (match rd (nxS tp tl s) k with
    | .error e => .error e
    | .ok (s2, k2, it2) => jmL tp tl w o rd n s2 k2 (it ++ (o, (it2.length : Int)) :: it2)) else .ok (s, k, it)
def boR (tp : Int → Int) (tl : Int) (pl : Int → Int → PR) (s k : Int) : PR := thenL (pl s k) (fun s k it => jmL tp tl 7 4 pl (tl - s).toNat s k it)
def tsR (tp : Int → Int) (tl : Int) (pl : Int → Int → PR) (s k : Int) : PR := thenL (boR tp tl pl s k) (fun s k it => jmL tp tl 6 3 (boR tp tl pl) (tl - s).toNat s k it)
/-- so many nots, and where they end -/
def ntK (tp : Int → Int) (tl : Int) : Nat → Int → Int × Int
  | 0, s => (0, s)
  | n + 1, s => if wdB tp tl s 8 = true then ((ntK tp tl n (nxS tp tl s)).1 + 1, (ntK tp tl n (nxS tp tl s)).2) else (0, s)
def ntS (tp : Int → Int) (tl s : Int) : Int × Int := ntK tp tl (tl - s).toNat s
def plR (tp : Int → Int) (tl : Int) (od : Bool) : Nat → Int → Int → PR
  | 0, s, k => thenL (if sgB tp tl (ntS tp tl s).2 40 = true then .error (ntS tp tl s).2 else cmR tp tl (smR tp tl (ptR tp tl od 0)) (ntS tp tl s).2 k) (fun s2 k2 it => .ok (s2, k2, it ++ [(2, (ntS tp tl s).1)]))
  | D + 1, s, k => thenL (if sgB tp tl (ntS tp tl s).2 40 = true then brR tp tl (tsR tp tl (plR tp tl od D)) 41 (ntS tp tl s).2 k else cmR tp tl (smR tp tl (ptR tp tl od (D + 1))) (ntS tp tl s).2 k) (fun s2 k2 it => .ok (s2, k2, it ++ [(2, (ntS tp tl s).1)]))
/-- a sum's code, a test's code -/
def suR (tp : Int → Int) (tl : Int) (od : Bool) : Int → Int → PR := smR tp tl (ptR tp tl od 8)
def teR (tp : Int → Int) (tl : Int) (od : Bool) : Int → Int → PR := tsR tp tl (plR tp tl od 8)
/-- counts of items that are left out stay within the list -/
def WfI : Itm → Prop
  | [] => True
  | q :: r => ((q.1 = 3 ∨ q.1 = 4) → 0 ≤ q.2 ∧ q.2.toNat ≤ r.length) ∧ WfI r
theorem WfI_app : ∀ (a b : Itm), WfI a → WfI b → WfI (a ++ b)
  | [], b, _, h => h
  | q :: r, b, h1, h2 => ⟨fun z => by have := h1.1 z; show 0 ≤ q.2 ∧ q.2.toNat ≤ (r ++ b).length; rw [List.length_append]; omega, WfI_app r b h1.2 h2⟩
/-- what is read well: it goes on, no more codes than signs, numbers and words as they may be -/
def GdR (_ : Int → Int) (tl nw : Int) (ty : Int) (x : Int) (s k : Int) (r : PR) : Prop := ∀ s' k' it, r = .ok (s', k', it) → s < s' ∧ s' ≤ tl ∧ (k ≤ k' ∧ k' ≤ 50) ∧ lnM it ≤ s' - s ∧ WfI it ∧ okK nw it ∧ (lvK it : Int) = k' - k ∧ (it.length : Int) + x ≤ 2 * (s' - s) ∧ ∀ a, TyK it a (ty :: a)
theorem GdR.w {tp : Int → Int} {tl nw ty s k : Int} {r : PR} (h : GdR tp tl nw ty 1 s k r) : GdR tp tl nw ty 0 s k r := fun s' k' it e => by
  obtain ⟨a1, a2, a3, a4, a5, a6, a7, a8, a9⟩ := h s' k' it e
  exact ⟨a1, a2, a3, a4, a5, a6, a7, by omega, a9⟩
theorem lnM_nn' : ∀ {r : Itm} {nw : Int}, okK nw r → 0 ≤ lnM r
  | [], _, _ => Int.le_refl _
  | q :: r, nw, h => by
    show 0 ≤ szM q + lnM r
    have h1 := lnM_nn' (r := r) (nw := nw) (fun z hz => h z (List.mem_cons_of_mem _ hz))
    have h2 := h q List.mem_cons_self
    have : 0 ≤ szM q := by unfold szM; split <;> omega
    omega
theorem lvK_app : ∀ a b : Itm, lvK (a ++ b) = lvK a + lvK b
  | [], b => by show lvK b = 0 + lvK b; omega
  | q :: r, b => by
    show (if q.1 ≤ 1 then 1 else 0) + lvK (r ++ b) = (if q.1 ≤ 1 then 1 else 0) + lvK r + lvK b
    rw [lvK_app r b]; omega
theorem okK_app {nw : Int} {a b : Itm} (h1 : okK nw a) (h2 : okK nw b) : okK nw (a ++ b) := fun q hq => by
  rcases List.mem_append.1 hq with z | z
  · exact h1 q z
  · exact h2 q z
theorem okK_one {nw : Int} {q : Int × Int} (h : 0 ≤ q.1 ∧ q.1 ≤ 12 ∧ (q.1 = 0 → 0 ≤ q.2 ∧ q.2 ≤ 1000) ∧ (q.1 = 1 → 0 ≤ q.2 ∧ q.2 < nw) ∧ (2 ≤ q.1 → 0 ≤ q.2)) : okK nw [q] := fun z hz => by
  rcases List.mem_cons.1 hz with e | e
  · rw [e]; exact h
  · cases e
def c32 : List Int → Int
  | [] => 0
  | c :: r => (if c = 32 then 1 else 0) + c32 r
theorem amR_bd {tp : Int → Int} {tl s : Int} : ∀ (r : List Int) (w a : Int) (sa : Bool), 0 ≤ w → -1 ≤ amR tp tl s r w a sa ∧ amR tp tl s r w a sa ≤ w + c32 r ∧ 0 ≤ c32 r
  | [], w, a, sa, h => by
    rw [amR]
    show -1 ≤ _ ∧ _ ≤ w + 0 ∧ (0 : Int) ≤ 0
    split <;> omega
  | c :: r, w, a, sa, h => by
    rw [amR, c32]
    by_cases e : c = 32
    · rw [if_pos e, if_pos e]
      have ih := amR_bd (tp := tp) (tl := tl) (s := s) r (w + 1) s (decide (soS tp tl s = 0)) (by omega)
      split <;> omega
    · rw [if_neg e, if_neg e]
      have ih := amR_bd (tp := tp) (tl := tl) (s := s) r w (a + 1) (sa && decide (a < enS tp tl s) && decide (tp a = c)) h
      omega
theorem amR_no {tp : Int → Int} {tl s : Int} (h : soS tp tl s ≠ 0) : ∀ (r : List Int) (w a : Int), amR tp tl s r w a false = -1
  | [], w, a => by rw [amR, if_neg (fun z => by cases z.1)]
  | c :: r, w, a => by
    rw [amR]
    by_cases e : c = 32
    · rw [if_pos e, if_neg (fun z => by cases z.1), decide_eq_false h]; exact amR_no h r (w + 1) s
    · rw [if_neg e, Bool.false_and, Bool.false_and]; exact amR_no h r w (a + 1)
theorem amS_no {tp : Int → Int} {tl s : Int} {i : Nat} (h : soS tp tl s ≠ 0) : amS tp tl s i = -1 := by
  unfold amS
  rw [decide_eq_false h]
  exact amR_no h _ _ _
theorem c32_tab : c32 (sChs 9) = 5 ∧ c32 (sChs 10) = 9 ∧ c32 (sChs 0) = 3 ∧ c32 (sChs 1) = 3 := by decide +kernel
theorem so_lt {tp : Int → Int} {tl s : Int} (h : soS tp tl s ≠ 3) : s < tl := by
  unfold soS at h
  by_cases c : tl ≤ s
  · rw [if_pos c] at h; exact absurd rfl h
  · omega
theorem nx_bd {tp : Int → Int} {tl s : Int} (h : s ≤ tl) : nxS tp tl s ≤ tl ∧ (s < tl → s < nxS tp tl s) ∧ s ≤ nxS tp tl s := by
  have e := enS_bd (tp := tp) h
  have k := skS_bd (tp := tp) (tl := tl) (q := enS tp tl s) e.2.1
  unfold nxS
  omega
theorem sg_lt {tp : Int → Int} {tl s c : Int} (h : sgB tp tl s c = true) : s < tl := by
  have := (of_decide_eq_true h).1
  exact so_lt (tp := tp) (by omega)
theorem wd_lt {tp : Int → Int} {tl s : Int} {i : Nat} (h : wdB tp tl s i = true) : s < tl := by
  have e := of_decide_eq_true h
  apply so_lt (tp := tp)
  intro z
  have := amS_no (tp := tp) (tl := tl) (s := s) (i := i) (by omega)
  omega
theorem nm_bd {tp : Int → Int} {tl s most : Int} (hm : most ≤ 1000) : (nmS tp tl s most = -1 ∨ (soS tp tl s = 1 ∧ nmS tp tl s most ≤ most ∧ 0 ≤ nmS tp tl s most)) := by
  unfold nmS
  by_cases c : soS tp tl s = 1
  · rw [if_pos c]
    by_cases c2 : nuK tp (enS tp tl s - s).toNat s 0 ≤ most
    · rw [if_pos c2]
      refine Or.inr ⟨c, c2, ?_⟩
      have dg : ∀ i : Int, s ≤ i → i < enS tp tl s → 48 ≤ tp i ∧ tp i ≤ 57 := fun i i0 i1 => by
        have := enS_all (tp := tp) (tl := tl) (s := s) (by omega) i i0 i1
        rw [c] at this
        unfold srt at this
        by_cases z1 : 97 ≤ tp i ∧ tp i ≤ 122
        · rw [if_pos z1] at this; omega
        · rw [if_neg z1] at this
          by_cases z2 : 48 ≤ tp i ∧ tp i ≤ 57
          · exact z2
          · rw [if_neg z2] at this; omega
      exact (nuK_bd (tp := tp) _ s 0 (Int.le_refl _) (by omega) (fun i i0 i1 => dg i i0 (by omega))).1
    · rw [if_neg c2]; exact Or.inl rfl
  · rw [if_neg c]; exact Or.inl rfl
def nwO (od : Bool) : Int := if od = true then 27 else 10
theorem lf_gd {tp : Int → Int} {tl : Int} {od : Bool} {s k : Int} (hs : s ≤ tl) : GdR tp tl (nwO od) 0 0 s k (lfR tp tl od s k) := by
  intro s' k' it e
  unfold lfR at e
  by_cases c1 : 50 ≤ k ∨ (nmS tp tl s 1000 = -1 ∧ amS tp tl s (if od = true then 9 else 10) = -1)
  · rw [if_pos c1] at e; cases e
  rw [if_neg c1] at e
  have nb := nm_bd (tp := tp) (tl := tl) (s := s) (most := 1000) (by omega)
  have ab := amR_bd (tp := tp) (tl := tl) (s := s) (sChs (if od = true then 9 else 10)) 0 s (decide (soS tp tl s = 0)) (by omega)
  have ab' : -1 ≤ amS tp tl s (if od = true then 9 else 10) ∧ amS tp tl s (if od = true then 9 else 10) ≤ c32 (sChs (if od = true then 9 else 10)) := ⟨ab.1, by have := ab.2.1; unfold amS; omega⟩
  have st : s < tl := by
    apply so_lt (tp := tp)
    intro z
    have := amS_no (tp := tp) (tl := tl) (s := s) (i := if od = true then 9 else 10) (by omega)
    omega
  have n1 := nx_bd (tp := tp) hs
  obtain ⟨t1, t2, _, _⟩ := c32_tab
  have cw : c32 (sChs (if od = true then 9 else 10)) = if od = true then 5 else 9 := by cases od <;> simp [t1, t2]
  rw [cw] at ab'
  generalize amS tp tl s (if od = true then 9 else 10) = w at *
  generalize nmS tp tl s 1000 = num at *
  clear ab cw
  have ty : ∀ q : Int × Int, q.1 ≤ 1 → ∀ a, TyK [q] a (0 :: a) := fun q hq a => by obtain ⟨o, v⟩ := q; rw [TyK, if_pos hq, TyK]
  by_cases c2 : od = true ∧ 3 ≤ w
  · rw [if_pos c2] at e
    rw [if_pos c2.1] at ab'
    have n2 := nx_bd (tp := tp) n1.1
    have mb := nm_bd (tp := tp) (tl := tl) (s := nxS tp tl s) (most := 7) (by omega)
    by_cases c3 : nmS tp tl (nxS tp tl s) 7 = -1
    · rw [if_pos c3] at e; cases e
    rw [if_neg c3] at e
    cases e
    have nw : nwO od = 27 := by rw [c2.1]; rfl
    refine ⟨by omega, n2.1, ⟨by omega, by omega⟩, ?_, ⟨fun z => by simp at z, trivial⟩, okK_one ⟨by simp, by simp, fun z => by simp at z, fun _ => ?_, fun z => by simp at z⟩, ?_, ?_, ty _ (by simp)⟩
    · show szM (1, _) + 0 ≤ _
      unfold szM
      simp only
      rw [if_neg (by omega)]
      omega
    · rw [nw]; simp only; omega
    · show (((if (1 : Int) ≤ 1 then 1 else 0) + 0 : Nat) : Int) = _
      simp
      omega
    · show ((1 : Nat) : Int) + 0 ≤ _
      omega
  · rw [if_neg c2] at e
    cases e
    have hw : w ≠ -1 → 0 ≤ w ∧ w < nwO od := fun z => by
      cases od with
      | true => rw [if_pos rfl] at ab'; show 0 ≤ w ∧ w < 27; omega
      | false => rw [if_neg (by decide)] at ab'; show 0 ≤ w ∧ w < 10; omega
    by_cases c3 : w = -1
    · rw [if_pos c3]
      refine ⟨by omega, n1.1, ⟨by omega, by omega⟩, ?_, ⟨fun z => by simp at z, trivial⟩, okK_one ⟨by simp, by simp, fun _ => ?_, fun z => by simp at z, fun z => by simp at z⟩, ?_, ?_, ty _ (by simp)⟩
      · show szM (0, _) + 0 ≤ _
        unfold szM
        simp only
        rw [if_neg (by omega)]
        omega
      · simp only; omega
      · show (((if (0 : Int) ≤ 1 then 1 else 0) + 0 : Nat) : Int) = _
        simp
        omega
      · show ((1 : Nat) : Int) + 0 ≤ _
        omega
    · rw [if_neg c3]
      refine ⟨by omega, n1.1, ⟨by omega, by omega⟩, ?_, ⟨fun z => by simp at z, trivial⟩, okK_one ⟨by simp, by simp, fun z => by simp at z, fun _ => hw c3, fun z => by simp at z⟩, ?_, ?_, ty _ (by simp)⟩
      · show szM (1, _) + 0 ≤ _
        unfold szM
        simp only
        rw [if_neg (by omega)]
        omega
      · show (((if (1 : Int) ≤ 1 then 1 else 0) + 0 : Nat) : Int) = _
        simp
        omega
      · show ((1 : Nat) : Int) + 0 ≤ _
        omega
/-- a reader that reads well from wherever it begins -/
def GdF (tp : Int → Int) (tl nw ty : Int) (rd : Int → Int → PR) : Prop := ∀ s k, s ≤ tl → GdR tp tl nw ty 0 s k (rd s k)
theorem bnL_gd {tp : Int → Int} {tl nw : Int} {op : Int → Int} {rd : Int → Int → PR} (hr : GdF tp tl nw 0 rd) (ho : ∀ s, op s = -1 ∨ (5 ≤ op s ∧ op s ≤ 9 ∧ s < tl)) : ∀ (n : Nat) (s0 k0 s k : Int) (it : Itm), s ≤ tl → GdR tp tl nw 0 0 s0 k0 (.ok (s, k, it)) → GdR tp tl nw 0 0 s0 k0 (bnL tp tl op rd n s k it)
  | 0, s0, k0, s, k, it, hs, h => h
  | n + 1, s0, k0, s, k, it, hs, h => by
    rw [bnL]
    by_cases c : op s = -1
    · rw [if_pos c]; exact h
    rw [if_neg c]
    have o := ho s
    have nx := nx_bd (tp := tp) hs
    have g := hr (nxS tp tl s) k nx.1
    cases e : rd (nxS tp tl s) k with
    | error z => intro _ _ _ y; cases y
    | ok v =>
      obtain ⟨s2, k2, it2⟩ := v
      rw [e] at g
      obtain ⟨a1, a2, a3, a4, a5, a6, a7, a8, a9⟩ := g s2 k2 it2 rfl
      obtain ⟨b1, b2, b3, b4, b5, b6, b7, b8, b9⟩ := h s k it rfl
      simp only
      refine bnL_gd hr ho n s0 k0 s2 k2 _ a2 (fun s' k' it' y => ?_)
      cases y
      have sz : szM (op s, 0) = 1 := by unfold szM; rw [if_neg (by simp only; omega)]
      refine ⟨by omega, a2, ⟨by omega, a3.2⟩, ?_, WfI_app _ _ (WfI_app _ _ b5 a5) ⟨fun z => by simp only at z; omega, trivial⟩, okK_app (okK_app b6 a6) (okK_one ⟨by simp only; omega, by simp only; omega, fun z => by simp only at z; omega, fun z => by simp only at z; omega, fun _ => Int.le_refl _⟩), ?_, ?_, fun a => ?_⟩
      · rw [lnM_app, lnM_app]
        show lnM it + lnM it2 + (szM (op s, 0) + 0) ≤ _
        omega
      · rw [lvK_app, lvK_app]
        show ((lvK it + lvK it2 + ((if op s ≤ 1 then 1 else 0) + 0) : Nat) : Int) = _
        rw [if_neg (by omega)]
        omega
      · rw [List.length_append, List.length_append]
        show ((it.length + it2.length + 1 : Nat) : Int) + 0 ≤ _
        omega
      · refine TyK_app _ _ _ a (0 :: 0 :: a) (0 :: a) (Nat.le_refl _) (TyK_app _ _ _ a (0 :: a) (0 :: 0 :: a) (Nat.le_refl _) (b9 a) (a9 (0 :: a))) ?_
        rw [TyK, if_neg (by omega), if_neg (by omega), if_neg (by omega)]
        refine ⟨a, rfl, ?_⟩
        rw [if_pos (by omega), TyK]
theorem then_gd {tp : Int → Int} {tl nw ty x s k : Int} {a : PR} {f : Int → Int → Itm → PR} (h : ∀ s' k' it, a = .ok (s', k', it) → GdR tp tl nw ty x s k (f s' k' it)) : GdR tp tl nw ty x s k (thenL a f) := by
  unfold thenL
  cases e : a with
  | error z => intro _ _ _ y; cases y
  | ok v =>
    obtain ⟨s', k', it⟩ := v
    exact h s' k' it e
theorem mulO_o {tp : Int → Int} {tl : Int} : ∀ s, mulO tp tl s = -1 ∨ (5 ≤ mulO tp tl s ∧ mulO tp tl s ≤ 9 ∧ s < tl) := fun s => by
  unfold mulO
  by_cases c1 : sgB tp tl s 42 = true
  · rw [if_pos c1]; exact Or.inr ⟨by omega, by omega, sg_lt c1⟩
  rw [if_neg c1]
  by_cases c2 : sgB tp tl s 47 = true
  · rw [if_pos c2]; exact Or.inr ⟨by omega, by omega, sg_lt c2⟩
  rw [if_neg c2]
  by_cases c3 : sgB tp tl s 37 = true
  · rw [if_pos c3]; exact Or.inr ⟨by omega, by omega, sg_lt c3⟩
  rw [if_neg c3]; exact Or.inl rfl
theorem addO_o {tp : Int → Int} {tl : Int} : ∀ s, addO tp tl s = -1 ∨ (5 ≤ addO tp tl s ∧ addO tp tl s ≤ 9 ∧ s < tl) := fun s => by
  unfold addO
  by_cases c1 : sgB tp tl s 43 = true
  · rw [if_pos c1]; exact Or.inr ⟨by omega, by omega, sg_lt c1⟩
  rw [if_neg c1]
  by_cases c2 : sgB tp tl s 45 = true
  · rw [if_pos c2]; exact Or.inr ⟨by omega, by omega, sg_lt c2⟩
  rw [if_neg c2]; exact Or.inl rfl
theorem tm_gd {tp : Int → Int} {tl nw : Int} {pt : Int → Int → PR} (h : GdF tp tl nw 0 pt) : GdF tp tl nw 0 (tmR tp tl pt) := fun s k hs => then_gd (fun s' k' it e => by
  have g := h s k hs
  rw [e] at g
  exact bnL_gd h mulO_o _ s k s' k' it (g s' k' it rfl).2.1 g)
theorem sm_gd {tp : Int → Int} {tl nw : Int} {pt : Int → Int → PR} (h : GdF tp tl nw 0 pt) : GdF tp tl nw 0 (smR tp tl pt) := fun s k hs => then_gd (fun s' k' it e => by
  have g := tm_gd h s k hs
  rw [e] at g
  exact bnL_gd (tm_gd h) addO_o _ s k s' k' it (g s' k' it rfl).2.1 g)
theorem br_gd {tp : Int → Int} {tl nw ty cl : Int} {rd : Int → Int → PR} (h : GdF tp tl nw ty rd) : ∀ s k, s < tl → GdR tp tl nw ty 1 s k (brR tp tl rd cl s k) := fun s k hs => then_gd (fun s' k' it e => by
  have nx := nx_bd (tp := tp) (show s ≤ tl by omega)
  have g := h (nxS tp tl s) k nx.1
  rw [e] at g
  obtain ⟨a1, a2, a3, a4, a5, a6, a7, a8, a9⟩ := g s' k' it rfl
  intro s2 k2 it2 y
  by_cases c : sgB tp tl s' cl = true
  · rw [if_pos c] at y
    cases y
    have n2 := nx_bd (tp := tp) a2
    exact ⟨by omega, n2.1, a3, by omega, a5, a6, a7, by omega, a9⟩
  · rw [if_neg c] at y; cases y)
theorem pt_gd {tp : Int → Int} {tl : Int} {od : Bool} : ∀ D : Nat, GdF tp tl (nwO od) 0 (ptR tp tl od D)
  | 0 => fun s k hs => by
    rw [ptR]
    by_cases c : sgB tp tl s 91 = true
    · rw [if_pos c]; intro _ _ _ y; cases y
    · rw [if_neg c]; exact lf_gd hs
  | D + 1 => fun s k hs => by
    rw [ptR]
    by_cases c : sgB tp tl s 91 = true
    · rw [if_pos c]; exact (br_gd (sm_gd (pt_gd D)) s k (sg_lt c)).w
    · rw [if_neg c]; exact lf_gd hs
theorem cm_gd {tp : Int → Int} {tl nw : Int} {sm : Int → Int → PR} (h : GdF tp tl nw 0 sm) : ∀ s k, s ≤ tl → GdR tp tl nw 1 1 s k (cmR tp tl sm s k) := fun s k hs => then_gd (fun s' k' a e => by
  have g := h s k hs
  rw [e] at g
  obtain ⟨a1, a2, a3, a4, a5, a6, a7, a8, a9⟩ := g s' k' a rfl
  by_cases c : cmpO tp tl s' = -1
  · rw [if_pos c]; intro _ _ _ y; cases y
  rw [if_neg c]
  have co : 10 ≤ cmpO tp tl s' ∧ cmpO tp tl s' ≤ 12 ∧ s' < tl := by
    unfold cmpO at c ⊢
    by_cases c1 : sgB tp tl s' 60 = true
    · rw [if_pos c1]; exact ⟨by omega, by omega, sg_lt c1⟩
    rw [if_neg c1] at c ⊢
    by_cases c2 : sgB tp tl s' 62 = true
    · rw [if_pos c2]; exact ⟨by omega, by omega, sg_lt c2⟩
    rw [if_neg c2] at c ⊢
    by_cases c3 : sgB tp tl s' 61 = true
    · rw [if_pos c3]; exact ⟨by omega, by omega, sg_lt c3⟩
    · rw [if_neg c3] at c; exact absurd rfl c
  refine then_gd (fun s2 k2 b e2 => ?_)
  have nx := nx_bd (tp := tp) a2
  have g2 := h (nxS tp tl s') k' nx.1
  rw [e2] at g2
  obtain ⟨b1, b2, b3, b4, b5, b6, b7, b8, b9⟩ := g2 s2 k2 b rfl
  intro s3 k3 it y
  cases y
  have sz : szM (cmpO tp tl s', 0) = 1 := by unfold szM; rw [if_neg (by simp only; omega)]
  refine ⟨by omega, b2, ⟨by omega, b3.2⟩, ?_, WfI_app _ _ (WfI_app _ _ a5 b5) ⟨fun z => by simp only at z; omega, trivial⟩, okK_app (okK_app a6 b6) (okK_one ⟨by simp only; omega, by simp only; omega, fun z => by simp only at z; omega, fun z => by simp only at z; omega, fun _ => Int.le_refl _⟩), ?_, ?_, fun q => ?_⟩
  · rw [lnM_app, lnM_app]
    show lnM a + lnM b + (szM (cmpO tp tl s', 0) + 0) ≤ _
    omega
  · rw [lvK_app, lvK_app]
    show ((lvK a + lvK b + ((if cmpO tp tl s' ≤ 1 then 1 else 0) + 0) : Nat) : Int) = _
    rw [if_neg (by omega)]
    omega
  · rw [List.length_append, List.length_append]
    show ((a.length + b.length + 1 : Nat) : Int) + 1 ≤ _
    omega
  · refine TyK_app _ _ _ q (0 :: 0 :: q) (1 :: q) (Nat.le_refl _) (TyK_app _ _ _ q (0 :: q) (0 :: 0 :: q) (Nat.le_refl _) (a9 q) (b9 (0 :: q))) ?_
    rw [TyK, if_neg (by omega), if_neg (by omega), if_neg (by omega)]
    refine ⟨q, rfl, ?_⟩
    rw [if_neg (by omega), TyK])
theorem jm_gd {tp : Int → Int} {tl nw o : Int} {w : Nat} {rd : Int → Int → PR} (ho : o = 3 ∨ o = 4) (hr : GdF tp tl nw 1 rd) : ∀ (n : Nat) (s0 k0 s k : Int) (it : Itm), s ≤ tl → GdR tp tl nw 1 0 s0 k0 (.ok (s, k, it)) → GdR tp tl nw 1 0 s0 k0 (jmL tp tl w o rd n s k it)
  | 0, s0, k0, s, k, it, hs, h => h
  | n + 1, s0, k0, s, k, it, hs, h => by
    rw [jmL]
    by_cases c : wdB tp tl s w = true
    rotate_left
    · rw [if_neg c]; exact h
    rw [if_pos c]
    have st := wd_lt c
    have nx := nx_bd (tp := tp) hs
    have g := hr (nxS tp tl s) k nx.1
    cases e : rd (nxS tp tl s) k with
    | error z => intro _ _ _ y; cases y
    | ok v =>
      obtain ⟨s2, k2, it2⟩ := v
      rw [e] at g
      obtain ⟨a1, a2, a3, a4, a5, a6, a7, a8, a9⟩ := g s2 k2 it2 rfl
      obtain ⟨b1, b2, b3, b4, b5, b6, b7, b8, b9⟩ := h s k it rfl
      simp only
      refine jm_gd ho hr n s0 k0 s2 k2 _ a2 (fun s' k' it' y => ?_)
      cases y
      have sz : szM (o, (it2.length : Int)) = 1 := by unfold szM; rw [if_neg (by simp only; omega)]
      refine ⟨by omega, a2, ⟨by omega, a3.2⟩, ?_, WfI_app _ _ b5 ⟨fun _ => ⟨by simp only; omega, by simp only; omega⟩, a5⟩, okK_app b6 (fun q hq => ?_), ?_, ?_, fun a => ?_⟩
      · rw [lnM_app]
        show lnM it + (szM (o, (it2.length : Int)) + lnM it2) ≤ _
        omega
      · rcases List.mem_cons.1 hq with z | z
        · rw [z]; exact ⟨by simp only; omega, by simp only; omega, fun y => by simp only at y; omega, fun y => by simp only at y; omega, fun _ => by simp only; omega⟩
        · exact a6 q z
      · rw [lvK_app]
        show ((lvK it + ((if o ≤ 1 then 1 else 0) + lvK it2) : Nat) : Int) = _
        rw [if_neg (by omega)]
        omega
      · rw [List.length_append, List.length_cons]
        omega
      · refine TyK_app _ _ _ a (1 :: a) (1 :: a) (Nat.le_refl _) (b9 a) ?_
        rw [TyK, if_neg (by omega), if_neg (by omega), if_pos ho]
        refine ⟨a, rfl, by omega, ?_, ?_⟩
        · rw [show ((it2.length : Int)).toNat = it2.length by omega, List.take_length]; exact a9 a
        · rw [show ((it2.length : Int)).toNat = it2.length by omega, List.drop_length, TyK]
theorem bo_gd {tp : Int → Int} {tl nw : Int} {pl : Int → Int → PR} (h : GdF tp tl nw 1 pl) : GdF tp tl nw 1 (boR tp tl pl) := fun s k hs => then_gd (fun s' k' it e => by
  have g := h s k hs
  rw [e] at g
  exact jm_gd (Or.inr rfl) h _ s k s' k' it (g s' k' it rfl).2.1 g)
theorem ts_gd {tp : Int → Int} {tl nw : Int} {pl : Int → Int → PR} (h : GdF tp tl nw 1 pl) : GdF tp tl nw 1 (tsR tp tl pl) := fun s k hs => then_gd (fun s' k' it e => by
  have g := bo_gd h s k hs
  rw [e] at g
  exact jm_gd (Or.inl rfl) (bo_gd h) _ s k s' k' it (g s' k' it rfl).2.1 g)
theorem nt_bd {tp : Int → Int} {tl : Int} : ∀ (n : Nat) (s : Int), s ≤ tl → 0 ≤ (ntK tp tl n s).1 ∧ (ntK tp tl n s).1 ≤ (ntK tp tl n s).2 - s ∧ (ntK tp tl n s).2 ≤ tl
  | 0, s, hs => ⟨Int.le_refl _, by show (0 : Int) ≤ s - s; omega, hs⟩
  | n + 1, s, hs => by
    rw [ntK]
    by_cases c : wdB tp tl s 8 = true
    · rw [if_pos c]
      have st := wd_lt c
      have nx := nx_bd (tp := tp) hs
      have ih := nt_bd (tp := tp) (tl := tl) n (nxS tp tl s) nx.1
      simp only
      omega
    · rw [if_neg c]
      refine ⟨Int.le_refl _, ?_, hs⟩
      show (0 : Int) ≤ s - s
      omega
theorem pl_end {tp : Int → Int} {tl nw s s1 k c : Int} {a : PR} (hs : s ≤ tl) (hc : 0 ≤ c ∧ c ≤ s1 - s) (h1 : s1 ≤ tl) (h : GdR tp tl nw 1 1 s1 k a) : GdR tp tl nw 1 0 s k (thenL a (fun s2 k2 it => .ok (s2, k2, it ++ [(2, c)]))) := then_gd (fun s' k' it e => by
  rw [e] at h
  obtain ⟨a1, a2, a3, a4, a5, a6, a7, a8, a9⟩ := h s' k' it rfl
  intro s2 k2 it2 y
  cases y
  have sz : szM ((2 : Int), c) = c := by unfold szM; rw [if_pos rfl]
  refine ⟨by omega, a2, a3, ?_, WfI_app _ _ a5 ⟨fun z => by simp only at z; omega, trivial⟩, okK_app a6 (okK_one ⟨by simp only; omega, by simp only; omega, fun z => by simp only at z; omega, fun z => by simp only at z; omega, fun _ => hc.1⟩), ?_, ?_, fun q => ?_⟩
  · rw [lnM_app]
    show lnM it + (szM (2, c) + 0) ≤ _
    omega
  · rw [lvK_app]
    show ((lvK it + ((if (2 : Int) ≤ 1 then 1 else 0) + 0) : Nat) : Int) = _
    rw [if_neg (by omega)]
    omega
  · rw [List.length_append]
    show ((it.length + 1 : Nat) : Int) + 0 ≤ _
    omega
  · refine TyK_app _ _ _ q (1 :: q) (1 :: q) (Nat.le_refl _) (a9 q) ?_
    rw [TyK, if_neg (by omega), if_pos rfl]
    exact ⟨⟨q, rfl⟩, by rw [TyK]⟩)
theorem pl_gd {tp : Int → Int} {tl : Int} {od : Bool} : ∀ D : Nat, GdF tp tl (nwO od) 1 (plR tp tl od D)
  | 0 => fun s k hs => by
    have nb := nt_bd (tp := tp) (tl := tl) (tl - s).toNat s hs
    rw [plR]
    refine pl_end hs ⟨nb.1, nb.2.1⟩ nb.2.2 ?_
    by_cases c : sgB tp tl (ntS tp tl s).2 40 = true
    · rw [if_pos c]; intro _ _ _ y; cases y
    · rw [if_neg c]; exact cm_gd (sm_gd (pt_gd 0)) _ k nb.2.2
  | D + 1 => fun s k hs => by
    have nb := nt_bd (tp := tp) (tl := tl) (tl - s).toNat s hs
    rw [plR]
    refine pl_end hs ⟨nb.1, nb.2.1⟩ nb.2.2 ?_
    by_cases c : sgB tp tl (ntS tp tl s).2 40 = true
    · rw [if_pos c]; exact br_gd (ts_gd (pl_gd D)) _ k (sg_lt c)
    · rw [if_neg c]; exact cm_gd (sm_gd (pt_gd (D + 1))) _ k nb.2.2
