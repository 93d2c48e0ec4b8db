/-! The reference's reader: a pile of operations, and that it reads what the descent reads. -/
/-- an item in the reference's code, from there on -/
def rw1 (we : Int → Int × Int) (pos : Int) (q : Int × Int) (r : Itm) : Itm := if q.1 = 0 then [(0, q.2)] else if q.1 = 1 then [we q.2] else if q.1 = 2 then List.replicate q.2.toNat (28, 0) else if q.1 = 3 then [(30, pos + 1 + lnM (r.take q.2.toNat))] else if q.1 = 4 then [(29, pos + 1 + lnM (r.take q.2.toNat))] else [(q.1 + 15, 0)]
def rwL (we : Int → Int × Int) : Int → Itm → Itm
  | _, [] => []
  | pos, q :: r => rw1 we pos q r ++ rwL we (pos + szM q) r
theorem rw_app {we : Int → Int × Int} : ∀ (a b : Itm) (pos : Int), WfI a → rwL we pos (a ++ b) = rwL we pos a ++ rwL we (pos + lnM a) b
  | [], b, pos, _ => by
    show rwL we pos b = [] ++ rwL we (pos + 0) b
    rw [Int.add_zero]; rfl
  | q :: r, b, pos, h => by
    have e1 : rw1 we pos q (r ++ b) = rw1 we pos q r := by
      unfold rw1
      by_cases c : q.1 = 3 ∨ q.1 = 4
      · rw [List.take_append_of_le_length (h.1 c).2]
      · rw [if_neg (fun z : q.1 = 3 => c (Or.inl z)), if_neg (fun z : q.1 = 4 => c (Or.inr z)), if_neg (fun z : q.1 = 3 => c (Or.inl z)), if_neg (fun z : q.1 = 4 => c (Or.inr z))]
    rw [List.cons_append, rwL, rwL, rw_app r b _ h.2, List.append_assoc, e1, show pos + lnM (q :: r) = pos + szM q + lnM r by rw [lnM]; omega]
theorem rw_len {we : Int → Int × Int} {nw : Int} : ∀ (a : Itm) (pos : Int), okK nw a → ((rwL we pos a).length : Int) = lnM a
  | [], pos, _ => rfl
  | q :: r, pos, h => by
    have ih := rw_len (we := we) (nw := nw) r (pos + szM q) (fun z hz => h z (List.mem_cons_of_mem _ hz))
    have h2 := h q List.mem_cons_self
    have one : ((rw1 we pos q r).length : Int) = szM q := by
      unfold rw1 szM
      by_cases c : q.1 = 2
      · rw [if_neg (by omega), if_neg (by omega), if_pos c, if_pos c, List.length_replicate]
        omega
      · rw [if_neg c, if_neg c]
        repeat' split
        all_goals rfl
    rw [rwL, lnM, List.length_append]
    omega
/-- how an operation binds -/
def bdO (op : Int) : Int := if 31 ≤ op then 0 else if op = 30 then 1 else if op = 29 then 2 else if op = 28 then 3 else if 25 ≤ op then 4 else if 22 ≤ op then 6 else 5
def set1 (c : Itm) (q : Int × Int) : Itm := if q.1 = 29 ∨ q.1 = 30 then c.modify q.2.toNat (fun z => (z.1, (c.length : Int))) else c ++ [(q.1, 0)]
def stl (l : Int) : Itm → Itm → Itm × Itm
  | c, [] => (c, [])
  | c, q :: P => if l ≤ bdO q.1 then stl l (set1 c q) P else (c, q :: P)
def inn : Itm → Int
  | [] => -1
  | q :: P => if 31 ≤ q.1 then q.1 else inn P
def isC : Itm → Bool
  | [] => false
  | q :: P => if 20 ≤ q.1 ∧ q.1 ≤ 24 then isC P else decide (25 ≤ q.1 ∧ q.1 ≤ 27)
def opn : Itm → Int
  | [] => 0
  | q :: P => (if 31 ≤ q.1 then 1 else 0) + opn P
def opS (tp : Int → Int) (tl s : Int) : Int := if addO tp tl s ≠ -1 then addO tp tl s + 15 else if mulO tp tl s ≠ -1 then mulO tp tl s + 15 else -1
abbrev SR : Type := Except Int (Int × Int × Itm)
/-- the reference's loop: turn 0 a plain test, 1 a part, 2 behind a test, 3 behind a sum -/
def sy (tp : Int → Int) (tl : Int) (od te : Bool) (we : Int → Int × Int) : Nat → Int → Itm → Itm → Int → Int → Option SR
  | 0, _, _, _, _, _ => none
  | n + 1, t, c, P, s, k =>
    if t = 0 ∧ wdB tp tl s 8 = true then sy tp tl od te we n 0 c ((28, 0) :: P) (nxS tp tl s) k
    else if t = 0 ∧ sgB tp tl s 40 = true then (if opn P < 8 then sy tp tl od te we n 0 c ((31, 0) :: P) (nxS tp tl s) k else some (.error s))
    else if t ≤ 1 then (
      if sgB tp tl s 91 = true then (if opn P < 8 then sy tp tl od te we n 1 c ((32, 0) :: P) (nxS tp tl s) k else some (.error s))
      else match lfR tp tl od s k with
        | .error e => some (.error e)
        | .ok (s', k', it) => sy tp tl od te we n 3 (c ++ rwL we c.length it) P s' k')
    else if t = 3 then (
      if opS tp tl s ≠ -1 then sy tp tl od te we n 1 (stl (bdO (opS tp tl s)) c P).1 ((opS tp tl s, 0) :: (stl (bdO (opS tp tl s)) c P).2) (nxS tp tl s) k
      else if inn P = 32 then (if sgB tp tl s 93 = true then sy tp tl od te we n 3 (stl 5 c P).1 (stl 5 c P).2.tail (nxS tp tl s) k else some (.error s))
      else if inn P = -1 ∧ te = false then some (.ok (s, k, (stl 1 c P).1))
      else if isC P = true then sy tp tl od te we n 2 c P s k
      else if cmpO tp tl s = -1 then some (.error s)
      else sy tp tl od te we n 1 (stl 5 c P).1 ((cmpO tp tl s + 15, 0) :: (stl 5 c P).2) (nxS tp tl s) k)
    else (
      if wdB tp tl s 7 = true then sy tp tl od te we n 0 ((stl 2 c P).1 ++ [(29, 0)]) ((29, ((stl 2 c P).1.length : Int)) :: (stl 2 c P).2) (nxS tp tl s) k
      else if wdB tp tl s 6 = true then sy tp tl od te we n 0 ((stl 1 c P).1 ++ [(30, 0)]) ((30, ((stl 1 c P).1.length : Int)) :: (stl 1 c P).2) (nxS tp tl s) k
      else if inn P = -1 then some (.ok (s, k, (stl 1 c P).1))
      else if sgB tp tl s 41 = true then sy tp tl od te we n 2 (stl 1 c P).1 (stl 1 c P).2.tail (nxS tp tl s) k
      else some (.error s))
section
variable {tp : Int → Int} {tl : Int} {od te : Bool} {we : Int → Int × Int}
def Rn (tp : Int → Int) (tl : Int) (od te : Bool) (we : Int → Int × Int) (t : Int) (c P : Itm) (s k : Int) (R : SR) : Prop := ∃ n, sy tp tl od te we n t c P s k = some R
/-- what is to be shown behind a reading -/
def Af (r : PR) (R : SR) (f : Int → Int → Itm → Prop) : Prop := match r with
  | .error e => R = .error e
  | .ok (s, k, it) => f s k it
theorem stl_c {l : Int} {c P : Itm} {q : Int × Int} (h : l ≤ bdO q.1) : stl l c (q :: P) = stl l (set1 c q) P := by rw [stl, if_pos h]
/-- nothing to settle -/
def Tp (l : Int) (P : Itm) : Prop := ∀ q r, P = q :: r → bdO q.1 < l
theorem stl_n {l : Int} {c P : Itm} (h : Tp l P) : stl l c P = (c, P) := by
  cases P with
  | nil => rfl
  | cons q r => rw [stl, if_neg (by have := h q r rfl; omega)]
theorem inn_c {q : Int × Int} {P : Itm} (h : q.1 < 31) : inn (q :: P) = inn P := by rw [inn, if_neg (by omega)]
theorem inn_b {q : Int × Int} {P : Itm} (h : 31 ≤ q.1) : inn (q :: P) = q.1 := by rw [inn, if_pos h]
/-- behind a test: an operation on the pile may be settled at once -/
theorem lz2 {n : Nat} {c P : Itm} {q : Int × Int} {s k : Int} (h0 : q.1 < 31) (h1 : 1 ≤ bdO q.1) (h2 : 2 ≤ bdO q.1 ∨ wdB tp tl s 7 = false) : sy tp tl od te we n 2 c (q :: P) s k = sy tp tl od te we n 2 (set1 c q) P s k := by
  cases n with
  | zero => rfl
  | succ n =>
    rw [sy, sy]
    simp only [show ¬ ((2 : Int) = 0 ∧ wdB tp tl s 8 = true) from fun z => by omega, show ¬ ((2 : Int) = 0 ∧ sgB tp tl s 40 = true) from fun z => by omega, show ¬ ((2 : Int) ≤ 1) by omega, show ¬ ((2 : Int) = 3) by omega, if_false]
    rw [stl_c h1, inn_c h0]
    by_cases c7 : wdB tp tl s 7 = true
    · rw [if_pos c7, if_pos c7]
      have h2' : 2 ≤ bdO q.1 := by
        rcases h2 with z | z
        · exact z
        · rw [c7] at z; cases z
      rw [stl_c h2']
    · rw [if_neg c7, if_neg c7]
theorem mul_no {s : Int} (h : mulO tp tl s = -1) (h2 : addO tp tl s = -1) : opS tp tl s = -1 := by
  unfold opS
  rw [if_neg (by omega), if_neg (by omega)]
/-- behind a sum -/
theorem lz3 {n : Nat} {c P : Itm} {q : Int × Int} {s k : Int} (h0 : 20 ≤ q.1 ∧ q.1 ≤ 24) (h2 : bdO q.1 = 6 ∨ (bdO q.1 = 5 ∧ mulO tp tl s = -1)) : sy tp tl od te we n 3 c (q :: P) s k = sy tp tl od te we n 3 (set1 c q) P s k := by
  cases n with
  | zero => rfl
  | succ n =>
    rw [sy, sy]
    simp only [show ¬ ((3 : Int) = 0 ∧ wdB tp tl s 8 = true) from fun z => by omega, show ¬ ((3 : Int) = 0 ∧ sgB tp tl s 40 = true) from fun z => by omega, show ¬ ((3 : Int) ≤ 1) by omega, if_false, if_true]
    have i1 : isC (q :: P) = isC P := by rw [isC, if_pos h0]
    have l5 : (5 : Int) ≤ bdO q.1 := by omega
    rw [stl_c l5, inn_c (by omega), i1, stl_c (show (1 : Int) ≤ bdO q.1 by omega)]
    have e2 : sy tp tl od te we n 2 c (q :: P) s k = sy tp tl od te we n 2 (set1 c q) P s k := lz2 (by omega) (by omega) (Or.inl (by omega))
    rw [e2]
    by_cases c7 : opS tp tl s = -1
    · have c8 : ¬ (opS tp tl s ≠ -1) := fun z => z c7
      rw [if_neg c8, if_neg c8]
    · have c8 : opS tp tl s ≠ -1 := c7
      rw [if_pos c8, if_pos c8]
      have lo : bdO (opS tp tl s) ≤ bdO q.1 := by
        have b : bdO (opS tp tl s) ≤ 6 ∧ (mulO tp tl s = -1 → bdO (opS tp tl s) ≤ 5) := by
          unfold opS at c7 ⊢
          unfold addO mulO bdO at *
          repeat' split
          all_goals first | omega | (simp_all; done) | skip
          all_goals (constructor <;> intros <;> first | omega | simp_all)
        omega
      rw [stl_c lo]
end
section
variable {tp : Int → Int} {tl nw : Int} {od te : Bool} {we : Int → Int × Int}
theorem rw_cat {c a b : Itm} (w : WfI a) (ok : okK nw a) : (c ++ rwL we c.length a) ++ rwL we ((c ++ rwL we c.length a).length : Int) b = c ++ rwL we c.length (a ++ b) := by
  rw [rw_app a b _ w, List.append_assoc, List.length_append]
  have := rw_len (we := we) a (c.length : Int) ok
  rw [show ((c.length + (rwL we c.length a).length : Nat) : Int) = (c.length : Int) + lnM a by omega]
theorem bn_gen {op : Int → Int} {rd : Int → Int → PR} {inv : Int → Prop} {P c : Itm} {R : SR} (hr : GdF tp tl nw 0 rd) (ho : ∀ s, op s = -1 ∨ (5 ≤ op s ∧ op s ≤ 9 ∧ s < tl))
    (hstep : ∀ (c : Itm) (s k : Int), s ≤ tl → inv s → op s ≠ -1 → Rn tp tl od te we 1 c ((op s + 15, 0) :: P) (nxS tp tl s) k R → Rn tp tl od te we 3 c P s k R)
    (hrd : ∀ (c : Itm) (s0 s k : Int), s ≤ tl → op s0 ≠ -1 → Af (rd s k) R (fun s' k' it => inv s' → Rn tp tl od te we 3 (c ++ rwL we c.length it) ((op s0 + 15, 0) :: P) s' k' R) → Rn tp tl od te we 1 c ((op s0 + 15, 0) :: P) s k R)
    (hlz : ∀ (c : Itm) (s0 s k : Int), op s0 ≠ -1 → inv s → Rn tp tl od te we 3 (c ++ [(op s0 + 15, 0)]) P s k R → Rn tp tl od te we 3 c ((op s0 + 15, 0) :: P) s k R) :
    ∀ (n : Nat) (it : Itm) (s k : Int), s ≤ tl → inv s → WfI it → okK nw it → (tl - s).toNat ≤ n → Af (bnL tp tl op rd n s k it) R (fun s' k' it' => inv s' → op s' = -1 → Rn tp tl od te we 3 (c ++ rwL we c.length it') P s' k' R) → Rn tp tl od te we 3 (c ++ rwL we c.length it) P s k R
  | 0, it, s, k, hs, iv, wf, ok, hn, h => h iv (by have := ho s; omega)
  | n + 1, it, s, k, hs, iv, wf, ok, hn, h => by
    rw [bnL] at h
    by_cases co : op s = -1
    · rw [if_pos co] at h; exact h iv co
    rw [if_neg co] at h
    have o := ho s
    have nx := nx_bd (tp := tp) hs
    refine hstep _ s k hs iv co (hrd _ s _ _ nx.1 co ?_)
    have g := hr (nxS tp tl s) k nx.1
    cases e : rd (nxS tp tl s) k with
    | error z => rw [e] at h; exact h
    | ok v =>
      obtain ⟨s2, k2, it2⟩ := v
      rw [e] at g h
      obtain ⟨a1, a2, a3, a4, a5, a6, a7, a8, a9⟩ := g s2 k2 it2 rfl
      simp only at h
      show inv s2 → _
      intro iv2
      refine hlz _ s s2 k2 co iv2 ?_
      have ok1 : okK nw [(op s, (0 : Int))] := okK_one ⟨by simp only; omega, by simp only; omega, fun z => by simp only at z; omega, fun z => by simp only at z; omega, fun _ => Int.le_refl _⟩
      have e1 : c ++ rwL we c.length it ++ rwL we ((c ++ rwL we c.length it).length : Int) it2 ++ [(op s + 15, 0)] = c ++ rwL we c.length (it ++ it2 ++ [(op s, 0)]) := by
        rw [rw_cat wf ok, ← rw_cat (WfI_app _ _ wf a5) (okK_app ok a6)]
        congr 1
        rw [rwL, rwL, rw1, if_neg (by simp only; omega), if_neg (by simp only; omega), if_neg (by simp only; omega), if_neg (by simp only; omega), if_neg (by simp only; omega)]
        rfl
      rw [e1]
      exact bn_gen hr ho hstep hrd hlz n _ s2 k2 a2 iv2 (WfI_app _ _ (WfI_app _ _ wf a5) ⟨fun z => by simp only at z; omega, trivial⟩) (okK_app (okK_app ok a6) ok1) (by omega) h
/-- a part, read -/
def PtP (tp : Int → Int) (tl : Int) (od te : Bool) (we : Int → Int × Int) (pt : Int → Int → PR) (o : Int) : Prop := ∀ (c P : Itm) (s k : Int) (R : SR), s ≤ tl → opn P = o → Af (pt s k) R (fun s' k' it => Rn tp tl od te we 3 (c ++ rwL we c.length it) P s' k' R) → Rn tp tl od te we 1 c P s k R
theorem op_bd {s : Int} : (addO tp tl s ≠ -1 → opS tp tl s = addO tp tl s + 15 ∧ mulO tp tl s = -1 ∧ bdO (addO tp tl s + 15) = 5 ∧ 20 ≤ addO tp tl s + 15 ∧ addO tp tl s + 15 ≤ 24) ∧ (mulO tp tl s ≠ -1 → opS tp tl s = mulO tp tl s + 15 ∧ addO tp tl s = -1 ∧ bdO (mulO tp tl s + 15) = 6 ∧ 20 ≤ mulO tp tl s + 15 ∧ mulO tp tl s + 15 ≤ 24) := by
  have sg : ∀ a b : Int, a ≠ b → sgB tp tl s a = true → sgB tp tl s b = true → False := fun a b n x y => by
    have x1 := (of_decide_eq_true x).2
    have y1 := (of_decide_eq_true y).2
    omega
  have am : addO tp tl s ≠ -1 → mulO tp tl s = -1 := fun h => by
    unfold addO at h
    have : ∃ a : Int, (a = 43 ∨ a = 45) ∧ sgB tp tl s a = true := by
      by_cases c1 : sgB tp tl s 43 = true
      · exact ⟨43, Or.inl rfl, c1⟩
      rw [if_neg c1] at h
      by_cases c2 : sgB tp tl s 45 = true
      · exact ⟨45, Or.inr rfl, c2⟩
      rw [if_neg c2] at h; exact absurd rfl h
    obtain ⟨a, ha, hsg⟩ := this
    unfold mulO
    rw [if_neg (fun z => sg a 42 (by omega) hsg z), if_neg (fun z => sg a 47 (by omega) hsg z), if_neg (fun z => sg a 37 (by omega) hsg z)]
  have a5 : addO tp tl s = -1 ∨ addO tp tl s = 5 ∨ addO tp tl s = 6 := by
    unfold addO
    repeat' split
    all_goals omega
  have m7 : mulO tp tl s = -1 ∨ mulO tp tl s = 7 ∨ mulO tp tl s = 8 ∨ mulO tp tl s = 9 := by
    unfold mulO
    repeat' split
    all_goals omega
  constructor
  · intro h
    refine ⟨by unfold opS; rw [if_pos h], am h, ?_, by omega, by omega⟩
    unfold bdO
    rw [if_neg (by omega), if_neg (by omega), if_neg (by omega), if_neg (by omega), if_neg (by omega), if_neg (by omega)]
  · intro h
    have na : addO tp tl s = -1 := by
      by_cases z : addO tp tl s = -1
      · exact z
      · exact absurd (am z) h
    refine ⟨by unfold opS; rw [if_neg (fun z => z na), if_pos h], na, ?_, by omega, by omega⟩
    unfold bdO
    rw [if_neg (by omega), if_neg (by omega), if_neg (by omega), if_neg (by omega), if_neg (by omega), if_pos (by omega)]
theorem st3 {c P : Itm} {s k : Int} {R : SR} (h : opS tp tl s ≠ -1) (ht : Tp (bdO (opS tp tl s)) P) (g : Rn tp tl od te we 1 c ((opS tp tl s, 0) :: P) (nxS tp tl s) k R) : Rn tp tl od te we 3 c P s k R := by
  obtain ⟨n, g⟩ := g
  refine ⟨n + 1, ?_⟩
  rw [sy]
  simp only [show ¬ ((3 : Int) = 0 ∧ wdB tp tl s 8 = true) from fun z => by omega, show ¬ ((3 : Int) = 0 ∧ sgB tp tl s 40 = true) from fun z => by omega, show ¬ ((3 : Int) ≤ 1) by omega, if_false, if_true]
  rw [if_pos h, stl_n ht]
  exact g
theorem set1_op {c : Itm} {o : Int} (h : 20 ≤ o ∧ o ≤ 28) : set1 c (o, 0) = c ++ [(o, 0)] := by
  unfold set1
  rw [if_neg (by simp only; omega)]
theorem sy_tm {pt : Int → Int → PR} {o : Int} (hg : GdF tp tl nw 0 pt) (hp : PtP tp tl od te we pt o) {c P : Itm} {s k : Int} {R : SR} (hs : s ≤ tl) (ho : opn P = o) (ht : Tp 6 P) (h : Af (tmR tp tl pt s k) R (fun s' k' it => mulO tp tl s' = -1 → Rn tp tl od te we 3 (c ++ rwL we c.length it) P s' k' R)) : Rn tp tl od te we 1 c P s k R := by
  refine hp c P s k R hs ho ?_
  unfold tmR thenL at h
  have g := hg s k hs
  cases e : pt s k with
  | error z => rw [e] at h; exact h
  | ok v =>
    obtain ⟨s2, k2, it⟩ := v
    rw [e] at h g
    obtain ⟨a1, a2, a3, a4, a5, a6, a7, a8, a9⟩ := g s2 k2 it rfl
    refine bn_gen (op := mulO tp tl) (inv := fun _ => True) (nw := nw) hg mulO_o (fun c s k hs _ co g => ?_) (fun c s0 s k hs co h => ?_) (fun c s0 s k co _ g => ?_) _ it s2 k2 a2 trivial a5 a6 (Nat.le_refl _) ?_
    · have b := op_bd (tp := tp) (tl := tl) (s := s)
      obtain ⟨b1, b2, b3, b4⟩ := b.2 co
      rw [← b1] at g b3
      exact st3 (by omega) (by rw [b3]; exact ht) g
    · have b := (op_bd (tp := tp) (tl := tl) (s := s0)).2 co
      refine hp _ _ s k R hs (by rw [opn, if_neg (by simp only; omega)]; omega) ?_
      cases e : pt s k with
      | error z => rw [e] at h; exact h
      | ok v =>
        rw [e] at h
        exact h trivial
    · have b := (op_bd (tp := tp) (tl := tl) (s := s0)).2 co
      obtain ⟨n, g⟩ := g
      refine ⟨n, ?_⟩
      rw [lz3 (by simp only; omega) (Or.inl (by simp only; omega)), set1_op (by omega)]
      exact g
    · have : ∀ r : PR, Af r R (fun s' k' it => mulO tp tl s' = -1 → Rn tp tl od te we 3 (c ++ rwL we c.length it) P s' k' R) → Af r R (fun s' k' it' => True → mulO tp tl s' = -1 → Rn tp tl od te we 3 (c ++ rwL we c.length it') P s' k' R) := fun r h => by
        cases r with
        | error z => exact h
        | ok v => exact fun _ => h
      exact this _ h
theorem sy_sm {pt : Int → Int → PR} {o : Int} (hg : GdF tp tl nw 0 pt) (hp : PtP tp tl od te we pt o) {c P : Itm} {s k : Int} {R : SR} (hs : s ≤ tl) (ho : opn P = o) (ht : Tp 5 P) (h : Af (smR tp tl pt s k) R (fun s' k' it => mulO tp tl s' = -1 → addO tp tl s' = -1 → Rn tp tl od te we 3 (c ++ rwL we c.length it) P s' k' R)) : Rn tp tl od te we 1 c P s k R := by
  refine sy_tm hg hp hs ho (fun q r e => by have := ht q r e; omega) ?_
  unfold smR thenL at h
  have g := tm_gd hg s k hs
  cases e : tmR tp tl pt s k with
  | error z => rw [e] at h; exact h
  | ok v =>
    obtain ⟨s2, k2, it⟩ := v
    rw [e] at h g
    obtain ⟨a1, a2, a3, a4, a5, a6, a7, a8, a9⟩ := g s2 k2 it rfl
    show mulO tp tl s2 = -1 → _
    intro iv
    refine bn_gen (op := addO tp tl) (inv := fun s => mulO tp tl s = -1) (nw := nw) (tm_gd hg) addO_o (fun c s k hs _ co g => ?_) (fun c s0 s k hs co h => ?_) (fun c s0 s k co iv g => ?_) _ it s2 k2 a2 iv a5 a6 (Nat.le_refl _) h
    · have b := op_bd (tp := tp) (tl := tl) (s := s)
      obtain ⟨b1, b2, b3, b4⟩ := b.1 co
      rw [← b1] at g b3
      exact st3 (by omega) (by rw [b3]; exact ht) g
    · have b := (op_bd (tp := tp) (tl := tl) (s := s0)).1 co
      exact sy_tm hg hp hs (by rw [opn, if_neg (by simp only; omega)]; omega) (fun q r e => by cases e; simp only; omega) h
    · have b := (op_bd (tp := tp) (tl := tl) (s := s0)).1 co
      obtain ⟨n, g⟩ := g
      refine ⟨n, ?_⟩
      rw [lz3 (by simp only; omega) (Or.inr ⟨by simp only; omega, iv⟩), set1_op (by omega)]
      exact g
theorem st1 {c P : Itm} {s k t : Int} {R : SR} (h1 : t = 1 ∨ (t = 0 ∧ wdB tp tl s 8 = false ∧ sgB tp tl s 40 = false)) (g : Rn tp tl od te we 1 c P s k R) : Rn tp tl od te we t c P s k R := by
  rcases h1 with rfl | ⟨rfl, w, s⟩
  · exact g
  · obtain ⟨n, g⟩ := g
    refine ⟨n, ?_⟩
    cases n with
    | zero => cases g
    | succ n =>
      rw [sy] at g ⊢
      rw [if_neg (fun z => by omega), if_neg (fun z => by omega), if_pos (by omega)] at g
      rw [if_neg (fun z => by rw [w] at z; cases z.2), if_neg (fun z => by rw [s] at z; cases z.2), if_pos (by omega)]
      exact g
theorem sy_lf {c P : Itm} {s k : Int} {R : SR} (h1 : ¬ sgB tp tl s 91 = true) (h : Af (lfR tp tl od s k) R (fun s' k' it => Rn tp tl od te we 3 (c ++ rwL we c.length it) P s' k' R)) : Rn tp tl od te we 1 c P s k R := by
  have go : ∀ n, sy tp tl od te we (n + 1) 1 c P s k = match lfR tp tl od s k with
        | .error e => some (.error e)
        | .ok (s', k', it) => sy tp tl od te we n 3 (c ++ rwL we c.length it) P s' k' := fun n => by
    rw [sy, if_neg (fun z => by omega), if_neg (fun z => by omega), if_pos (by omega), if_neg h1]
  cases e : lfR tp tl od s k with
  | error z => rw [e] at h; exact ⟨1, by rw [go, e, h]⟩
  | ok v =>
    rw [e] at h
    obtain ⟨n, g⟩ := h
    exact ⟨n + 1, by rw [go, e]; exact g⟩
theorem sy_pt : ∀ D : Nat, PtP tp tl od te we (ptR tp tl od D) (8 - D)
  | 0 => fun c P s k R hs ho h => by
    rw [ptR] at h
    by_cases c1 : sgB tp tl s 91 = true
    · rw [if_pos c1] at h
      refine ⟨1, ?_⟩
      rw [sy, if_neg (fun z => by omega), if_neg (fun z => by omega), if_pos (by omega), if_pos c1, if_neg (by omega), h]
    · rw [if_neg c1] at h
      exact sy_lf c1 h
  | D + 1 => fun c P s k R hs ho h => by
    rw [ptR] at h
    by_cases c1 : sgB tp tl s 91 = true
    · rw [if_pos c1] at h
      have nx := nx_bd (tp := tp) hs
      have k1 : Rn tp tl od te we 1 c ((32, 0) :: P) (nxS tp tl s) k R := by
        refine sy_sm (nw := nwO od) (pt_gd D) (sy_pt D) nx.1 (by rw [opn, if_pos (by simp only; omega)]; omega) (fun q r e => by cases e; show bdO 32 < 5; decide) ?_
        unfold brR thenL at h
        cases e : smR tp tl (ptR tp tl od D) (nxS tp tl s) k with
        | error z => rw [e] at h; exact h
        | ok v =>
          obtain ⟨s2, k2, it⟩ := v
          rw [e] at h
          show mulO tp tl s2 = -1 → addO tp tl s2 = -1 → _
          intro m1 m2
          simp only at h
          have o1 := mul_no m1 m2
          have go : ∀ n, sy tp tl od te we (n + 1) 3 (c ++ rwL we c.length it) ((32, 0) :: P) s2 k2 = if sgB tp tl s2 93 = true then sy tp tl od te we n 3 (c ++ rwL we c.length it) P (nxS tp tl s2) k2 else some (.error s2) := fun n => by
            rw [sy]
            simp only [show ¬ ((3 : Int) = 0 ∧ wdB tp tl s2 8 = true) from fun z => by omega, show ¬ ((3 : Int) = 0 ∧ sgB tp tl s2 40 = true) from fun z => by omega, show ¬ ((3 : Int) ≤ 1) by omega, if_false, if_true]
            rw [if_neg (fun z : opS tp tl s2 ≠ -1 => z o1), if_pos (inn_b (by simp only; omega)), stl_n (fun q r e => by cases e; show bdO 32 < 5; decide)]
            rfl
          by_cases c2 : sgB tp tl s2 93 = true
          · rw [if_pos c2] at h
            obtain ⟨n, g⟩ := h
            exact ⟨n + 1, by rw [go, if_pos c2]; exact g⟩
          · rw [if_neg c2] at h
            exact ⟨1, by rw [go, if_neg c2, h]⟩
      obtain ⟨n, g⟩ := k1
      refine ⟨n + 1, ?_⟩
      rw [sy, if_neg (fun z => by omega), if_neg (fun z => by omega), if_pos (by omega), if_pos c1, if_pos (by omega)]
      exact g
    · rw [if_neg c1] at h
      exact sy_lf c1 h
end
section
variable {tp : Int → Int} {tl nw : Int} {od : Bool} {we : Int → Int × Int}
/-- a pile at which a plain test may begin -/
def PlO (P : Itm) : Prop := inn P ≠ 32 ∧ ∀ q r, P = q :: r → 28 ≤ q.1
theorem PlO.t5 {P : Itm} (h : PlO P) : Tp 4 P := fun q r e => by
  have := h.2 q r e
  unfold bdO
  repeat' split
  all_goals omega
theorem PlO.c {P : Itm} (h : PlO P) : isC P = false := by
  cases P with
  | nil => rfl
  | cons q r =>
    have := h.2 q r rfl
    rw [isC, if_neg (by omega)]
    exact decide_eq_false (by omega)
/-- one step behind a sum that ends -/
theorem go3 {n : Nat} {c P : Itm} {s k : Int} (m1 : mulO tp tl s = -1) (m2 : addO tp tl s = -1) (hi : inn P ≠ 32) : sy tp tl od true we (n + 1) 3 c P s k = if isC P = true then sy tp tl od true we n 2 c P s k else if cmpO tp tl s = -1 then some (.error s) else sy tp tl od true we n 1 (stl 5 c P).1 ((cmpO tp tl s + 15, 0) :: (stl 5 c P).2) (nxS tp tl s) k := by
  rw [sy]
  simp only [show ¬ ((3 : Int) = 0 ∧ wdB tp tl s 8 = true) from fun z => by omega, show ¬ ((3 : Int) = 0 ∧ sgB tp tl s 40 = true) from fun z => by omega, show ¬ ((3 : Int) ≤ 1) by omega, if_false, if_true]
  rw [if_neg (fun z : opS tp tl s ≠ -1 => z (mul_no m1 m2)), if_neg hi, if_neg (fun z => by cases z.2)]
theorem cmp_bd {s : Int} (h : cmpO tp tl s ≠ -1) : 10 ≤ cmpO tp tl s ∧ cmpO tp tl s ≤ 12 := by
  unfold cmpO at *
  repeat' split
  all_goals first | omega | skip
  simp_all
theorem sy_cm {pt : Int → Int → PR} {o : Int} (hg : GdF tp tl nw 0 pt) (hp : PtP tp tl od true we pt o) {c P : Itm} {s k : Int} {R : SR} (hs : s ≤ tl) (ho : opn P = o) (hP : PlO P) (h : Af (cmR tp tl (smR tp tl pt) s k) R (fun s' k' it => Rn tp tl od true we 2 (c ++ rwL we c.length it) P s' k' R)) : Rn tp tl od true we 1 c P s k R := by
  refine sy_sm hg hp hs ho (fun q r e => by have := hP.t5 q r e; omega) ?_
  unfold cmR thenL at h
  have g := sm_gd hg s k hs
  cases e : smR tp tl pt s k with
  | error z => rw [e] at h; exact h
  | ok v =>
    obtain ⟨s2, k2, a⟩ := v
    rw [e] at h g
    obtain ⟨a1, a2, a3, a4, a5, a6, a7, a8, a9⟩ := g s2 k2 a rfl
    show mulO tp tl s2 = -1 → addO tp tl s2 = -1 → _
    intro m1 m2
    simp only at h
    by_cases c1 : cmpO tp tl s2 = -1
    · rw [if_pos c1] at h
      exact ⟨1, by rw [go3 m1 m2 hP.1, hP.c, if_neg (by decide), if_pos c1, h]⟩
    rw [if_neg c1] at h
    have cb := cmp_bd c1
    have nx := nx_bd (tp := tp) a2
    have b4 : bdO (cmpO tp tl s2 + 15) = 4 := by
      unfold bdO
      rw [if_neg (by omega), if_neg (by omega), if_neg (by omega), if_neg (by omega), if_pos (by omega)]
    have k1 : Rn tp tl od true we 1 (c ++ rwL we c.length a) ((cmpO tp tl s2 + 15, 0) :: P) (nxS tp tl s2) k2 R := by
      refine sy_sm hg hp nx.1 (by rw [opn, if_neg (by simp only; omega)]; omega) (fun q r e => by cases e; simp only; omega) ?_
      have g2 := sm_gd hg (nxS tp tl s2) k2 nx.1
      cases e2 : smR tp tl pt (nxS tp tl s2) k2 with
      | error z => rw [e2] at h; exact h
      | ok v =>
        obtain ⟨s3, k3, b⟩ := v
        rw [e2] at h g2
        obtain ⟨b1, b2, b3, b4', b5, b6, b7, b8, b9⟩ := g2 s3 k3 b rfl
        show mulO tp tl s3 = -1 → addO tp tl s3 = -1 → _
        intro m3 m4
        obtain ⟨n, g⟩ := h
        refine ⟨n + 1, ?_⟩
        rw [go3 m3 m4 (by rw [inn_c (by simp only; omega)]; exact hP.1), if_pos (by rw [isC, if_neg (by simp only; omega)]; exact decide_eq_true (by simp only; omega)), lz2 (by simp only; omega) (by simp only; omega) (Or.inl (by simp only; omega)), set1_op (by omega)]
        have e1 : c ++ rwL we c.length a ++ rwL we ((c ++ rwL we c.length a).length : Int) b ++ [(cmpO tp tl s2 + 15, 0)] = c ++ rwL we c.length (a ++ b ++ [(cmpO tp tl s2, 0)]) := by
          rw [rw_cat a5 a6, ← rw_cat (WfI_app _ _ a5 b5) (okK_app a6 b6)]
          congr 1
          rw [rwL, rwL, rw1, if_neg (by simp only; omega), if_neg (by simp only; omega), if_neg (by simp only; omega), if_neg (by simp only; omega), if_neg (by simp only; omega)]
          rfl
        rw [e1]
        exact g
    obtain ⟨n, g⟩ := k1
    exact ⟨n + 1, by rw [go3 m1 m2 hP.1, hP.c, if_neg (by decide), if_neg c1, stl_n (fun q r e => by have := hP.t5 q r e; omega)]; exact g⟩
theorem mod_at {α : Type} (x : α) (f : α → α) (B : List α) : ∀ A : List α, (A ++ x :: B).modify A.length f = A ++ f x :: B
  | [] => rfl
  | a :: A => by
    show a :: (A ++ x :: B).modify A.length f = _
    rw [mod_at x f B A]; rfl
theorem jm_gen {w : Nat} {o O : Int} {rd : Int → Int → PR} {inv : Int → Prop} {P c : Itm} {R : SR} (hO : (o = 3 ∧ O = 30) ∨ (o = 4 ∧ O = 29)) (hr : GdF tp tl nw 1 rd)
    (hstep : ∀ (c : Itm) (s k : Int), s ≤ tl → inv s → wdB tp tl s w = true → Rn tp tl od true we 0 (c ++ [(O, 0)]) ((O, (c.length : Int)) :: P) (nxS tp tl s) k R → Rn tp tl od true we 2 c P s k R)
    (hrd : ∀ (c : Itm) (a s k : Int), s ≤ tl → Af (rd s k) R (fun s' k' it => inv s' → Rn tp tl od true we 2 (c ++ rwL we c.length it) ((O, a) :: P) s' k' R) → Rn tp tl od true we 0 c ((O, a) :: P) s k R)
    (hlz : ∀ (c : Itm) (a s k : Int), inv s → Rn tp tl od true we 2 (set1 c (O, a)) P s k R → Rn tp tl od true we 2 c ((O, a) :: P) s k R) :
    ∀ (n : Nat) (it : Itm) (s k : Int), s ≤ tl → inv s → WfI it → okK nw it → (tl - s).toNat ≤ n → Af (jmL tp tl w o rd n s k it) R (fun s' k' it' => inv s' → wdB tp tl s' w = false → Rn tp tl od true we 2 (c ++ rwL we c.length it') P s' k' R) → Rn tp tl od true we 2 (c ++ rwL we c.length it) P s k R
  | 0, it, s, k, hs, iv, wf, ok, hn, h => h iv (by
    cases e : wdB tp tl s w with
    | false => rfl
    | true => have := wd_lt e; omega)
  | n + 1, it, s, k, hs, iv, wf, ok, hn, h => by
    rw [jmL] at h
    by_cases co : wdB tp tl s w = true
    rotate_left
    · rw [if_neg co] at h; exact h iv (Bool.eq_false_iff.2 co)
    rw [if_pos co] at h
    have st := wd_lt co
    have nx := nx_bd (tp := tp) hs
    refine hstep _ s k hs iv co (hrd _ _ _ _ nx.1 ?_)
    have g := hr (nxS tp tl s) k nx.1
    cases e : rd (nxS tp tl s) k with
    | error z => rw [e] at h; exact h
    | ok v =>
      obtain ⟨s2, k2, it2⟩ := v
      rw [e] at g h
      obtain ⟨a1, a2, a3, a4, a5, a6, a7, a8, a9⟩ := g s2 k2 it2 rfl
      simp only at h
      show inv s2 → _
      intro iv2
      refine hlz _ _ s2 k2 iv2 ?_
      have ok1 : okK nw ((o, (it2.length : Int)) :: it2) := fun q hq => by
        rcases List.mem_cons.1 hq with z | z
        · rw [z]; exact ⟨by simp only; omega, by simp only; omega, fun y => by simp only at y; omega, fun y => by simp only at y; omega, fun _ => by simp only; omega⟩
        · exact a6 q z
      have wf1 : WfI ((o, (it2.length : Int)) :: it2) := ⟨fun _ => ⟨by simp only; omega, by simp only; omega⟩, a5⟩
      have e1 : set1 (c ++ rwL we c.length it ++ [(O, 0)] ++ rwL we ((c ++ rwL we c.length it ++ [(O, 0)]).length : Int) it2) (O, ((c ++ rwL we c.length it).length : Int)) = c ++ rwL we c.length (it ++ (o, (it2.length : Int)) :: it2) := by
        rw [← rw_cat wf ok]
        generalize c ++ rwL we c.length it = A
        have l1 := rw_len (we := we) it2 ((A.length : Int) + 1) a6
        unfold set1
        rw [if_pos (by simp only; omega)]
        simp only [Int.toNat_natCast]
        rw [List.append_assoc, List.singleton_append, mod_at]
        have len : ((A ++ [(O, (0 : Int))]).length : Int) = (A.length : Int) + 1 := by simp
        rw [len, rwL]
        have s1 : szM (o, (it2.length : Int)) = 1 := by unfold szM; rw [if_neg (by simp only; omega)]
        rw [s1]
        have r1 : rw1 we (A.length : Int) (o, (it2.length : Int)) it2 = [(O, (A.length : Int) + 1 + lnM it2)] := by
          unfold rw1
          rw [if_neg (by simp only; omega), if_neg (by simp only; omega), if_neg (by simp only; omega)]
          simp only [Int.toNat_natCast, List.take_length]
          rcases hO with ⟨rfl, rfl⟩ | ⟨rfl, rfl⟩
          · rw [if_pos rfl]
          · rw [if_neg (by omega), if_pos rfl]
        rw [r1, List.singleton_append]
        congr 3
        rw [List.length_append, List.length_cons]
        omega
      rw [e1]
      exact jm_gen hO hr hstep hrd hlz n _ s2 k2 a2 iv2 (WfI_app _ _ wf wf1) (okK_app ok ok1) (by omega) h
/-- behind a test -/
theorem go2 {n : Nat} {c P : Itm} {s k : Int} : sy tp tl od true we (n + 1) 2 c P s k = if wdB tp tl s 7 = true then sy tp tl od true we n 0 ((stl 2 c P).1 ++ [(29, 0)]) ((29, ((stl 2 c P).1.length : Int)) :: (stl 2 c P).2) (nxS tp tl s) k
      else if wdB tp tl s 6 = true then sy tp tl od true we n 0 ((stl 1 c P).1 ++ [(30, 0)]) ((30, ((stl 1 c P).1.length : Int)) :: (stl 1 c P).2) (nxS tp tl s) k
      else if inn P = -1 then some (.ok (s, k, (stl 1 c P).1))
      else if sgB tp tl s 41 = true then sy tp tl od true we n 2 (stl 1 c P).1 (stl 1 c P).2.tail (nxS tp tl s) k
      else some (.error s) := by
  rw [sy]
  simp only [show ¬ ((2 : Int) = 0 ∧ wdB tp tl s 8 = true) from fun z => by omega, show ¬ ((2 : Int) = 0 ∧ sgB tp tl s 40 = true) from fun z => by omega, show ¬ ((2 : Int) ≤ 1) by omega, show ¬ ((2 : Int) = 3) by omega, if_false]
def PlP (tp : Int → Int) (tl : Int) (od : Bool) (we : Int → Int × Int) (pl : Int → Int → PR) (o : Int) : Prop := ∀ (c P : Itm) (s k : Int) (R : SR), s ≤ tl → opn P = o → PlO P → Af (pl s k) R (fun s' k' it => Rn tp tl od true we 2 (c ++ rwL we c.length it) P s' k' R) → Rn tp tl od true we 0 c P s k R
theorem PlO.cons {P : Itm} {q : Int × Int} (h : PlO P) (hq : 28 ≤ q.1 ∧ q.1 ≤ 31) : PlO (q :: P) := ⟨by
  by_cases c : q.1 = 31
  · rw [inn_b (by omega)]; omega
  · rw [inn_c (by omega)]; exact h.1, fun q' r e => by cases e; exact hq.1⟩
theorem sy_bo {pl : Int → Int → PR} {o : Int} (hg : GdF tp tl nw 1 pl) (hp : PlP tp tl od we pl o) {c P : Itm} {s k : Int} {R : SR} (hs : s ≤ tl) (ho : opn P = o) (hP : PlO P) (ht : Tp 2 P) (h : Af (boR tp tl pl s k) R (fun s' k' it => wdB tp tl s' 7 = false → Rn tp tl od true we 2 (c ++ rwL we c.length it) P s' k' R)) : Rn tp tl od true we 0 c P s k R := by
  refine hp c P s k R hs ho hP ?_
  unfold boR thenL at h
  have g := hg s k hs
  cases e : pl s k with
  | error z => rw [e] at h; exact h
  | ok v =>
    obtain ⟨s2, k2, it⟩ := v
    rw [e] at h g
    obtain ⟨a1, a2, a3, a4, a5, a6, a7, a8, a9⟩ := g s2 k2 it rfl
    refine jm_gen (w := 7) (o := 4) (O := 29) (rd := pl) (inv := fun _ => True) (nw := nw) (Or.inr ⟨rfl, rfl⟩) hg (fun c s k hs _ co g => ?_) (fun c a s k hs h => ?_) (fun c a s k _ g => ?_) _ it s2 k2 a2 trivial a5 a6 (Nat.le_refl _) ?_
    · obtain ⟨n, g⟩ := g
      exact ⟨n + 1, by rw [go2, if_pos co, stl_n ht]; exact g⟩
    · refine hp _ _ s k R hs (by rw [opn, if_neg (by simp only; omega)]; omega) (hP.cons (by simp only; omega)) ?_
      cases e : pl s k with
      | error z => rw [e] at h; exact h
      | ok v =>
        rw [e] at h
        exact h trivial
    · obtain ⟨n, g⟩ := g
      exact ⟨n, by rw [lz2 (by simp only; omega) (by show 1 ≤ bdO 29; decide) (Or.inl (by show 2 ≤ bdO 29; decide))]; exact g⟩
    · have : ∀ r : PR, Af r R (fun s' k' it => wdB tp tl s' 7 = false → Rn tp tl od true we 2 (c ++ rwL we c.length it) P s' k' R) → Af r R (fun s' k' it' => True → wdB tp tl s' 7 = false → Rn tp tl od true we 2 (c ++ rwL we c.length it') P s' k' R) := fun r h => by
        cases r with
        | error z => exact h
        | ok v => exact fun _ => h
      exact this _ h
theorem sy_ts {pl : Int → Int → PR} {o : Int} (hg : GdF tp tl nw 1 pl) (hp : PlP tp tl od we pl o) {c P : Itm} {s k : Int} {R : SR} (hs : s ≤ tl) (ho : opn P = o) (hP : PlO P) (ht : Tp 1 P) (h : Af (tsR tp tl pl s k) R (fun s' k' it => wdB tp tl s' 7 = false → wdB tp tl s' 6 = false → Rn tp tl od true we 2 (c ++ rwL we c.length it) P s' k' R)) : Rn tp tl od true we 0 c P s k R := by
  refine sy_bo hg hp hs ho hP (fun q r e => by have := ht q r e; omega) ?_
  unfold tsR thenL at h
  have g := bo_gd hg s k hs
  cases e : boR tp tl pl s k with
  | error z => rw [e] at h; exact h
  | ok v =>
    obtain ⟨s2, k2, it⟩ := v
    rw [e] at h g
    obtain ⟨a1, a2, a3, a4, a5, a6, a7, a8, a9⟩ := g s2 k2 it rfl
    show wdB tp tl s2 7 = false → _
    intro iv
    refine jm_gen (w := 6) (o := 3) (O := 30) (rd := boR tp tl pl) (inv := fun s => wdB tp tl s 7 = false) (nw := nw) (Or.inl ⟨rfl, rfl⟩) (bo_gd hg) (fun c s k hs iv co g => ?_) (fun c a s k hs h => ?_) (fun c a s k iv g => ?_) _ it s2 k2 a2 iv a5 a6 (Nat.le_refl _) h
    · obtain ⟨n, g⟩ := g
      exact ⟨n + 1, by rw [go2, if_neg (by rw [iv]; decide), if_pos co, stl_n ht]; exact g⟩
    · exact sy_bo hg hp hs (by rw [opn, if_neg (by simp only; omega)]; omega) (hP.cons (by simp only; omega)) (fun q r e => by cases e; show bdO 30 < 2; decide) h
    · obtain ⟨n, g⟩ := g
      exact ⟨n, by rw [lz2 (by simp only; omega) (by show 1 ≤ bdO 30; decide) (Or.inr iv)]; exact g⟩
end
section
variable {tp : Int → Int} {tl nw : Int} {od : Bool} {we : Int → Int × Int}
def nos (m : Nat) : Itm := List.replicate m (28, 0)
theorem nos_in {P : Itm} (h : PlO P) : ∀ m : Nat, PlO (nos m ++ P) ∧ opn (nos m ++ P) = opn P
  | 0 => ⟨h, rfl⟩
  | m + 1 => by
    have ih := nos_in h m
    show PlO ((28, 0) :: (nos m ++ P)) ∧ opn ((28, 0) :: (nos m ++ P)) = opn P
    refine ⟨ih.1.cons (by simp only; omega), ?_⟩
    rw [opn, if_neg (by simp only; omega), ih.2]
    omega
theorem nos_lz {P : Itm} {s k : Int} {R : SR} : ∀ (m : Nat) (c : Itm), Rn tp tl od true we 2 (c ++ nos m) P s k R → Rn tp tl od true we 2 c (nos m ++ P) s k R
  | 0, c, h => by
    have : c ++ nos 0 = c := List.append_nil c
    rw [this] at h; exact h
  | m + 1, c, h => by
    have e : c ++ nos (m + 1) = (c ++ [(28, 0)]) ++ nos m := by
      show c ++ (28, 0) :: nos m = _
      rw [List.append_assoc]; rfl
    rw [e] at h
    obtain ⟨n, g⟩ := nos_lz m _ h
    refine ⟨n, ?_⟩
    show sy tp tl od true we n 2 c ((28, 0) :: (nos m ++ P)) s k = _
    rw [lz2 (by simp only; omega) (by show 1 ≤ bdO 28; decide) (Or.inl (by show 2 ≤ bdO 28; decide)), set1_op (by omega)]
    exact g
theorem nos_rd {k : Int} {R : SR} {c : Itm} : ∀ (n : Nat) (P : Itm) (s : Int), s ≤ tl → (tl - s).toNat ≤ n → wdB tp tl (ntK tp tl n s).2 8 = false ∧ (Rn tp tl od true we 0 c (nos (ntK tp tl n s).1.toNat ++ P) (ntK tp tl n s).2 k R → Rn tp tl od true we 0 c P s k R)
  | 0, P, s, hs, hn => ⟨by
    show wdB tp tl s 8 = false
    cases e : wdB tp tl s 8 with
    | false => rfl
    | true => have := wd_lt e; omega, fun h => h⟩
  | n + 1, P, s, hs, hn => by
    rw [ntK]
    by_cases c1 : wdB tp tl s 8 = true
    · rw [if_pos c1]
      have st := wd_lt c1
      have nx := nx_bd (tp := tp) hs
      have ih := nos_rd (c := c) (R := R) (k := k) n ((28, 0) :: P) (nxS tp tl s) nx.1 (by omega)
      have nb := nt_bd (tp := tp) (tl := tl) n (nxS tp tl s) nx.1
      refine ⟨ih.1, fun h => ?_⟩
      have e : nos ((ntK tp tl n (nxS tp tl s)).1 + 1).toNat ++ P = nos (ntK tp tl n (nxS tp tl s)).1.toNat ++ ((28, 0) :: P) := by
        rw [show ((ntK tp tl n (nxS tp tl s)).1 + 1).toNat = (ntK tp tl n (nxS tp tl s)).1.toNat + 1 by omega]
        unfold nos
        rw [List.replicate_succ', List.append_assoc]; rfl
      simp only at h
      rw [e] at h
      obtain ⟨N, g⟩ := ih.2 h
      refine ⟨N + 1, ?_⟩
      rw [sy, if_pos ⟨rfl, c1⟩]
      exact g
    · rw [if_neg c1]
      exact ⟨Bool.eq_false_iff.2 c1, fun h => h⟩
theorem rw_not {c it : Itm} {m : Int} (w : WfI it) (ok : okK nw it) : c ++ rwL we c.length (it ++ [(2, m)]) = c ++ rwL we c.length it ++ nos m.toNat := by
  rw [← rw_cat w ok]
  congr 1
  rw [rwL, rwL, rw1, if_neg (by simp only; omega), if_neg (by simp only; omega), if_pos rfl, List.append_nil]
  rfl
/-- behind the nots: what is read, and the nots settled -/
theorem sy_no {s k : Int} {R : SR} {c P : Itm} {r : PR} (hs : s ≤ tl) (hP : PlO P) (hg : GdR tp tl nw 1 1 (ntS tp tl s).2 k r) (h : Af (thenL r (fun s2 k2 it => .ok (s2, k2, it ++ [(2, (ntS tp tl s).1)]))) R (fun s' k' it => Rn tp tl od true we 2 (c ++ rwL we c.length it) P s' k' R))
    (hr : Af r R (fun s' k' it => Rn tp tl od true we 2 (c ++ rwL we c.length it) (nos (ntS tp tl s).1.toNat ++ P) s' k' R) → Rn tp tl od true we 0 c (nos (ntS tp tl s).1.toNat ++ P) (ntS tp tl s).2 k R) : Rn tp tl od true we 0 c P s k R := by
  refine (nos_rd (tl - s).toNat P s hs (Nat.le_refl _)).2 (hr ?_)
  unfold thenL at h
  cases e : r with
  | error z => rw [e] at h; exact h
  | ok v =>
    obtain ⟨s2, k2, it⟩ := v
    rw [e] at h hg
    obtain ⟨a1, a2, a3, a4, a5, a6, a7, a8, a9⟩ := hg s2 k2 it rfl
    have h' : Rn tp tl od true we 2 (c ++ rwL we c.length (it ++ [(2, (ntS tp tl s).1)])) P s2 k2 R := h
    rw [rw_not a5 a6] at h'
    exact nos_lz _ _ h'
theorem sy_pl : ∀ D : Nat, PlP tp tl od we (plR tp tl od D) (8 - D)
  | 0 => fun c P s k R hs ho hP h => by
    have nb := nt_bd (tp := tp) (tl := tl) (tl - s).toNat s hs
    have w8 := (nos_rd (tp := tp) (tl := tl) (od := od) (we := we) (k := k) (R := R) (c := c) (tl - s).toNat P s hs (Nat.le_refl _)).1
    have np := nos_in hP (ntS tp tl s).1.toNat
    rw [plR] at h
    by_cases c1 : sgB tp tl (ntS tp tl s).2 40 = true
    · rw [if_pos c1] at h
      refine sy_no (nw := nwO od) hs hP (fun _ _ _ y => by cases y) h (fun z => ⟨1, ?_⟩)
      rw [sy, if_neg (fun y => by have := y.2; rw [show wdB tp tl (ntS tp tl s).2 8 = false from w8] at this; cases this), if_pos ⟨rfl, c1⟩, if_neg (by omega), z]
    · rw [if_neg c1] at h
      refine sy_no (nw := nwO od) hs hP (cm_gd (sm_gd (pt_gd 0)) _ k nb.2.2) h (fun z => st1 (Or.inr ⟨rfl, w8, Bool.eq_false_iff.2 c1⟩) ?_)
      exact sy_cm (pt_gd 0) (sy_pt 0) nb.2.2 (by omega) np.1 z
  | D + 1 => fun c P s k R hs ho hP h => by
    have nb := nt_bd (tp := tp) (tl := tl) (tl - s).toNat s hs
    have w8 := (nos_rd (tp := tp) (tl := tl) (od := od) (we := we) (k := k) (R := R) (c := c) (tl - s).toNat P s hs (Nat.le_refl _)).1
    have np := nos_in hP (ntS tp tl s).1.toNat
    rw [plR] at h
    by_cases c1 : sgB tp tl (ntS tp tl s).2 40 = true
    · rw [if_pos c1] at h
      refine sy_no (nw := nwO od) hs hP (br_gd (ts_gd (pl_gd D)) _ k (sg_lt c1)) h (fun z => ?_)
      have nb3 : (ntS tp tl s).2 ≤ tl := nb.2.2
      have w8' : wdB tp tl (ntS tp tl s).2 8 = false := w8
      clear h w8 nb
      generalize hQ : nos (ntS tp tl s).1.toNat ++ P = Q at *
      generalize (ntS tp tl s).2 = s1 at *
      have nx := nx_bd (tp := tp) nb3
      have k1 : Rn tp tl od true we 0 c ((31, 0) :: Q) (nxS tp tl s1) k R := by
        refine sy_ts (nw := nwO od) (pl_gd D) (sy_pl D) nx.1 (by rw [opn, if_pos (by simp only; omega)]; omega) (np.1.cons (by simp only; omega)) (fun q r e => by cases e; show bdO 31 < 1; decide) ?_
        unfold brR thenL at z
        cases e : tsR tp tl (plR tp tl od D) (nxS tp tl s1) k with
        | error y => rw [e] at z; exact z
        | ok v =>
          obtain ⟨s2, k2, it⟩ := v
          rw [e] at z
          show wdB tp tl s2 7 = false → wdB tp tl s2 6 = false → _
          intro m1 m2
          simp only at z
          have go : ∀ n, sy tp tl od true we (n + 1) 2 (c ++ rwL we c.length it) ((31, 0) :: Q) s2 k2 = if sgB tp tl s2 41 = true then sy tp tl od true we n 2 (c ++ rwL we c.length it) Q (nxS tp tl s2) k2 else some (.error s2) := fun n => by
            rw [go2, if_neg (by rw [m1]; decide), if_neg (by rw [m2]; decide), if_neg (by rw [inn_b (by simp only; omega)]; simp only; omega), stl_n (fun q r e => by cases e; show bdO 31 < 1; decide)]
            rfl
          by_cases c2 : sgB tp tl s2 41 = true
          · rw [if_pos c2] at z
            obtain ⟨n, g⟩ := z
            exact ⟨n + 1, by rw [go, if_pos c2]; exact g⟩
          · rw [if_neg c2] at z
            exact ⟨1, by rw [go, if_neg c2, z]⟩
      obtain ⟨n, g⟩ := k1
      refine ⟨n + 1, ?_⟩
      rw [sy, if_neg (fun y => by have := y.2; rw [w8'] at this; cases this), if_pos ⟨rfl, c1⟩, if_pos (by omega)]
      exact g
    · rw [if_neg c1] at h
      refine sy_no (nw := nwO od) hs hP (cm_gd (sm_gd (pt_gd (D + 1))) _ k nb.2.2) h (fun z => st1 (Or.inr ⟨rfl, w8, Bool.eq_false_iff.2 c1⟩) ?_)
      exact sy_cm (pt_gd (D + 1)) (sy_pt (D + 1)) nb.2.2 (by omega) np.1 z
/-- what the reference answers of a sum, of a test -/
def reS' (we : Int → Int × Int) (c : Itm) (r : PR) : SR := match r with
  | .error e => .error e
  | .ok (s, k, it) => .ok (s, k, c ++ rwL we c.length it)
theorem sy_su {c : Itm} {s k : Int} (hs : s ≤ tl) : Rn tp tl od false we 1 c [] s k (reS' we c (suR tp tl od s k)) := by
  refine sy_sm (nw := nwO od) (pt_gd 8) (sy_pt 8) hs rfl (fun q r e => by cases e) ?_
  show Af (suR tp tl od s k) _ _
  cases e : suR tp tl od s k with
  | error z => rfl
  | ok v =>
    obtain ⟨s2, k2, it⟩ := v
    show mulO tp tl s2 = -1 → addO tp tl s2 = -1 → _
    intro m1 m2
    refine ⟨1, ?_⟩
    rw [sy]
    simp only [show ¬ ((3 : Int) = 0 ∧ wdB tp tl s2 8 = true) from fun z => by omega, show ¬ ((3 : Int) = 0 ∧ sgB tp tl s2 40 = true) from fun z => by omega, show ¬ ((3 : Int) ≤ 1) by omega, if_false, if_true]
    rw [if_neg (fun z : opS tp tl s2 ≠ -1 => z (mul_no m1 m2)), if_neg (show ¬ inn [] = 32 by decide), if_pos ⟨show inn [] = -1 from rfl, trivial⟩]
    rfl
theorem sy_te {c : Itm} {s k : Int} (hs : s ≤ tl) : Rn tp tl od true we 0 c [] s k (reS' we c (teR tp tl od s k)) := by
  refine sy_ts (nw := nwO od) (pl_gd 8) (sy_pl 8) hs rfl ⟨by decide, fun q r e => by cases e⟩ (fun q r e => by cases e) ?_
  show Af (teR tp tl od s k) _ _
  cases e : teR tp tl od s k with
  | error z => rfl
  | ok v =>
    obtain ⟨s2, k2, it⟩ := v
    show wdB tp tl s2 7 = false → wdB tp tl s2 6 = false → _
    intro m1 m2
    refine ⟨1, ?_⟩
    rw [go2, if_neg (by rw [m1]; decide), if_neg (by rw [m2]; decide), if_pos (show inn [] = -1 from rfl)]
    rfl
end
