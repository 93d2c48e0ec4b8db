/-! A MACHINE OF OUR OWN over the kit's W: values are integers and addresses, the heap is a shape and two memories; what follows the law's entry is told in these words alone. -/
/-- the tables' words that hold in any frame -/
def gtb : List Cond := lw_tbl.filter goodWord
theorem gtb_in {w : Cond} (h : w ∈ lw_tbl) (hg : goodWord w = true) : w ∈ gtb := List.mem_filter.mpr ⟨h, hg⟩
abbrev AV : Type := Int ⊕ (Int ⊕ Option Nat)
def vi (x : Int) : AV := .inl x
def vl (x : Int) : AV := .inr (.inl x)
def vr (a : Nat) : AV := .inr (.inr (some a))
def vn : AV := .inr (.inr none)
def vq (o : Option Nat) : AV := .inr (.inr o)
def InR (x : Int) : Prop := -2147483648 ≤ x ∧ x ≤ 2147483647
def InL (x : Int) : Prop := -9223372036854775808 ≤ x ∧ x ≤ 9223372036854775807
def rv : AV → Value
  | .inl x => .int (Int32.ofInt x)
  | .inr (.inl x) => .long (Int64.ofInt x)
  | .inr (.inr o) => va_rf o
def okv : AV → Prop
  | .inl x => InR x
  | .inr (.inl x) => InL x
  | .inr (.inr _) => True
def wr (x : Int) : Int := Int.bmod x 4294967296
def wl (x : Int) : Int := Int.bmod x 18446744073709551616
abbrev Hp : Type := Nat × (Nat → Nat × Nat) × (Nat → Int → Int) × (Nat → Int → Option Nat)
def hN (h : Hp) : Nat := h.1
def hS (h : Hp) (a : Nat) : Nat × Nat := h.2.1 a
def hI (h : Hp) (a : Nat) (j : Int) : Int := h.2.2.1 a j
def hR (h : Hp) (a : Nat) (j : Int) : Option Nat := h.2.2.2 a j
def sI (h : Hp) (a : Nat) (j x : Int) : Hp := (h.1, h.2.1, fun b k => if b = a ∧ k = j then x else h.2.2.1 b k, h.2.2.2)
def sR (h : Hp) (a : Nat) (j : Int) (x : Option Nat) : Hp := (h.1, h.2.1, h.2.2.1, fun b k => if b = a ∧ k = j then x else h.2.2.2 b k)
def nw (h : Hp) (kd len : Nat) : Hp := (h.1 + 1, fun b => if b = h.1 then (kd, len) else h.2.1 b, fun b k => if b = h.1 then 0 else h.2.2.1 b k, fun b k => if b = h.1 then none else h.2.2.2 b k)
/-- launch, classes' numbers, slots, array classes' numbers, base, the heap at the law's entry, texts' addresses, their rows', the script's address, length, contents -/
abbrev Gv : Type := Launch × (Nat → ClassId) × (Nat → Nat → Nat) × (Nat → ClassId) × Nat × Heap × (Nat → Nat) × (Nat → Nat) × Nat × Nat × (Nat → Int)
def gLa (G : Gv) : Launch := G.1
def gC (G : Gv) : Nat → ClassId := G.2.1
def gI (G : Gv) : Nat → Nat → Nat := G.2.2.1
def gA (G : Gv) : Nat → ClassId := G.2.2.2.1
def gB (G : Gv) : Nat := G.2.2.2.2.1
def gH (G : Gv) : Heap := G.2.2.2.2.2.1
def gK (G : Gv) : Nat → Nat := G.2.2.2.2.2.2.1
def gV (G : Gv) : Nat → Nat := G.2.2.2.2.2.2.2.1
def gs (G : Gv) : Nat := G.2.2.2.2.2.2.2.2.1
def gL (G : Gv) : Nat := G.2.2.2.2.2.2.2.2.2.1
def gx (G : Gv) : Nat → Int := G.2.2.2.2.2.2.2.2.2.2
def arTy : Nat → FieldType
  | 0 => .int
  | 1 => .long
  | 2 => .boolean
  | 3 => .object "BlessLoan$Town"
  | _ => .object "BlessLoan$Text"
def gT (G : Gv) : List (ClassId × FieldType) := [(gA G 0, arTy 0), (gA G 1, arTy 1), (gA G 2, arTy 2), (gA G 3, arTy 3), (gA G 4, arTy 4)]
abbrev gD (G : Gv) : va_G := (gC G, gI G)
def ftX : Nat → Nat → FieldType
  | 0 => tyX0
  | 1 => tyX1
  | 2 => tyX2
  | 3 => tyX3
  | 4 => tyX4
  | 5 => tyX5
  | 6 => tyX6
  | 7 => tyX7
  | 8 => tyX8
  | 9 => tyX9
  | 10 => tyX10
  | 11 => tyX11
  | _ => tyX12
def nfX : Nat → Nat
  | 0 => 6
  | 1 => 4
  | 2 => 1
  | 3 => 5
  | 4 => 2
  | 5 => 17
  | 6 => 9
  | 7 => 2
  | 8 => 1
  | 9 => 10
  | 10 => 15
  | 11 => 17
  | _ => 58
/-- what a field of a type holds -/
def fvl (ty : FieldType) (h : Hp) (a : Nat) (k : Int) : Value := match ty with
  | .long => .long (Int64.ofInt (hI h a k))
  | .object _ => va_rf (hR h a k)
  | .array _ => va_rf (hR h a k)
  | _ => .int (Int32.ofInt (hI h a k))
def fok (ty : FieldType) (h : Hp) (a : Nat) (k : Int) : Prop := match ty with
  | .long => InL (hI h a k)
  | .object _ => True
  | .array _ => True
  | .boolean => hI h a k = 0 ∨ hI h a k = 1
  | _ => InR (hI h a k)
/-- a cell's entry by its kind: 0 .. 12 objects; 100 .. 104 rows of ints, longs, booleans, towns, texts -/
def ent (G : Gv) (h : Hp) (a : Nat) : va_E :=
  if (hS h a).1 < 13 then .inr ((hS h a).1, (List.range (nfX (hS h a).1)).map (fun k => fvl (ftX (hS h a).1 k) h a (k : Int)))
  else if (hS h a).1 = 100 then .inl (gA G 0, (hS h a).2, .inl (fun j => Int32.ofInt (hI h a (j : Int))))
  else if (hS h a).1 = 101 then .inl (gA G 1, (hS h a).2, .inr (.inl (fun j => Int64.ofInt (hI h a (j : Int)))))
  else if (hS h a).1 = 102 then .inl (gA G 2, (hS h a).2, .inl (fun j => Int32.ofInt (hI h a (j : Int))))
  else if (hS h a).1 = 103 then .inl (gA G 3, (hS h a).2, .inr (.inr (.inr (.inr (fun j => hR h a (j : Int))))))
  else .inl (gA G 4, (hS h a).2, .inr (.inr (.inr (.inr (fun j => hR h a (j : Int))))))
def eok (h : Hp) (a : Nat) : Prop :=
  ((hS h a).1 < 13 → ∀ k : Nat, k < nfX (hS h a).1 → fok (ftX (hS h a).1 k) h a (k : Int)) ∧
  ((hS h a).1 = 100 → ∀ j : Nat, j < (hS h a).2 → InR (hI h a (j : Int))) ∧
  ((hS h a).1 = 101 → ∀ j : Nat, j < (hS h a).2 → InL (hI h a (j : Int))) ∧
  ((hS h a).1 = 102 → ∀ j : Nat, j < (hS h a).2 → hI h a (j : Int) = 0 ∨ hI h a (j : Int) = 1) ∧
  (hS h a).2 < 100000
/-- the machine's heap H is the one told by h -/
def Sim (G : Gv) (h : Hp) (H : Heap) : Prop :=
  H.size = hN h ∧ gB G ≤ hN h ∧ (∀ q : Nat, q < gB G → H[q]? = (gH G)[q]?) ∧
  (hS h (gs G) = (100, gL G) ∧ (∀ j : Nat, hI h (gs G) (j : Int) = gx G j) ∧ gs G < gB G ∧ ∀ j, InR (gx G j)) ∧
  (∀ a : Nat, hS h a ≠ (999, 0) → a = gs G ∨ (gB G ≤ a ∧ a < hN h)) ∧
  ∀ a : Nat, gB G ≤ a → a < hN h → va_at (gD G) vwCl (a, ent G h a) H ∧ eok h a
def nStr : Nat := 11
def sTxt : List String := ["step sneeze forgive pass", "sneezes hears owes bars", "if", "to", "by", "times", "or", "and", "not", "minute done latest at owed owes", "person place dust age ears cold far other minute mood"]
def sIdx : List Nat := [87, 89, 114, 125, 127, 129, 139, 151, 153, 167, 169]
def sByt : List (List Int32) := sTxt.map (fun t => t.toList.map (fun c => Int32.ofNat c.toNat))
def sLen : List Nat := sByt.map List.length
/-- private makers that a nest mate calls -/
def nst : List (String × Nat × MethodName) := [("BlessLoan", 28, yX6_init), ("BlessLoan$Judge", 11, yX7_init), ("BlessLoan", 44, yX4_init), ("BlessLoan", 54, yX8_init), ("BlessLoan$Clerk", 11, yX7_init)]
/-- the formatter of the JDK's checks: nothing, or a cell -/
def fmO (G : Gv) : Option Nat := if gK G nStr = 0 then none else some (gK G nStr - 1)
/-- two static fields of the JDK that nobody writes -/
def EnvJ (G : Gv) (U : State) : Prop := va_Z "java/lang/String" "COMPACT_STRINGS" "Z" (.int 1) (fun q => gB G ≤ q) U (gH G) ∧ va_Z "jdk/internal/util/Preconditions" "SIOOBE_FORMATTER" "Ljava/util/function/BiFunction;" (va_rf (fmO G)) (fun q => gB G ≤ q) U (gH G)
/-- what the tables and the entry's heap say, whatever the frame -/
def Env0 (G : Gv) (U : State) : Prop :=
  va_K (gD G) vwCl (gT G) U ∧ (vk_S nStr sLen sByt (gK G) (gV G) (fun q => gB G ≤ q) U (gH G) ∧ EnvJ G U) ∧ ((∀ i : Nat, i < nStr → vk_R RX6 (sIdx.getD i 0) (sTxt.getD i "") (gK G i) U) ∧ (va_AO "BlessLoan$Town" U ∧ va_AO "BlessLoan$Text" U) ∧ ∀ q ∈ nst, va_Nw (.methodLinkNest q.1 q.2.1 q.2.2 "BlessLoan") U) ∧
  ∃ scr : Cell, (gH G)[gs G]? = some scr ∧ U.isArrayOf scr .int ∧ scr.vm ≠ .unknown ∧ scr.slots.size = gL G ∧ ∀ j : Nat, j < gL G → scr.slots[j]? = some (.int (Int32.ofInt (gx G j)))
theorem Env0.warm {G : Gv} {s U : State} (hW : s.WarmedH U.vm) (h : Env0 G s) : Env0 G U := by
  obtain ⟨h1, h2, h3, scr, h4, h5, h6⟩ := h
  exact ⟨h1.moved hW.alike, ⟨h2.1.moved hW.alike, h2.2.1.moved hW.alike, h2.2.2.moved hW.alike⟩, ⟨fun i hi => (h3.1 i hi).warm hW, ⟨h3.2.1.1.moved hW.alike, h3.2.1.2.moved hW.alike⟩, fun q hq => (h3.2.2 q hq).warmM hW⟩, scr, h4, State.isArrayOf_alike hW.alike h5, h6⟩
/-- a method: its name, its bytes, its locals, what it returns -/
abbrev Mt : Type := MethodName × ByteArray × Nat × Option FieldType
def mw (M : Mt) : List Cond := Cond.code M.1 M.2.1 M.2.2.1 M.2.2.2 :: gtb
abbrev Lcs : Type := List (Option AV)
def LH (arr : Array Slot) (ls : Lcs) : Prop := arr.size = ls.length ∧ lv_wf arr ∧ ∀ (i : Nat) (v : AV), ls[i]? = some (some v) → arr[i]? = some (.val (rv v)) ∧ okv v
def SH (st : List AV) : Prop := ∀ v ∈ st, okv v
/-- what stands around a walk of a method -/
def Ctx (G : Gv) (M : Mt) (p : Program) (s : State) (m : MethodId) (args : Array Value) (meth : Method) (c : Code) : Prop :=
  p.tables.exec = Jvm.exec ∧ c.code = M.2.1 ∧ meth.sig.returnType = M.2.2.2 ∧ meth.locks = false ∧ c.maxLocals = M.2.2.1 ∧ s.vm.findClass M.1.cls = some m.cls ∧ meth.name = M.1.name ∧ (∀ w ∈ gtb, w.before args s = true) ∧ Env0 G s
abbrev Post : Type := Option AV → Hp → Prop
def QcOf (G : Gv) (Q : Post) : Array Value → State → Outcome → State → Prop := fun _ _ o t => ∃ (r : Option AV) (h' : Hp), o = .returned (r.map rv) ∧ Q r h' ∧ Sim G h' t.heap ∧ ∀ v, r = some v → okv v
def wFree (G : Gv) : Addr → Prop := fun q => gB G ≤ q
/-- OUR WALK: from the place pc of M, with these locals, stack and heap, with d calls deep, kc cells and ks slots to spare, the method comes to its end with Q -/
def WA (G : Gv) (M : Mt) (d kc ks pc : Nat) (ls : Lcs) (st : List AV) (h : Hp) (Q : Post) : Prop :=
  ∀ (p : Program) (e : Jvm.Env) (R : Room) (s : State) (m : MethodId) (args : Array Value) (below : List Frame) (meth : Method) (c : Code), Ctx G M p s m args meth c → d ≤ R.frames → 100 * d ≤ R.locals →
  ∀ (mc ms : Nat), mc ≤ R.cells → ms ≤ R.slots → ∀ (H : Heap) (locs : List Loc) (cells slots : Nat) (arr : Array Slot), cells + kc ≤ mc → slots + ks ≤ ms → Sim G h H → (∀ q ∈ locs, gB G ≤ q.base) → arr.size = M.2.2.1 → LH arr ls → SH st →
  W p (gLa G) e R s m args below meth c H locs cells slots (MQ below (QcOf G Q) args s mc ms (wFree G)) (F0 m pc arr (st.map rv))
/-- OUR CONTRACT -/
def MA (G : Gv) (M : Mt) (d kc ks : Nat) (as : List AV) (h : Hp) (Q : Post) : Prop :=
  Met (gLa G) M.1 (mw M) { frames := d, cells := kc, slots := ks, locals := 100 * d } (va_Pc (as.map rv) (fun U => Sim G h U.heap ∧ Env0 G U ∧ SH as)) (QcOf G Q) kc ks (wFree G)
/-- an instruction: what must hold ahead of it so that k holds behind it -/
abbrev PT : Type := Nat → Nat → Nat → Lcs → List AV → Hp → (Nat → Nat → Lcs → List AV → Hp → Prop) → Prop
def Snd (G : Gv) (M : Mt) (pc pc' : Nat) (x : PT) : Prop :=
  ∀ (d : Nat) (Q : Post) (k : Nat → Nat → Lcs → List AV → Hp → Prop), (∀ kc ks ls st h, k kc ks ls st h → WA G M d kc ks pc' ls st h Q) → ∀ kc ks ls st h, x d kc ks ls st h k → WA G M d kc ks pc ls st h Q
def wpL : List PT → PT
  | [], _, kc, ks, ls, st, h, k => k kc ks ls st h
  | x :: xs, d, kc, ks, ls, st, h, k => x d kc ks ls st h (fun kc ks ls st h => wpL xs d kc ks ls st h k)
theorem Snd.nil {G : Gv} {M : Mt} {pc : Nat} : Snd G M pc pc (wpL []) := fun _ _ _ hk kc ks ls st h hx => hk kc ks ls st h hx
theorem Snd.cons {G : Gv} {M : Mt} {pc p1 p2 : Nat} {x : PT} {xs : List PT} (h1 : Snd G M pc p1 x) (h2 : Snd G M p1 p2 (wpL xs)) : Snd G M pc p2 (wpL (x :: xs)) :=
  fun d Q k hk kc ks ls st h hx => h1 d Q _ (fun kc ks ls st h hw => h2 d Q k hk kc ks ls st h hw) kc ks ls st h hx
/-- a block's end -/
abbrev TM : Type := Nat → Nat → Nat → Lcs → List AV → Hp → (Nat → Nat → Nat → Lcs → List AV → Hp → Prop) → Post → Prop
def SndT (G : Gv) (M : Mt) (pc : Nat) (x : TM) : Prop :=
  ∀ (d : Nat) (Q : Post) (kc ks : Nat) (ls : Lcs) (st : List AV) (h : Hp), x d kc ks ls st h (fun pc kc ks ls st h => WA G M d kc ks pc ls st h Q) Q → WA G M d kc ks pc ls st h Q
def wpB (xs : List PT) (t : TM) (G : Gv) (M : Mt) (d kc ks : Nat) (ls : Lcs) (st : List AV) (h : Hp) (Q : Post) : Prop :=
  wpL xs d kc ks ls st h (fun kc ks ls st h => t d kc ks ls st h (fun pc kc ks ls st h => WA G M d kc ks pc ls st h Q) Q)
theorem blk {G : Gv} {M : Mt} {pc p1 : Nat} {xs : List PT} {t : TM} (h1 : Snd G M pc p1 (wpL xs)) (h2 : SndT G M p1 t) {d kc ks : Nat} {ls : Lcs} {st : List AV} {h : Hp} {Q : Post} (hw : wpB xs t G M d kc ks ls st h Q) : WA G M d kc ks pc ls st h Q :=
  h1 d Q _ (fun kc ks ls st h hk => h2 d Q kc ks ls st h hk) kc ks ls st h hw
def aL : List AV → Lcs
  | [] => []
  | .inr (.inl x) :: r => some (vl x) :: none :: aL r
  | .inl x :: r => some (vi x) :: aL r
  | .inr (.inr x) :: r => some (vq x) :: aL r
def entL (as : List AV) (n : Nat) : Lcs := aL as ++ List.replicate (n - (aL as).length) none
theorem rv_cat1i (x : Int) : (rv (.inl x)).category = 1 := rfl
theorem rv_cat2 (x : Int) : (rv (.inr (.inl x))).category = 2 := rfl
theorem rv_cat1r (x : Option Nat) : (rv (.inr (.inr x))).category = 1 := by cases x <;> rfl
theorem aL_len (as : List AV) : (lg_sl (as.map rv)).length = (aL as).length := by
  induction as with
  | nil => rfl
  | cons v r ih =>
    have e : lg_sl ((v :: r).map rv) = (if (rv v).category = 2 then [.val (rv v), .second] else [.val (rv v)]) ++ lg_sl (r.map rv) := by simp [lg_sl]
    rw [e]
    rcases v with x | x | x
    · rw [if_neg (by rw [rv_cat1i]; omega)]; simp only [List.length_append, ih, aL, List.length_cons, List.length_nil]; omega
    · rw [if_pos (rv_cat2 x)]; simp only [List.length_append, ih, aL, List.length_cons, List.length_nil]; omega
    · rw [if_neg (by rw [rv_cat1r]; omega)]; simp only [List.length_append, ih, aL, List.length_cons, List.length_nil]; omega
theorem aL_args (as : List AV) : ∀ (o i : Nat) (v : AV), (aL as)[i]? = some (some v) → (o + i, rv v) ∈ lv_args o (as.map rv) ∧ v ∈ as := by
  induction as with
  | nil => intro o i v h; simp [aL] at h
  | cons w r ih =>
    intro o i v h
    have e : ∀ q, (if (rv w).category = 2 then o + 2 else o + 1) = q → lv_args o ((w :: r).map rv) = (o, rv w) :: lv_args q (r.map rv) := by
      intro q hq; rw [← hq]; rfl
    rcases w with x | x | x
    · rw [e (o + 1) (by rw [if_neg (by rw [rv_cat1i]; omega)])]
      cases i with
      | zero => simp [aL] at h; subst h; exact ⟨List.mem_cons_self, List.mem_cons_self⟩
      | succ i =>
        simp only [aL, List.getElem?_cons_succ] at h
        obtain ⟨h1, h2⟩ := ih (o + 1) i v h
        rw [show o + 1 + i = o + (i + 1) by omega] at h1
        exact ⟨List.mem_cons_of_mem _ h1, List.mem_cons_of_mem _ h2⟩
    · rw [e (o + 2) (by rw [if_pos (rv_cat2 x)])]
      cases i with
      | zero => simp [aL] at h; subst h; exact ⟨List.mem_cons_self, List.mem_cons_self⟩
      | succ i =>
        cases i with
        | zero => simp [aL] at h
        | succ i =>
          simp only [aL, List.getElem?_cons_succ] at h
          obtain ⟨h1, h2⟩ := ih (o + 2) i v h
          rw [show o + 2 + i = o + (i + 1 + 1) by omega] at h1
          exact ⟨List.mem_cons_of_mem _ h1, List.mem_cons_of_mem _ h2⟩
    · rw [e (o + 1) (by rw [if_neg (by rw [rv_cat1r]; omega)])]
      cases i with
      | zero => simp [aL] at h; subst h; exact ⟨List.mem_cons_self, List.mem_cons_self⟩
      | succ i =>
        simp only [aL, List.getElem?_cons_succ] at h
        obtain ⟨h1, h2⟩ := ih (o + 1) i v h
        rw [show o + 1 + i = o + (i + 1) by omega] at h1
        exact ⟨List.mem_cons_of_mem _ h1, List.mem_cons_of_mem _ h2⟩
/-- a contract out of a walk from the entry -/
theorem MA.of {G : Gv} {M : Mt} {d kc ks : Nat} {as : List AV} {h : Hp} {Q : Post} (hy : plainName M.1.cls = true) (hlen : (aL as).length ≤ M.2.2.1) (hw : WA G M d kc ks 0 (entL as M.2.2.1) [] h Q) : MA G M d kc ks as h Q := by
  refine Met.ofW (cc := M.2.1) (maxL := M.2.2.1) (ret := M.2.2.2) hy rfl ?_
  intro p e s m args below meth c s₁ B hml hv
  obtain ⟨rfl, hS, hE, hSH⟩ := hv
  have hts := atoms_spec (ws := mw M) B.pre
  have hown : s.vm.findClass M.1.cls = some m.cls := findClass_of_methodNamed B.named
  have hnm := (name_of_methodNamed B.named B.method).1
  have hlen' : (lg_sl (as.map rv)).length ≤ M.2.2.1 := by rw [aL_len]; exact hlen
  have he := lv_entry (as.map rv) (n := M.2.2.1) hlen'
  rw [lg_entry_eq]
  generalize (lg_sl (as.map rv) ++ List.replicate (M.2.2.1 - (lg_sl (as.map rv)).length) Slot.unset).toArray = arr at he ⊢
  have hel : (entL as M.2.2.1).length = M.2.2.1 := by simp only [entL, List.length_append, List.length_replicate]; omega
  refine hw p e _ s m _ below meth c ⟨B.exec, B.bytes, B.returns, B.notSynchronized, hml, hown, hnm, fun w h => hts w (List.mem_cons_of_mem _ h), hE⟩ (Nat.le_refl _) (Nat.le_refl _) kc ks (Nat.le_refl _) (Nat.le_refl _) s.heap [] 0 0 arr (by omega) (by omega) hS (fun _ h => by cases h) he.1 ⟨by rw [he.1, hel], he.2.1, fun i v hi => ?_⟩ (fun _ h => by cases h)
  have hi2 : (aL as)[i]? = some (some v) := by
    unfold entL at hi
    by_cases hl : i < (aL as).length
    · rwa [List.getElem?_append_left hl] at hi
    · rw [List.getElem?_append_right (by omega)] at hi
      have := List.mem_of_getElem? hi
      rw [List.mem_replicate] at this
      exact absurd this.2 (by simp)
  obtain ⟨h1, h2⟩ := aL_args as 0 i v hi2
  rw [Nat.zero_add] at h1
  exact ⟨he.2.2 _ h1, hSH v h2⟩
theorem WA.mono {G : Gv} {M : Mt} {d kc ks pc : Nat} {ls : Lcs} {st : List AV} {h : Hp} {Q Q' : Post} (hQ : ∀ r h', Q r h' → Q' r h') (w : WA G M d kc ks pc ls st h Q) : WA G M d kc ks pc ls st h Q' := by
  intro p e R s m args below meth c C hd1 hd2 mc ms h1 h2 H locs cells slots arr h3 h4 hS hL hz hLH hSH T hT X
  obtain ⟨t, a, o, b1, b2, ⟨r, h', c1, c2, c3⟩, b3⟩ := w p e R s m args below meth c C hd1 hd2 mc ms h1 h2 H locs cells slots arr h3 h4 hS hL hz hLH hSH T hT X
  exact ⟨t, a, o, b1, b2, ⟨r, h', c1, hQ r h' c2, c3⟩, b3⟩
