/-! Instructions that touch no heap: what they ask (x..), that they are sound (s_..), how they run (e_..). -/
theorem Snd.pure {G : Gv} {M : Mt} {pc pc' : Nat} {x : PT} (hx : ∀ d kc ks ls st h k, x d kc ks ls st h k → ∃ st', k kc ks ls st' h ∧ ∀ arr, LH arr ls → SH st → SH st' ∧
    ∀ p e R s m args below meth c H locs cells slots Qf, Ctx G M p s m args meth c → W p (gLa G) e R s m args below meth c H locs cells slots Qf (F0 m pc' arr (st'.map rv)) → W p (gLa G) e R s m args below meth c H locs cells slots Qf (F0 m pc arr (st.map rv))) : Snd G M pc pc' x := by
  intro d Q k hk kc ks ls st h hxx
  obtain ⟨st', hk', hr⟩ := hx d kc ks ls st h k hxx
  intro p e R s m args below meth c C hd1 hd2 mc ms h1 h2 H locs cells slots arr h3 h4 hS hL hz hLH hSH
  obtain ⟨hs', hW⟩ := hr arr hLH hSH
  exact hW _ _ _ _ _ _ _ _ _ _ _ _ _ _ C (hk _ _ _ _ _ hk' p e R s m args below meth c C hd1 hd2 mc ms h1 h2 H locs cells slots arr h3 h4 hS hL hz hLH hs')
theorem SH.cons {v : AV} {st : List AV} (h1 : okv v) (h2 : SH st) : SH (v :: st) := fun w hw => (List.mem_cons.mp hw).elim (fun e => e ▸ h1) (h2 w)
theorem SH.tl {v : AV} {st : List AV} (h : SH (v :: st)) : SH st := fun w hw => h w (List.mem_cons_of_mem _ hw)
theorem SH.hd {v : AV} {st : List AV} (h : SH (v :: st)) : okv v := h v List.mem_cons_self
def xICONST (x : Int) : PT := fun d kc ks ls st h k => InR x ∧ k kc ks ls (vi x :: st) h
def xLCONST (x : Int) : PT := fun d kc ks ls st h k => InL x ∧ k kc ks ls (vl x :: st) h
def xNULL : PT := fun d kc ks ls st h k => k kc ks ls (vn :: st) h
def xILOAD (n : Nat) : PT := fun d kc ks ls st h k => ∃ x, ls[n]? = some (some (vi x)) ∧ k kc ks ls (vi x :: st) h
def xLLOAD (n : Nat) : PT := fun d kc ks ls st h k => ∃ x, ls[n]? = some (some (vl x)) ∧ k kc ks ls (vl x :: st) h
def xALOAD (n : Nat) : PT := fun d kc ks ls st h k => ∃ x, ls[n]? = some (some (vq x)) ∧ k kc ks ls (vq x :: st) h
theorem e_ICONST {x : Int} {d kc ks : Nat} {ls : Lcs} {st : List AV} {h : Hp} {k : Nat → Nat → Lcs → List AV → Hp → Prop} (h1 : -2147483648 ≤ x) (h2 : x ≤ 2147483647) : xICONST x d kc ks ls st h k = k kc ks ls (vi x :: st) h := propext ⟨fun q => q.2, fun q => ⟨⟨h1, h2⟩, q⟩⟩
theorem e_LCONST {x : Int} {d kc ks : Nat} {ls : Lcs} {st : List AV} {h : Hp} {k : Nat → Nat → Lcs → List AV → Hp → Prop} (h1 : -9223372036854775808 ≤ x) (h2 : x ≤ 9223372036854775807) : xLCONST x d kc ks ls st h k = k kc ks ls (vl x :: st) h := propext ⟨fun q => q.2, fun q => ⟨⟨h1, h2⟩, q⟩⟩
theorem e_NULL {d kc ks : Nat} {ls : Lcs} {st : List AV} {h : Hp} {k : Nat → Nat → Lcs → List AV → Hp → Prop} : xNULL d kc ks ls st h k = k kc ks ls (vn :: st) h := rfl
theorem s_iconst {G : Gv} {M : Mt} {pc : Nat} {n : Int} (hd : decode M.2.1 pc = .ok (.iconst n, 1)) : Snd G M pc (pc + 1) (xICONST n) :=
  Snd.pure fun d kc ks ls st h k hx => ⟨vi n :: st, hx.2, fun arr hL hS => ⟨hS.cons hx.1, fun p e R s m args below meth c H locs cells slots Qf C w => lv_iconst C.1 C.2.1 hd rfl w⟩⟩
theorem s_bipush {G : Gv} {M : Mt} {pc : Nat} {n : Int} (hd : decode M.2.1 pc = .ok (.bipush n, 2)) (hv : (Int8.ofInt n).toInt32 = Int32.ofInt n) : Snd G M pc (pc + 2) (xICONST n) :=
  Snd.pure fun d kc ks ls st h k hx => ⟨vi n :: st, hx.2, fun arr hL hS => ⟨hS.cons hx.1, fun p e R s m args below meth c H locs cells slots Qf C w => lv_bipush C.1 C.2.1 hd hv w⟩⟩
theorem s_sipush {G : Gv} {M : Mt} {pc : Nat} {n : Int} (hd : decode M.2.1 pc = .ok (.sipush n, 3)) (hv : (Int16.ofInt n).toInt32 = Int32.ofInt n) : Snd G M pc (pc + 3) (xICONST n) :=
  Snd.pure fun d kc ks ls st h k hx => ⟨vi n :: st, hx.2, fun arr hL hS => ⟨hS.cons hx.1, fun p e R s m args below meth c H locs cells slots Qf C w => lv_sipush C.1 C.2.1 hd hv w⟩⟩
theorem s_lconst {G : Gv} {M : Mt} {pc : Nat} {n : Fin 2} {x : Int} (hd : decode M.2.1 pc = .ok (.lconst n, 1)) (hv : Int64.ofNat (n : Nat) = Int64.ofInt x) : Snd G M pc (pc + 1) (xLCONST x) :=
  Snd.pure fun d kc ks ls st h k hx => ⟨vl x :: st, hx.2, fun arr hL hS => ⟨hS.cons hx.1, fun p e R s m args below meth c H locs cells slots Qf C w => lv_lconst C.1 C.2.1 hd hv w⟩⟩
theorem s_ldc {G : Gv} {M : Mt} {pc index : Nat} {v : Int32} {x : Int} (hd : decode M.2.1 pc = .ok (.ldc index, 2)) (hw : Cond.constant M.1.cls index v ∈ gtb) (hv : v = Int32.ofInt x) : Snd G M pc (pc + 2) (xICONST x) :=
  Snd.pure fun d kc ks ls st h k hx => ⟨vi x :: st, hx.2, fun arr hL hS => ⟨hS.cons hx.1, fun p e R s m args below meth c H locs cells slots Qf C w => by
    subst hv
    exact lv_ldc C.1 C.2.1 C.2.2.2.2.2.1 (C.2.2.2.2.2.2.2.1 _ hw) hd w⟩⟩
theorem s_ldc2 {G : Gv} {M : Mt} {pc index : Nat} {v : Int64} {x : Int} (hd : decode M.2.1 pc = .ok (.ldc2_w index, 3)) (hw : Cond.constantLong M.1.cls index v ∈ gtb) (hv : v = Int64.ofInt x) : Snd G M pc (pc + 3) (xLCONST x) :=
  Snd.pure fun d kc ks ls st h k hx => ⟨vl x :: st, hx.2, fun arr hL hS => ⟨hS.cons hx.1, fun p e R s m args below meth c H locs cells slots Qf C w => by
    subst hv
    exact lv_ldc2 C.1 C.2.1 C.2.2.2.2.2.1 (C.2.2.2.2.2.2.2.1 _ hw) hd w⟩⟩
theorem s_null {G : Gv} {M : Mt} {pc : Nat} (hd : decode M.2.1 pc = .ok (.aconst_null, 1)) : Snd G M pc (pc + 1) xNULL :=
  Snd.pure fun d kc ks ls st h k hx => ⟨vn :: st, hx, fun arr hL hS => ⟨hS.cons trivial, fun p e R s m args below meth c H locs cells slots Qf C w => lv_null C.1 C.2.1 hd w⟩⟩
theorem s_iload_n {G : Gv} {M : Mt} {pc n : Nat} {k4 : Fin 4} (hd : decode M.2.1 pc = .ok (.iload_n k4, 1)) (hi : (k4 : Nat) = n) : Snd G M pc (pc + 1) (xILOAD n) :=
  Snd.pure fun d kc ks ls st h k ⟨x, h1, h2⟩ => ⟨vi x :: st, h2, fun arr hL hS => ⟨hS.cons (hL.2.2 _ _ h1).2, fun p e R s m args below meth c H locs cells slots Qf C w => lv_iload_n C.1 C.2.1 hd hi (hL.2.2 _ _ h1).1 w⟩⟩
theorem s_iload {G : Gv} {M : Mt} {pc n : Nat} (hd : decode M.2.1 pc = .ok (.iload n, 2)) : Snd G M pc (pc + 2) (xILOAD n) :=
  Snd.pure fun d kc ks ls st h k ⟨x, h1, h2⟩ => ⟨vi x :: st, h2, fun arr hL hS => ⟨hS.cons (hL.2.2 _ _ h1).2, fun p e R s m args below meth c H locs cells slots Qf C w => lv_iload C.1 C.2.1 hd (hL.2.2 _ _ h1).1 w⟩⟩
theorem s_lload_n {G : Gv} {M : Mt} {pc n : Nat} {k4 : Fin 4} (hd : decode M.2.1 pc = .ok (.lload_n k4, 1)) (hi : (k4 : Nat) = n) : Snd G M pc (pc + 1) (xLLOAD n) :=
  Snd.pure fun d kc ks ls st h k ⟨x, h1, h2⟩ => ⟨vl x :: st, h2, fun arr hL hS => ⟨hS.cons (hL.2.2 _ _ h1).2, fun p e R s m args below meth c H locs cells slots Qf C w => lv_lload_n C.1 C.2.1 hd hi (hL.2.2 _ _ h1).1 w⟩⟩
theorem s_lload {G : Gv} {M : Mt} {pc n : Nat} (hd : decode M.2.1 pc = .ok (.lload n, 2)) : Snd G M pc (pc + 2) (xLLOAD n) :=
  Snd.pure fun d kc ks ls st h k ⟨x, h1, h2⟩ => ⟨vl x :: st, h2, fun arr hL hS => ⟨hS.cons (hL.2.2 _ _ h1).2, fun p e R s m args below meth c H locs cells slots Qf C w => lv_lload C.1 C.2.1 hd (hL.2.2 _ _ h1).1 w⟩⟩
theorem s_aload_n {G : Gv} {M : Mt} {pc n : Nat} {k4 : Fin 4} (hd : decode M.2.1 pc = .ok (.aload_n k4, 1)) (hi : (k4 : Nat) = n) : Snd G M pc (pc + 1) (xALOAD n) :=
  Snd.pure fun d kc ks ls st h k ⟨x, h1, h2⟩ => ⟨vq x :: st, h2, fun arr hL hS => ⟨hS.cons trivial, fun p e R s m args below meth c H locs cells slots Qf C w => by
    have hl := (hL.2.2 _ _ h1).1
    cases x with
    | none => exact lv_aload_nN C.1 C.2.1 hd hi hl w
    | some a => exact lv_aload_n C.1 C.2.1 hd hi hl w⟩⟩
theorem s_aload {G : Gv} {M : Mt} {pc n : Nat} (hd : decode M.2.1 pc = .ok (.aload n, 2)) : Snd G M pc (pc + 2) (xALOAD n) :=
  Snd.pure fun d kc ks ls st h k ⟨x, h1, h2⟩ => ⟨vq x :: st, h2, fun arr hL hS => ⟨hS.cons trivial, fun p e R s m args below meth c H locs cells slots Qf C w => by
    have hl := (hL.2.2 _ _ h1).1
    cases x with
    | none => exact lv_aloadN C.1 C.2.1 hd hl w
    | some a => exact lv_aload C.1 C.2.1 hd hl w⟩⟩
theorem e_ILOAD {n : Nat} {x : Int} {d kc ks : Nat} {ls : Lcs} {st : List AV} {h : Hp} {k : Nat → Nat → Lcs → List AV → Hp → Prop} (hl : ls[n]? = some (some (vi x))) : xILOAD n d kc ks ls st h k = k kc ks ls (vi x :: st) h := propext ⟨fun ⟨y, h1, h2⟩ => by
    rw [hl] at h1
    cases h1
    exact h2, fun q => ⟨_, hl, q⟩⟩
theorem e_LLOAD {n : Nat} {x : Int} {d kc ks : Nat} {ls : Lcs} {st : List AV} {h : Hp} {k : Nat → Nat → Lcs → List AV → Hp → Prop} (hl : ls[n]? = some (some (vl x))) : xLLOAD n d kc ks ls st h k = k kc ks ls (vl x :: st) h := propext ⟨fun ⟨y, h1, h2⟩ => by
    rw [hl] at h1
    cases h1
    exact h2, fun q => ⟨_, hl, q⟩⟩
theorem e_ALOAD {n : Nat} {x : Nat} {d kc ks : Nat} {ls : Lcs} {st : List AV} {h : Hp} {k : Nat → Nat → Lcs → List AV → Hp → Prop} (hl : ls[n]? = some (some (vr x))) : xALOAD n d kc ks ls st h k = k kc ks ls (vr x :: st) h := propext ⟨fun ⟨y, h1, h2⟩ => by
    rw [hl] at h1
    cases h1
    exact h2, fun q => ⟨_, hl, q⟩⟩
theorem i_add (a b : Int) : Int32.ofInt (wr (a + b)) = Int32.ofInt a + Int32.ofInt b := by rw [i_wr, Int32.ofInt_add]
theorem i_sub (a b : Int) : Int32.ofInt (wr (a - b)) = Int32.ofInt a - Int32.ofInt b := by rw [i_wr, Int32.ofInt_sub]
theorem i_mul (a b : Int) : Int32.ofInt (wr (a * b)) = Int32.ofInt a * Int32.ofInt b := by rw [i_wr, Int32.ofInt_mul]
theorem i_neg (a : Int) : Int32.ofInt (wr (-a)) = -Int32.ofInt a := by rw [i_wr, Int32.ofInt_neg]
theorem l_add (a b : Int) : Int64.ofInt (wl (a + b)) = Int64.ofInt a + Int64.ofInt b := by rw [l_wl, Int64.ofInt_add]
theorem l_sub (a b : Int) : Int64.ofInt (wl (a - b)) = Int64.ofInt a - Int64.ofInt b := by rw [l_wl, Int64.ofInt_sub]
theorem l_mul (a b : Int) : Int64.ofInt (wl (a * b)) = Int64.ofInt a * Int64.ofInt b := by rw [l_wl, Int64.ofInt_mul]
theorem i_div {a b : Int} (ha : InR a) (hb : InR b) : Int32.ofInt (wr (Int.tdiv a b)) = Int32.ofInt a / Int32.ofInt b := by
  apply Int32.toInt_inj.mp
  rw [i_toInt (wr_in _), Int32.toInt_div, i_toInt ha, i_toInt hb]; rfl
theorem l_div {a b : Int} (ha : InL a) (hb : InL b) : Int64.ofInt (wl (Int.tdiv a b)) = Int64.ofInt a / Int64.ofInt b := by
  apply Int64.toInt_inj.mp
  rw [l_toInt (wl_in _), Int64.toInt_div, l_toInt ha, l_toInt hb]; rfl
theorem i_rem {a b : Int} (ha : InR a) (hb : InR b) : Int32.ofInt (wr (Int.tmod a b)) = Int32.ofInt a - Int32.ofInt a / Int32.ofInt b * Int32.ofInt b := by
  rw [← i_div ha hb, i_wr, i_wr, Int.tmod_def, Int32.ofInt_sub, Int.mul_comm b, Int32.ofInt_mul]
theorem l_rem {a b : Int} (ha : InL a) (hb : InL b) : Int64.ofInt (wl (Int.tmod a b)) = Int64.ofInt a - Int64.ofInt a / Int64.ofInt b * Int64.ofInt b := by
  rw [← l_div ha hb, l_wl, l_wl, Int.tmod_def, Int64.ofInt_sub, Int.mul_comm b, Int64.ofInt_mul]
theorem i_ne0 {a : Int} (ha : InR a) (h : a ≠ 0) : ¬ Int32.ofInt a = 0 := fun q => h ((i_eq ha inR0).mp q)
theorem l_ne0 {a : Int} (ha : InL a) (h : a ≠ 0) : ¬ Int64.ofInt a = 0 := fun q => h ((l_eq ha (by unfold InL; omega)).mp q)
def xIADD : PT := fun d kc ks ls st h k => ∃ b a st1, st = vi b :: vi a :: st1 ∧ k kc ks ls (vi (wr (a + b)) :: st1) h
theorem e_IADD {a b : Int} {d kc ks : Nat} {ls : Lcs} {st : List AV} {h : Hp} {k : Nat → Nat → Lcs → List AV → Hp → Prop} : xIADD d kc ks ls (vi b :: vi a :: st) h k = k kc ks ls (vi (wr (a + b)) :: st) h := propext ⟨fun ⟨_, _, _, h1, h2⟩ => by
    cases h1
    exact h2, fun q => ⟨_, _, _, rfl, q⟩⟩
theorem s_iadd {G : Gv} {M : Mt} {pc : Nat} (hd : decode M.2.1 pc = .ok (.iadd, 1)) : Snd G M pc (pc + 1) xIADD :=
  Snd.pure fun d kc ks ls st h k ⟨b, a, st1, he, hx⟩ => ⟨vi (wr (a + b)) :: st1, hx, fun arr hL hS => by
    subst he
    refine ⟨hS.tl.tl.cons (wr_in _), fun p e R s m args below meth c H locs cells slots Qf C w => ?_⟩
    refine lv_iadd C.1 C.2.1 hd ?_
    have e1 : rv (vi (wr (a + b))) = .int (Int32.ofInt a + Int32.ofInt b) := congrArg Value.int (i_add a b)
    rw [List.map_cons, e1] at w
    exact w⟩
def xISUB : PT := fun d kc ks ls st h k => ∃ b a st1, st = vi b :: vi a :: st1 ∧ k kc ks ls (vi (wr (a - b)) :: st1) h
theorem e_ISUB {a b : Int} {d kc ks : Nat} {ls : Lcs} {st : List AV} {h : Hp} {k : Nat → Nat → Lcs → List AV → Hp → Prop} : xISUB d kc ks ls (vi b :: vi a :: st) h k = k kc ks ls (vi (wr (a - b)) :: st) h := propext ⟨fun ⟨_, _, _, h1, h2⟩ => by
    cases h1
    exact h2, fun q => ⟨_, _, _, rfl, q⟩⟩
theorem s_isub {G : Gv} {M : Mt} {pc : Nat} (hd : decode M.2.1 pc = .ok (.isub, 1)) : Snd G M pc (pc + 1) xISUB :=
  Snd.pure fun d kc ks ls st h k ⟨b, a, st1, he, hx⟩ => ⟨vi (wr (a - b)) :: st1, hx, fun arr hL hS => by
    subst he
    refine ⟨hS.tl.tl.cons (wr_in _), fun p e R s m args below meth c H locs cells slots Qf C w => ?_⟩
    refine lv_isub C.1 C.2.1 hd ?_
    have e1 : rv (vi (wr (a - b))) = .int (Int32.ofInt a - Int32.ofInt b) := congrArg Value.int (i_sub a b)
    rw [List.map_cons, e1] at w
    exact w⟩
def xIMUL : PT := fun d kc ks ls st h k => ∃ b a st1, st = vi b :: vi a :: st1 ∧ k kc ks ls (vi (wr (a * b)) :: st1) h
theorem e_IMUL {a b : Int} {d kc ks : Nat} {ls : Lcs} {st : List AV} {h : Hp} {k : Nat → Nat → Lcs → List AV → Hp → Prop} : xIMUL d kc ks ls (vi b :: vi a :: st) h k = k kc ks ls (vi (wr (a * b)) :: st) h := propext ⟨fun ⟨_, _, _, h1, h2⟩ => by
    cases h1
    exact h2, fun q => ⟨_, _, _, rfl, q⟩⟩
theorem s_imul {G : Gv} {M : Mt} {pc : Nat} (hd : decode M.2.1 pc = .ok (.imul, 1)) : Snd G M pc (pc + 1) xIMUL :=
  Snd.pure fun d kc ks ls st h k ⟨b, a, st1, he, hx⟩ => ⟨vi (wr (a * b)) :: st1, hx, fun arr hL hS => by
    subst he
    refine ⟨hS.tl.tl.cons (wr_in _), fun p e R s m args below meth c H locs cells slots Qf C w => ?_⟩
    refine lv_imul C.1 C.2.1 hd ?_
    have e1 : rv (vi (wr (a * b))) = .int (Int32.ofInt a * Int32.ofInt b) := congrArg Value.int (i_mul a b)
    rw [List.map_cons, e1] at w
    exact w⟩
def xIDIV : PT := fun d kc ks ls st h k => ∃ b a st1, st = vi b :: vi a :: st1 ∧ b ≠ 0 ∧ k kc ks ls (vi (wr (Int.tdiv a b)) :: st1) h
theorem e_IDIV {a b : Int} {d kc ks : Nat} {ls : Lcs} {st : List AV} {h : Hp} {k : Nat → Nat → Lcs → List AV → Hp → Prop} (hb : b ≠ 0) : xIDIV d kc ks ls (vi b :: vi a :: st) h k = k kc ks ls (vi (wr (Int.tdiv a b)) :: st) h := propext ⟨fun ⟨_, _, _, h1, h2⟩ => by
    cases h1
    exact h2.2, fun q => ⟨_, _, _, rfl, hb, q⟩⟩
theorem s_idiv {G : Gv} {M : Mt} {pc : Nat} (hd : decode M.2.1 pc = .ok (.idiv, 1)) : Snd G M pc (pc + 1) xIDIV :=
  Snd.pure fun d kc ks ls st h k ⟨b, a, st1, he, hx⟩ => ⟨vi (wr (Int.tdiv a b)) :: st1, hx.2, fun arr hL hS => by
    subst he
    refine ⟨hS.tl.tl.cons (wr_in _), fun p e R s m args below meth c H locs cells slots Qf C w => ?_⟩
    refine lv_idiv C.1 C.2.1 hd (i_ne0 hS.hd hx.1) ?_
    have e1 : rv (vi (wr (Int.tdiv a b))) = .int (Int32.ofInt a / Int32.ofInt b) := congrArg Value.int (i_div hS.tl.hd hS.hd)
    rw [List.map_cons, e1] at w
    exact w⟩
def xIREM : PT := fun d kc ks ls st h k => ∃ b a st1, st = vi b :: vi a :: st1 ∧ b ≠ 0 ∧ k kc ks ls (vi (wr (Int.tmod a b)) :: st1) h
theorem e_IREM {a b : Int} {d kc ks : Nat} {ls : Lcs} {st : List AV} {h : Hp} {k : Nat → Nat → Lcs → List AV → Hp → Prop} (hb : b ≠ 0) : xIREM d kc ks ls (vi b :: vi a :: st) h k = k kc ks ls (vi (wr (Int.tmod a b)) :: st) h := propext ⟨fun ⟨_, _, _, h1, h2⟩ => by
    cases h1
    exact h2.2, fun q => ⟨_, _, _, rfl, hb, q⟩⟩
theorem s_irem {G : Gv} {M : Mt} {pc : Nat} (hd : decode M.2.1 pc = .ok (.irem, 1)) : Snd G M pc (pc + 1) xIREM :=
  Snd.pure fun d kc ks ls st h k ⟨b, a, st1, he, hx⟩ => ⟨vi (wr (Int.tmod a b)) :: st1, hx.2, fun arr hL hS => by
    subst he
    refine ⟨hS.tl.tl.cons (wr_in _), fun p e R s m args below meth c H locs cells slots Qf C w => ?_⟩
    refine lv_irem C.1 C.2.1 hd (i_ne0 hS.hd hx.1) ?_
    have e1 : rv (vi (wr (Int.tmod a b))) = .int (Int32.ofInt a - Int32.ofInt a / Int32.ofInt b * Int32.ofInt b) := congrArg Value.int (i_rem hS.tl.hd hS.hd)
    rw [List.map_cons, e1] at w
    exact w⟩
def xLADD : PT := fun d kc ks ls st h k => ∃ b a st1, st = vl b :: vl a :: st1 ∧ k kc ks ls (vl (wl (a + b)) :: st1) h
theorem e_LADD {a b : Int} {d kc ks : Nat} {ls : Lcs} {st : List AV} {h : Hp} {k : Nat → Nat → Lcs → List AV → Hp → Prop} : xLADD d kc ks ls (vl b :: vl a :: st) h k = k kc ks ls (vl (wl (a + b)) :: st) h := propext ⟨fun ⟨_, _, _, h1, h2⟩ => by
    cases h1
    exact h2, fun q => ⟨_, _, _, rfl, q⟩⟩
theorem s_ladd {G : Gv} {M : Mt} {pc : Nat} (hd : decode M.2.1 pc = .ok (.ladd, 1)) : Snd G M pc (pc + 1) xLADD :=
  Snd.pure fun d kc ks ls st h k ⟨b, a, st1, he, hx⟩ => ⟨vl (wl (a + b)) :: st1, hx, fun arr hL hS => by
    subst he
    refine ⟨hS.tl.tl.cons (wl_in _), fun p e R s m args below meth c H locs cells slots Qf C w => ?_⟩
    refine lv_ladd C.1 C.2.1 hd ?_
    have e1 : rv (vl (wl (a + b))) = .long (Int64.ofInt a + Int64.ofInt b) := congrArg Value.long (l_add a b)
    rw [List.map_cons, e1] at w
    exact w⟩
def xLSUB : PT := fun d kc ks ls st h k => ∃ b a st1, st = vl b :: vl a :: st1 ∧ k kc ks ls (vl (wl (a - b)) :: st1) h
theorem e_LSUB {a b : Int} {d kc ks : Nat} {ls : Lcs} {st : List AV} {h : Hp} {k : Nat → Nat → Lcs → List AV → Hp → Prop} : xLSUB d kc ks ls (vl b :: vl a :: st) h k = k kc ks ls (vl (wl (a - b)) :: st) h := propext ⟨fun ⟨_, _, _, h1, h2⟩ => by
    cases h1
    exact h2, fun q => ⟨_, _, _, rfl, q⟩⟩
theorem s_lsub {G : Gv} {M : Mt} {pc : Nat} (hd : decode M.2.1 pc = .ok (.lsub, 1)) : Snd G M pc (pc + 1) xLSUB :=
  Snd.pure fun d kc ks ls st h k ⟨b, a, st1, he, hx⟩ => ⟨vl (wl (a - b)) :: st1, hx, fun arr hL hS => by
    subst he
    refine ⟨hS.tl.tl.cons (wl_in _), fun p e R s m args below meth c H locs cells slots Qf C w => ?_⟩
    refine lv_lsub C.1 C.2.1 hd ?_
    have e1 : rv (vl (wl (a - b))) = .long (Int64.ofInt a - Int64.ofInt b) := congrArg Value.long (l_sub a b)
    rw [List.map_cons, e1] at w
    exact w⟩
def xLMUL : PT := fun d kc ks ls st h k => ∃ b a st1, st = vl b :: vl a :: st1 ∧ k kc ks ls (vl (wl (a * b)) :: st1) h
theorem e_LMUL {a b : Int} {d kc ks : Nat} {ls : Lcs} {st : List AV} {h : Hp} {k : Nat → Nat → Lcs → List AV → Hp → Prop} : xLMUL d kc ks ls (vl b :: vl a :: st) h k = k kc ks ls (vl (wl (a * b)) :: st) h := propext ⟨fun ⟨_, _, _, h1, h2⟩ => by
    cases h1
    exact h2, fun q => ⟨_, _, _, rfl, q⟩⟩
theorem s_lmul {G : Gv} {M : Mt} {pc : Nat} (hd : decode M.2.1 pc = .ok (.lmul, 1)) : Snd G M pc (pc + 1) xLMUL :=
  Snd.pure fun d kc ks ls st h k ⟨b, a, st1, he, hx⟩ => ⟨vl (wl (a * b)) :: st1, hx, fun arr hL hS => by
    subst he
    refine ⟨hS.tl.tl.cons (wl_in _), fun p e R s m args below meth c H locs cells slots Qf C w => ?_⟩
    refine lv_lmul C.1 C.2.1 hd ?_
    have e1 : rv (vl (wl (a * b))) = .long (Int64.ofInt a * Int64.ofInt b) := congrArg Value.long (l_mul a b)
    rw [List.map_cons, e1] at w
    exact w⟩
def xLDIV : PT := fun d kc ks ls st h k => ∃ b a st1, st = vl b :: vl a :: st1 ∧ b ≠ 0 ∧ k kc ks ls (vl (wl (Int.tdiv a b)) :: st1) h
theorem e_LDIV {a b : Int} {d kc ks : Nat} {ls : Lcs} {st : List AV} {h : Hp} {k : Nat → Nat → Lcs → List AV → Hp → Prop} (hb : b ≠ 0) : xLDIV d kc ks ls (vl b :: vl a :: st) h k = k kc ks ls (vl (wl (Int.tdiv a b)) :: st) h := propext ⟨fun ⟨_, _, _, h1, h2⟩ => by
    cases h1
    exact h2.2, fun q => ⟨_, _, _, rfl, hb, q⟩⟩
theorem s_ldiv {G : Gv} {M : Mt} {pc : Nat} (hd : decode M.2.1 pc = .ok (.ldiv, 1)) : Snd G M pc (pc + 1) xLDIV :=
  Snd.pure fun d kc ks ls st h k ⟨b, a, st1, he, hx⟩ => ⟨vl (wl (Int.tdiv a b)) :: st1, hx.2, fun arr hL hS => by
    subst he
    refine ⟨hS.tl.tl.cons (wl_in _), fun p e R s m args below meth c H locs cells slots Qf C w => ?_⟩
    refine lv_ldiv C.1 C.2.1 hd (l_ne0 hS.hd hx.1) ?_
    have e1 : rv (vl (wl (Int.tdiv a b))) = .long (Int64.ofInt a / Int64.ofInt b) := congrArg Value.long (l_div hS.tl.hd hS.hd)
    rw [List.map_cons, e1] at w
    exact w⟩
def xLREM : PT := fun d kc ks ls st h k => ∃ b a st1, st = vl b :: vl a :: st1 ∧ b ≠ 0 ∧ k kc ks ls (vl (wl (Int.tmod a b)) :: st1) h
theorem e_LREM {a b : Int} {d kc ks : Nat} {ls : Lcs} {st : List AV} {h : Hp} {k : Nat → Nat → Lcs → List AV → Hp → Prop} (hb : b ≠ 0) : xLREM d kc ks ls (vl b :: vl a :: st) h k = k kc ks ls (vl (wl (Int.tmod a b)) :: st) h := propext ⟨fun ⟨_, _, _, h1, h2⟩ => by
    cases h1
    exact h2.2, fun q => ⟨_, _, _, rfl, hb, q⟩⟩
theorem s_lrem {G : Gv} {M : Mt} {pc : Nat} (hd : decode M.2.1 pc = .ok (.lrem, 1)) : Snd G M pc (pc + 1) xLREM :=
  Snd.pure fun d kc ks ls st h k ⟨b, a, st1, he, hx⟩ => ⟨vl (wl (Int.tmod a b)) :: st1, hx.2, fun arr hL hS => by
    subst he
    refine ⟨hS.tl.tl.cons (wl_in _), fun p e R s m args below meth c H locs cells slots Qf C w => ?_⟩
    refine lv_lrem C.1 C.2.1 hd (l_ne0 hS.hd hx.1) ?_
    have e1 : rv (vl (wl (Int.tmod a b))) = .long (Int64.ofInt a - Int64.ofInt a / Int64.ofInt b * Int64.ofInt b) := congrArg Value.long (l_rem hS.tl.hd hS.hd)
    rw [List.map_cons, e1] at w
    exact w⟩
def xIAND : PT := fun d kc ks ls st h k => ∃ b a st1, st = vi b :: vi a :: st1 ∧ k kc ks ls (vi (iand a b) :: st1) h
theorem e_IAND {a b : Int} {d kc ks : Nat} {ls : Lcs} {st : List AV} {h : Hp} {k : Nat → Nat → Lcs → List AV → Hp → Prop} : xIAND d kc ks ls (vi b :: vi a :: st) h k = k kc ks ls (vi (iand a b) :: st) h := propext ⟨fun ⟨_, _, _, h1, h2⟩ => by
    cases h1
    exact h2, fun q => ⟨_, _, _, rfl, q⟩⟩
theorem s_iand {G : Gv} {M : Mt} {pc : Nat} (hd : decode M.2.1 pc = .ok (.iand, 1)) : Snd G M pc (pc + 1) xIAND :=
  Snd.pure fun d kc ks ls st h k ⟨b, a, st1, he, hx⟩ => ⟨vi (iand a b) :: st1, hx, fun arr hL hS => by
    subst he
    refine ⟨hS.tl.tl.cons (inR_toInt _), fun p e R s m args below meth c H locs cells slots Qf C w => ?_⟩
    refine lv_iand C.1 C.2.1 hd ?_
    have e1 : rv (vi (iand a b)) = .int (Int32.ofInt a &&& Int32.ofInt b) := congrArg Value.int (i_of _)
    rw [List.map_cons, e1] at w
    exact w⟩
def xIOR : PT := fun d kc ks ls st h k => ∃ b a st1, st = vi b :: vi a :: st1 ∧ k kc ks ls (vi (ior a b) :: st1) h
theorem e_IOR {a b : Int} {d kc ks : Nat} {ls : Lcs} {st : List AV} {h : Hp} {k : Nat → Nat → Lcs → List AV → Hp → Prop} : xIOR d kc ks ls (vi b :: vi a :: st) h k = k kc ks ls (vi (ior a b) :: st) h := propext ⟨fun ⟨_, _, _, h1, h2⟩ => by
    cases h1
    exact h2, fun q => ⟨_, _, _, rfl, q⟩⟩
theorem s_ior {G : Gv} {M : Mt} {pc : Nat} (hd : decode M.2.1 pc = .ok (.ior, 1)) : Snd G M pc (pc + 1) xIOR :=
  Snd.pure fun d kc ks ls st h k ⟨b, a, st1, he, hx⟩ => ⟨vi (ior a b) :: st1, hx, fun arr hL hS => by
    subst he
    refine ⟨hS.tl.tl.cons (inR_toInt _), fun p e R s m args below meth c H locs cells slots Qf C w => ?_⟩
    refine lv_ior C.1 C.2.1 hd ?_
    have e1 : rv (vi (ior a b)) = .int (Int32.ofInt a ||| Int32.ofInt b) := congrArg Value.int (i_of _)
    rw [List.map_cons, e1] at w
    exact w⟩
def xIXOR : PT := fun d kc ks ls st h k => ∃ b a st1, st = vi b :: vi a :: st1 ∧ k kc ks ls (vi (ixor a b) :: st1) h
theorem e_IXOR {a b : Int} {d kc ks : Nat} {ls : Lcs} {st : List AV} {h : Hp} {k : Nat → Nat → Lcs → List AV → Hp → Prop} : xIXOR d kc ks ls (vi b :: vi a :: st) h k = k kc ks ls (vi (ixor a b) :: st) h := propext ⟨fun ⟨_, _, _, h1, h2⟩ => by
    cases h1
    exact h2, fun q => ⟨_, _, _, rfl, q⟩⟩
theorem s_ixor {G : Gv} {M : Mt} {pc : Nat} (hd : decode M.2.1 pc = .ok (.ixor, 1)) : Snd G M pc (pc + 1) xIXOR :=
  Snd.pure fun d kc ks ls st h k ⟨b, a, st1, he, hx⟩ => ⟨vi (ixor a b) :: st1, hx, fun arr hL hS => by
    subst he
    refine ⟨hS.tl.tl.cons (inR_toInt _), fun p e R s m args below meth c H locs cells slots Qf C w => ?_⟩
    refine lv_ixor C.1 C.2.1 hd ?_
    have e1 : rv (vi (ixor a b)) = .int (Int32.ofInt a ^^^ Int32.ofInt b) := congrArg Value.int (i_of _)
    rw [List.map_cons, e1] at w
    exact w⟩
def xISHL : PT := fun d kc ks ls st h k => ∃ b a st1, st = vi b :: vi a :: st1 ∧ k kc ks ls (vi (ishl a b) :: st1) h
theorem e_ISHL {a b : Int} {d kc ks : Nat} {ls : Lcs} {st : List AV} {h : Hp} {k : Nat → Nat → Lcs → List AV → Hp → Prop} : xISHL d kc ks ls (vi b :: vi a :: st) h k = k kc ks ls (vi (ishl a b) :: st) h := propext ⟨fun ⟨_, _, _, h1, h2⟩ => by
    cases h1
    exact h2, fun q => ⟨_, _, _, rfl, q⟩⟩
theorem s_ishl {G : Gv} {M : Mt} {pc : Nat} (hd : decode M.2.1 pc = .ok (.ishl, 1)) : Snd G M pc (pc + 1) xISHL :=
  Snd.pure fun d kc ks ls st h k ⟨b, a, st1, he, hx⟩ => ⟨vi (ishl a b) :: st1, hx, fun arr hL hS => by
    subst he
    refine ⟨hS.tl.tl.cons (inR_toInt _), fun p e R s m args below meth c H locs cells slots Qf C w => ?_⟩
    refine lv_ishl C.1 C.2.1 hd ?_
    have e1 : rv (vi (ishl a b)) = .int (Int32.ofInt a <<< (Int32.ofInt b &&& 31)) := congrArg Value.int (i_of _)
    rw [List.map_cons, e1] at w
    exact w⟩
def xISHR : PT := fun d kc ks ls st h k => ∃ b a st1, st = vi b :: vi a :: st1 ∧ k kc ks ls (vi (ishr a b) :: st1) h
theorem e_ISHR {a b : Int} {d kc ks : Nat} {ls : Lcs} {st : List AV} {h : Hp} {k : Nat → Nat → Lcs → List AV → Hp → Prop} : xISHR d kc ks ls (vi b :: vi a :: st) h k = k kc ks ls (vi (ishr a b) :: st) h := propext ⟨fun ⟨_, _, _, h1, h2⟩ => by
    cases h1
    exact h2, fun q => ⟨_, _, _, rfl, q⟩⟩
theorem s_ishr {G : Gv} {M : Mt} {pc : Nat} (hd : decode M.2.1 pc = .ok (.ishr, 1)) : Snd G M pc (pc + 1) xISHR :=
  Snd.pure fun d kc ks ls st h k ⟨b, a, st1, he, hx⟩ => ⟨vi (ishr a b) :: st1, hx, fun arr hL hS => by
    subst he
    refine ⟨hS.tl.tl.cons (inR_toInt _), fun p e R s m args below meth c H locs cells slots Qf C w => ?_⟩
    refine lv_ishr C.1 C.2.1 hd ?_
    have e1 : rv (vi (ishr a b)) = .int (Int32.ofInt a >>> (Int32.ofInt b &&& 31)) := congrArg Value.int (i_of _)
    rw [List.map_cons, e1] at w
    exact w⟩
theorem icmp_in (a b : Int) : InR (icmp a b) := by
  unfold icmp InR
  split
  · omega
  · split <;> omega
theorem icmp_ok {a b : Int} (ha : InL a) (hb : InL b) : Int32.ofInt (icmp a b) = lg_cmp (Int64.ofInt a) (Int64.ofInt b) := by
  unfold icmp lg_cmp
  by_cases h1 : a < b
  · rw [if_pos h1, if_neg (fun q => by have := (l_lt hb ha).mp q; omega), if_neg (fun q => by have := (l_eq ha hb).mp q; omega)]; rfl
  · rw [if_neg h1]
    by_cases h2 : a = b
    · subst h2; rw [if_pos rfl, if_neg (fun q => h1 ((l_lt ha ha).mp q)), if_pos rfl]; rfl
    · rw [if_neg h2, if_pos ((l_lt hb ha).mpr (by omega))]; rfl
def xLCMP : PT := fun d kc ks ls st h k => ∃ b a st1, st = vl b :: vl a :: st1 ∧ k kc ks ls (vi (icmp a b) :: st1) h
theorem e_LCMP {a b : Int} {d kc ks : Nat} {ls : Lcs} {st : List AV} {h : Hp} {k : Nat → Nat → Lcs → List AV → Hp → Prop} : xLCMP d kc ks ls (vl b :: vl a :: st) h k = k kc ks ls (vi (icmp a b) :: st) h := propext ⟨fun ⟨_, _, _, h1, h2⟩ => by
    cases h1
    exact h2, fun q => ⟨_, _, _, rfl, q⟩⟩
theorem s_lcmp {G : Gv} {M : Mt} {pc : Nat} (hd : decode M.2.1 pc = .ok (.lcmp, 1)) : Snd G M pc (pc + 1) xLCMP :=
  Snd.pure fun d kc ks ls st h k ⟨b, a, st1, he, hx⟩ => ⟨vi (icmp a b) :: st1, hx, fun arr hL hS => by
    subst he
    refine ⟨hS.tl.tl.cons (icmp_in _ _), fun p e R s m args below meth c H locs cells slots Qf C w => ?_⟩
    refine W.lcmp C.1 C.2.1 hd ?_
    have e1 : rv (vi (icmp a b)) = .int (lg_cmp (Int64.ofInt a) (Int64.ofInt b)) := congrArg Value.int (icmp_ok hS.tl.hd hS.hd)
    rw [List.map_cons, e1] at w
    exact w⟩
def xINEG : PT := fun d kc ks ls st h k => ∃ a st1, st = vi a :: st1 ∧ k kc ks ls (vi (wr (-a)) :: st1) h
theorem e_INEG {a : Int} {d kc ks : Nat} {ls : Lcs} {st : List AV} {h : Hp} {k : Nat → Nat → Lcs → List AV → Hp → Prop} : xINEG d kc ks ls (vi a :: st) h k = k kc ks ls (vi (wr (-a)) :: st) h := propext ⟨fun ⟨_, _, h1, h2⟩ => by
    cases h1
    exact h2, fun q => ⟨_, _, rfl, q⟩⟩
theorem s_ineg {G : Gv} {M : Mt} {pc : Nat} (hd : decode M.2.1 pc = .ok (.ineg, 1)) : Snd G M pc (pc + 1) xINEG :=
  Snd.pure fun d kc ks ls st h k ⟨a, st1, he, hx⟩ => ⟨vi (wr (-a)) :: st1, hx, fun arr hL hS => by
    subst he
    refine ⟨hS.tl.cons (wr_in _), fun p e R s m args below meth c H locs cells slots Qf C w => ?_⟩
    have e1 : rv (vi (wr (-a))) = .int (-Int32.ofInt a) := congrArg Value.int (i_neg a)
    rw [List.map_cons, e1] at w
    exact lv_ineg C.1 C.2.1 hd w⟩
theorem i2l_ok {a : Int} (ha : InR a) : Int64.ofInt a = (Int32.ofInt a).toInt64 := by
  apply Int64.toInt_inj.mp
  rw [Int32.toInt_toInt64, i_toInt ha, l_toInt (by unfold InR at ha; unfold InL; omega)]
theorem l2i_ok {a : Int} (ha : InL a) : Int32.ofInt (wr a) = (Int64.ofInt a).toInt32 := by
  apply Int32.toInt_inj.mp
  rw [i_toInt (wr_in _), Int64.toInt_toInt32, l_toInt ha]; rfl
def xI2L : PT := fun d kc ks ls st h k => ∃ a st1, st = vi a :: st1 ∧ k kc ks ls (vl (a) :: st1) h
theorem e_I2L {a : Int} {d kc ks : Nat} {ls : Lcs} {st : List AV} {h : Hp} {k : Nat → Nat → Lcs → List AV → Hp → Prop} : xI2L d kc ks ls (vi a :: st) h k = k kc ks ls (vl (a) :: st) h := propext ⟨fun ⟨_, _, h1, h2⟩ => by
    cases h1
    exact h2, fun q => ⟨_, _, rfl, q⟩⟩
theorem s_i2l {G : Gv} {M : Mt} {pc : Nat} (hd : decode M.2.1 pc = .ok (.i2l, 1)) : Snd G M pc (pc + 1) xI2L :=
  Snd.pure fun d kc ks ls st h k ⟨a, st1, he, hx⟩ => ⟨vl (a) :: st1, hx, fun arr hL hS => by
    subst he
    refine ⟨hS.tl.cons (show InL a from by have := hS.hd; unfold okv vi InR at this; unfold InL; omega), fun p e R s m args below meth c H locs cells slots Qf C w => ?_⟩
    have e1 : rv (vl (a)) = .long (Int32.ofInt a).toInt64 := congrArg Value.long (i2l_ok hS.hd)
    rw [List.map_cons, e1] at w
    exact lv_i2l C.1 C.2.1 hd rfl w⟩
def xL2I : PT := fun d kc ks ls st h k => ∃ a st1, st = vl a :: st1 ∧ k kc ks ls (vi (wr a) :: st1) h
theorem e_L2I {a : Int} {d kc ks : Nat} {ls : Lcs} {st : List AV} {h : Hp} {k : Nat → Nat → Lcs → List AV → Hp → Prop} : xL2I d kc ks ls (vl a :: st) h k = k kc ks ls (vi (wr a) :: st) h := propext ⟨fun ⟨_, _, h1, h2⟩ => by
    cases h1
    exact h2, fun q => ⟨_, _, rfl, q⟩⟩
theorem s_l2i {G : Gv} {M : Mt} {pc : Nat} (hd : decode M.2.1 pc = .ok (.l2i, 1)) : Snd G M pc (pc + 1) xL2I :=
  Snd.pure fun d kc ks ls st h k ⟨a, st1, he, hx⟩ => ⟨vi (wr a) :: st1, hx, fun arr hL hS => by
    subst he
    refine ⟨hS.tl.cons (wr_in _), fun p e R s m args below meth c H locs cells slots Qf C w => ?_⟩
    have e1 : rv (vi (wr a)) = .int (Int64.ofInt a).toInt32 := congrArg Value.int (l2i_ok hS.hd)
    rw [List.map_cons, e1] at w
    exact lv_l2i C.1 C.2.1 hd rfl w⟩
def xDUP : PT := fun d kc ks ls st h k => ∃ v st1, st = v :: st1 ∧ (rv v).category = 1 ∧ k kc ks ls (v :: v :: st1) h
def xPOP : PT := fun d kc ks ls st h k => ∃ v st1, st = v :: st1 ∧ (rv v).category = 1 ∧ k kc ks ls st1 h
def xDUP2 : PT := fun d kc ks ls st h k => ∃ v w st1, st = v :: w :: st1 ∧ (rv v).category = 1 ∧ (rv w).category = 1 ∧ k kc ks ls (v :: w :: v :: w :: st1) h
theorem c_vi (x : Int) : (rv (vi x)).category = 1 := rfl
theorem c_vr (x : Nat) : (rv (vr x)).category = 1 := rfl
theorem c_vq (x : Option Nat) : (rv (vq x)).category = 1 := by cases x <;> rfl
theorem e_DUPi {x : Int} {d kc ks : Nat} {ls : Lcs} {st : List AV} {h : Hp} {k : Nat → Nat → Lcs → List AV → Hp → Prop} : xDUP d kc ks ls (vi x :: st) h k = k kc ks ls (vi x :: vi x :: st) h := propext ⟨fun ⟨_, _, h1, _, h2⟩ => by cases h1; exact h2, fun q => ⟨_, _, rfl, rfl, q⟩⟩
theorem e_DUPr {x : Nat} {d kc ks : Nat} {ls : Lcs} {st : List AV} {h : Hp} {k : Nat → Nat → Lcs → List AV → Hp → Prop} : xDUP d kc ks ls (vr x :: st) h k = k kc ks ls (vr x :: vr x :: st) h := propext ⟨fun ⟨_, _, h1, _, h2⟩ => by cases h1; exact h2, fun q => ⟨_, _, rfl, rfl, q⟩⟩
theorem e_POPi {x : Int} {d kc ks : Nat} {ls : Lcs} {st : List AV} {h : Hp} {k : Nat → Nat → Lcs → List AV → Hp → Prop} : xPOP d kc ks ls (vi x :: st) h k = k kc ks ls st h := propext ⟨fun ⟨_, _, h1, _, h2⟩ => by cases h1; exact h2, fun q => ⟨_, _, rfl, rfl, q⟩⟩
theorem e_POPr {x : Nat} {d kc ks : Nat} {ls : Lcs} {st : List AV} {h : Hp} {k : Nat → Nat → Lcs → List AV → Hp → Prop} : xPOP d kc ks ls (vr x :: st) h k = k kc ks ls st h := propext ⟨fun ⟨_, _, h1, _, h2⟩ => by cases h1; exact h2, fun q => ⟨_, _, rfl, rfl, q⟩⟩
theorem e_DUP2 {x : Int} {y : Nat} {d kc ks : Nat} {ls : Lcs} {st : List AV} {h : Hp} {k : Nat → Nat → Lcs → List AV → Hp → Prop} : xDUP2 d kc ks ls (vi x :: vr y :: st) h k = k kc ks ls (vi x :: vr y :: vi x :: vr y :: st) h := propext ⟨fun ⟨_, _, _, h1, _, _, h2⟩ => by cases h1; exact h2, fun q => ⟨_, _, _, rfl, rfl, rfl, q⟩⟩
theorem s_dup {G : Gv} {M : Mt} {pc : Nat} (hd : decode M.2.1 pc = .ok (.dup, 1)) : Snd G M pc (pc + 1) xDUP :=
  Snd.pure fun d kc ks ls st h k ⟨v, st1, he, hc, hx⟩ => ⟨v :: v :: st1, hx, fun arr hL hS => by
    subst he
    exact ⟨hS.cons hS.hd, fun p e R s m args below meth c H locs cells slots Qf C w => lv_dup C.1 C.2.1 hd hc w⟩⟩
theorem s_pop {G : Gv} {M : Mt} {pc : Nat} (hd : decode M.2.1 pc = .ok (.pop, 1)) : Snd G M pc (pc + 1) xPOP :=
  Snd.pure fun d kc ks ls st h k ⟨v, st1, he, hc, hx⟩ => ⟨st1, hx, fun arr hL hS => by
    subst he
    exact ⟨hS.tl, fun p e R s m args below meth c H locs cells slots Qf C w => lv_pop C.1 C.2.1 hd hc w⟩⟩
theorem s_dup2 {G : Gv} {M : Mt} {pc : Nat} (hd : decode M.2.1 pc = .ok (.dup2, 1)) : Snd G M pc (pc + 1) xDUP2 :=
  Snd.pure fun d kc ks ls st h k ⟨v, w, st1, he, hc, hc2, hx⟩ => ⟨v :: w :: v :: w :: st1, hx, fun arr hL hS => by
    subst he
    exact ⟨(hS.cons hS.tl.hd).cons hS.hd, fun p e R s m args below meth c H locs cells slots Qf C w => lv_dup2_11 C.1 C.2.1 hd hc hc2 w⟩⟩
def lvOf (ls : Lcs) : List (Nat × Value) := (List.range ls.length).filterMap (fun i => match ls[i]? with | some (some v) => some (i, rv v) | _ => none)
theorem lvOf_in {ls : Lcs} {i : Nat} {v : AV} (h : ls[i]? = some (some v)) : (i, rv v) ∈ lvOf ls := by
  refine List.mem_filterMap.mpr ⟨i, List.mem_range.mpr (List.getElem?_eq_some_iff.mp h).1, ?_⟩
  rw [h]
theorem lvOf_of {ls : Lcs} {q : Nat × Value} (h : q ∈ lvOf ls) : ∃ v, ls[q.1]? = some (some v) ∧ q.2 = rv v := by
  obtain ⟨i, -, h2⟩ := List.mem_filterMap.mp h
  split at h2
  · rename_i v hv
    cases h2
    exact ⟨v, hv, rfl⟩
  · cases h2
theorem LH.has {arr : Array Slot} {ls : Lcs} (h : LH arr ls) : lv_has arr arr.size (lvOf ls) := ⟨rfl, h.2.1, fun q hq => by
  obtain ⟨v, h1, h2⟩ := lvOf_of hq
  rw [h2]
  exact (h.2.2 _ _ h1).1⟩
theorem cat_lg (w : AV) : (rv w).category = 2 → isLg (some w) = true := by
  rcases w with x | x | x
  · intro h; cases h
  · intro _; rfl
  · intro h; rw [rv_cat1r] at h; cases h
theorem LH.set {arr arr' : Array Slot} {ls : Lcs} {n : Nat} {v : AV} (h : LH arr ls) (hn : n < ls.length) (hv : okv v) (h' : lv_has arr' arr.size ((n, rv v) :: (lvOf ls).filter (fun q => !(q.1 == n) && !(q.1 + 1 == n && q.2.category == 2)))) : LH arr' (setL ls n v) := by
  refine ⟨by rw [h'.1, setL_len, h.1], h'.2.1, fun i w hi => ?_⟩
  rcases setL_get ls n v w hn i hi with ⟨h1, h2⟩ | ⟨h1, h2, h3⟩
  · subst h1; subst h2; exact ⟨h'.2.2 _ List.mem_cons_self, hv⟩
  · refine ⟨h'.2.2 (i, rv w) (List.mem_cons_of_mem _ (List.mem_filter.mpr ⟨lvOf_in h2, ?_⟩)), (h.2.2 i w h2).2⟩
    simp only [Bool.and_eq_true, Bool.not_eq_true', beq_eq_false_iff_ne, ne_eq, Bool.and_eq_false_iff]
    refine ⟨h1, ?_⟩
    by_cases hq : i + 1 = n
    · exact Or.inr (fun hc => h3 ⟨hq, cat_lg w hc⟩)
    · exact Or.inl hq
theorem LH.set2 {arr arr' : Array Slot} {ls : Lcs} {n : Nat} {v : AV} (h : LH arr ls) (hn : n + 1 < ls.length) (hv : okv v) (h' : lv_has arr' arr.size ((n, rv v) :: (lvOf ls).filter (fun q => !(q.1 == n) && (!(q.1 == n + 1) && !(q.1 + 1 == n && q.2.category == 2))))) : LH arr' (setL2 ls n v) := by
  refine ⟨by rw [h'.1, setL2_len, h.1], h'.2.1, fun i w hi => ?_⟩
  rcases setL2_get ls n v w hn i hi with ⟨h1, h2⟩ | ⟨h1, h2, h3, h4⟩
  · subst h1; subst h2; exact ⟨h'.2.2 _ List.mem_cons_self, hv⟩
  · refine ⟨h'.2.2 (i, rv w) (List.mem_cons_of_mem _ (List.mem_filter.mpr ⟨lvOf_in h3, ?_⟩)), (h.2.2 i w h3).2⟩
    simp only [Bool.and_eq_true, Bool.not_eq_true', beq_eq_false_iff_ne, ne_eq, Bool.and_eq_false_iff]
    refine ⟨h1, h2, ?_⟩
    by_cases hq : i + 1 = n
    · exact Or.inr (fun hc => h4 ⟨hq, cat_lg w hc⟩)
    · exact Or.inl hq
theorem Snd.loc {G : Gv} {M : Mt} {pc pc' : Nat} {x : PT} (hx : ∀ d kc ks ls st h k, x d kc ks ls st h k → ∃ ls' st', k kc ks ls' st' h ∧ ∀ arr, LH arr ls → SH st → SH st' ∧
    ∀ p e R s m args below meth c H locs cells slots Qf, Ctx G M p s m args meth c → (∀ arr', arr'.size = arr.size → LH arr' ls' → W p (gLa G) e R s m args below meth c H locs cells slots Qf (F0 m pc' arr' (st'.map rv))) → W p (gLa G) e R s m args below meth c H locs cells slots Qf (F0 m pc arr (st.map rv))) : Snd G M pc pc' x := by
  intro d Q k hk kc ks ls st h hxx
  obtain ⟨ls', st', hk', hr⟩ := hx d kc ks ls st h k hxx
  intro p e R s m args below meth c C hd1 hd2 mc ms h1 h2 H locs cells slots arr h3 h4 hS hL hz hLH hSH
  obtain ⟨hs', hW⟩ := hr arr hLH hSH
  exact hW _ _ _ _ _ _ _ _ _ _ _ _ _ _ C (fun arr' ha' hL' => hk _ _ _ _ _ hk' p e R s m args below meth c C hd1 hd2 mc ms h1 h2 H locs cells slots arr' h3 h4 hS hL (ha'.trans hz) hL' hs')
def xISTORE (n : Nat) : PT := fun d kc ks ls st h k => ∃ x st1, st = vi x :: st1 ∧ n < ls.length ∧ k kc ks (setL ls n (vi x)) st1 h
def xASTORE (n : Nat) : PT := fun d kc ks ls st h k => ∃ x st1, st = vq x :: st1 ∧ n < ls.length ∧ k kc ks (setL ls n (vq x)) st1 h
def xLSTORE (n : Nat) : PT := fun d kc ks ls st h k => ∃ x st1, st = vl x :: st1 ∧ n + 1 < ls.length ∧ k kc ks (setL2 ls n (vl x)) st1 h
def xIINC (n : Nat) (c : Int) : PT := fun d kc ks ls st h k => ∃ x, ls[n]? = some (some (vi x)) ∧ k kc ks (setL ls n (vi (wr (x + c)))) st h
theorem e_ISTORE {n : Nat} {x : Int} {d kc ks : Nat} {ls : Lcs} {st : List AV} {h : Hp} {k : Nat → Nat → Lcs → List AV → Hp → Prop} (hn : n < ls.length) : xISTORE n d kc ks ls (vi x :: st) h k = k kc ks (setL ls n (vi x)) st h := propext ⟨fun ⟨_, _, h1, _, h2⟩ => by cases h1; exact h2, fun q => ⟨_, _, rfl, hn, q⟩⟩
theorem e_ASTORE {n : Nat} {x : Nat} {d kc ks : Nat} {ls : Lcs} {st : List AV} {h : Hp} {k : Nat → Nat → Lcs → List AV → Hp → Prop} (hn : n < ls.length) : xASTORE n d kc ks ls (vr x :: st) h k = k kc ks (setL ls n (vr x)) st h := propext ⟨fun ⟨_, _, h1, _, h2⟩ => by cases h1; exact h2, fun q => ⟨_, _, rfl, hn, q⟩⟩
theorem e_LSTORE {n : Nat} {x : Int} {d kc ks : Nat} {ls : Lcs} {st : List AV} {h : Hp} {k : Nat → Nat → Lcs → List AV → Hp → Prop} (hn : n + 1 < ls.length) : xLSTORE n d kc ks ls (vl x :: st) h k = k kc ks (setL2 ls n (vl x)) st h := propext ⟨fun ⟨_, _, h1, _, h2⟩ => by cases h1; exact h2, fun q => ⟨_, _, rfl, hn, q⟩⟩
theorem e_IINC {n : Nat} {c x : Int} {d kc ks : Nat} {ls : Lcs} {st : List AV} {h : Hp} {k : Nat → Nat → Lcs → List AV → Hp → Prop} (hl : ls[n]? = some (some (vi x))) : xIINC n c d kc ks ls st h k = k kc ks (setL ls n (vi (wr (x + c)))) st h := propext ⟨fun ⟨_, h1, h2⟩ => by
    rw [hl] at h1
    cases h1
    exact h2, fun q => ⟨_, hl, q⟩⟩
theorem s_istore_n {G : Gv} {M : Mt} {pc n : Nat} {k4 : Fin 4} (hd : decode M.2.1 pc = .ok (.istore_n k4, 1)) (hi : (k4 : Nat) = n) : Snd G M pc (pc + 1) (xISTORE n) :=
  Snd.loc fun d kc ks ls st h k ⟨x, st1, he, hn, hx⟩ => ⟨setL ls n (vi x), st1, hx, fun arr hL hS => by
    subst he
    refine ⟨hS.tl, fun p e R s m args below meth c H locs cells slots Qf C w => ?_⟩
    exact lv_istore_n C.1 C.2.1 hd hi hL.has (by rw [hL.1]; exact hn) rfl (fun arr' ha' => w arr' ha'.1 (hL.set hn hS.hd ha'))⟩
theorem s_istore {G : Gv} {M : Mt} {pc n : Nat} (hd : decode M.2.1 pc = .ok (.istore n, 2)) : Snd G M pc (pc + 2) (xISTORE n) :=
  Snd.loc fun d kc ks ls st h k ⟨x, st1, he, hn, hx⟩ => ⟨setL ls n (vi x), st1, hx, fun arr hL hS => by
    subst he
    refine ⟨hS.tl, fun p e R s m args below meth c H locs cells slots Qf C w => ?_⟩
    exact lv_istore C.1 C.2.1 hd hL.has (by rw [hL.1]; exact hn) rfl (fun arr' ha' => w arr' ha'.1 (hL.set hn hS.hd ha'))⟩
theorem s_astore_n {G : Gv} {M : Mt} {pc n : Nat} {k4 : Fin 4} (hd : decode M.2.1 pc = .ok (.astore_n k4, 1)) (hi : (k4 : Nat) = n) : Snd G M pc (pc + 1) (xASTORE n) :=
  Snd.loc fun d kc ks ls st h k ⟨x, st1, he, hn, hx⟩ => ⟨setL ls n (vq x), st1, hx, fun arr hL hS => by
    subst he
    refine ⟨hS.tl, fun p e R s m args below meth c H locs cells slots Qf C w => ?_⟩
    cases x with
    | none => exact lv_astore_nN C.1 C.2.1 hd hi hL.has (by rw [hL.1]; exact hn) rfl (fun arr' ha' => w arr' ha'.1 (hL.set hn hS.hd ha'))
    | some a => exact lv_astore_n C.1 C.2.1 hd hi hL.has (by rw [hL.1]; exact hn) rfl (fun arr' ha' => w arr' ha'.1 (hL.set hn hS.hd ha'))⟩
theorem s_astore {G : Gv} {M : Mt} {pc n : Nat} (hd : decode M.2.1 pc = .ok (.astore n, 2)) : Snd G M pc (pc + 2) (xASTORE n) :=
  Snd.loc fun d kc ks ls st h k ⟨x, st1, he, hn, hx⟩ => ⟨setL ls n (vq x), st1, hx, fun arr hL hS => by
    subst he
    refine ⟨hS.tl, fun p e R s m args below meth c H locs cells slots Qf C w => ?_⟩
    cases x with
    | none => exact lv_astoreN C.1 C.2.1 hd hL.has (by rw [hL.1]; exact hn) rfl (fun arr' ha' => w arr' ha'.1 (hL.set hn hS.hd ha'))
    | some a => exact lv_astore C.1 C.2.1 hd hL.has (by rw [hL.1]; exact hn) rfl (fun arr' ha' => w arr' ha'.1 (hL.set hn hS.hd ha'))⟩
theorem s_lstore_n {G : Gv} {M : Mt} {pc n : Nat} {k4 : Fin 4} (hd : decode M.2.1 pc = .ok (.lstore_n k4, 1)) (hi : (k4 : Nat) = n) : Snd G M pc (pc + 1) (xLSTORE n) :=
  Snd.loc fun d kc ks ls st h k ⟨x, st1, he, hn, hx⟩ => ⟨setL2 ls n (vl x), st1, hx, fun arr hL hS => by
    subst he
    refine ⟨hS.tl, fun p e R s m args below meth c H locs cells slots Qf C w => ?_⟩
    exact lv_lstore_n C.1 C.2.1 hd hi hL.has (by rw [hL.1]; exact hn) rfl (fun arr' ha' => w arr' ha'.1 (hL.set2 hn hS.hd ha'))⟩
theorem s_lstore {G : Gv} {M : Mt} {pc n : Nat} (hd : decode M.2.1 pc = .ok (.lstore n, 2)) : Snd G M pc (pc + 2) (xLSTORE n) :=
  Snd.loc fun d kc ks ls st h k ⟨x, st1, he, hn, hx⟩ => ⟨setL2 ls n (vl x), st1, hx, fun arr hL hS => by
    subst he
    refine ⟨hS.tl, fun p e R s m args below meth c H locs cells slots Qf C w => ?_⟩
    exact lv_lstore C.1 C.2.1 hd hL.has (by rw [hL.1]; exact hn) rfl (fun arr' ha' => w arr' ha'.1 (hL.set2 hn hS.hd ha'))⟩
theorem s_iinc {G : Gv} {M : Mt} {pc n : Nat} {q : Int} (hd : decode M.2.1 pc = .ok (.iinc n q, 3)) : Snd G M pc (pc + 3) (xIINC n q) :=
  Snd.loc fun d kc ks ls st h k ⟨x, hl, hx⟩ => ⟨setL ls n (vi (wr (x + q))), st, hx, fun arr hL hS => by
    refine ⟨hS, fun p e R s m args below meth c H locs cells slots Qf C w => ?_⟩
    have hn : n < ls.length := (List.getElem?_eq_some_iff.mp hl).1
    obtain ⟨j, hj⟩ := List.getElem?_of_mem (lvOf_in hl)
    refine lv_iinc (v := Int32.ofInt (wr (x + q))) C.1 C.2.1 hd hL.has hj ?_ (by rw [hL.1]; exact hn) rfl (fun arr' ha' => w arr' ha'.1 (hL.set hn (wr_in _) ha'))
    rw [i_wr, Int32.ofInt_add]⟩
def tGOTO (t : Nat) : TM := fun d kc ks ls st h g Q => g t kc ks ls st h
theorem e_GOTO {t : Nat} {d kc ks : Nat} {ls : Lcs} {st : List AV} {h : Hp} {g : Nat → Nat → Nat → Lcs → List AV → Hp → Prop} {Q : Post} : tGOTO t d kc ks ls st h g Q = g t kc ks ls st h := rfl
theorem s_fall {G : Gv} {M : Mt} {pc : Nat} : SndT G M pc (tGOTO pc) := fun _ _ _ _ _ _ _ w => w
theorem s_goto {G : Gv} {M : Mt} {pc t : Nat} {off : Int} (hd : decode M.2.1 pc = .ok (.goto off, 3)) (ht : (pc : Int) + off = (t : Int)) : SndT G M pc (tGOTO t) := by
  intro d Q kc ks ls st h hx p e R s m args below meth c C hd1 hd2 mc ms h1 h2 H locs cells slots arr h3 h4 hS hL hz hLH hSH
  exact lv_goto C.1 C.2.1 hd ht (hx p e R s m args below meth c C hd1 hd2 mc ms h1 h2 H locs cells slots arr h3 h4 hS hL hz hLH hSH)
def tIFeq (t f : Nat) : TM := fun d kc ks ls st h g Q => ∃ a st1, st = vi a :: st1 ∧ (a = 0 → g t kc ks ls st1 h) ∧ (¬ a = 0 → g f kc ks ls st1 h)
theorem e_IFeq {t f : Nat} {a : Int} {d kc ks : Nat} {ls : Lcs} {st : List AV} {h : Hp} {g : Nat → Nat → Nat → Lcs → List AV → Hp → Prop} {Q : Post} : tIFeq t f d kc ks ls (vi a :: st) h g Q = ((a = 0 → g t kc ks ls st h) ∧ (¬ a = 0 → g f kc ks ls st h)) := propext ⟨fun ⟨_, _, h1, h2⟩ => by cases h1; exact h2, fun q => ⟨_, _, rfl, q⟩⟩
theorem s_ifeq {G : Gv} {M : Mt} {pc t : Nat} {off : Int} (hd : decode M.2.1 pc = .ok (.ifCond .eq off, 3)) (ht : (pc : Int) + off = (t : Int)) : SndT G M pc (tIFeq t (pc + 3)) := by
  intro d Q kc ks ls st h ⟨a, st1, he, hx⟩ p e R s m args below meth c C hd1 hd2 mc ms h1 h2 H locs cells slots arr h3 h4 hS hL hz hLH hSH
  subst he
  exact lv_if_eq C.1 C.2.1 hd ht (fun q => hx.1 ((i_eq hSH.hd inR0).mp q) p e R s m args below meth c C hd1 hd2 mc ms h1 h2 H locs cells slots arr h3 h4 hS hL hz hLH hSH.tl) (fun q => hx.2 ((not_congr (i_eq hSH.hd inR0)).mp q) p e R s m args below meth c C hd1 hd2 mc ms h1 h2 H locs cells slots arr h3 h4 hS hL hz hLH hSH.tl)
def tICeq (t f : Nat) : TM := fun d kc ks ls st h g Q => ∃ b a st1, st = vi b :: vi a :: st1 ∧ (a = b → g t kc ks ls st1 h) ∧ (¬ a = b → g f kc ks ls st1 h)
theorem e_ICeq {t f : Nat} {a b : Int} {d kc ks : Nat} {ls : Lcs} {st : List AV} {h : Hp} {g : Nat → Nat → Nat → Lcs → List AV → Hp → Prop} {Q : Post} : tICeq t f d kc ks ls (vi b :: vi a :: st) h g Q = ((a = b → g t kc ks ls st h) ∧ (¬ a = b → g f kc ks ls st h)) := propext ⟨fun ⟨_, _, _, h1, h2⟩ => by cases h1; exact h2, fun q => ⟨_, _, _, rfl, q⟩⟩
theorem s_iceq {G : Gv} {M : Mt} {pc t : Nat} {off : Int} (hd : decode M.2.1 pc = .ok (.if_icmp .eq off, 3)) (ht : (pc : Int) + off = (t : Int)) : SndT G M pc (tICeq t (pc + 3)) := by
  intro d Q kc ks ls st h ⟨b, a, st1, he, hx⟩ p e R s m args below meth c C hd1 hd2 mc ms h1 h2 H locs cells slots arr h3 h4 hS hL hz hLH hSH
  subst he
  exact lv_icmp_eq C.1 C.2.1 hd ht (fun q => hx.1 ((i_eq hSH.tl.hd hSH.hd).mp q) p e R s m args below meth c C hd1 hd2 mc ms h1 h2 H locs cells slots arr h3 h4 hS hL hz hLH hSH.tl.tl) (fun q => hx.2 ((not_congr (i_eq hSH.tl.hd hSH.hd)).mp q) p e R s m args below meth c C hd1 hd2 mc ms h1 h2 H locs cells slots arr h3 h4 hS hL hz hLH hSH.tl.tl)
def tIFne (t f : Nat) : TM := fun d kc ks ls st h g Q => ∃ a st1, st = vi a :: st1 ∧ (¬ a = 0 → g t kc ks ls st1 h) ∧ (a = 0 → g f kc ks ls st1 h)
theorem e_IFne {t f : Nat} {a : Int} {d kc ks : Nat} {ls : Lcs} {st : List AV} {h : Hp} {g : Nat → Nat → Nat → Lcs → List AV → Hp → Prop} {Q : Post} : tIFne t f d kc ks ls (vi a :: st) h g Q = ((¬ a = 0 → g t kc ks ls st h) ∧ (a = 0 → g f kc ks ls st h)) := propext ⟨fun ⟨_, _, h1, h2⟩ => by cases h1; exact h2, fun q => ⟨_, _, rfl, q⟩⟩
theorem s_ifne {G : Gv} {M : Mt} {pc t : Nat} {off : Int} (hd : decode M.2.1 pc = .ok (.ifCond .ne off, 3)) (ht : (pc : Int) + off = (t : Int)) : SndT G M pc (tIFne t (pc + 3)) := by
  intro d Q kc ks ls st h ⟨a, st1, he, hx⟩ p e R s m args below meth c C hd1 hd2 mc ms h1 h2 H locs cells slots arr h3 h4 hS hL hz hLH hSH
  subst he
  exact lv_if_ne C.1 C.2.1 hd ht (fun q => hx.1 ((not_congr (i_eq hSH.hd inR0)).mp q) p e R s m args below meth c C hd1 hd2 mc ms h1 h2 H locs cells slots arr h3 h4 hS hL hz hLH hSH.tl) (fun q => hx.2 ((i_eq hSH.hd inR0).mp q) p e R s m args below meth c C hd1 hd2 mc ms h1 h2 H locs cells slots arr h3 h4 hS hL hz hLH hSH.tl)
def tICne (t f : Nat) : TM := fun d kc ks ls st h g Q => ∃ b a st1, st = vi b :: vi a :: st1 ∧ (¬ a = b → g t kc ks ls st1 h) ∧ (a = b → g f kc ks ls st1 h)
theorem e_ICne {t f : Nat} {a b : Int} {d kc ks : Nat} {ls : Lcs} {st : List AV} {h : Hp} {g : Nat → Nat → Nat → Lcs → List AV → Hp → Prop} {Q : Post} : tICne t f d kc ks ls (vi b :: vi a :: st) h g Q = ((¬ a = b → g t kc ks ls st h) ∧ (a = b → g f kc ks ls st h)) := propext ⟨fun ⟨_, _, _, h1, h2⟩ => by cases h1; exact h2, fun q => ⟨_, _, _, rfl, q⟩⟩
theorem s_icne {G : Gv} {M : Mt} {pc t : Nat} {off : Int} (hd : decode M.2.1 pc = .ok (.if_icmp .ne off, 3)) (ht : (pc : Int) + off = (t : Int)) : SndT G M pc (tICne t (pc + 3)) := by
  intro d Q kc ks ls st h ⟨b, a, st1, he, hx⟩ p e R s m args below meth c C hd1 hd2 mc ms h1 h2 H locs cells slots arr h3 h4 hS hL hz hLH hSH
  subst he
  exact lv_icmp_ne C.1 C.2.1 hd ht (fun q => hx.1 ((not_congr (i_eq hSH.tl.hd hSH.hd)).mp q) p e R s m args below meth c C hd1 hd2 mc ms h1 h2 H locs cells slots arr h3 h4 hS hL hz hLH hSH.tl.tl) (fun q => hx.2 ((i_eq hSH.tl.hd hSH.hd).mp q) p e R s m args below meth c C hd1 hd2 mc ms h1 h2 H locs cells slots arr h3 h4 hS hL hz hLH hSH.tl.tl)
def tIFlt (t f : Nat) : TM := fun d kc ks ls st h g Q => ∃ a st1, st = vi a :: st1 ∧ (a < 0 → g t kc ks ls st1 h) ∧ (¬ a < 0 → g f kc ks ls st1 h)
theorem e_IFlt {t f : Nat} {a : Int} {d kc ks : Nat} {ls : Lcs} {st : List AV} {h : Hp} {g : Nat → Nat → Nat → Lcs → List AV → Hp → Prop} {Q : Post} : tIFlt t f d kc ks ls (vi a :: st) h g Q = ((a < 0 → g t kc ks ls st h) ∧ (¬ a < 0 → g f kc ks ls st h)) := propext ⟨fun ⟨_, _, h1, h2⟩ => by cases h1; exact h2, fun q => ⟨_, _, rfl, q⟩⟩
theorem s_iflt {G : Gv} {M : Mt} {pc t : Nat} {off : Int} (hd : decode M.2.1 pc = .ok (.ifCond .lt off, 3)) (ht : (pc : Int) + off = (t : Int)) : SndT G M pc (tIFlt t (pc + 3)) := by
  intro d Q kc ks ls st h ⟨a, st1, he, hx⟩ p e R s m args below meth c C hd1 hd2 mc ms h1 h2 H locs cells slots arr h3 h4 hS hL hz hLH hSH
  subst he
  exact lv_if_lt C.1 C.2.1 hd ht (fun q => hx.1 ((i_lt hSH.hd inR0).mp q) p e R s m args below meth c C hd1 hd2 mc ms h1 h2 H locs cells slots arr h3 h4 hS hL hz hLH hSH.tl) (fun q => hx.2 ((not_congr (i_lt hSH.hd inR0)).mp q) p e R s m args below meth c C hd1 hd2 mc ms h1 h2 H locs cells slots arr h3 h4 hS hL hz hLH hSH.tl)
def tIClt (t f : Nat) : TM := fun d kc ks ls st h g Q => ∃ b a st1, st = vi b :: vi a :: st1 ∧ (a < b → g t kc ks ls st1 h) ∧ (¬ a < b → g f kc ks ls st1 h)
theorem e_IClt {t f : Nat} {a b : Int} {d kc ks : Nat} {ls : Lcs} {st : List AV} {h : Hp} {g : Nat → Nat → Nat → Lcs → List AV → Hp → Prop} {Q : Post} : tIClt t f d kc ks ls (vi b :: vi a :: st) h g Q = ((a < b → g t kc ks ls st h) ∧ (¬ a < b → g f kc ks ls st h)) := propext ⟨fun ⟨_, _, _, h1, h2⟩ => by cases h1; exact h2, fun q => ⟨_, _, _, rfl, q⟩⟩
theorem s_iclt {G : Gv} {M : Mt} {pc t : Nat} {off : Int} (hd : decode M.2.1 pc = .ok (.if_icmp .lt off, 3)) (ht : (pc : Int) + off = (t : Int)) : SndT G M pc (tIClt t (pc + 3)) := by
  intro d Q kc ks ls st h ⟨b, a, st1, he, hx⟩ p e R s m args below meth c C hd1 hd2 mc ms h1 h2 H locs cells slots arr h3 h4 hS hL hz hLH hSH
  subst he
  exact lv_icmp_lt C.1 C.2.1 hd ht (fun q => hx.1 ((i_lt hSH.tl.hd hSH.hd).mp q) p e R s m args below meth c C hd1 hd2 mc ms h1 h2 H locs cells slots arr h3 h4 hS hL hz hLH hSH.tl.tl) (fun q => hx.2 ((not_congr (i_lt hSH.tl.hd hSH.hd)).mp q) p e R s m args below meth c C hd1 hd2 mc ms h1 h2 H locs cells slots arr h3 h4 hS hL hz hLH hSH.tl.tl)
def tIFge (t f : Nat) : TM := fun d kc ks ls st h g Q => ∃ a st1, st = vi a :: st1 ∧ (0 ≤ a → g t kc ks ls st1 h) ∧ (¬ 0 ≤ a → g f kc ks ls st1 h)
theorem e_IFge {t f : Nat} {a : Int} {d kc ks : Nat} {ls : Lcs} {st : List AV} {h : Hp} {g : Nat → Nat → Nat → Lcs → List AV → Hp → Prop} {Q : Post} : tIFge t f d kc ks ls (vi a :: st) h g Q = ((0 ≤ a → g t kc ks ls st h) ∧ (¬ 0 ≤ a → g f kc ks ls st h)) := propext ⟨fun ⟨_, _, h1, h2⟩ => by cases h1; exact h2, fun q => ⟨_, _, rfl, q⟩⟩
theorem s_ifge {G : Gv} {M : Mt} {pc t : Nat} {off : Int} (hd : decode M.2.1 pc = .ok (.ifCond .ge off, 3)) (ht : (pc : Int) + off = (t : Int)) : SndT G M pc (tIFge t (pc + 3)) := by
  intro d Q kc ks ls st h ⟨a, st1, he, hx⟩ p e R s m args below meth c C hd1 hd2 mc ms h1 h2 H locs cells slots arr h3 h4 hS hL hz hLH hSH
  subst he
  exact lv_if_ge C.1 C.2.1 hd ht (fun q => hx.1 ((i_le inR0 hSH.hd).mp q) p e R s m args below meth c C hd1 hd2 mc ms h1 h2 H locs cells slots arr h3 h4 hS hL hz hLH hSH.tl) (fun q => hx.2 ((not_congr (i_le inR0 hSH.hd)).mp q) p e R s m args below meth c C hd1 hd2 mc ms h1 h2 H locs cells slots arr h3 h4 hS hL hz hLH hSH.tl)
def tICge (t f : Nat) : TM := fun d kc ks ls st h g Q => ∃ b a st1, st = vi b :: vi a :: st1 ∧ (b ≤ a → g t kc ks ls st1 h) ∧ (¬ b ≤ a → g f kc ks ls st1 h)
theorem e_ICge {t f : Nat} {a b : Int} {d kc ks : Nat} {ls : Lcs} {st : List AV} {h : Hp} {g : Nat → Nat → Nat → Lcs → List AV → Hp → Prop} {Q : Post} : tICge t f d kc ks ls (vi b :: vi a :: st) h g Q = ((b ≤ a → g t kc ks ls st h) ∧ (¬ b ≤ a → g f kc ks ls st h)) := propext ⟨fun ⟨_, _, _, h1, h2⟩ => by cases h1; exact h2, fun q => ⟨_, _, _, rfl, q⟩⟩
theorem s_icge {G : Gv} {M : Mt} {pc t : Nat} {off : Int} (hd : decode M.2.1 pc = .ok (.if_icmp .ge off, 3)) (ht : (pc : Int) + off = (t : Int)) : SndT G M pc (tICge t (pc + 3)) := by
  intro d Q kc ks ls st h ⟨b, a, st1, he, hx⟩ p e R s m args below meth c C hd1 hd2 mc ms h1 h2 H locs cells slots arr h3 h4 hS hL hz hLH hSH
  subst he
  exact lv_icmp_ge C.1 C.2.1 hd ht (fun q => hx.1 ((i_le hSH.hd hSH.tl.hd).mp q) p e R s m args below meth c C hd1 hd2 mc ms h1 h2 H locs cells slots arr h3 h4 hS hL hz hLH hSH.tl.tl) (fun q => hx.2 ((not_congr (i_le hSH.hd hSH.tl.hd)).mp q) p e R s m args below meth c C hd1 hd2 mc ms h1 h2 H locs cells slots arr h3 h4 hS hL hz hLH hSH.tl.tl)
def tIFgt (t f : Nat) : TM := fun d kc ks ls st h g Q => ∃ a st1, st = vi a :: st1 ∧ (0 < a → g t kc ks ls st1 h) ∧ (¬ 0 < a → g f kc ks ls st1 h)
theorem e_IFgt {t f : Nat} {a : Int} {d kc ks : Nat} {ls : Lcs} {st : List AV} {h : Hp} {g : Nat → Nat → Nat → Lcs → List AV → Hp → Prop} {Q : Post} : tIFgt t f d kc ks ls (vi a :: st) h g Q = ((0 < a → g t kc ks ls st h) ∧ (¬ 0 < a → g f kc ks ls st h)) := propext ⟨fun ⟨_, _, h1, h2⟩ => by cases h1; exact h2, fun q => ⟨_, _, rfl, q⟩⟩
theorem s_ifgt {G : Gv} {M : Mt} {pc t : Nat} {off : Int} (hd : decode M.2.1 pc = .ok (.ifCond .gt off, 3)) (ht : (pc : Int) + off = (t : Int)) : SndT G M pc (tIFgt t (pc + 3)) := by
  intro d Q kc ks ls st h ⟨a, st1, he, hx⟩ p e R s m args below meth c C hd1 hd2 mc ms h1 h2 H locs cells slots arr h3 h4 hS hL hz hLH hSH
  subst he
  exact lv_if_gt C.1 C.2.1 hd ht (fun q => hx.1 ((i_lt inR0 hSH.hd).mp q) p e R s m args below meth c C hd1 hd2 mc ms h1 h2 H locs cells slots arr h3 h4 hS hL hz hLH hSH.tl) (fun q => hx.2 ((not_congr (i_lt inR0 hSH.hd)).mp q) p e R s m args below meth c C hd1 hd2 mc ms h1 h2 H locs cells slots arr h3 h4 hS hL hz hLH hSH.tl)
def tICgt (t f : Nat) : TM := fun d kc ks ls st h g Q => ∃ b a st1, st = vi b :: vi a :: st1 ∧ (b < a → g t kc ks ls st1 h) ∧ (¬ b < a → g f kc ks ls st1 h)
theorem e_ICgt {t f : Nat} {a b : Int} {d kc ks : Nat} {ls : Lcs} {st : List AV} {h : Hp} {g : Nat → Nat → Nat → Lcs → List AV → Hp → Prop} {Q : Post} : tICgt t f d kc ks ls (vi b :: vi a :: st) h g Q = ((b < a → g t kc ks ls st h) ∧ (¬ b < a → g f kc ks ls st h)) := propext ⟨fun ⟨_, _, _, h1, h2⟩ => by cases h1; exact h2, fun q => ⟨_, _, _, rfl, q⟩⟩
theorem s_icgt {G : Gv} {M : Mt} {pc t : Nat} {off : Int} (hd : decode M.2.1 pc = .ok (.if_icmp .gt off, 3)) (ht : (pc : Int) + off = (t : Int)) : SndT G M pc (tICgt t (pc + 3)) := by
  intro d Q kc ks ls st h ⟨b, a, st1, he, hx⟩ p e R s m args below meth c C hd1 hd2 mc ms h1 h2 H locs cells slots arr h3 h4 hS hL hz hLH hSH
  subst he
  exact lv_icmp_gt C.1 C.2.1 hd ht (fun q => hx.1 ((i_lt hSH.hd hSH.tl.hd).mp q) p e R s m args below meth c C hd1 hd2 mc ms h1 h2 H locs cells slots arr h3 h4 hS hL hz hLH hSH.tl.tl) (fun q => hx.2 ((not_congr (i_lt hSH.hd hSH.tl.hd)).mp q) p e R s m args below meth c C hd1 hd2 mc ms h1 h2 H locs cells slots arr h3 h4 hS hL hz hLH hSH.tl.tl)
def tIFle (t f : Nat) : TM := fun d kc ks ls st h g Q => ∃ a st1, st = vi a :: st1 ∧ (a ≤ 0 → g t kc ks ls st1 h) ∧ (¬ a ≤ 0 → g f kc ks ls st1 h)
theorem e_IFle {t f : Nat} {a : Int} {d kc ks : Nat} {ls : Lcs} {st : List AV} {h : Hp} {g : Nat → Nat → Nat → Lcs → List AV → Hp → Prop} {Q : Post} : tIFle t f d kc ks ls (vi a :: st) h g Q = ((a ≤ 0 → g t kc ks ls st h) ∧ (¬ a ≤ 0 → g f kc ks ls st h)) := propext ⟨fun ⟨_, _, h1, h2⟩ => by cases h1; exact h2, fun q => ⟨_, _, rfl, q⟩⟩
theorem s_ifle {G : Gv} {M : Mt} {pc t : Nat} {off : Int} (hd : decode M.2.1 pc = .ok (.ifCond .le off, 3)) (ht : (pc : Int) + off = (t : Int)) : SndT G M pc (tIFle t (pc + 3)) := by
  intro d Q kc ks ls st h ⟨a, st1, he, hx⟩ p e R s m args below meth c C hd1 hd2 mc ms h1 h2 H locs cells slots arr h3 h4 hS hL hz hLH hSH
  subst he
  exact lv_if_le C.1 C.2.1 hd ht (fun q => hx.1 ((i_le hSH.hd inR0).mp q) p e R s m args below meth c C hd1 hd2 mc ms h1 h2 H locs cells slots arr h3 h4 hS hL hz hLH hSH.tl) (fun q => hx.2 ((not_congr (i_le hSH.hd inR0)).mp q) p e R s m args below meth c C hd1 hd2 mc ms h1 h2 H locs cells slots arr h3 h4 hS hL hz hLH hSH.tl)
def tICle (t f : Nat) : TM := fun d kc ks ls st h g Q => ∃ b a st1, st = vi b :: vi a :: st1 ∧ (a ≤ b → g t kc ks ls st1 h) ∧ (¬ a ≤ b → g f kc ks ls st1 h)
theorem e_ICle {t f : Nat} {a b : Int} {d kc ks : Nat} {ls : Lcs} {st : List AV} {h : Hp} {g : Nat → Nat → Nat → Lcs → List AV → Hp → Prop} {Q : Post} : tICle t f d kc ks ls (vi b :: vi a :: st) h g Q = ((a ≤ b → g t kc ks ls st h) ∧ (¬ a ≤ b → g f kc ks ls st h)) := propext ⟨fun ⟨_, _, _, h1, h2⟩ => by cases h1; exact h2, fun q => ⟨_, _, _, rfl, q⟩⟩
theorem s_icle {G : Gv} {M : Mt} {pc t : Nat} {off : Int} (hd : decode M.2.1 pc = .ok (.if_icmp .le off, 3)) (ht : (pc : Int) + off = (t : Int)) : SndT G M pc (tICle t (pc + 3)) := by
  intro d Q kc ks ls st h ⟨b, a, st1, he, hx⟩ p e R s m args below meth c C hd1 hd2 mc ms h1 h2 H locs cells slots arr h3 h4 hS hL hz hLH hSH
  subst he
  exact lv_icmp_le C.1 C.2.1 hd ht (fun q => hx.1 ((i_le hSH.tl.hd hSH.hd).mp q) p e R s m args below meth c C hd1 hd2 mc ms h1 h2 H locs cells slots arr h3 h4 hS hL hz hLH hSH.tl.tl) (fun q => hx.2 ((not_congr (i_le hSH.tl.hd hSH.hd)).mp q) p e R s m args below meth c C hd1 hd2 mc ms h1 h2 H locs cells slots arr h3 h4 hS hL hz hLH hSH.tl.tl)
def tNN (t f : Nat) : TM := fun d kc ks ls st h g Q => ∃ a st1, st = vq a :: st1 ∧ (a ≠ none → g t kc ks ls st1 h) ∧ (a = none → g f kc ks ls st1 h)
theorem e_NN {t f : Nat} {a : Option Nat} {d kc ks : Nat} {ls : Lcs} {st : List AV} {h : Hp} {g : Nat → Nat → Nat → Lcs → List AV → Hp → Prop} {Q : Post} : tNN t f d kc ks ls (vq a :: st) h g Q = ((a ≠ none → g t kc ks ls st h) ∧ (a = none → g f kc ks ls st h)) := propext ⟨fun ⟨_, _, h1, h2⟩ => by cases h1; exact h2, fun q => ⟨_, _, rfl, q⟩⟩
theorem s_ifnonnull {G : Gv} {M : Mt} {pc t : Nat} {off : Int} (hd : decode M.2.1 pc = .ok (.ifnonnull off, 3)) (ht : (pc : Int) + off = (t : Int)) : SndT G M pc (tNN t (pc + 3)) := by
  intro d Q kc ks ls st h ⟨a, st1, he, hx⟩ p e R s m args below meth c C hd1 hd2 mc ms h1 h2 H locs cells slots arr h3 h4 hS hL hz hLH hSH
  subst he
  cases a with
  | none => exact lv_ifnonnullN C.1 C.2.1 hd (hx.2 rfl p e R s m args below meth c C hd1 hd2 mc ms h1 h2 H locs cells slots arr h3 h4 hS hL hz hLH hSH.tl)
  | some a => exact lv_ifnonnull C.1 C.2.1 hd ht (hx.1 (by simp) p e R s m args below meth c C hd1 hd2 mc ms h1 h2 H locs cells slots arr h3 h4 hS hL hz hLH hSH.tl)
/-- a switch over lo .. lo + the targets' number - 1 -/
def tSW (lo : Int) (ts : List Nat) (df : Nat) : TM := fun d kc ks ls st h g Q => ∃ a st1, st = vi a :: st1 ∧ g (if a < lo then df else ts.getD (a - lo).toNat df) kc ks ls st1 h
theorem e_SW {lo a : Int} {ts : List Nat} {df : Nat} {d kc ks : Nat} {ls : Lcs} {st : List AV} {h : Hp} {g : Nat → Nat → Nat → Lcs → List AV → Hp → Prop} {Q : Post} : tSW lo ts df d kc ks ls (vi a :: st) h g Q = g (if a < lo then df else ts.getD (a - lo).toNat df) kc ks ls st h := propext ⟨fun ⟨_, _, h1, h2⟩ => by cases h1; exact h2, fun q => ⟨_, _, rfl, q⟩⟩
theorem s_sw {G : Gv} {M : Mt} {pc len df : Nat} {dflt lo hi : Int} {offs : Array Int} {ts : List Nat} (hd : decode M.2.1 pc = .ok (.tableswitch dflt lo hi offs, len)) (hhi : hi = lo + ts.length - 1) (hdf : (pc : Int) + dflt = (df : Int)) (hts : ts.map (fun t : Nat => (t : Int)) = offs.toList.map (fun o => (pc : Int) + o)) : SndT G M pc (tSW lo ts df) := by
  intro d Q kc ks ls st h ⟨a, st1, he, hx⟩ p e R s m args below meth c C hd1 hd2 mc ms h1 h2 H locs cells slots arr h3 h4 hS hL hz hLH hSH
  subst he
  have ha : (Int32.ofInt a).toInt = a := i_toInt hSH.hd
  have w := hx p e R s m args below meth c C hd1 hd2 mc ms h1 h2 H locs cells slots arr h3 h4 hS hL hz hLH hSH.tl
  have hlen : ts.length = offs.toList.length := by have := congrArg List.length hts; simpa using this
  by_cases c1 : a < lo
  · rw [if_pos c1] at w
    exact lv_tableOut C.1 C.2.1 hd (by rw [ha]; exact Or.inl c1) hdf w
  · rw [if_neg c1] at w
    by_cases c2 : hi < a
    · have : ts.getD (a - lo).toNat df = df := by
        rw [List.getD_eq_getElem?_getD, List.getElem?_eq_none (by omega)]; rfl
      rw [this] at w
      exact lv_tableOut C.1 C.2.1 hd (by rw [ha]; exact Or.inr c2) hdf w
    · have hlt : (a - lo).toNat < ts.length := by omega
      have hlt2 : (a - lo).toNat < offs.toList.length := by omega
      have e1 : ts.getD (a - lo).toNat df = ts[(a - lo).toNat] := by
        rw [List.getD_eq_getElem?_getD, List.getElem?_eq_getElem hlt]; rfl
      have e2 : ((ts[(a - lo).toNat] : Nat) : Int) = (pc : Int) + offs.toList[(a - lo).toNat] := by
        have h5 : (ts.map (fun t : Nat => (t : Int)))[(a - lo).toNat]? = (offs.toList.map (fun o => (pc : Int) + o))[(a - lo).toNat]? := by rw [hts]
        rw [List.getElem?_map, List.getElem?_map, List.getElem?_eq_getElem hlt, List.getElem?_eq_getElem hlt2] at h5
        exact Option.some.inj h5
      rw [e1] at w
      refine lv_tableIn C.1 C.2.1 hd (by rw [ha]; exact c1) (by rw [ha]; exact c2) (off := offs.toList[(a - lo).toNat]) ?_ e2.symm w
      rw [ha, ← Array.getElem?_toList, List.getElem?_eq_getElem hlt2]
def tIRET : TM := fun d kc ks ls st h g Q => ∃ a, st = [vi a] ∧ Q (some (vi a)) h
def tLRET : TM := fun d kc ks ls st h g Q => ∃ a, st = [vl a] ∧ Q (some (vl a)) h
def tARET : TM := fun d kc ks ls st h g Q => ∃ a, st = [vq a] ∧ Q (some (vq a)) h
def tVRET : TM := fun d kc ks ls st h g Q => st = [] ∧ Q none h
theorem e_IRET {a : Int} {d kc ks : Nat} {ls : Lcs} {st : List AV} {h : Hp} {g : Nat → Nat → Nat → Lcs → List AV → Hp → Prop} {Q : Post} : tIRET d kc ks ls [vi a] h g Q = Q (some (vi a)) h := propext ⟨fun ⟨_, h1, h2⟩ => by cases h1; exact h2, fun q => ⟨_, rfl, q⟩⟩
theorem e_LRET {a : Int} {d kc ks : Nat} {ls : Lcs} {st : List AV} {h : Hp} {g : Nat → Nat → Nat → Lcs → List AV → Hp → Prop} {Q : Post} : tLRET d kc ks ls [vl a] h g Q = Q (some (vl a)) h := propext ⟨fun ⟨_, h1, h2⟩ => by cases h1; exact h2, fun q => ⟨_, rfl, q⟩⟩
theorem e_ARET {a : Option Nat} {d kc ks : Nat} {ls : Lcs} {st : List AV} {h : Hp} {g : Nat → Nat → Nat → Lcs → List AV → Hp → Prop} {Q : Post} : tARET d kc ks ls [vq a] h g Q = Q (some (vq a)) h := propext ⟨fun ⟨_, h1, h2⟩ => by cases h1; exact h2, fun q => ⟨_, rfl, q⟩⟩
theorem e_VRET {d kc ks : Nat} {ls : Lcs} {st : List AV} {h : Hp} {g : Nat → Nat → Nat → Lcs → List AV → Hp → Prop} {Q : Post} : tVRET d kc ks ls [] h g Q = Q none h := propext ⟨fun q => q.2, fun q => ⟨rfl, q⟩⟩
