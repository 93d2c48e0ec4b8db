/-! Members of the JDK that are used as instructions. -/
theorem Snd.jdk {G : Gv} {M : Mt} {pc pc' : Nat} {x : PT} (hx : ∀ d kc ks ls st h k, x d kc ks ls st h k → 1 ≤ d ∧ ∃ st' h', k kc ks ls st' h' ∧ ∀ H, Sim G h H → SH st → SH st' ∧
    ∀ p e (R : Room) s m args below meth c locs cells slots Qf arr, Ctx G M p s m args meth c → (∀ q ∈ locs, gB G ≤ q.base) → arr.size = M.2.2.1 → 1 ≤ R.frames → 100 ≤ R.locals → cells ≤ R.cells → slots ≤ R.slots → (∀ H' locs', Sim G h' H' → (∀ q ∈ locs', gB G ≤ q.base) → W p (gLa G) e R s m args below meth c H' locs' cells slots Qf (F0 m pc' arr (st'.map rv))) → W p (gLa G) e R s m args below meth c H locs cells slots Qf (F0 m pc arr (st.map rv))) : Snd G M pc pc' x := by
  intro d Q k hk kc ks ls st h hxx
  obtain ⟨hd0, st', h', hk', hr⟩ := hx d kc ks ls st h k hxx
  intro p e R s m args below meth c C hd1 hd2 mc ms h1 h2 H locs cells slots arr h3 h4 hSm hL hz hLH hSH
  obtain ⟨hs', hW⟩ := hr H hSm hSH
  exact hW _ _ _ _ _ _ _ _ _ _ _ _ _ _ C hL hz (by omega) (by omega) (by omega) (by omega) (fun H' locs' hS' hL' => hk _ _ _ _ _ hk' p e R s m args below meth c C hd1 hd2 mc ms h1 h2 H' locs' cells slots arr h3 h4 hS' hL' hz hLH hs')
def xOBJI : PT := fun d kc ks ls st h kk => ∃ a st1, st = vr a :: st1 ∧ 1 ≤ d ∧ st1.length ≤ 4 ∧ kk kc ks ls st1 h
theorem s_obji {G : Gv} {M : Mt} {pc index : Nat} (hd : decode M.2.1 pc = .ok (.invokespecial index, 3)) (w1 : Cond.methodLink M.1.cls index ⟨"java/lang/Object", "<init>", "()V"⟩ ∈ gtb) : Snd G M pc (pc + 3) xOBJI :=
  Snd.jdk fun d kc ks ls st h kk ⟨a, st1, he, hd0, hl, hx⟩ => ⟨hd0, st1, h, hx, fun H S hSH => by
    subst he
    refine ⟨hSH.tl, fun p e R s m args below meth c locs cells slots Qf arr CX hL hz r1 r2 r3 r4 w => ?_⟩
    have hts := CX.2.2.2.2.2.2.2.1
    have hst2 := map_cat st1
    exact W.objInit CX.1 CX.2.1 CX.2.2.2.2.2.1 (hts _ w1) (hts _ q143) (hts _ q144) rfl (hz.trans CX.2.2.2.2.1.symm) rfl hd r1 (by show 2 * 0 + _ + 12 ≤ _; omega) (w H locs S hL)⟩
theorem s_ldcw {G : Gv} {M : Mt} {pc index : Nat} {v : Int32} {x : Int} (hd : decode M.2.1 pc = .ok (.ldc_w index, 3)) (hw : Cond.constant M.1.cls index v ∈ gtb) (hv : v = Int32.ofInt x) : Snd G M pc (pc + 3) (xICONST x) :=
  Snd.pure fun d kc ks ls st h k hx => ⟨vi x :: st, hx.2, fun arr hL hS => ⟨hS.cons hx.1, fun p e R s m args below meth c H locs cells slots Qf C w => by
    subst hv
    exact lv_ldcw C.1 C.2.1 C.2.2.2.2.2.1 (C.2.2.2.2.2.2.2.1 _ hw) hd w⟩⟩
def xSTR (G : Gv) (i : Nat) : PT := fun d kc ks ls st h k => k kc ks ls (vr (gK G i) :: st) h
theorem s_str {G : Gv} {M : Mt} {pc index i : Nat} (hd : decode M.2.1 pc = .ok (.ldc index, 2)) (hi : i < nStr) (hx : sIdx.getD i 0 = index) (hc : M.1.cls = RX6) : Snd G M pc (pc + 2) (xSTR G i) :=
  Snd.pure fun d kc ks ls st h k hk => ⟨vr (gK G i) :: st, hk, fun arr hL hS => ⟨hS.cons trivial, fun p e R s m args below meth c H locs cells slots Qf C w => by
    have hz := C.2.2.2.2.2.2.2.2.2.2.1.1 i hi
    rw [hx] at hz
    exact va_ldcS C.1 C.2.1 (hc ▸ C.2.2.2.2.2.1) hz hd w⟩⟩
def iushr (a b : Int) : Int := ((Int32.ofInt a).toUInt32 >>> ((Int32.ofInt b).toUInt32 &&& Int32.toUInt32 31)).toInt32.toInt
def xIUSHR : PT := fun d kc ks ls st h k => ∃ b a st1, st = vi b :: vi a :: st1 ∧ k kc ks ls (vi (iushr a b) :: st1) h
theorem e_IUSHR {a b : Int} {d kc ks : Nat} {ls : Lcs} {st : List AV} {h : Hp} {k : Nat → Nat → Lcs → List AV → Hp → Prop} : xIUSHR d kc ks ls (vi b :: vi a :: st) h k = k kc ks ls (vi (iushr a b) :: st) h := propext ⟨fun ⟨_, _, _, h1, h2⟩ => by
    cases h1
    exact h2, fun q => ⟨_, _, _, rfl, q⟩⟩
theorem s_iushr {G : Gv} {M : Mt} {pc : Nat} (hd : decode M.2.1 pc = .ok (.iushr, 1)) : Snd G M pc (pc + 1) xIUSHR :=
  Snd.pure fun d kc ks ls st h k ⟨b, a, st1, he, hx⟩ => ⟨vi (iushr a b) :: st1, hx, fun arr hL hS => by
    subst he
    refine ⟨hS.tl.tl.cons (inR_toInt _), fun p e R s m args below meth c H locs cells slots Qf C w => ?_⟩
    refine lv_iushr C.1 C.2.1 hd rfl ?_
    have e1 : rv (vi (iushr a b)) = .int ((Int32.ofInt a).toUInt32 >>> ((Int32.ofInt b).toUInt32 &&& Int32.toUInt32 31)).toInt32 := congrArg Value.int (i_of _)
    rw [List.map_cons, e1] at w
    exact w⟩
def tNU (t f : Nat) : TM := fun d kc ks ls st h g Q => ∃ a st1, st = vq a :: st1 ∧ (a = none → g t kc ks ls st1 h) ∧ (a ≠ none → g f kc ks ls st1 h)
theorem s_ifnull {G : Gv} {M : Mt} {pc t : Nat} {off : Int} (hd : decode M.2.1 pc = .ok (.ifnull off, 3)) (ht : (pc : Int) + off = (t : Int)) : SndT G M pc (tNU t (pc + 3)) := by
  intro d Q kc ks ls st h ⟨a, st1, he, hx⟩ p e R s m args below meth c C hd1 hd2 mc ms h1 h2 H locs cells slots arr h3 h4 hSm hL hz hLH hSH
  subst he
  cases a with
  | none => exact lv_ifnullN C.1 C.2.1 hd ht (hx.1 rfl p e R s m args below meth c C hd1 hd2 mc ms h1 h2 H locs cells slots arr h3 h4 hSm hL hz hLH hSH.tl)
  | some a => exact lv_ifnull C.1 C.2.1 hd (hx.2 (by simp) p e R s m args below meth c C hd1 hd2 mc ms h1 h2 H locs cells slots arr h3 h4 hSm hL hz hLH hSH.tl)
def xMINI : PT := fun d kc ks ls st h kk => ∃ b a st1, st = vi b :: vi a :: st1 ∧ 1 ≤ d ∧ st1.length ≤ 4 ∧ kk kc ks ls (vi (min a b) :: st1) h
theorem s_mini {G : Gv} {M : Mt} {pc index : Nat} (hd : decode M.2.1 pc = .ok (.invokestatic index, 3)) (w1 : Cond.methodLink M.1.cls index ⟨"java/lang/Math", "min", "(II)I"⟩ ∈ gtb) : Snd G M pc (pc + 3) xMINI :=
  Snd.jdk fun d kc ks ls st h kk ⟨b, a, st1, he, hd0, hl, hx⟩ => ⟨hd0, vi (min a b) :: st1, h, hx, fun H S hSH => by
    subst he
    have ha := hSH.tl.hd
    have hb := hSH.hd
    refine ⟨hSH.tl.tl.cons ?_, fun p e R s m args below meth c locs cells slots Qf arr CX hL hz r1 r2 r3 r4 w => ?_⟩
    · show InR _
      by_cases q : a ≤ b
      · rw [Int.min_def, if_pos q]; exact ha
      · rw [Int.min_def, if_neg q]; exact hb
    · have hts := CX.2.2.2.2.2.2.2.1
      have hst2 := map_cat st1
      have e1 : rv (vi (min a b)) = .int (if Int32.ofInt b < Int32.ofInt a then Int32.ofInt b else Int32.ofInt a) := by
        show Value.int (Int32.ofInt (min a b)) = _
        congr 1
        rw [Int.min_def]
        by_cases q : b < a
        · rw [if_pos ((i_lt hb ha).mpr q)]; rw [if_neg (by omega)]
        · rw [if_neg (fun z => q ((i_lt hb ha).mp z))]; rw [if_pos (by omega)]
      refine va_mmin CX.1 CX.2.1 (CX.2.2.2.2.1.trans hz.symm) CX.2.2.2.2.2.1 (hts _ w1) (hts _ q657) (hts _ q121) (hts _ q658) r1 (by omega) r3 r4 hd ?_
      have w2 := w H locs S hL
      rw [List.map_cons, e1] at w2
      exact w2⟩
def xMAXI : PT := fun d kc ks ls st h kk => ∃ b a st1, st = vi b :: vi a :: st1 ∧ 1 ≤ d ∧ st1.length ≤ 4 ∧ kk kc ks ls (vi (max a b) :: st1) h
theorem s_maxi {G : Gv} {M : Mt} {pc index : Nat} (hd : decode M.2.1 pc = .ok (.invokestatic index, 3)) (w1 : Cond.methodLink M.1.cls index ⟨"java/lang/Math", "max", "(II)I"⟩ ∈ gtb) : Snd G M pc (pc + 3) xMAXI :=
  Snd.jdk fun d kc ks ls st h kk ⟨b, a, st1, he, hd0, hl, hx⟩ => ⟨hd0, vi (max a b) :: st1, h, hx, fun H S hSH => by
    subst he
    have ha := hSH.tl.hd
    have hb := hSH.hd
    refine ⟨hSH.tl.tl.cons ?_, fun p e R s m args below meth c locs cells slots Qf arr CX hL hz r1 r2 r3 r4 w => ?_⟩
    · show InR _
      by_cases q : a ≤ b
      · rw [Int.max_def, if_pos q]; exact hb
      · rw [Int.max_def, if_neg q]; exact ha
    · have hts := CX.2.2.2.2.2.2.2.1
      have hst2 := map_cat st1
      have e1 : rv (vi (max a b)) = .int (if Int32.ofInt a < Int32.ofInt b then Int32.ofInt b else Int32.ofInt a) := by
        show Value.int (Int32.ofInt (max a b)) = _
        congr 1
        rw [Int.max_def]
        by_cases q : a < b
        · rw [if_pos ((i_lt ha hb).mpr q)]; rw [if_pos (by omega)]
        · rw [if_neg (fun z => q ((i_lt ha hb).mp z))]; split <;> congr 1 <;> omega
      refine va_mmax CX.1 CX.2.1 (CX.2.2.2.2.1.trans hz.symm) CX.2.2.2.2.2.1 (hts _ w1) (hts _ q257) (hts _ q121) (hts _ q258) r1 (by omega) r3 r4 hd ?_
      have w2 := w H locs S hL
      rw [List.map_cons, e1] at w2
      exact w2⟩
def xMINL : PT := fun d kc ks ls st h kk => ∃ b a st1, st = vl b :: vl a :: st1 ∧ 1 ≤ d ∧ st1.length ≤ 4 ∧ kk kc ks ls (vl (min a b) :: st1) h
theorem s_minl {G : Gv} {M : Mt} {pc index : Nat} (hd : decode M.2.1 pc = .ok (.invokestatic index, 3)) (w1 : Cond.methodLink M.1.cls index ⟨"java/lang/Math", "min", "(JJ)J"⟩ ∈ gtb) : Snd G M pc (pc + 3) xMINL :=
  Snd.jdk fun d kc ks ls st h kk ⟨b, a, st1, he, hd0, hl, hx⟩ => ⟨hd0, vl (min a b) :: st1, h, hx, fun H S hSH => by
    subst he
    have ha := hSH.tl.hd
    have hb := hSH.hd
    refine ⟨hSH.tl.tl.cons ?_, fun p e R s m args below meth c locs cells slots Qf arr CX hL hz r1 r2 r3 r4 w => ?_⟩
    · show InL _
      by_cases q : a ≤ b
      · rw [Int.min_def, if_pos q]; exact ha
      · rw [Int.min_def, if_neg q]; exact hb
    · have hts := CX.2.2.2.2.2.2.2.1
      have hst2 := map_cat st1
      have e1 : rv (vl (min a b)) = .long (if Int64.ofInt b < Int64.ofInt a then Int64.ofInt b else Int64.ofInt a) := by
        show Value.long (Int64.ofInt (min a b)) = _
        congr 1
        rw [Int.min_def]
        by_cases q : b < a
        · rw [if_pos ((l_lt hb ha).mpr q)]; rw [if_neg (by omega)]
        · rw [if_neg (fun z => q ((l_lt hb ha).mp z))]; rw [if_pos (by omega)]
      refine va_mmin_long CX.1 CX.2.1 (CX.2.2.2.2.1.trans hz.symm) CX.2.2.2.2.2.1 (hts _ w1) (hts _ q651) (hts _ q121) (hts _ q652) r1 (by omega) r3 r4 hd ?_
      have w2 := w H locs S hL
      rw [List.map_cons, e1] at w2
      exact w2⟩
def xMAXL : PT := fun d kc ks ls st h kk => ∃ b a st1, st = vl b :: vl a :: st1 ∧ 1 ≤ d ∧ st1.length ≤ 4 ∧ kk kc ks ls (vl (max a b) :: st1) h
theorem s_maxl {G : Gv} {M : Mt} {pc index : Nat} (hd : decode M.2.1 pc = .ok (.invokestatic index, 3)) (w1 : Cond.methodLink M.1.cls index ⟨"java/lang/Math", "max", "(JJ)J"⟩ ∈ gtb) : Snd G M pc (pc + 3) xMAXL :=
  Snd.jdk fun d kc ks ls st h kk ⟨b, a, st1, he, hd0, hl, hx⟩ => ⟨hd0, vl (max a b) :: st1, h, hx, fun H S hSH => by
    subst he
    have ha := hSH.tl.hd
    have hb := hSH.hd
    refine ⟨hSH.tl.tl.cons ?_, fun p e R s m args below meth c locs cells slots Qf arr CX hL hz r1 r2 r3 r4 w => ?_⟩
    · show InL _
      by_cases q : a ≤ b
      · rw [Int.max_def, if_pos q]; exact hb
      · rw [Int.max_def, if_neg q]; exact ha
    · have hts := CX.2.2.2.2.2.2.2.1
      have hst2 := map_cat st1
      have e1 : rv (vl (max a b)) = .long (if Int64.ofInt b < Int64.ofInt a then Int64.ofInt a else Int64.ofInt b) := by
        show Value.long (Int64.ofInt (max a b)) = _
        congr 1
        rw [Int.max_def]
        by_cases q : b < a
        · rw [if_pos ((l_lt hb ha).mpr q)]; rw [if_neg (by omega)]
        · rw [if_neg (fun z => q ((l_lt hb ha).mp z))]; rw [if_pos (by omega)]
      refine va_mmax_long CX.1 CX.2.1 (CX.2.2.2.2.1.trans hz.symm) CX.2.2.2.2.2.1 (hts _ w1) (hts _ q654) (hts _ q121) (hts _ q655) r1 (by omega) r3 r4 hd ?_
      have w2 := w H locs S hL
      rw [List.map_cons, e1] at w2
      exact w2⟩
/-- n ints of a row from sp on come to another row from dp on -/
def cpI (h : Hp) (a0 : Nat) (sp : Int) (a : Nat) (dp n : Int) : Hp := (h.1, h.2.1, fun b k => if b = a ∧ dp ≤ k ∧ k < dp + n then h.2.2.1 a0 (sp + (k - dp)) else h.2.2.1 b k, h.2.2.2)
theorem hN_cpI {h : Hp} {a0 a : Nat} {sp dp n : Int} : hN (cpI h a0 sp a dp n) = hN h := rfl
theorem hS_cpI {h : Hp} {a0 a : Nat} {sp dp n : Int} (b : Nat) : hS (cpI h a0 sp a dp n) b = hS h b := rfl
theorem hR_cpI {h : Hp} {a0 a : Nat} {sp dp n : Int} (b : Nat) (k : Int) : hR (cpI h a0 sp a dp n) b k = hR h b k := rfl
theorem hI_cpI {h : Hp} {a0 a : Nat} {sp dp n : Int} (b : Nat) (k : Int) : hI (cpI h a0 sp a dp n) b k = if b = a ∧ dp ≤ k ∧ k < dp + n then hI h a0 (sp + (k - dp)) else hI h b k := rfl
def xCOPYI (G : Gv) : PT := fun d kc ks ls st h kk => ∃ n dp a sp a0 st1, st = vi n :: vi dp :: vr a :: vi sp :: vr a0 :: st1 ∧ (hS h a).1 = 100 ∧ (hS h a0).1 = 100 ∧ gB G ≤ a ∧ gB G ≤ a0 ∧ 0 ≤ sp ∧ 0 ≤ dp ∧ 0 ≤ n ∧ sp + n ≤ ((hS h a0).2 : Int) ∧ dp + n ≤ ((hS h a).2 : Int) ∧ 1 ≤ d ∧ st1.length ≤ 4 ∧ kk kc ks ls st1 (cpI h a0 sp a dp n)
theorem s_copyi {G : Gv} {M : Mt} {pc index : Nat} (hd : decode M.2.1 pc = .ok (.invokestatic index, 3)) (w1 : Cond.methodLink M.1.cls index arraycopyName ∈ gtb) : Snd G M pc (pc + 3) (xCOPYI G) :=
  Snd.jdk fun d kc ks ls st h kk ⟨n, dp, a, sp, a0, st1, he, ka, ka0, b1, b0, p0, p1, p2, p3, p4, hd0, hl, hx⟩ => ⟨hd0, st1, cpI h a0 sp a dp n, hx, fun H S hSH => by
    subst he
    refine ⟨hSH.tl.tl.tl.tl.tl, fun p e R s m args below meth c locs cells slots Qf arr CX hL hz r1 r2 r3 r4 w => ?_⟩
    have hn := hSH.hd
    have hdp := hSH.tl.hd
    have hsp := hSH.tl.tl.tl.hd
    have hts := CX.2.2.2.2.2.2.2.1
    have hK := CX.2.2.2.2.2.2.2.2.1
    have hst2 := map_cat st1
    have o2 : a < hN h := S.own2 (by rw [ka]; decide) b1
    have o20 : a0 < hN h := S.own2 (by rw [ka0]; decide) b0
    obtain ⟨c1, ok1⟩ := S.lo b1 o2
    obtain ⟨c0, ok0⟩ := S.lo b0 o20
    rw [ent_i ka] at c1
    rw [ent_i ka0] at c0
    have en : (Int32.ofInt n).toNatClampNeg = n.toNat := i_clamp p2 hn
    have edp : (Int32.ofInt dp).toNatClampNeg = dp.toNat := i_clamp p1 hdp
    have esp : (Int32.ofInt sp).toNatClampNeg = sp.toNat := i_clamp p0 hsp
    have nlt : ∀ z : Int, 0 ≤ z → InR z → ¬ Int32.ofInt z < 0 := fun z hz hr q => by have := (i_lt hr inR0).mp q; omega
    have i1 := i_toInt hn
    have i2 := i_toInt hdp
    have i3 := i_toInt hsp
    have hnw : nativeFrameWords "java/lang/System" "arraycopy" 5 ≤ 40 := by decide
    intro T hT X
    obtain ⟨-, k0, hk0, cm0, hkk0⟩ := (hK.2 0 _ rfl).1 (hS h a0).2 (fun j => .int (Int32.ofInt (hI h a0 (j : Int))))
    obtain ⟨-, k1, hk1, cm1, hkk1⟩ := (hK.2 0 _ rfl).1 (hS h a).2 (fun j => .int (Int32.ofInt (hI h a (j : Int))))
    obtain ⟨vm', X', step⟩ := X.arraycopy CX.1 CX.2.2.2.2.2.1 (hts _ w1) (hts _ q896) (hts _ q895) (hts _ q134) (src := a0) (dst := a) (cs := arrV (gA G 0) (hS h a0).2 (fun j => .int (Int32.ofInt (hI h a0 (j : Int))))) (cd := arrV (gA G 0) (hS h a).2 (fun j => .int (Int32.ofInt (hI h a (j : Int))))) (srcPos := Int32.ofInt sp) (destPos := Int32.ofInt dp) (n := Int32.ofInt n) (by rw [hT]; exact c0) (by rw [hT]; exact c1)
      (fun _ h => by cases h) (fun _ h => by cases h) (fun h => by cases h) (fun h => by cases h) hk0 hk1 hkk0 hkk1 (by simp [arTy, refKind]) (nlt sp p0 hsp) (nlt dp p1 hdp) (nlt n p2 hn)
      (by rw [i3, i1, arrV_size]; omega) (by rw [i2, i1, arrV_size]; omega)
      (fun vm₁ _ i hi => by
        have e : (arrV (gA G 0) (hS h a0).2 (fun j => .int (Int32.ofInt (hI h a0 (j : Int))))).slots.getD ((Int32.ofInt sp).toNatClampNeg + i) .null = .int (Int32.ofInt (hI h a0 (((Int32.ofInt sp).toNatClampNeg + i : Nat) : Int))) := by
          rw [en] at hi
          rw [Array.getD_eq_getD_getElem?, arrV_read _ _ (by rw [esp]; omega)]
          rfl
        refine ⟨?_, ?_⟩
        · rw [e]; rfl
        · rw [e]; exact trivial)
      (g := F0 m pc arr _) rfl (by show arr.size = _; rw [hz, CX.2.2.2.2.1]) (rest := st1.map rv) rfl (by rw [CX.2.1]; exact hd) r1 (by show 2 * 0 + _ + _ ≤ _; omega)
    have e1 := va_copied (fun z => Value.int z) (gA G 0) (gA G 0) (n0 := (hS h a0).2) (n1 := (hS h a).2) (sp := (Int32.ofInt sp).toNatClampNeg) (dp := (Int32.ofInt dp).toNatClampNeg) (n := (Int32.ofInt n).toNatClampNeg) (fun j => Int32.ofInt (hI h a0 (j : Int))) (fun j => Int32.ofInt (hI h a (j : Int))) (by rw [esp, en]; omega)
    have e2 : copied (arrV (gA G 0) (hS h a0).2 (fun j => .int (Int32.ofInt (hI h a0 (j : Int))))) (arrV (gA G 0) (hS h a).2 (fun j => .int (Int32.ofInt (hI h a (j : Int))))) (Int32.ofInt sp) (Int32.ofInt dp) (Int32.ofInt n) = vp_cell (gA G 0) ((hS h a).2, .inl (fun j => Int32.ofInt (hI (cpI h a0 sp a dp n) a (j : Int)))) := by
      refine e1.trans ?_
      rw [vp_cell_i]
      congr 1
      funext j
      rw [hI_cpI, esp, edp, en]
      unfold va_cpy
      by_cases q : dp.toNat ≤ j ∧ j < dp.toNat + n.toNat
      · rw [if_pos q, if_pos ⟨rfl, by omega, by omega⟩]
        show Value.int (Int32.ofInt (hI h a0 ((sp.toNat + (j - dp.toNat) : Nat) : Int))) = _
        rw [show ((sp.toNat + (j - dp.toNat) : Nat) : Int) = sp + ((j : Int) - dp) by omega]
      · rw [if_neg q, if_neg (fun z => q ⟨by omega, by omega⟩)]
    rw [e2] at X' step
    have hl2 : a < H.size := by rw [S.1]; exact o2
    have oq : ∀ q : Nat, q ≠ a → (H.setIfInBounds a (vp_cell (gA G 0) ((hS h a).2, .inl (fun j => Int32.ofInt (hI (cpI h a0 sp a dp n) a (j : Int))))))[q]? = H[q]? := fun q hq => by simp [Array.getElem?_setIfInBounds, Ne.symm hq]
    have hheap : ((T.setVm vm').setCell a (vp_cell (gA G 0) ((hS h a).2, .inl (fun j => Int32.ofInt (hI (cpI h a0 sp a dp n) a (j : Int)))))).heap = H.setIfInBounds a (vp_cell (gA G 0) ((hS h a).2, .inl (fun j => Int32.ofInt (hI (cpI h a0 sp a dp n) a (j : Int))))) := by rw [← hT]; rfl
    obtain ⟨t, a1, bb1⟩ := w _ _ (S.upd (h' := cpI h a0 sp a dp n) b1 (by simp) oq rfl (fun _ => rfl) (fun b hb => ⟨fun k => by rw [hI_cpI, if_neg (fun z => hb z.1)], fun _ => rfl⟩) (by
        rw [ent_i (h := cpI h a0 sp a dp n) ka]
        show (H.setIfInBounds a _)[a]? = some _
        simp [Array.getElem?_setIfInBounds, hl2]; rfl) (by
        obtain ⟨k1, k2, k3, k4, k5⟩ := ok1
        unfold eok
        have hs2 : hS (cpI h a0 sp a dp n) a = hS h a := rfl
        rw [hs2]
        refine ⟨fun q => by omega, fun q i hi => ?_, fun q => by omega, fun q => by omega, k5⟩
        rw [hI_cpI]
        by_cases q2 : a = a ∧ dp ≤ (i : Int) ∧ (i : Int) < dp + n
        · rw [if_pos q2]
          have := ok0.2.1 ka0 (sp + ((i : Int) - dp)).toNat (by omega)
          rw [show (((sp + ((i : Int) - dp)).toNat : Nat) : Int) = sp + ((i : Int) - dp) by omega] at this
          exact this
        · rw [if_neg q2]; exact k2 ka i hi)) (fun q hq => by
        rcases List.mem_append.mp hq with zz | zz
        · exact hL q zz
        · obtain ⟨z, -, hz2⟩ := List.mem_map.mp zz
          rw [← hz2]; exact b1) _ hheap X'
    exact ⟨t, step t a1, bb1⟩⟩
/-- the texts of the class file, by their places -/
def xSLEN (G : Gv) : PT := fun d kc ks ls st h kk => ∃ i st1, st = vr (gK G i) :: st1 ∧ i < nStr ∧ 10 ≤ d ∧ st1.length ≤ 4 ∧ kk kc ks ls (vi ((sLen.getD i 0 : Nat) : Int) :: st1) h
def sCh (i : Nat) (j : Int) : Int := ((sTxt.getD i "").toList.getD j.toNat ' ').toNat
def xSCHR (G : Gv) : PT := fun d kc ks ls st h kk => ∃ j i st1, st = vi j :: vr (gK G i) :: st1 ∧ i < nStr ∧ 0 ≤ j ∧ j < (sLen.getD i 0 : Nat) ∧ 10 ≤ d ∧ st1.length ≤ 4 ∧ kk kc ks ls (vi (sCh i j) :: st1) h
/-! Texts of the class file: String.length and charAt, by the JDK's own code. -/
section
variable {G : Gv} {M : Mt} {d kc ks pc i : Nat} {ls : Lcs} {st : List AV} {h : Hp} {Q : Post} {j : Int}
theorem Env0.jj {U : State} (h : Env0 G U) : EnvJ G U := h.2.1.2
theorem Env0.kk {U : State} (h : Env0 G U) : vk_S nStr sLen sByt (gK G) (gV G) (fun q => gB G ≤ q) U (gH G) := h.2.1.1
theorem Snd.go {pc' : Nat} {x : PT} (s : Snd G M pc pc' x) (hx : x d kc ks ls st h (fun kc ks ls st h => WA G M d kc ks pc' ls st h Q)) : WA G M d kc ks pc ls st h Q := s d Q _ (fun _ _ _ _ _ h => h) kc ks ls st h hx
theorem SndT.go {x : TM} (s : SndT G M pc x) (hx : x d kc ks ls st h (fun pc kc ks ls st h => WA G M d kc ks pc ls st h Q) Q) : WA G M d kc ks pc ls st h Q := s d Q kc ks ls st h hx
theorem MA.of3 {as : List AV} (ls : Lcs) (hy : plainName M.1.cls = true) (hlen : Nat.ble (aL as).length M.2.2.1 = true) (hl : entL as M.2.2.1 = ls) (hw : WA G M d kc ks 0 ls [] h Q) : MA G M d kc ks as h Q := MA.of hy (Nat.le_of_ble_eq_true hlen) (by rw [hl]; exact hw)
/-- a static field that nobody writes -/
theorem s_gz {index : Nat} {C n t : String} {v : AV} (hd : decode M.2.1 pc = .ok (.getstatic index, 3)) (w1 : Cond.fieldLink M.1.cls index C n t ∈ gtb) (hv : okv v) (hz : ∀ U, Env0 G U → va_Z C n t (rv v) (fun q => gB G ≤ q) U (gH G)) : Snd G M pc (pc + 3) (fun d kc ks ls st h k => 1 ≤ d ∧ k kc ks ls (v :: st) h) :=
  Snd.jdk fun d kc ks ls st h kk ⟨hd0, hx⟩ => ⟨hd0, v :: st, h, hx, fun H S hSH => ⟨hSH.cons hv, fun p e R s m args below meth c locs cells slots Qf arr CX hL hz' r1 r2 r3 r4 w => by
    obtain ⟨cf, kf, fi, f, a, cell, h1, h2, h3, h4, h5, h6, h7, h8⟩ := hz s CX.2.2.2.2.2.2.2.2
    exact W.gets CX.1 CX.2.1 CX.2.2.2.2.2.1 (CX.2.2.2.2.2.2.2.1 _ w1) h1 h2 h3 h4 (by rw [S.2.2.1 a (Nat.not_le.mp h8)]; exact h5) (fun e => by rw [e] at h6; cases h6) h7 rfl hd (w H locs S hL)⟩⟩
/-- a field of a text -/
theorem s_gt {index : Nat} {n t : String} {f : Nat → AV} (hd : decode M.2.1 pc = .ok (.getfield index, 3)) (w1 : Cond.fieldLink M.1.cls index "java/lang/String" n t ∈ gtb) (hv : ∀ i, okv (f i)) (hz : ∀ U i, Env0 G U → i < nStr → va_OF "java/lang/String" n t (rv (f i)) (gK G i) (fun q => gB G ≤ q) U (gH G)) : Snd G M pc (pc + 3) (fun d kc ks ls st h k => ∃ i st1, st = vr (gK G i) :: st1 ∧ i < nStr ∧ 1 ≤ d ∧ k kc ks ls (f i :: st1) h) :=
  Snd.jdk fun d kc ks ls st h kk ⟨i, st1, he, hi, hd0, hx⟩ => ⟨hd0, f i :: st1, h, hx, fun H S hSH => by
    subst he
    refine ⟨hSH.tl.cons (hv i), fun p e R s m args below meth c locs cells slots Qf arr CX hL hz' r1 r2 r3 r4 w => ?_⟩
    obtain ⟨cf, k, fi, fd, cell, h1, h2, h3, h4, h5, h6⟩ := hz s i CX.2.2.2.2.2.2.2.2 hi
    exact W.getf CX.1 CX.2.1 CX.2.2.2.2.2.1 (CX.2.2.2.2.2.2.2.1 _ w1) h1 h2 (by rw [S.2.2.1 _ (Nat.not_le.mp h6)]; exact h3) h4 h5 rfl rfl hd (w H locs S hL)⟩
theorem st_len : ∀ i, i < nStr → Int32.ofInt ((sLen.getD i 0 : Nat) : Int) = Int32.ofNat (sLen.getD i 0) ∧ sLen.getD i 0 ≤ 100 ∧ ishr ((sLen.getD i 0 : Nat) : Int) 0 = ((sLen.getD i 0 : Nat) : Int) := by decide +kernel
theorem st_ch : ∀ i, i < nStr → ∀ j : Nat, j < sLen.getD i 0 → Int32.ofInt (sCh i (j : Int)) = (sByt.getD i []).getD j 0 ∧ (0 ≤ sCh i (j : Int) ∧ sCh i (j : Int) ≤ 255) ∧ iand (sCh i (j : Int)) 255 = sCh i (j : Int) ∧ ((Int32.ofInt (sCh i (j : Int))).toUInt32 % 65536).toInt32 = Int32.ofInt (sCh i (j : Int)) := by decide +kernel
theorem st_ch' (hi : i < nStr) (h0 : 0 ≤ j) (h1 : j < (sLen.getD i 0 : Nat)) : Int32.ofInt (sCh i j) = (sByt.getD i []).getD j.toNat 0 ∧ (0 ≤ sCh i j ∧ sCh i j ≤ 255) ∧ iand (sCh i j) 255 = sCh i j ∧ ((Int32.ofInt (sCh i j)).toUInt32 % 65536).toInt32 = Int32.ofInt (sCh i j) := by
  have := st_ch i hi j.toNat (by omega)
  rw [show ((j.toNat : Nat) : Int) = j by omega] at this
  exact this
theorem inR_len (hi : i < nStr) : InR ((sLen.getD i 0 : Nat) : Int) := by
  have := (st_len i hi).2.1
  unfold InR
  omega
/-- a text's number of bytes -/
theorem s_bl (hd : decode M.2.1 pc = .ok (.arraylength, 1)) : Snd G M pc (pc + 1) (fun d kc ks ls st h k => ∃ i st1, st = vr (gV G i) :: st1 ∧ i < nStr ∧ 1 ≤ d ∧ k kc ks ls (vi ((sLen.getD i 0 : Nat) : Int) :: st1) h) :=
  Snd.jdk fun d kc ks ls st h kk ⟨i, st1, he, hi, hd0, hx⟩ => ⟨hd0, vi ((sLen.getD i 0 : Nat) : Int) :: st1, h, hx, fun H S hSH => by
    subst he
    refine ⟨hSH.tl.cons (inR_len hi), fun p e R s m args below meth c locs cells slots Qf arr CX hL hz' r1 r2 r3 r4 w => ?_⟩
    obtain ⟨cell, h1, h2, h3, h4, h5, h6, h7⟩ := ((Env0.kk CX.2.2.2.2.2.2.2.2).1 i hi).2.2.2
    have w2 := w H locs S hL
    exact W.alen (n := Int32.ofInt ((sLen.getD i 0 : Nat) : Int)) CX.1 CX.2.1 (by rw [S.2.2.1 _ (Nat.not_le.mp h7)]; exact h1) h2 (by rw [h5, (st_len i hi).1]) rfl rfl hd w2⟩
/-- a text's byte -/
theorem s_bb (hd : decode M.2.1 pc = .ok (.baload, 1)) : Snd G M pc (pc + 1) (fun d kc ks ls st h k => ∃ j i st1, st = vi j :: vr (gV G i) :: st1 ∧ i < nStr ∧ 0 ≤ j ∧ j < (sLen.getD i 0 : Nat) ∧ 1 ≤ d ∧ k kc ks ls (vi (sCh i j) :: st1) h) :=
  Snd.jdk fun d kc ks ls st h kk ⟨j, i, st1, he, hi, j0, j1, hd0, hx⟩ => ⟨hd0, vi (sCh i j) :: st1, h, hx, fun H S hSH => by
    subst he
    obtain ⟨c1, c2, c3, c4⟩ := st_ch' hi j0 j1
    refine ⟨hSH.tl.tl.cons (show InR (sCh i j) by unfold InR; omega), fun p e R s m args below meth c locs cells slots Qf arr CX hL hz' r1 r2 r3 r4 w => ?_⟩
    obtain ⟨cell, h1, h2, h3, h4, h5, h6, h7⟩ := ((Env0.kk CX.2.2.2.2.2.2.2.2).1 i hi).2.2.2
    have w2 := w H locs S hL
    have hj : InR j := hSH.hd
    have ej := i_clamp j0 hj
    exact W.bald (v := .int (Int32.ofInt (sCh i j))) CX.1 CX.2.1 (by rw [S.2.2.1 _ (Nat.not_le.mp h7)]; exact h1) h2 h3 (fun q => by
      rcases q with q | q
      · have := (i_lt hj inR0).mp q; omega
      · rw [ej] at q; omega) (by rw [ej, h6 _ (by omega), c1]) rfl rfl hd w2⟩
theorem s_i2c (hd : decode M.2.1 pc = .ok (.i2c, 1)) : Snd G M pc (pc + 1) (fun d kc ks ls st h k => ∃ a st1, st = vi a :: st1 ∧ ((Int32.ofInt a).toUInt32 % 65536).toInt32 = Int32.ofInt a ∧ k kc ks ls (vi a :: st1) h) :=
  Snd.pure fun d kc ks ls st h k ⟨a, st1, he, hc, hk⟩ => ⟨vi a :: st1, hk, fun arr hL hS => ⟨by rw [← he]; exact hS, fun p e R s m args below meth c H locs cells slots Qf C w => by
    subst he
    exact lv_i2c C.1 C.2.1 hd hc w⟩⟩
theorem s_nret {ty : FieldType} (hd : decode M.2.1 pc = .ok (.ireturn, 1)) (hr : M.2.2.2 = some ty) : SndT G M pc (fun d kc ks ls st h g Q => ∃ a, st = [vi a] ∧ narrow ty (.int (Int32.ofInt a)) = .int (Int32.ofInt a) ∧ Q (some (vi a)) h) := by
  intro d Q kc ks ls st h ⟨a, he, h01, hx⟩ p e R s m args below meth c CX hd1 hd2 mc ms h1 h2 H locs cells slots arr h3 h4 hSm hL hz hLH hSH
  subst he
  refine W.widen (k := mc) (n := ms) (by omega) (by omega) ?_
  exact W.zret CX.1 CX.2.1 (by rw [CX.2.2.1, hr]) h01 (fun t ht _ => ⟨some (vi a), h, rfl, hx, by rw [ht]; exact hSm, fun v hv => by cases hv; exact hSH.hd⟩) hL hd CX.2.2.2.1
/-- a call on a text -/
theorem callT1 {M' : Mt} {index n : Nat} (hd : decode M.2.1 pc = .ok (.invokevirtual index, 3)) (hi : i < nStr) (hM : MI M' n) (w1 : Cond.methodLink M.1.cls index M'.1 ∈ gtb) (w2 : Cond.instanceMethod M'.1 ∈ gtb) (w3 : Cond.selects "java/lang/String" M'.1 M'.1 ∈ gtb)
    {mc1 ms1 : Nat} {as st1 : List AV} {Q' : Post} (hn : as.length = n) (hst : st1.length ≤ 4) (hd0 : 1 ≤ d) (hmc : mc1 ≤ kc) (hms : ms1 ≤ ks) (hm : MA G M' (d - 1) mc1 ms1 (vr (gK G i) :: as) h Q')
    (hk : ∀ r h', Q' r h' → WA G M d (kc - mc1) (ks - ms1) (pc + 3) ls (r.toList ++ st1) h' Q) : WA G M d kc ks pc ls (as.reverse ++ vr (gK G i) :: st1) h Q := by
  intro p e R s m args below meth c CX hd1 hd2 mc ms h1 h2 H locs cells slots arr h3 h4 hSm hL hz hLH hSH
  obtain ⟨m1, m2, m3, m4⟩ := hM
  have hts := CX.2.2.2.2.2.2.2.1
  have hE := CX.2.2.2.2.2.2.2.2
  obtain ⟨cellV, g1, g2, g3, g4⟩ := (hE.kk.1 i hi).1
  have hst2 := map_cat st1
  have hSHa : SH (vr (gK G i) :: as) := fun v hv => hSH v (by
    rcases List.mem_cons.mp hv with q | q
    · subst q; simp
    · simp [q])
  have hSH1 : SH st1 := fun v hv => hSH v (by simp [hv])
  have hs2 : (as.reverse ++ vr (gK G i) :: st1).map rv = (as.map rv).reverse ++ .ref (gK G i) :: st1.map rv := by simp [rv, vr, va_rf]
  rw [hs2]
  refine callK (va_runV (C := "java/lang/String") (As := as.map rv) (rest := st1.map rv) (n := n) (bytes := M'.2.1) (maxL := M'.2.2.1) (ret := M'.2.2.2) (index := index) (g := F0 m pc arr _) ⟨CX.1, CX.2.1, CX.2.2.2.2.1, CX.2.2.2.2.2.1, hts⟩ hm ⟨callB_of n hts (mw_good m1) rfl rfl rfl (hts _ m2) (hts _ w1) m3 ⟨by show d - 1 + 1 ≤ _; omega, by show 8 + (M'.2.2.1 + 11) + 100 * (d - 1) ≤ _; omega⟩, hts _ w2, hts _ w3⟩
    ⟨PcBlind, ⟨cellV, by rw [hSm.2.2.1 _ (Nat.not_le.mp g4)]; exact g1, g2, g3⟩, fun U hU hW => ⟨rfl, by rw [hU]; exact hSm, hE.warm hW, hSHa⟩⟩ rfl (by simp [hn]) hz rfl (lv_room (by omega)) hd ⟨by omega, by omega⟩) hL (fun r h' H' locs' hq hS' hok hL' => ?_)
  have := hk r h' hq p e R s m args below meth c CX hd1 hd2 mc ms h1 h2 H' locs' (cells + mc1) (slots + ms1) arr (by omega) (by omega) hS' hL' hz hLH (fun v hv => by
    rcases List.mem_append.mp hv with q | q
    · exact hok v (by cases r with | none => simp at q | some x => simp at q; rw [q])
    · exact hSH1 v q)
  rw [List.map_append] at this
  cases r <;> exact this
def M_Jlen : Mt := (yJ0_length_8abf5, cJ0_length_8abf5, 1, some .int)
def M_Jchr : Mt := (yJ0_charAt_5068e, cJ0_charAt_5068e, 2, some .char)
def M_Jcod : Mt := (yJ0_coder_7d493, cJ0_coder_7d493, 1, some .byte)
def M_Jlat : Mt := (yJ0_isLatin1_aae02, cJ0_isLatin1_aae02, 1, some .boolean)
def M_Jchk : Mt := (yJ0_checkIndex_df160, cJ0_checkIndex_df160, 2, none)
def M_Jl1 : Mt := (yJ1_charAt_3b067, cJ1_charAt_3b067, 2, some .char)
def M_Jpre : Mt := (yJ3_checkIndex_8e157, cJ3_checkIndex_8e157, 3, some .int)
theorem jw3 {w : Cond} (n : Nat) (h : tables_1_3[n]? = some w) (hg : goodWord w = true) : w ∈ gtb := gtb_in (tin3 (List.mem_of_getElem? (i := n) h)) hg
theorem jw1 {w : Cond} (n : Nat) (h : tables_1_1[n]? = some w) (hg : goodWord w = true) : w ∈ gtb := gtb_in (tin1 (List.mem_of_getElem? (i := n) h)) hg
theorem jw8 {w : Cond} (n : Nat) (h : tables_1_8[n]? = some w) (hg : goodWord w = true) : w ∈ gtb := gtb_in (tin8 (List.mem_of_getElem? (i := n) h)) hg
theorem mi_Jlen : MI M_Jlen 0 := ⟨jw3 178 rfl rfl, jw1 15 rfl rfl, by decide +kernel, by decide⟩
theorem mi_Jcod : MI M_Jcod 0 := ⟨jw3 182 rfl rfl, jw1 15 rfl rfl, by decide +kernel, by decide⟩
theorem mi_Jchr : MI M_Jchr 1 := ⟨jw3 188 rfl rfl, jw1 15 rfl rfl, by decide +kernel, by decide⟩
theorem mi_Jlat : MI M_Jlat 0 := ⟨jw3 192 rfl rfl, jw1 15 rfl rfl, by decide +kernel, by decide⟩
theorem mi_Jl1 : MI M_Jl1 2 := ⟨jw3 195 rfl rfl, jw1 16 rfl rfl, by decide +kernel, by decide⟩
theorem mi_Jchk : MI M_Jchk 2 := ⟨jw3 198 rfl rfl, jw1 15 rfl rfl, by decide +kernel, by decide⟩
theorem mi_Jpre : MI M_Jpre 3 := ⟨jw3 203 rfl rfl, jw1 17 rfl rfl, by decide +kernel, by decide⟩
def RT (v : Int) (h : Hp) : Post := fun r h' => r = some (vi v) ∧ h' = h
theorem s_comp (hd : decode M.2.1 pc = .ok (.getstatic 38, 3)) (hc : M.1.cls = "java/lang/String") : Snd G M pc (pc + 3) (fun d kc ks ls st h k => 1 ≤ d ∧ k kc ks ls (vi 1 :: st) h) := s_gz hd (by rw [hc]; exact jw3 183 rfl rfl) (show InR 1 by unfold InR; omega) (fun U hU => (hU.jj).1)
theorem s_value (hd : decode M.2.1 pc = .ok (.getfield 9, 3)) (hc : M.1.cls = "java/lang/String") : Snd G M pc (pc + 3) (fun d kc ks ls st h k => ∃ i st1, st = vr (gK G i) :: st1 ∧ i < nStr ∧ 1 ≤ d ∧ k kc ks ls (vr (gV G i) :: st1) h) := s_gt (f := fun i => vr (gV G i)) hd (by rw [hc]; exact jw8 233 rfl rfl) (fun _ => trivial) (fun U i hU hi => (hU.kk.1 i hi).2.2.1)
theorem s_coder (hd : decode M.2.1 pc = .ok (.getfield 15, 3)) (hc : M.1.cls = "java/lang/String") : Snd G M pc (pc + 3) (fun d kc ks ls st h k => ∃ i st1, st = vr (gK G i) :: st1 ∧ i < nStr ∧ 1 ≤ d ∧ k kc ks ls (vi 0 :: st1) h) := s_gt (f := fun i => vi 0) hd (by rw [hc]; exact jw8 234 rfl rfl) (fun _ => show InR 0 by unfold InR; omega) (fun U i hU hi => (hU.kk.1 i hi).2.1)
theorem j_cod (hi : i < nStr) (hd : 1 ≤ d) : MA G M_Jcod d 0 0 [vr (gK G i)] h (RT 0 h) := by
  refine MA.of3 [some (vr (gK G i))] (by decide +kernel) rfl rfl ?_
  refine (s_comp (M := M_Jcod) (pc := 0) (show decode cJ0_coder_7d493 0 = .ok (.getstatic 38, 3) by decide +kernel) rfl).go ⟨hd, ?_⟩
  refine SndT.go (s_ifeq (M := M_Jcod) (pc := 3) (t := 13) (show decode cJ0_coder_7d493 3 = .ok (.ifCond .eq 10, 3) by decide +kernel) (by decide)) ⟨1, [], rfl, fun q => absurd q (by decide), fun _ => ?_⟩
  refine (s_aload_n (M := M_Jcod) (pc := 6) (n := 0) (show decode cJ0_coder_7d493 6 = .ok (.aload_n 0, 1) by decide +kernel) rfl).go ⟨some (gK G i), rfl, ?_⟩
  refine (s_coder (M := M_Jcod) (pc := 7) (show decode cJ0_coder_7d493 7 = .ok (.getfield 15, 3) by decide +kernel) rfl).go ⟨i, [], rfl, hi, hd, ?_⟩
  refine SndT.go (s_goto (M := M_Jcod) (pc := 10) (t := 14) (show decode cJ0_coder_7d493 10 = .ok (.goto 4, 3) by decide +kernel) (by decide)) ?_
  exact SndT.go (s_nret (M := M_Jcod) (pc := 14) (ty := .byte) (show decode cJ0_coder_7d493 14 = .ok (.ireturn, 1) by decide +kernel) rfl) ⟨0, rfl, rfl, rfl, rfl⟩
theorem j_lat (hi : i < nStr) (hd : 1 ≤ d) : MA G M_Jlat d 0 0 [vr (gK G i)] h (RT 1 h) := by
  refine MA.of3 [some (vr (gK G i))] (by decide +kernel) rfl rfl ?_
  refine (s_comp (M := M_Jlat) (pc := 0) (show decode cJ0_isLatin1_aae02 0 = .ok (.getstatic 38, 3) by decide +kernel) rfl).go ⟨hd, ?_⟩
  refine SndT.go (s_ifeq (M := M_Jlat) (pc := 3) (t := 17) (show decode cJ0_isLatin1_aae02 3 = .ok (.ifCond .eq 14, 3) by decide +kernel) (by decide)) ⟨1, [], rfl, fun q => absurd q (by decide), fun _ => ?_⟩
  refine (s_aload_n (M := M_Jlat) (pc := 6) (n := 0) (show decode cJ0_isLatin1_aae02 6 = .ok (.aload_n 0, 1) by decide +kernel) rfl).go ⟨some (gK G i), rfl, ?_⟩
  refine (s_coder (M := M_Jlat) (pc := 7) (show decode cJ0_isLatin1_aae02 7 = .ok (.getfield 15, 3) by decide +kernel) rfl).go ⟨i, [], rfl, hi, hd, ?_⟩
  refine SndT.go (s_ifne (M := M_Jlat) (pc := 10) (t := 17) (show decode cJ0_isLatin1_aae02 10 = .ok (.ifCond .ne 7, 3) by decide +kernel) (by decide)) ⟨0, [], rfl, fun q => absurd rfl q, fun _ => ?_⟩
  refine (s_iconst (M := M_Jlat) (pc := 13) (n := 1) (show decode cJ0_isLatin1_aae02 13 = .ok (.iconst 1, 1) by decide +kernel)).go ⟨by unfold InR; omega, ?_⟩
  refine SndT.go (s_goto (M := M_Jlat) (pc := 14) (t := 18) (show decode cJ0_isLatin1_aae02 14 = .ok (.goto 4, 3) by decide +kernel) (by decide)) ?_
  exact SndT.go (s_zret (M := M_Jlat) (pc := 18) (show decode cJ0_isLatin1_aae02 18 = .ok (.ireturn, 1) by decide +kernel) rfl) ⟨1, rfl, Or.inr rfl, rfl, rfl⟩
theorem j_len (hi : i < nStr) (hd : 2 ≤ d) : MA G M_Jlen d 0 0 [vr (gK G i)] h (RT ((sLen.getD i 0 : Nat) : Int) h) := by
  refine MA.of3 [some (vr (gK G i))] (by decide +kernel) rfl rfl ?_
  refine (s_aload_n (M := M_Jlen) (pc := 0) (n := 0) (show decode cJ0_length_8abf5 0 = .ok (.aload_n 0, 1) by decide +kernel) rfl).go ⟨some (gK G i), rfl, ?_⟩
  refine (s_value (M := M_Jlen) (pc := 1) (show decode cJ0_length_8abf5 1 = .ok (.getfield 9, 3) by decide +kernel) rfl).go ⟨i, [], rfl, hi, by omega, ?_⟩
  refine (s_bl (M := M_Jlen) (pc := 4) (show decode cJ0_length_8abf5 4 = .ok (.arraylength, 1) by decide +kernel)).go ⟨i, [], rfl, hi, by omega, ?_⟩
  refine (s_aload_n (M := M_Jlen) (pc := 5) (n := 0) (show decode cJ0_length_8abf5 5 = .ok (.aload_n 0, 1) by decide +kernel) rfl).go ⟨some (gK G i), rfl, ?_⟩
  refine callT1 (M := M_Jlen) (pc := 6) (as := []) (M' := M_Jcod) (show decode cJ0_length_8abf5 6 = .ok (.invokevirtual 335, 3) by decide +kernel) hi mi_Jcod (jw3 179 rfl rfl) (jw3 180 rfl rfl) (jw3 181 rfl rfl) rfl (by simp) (by omega) (Nat.zero_le _) (Nat.zero_le _) (j_cod hi (by omega)) (fun r h' e => ?_)
  obtain ⟨e1, e2⟩ := e
  subst e1; subst e2
  refine (s_ishr (M := M_Jlen) (pc := 9) (show decode cJ0_length_8abf5 9 = .ok (.ishr, 1) by decide +kernel)).go ⟨0, _, [], rfl, ?_⟩
  rw [(st_len i hi).2.2]
  exact SndT.go (s_iret (M := M_Jlen) (pc := 10) (show decode cJ0_length_8abf5 10 = .ok (.ireturn, 1) by decide +kernel) rfl) ⟨_, rfl, rfl, rfl⟩
theorem j_pre {n : Int} {f : Option Nat} (h0 : 0 ≤ j) (h1 : j < n) : MA G M_Jpre d 0 0 [vi j, vi n, vq f] h (RT j h) := by
  refine MA.of3 [some (vi j), some (vi n), some (vq f)] (by decide +kernel) rfl rfl ?_
  refine (s_iload_n (M := M_Jpre) (pc := 0) (n := 0) (show decode cJ3_checkIndex_8e157 0 = .ok (.iload_n 0, 1) by decide +kernel) rfl).go ⟨j, rfl, ?_⟩
  refine SndT.go (s_iflt (M := M_Jpre) (pc := 1) (t := 9) (show decode cJ3_checkIndex_8e157 1 = .ok (.ifCond .lt 8, 3) by decide +kernel) (by decide)) ⟨j, [], rfl, fun q => absurd q (by omega), fun _ => ?_⟩
  refine (s_iload_n (M := M_Jpre) (pc := 4) (n := 0) (show decode cJ3_checkIndex_8e157 4 = .ok (.iload_n 0, 1) by decide +kernel) rfl).go ⟨j, rfl, ?_⟩
  refine (s_iload_n (M := M_Jpre) (pc := 5) (n := 1) (show decode cJ3_checkIndex_8e157 5 = .ok (.iload_n 1, 1) by decide +kernel) rfl).go ⟨n, rfl, ?_⟩
  refine SndT.go (s_iclt (M := M_Jpre) (pc := 6) (t := 16) (show decode cJ3_checkIndex_8e157 6 = .ok (.if_icmp .lt 10, 3) by decide +kernel) (by decide)) ⟨n, j, [], rfl, fun _ => ?_, fun q => absurd h1 q⟩
  refine (s_iload_n (M := M_Jpre) (pc := 16) (n := 0) (show decode cJ3_checkIndex_8e157 16 = .ok (.iload_n 0, 1) by decide +kernel) rfl).go ⟨j, rfl, ?_⟩
  exact SndT.go (s_iret (M := M_Jpre) (pc := 17) (show decode cJ3_checkIndex_8e157 17 = .ok (.ireturn, 1) by decide +kernel) rfl) ⟨_, rfl, rfl, rfl⟩
theorem j_chk {n : Int} (h0 : 0 ≤ j) (h1 : j < n) (hd : 1 ≤ d) : MA G M_Jchk d 0 0 [vi j, vi n] h (fun r h' => r = none ∧ h' = h) := by
  refine MA.of3 [some (vi j), some (vi n)] (by decide +kernel) rfl rfl ?_
  refine (s_iload_n (M := M_Jchk) (pc := 0) (n := 0) (show decode cJ0_checkIndex_df160 0 = .ok (.iload_n 0, 1) by decide +kernel) rfl).go ⟨j, rfl, ?_⟩
  refine (s_iload_n (M := M_Jchk) (pc := 1) (n := 1) (show decode cJ0_checkIndex_df160 1 = .ok (.iload_n 1, 1) by decide +kernel) rfl).go ⟨n, rfl, ?_⟩
  refine (s_gz (M := M_Jchk) (pc := 2) (v := vq (fmO G)) (show decode cJ0_checkIndex_df160 2 = .ok (.getstatic 1053, 3) by decide +kernel) (jw3 199 rfl rfl) trivial (fun U hU => (hU.jj).2)).go ⟨hd, ?_⟩
  refine callS1 (M := M_Jchk) (pc := 5) (M' := M_Jpre) (as := [vi j, vi n, vq (fmO G)]) (st1 := []) (show decode cJ0_checkIndex_df160 5 = .ok (.invokestatic 1059, 3) by decide +kernel) mi_Jpre (jw3 201 rfl rfl) (jw3 202 rfl rfl) rfl (by simp) hd (Nat.zero_le _) (Nat.zero_le _) (j_pre h0 h1) (fun r h' e => ?_)
  obtain ⟨e1, e2⟩ := e
  subst e1; subst e2
  refine (s_pop (M := M_Jchk) (pc := 8) (show decode cJ0_checkIndex_df160 8 = .ok (.pop, 1) by decide +kernel)).go ⟨_, [], rfl, rfl, ?_⟩
  exact SndT.go (s_vret (M := M_Jchk) (pc := 9) (show decode cJ0_checkIndex_df160 9 = .ok (.return_, 1) by decide +kernel) rfl) ⟨rfl, rfl, rfl⟩
theorem j_l1 (hi : i < nStr) (h0 : 0 ≤ j) (h1 : j < (sLen.getD i 0 : Nat)) (hd : 2 ≤ d) : MA G M_Jl1 d 0 0 [vr (gV G i), vi j] h (RT (sCh i j) h) := by
  obtain ⟨c1, c2, c3, c4⟩ := st_ch' hi h0 h1
  refine MA.of3 [some (vr (gV G i)), some (vi j)] (by decide +kernel) rfl rfl ?_
  refine (s_iload_n (M := M_Jl1) (pc := 0) (n := 1) (show decode cJ1_charAt_3b067 0 = .ok (.iload_n 1, 1) by decide +kernel) rfl).go ⟨j, rfl, ?_⟩
  refine (s_aload_n (M := M_Jl1) (pc := 1) (n := 0) (show decode cJ1_charAt_3b067 1 = .ok (.aload_n 0, 1) by decide +kernel) rfl).go ⟨some (gV G i), rfl, ?_⟩
  refine (s_bl (M := M_Jl1) (pc := 2) (show decode cJ1_charAt_3b067 2 = .ok (.arraylength, 1) by decide +kernel)).go ⟨i, _, rfl, hi, by omega, ?_⟩
  refine callS1 (M := M_Jl1) (pc := 3) (M' := M_Jchk) (as := [vi j, vi ((sLen.getD i 0 : Nat) : Int)]) (st1 := []) (show decode cJ1_charAt_3b067 3 = .ok (.invokestatic 9, 3) by decide +kernel) mi_Jchk (jw3 196 rfl rfl) (jw3 197 rfl rfl) rfl (by simp) (by omega) (Nat.zero_le _) (Nat.zero_le _) (j_chk h0 h1 (by omega)) (fun r h' e => ?_)
  obtain ⟨e1, e2⟩ := e
  subst e1; subst e2
  refine (s_aload_n (M := M_Jl1) (pc := 6) (n := 0) (show decode cJ1_charAt_3b067 6 = .ok (.aload_n 0, 1) by decide +kernel) rfl).go ⟨some (gV G i), rfl, ?_⟩
  refine (s_iload_n (M := M_Jl1) (pc := 7) (n := 1) (show decode cJ1_charAt_3b067 7 = .ok (.iload_n 1, 1) by decide +kernel) rfl).go ⟨j, rfl, ?_⟩
  refine (s_bb (M := M_Jl1) (pc := 8) (show decode cJ1_charAt_3b067 8 = .ok (.baload, 1) by decide +kernel)).go ⟨j, i, [], rfl, hi, h0, h1, by omega, ?_⟩
  refine (s_sipush (M := M_Jl1) (pc := 9) (n := 255) (show decode cJ1_charAt_3b067 9 = .ok (.sipush 255, 3) by decide +kernel) (by decide)).go ⟨by unfold InR; omega, ?_⟩
  refine (s_iand (M := M_Jl1) (pc := 12) (show decode cJ1_charAt_3b067 12 = .ok (.iand, 1) by decide +kernel)).go ⟨255, _, [], rfl, ?_⟩
  rw [c3]
  refine (s_i2c (M := M_Jl1) (pc := 13) (show decode cJ1_charAt_3b067 13 = .ok (.i2c, 1) by decide +kernel)).go ⟨_, [], rfl, c4, ?_⟩
  exact SndT.go (s_nret (M := M_Jl1) (pc := 14) (ty := .char) (show decode cJ1_charAt_3b067 14 = .ok (.ireturn, 1) by decide +kernel) rfl) ⟨_, rfl, congrArg Value.int c4, rfl, rfl⟩
theorem j_chr (hi : i < nStr) (h0 : 0 ≤ j) (h1 : j < (sLen.getD i 0 : Nat)) (hd : 3 ≤ d) : MA G M_Jchr d 0 0 [vr (gK G i), vi j] h (RT (sCh i j) h) := by
  obtain ⟨c1, c2, c3, c4⟩ := st_ch' hi h0 h1
  refine MA.of3 [some (vr (gK G i)), some (vi j)] (by decide +kernel) rfl rfl ?_
  refine (s_aload_n (M := M_Jchr) (pc := 0) (n := 0) (show decode cJ0_charAt_5068e 0 = .ok (.aload_n 0, 1) by decide +kernel) rfl).go ⟨some (gK G i), rfl, ?_⟩
  refine callT1 (M := M_Jchr) (pc := 1) (as := []) (st1 := []) (M' := M_Jlat) (show decode cJ0_charAt_5068e 1 = .ok (.invokevirtual 492, 3) by decide +kernel) hi mi_Jlat (jw3 189 rfl rfl) (jw3 190 rfl rfl) (jw3 191 rfl rfl) rfl (by simp) (by omega) (Nat.zero_le _) (Nat.zero_le _) (j_lat hi (by omega)) (fun r h' e => ?_)
  obtain ⟨e1, e2⟩ := e
  subst e1; subst e2
  refine SndT.go (s_ifeq (M := M_Jchr) (pc := 4) (t := 16) (show decode cJ0_charAt_5068e 4 = .ok (.ifCond .eq 12, 3) by decide +kernel) (by decide)) ⟨1, [], rfl, fun q => absurd q (by decide), fun _ => ?_⟩
  refine (s_aload_n (M := M_Jchr) (pc := 7) (n := 0) (show decode cJ0_charAt_5068e 7 = .ok (.aload_n 0, 1) by decide +kernel) rfl).go ⟨some (gK G i), rfl, ?_⟩
  refine (s_value (M := M_Jchr) (pc := 8) (show decode cJ0_charAt_5068e 8 = .ok (.getfield 9, 3) by decide +kernel) rfl).go ⟨i, [], rfl, hi, by omega, ?_⟩
  refine (s_iload_n (M := M_Jchr) (pc := 11) (n := 1) (show decode cJ0_charAt_5068e 11 = .ok (.iload_n 1, 1) by decide +kernel) rfl).go ⟨j, rfl, ?_⟩
  refine callS1 (M := M_Jchr) (pc := 12) (M' := M_Jl1) (as := [vr (gV G i), vi j]) (st1 := []) (show decode cJ0_charAt_5068e 12 = .ok (.invokestatic 495, 3) by decide +kernel) mi_Jl1 (jw3 193 rfl rfl) (jw3 194 rfl rfl) rfl (by simp) (by omega) (Nat.zero_le _) (Nat.zero_le _) (j_l1 hi h0 h1 (by omega)) (fun r h' e => ?_)
  obtain ⟨e1, e2⟩ := e
  subst e1; subst e2
  exact SndT.go (s_nret (M := M_Jchr) (pc := 15) (ty := .char) (show decode cJ0_charAt_5068e 15 = .ok (.ireturn, 1) by decide +kernel) rfl) ⟨_, rfl, congrArg Value.int c4, rfl, rfl⟩
theorem s_slen {index : Nat} (hd : decode M.2.1 pc = .ok (.invokevirtual index, 3)) (w1 : Cond.methodLink M.1.cls index ⟨"java/lang/String", "length", "()I"⟩ ∈ gtb) : Snd G M pc (pc + 3) (xSLEN G) := by
  intro d Q k hk kc ks ls st h hx
  obtain ⟨i, st1, he, hi, hd0, hl, hx⟩ := hx
  subst he
  exact callT1 (as := []) (M' := M_Jlen) hd hi mi_Jlen w1 (jw3 176 rfl rfl) (jw3 177 rfl rfl) rfl hl (by omega) (Nat.zero_le _) (Nat.zero_le _) (j_len hi (by omega)) (fun r h' e => by
    obtain ⟨e1, e2⟩ := e
    subst e1; subst e2
    exact hk _ _ _ _ _ hx)
theorem s_schr {index : Nat} (hd : decode M.2.1 pc = .ok (.invokevirtual index, 3)) (w1 : Cond.methodLink M.1.cls index ⟨"java/lang/String", "charAt", "(I)C"⟩ ∈ gtb) : Snd G M pc (pc + 3) (xSCHR G) := by
  intro d Q k hk kc ks ls st h hx
  obtain ⟨j, i, st1, he, hi, j0, j1, hd0, hl, hx⟩ := hx
  subst he
  exact callT1 (as := [vi j]) (M' := M_Jchr) hd hi mi_Jchr w1 (jw3 186 rfl rfl) (jw3 187 rfl rfl) rfl hl (by omega) (Nat.zero_le _) (Nat.zero_le _) (j_chr hi j0 j1 (by omega)) (fun r h' e => by
    obtain ⟨e1, e2⟩ := e
    subst e1; subst e2
    exact hk _ _ _ _ _ hx)
end
