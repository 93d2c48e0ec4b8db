/-! Returns and calls. -/
def tZRET : TM := fun d kc ks ls st h g Q => ∃ a, st = [vi a] ∧ (a = 0 ∨ a = 1) ∧ Q (some (vi a)) h
theorem s_iret {G : Gv} {M : Mt} {pc : Nat} (hd : decode M.2.1 pc = .ok (.ireturn, 1)) (hr : M.2.2.2 = some .int) : SndT G M pc tIRET := by
  intro d Q kc ks ls st h ⟨a, he, hx⟩ p e R s m args below meth c CX hd1 hd2 mc ms h1 h2 H locs cells slots arr h3 h4 hSm hL hz hLH hSH
  subst he
  refine W.widen (k := mc) (n := ms) (by omega) (by omega) ?_
  exact W.iret CX.1 CX.2.1 (by rw [CX.2.2.1, hr]) (fun t ht _ => ⟨some (vi a), h, rfl, hx, by rw [ht]; exact hSm, fun v hv => by cases hv; exact hSH.hd⟩) hL hd CX.2.2.2.1
theorem s_zret {G : Gv} {M : Mt} {pc : Nat} (hd : decode M.2.1 pc = .ok (.ireturn, 1)) (hr : M.2.2.2 = some .boolean) : SndT G M pc tZRET := by
  intro d Q kc ks ls st h ⟨a, he, h01, hx⟩ p e R s m args below meth c CX hd1 hd2 mc ms h1 h2 H locs cells slots arr h3 h4 hSm hL hz hLH hSH
  subst he
  refine W.widen (k := mc) (n := ms) (by omega) (by omega) ?_
  exact W.zret CX.1 CX.2.1 (by rw [CX.2.2.1, hr]) (nar_z h01) (fun t ht _ => ⟨some (vi a), h, rfl, hx, by rw [ht]; exact hSm, fun v hv => by cases hv; exact hSH.hd⟩) hL hd CX.2.2.2.1
theorem s_lret {G : Gv} {M : Mt} {pc : Nat} (hd : decode M.2.1 pc = .ok (.lreturn, 1)) (hr : M.2.2.2 = some .long) : SndT G M pc tLRET := by
  intro d Q kc ks ls st h ⟨a, he, hx⟩ p e R s m args below meth c CX hd1 hd2 mc ms h1 h2 H locs cells slots arr h3 h4 hSm hL hz hLH hSH
  subst he
  refine W.widen (k := mc) (n := ms) (by omega) (by omega) ?_
  exact W.lret CX.1 CX.2.1 (by rw [CX.2.2.1, hr]) (fun t ht _ => ⟨some (vl a), h, rfl, hx, by rw [ht]; exact hSm, fun v hv => by cases hv; exact hSH.hd⟩) hL hd CX.2.2.2.1
theorem s_aret {G : Gv} {M : Mt} {pc : Nat} {n : String} (hd : decode M.2.1 pc = .ok (.areturn, 1)) (hr : M.2.2.2 = some (.object n)) : SndT G M pc tARET := by
  intro d Q kc ks ls st h ⟨a, he, hx⟩ p e R s m args below meth c CX hd1 hd2 mc ms h1 h2 H locs cells slots arr h3 h4 hSm hL hz hLH hSH
  subst he
  refine W.widen (k := mc) (n := ms) (by omega) (by omega) ?_
  exact W.aret (v := rv (vq a)) CX.1 CX.2.1 (by rw [CX.2.2.1, hr]) (Or.inl ⟨n, rfl⟩) (by cases a with | none => exact Or.inl rfl | some a => exact Or.inr ⟨a, rfl⟩) (fun t ht _ => ⟨some (vq a), h, rfl, hx, by rw [ht]; exact hSm, fun v hv => by cases hv; exact hSH.hd⟩) hL hd CX.2.2.2.1
theorem s_vret {G : Gv} {M : Mt} {pc : Nat} (hd : decode M.2.1 pc = .ok (.return_, 1)) (hr : M.2.2.2 = none) : SndT G M pc tVRET := by
  intro d Q kc ks ls st h ⟨he, hx⟩ p e R s m args below meth c CX hd1 hd2 mc ms h1 h2 H locs cells slots arr h3 h4 hSm hL hz hLH hSH
  subst he
  refine W.widen (k := mc) (n := ms) (by omega) (by omega) ?_
  exact W.vret CX.1 CX.2.1 (by rw [CX.2.2.1, hr]) (fun t ht _ => ⟨none, h, rfl, hx, by rw [ht]; exact hSm, fun v hv => by cases hv⟩) hL hd CX.2.2.2.1
theorem tbl_good : gtb.all goodWord = true := List.all_eq_true.mpr fun w h => (List.mem_filter.mp h).2
theorem mw_good {M : Mt} (h : Cond.code M.1 M.2.1 M.2.2.1 M.2.2.2 ∈ gtb) : GoodIn gtb (mw M) := fun w hw => by
  have h1 : w ∈ gtb := (List.mem_cons.mp hw).elim (fun e => e ▸ h) id
  exact ⟨h1, good_of_word (List.all_eq_true.mp tbl_good w h1)⟩
/-- what is known of a method that is called -/
def MI (M : Mt) (n : Nat) : Prop := Cond.code M.1 M.2.1 M.2.2.1 M.2.2.2 ∈ gtb ∧ Cond.initialized M.1.cls ∈ gtb ∧ (M.1.cls ≠ "java/lang/invoke/MethodHandle" ∧ M.1.cls ≠ "java/lang/invoke/VarHandle" ∧ (parseMethodDescriptor M.1.desc).map (fun d => d.parameters.length) = some n) ∧ M.2.2.1 ≤ 80
theorem callK {G : Gv} {p : Program} {e : Jvm.Env} {R : Room} {s : State} {m : MethodId} {args : Array Value} {below : List Frame} {meth : Method} {c : Code} {H : Heap} {locs : List Loc} {cells slots mc ms pc : Nat} {Qf : State → Prop} {arr : Array Slot} {st0 rest : List Value} {Q : Post} {a : Array Value}
    (hr : va_Run p (gLa G) e R s m args below meth c H locs cells slots mc ms (F0 m pc arr st0) rest (QcOf G Q a) (wFree G)) (hL : ∀ q ∈ locs, gB G ≤ q.base)
    (w : ∀ (r : Option AV) (h' : Hp) (H' : Heap) (locs' : List Loc), Q r h' → Sim G h' H' → (∀ v, r = some v → okv v) → (∀ q ∈ locs', gB G ≤ q.base) → W p (gLa G) e R s m args below meth c H' locs' (cells + mc) (slots + ms) Qf (F0 m (pc + 3) arr ((r.map rv).toList ++ rest))) : W p (gLa G) e R s m args below meth c H locs cells slots Qf (F0 m pc arr st0) := by
  intro T hT X
  obtain ⟨v, st₀, t, T', L, g0, X', gL', e1, e2, ⟨r, h', hv, hq, hS', hok⟩, st⟩ := hr T hT X
  have hv' : v = r.map rv := Outcome.returned.inj hv
  subst hv'
  obtain ⟨t2, a1, b1⟩ := w r h' T'.heap (locs ++ L) hq (by rw [e1]; exact hS') hok (fun q hq => (List.mem_append.mp hq).elim (hL q) (gL' q)) T' rfl X'
  exact ⟨t2, st t2 a1, b1⟩
theorem Env0.blind {G : Gv} {U : State} {g : JFrame} {mk : MethodId} {a : Array Value} (h : Env0 G U) : Env0 G (U.calling g mk a) := by
  obtain ⟨h1, h2, h3, scr, h4, h5, h6⟩ := h
  have hv : (U.calling g mk a).vm = U.vm := rfl
  have hA : U.vm.Alike (U.calling g mk a).vm := by rw [hv]; exact Vm.Alike.refl _
  exact ⟨h1.moved hA, ⟨h2.1.moved hA, h2.2.1.moved hA, h2.2.2.moved hA⟩, ⟨fun i hi => (h3.1 i hi).same hv, ⟨h3.2.1.1.moved hA, h3.2.1.2.moved hA⟩, fun q hq => (h3.2.2 q hq).same rfl hv.symm⟩, scr, h4, State.isArrayOf_alike hA h5, h6⟩
theorem PcBlind {G : Gv} {as : List AV} {h : Hp} : FrameBlind (va_Pc (as.map rv) (fun U => Sim G h U.heap ∧ Env0 G U ∧ SH as)) := fun a U g mk ⟨q1, q2, q3, q4⟩ => ⟨q1, q2, q3.blind, q4⟩
theorem map_cat (st : List AV) : ((st.map rv).map fun v => v.category).sum ≤ 2 * st.length := by
  induction st with
  | nil => simp
  | cons v t ih =>
    have : (rv v).category ≤ 2 := by rcases lv_cat (rv v) with q | q <;> omega
    simp only [List.map_cons, List.sum_cons, List.length_cons]
    omega
theorem callV1 {G : Gv} {M M' : Mt} {pc index ci n : Nat} {C : String} {T : u_T} (hd : decode M.2.1 pc = .ok (.invokevirtual index, 3)) (hc : CI ci C T) (hC : M'.1.cls = C) (hM : MI M' n) (w1 : Cond.methodLink M.1.cls index M'.1 ∈ gtb) (w2 : Cond.instanceMethod M'.1 ∈ gtb) (w3 : Cond.selects C M'.1 M'.1 ∈ gtb)
    {d kc ks mc1 ms1 b : Nat} {ls : Lcs} {as st1 : List AV} {h : Hp} {Q Q' : Post} (hn : as.length = n) (hb : (hS h b).1 = ci) (hst : st1.length ≤ 4) (hd0 : 1 ≤ d) (hmc : mc1 ≤ kc) (hms : ms1 ≤ ks) (hm : MA G M' (d - 1) mc1 ms1 (vr b :: as) h Q')
    (hk : ∀ r h', Q' r h' → WA G M d (kc - mc1) (ks - ms1) (pc + 3) ls (r.toList ++ st1) h' Q) : WA G M d kc ks pc ls (as.reverse ++ vr b :: st1) h Q := by
  intro p e R s m args below meth c CX hd1 hd2 mc ms h1 h2 H locs cells slots arr h3 h4 hSm hL hz hLH hSH
  obtain ⟨c1, c2, c3, c4, c5⟩ := hc
  obtain ⟨m1, m2, m3, m4⟩ := hM
  have hts := CX.2.2.2.2.2.2.2.1
  have hE := CX.2.2.2.2.2.2.2.2
  obtain ⟨o1, o2⟩ := hSm.own (a := b) (by rw [hb]; omega) (by rw [hb]; omega)
  have q1 := (hSm.lo o1 o2).1
  rw [ent_obj c1 hb] at q1
  obtain ⟨r', hr', cellV, g1, g2, g3, -⟩ := q1
  have hcls := (hE.1.1 ci _ c2).2
  have hst2 := map_cat st1
  have hSHa : SH (vr b :: as) := fun v hv => hSH v (by
    rcases List.mem_cons.mp hv with q | q
    · subst q; simp
    · simp [q])
  have hSH1 : SH st1 := fun v hv => hSH v (by simp [hv])
  have hs2 : (as.reverse ++ vr b :: st1).map rv = (as.map rv).reverse ++ .ref b :: st1.map rv := by simp [rv, vr, va_rf]
  rw [hs2]
  refine callK (va_runV (C := C) (As := as.map rv) (rest := st1.map rv) (n := n) (bytes := M'.2.1) (maxL := M'.2.2.1) (ret := M'.2.2.2) (index := index) (g := F0 m pc arr _) ⟨CX.1, CX.2.1, CX.2.2.2.2.1, CX.2.2.2.2.2.1, hts⟩ hm ⟨callB_of n hts (mw_good m1) rfl rfl rfl (hts _ m2) (hts _ w1) m3 ⟨by show d - 1 + 1 ≤ _; omega, by show 8 + (M'.2.2.1 + 11) + 100 * (d - 1) ≤ _; omega⟩, hts _ w2, hts _ w3⟩
    ⟨PcBlind, ⟨cellV, g1, by rw [g3]; rfl, by rw [g2]; exact hcls.1⟩, fun U hU hW => ⟨rfl, by rw [hU]; exact hSm, hE.warm hW, hSHa⟩⟩ rfl (by simp [hn]) hz rfl (lv_room (by omega)) hd ⟨by omega, by omega⟩) hL (fun r h' H' locs' hq hS' hok hL' => ?_)
  have := hk r h' hq p e R s m args below meth c CX hd1 hd2 mc ms h1 h2 H' locs' (cells + mc1) (slots + ms1) arr (by omega) (by omega) hS' hL' hz hLH (fun v hv => by
    rcases List.mem_append.mp hv with q | q
    · exact hok v (by cases r with | none => simp at q | some x => simp at q; rw [q])
    · exact hSH1 v q)
  rw [List.map_append] at this
  cases r <;> exact this
theorem callS1 {G : Gv} {M M' : Mt} {pc index n : Nat} (hd : decode M.2.1 pc = .ok (.invokestatic index, 3)) (hM : MI M' n) (w1 : Cond.methodLink M.1.cls index M'.1 ∈ gtb) (w2 : Cond.static M'.1 ∈ gtb)
    {d kc ks mc1 ms1 : Nat} {ls : Lcs} {as st1 : List AV} {h : Hp} {Q Q' : Post} (hn : as.length = n) (hst : st1.length ≤ 4) (hd0 : 1 ≤ d) (hmc : mc1 ≤ kc) (hms : ms1 ≤ ks) (hm : MA G M' (d - 1) mc1 ms1 as h Q')
    (hk : ∀ r h', Q' r h' → WA G M d (kc - mc1) (ks - ms1) (pc + 3) ls (r.toList ++ st1) h' Q) : WA G M d kc ks pc ls (as.reverse ++ st1) h Q := by
  intro p e R s m args below meth c CX hd1 hd2 mc ms h1 h2 H locs cells slots arr h3 h4 hSm hL hz hLH hSH
  obtain ⟨m1, m2, m3, m4⟩ := hM
  have hts := CX.2.2.2.2.2.2.2.1
  have hE := CX.2.2.2.2.2.2.2.2
  have hst2 := map_cat st1
  have hSHa : SH as := fun v hv => hSH v (by simp [hv])
  have hSH1 : SH st1 := fun v hv => hSH v (by simp [hv])
  have hs2 : (as.reverse ++ st1).map rv = (as.map rv).reverse ++ st1.map rv := by simp
  rw [hs2]
  refine callK (va_runS (As := as.map rv) (rest := st1.map rv) (n := n) (bytes := M'.2.1) (maxL := M'.2.2.1) (ret := M'.2.2.2) (index := index) (g := F0 m pc arr _) ⟨CX.1, CX.2.1, CX.2.2.2.2.1, CX.2.2.2.2.2.1, hts⟩ hm ⟨callB_of n hts (mw_good m1) rfl rfl rfl (hts _ m2) (hts _ w1) m3 ⟨by show d - 1 + 1 ≤ _; omega, by show 8 + (M'.2.2.1 + 11) + 100 * (d - 1) ≤ _; omega⟩, hts _ w2⟩
    ⟨PcBlind, fun U hU hW => ⟨rfl, by rw [hU]; exact hSm, hE.warm hW, hSHa⟩⟩ rfl (by simp [hn]) hz rfl (lv_room (by omega)) hd ⟨by omega, by omega⟩) hL (fun r h' H' locs' hq hS' hok hL' => ?_)
  have := hk r h' hq p e R s m args below meth c CX hd1 hd2 mc ms h1 h2 H' locs' (cells + mc1) (slots + ms1) arr (by omega) (by omega) hS' hL' hz hLH (fun v hv => by
    rcases List.mem_append.mp hv with q | q
    · exact hok v (by cases r with | none => simp at q | some x => simp at q; rw [q])
    · exact hSH1 v q)
  rw [List.map_append] at this
  cases r <;> exact this
theorem callI1 {G : Gv} {M M' : Mt} {pc index n : Nat} (hd : decode M.2.1 pc = .ok (.invokespecial index, 3)) (hM : MI M' n) (hr0 : M'.2.2.2 = none) (hin : M'.1.name = "<init>") (w1 : Cond.methodLink M.1.cls index M'.1 ∈ gtb) (w2 : Cond.instanceMethod M'.1 ∈ gtb)
    {d kc ks mc1 ms1 b : Nat} {ls : Lcs} {as st1 : List AV} {h : Hp} {Q Q' : Post} (hn : as.length = n) (hst : st1.length ≤ 4) (hd0 : 1 ≤ d) (hmc : mc1 ≤ kc) (hms : ms1 ≤ ks) (hm : MA G M' (d - 1) mc1 ms1 (vr b :: as) h Q')
    (hk : ∀ r h', Q' r h' → WA G M d (kc - mc1) (ks - ms1) (pc + 3) ls (r.toList ++ st1) h' Q) : WA G M d kc ks pc ls (as.reverse ++ vr b :: st1) h Q := by
  intro p e R s m args below meth c CX hd1 hd2 mc ms h1 h2 H locs cells slots arr h3 h4 hSm hL hz hLH hSH
  obtain ⟨m1, m2, m3, m4⟩ := hM
  have hts := CX.2.2.2.2.2.2.2.1
  have hE := CX.2.2.2.2.2.2.2.2
  have hst2 := map_cat st1
  have hSHa : SH (vr b :: as) := fun v hv => hSH v (by
    rcases List.mem_cons.mp hv with q | q
    · subst q; simp
    · simp [q])
  have hSH1 : SH st1 := fun v hv => hSH v (by simp [hv])
  have hs2 : (as.reverse ++ vr b :: st1).map rv = (as.map rv).reverse ++ .ref b :: st1.map rv := by simp [rv, vr, va_rf]
  rw [hs2]
  rw [hr0] at m1
  refine callK (va_runI (As := as.map rv) (rest := st1.map rv) (n := n) (bytes := M'.2.1) (maxL := M'.2.2.1) (index := index) (g := F0 m pc arr _) ⟨CX.1, CX.2.1, CX.2.2.2.2.1, CX.2.2.2.2.2.1, hts⟩ hm ⟨callB_of n hts (mw_good (by rw [hr0]; exact m1)) (by unfold mw; rw [hr0]) rfl rfl (hts _ m2) (hts _ w1) m3 ⟨by show d - 1 + 1 ≤ _; omega, by show 8 + (M'.2.2.1 + 11) + 100 * (d - 1) ≤ _; omega⟩, hin, hts _ w2⟩
    ⟨PcBlind, fun U hU hW => ⟨rfl, by rw [hU]; exact hSm, hE.warm hW, hSHa⟩⟩ rfl (by simp [hn]) hz rfl (lv_room (by omega)) hd ⟨by omega, by omega⟩) hL (fun r h' H' locs' hq hS' hok hL' => ?_)
  have := hk r h' hq p e R s m args below meth c CX hd1 hd2 mc ms h1 h2 H' locs' (cells + mc1) (slots + ms1) arr (by omega) (by omega) hS' hL' hz hLH (fun v hv => by
    rcases List.mem_append.mp hv with q | q
    · exact hok v (by cases r with | none => simp at q | some x => simp at q; rw [q])
    · exact hSH1 v q)
  rw [List.map_append] at this
  cases r <;> exact this
theorem callIN {G : Gv} {M M' : Mt} {pc index n : Nat} (hd : decode M.2.1 pc = .ok (.invokespecial index, 3)) (hM : MI M' n) (hr0 : M'.2.2.2 = none) (hin : M'.1.name = "<init>") (w1 : (M.1.cls, index, M'.1) ∈ nst) (w2 : Cond.instanceMethod M'.1 ∈ gtb)
    {d kc ks mc1 ms1 b : Nat} {ls : Lcs} {as st1 : List AV} {h : Hp} {Q Q' : Post} (hn : as.length = n) (hst : st1.length ≤ 4) (hd0 : 1 ≤ d) (hmc : mc1 ≤ kc) (hms : ms1 ≤ ks) (hm : MA G M' (d - 1) mc1 ms1 (vr b :: as) h Q')
    (hk : ∀ r h', Q' r h' → WA G M d (kc - mc1) (ks - ms1) (pc + 3) ls (r.toList ++ st1) h' Q) : WA G M d kc ks pc ls (as.reverse ++ vr b :: st1) h Q := by
  intro p e R s m args below meth c CX hd1 hd2 mc ms h1 h2 H locs cells slots arr h3 h4 hSm hL hz hLH hSH
  obtain ⟨m1, m2, m3, m4⟩ := hM
  have hts := CX.2.2.2.2.2.2.2.1
  have hE := CX.2.2.2.2.2.2.2.2
  have hst2 := map_cat st1
  have hSHa : SH (vr b :: as) := fun v hv => hSH v (by
    rcases List.mem_cons.mp hv with q | q
    · subst q; simp
    · simp [q])
  have hSH1 : SH st1 := fun v hv => hSH v (by simp [hv])
  have hs2 : (as.reverse ++ vr b :: st1).map rv = (as.map rv).reverse ++ .ref b :: st1.map rv := by simp [rv, vr, va_rf]
  rw [hs2]
  rw [hr0] at m1
  refine callK (va_runIN (host := "BlessLoan") (As := as.map rv) (rest := st1.map rv) (n := n) (bytes := M'.2.1) (maxL := M'.2.2.1) (index := index) (g := F0 m pc arr _) ⟨CX.1, CX.2.1, CX.2.2.2.2.1, CX.2.2.2.2.2.1, hts⟩ hm ⟨va_cnB n hts (mw_good (by rw [hr0]; exact m1)) (by unfold mw; rw [hr0]) rfl rfl (hE.2.2.1.2.2 _ w1) (hts _ m2) m3 ⟨by show d - 1 + 1 ≤ _; omega, by show 8 + (M'.2.2.1 + 11) + 100 * (d - 1) ≤ _; omega⟩, hin, hts _ w2⟩
    ⟨PcBlind, fun U hU hW => ⟨rfl, by rw [hU]; exact hSm, hE.warm hW, hSHa⟩⟩ rfl (by simp [hn]) hz rfl (lv_room (by omega)) hd ⟨by omega, by omega⟩) hL (fun r h' H' locs' hq hS' hok hL' => ?_)
  have := hk r h' hq p e R s m args below meth c CX hd1 hd2 mc ms h1 h2 H' locs' (cells + mc1) (slots + ms1) arr (by omega) (by omega) hS' hL' hz hLH (fun v hv => by
    rcases List.mem_append.mp hv with q | q
    · exact hok v (by cases r with | none => simp at q | some x => simp at q; rw [q])
    · exact hSH1 v q)
  rw [List.map_append] at this
  cases r <;> exact this
