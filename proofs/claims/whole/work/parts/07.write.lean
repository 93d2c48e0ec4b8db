/-! Writing fields and rows; lengths. -/
theorem putW {G : Gv} {M : Mt} {pc index ci k : Nat} {C : String} {T : u_T} (hc : CI ci C T) (hk : k < nfX ci) (hlink : Cond.fieldLink M.1.cls index (T k).1 (T k).2.1 (T k).2.2.1 ∈ gtb) (hfin : (T k).2.2.2 = false ∨ (M.1.name = "<init>" ∧ (T k).1 = M.1.cls)) (hd : decode M.2.1 pc = .ok (.putfield index, 3))
    {p : Program} {e : Jvm.Env} {R : Room} {s : State} {m : MethodId} {args : Array Value} {below : List Frame} {meth : Method} {c : Code} {H : Heap} {locs : List Loc} {cells slots : Nat} {Qf : State → Prop} {arr : Array Slot} {h h' : Hp} {a : Nat} {v : Value} {rest : List Value}
    (CX : Ctx G M p s m args meth c) (S : Sim G h H) (hL : ∀ q ∈ locs, gB G ≤ q.base) (ha : (hS h a).1 = ci) (hn : narrow (ftX ci k) v = v) (hf : fits (ftX ci k) v = true)
    (n1 : hN h' = hN h) (n2 : ∀ b, hS h' b = hS h b) (n3 : ∀ b, b ≠ a → (∀ k, hI h' b k = hI h b k) ∧ ∀ k, hR h' b k = hR h b k) (n4 : fvl (ftX ci k) h' a (k : Int) = v) (n5 : fok (ftX ci k) h' a (k : Int)) (n6 : ∀ j : Nat, j ≠ k → hI h' a (j : Int) = hI h a (j : Int) ∧ hR h' a (j : Int) = hR h a (j : Int))
    (w : ∀ H' locs', Sim G h' H' → (∀ q ∈ locs', gB G ≤ q.base) → W p (gLa G) e R s m args below meth c H' locs' cells slots Qf (F0 m (pc + 3) arr rest)) : W p (gLa G) e R s m args below meth c H locs cells slots Qf (F0 m pc arr (v :: .ref a :: rest)) := by
  obtain ⟨c1, c2, c3, c4, c5⟩ := hc
  obtain ⟨o1, o2⟩ := S.own (a := a) (by rw [ha]; omega) (by rw [ha]; omega)
  obtain ⟨q1, q2⟩ := S.lo o1 o2
  rw [ent_obj c1 ha] at q1
  obtain ⟨r, r1, cell, p1, p2, p3, p4⟩ := q1
  have hr : r = (C, T, nfX ci) := Option.some.inj (r1.symm.trans c2)
  subst hr
  have hK := CX.2.2.2.2.2.2.2.2.1
  have hts := CX.2.2.2.2.2.2.2.1
  have hap := va_apart (own := M.1.cls) hts c3 (ftX ci) c4 c5 hK c2
  obtain ⟨hSl, hfc, kC, hkC, hkind⟩ := hK.1 ci _ c2
  obtain ⟨cf, kf, fi, f, hi, hsl⟩ := hSl k hk
  have hlay := hts _ (c3 _ (u_in_lay hk))
  have hst := (u_facts hfc hkC (u_lays hts c3 hk) hi).1
  have fin : ∀ (H' : Heap), H'[a]? = some (cell.setSlot f.slot v) → H'.size = H.size → (∀ q : Nat, q ≠ a → H'[q]? = H[q]?) → Sim G h' H' := by
    intro H' e1 e2 e3
    rw [hsl] at e1
    refine S.upd o1 e2 e3 n1 n2 n3 ?_ ?_
    · rw [ent_obj c1 (by rw [n2]; exact ha)]
      refine ⟨_, c2, t_OB.to (V := updV (vp_V ((List.range (nfX ci)).map (fun k => fvl (ftX ci k) h a (k : Int)))) k v) ⟨_, e1, p2, p3, t_set p4 hap hk v⟩ (fun j hj => ?_)⟩
      have hj' : j < nfX ci := hj
      simp only [vp_V, List.getD_eq_getElem?_getD, List.getElem?_map, List.getElem?_range hj', Option.map_some, Option.getD_some, updV]
      by_cases hjk : j = k
      · subst hjk; rw [if_pos rfl, n4]
      · rw [if_neg hjk]
        obtain ⟨z1, z2⟩ := n6 j hjk
        cases ftX ci j <;> simp [fvl, z1, z2]
    · obtain ⟨k1, k2, k3, k4, k5⟩ := q2
      unfold eok
      rw [n2, ha]
      rw [ha] at k1 k2 k3 k4
      refine ⟨fun _ j hj => ?_, fun q => by omega, fun q => by omega, fun q => by omega, k5⟩
      by_cases hjk : j = k
      · subst hjk; exact n5
      · obtain ⟨z1, z2⟩ := n6 j hjk
        have := k1 c1 j hj
        cases hty : ftX ci j <;> rw [hty] at this <;> simpa [fok, z1] using this
  have hlc : ∀ q ∈ locs ++ [(⟨a, f.slot⟩ : Loc)], gB G ≤ q.base := fun q hq => by
    rcases List.mem_append.mp hq with z | z
    · exact hL q z
    · rw [List.mem_singleton.mp z]; exact o1
  by_cases hff : (T k).2.2.2 = false
  · unfold u_lay at hlay
    rw [if_neg (by rw [hff]; decide)] at hlay
    have h6 := u_store hfc hkC hkind hlay hi (c4 k hk) hn hf
    refine W.putK CX.1 CX.2.1 (f := f) ⟨CX.2.2.2.2.2.1, hts _ hlink, ⟨_, _, _, hi⟩, hst⟩ (by rw [p2]; exact h6) p1 p3 (by rw [hsl]; exact k2_hasslot (p4 k hk)) rfl rfl hd fun H' e1 e2 e3 => ?_
    exact w H' _ (fin H' e1 e2 e3) hlc
  · have hin2 : meth.name = "<init>" := by rw [CX.2.2.2.2.2.2.1]; exact (hfin.resolve_left hff).1
    have hdecl : (T k).1 = M.1.cls := (hfin.resolve_left hff).2
    have hft : (T k).2.2.2 = true := by cases hq : (T k).2.2.2 <;> simp_all
    unfold u_lay at hlay
    rw [if_pos hft] at hlay
    have hcf : m.cls = cf := by
      obtain ⟨_, _, c', _, _, _, -, -, hf', -, -, -, hown2, -⟩ := Cond.laysFinal_spec hlay
      have e1 : c' = cf := by have := hi.symm.trans hf'; simp at this; exact this.1.symm
      rw [hdecl] at hown2
      rw [← e1]; exact Option.some.inj (CX.2.2.2.2.2.1.symm.trans hown2)
    have h6 := u_fits hfc hkC hkind (Or.inr hlay) hi (c4 k hk) hn hf
    refine W.putFinK CX.1 CX.2.1 CX.2.2.2.2.2.1 (hts _ hlink) hi hst hcf hin2 (by rw [p2]; exact h6) p1 p3 (by rw [hsl]; exact k2_hasslot (p4 k hk)) rfl rfl hd fun H' e1 e2 e3 => ?_
    exact w H' _ (fin H' e1 e2 e3) hlc
def xPUTI (ci k : Nat) : PT := fun d kc ks ls st h kk => ∃ x a st1, st = vi x :: vr a :: st1 ∧ (hS h a).1 = ci ∧ kk kc ks ls st1 (sI h a (k : Int) x)
def xPUTZ (ci k : Nat) : PT := fun d kc ks ls st h kk => ∃ x a st1, st = vi x :: vr a :: st1 ∧ (hS h a).1 = ci ∧ (x = 0 ∨ x = 1) ∧ kk kc ks ls st1 (sI h a (k : Int) x)
def xPUTL (ci k : Nat) : PT := fun d kc ks ls st h kk => ∃ x a st1, st = vl x :: vr a :: st1 ∧ (hS h a).1 = ci ∧ kk kc ks ls st1 (sI h a (k : Int) x)
def xPUTR (ci k : Nat) : PT := fun d kc ks ls st h kk => ∃ x a st1, st = vq x :: vr a :: st1 ∧ (hS h a).1 = ci ∧ kk kc ks ls st1 (sR h a (k : Int) x)
theorem sI_off {h : Hp} {a : Nat} {j x : Int} (b : Nat) (hb : b ≠ a) : (∀ k, hI (sI h a j x) b k = hI h b k) ∧ ∀ k, hR (sI h a j x) b k = hR h b k := ⟨fun k => by rw [hI_sI, if_neg (fun q => hb q.1)], fun _ => rfl⟩
theorem sR_off {h : Hp} {a : Nat} {j : Int} {x : Option Nat} (b : Nat) (hb : b ≠ a) : (∀ k, hI (sR h a j x) b k = hI h b k) ∧ ∀ k, hR (sR h a j x) b k = hR h b k := ⟨fun _ => rfl, fun k => by rw [hR_sR, if_neg (fun q => hb q.1)]⟩
theorem sI_offj {h : Hp} {a k : Nat} {x : Int} (j : Nat) (hj : j ≠ k) : hI (sI h a (k : Int) x) a (j : Int) = hI h a (j : Int) ∧ hR (sI h a (k : Int) x) a (j : Int) = hR h a (j : Int) := ⟨by rw [hI_sI, if_neg (fun q => hj (by omega))], rfl⟩
theorem sR_offj {h : Hp} {a k : Nat} {x : Option Nat} (j : Nat) (hj : j ≠ k) : hI (sR h a (k : Int) x) a (j : Int) = hI h a (j : Int) ∧ hR (sR h a (k : Int) x) a (j : Int) = hR h a (j : Int) := ⟨rfl, by rw [hR_sR, if_neg (fun q => hj (by omega))]⟩
theorem nar_z {x : Int} (hx : x = 0 ∨ x = 1) : narrow .boolean (.int (Int32.ofInt x)) = .int (Int32.ofInt x) := by rcases hx with rfl | rfl <;> rfl
theorem s_puti {G : Gv} {M : Mt} {pc index ci k : Nat} {C : String} {T : u_T} (hd : decode M.2.1 pc = .ok (.putfield index, 3)) (hc : CI ci C T) (hk : k < nfX ci) (hlink : Cond.fieldLink M.1.cls index (T k).1 (T k).2.1 (T k).2.2.1 ∈ gtb) (hfin : (T k).2.2.2 = false ∨ (M.1.name = "<init>" ∧ (T k).1 = M.1.cls)) (hty : ftX ci k = .int) : Snd G M pc (pc + 3) (xPUTI ci k) :=
  Snd.mem fun d kc ks ls st h kk ⟨x, a, st1, he, ha, hx⟩ => ⟨st1, sI h a (k : Int) x, hx, fun H S hSH => by
    subst he
    refine ⟨hSH.tl.tl, fun p e R s m args below meth c locs cells slots Qf arr CX hL w => ?_⟩
    refine putW (h' := sI h a (k : Int) x) hc hk hlink hfin hd CX S hL ha (by rw [hty]; rfl) (by rw [hty]; rfl) rfl (fun _ => rfl) sI_off ?_ ?_ sI_offj w
    · rw [hty]; show Value.int (Int32.ofInt (hI _ _ _)) = _; rw [hI_sI, if_pos ⟨rfl, rfl⟩]; rfl
    · rw [hty]; show InR (hI _ _ _); rw [hI_sI, if_pos ⟨rfl, rfl⟩]; exact hSH.hd⟩
theorem s_putz {G : Gv} {M : Mt} {pc index ci k : Nat} {C : String} {T : u_T} (hd : decode M.2.1 pc = .ok (.putfield index, 3)) (hc : CI ci C T) (hk : k < nfX ci) (hlink : Cond.fieldLink M.1.cls index (T k).1 (T k).2.1 (T k).2.2.1 ∈ gtb) (hfin : (T k).2.2.2 = false ∨ (M.1.name = "<init>" ∧ (T k).1 = M.1.cls)) (hty : ftX ci k = .boolean) : Snd G M pc (pc + 3) (xPUTZ ci k) :=
  Snd.mem fun d kc ks ls st h kk ⟨x, a, st1, he, ha, h01, hx⟩ => ⟨st1, sI h a (k : Int) x, hx, fun H S hSH => by
    subst he
    refine ⟨hSH.tl.tl, fun p e R s m args below meth c locs cells slots Qf arr CX hL w => ?_⟩
    refine putW (h' := sI h a (k : Int) x) hc hk hlink hfin hd CX S hL ha (by rw [hty]; exact nar_z h01) (by rw [hty]; rcases h01 with rfl | rfl <;> rfl) rfl (fun _ => rfl) sI_off ?_ ?_ sI_offj w
    · rw [hty]; show Value.int (Int32.ofInt (hI _ _ _)) = _; rw [hI_sI, if_pos ⟨rfl, rfl⟩]; rfl
    · rw [hty]; show _ ∨ _; rw [hI_sI, if_pos ⟨rfl, rfl⟩]; exact h01⟩
theorem s_putl {G : Gv} {M : Mt} {pc index ci k : Nat} {C : String} {T : u_T} (hd : decode M.2.1 pc = .ok (.putfield index, 3)) (hc : CI ci C T) (hk : k < nfX ci) (hlink : Cond.fieldLink M.1.cls index (T k).1 (T k).2.1 (T k).2.2.1 ∈ gtb) (hfin : (T k).2.2.2 = false ∨ (M.1.name = "<init>" ∧ (T k).1 = M.1.cls)) (hty : ftX ci k = .long) : Snd G M pc (pc + 3) (xPUTL ci k) :=
  Snd.mem fun d kc ks ls st h kk ⟨x, a, st1, he, ha, hx⟩ => ⟨st1, sI h a (k : Int) x, hx, fun H S hSH => by
    subst he
    refine ⟨hSH.tl.tl, fun p e R s m args below meth c locs cells slots Qf arr CX hL w => ?_⟩
    refine putW (h' := sI h a (k : Int) x) hc hk hlink hfin hd CX S hL ha (by rw [hty]; rfl) (by rw [hty]; rfl) rfl (fun _ => rfl) sI_off ?_ ?_ sI_offj w
    · rw [hty]; show Value.long (Int64.ofInt (hI _ _ _)) = _; rw [hI_sI, if_pos ⟨rfl, rfl⟩]; rfl
    · rw [hty]; show InL (hI _ _ _); rw [hI_sI, if_pos ⟨rfl, rfl⟩]; exact hSH.hd⟩
theorem s_putr {G : Gv} {M : Mt} {pc index ci k : Nat} {C : String} {T : u_T} (hd : decode M.2.1 pc = .ok (.putfield index, 3)) (hc : CI ci C T) (hk : k < nfX ci) (hlink : Cond.fieldLink M.1.cls index (T k).1 (T k).2.1 (T k).2.2.1 ∈ gtb) (hfin : (T k).2.2.2 = false ∨ (M.1.name = "<init>" ∧ (T k).1 = M.1.cls)) (hty : (∃ n, ftX ci k = .object n) ∨ ∃ t, ftX ci k = .array t) : Snd G M pc (pc + 3) (xPUTR ci k) :=
  Snd.mem fun d kc ks ls st h kk ⟨x, a, st1, he, ha, hx⟩ => ⟨st1, sR h a (k : Int) x, hx, fun H S hSH => by
    subst he
    refine ⟨hSH.tl.tl, fun p e R s m args below meth c locs cells slots Qf arr CX hL w => ?_⟩
    refine putW (h' := sR h a (k : Int) x) hc hk hlink hfin hd CX S hL ha ?_ ?_ rfl (fun _ => rfl) sR_off ?_ ?_ sR_offj w
    · rcases hty with ⟨n, q⟩ | ⟨n, q⟩ <;> rw [q] <;> cases x <;> rfl
    · rcases hty with ⟨n, q⟩ | ⟨n, q⟩ <;> rw [q] <;> cases x <;> rfl
    · rcases hty with ⟨n, q⟩ | ⟨n, q⟩ <;> rw [q] <;> show va_rf (hR _ _ _) = _ <;> rw [hR_sR, if_pos ⟨rfl, rfl⟩] <;> rfl
    · rcases hty with ⟨n, q⟩ | ⟨n, q⟩ <;> rw [q] <;> trivial⟩
