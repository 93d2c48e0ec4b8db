/-! The heap: reading and writing it. -/
section SIMS
variable {G : Gv} {h h' : Hp} {H H1 : Heap} {a : Nat}
theorem Sim.lo (S : Sim G h H) (h1 : gB G ≤ a) (h2 : a < hN h) : va_at (gD G) vwCl (a, ent G h a) H ∧ eok h a := S.2.2.2.2.2 a h1 h2
theorem Sim.dom (S : Sim G h H) (hk : hS h a ≠ (999, 0)) : a = gs G ∨ (gB G ≤ a ∧ a < hN h) := S.2.2.2.2.1 a hk
theorem Sim.own (S : Sim G h H) (hk : (hS h a).1 ≠ 999) (hk2 : (hS h a).1 ≠ 100) : gB G ≤ a ∧ a < hN h := by
  rcases S.dom (a := a) (fun q => hk (by rw [q])) with q | q
  · exact absurd (by rw [q, S.2.2.2.1.1]) hk2
  · exact q
theorem Sim.own2 (S : Sim G h H) (hk : (hS h a).1 ≠ 999) (hk2 : gB G ≤ a) : a < hN h := by
  rcases S.dom (a := a) (fun q => hk (by rw [q])) with q | q
  · have := S.2.2.2.1.2.2.1; omega
  · exact q.2
theorem ent_congr {b : Nat} (h1 : hS h' b = hS h b) (h2 : ∀ k, hI h' b k = hI h b k) (h3 : ∀ k, hR h' b k = hR h b k) : ent G h' b = ent G h b := by
  have e2 : (fun k => hI h' b k) = (fun k => hI h b k) := funext h2
  have e3 : (fun k => hR h' b k) = (fun k => hR h b k) := funext h3
  have e4 : ∀ ty k, fvl ty h' b k = fvl ty h b k := fun ty k => by cases ty <;> simp [fvl, h2, h3]
  unfold ent
  simp only [h1, h2, h3, e4]
theorem eok_congr {b : Nat} (h1 : hS h' b = hS h b) (h2 : ∀ k, hI h' b k = hI h b k) (q : eok h b) : eok h' b := by
  have e4 : ∀ ty k, fok ty h' b k = fok ty h b k := fun ty k => by cases ty <;> simp [fok, h2]
  unfold eok at q ⊢
  simp only [h1, h2, e4]
  exact q
/-- one cell of ours has changed -/
theorem Sim.upd (S : Sim G h H) (h1 : gB G ≤ a) (z : H1.size = H.size) (o : ∀ q : Nat, q ≠ a → H1[q]? = H[q]?) (hn : hN h' = hN h) (hs : ∀ b, hS h' b = hS h b)
    (hm : ∀ b, b ≠ a → (∀ k, hI h' b k = hI h b k) ∧ ∀ k, hR h' b k = hR h b k) (ha : va_at (gD G) vwCl (a, ent G h' a) H1) (hok : eok h' a) : Sim G h' H1 := by
  obtain ⟨s1, s2, s3, ⟨s4, s5, s6, s7⟩, s8, s9⟩ := S
  have hne : ∀ q : Nat, q < gB G → q ≠ a := fun q hq => by omega
  refine ⟨by rw [z, s1, hn], by rw [hn]; exact s2, fun q hq => by rw [o q (hne q hq)]; exact s3 q hq, ⟨by rw [hs]; exact s4, fun j => by rw [(hm _ (hne _ s6)).1]; exact s5 j, s6, s7⟩, fun b hb => by rw [hn]; exact s8 b (by rw [← hs]; exact hb), fun b hb1 hb2 => ?_⟩
  by_cases hb : b = a
  · subst hb; exact ⟨ha, hok⟩
  · obtain ⟨q1, q2⟩ := s9 b hb1 (by rw [← hn]; exact hb2)
    obtain ⟨m1, m2⟩ := hm b hb
    exact ⟨by rw [ent_congr (hs b) m1 m2]; exact q1.kept (o b hb), eok_congr (hs b) m1 q2⟩
theorem hN_sI {j x : Int} : hN (sI h a j x) = hN h := rfl
theorem hS_sI {j x : Int} (b : Nat) : hS (sI h a j x) b = hS h b := rfl
theorem hR_sI {j x : Int} (b : Nat) (k : Int) : hR (sI h a j x) b k = hR h b k := rfl
theorem hI_sI {j x : Int} (b : Nat) (k : Int) : hI (sI h a j x) b k = if b = a ∧ k = j then x else hI h b k := rfl
theorem hN_sR {j : Int} {x : Option Nat} : hN (sR h a j x) = hN h := rfl
theorem hS_sR {j : Int} {x : Option Nat} (b : Nat) : hS (sR h a j x) b = hS h b := rfl
theorem hI_sR {j : Int} {x : Option Nat} (b : Nat) (k : Int) : hI (sR h a j x) b k = hI h b k := rfl
theorem hR_sR {j : Int} {x : Option Nat} (b : Nat) (k : Int) : hR (sR h a j x) b k = if b = a ∧ k = j then x else hR h b k := rfl
theorem ent_obj {ci : Nat} (hc : ci < 13) (hk : (hS h a).1 = ci) : ent G h a = .inr (ci, (List.range (nfX ci)).map (fun k => fvl (ftX ci k) h a (k : Int))) := by
  subst hk; unfold ent; rw [if_pos hc]
theorem ent_i (hk : (hS h a).1 = 100) : ent G h a = .inl (gA G 0, (hS h a).2, .inl (fun j => Int32.ofInt (hI h a (j : Int)))) := by
  unfold ent; rw [if_neg (by omega), if_pos hk]
theorem ent_l (hk : (hS h a).1 = 101) : ent G h a = .inl (gA G 1, (hS h a).2, .inr (.inl (fun j => Int64.ofInt (hI h a (j : Int))))) := by
  unfold ent; rw [if_neg (by omega), if_neg (by omega), if_pos hk]
theorem ent_z (hk : (hS h a).1 = 102) : ent G h a = .inl (gA G 2, (hS h a).2, .inl (fun j => Int32.ofInt (hI h a (j : Int)))) := by
  unfold ent; rw [if_neg (by omega), if_neg (by omega), if_neg (by omega), if_pos hk]
theorem ent_t (hk : (hS h a).1 = 103) : ent G h a = .inl (gA G 3, (hS h a).2, .inr (.inr (.inr (.inr (fun j => hR h a (j : Int)))))) := by
  unfold ent; rw [if_neg (by omega), if_neg (by omega), if_neg (by omega), if_neg (by omega), if_pos hk]
theorem ent_x (hk : (hS h a).1 = 104) : ent G h a = .inl (gA G 4, (hS h a).2, .inr (.inr (.inr (.inr (fun j => hR h a (j : Int)))))) := by
  unfold ent; rw [if_neg (by omega), if_neg (by omega), if_neg (by omega), if_neg (by omega), if_neg (by omega)]
end SIMS
/-- what is known of a class, whatever stands around: its number, its table, that the tables have it -/
def CI (ci : Nat) (C : String) (T : u_T) : Prop := ci < 13 ∧ vwCl[ci]? = some (C, T, nfX ci) ∧ (∀ w ∈ u_ws C T (nfX ci), w ∈ gtb) ∧ (∀ k, k < nfX ci → parseFieldDescriptor (T k).2.2.1 = some (ftX ci k)) ∧ ∀ a, a < nfX ci → ∀ b, b < nfX ci → a ≠ b → (T a).2.1 ≠ (T b).2.1
/-- walks whose heap changes: the general door -/
theorem Snd.mem {G : Gv} {M : Mt} {pc pc' : Nat} {x : PT} (hx : ∀ d kc ks ls st h k, x d kc ks ls st h k → ∃ st' h', k kc ks ls st' h' ∧ ∀ H, Sim G h H → SH st → SH st' ∧
    ∀ p e R s m args below meth c locs cells slots Qf arr, Ctx G M p s m args meth c → (∀ q ∈ locs, gB G ≤ q.base) → (∀ H' locs', Sim G h' H' → (∀ q ∈ locs', gB G ≤ q.base) → W p (gLa G) e R s m args below meth c H' locs' cells slots Qf (F0 m pc' arr (st'.map rv))) → W p (gLa G) e R s m args below meth c H locs cells slots Qf (F0 m pc arr (st.map rv))) : Snd G M pc pc' x := by
  intro d Q k hk kc ks ls st h hxx
  obtain ⟨st', h', hk', hr⟩ := hx d kc ks ls st h k hxx
  intro p e R s m args below meth c C hd1 hd2 mc ms h1 h2 H locs cells slots arr h3 h4 hS hL hz hLH hSH
  obtain ⟨hs', hW⟩ := hr H hS hSH
  exact hW _ _ _ _ _ _ _ _ _ _ _ _ _ _ C hL (fun H' locs' hS' hL' => hk _ _ _ _ _ hk' p e R s m args below meth c C hd1 hd2 mc ms h1 h2 H' locs' cells slots arr h3 h4 hS' hL' hz hLH hs')
def xGETI (ci k : Nat) : PT := fun d kc ks ls st h kk => ∃ a st1, st = vr a :: st1 ∧ (hS h a).1 = ci ∧ kk kc ks ls (vi (hI h a (k : Int)) :: st1) h
def xGETL (ci k : Nat) : PT := fun d kc ks ls st h kk => ∃ a st1, st = vr a :: st1 ∧ (hS h a).1 = ci ∧ kk kc ks ls (vl (hI h a (k : Int)) :: st1) h
def xGETR (ci k : Nat) : PT := fun d kc ks ls st h kk => ∃ a st1, st = vr a :: st1 ∧ (hS h a).1 = ci ∧ kk kc ks ls (vq (hR h a (k : Int)) :: st1) h
theorem getF {G : Gv} {M : Mt} {pc index ci k : Nat} {C : String} {T : u_T} (hc : CI ci C T) (hk : k < nfX ci) (hlink : Cond.fieldLink M.1.cls index (T k).1 (T k).2.1 (T k).2.2.1 ∈ gtb) (hd : decode M.2.1 pc = .ok (.getfield index, 3))
    {p : Program} {e : Jvm.Env} {R : Room} {s : State} {m : MethodId} {args : Array Value} {below : List Frame} {meth : Method} {c : Code} {H : Heap} {locs : List Loc} {cells slots : Nat} {Qf : State → Prop} {arr : Array Slot} {h : Hp} {a : Nat} {rest : List Value}
    (CX : Ctx G M p s m args meth c) (S : Sim G h H) (ha : (hS h a).1 = ci) (w : W p (gLa G) e R s m args below meth c H locs cells slots Qf (F0 m (pc + 3) arr (fvl (ftX ci k) h a (k : Int) :: rest))) : W p (gLa G) e R s m args below meth c H locs cells slots Qf (F0 m pc arr (.ref a :: rest)) := by
  obtain ⟨o1, o2⟩ := S.own (a := a) (by rw [ha]; have := hc.1; omega) (by rw [ha]; have := hc.1; omega)
  obtain ⟨q1, q2⟩ := S.lo o1 o2
  have hP : va_P (gD G) vwCl [(a, ent G h a)] H := fun k q hq => by
    cases k with
    | zero => simp at hq; subst hq; exact q1
    | succ k => simp at hq
  refine va_get (C := C) (T := T) (N := nfX ci) (ci := ci) (ref := (T k).1) CX.1 CX.2.1 CX.2.2.2.2.2.2.2.1 hc.2.2.1 CX.2.2.2.2.2.1 CX.2.2.2.2.2.2.2.2.1 hP 0 (fs := (List.range (nfX ci)).map (fun k => fvl (ftX ci k) h a (k : Int))) (by rw [ent_obj hc.1 ha]; rfl) hc.2.1 k hk (CX.2.2.2.2.2.2.2.1 _ hlink) (fun x hx => hx) (v := fvl (ftX ci k) h a (k : Int)) ?_ hd w
  rw [List.getElem?_map, List.getElem?_range hk]; rfl
theorem s_geti {G : Gv} {M : Mt} {pc index ci k : Nat} {C : String} {T : u_T} (hd : decode M.2.1 pc = .ok (.getfield index, 3)) (hc : CI ci C T) (hk : k < nfX ci) (hlink : Cond.fieldLink M.1.cls index (T k).1 (T k).2.1 (T k).2.2.1 ∈ gtb) (hty : ftX ci k = .int ∨ ftX ci k = .boolean) : Snd G M pc (pc + 3) (xGETI ci k) :=
  Snd.mem fun d kc ks ls st h kk ⟨a, st1, he, ha, hx⟩ => ⟨vi (hI h a (k : Int)) :: st1, h, hx, fun H S hSH => by
    subst he
    obtain ⟨o1, o2⟩ := S.own (a := a) (by rw [ha]; have := hc.1; omega) (by rw [ha]; have := hc.1; omega)
    have hok := (S.lo o1 o2).2.1 (by rw [ha]; exact hc.1) k (by rw [ha]; exact hk)
    rw [ha] at hok
    refine ⟨hSH.tl.cons ?_, fun p e R s m args below meth c locs cells slots Qf arr CX hL w => getF hc hk hlink hd CX S ha ?_⟩
    · show InR _
      rcases hty with q | q
      · rw [q] at hok; exact hok
      · rw [q] at hok
        unfold InR
        rcases hok with z | z <;> rw [z] <;> omega
    · have e1 : fvl (ftX ci k) h a (k : Int) = rv (vi (hI h a (k : Int))) := by rcases hty with q | q <;> rw [q] <;> rfl
      rw [e1]
      exact w H locs S hL⟩
theorem s_getl {G : Gv} {M : Mt} {pc index ci k : Nat} {C : String} {T : u_T} (hd : decode M.2.1 pc = .ok (.getfield index, 3)) (hc : CI ci C T) (hk : k < nfX ci) (hlink : Cond.fieldLink M.1.cls index (T k).1 (T k).2.1 (T k).2.2.1 ∈ gtb) (hty : ftX ci k = .long) : Snd G M pc (pc + 3) (xGETL ci k) :=
  Snd.mem fun d kc ks ls st h kk ⟨a, st1, he, ha, hx⟩ => ⟨vl (hI h a (k : Int)) :: st1, h, hx, fun H S hSH => by
    subst he
    obtain ⟨o1, o2⟩ := S.own (a := a) (by rw [ha]; have := hc.1; omega) (by rw [ha]; have := hc.1; omega)
    have hok := (S.lo o1 o2).2.1 (by rw [ha]; exact hc.1) k (by rw [ha]; exact hk)
    rw [ha, hty] at hok
    refine ⟨hSH.tl.cons hok, fun p e R s m args below meth c locs cells slots Qf arr CX hL w => getF hc hk hlink hd CX S ha ?_⟩
    have e1 : fvl (ftX ci k) h a (k : Int) = rv (vl (hI h a (k : Int))) := by rw [hty]; rfl
    rw [e1]
    exact w H locs S hL⟩
theorem s_getr {G : Gv} {M : Mt} {pc index ci k : Nat} {C : String} {T : u_T} (hd : decode M.2.1 pc = .ok (.getfield index, 3)) (hc : CI ci C T) (hk : k < nfX ci) (hlink : Cond.fieldLink M.1.cls index (T k).1 (T k).2.1 (T k).2.2.1 ∈ gtb) (hty : (∃ n, ftX ci k = .object n) ∨ ∃ t, ftX ci k = .array t) : Snd G M pc (pc + 3) (xGETR ci k) :=
  Snd.mem fun d kc ks ls st h kk ⟨a, st1, he, ha, hx⟩ => ⟨vq (hR h a (k : Int)) :: st1, h, hx, fun H S hSH => by
    subst he
    refine ⟨hSH.tl.cons trivial, fun p e R s m args below meth c locs cells slots Qf arr CX hL w => getF hc hk hlink hd CX S ha ?_⟩
    have e1 : fvl (ftX ci k) h a (k : Int) = rv (vq (hR h a (k : Int))) := by rcases hty with ⟨n, q⟩ | ⟨n, q⟩ <;> rw [q] <;> rfl
    rw [e1]
    exact w H locs S hL⟩
