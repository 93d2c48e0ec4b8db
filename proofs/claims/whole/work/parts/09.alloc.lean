/-! Rows of references, lengths, new cells. -/
def xTAST : PT := fun d kc ks ls st h kk => ∃ x j a st1, st = vq x :: vi j :: vr a :: st1 ∧ (hS h a).1 = 103 ∧ 0 ≤ j ∧ j < ((hS h a).2 : Int) ∧ (∀ v, x = some v → (hS h v).1 = 10) ∧ kk kc ks ls st1 (sR h a j x)
theorem s_tastore {G : Gv} {M : Mt} {pc : Nat} (hd : decode M.2.1 pc = .ok (.aastore, 1)) : Snd G M pc (pc + 1) xTAST :=
  Snd.mem fun d kc ks ls st h kk ⟨x, j, a, st1, he, ha, h0, h1, hxv, hx⟩ => ⟨st1, sR h a j x, hx, fun H S hSH => by
    subst he
    obtain ⟨e1, e2, e3⟩ := j_nat h0 h1 hSH.tl.hd
    have hin : vp_in (Int32.ofInt j) (hS h a).2 := i_in h0 h1 hSH.tl.hd
    have hlt : (Int32.ofInt j).toNatClampNeg < (hS h a).2 := Nat.not_le.mp fun q => hin (Or.inr q)
    have hn0 : ¬ Int32.ofInt j < 0 := fun q => hin (Or.inl q)
    obtain ⟨o1, o2⟩ := S.own (a := a) (by rw [ha]; decide) (by rw [ha]; decide)
    obtain ⟨q1, q2⟩ := S.lo o1 o2
    rw [ent_t ha] at q1
    refine ⟨hSH.tl.tl.tl, fun p e R s m args below meth c locs cells slots Qf arr CX hL w => ?_⟩
    have hK := CX.2.2.2.2.2.2.2.2.1
    have fin : ∀ (H1 : Heap), H1[a]? = some ((vp_cell (gA G 3) ((hS h a).2, .inr (.inr (.inr (.inr (fun j : Nat => hR h a (j : Int))))))).setSlot (Int32.ofInt j).toNatClampNeg (va_rf x)) → H1.size = H.size → (∀ q : Nat, q ≠ a → H1[q]? = H[q]?) → Sim G (sR h a j x) H1 := by
      intro H1 ee z oq
      refine S.upd o1 z oq rfl (fun _ => rfl) sR_off ?_ ?_
      · rw [ent_t (h := sR h a j x) ha]
        show H1[a]? = some (vp_cell _ _)
        rw [ee, vp_cell_q, vp_cell_q, arrV_store]
        congr 2
        funext q
        show updV _ _ _ q = va_rf (hR (sR h a j x) a (q : Int))
        rw [hR_sR, e1]
        by_cases hq : q = j.toNat
        · subst hq; rw [if_pos ⟨rfl, e3⟩]; simp [updV]
        · rw [if_neg (fun z => hq (by omega))]; simp [updV, hq]
      · obtain ⟨k1, k2, k3, k4, k5⟩ := q2
        unfold eok
        have hs2 : hS (sR h a j x) a = hS h a := rfl
        rw [hs2]
        exact ⟨fun q => by omega, fun q => by omega, fun q => by omega, fun q => by omega, k5⟩
    have hlc : ∀ q ∈ locs ++ [(⟨a, (Int32.ofInt j).toNatClampNeg⟩ : Loc)], gB G ≤ q.base := fun q hq => by
      rcases List.mem_append.mp hq with z | z
      · exact hL q z
      · rw [List.mem_singleton.mp z]; exact o1
    cases x with
    | none =>
      refine va_WaastN (C := "BlessLoan$Town") CX.1 CX.2.1 q1 ((hK.2 3 _ rfl).1 (hS h a).2 (fun j => va_rf (hR h a (j : Int)))) (fun h => by cases h) (by show ¬ (_ ∨ (arrV _ _ _).slots.size ≤ _); rw [arrV_size]; exact hin) rfl rfl hd fun H1 ee z oq => ?_
      exact w H1 _ (fin H1 ee z oq) hlc
    | some v =>
      have hv := hxv v rfl
      obtain ⟨v1, v2⟩ := S.own (a := v) (by rw [hv]; decide) (by rw [hv]; decide)
      have qv := (S.lo v1 v2).1
      rw [ent_obj (by decide) hv] at qv
      obtain ⟨r', hr', cellV, g1, g2, g3, -⟩ := qv
      have hcls := (hK.1 10 _ rfl).2
      obtain ⟨kA, comp, k1, k2, k3, -⟩ := (hK.2 3 _ rfl).2
      have hcomp : comp = gC G 10 := Option.some.inj (k3.symm.trans hcls.1)
      subst hcomp
      obtain ⟨kC, hkC, -⟩ := hcls.2
      refine W.aast CX.1 CX.2.1 q1 (fun q h => by cases h) (fun h => by cases h) k1 k2 rfl hkC ⟨hn0, by show _ < (arrV _ _ _).slots.size; rw [arrV_size]; exact hlt⟩ g1 (fun q h => by rw [g3] at h; cases h) (by rw [g2]; exact hkC) (by rw [g2]; exact va_assign hcls) rfl rfl hd fun H1 ee z oq => ?_
      exact w H1 _ (fin H1 ee z oq) hlc⟩
def xXAST : PT := fun d kc ks ls st h kk => ∃ x j a st1, st = vq x :: vi j :: vr a :: st1 ∧ (hS h a).1 = 104 ∧ 0 ≤ j ∧ j < ((hS h a).2 : Int) ∧ (∀ v, x = some v → (hS h v).1 = 9) ∧ kk kc ks ls st1 (sR h a j x)
theorem s_xastore {G : Gv} {M : Mt} {pc : Nat} (hd : decode M.2.1 pc = .ok (.aastore, 1)) : Snd G M pc (pc + 1) xXAST :=
  Snd.mem fun d kc ks ls st h kk ⟨x, j, a, st1, he, ha, h0, h1, hxv, hx⟩ => ⟨st1, sR h a j x, hx, fun H S hSH => by
    subst he
    obtain ⟨e1, e2, e3⟩ := j_nat h0 h1 hSH.tl.hd
    have hin : vp_in (Int32.ofInt j) (hS h a).2 := i_in h0 h1 hSH.tl.hd
    have hlt : (Int32.ofInt j).toNatClampNeg < (hS h a).2 := Nat.not_le.mp fun q => hin (Or.inr q)
    have hn0 : ¬ Int32.ofInt j < 0 := fun q => hin (Or.inl q)
    obtain ⟨o1, o2⟩ := S.own (a := a) (by rw [ha]; decide) (by rw [ha]; decide)
    obtain ⟨q1, q2⟩ := S.lo o1 o2
    rw [ent_x ha] at q1
    refine ⟨hSH.tl.tl.tl, fun p e R s m args below meth c locs cells slots Qf arr CX hL w => ?_⟩
    have hK := CX.2.2.2.2.2.2.2.2.1
    have fin : ∀ (H1 : Heap), H1[a]? = some ((vp_cell (gA G 4) ((hS h a).2, .inr (.inr (.inr (.inr (fun j : Nat => hR h a (j : Int))))))).setSlot (Int32.ofInt j).toNatClampNeg (va_rf x)) → H1.size = H.size → (∀ q : Nat, q ≠ a → H1[q]? = H[q]?) → Sim G (sR h a j x) H1 := by
      intro H1 ee z oq
      refine S.upd o1 z oq rfl (fun _ => rfl) sR_off ?_ ?_
      · rw [ent_x (h := sR h a j x) ha]
        show H1[a]? = some (vp_cell _ _)
        rw [ee, vp_cell_q, vp_cell_q, arrV_store]
        congr 2
        funext q
        show updV _ _ _ q = va_rf (hR (sR h a j x) a (q : Int))
        rw [hR_sR, e1]
        by_cases hq : q = j.toNat
        · subst hq; rw [if_pos ⟨rfl, e3⟩]; simp [updV]
        · rw [if_neg (fun z => hq (by omega))]; simp [updV, hq]
      · obtain ⟨k1, k2, k3, k4, k5⟩ := q2
        unfold eok
        have hs2 : hS (sR h a j x) a = hS h a := rfl
        rw [hs2]
        exact ⟨fun q => by omega, fun q => by omega, fun q => by omega, fun q => by omega, k5⟩
    have hlc : ∀ q ∈ locs ++ [(⟨a, (Int32.ofInt j).toNatClampNeg⟩ : Loc)], gB G ≤ q.base := fun q hq => by
      rcases List.mem_append.mp hq with z | z
      · exact hL q z
      · rw [List.mem_singleton.mp z]; exact o1
    cases x with
    | none =>
      refine va_WaastN (C := "BlessLoan$Text") CX.1 CX.2.1 q1 ((hK.2 4 _ rfl).1 (hS h a).2 (fun j => va_rf (hR h a (j : Int)))) (fun h => by cases h) (by show ¬ (_ ∨ (arrV _ _ _).slots.size ≤ _); rw [arrV_size]; exact hin) rfl rfl hd fun H1 ee z oq => ?_
      exact w H1 _ (fin H1 ee z oq) hlc
    | some v =>
      have hv := hxv v rfl
      obtain ⟨v1, v2⟩ := S.own (a := v) (by rw [hv]; decide) (by rw [hv]; decide)
      have qv := (S.lo v1 v2).1
      rw [ent_obj (by decide) hv] at qv
      obtain ⟨r', hr', cellV, g1, g2, g3, -⟩ := qv
      have hcls := (hK.1 9 _ rfl).2
      obtain ⟨kA, comp, k1, k2, k3, -⟩ := (hK.2 4 _ rfl).2
      have hcomp : comp = gC G 9 := Option.some.inj (k3.symm.trans hcls.1)
      subst hcomp
      obtain ⟨kC, hkC, -⟩ := hcls.2
      refine W.aast CX.1 CX.2.1 q1 (fun q h => by cases h) (fun h => by cases h) k1 k2 rfl hkC ⟨hn0, by show _ < (arrV _ _ _).slots.size; rw [arrV_size]; exact hlt⟩ g1 (fun q h => by rw [g3] at h; cases h) (by rw [g2]; exact hkC) (by rw [g2]; exact va_assign hcls) rfl rfl hd fun H1 ee z oq => ?_
      exact w H1 _ (fin H1 ee z oq) hlc⟩
def xALEN : PT := fun d kc ks ls st h kk => ∃ a st1, st = vr a :: st1 ∧ (hS h a).1 = 100 ∧ kk kc ks ls (vi ((hS h a).2 : Int) :: st1) h
def xALENL : PT := fun d kc ks ls st h kk => ∃ a st1, st = vr a :: st1 ∧ (hS h a).1 = 101 ∧ kk kc ks ls (vi ((hS h a).2 : Int) :: st1) h
theorem s_alen {G : Gv} {M : Mt} {pc : Nat} (hd : decode M.2.1 pc = .ok (.arraylength, 1)) (hsl : gL G < 100000) : Snd G M pc (pc + 1) xALEN :=
  Snd.mem fun d kc ks ls st h kk ⟨a, st1, he, ha, hx⟩ => ⟨vi ((hS h a).2 : Int) :: st1, h, hx, fun H S hSH => by
    subst he
    rcases S.dom (a := a) (fun q => by rw [q] at ha; cases ha) with hq | ⟨o1, o2⟩
    · subst hq
      obtain ⟨s1, s2, s3, ⟨s4, s5, s6, s7⟩, s8, s9⟩ := id S
      refine ⟨hSH.tl.cons (by rw [s4]; show InR _; unfold InR; omega), fun p e R s m args below meth c locs cells slots Qf arr CX hL w => ?_⟩
      obtain ⟨scr, g1, g2, g3, g4, g5⟩ := CX.2.2.2.2.2.2.2.2.2.2.2
      refine W.alen (n := Int32.ofInt ((hS h (gs G)).2 : Int)) CX.1 CX.2.1 (by rw [s3 _ s6]; exact g1) g2 ?_ rfl rfl hd (w H locs S hL)
      rw [g4, s4]; rfl
    · have hok := (S.lo o1 o2).2.2.2.2.2
      refine ⟨hSH.tl.cons (by show InR _; unfold InR; omega), fun p e R s m args below meth c locs cells slots Qf arr CX hL w => ?_⟩
      exact va_alen CX.1 CX.2.1 CX.2.2.2.2.2.2.2.2.1 (S.P1 o1 o2) 0 0 (cA := gA G 0) (x := ((hS h a).2, .inl (fun j => Int32.ofInt (hI h a (j : Int))))) (by rw [ent_i ha]; rfl) rfl (v := Int32.ofInt ((hS h a).2 : Int)) rfl hd (w H locs S hL)⟩
theorem s_alenl {G : Gv} {M : Mt} {pc : Nat} (hd : decode M.2.1 pc = .ok (.arraylength, 1)) : Snd G M pc (pc + 1) xALENL :=
  Snd.mem fun d kc ks ls st h kk ⟨a, st1, he, ha, hx⟩ => ⟨vi ((hS h a).2 : Int) :: st1, h, hx, fun H S hSH => by
    subst he
    obtain ⟨o1, o2⟩ := S.own (a := a) (by rw [ha]; decide) (by rw [ha]; decide)
    have hok := (S.lo o1 o2).2.2.2.2.2
    refine ⟨hSH.tl.cons (by show InR _; unfold InR; omega), fun p e R s m args below meth c locs cells slots Qf arr CX hL w => ?_⟩
    exact va_alen CX.1 CX.2.1 CX.2.2.2.2.2.2.2.2.1 (S.P1 o1 o2) 0 1 (cA := gA G 1) (x := ((hS h a).2, .inr (.inl (fun j => Int64.ofInt (hI h a (j : Int)))))) (by rw [ent_l ha]; rfl) rfl (v := Int32.ofInt ((hS h a).2 : Int)) rfl hd (w H locs S hL)⟩
theorem hN_nw {h : Hp} {kd len : Nat} : hN (nw h kd len) = hN h + 1 := rfl
theorem hS_nw {h : Hp} {kd len : Nat} (b : Nat) : hS (nw h kd len) b = if b = hN h then (kd, len) else hS h b := rfl
theorem hI_nw {h : Hp} {kd len : Nat} (b : Nat) (k : Int) : hI (nw h kd len) b k = if b = hN h then 0 else hI h b k := rfl
theorem hR_nw {h : Hp} {kd len : Nat} (b : Nat) (k : Int) : hR (nw h kd len) b k = if b = hN h then none else hR h b k := rfl
theorem Sim.push {G : Gv} {h : Hp} {H H1 : Heap} {kd len : Nat} (S : Sim G h H) (z : H1.size = H.size + 1) (o : ∀ q : Nat, q < H.size → H1[q]? = H[q]?) (ha : va_at (gD G) vwCl (hN h, ent G (nw h kd len) (hN h)) H1) (hok : eok (nw h kd len) (hN h)) : Sim G (nw h kd len) H1 := by
  obtain ⟨s1, s2, s3, ⟨s4, s5, s6, s7⟩, s8, s9⟩ := S
  refine ⟨by rw [z, s1, hN_nw], by rw [hN_nw]; omega, fun q hq => by rw [o q (by omega)]; exact s3 q hq, ⟨by rw [hS_nw, if_neg (by omega)]; exact s4, fun j => by rw [hI_nw, if_neg (by omega)]; exact s5 j, s6, s7⟩, fun b hb => ?_, fun b hb1 hb2 => ?_⟩
  · by_cases hq : b = hN h
    · rw [hN_nw]; exact Or.inr ⟨by omega, by omega⟩
    · rw [hS_nw, if_neg hq] at hb
      rcases s8 b hb with z1 | z1
      · exact Or.inl z1
      · rw [hN_nw]; exact Or.inr ⟨z1.1, by omega⟩
  · by_cases hq : b = hN h
    · subst hq; exact ⟨ha, hok⟩
    · rw [hN_nw] at hb2
      obtain ⟨q1, q2⟩ := s9 b hb1 (by omega)
      have m0 : hS (nw h kd len) b = hS h b := by rw [hS_nw, if_neg hq]
      have m1 : ∀ k, hI (nw h kd len) b k = hI h b k := fun k => by rw [hI_nw, if_neg hq]
      have m2 : ∀ k, hR (nw h kd len) b k = hR h b k := fun k => by rw [hR_nw, if_neg hq]
      exact ⟨by rw [ent_congr m0 m1 m2]; exact q1.kept (o b (by omega)), eok_congr m0 m1 q2⟩
/-- no field is a float or a double -/
theorem noFl : ∀ ci, ci < 13 → ∀ j, j < nfX ci → ftX ci j ≠ .float ∧ ftX ci j ≠ .double := by decide +kernel
def xNEW (ci : Nat) : PT := fun d kc ks ls st h kk => 1 ≤ kc ∧ nfX ci ≤ ks ∧ kk (kc - 1) (ks - nfX ci) ls (vr (hN h) :: st) (nw h ci 0)
theorem s_new {G : Gv} {M : Mt} {pc index ci : Nat} {C : String} {T : u_T} (hd : decode M.2.1 pc = .ok (.new index, 3)) (hc : CI ci C T) (hl : Cond.classLink M.1.cls index C ∈ gtb) (hi : Cond.instantiable C (nfX ci) ∈ gtb) (hn : Cond.initialized C ∈ gtb) : Snd G M pc (pc + 3) (xNEW ci) := by
  intro d Q k hk kc ks ls st h ⟨b1, b2, hx⟩ p e R s m args below meth c CX hd1 hd2 mc ms h1 h2 H locs cells slots arr h3 h4 hS hL hz hLH hSH
  obtain ⟨c1, c2, c3, c4, c5⟩ := hc
  have hts := CX.2.2.2.2.2.2.2.1
  have hK := CX.2.2.2.2.2.2.2.2.1
  obtain ⟨hSl, hfc, kC0, hkC0, hkind⟩ := hK.1 ci _ c2
  have hsz : H.size = hN h := hS.1
  refine W.newcK CX.1 CX.2.1 CX.2.2.2.2.2.1 (hts _ hl) (hts _ hi) (hts _ hn) rfl hd (by omega) (by omega) hfc hsz fun H' kC hkC e1 e2 e3 => ?_
  have hob := u_born (ftX ci) hts c3 ⟨hSl, hfc, kC0, hkC0, hkind⟩ hkC e1 c4
  refine hk _ _ _ _ _ hx p e R s m args below meth c CX hd1 hd2 mc ms h1 h2 H' locs (cells + 1) (slots + nfX ci) arr (by omega) (by omega) (hS.push (by omega) (fun q hq => e3 q (by omega)) ?_ ?_) hL hz hLH (hSH.cons trivial)
  · rw [ent_obj (h := nw h ci 0) c1 (by rw [hS_nw, if_pos rfl])]
    refine ⟨_, c2, hob.to (fun j hj => ?_)⟩
    have hj' : j < nfX ci := hj
    simp only [vp_V, List.getD_eq_getElem?_getD, List.getElem?_map, List.getElem?_range hj', Option.map_some, Option.getD_some]
    cases hty : ftX ci j <;> simp only [fvl, hI_nw, hR_nw, if_pos] <;> first | rfl | skip
    all_goals first | exact absurd hty (noFl ci c1 j hj').1 | exact absurd hty (noFl ci c1 j hj').2
  · unfold eok
    rw [hS_nw, if_pos rfl]
    refine ⟨fun _ j hj => ?_, fun q => by simp at q; omega, fun q => by simp at q; omega, fun q => by simp at q; omega, by simp⟩
    cases hty : ftX ci j <;> simp [fok, hI_nw, InR, InL]
def xNEWA (kd : Nat) : PT := fun d kc ks ls st h kk => ∃ n st1, st = vi n :: st1 ∧ 0 ≤ n ∧ n < 100000 ∧ 1 ≤ kc ∧ n.toNat ≤ ks ∧ kk (kc - 1) (ks - n.toNat) ls (vr (hN h) :: st1) (nw h kd n.toNat)
theorem s_newa {G : Gv} {M : Mt} {pc ti : Nat} {atype : ArrayType} (hd : decode M.2.1 pc = .ok (.newarray atype, 2)) (hti : ti < 3) (hty : newarray.typeOf atype = arTy ti) (hw : Cond.arrayClass (newarray.typeOf atype) ∈ gtb) : Snd G M pc (pc + 2) (xNEWA (100 + ti)) := by
  intro d Q k hk kc ks ls st h ⟨n, st1, he, n0, n1, b1, b2, hx⟩ p e R s m args below meth c CX hd1 hd2 mc ms h1 h2 H locs cells slots arr h3 h4 hSm hL hz hLH hSH
  subst he
  have hts := CX.2.2.2.2.2.2.2.1
  have hK := CX.2.2.2.2.2.2.2.2.1
  have hsz : H.size = hN h := hSm.1
  have en : (Int32.ofInt n).toNatClampNeg = n.toNat := i_clamp n0 hSH.hd
  refine W.newa CX.1 CX.2.1 (hts _ hw) rfl hd rfl (fun q => by have := (i_lt (hSH.hd) inR0).mp q; omega) ?_ (by omega) (by rw [en]; omega) fun cA kA comp f1 f2 f3 => ?_
  · rw [en]
    have : componentBytes (newarray.typeOf atype) ≤ 8 := by rw [hty]; rcases (show ti = 0 ∨ ti = 1 ∨ ti = 2 by omega) with q | q | q <;> subst q <;> decide
    calc n.toNat * componentBytes (newarray.typeOf atype) ≤ n.toNat * 8 := Nat.mul_le_mul_left _ this
      _ ≤ 536870912 := by omega
  · have hcA : cA = gA G ti := by
      have g1 := (hK.2 ti (gA G ti, arTy ti) (by rcases (show ti = 0 ∨ ti = 1 ∨ ti = 2 by omega) with q | q | q <;> subst q <;> rfl)).2
      rw [hty] at f1
      rcases (show ti = 0 ∨ ti = 1 ∨ ti = 2 by omega) with q | q | q <;> subst q <;> exact Option.some.inj (f1.symm.trans g1)
    subst hcA
    rw [en, hsz]
    generalize hH1 : H.push ({ cls := gA G ti, slots := Array.replicate n.toNat (defaultValue (newarray.typeOf atype)), vm := .none } : Cell) = H1
    have z1 : H1.size = H.size + 1 := by rw [← hH1, Array.size_push]
    have e1 : H1[H.size]? = some (arrV (gA G ti) n.toNat (fun _ => defaultValue (newarray.typeOf atype))) := by rw [← hH1, Array.getElem?_push_size, ← arrV_new]
    have o1 : ∀ q : Nat, q < H.size → H1[q]? = H[q]? := fun q hq => by rw [← hH1, Array.getElem?_push, if_neg (Nat.ne_of_lt hq)]
    refine hk _ _ _ _ _ hx p e R s m args below meth c CX hd1 hd2 mc ms h1 h2 H1 locs (cells + 1) (slots + n.toNat) arr (by omega) (by omega) (hSm.push z1 o1 ?_ ?_) hL hz hLH (hSH.tl.cons trivial)
    · have hk1 : hS (nw h (100 + ti) n.toNat) (hN h) = (100 + ti, n.toNat) := by rw [hS_nw, if_pos rfl]
      rw [hsz, hty] at e1
      rcases (show ti = 0 ∨ ti = 1 ∨ ti = 2 by omega) with q | q | q <;> subst q
      · rw [ent_i (by rw [hk1])]
        show H1[hN h]? = some (vp_cell _ _)
        rw [e1, hk1, vp_cell_i]
        congr 2; funext j; rw [hI_nw, if_pos rfl]; rfl
      · rw [ent_l (by rw [hk1])]
        show H1[hN h]? = some (vp_cell _ _)
        rw [e1, hk1, vp_cell_l]
        congr 2; funext j; rw [hI_nw, if_pos rfl]; rfl
      · rw [ent_z (by rw [hk1])]
        show H1[hN h]? = some (vp_cell _ _)
        rw [e1, hk1, vp_cell_i]
        congr 2; funext j; rw [hI_nw, if_pos rfl]; rfl
    · unfold eok
      rw [hS_nw, if_pos rfl]
      refine ⟨fun q => by simp at q; omega, fun q j hj => ?_, fun q j hj => ?_, fun q j hj => ?_, by simp; omega⟩ <;> rw [hI_nw, if_pos rfl]
      · unfold InR; omega
      · unfold InL; omega
      · exact Or.inl rfl
theorem s_anew {G : Gv} {M : Mt} {pc ti index : Nat} {C : String} (hd : decode M.2.1 pc = .ok (.anewarray index, 3)) (hti : ti = 3 ∨ ti = 4) (hty : arTy ti = .object C) (hl : Cond.classLink M.1.cls index C ∈ gtb) (hC : C = "BlessLoan$Town" ∨ C = "BlessLoan$Text") : Snd G M pc (pc + 3) (xNEWA (100 + ti)) := by
  intro d Q k hk kc ks ls st h ⟨n, st1, he, n0, n1, b1, b2, hx⟩ p e R s m args below meth c CX hd1 hd2 mc ms h1 h2 H locs cells slots arr h3 h4 hSm hL hz hLH hSH
  subst he
  have hts := CX.2.2.2.2.2.2.2.1
  have hK := CX.2.2.2.2.2.2.2.2.1
  have hsz : H.size = hN h := hSm.1
  have en : (Int32.ofInt n).toNatClampNeg = n.toNat := i_clamp n0 hSH.hd
  refine W.anew CX.1 CX.2.1 CX.2.2.2.2.2.1 (hts _ hl) (by rcases hC with q | q <;> subst q <;> first | exact va_AO.use CX.2.2.2.2.2.2.2.2.2.2.1.2.1.1 | exact va_AO.use CX.2.2.2.2.2.2.2.2.2.2.1.2.1.2) rfl hd rfl (fun q => by have := (i_lt (hSH.hd) inR0).mp q; omega) (by rw [en]; omega) (by omega) (by rw [en]; omega) fun cA kA comp f1 f2 f3 f4 => ?_
  have hcA : cA = gA G ti := by
    have g1 := (hK.2 ti (gA G ti, arTy ti) (by rcases hti with q | q <;> subst q <;> rfl)).2
    rw [hty] at g1
    obtain ⟨_, _, _, _, _, g2⟩ := g1
    exact Option.some.inj (f1.symm.trans g2)
  subst hcA
  rw [en, hsz]
  generalize hH1 : H.push ({ cls := gA G ti, slots := Array.replicate n.toNat .null, vm := .none } : Cell) = H1
  have z1 : H1.size = H.size + 1 := by rw [← hH1, Array.size_push]
  have e1 : H1[H.size]? = some (arrV (gA G ti) n.toNat (fun _ => .null)) := by rw [← hH1, Array.getElem?_push_size, ← arrV_new]
  have o1 : ∀ q : Nat, q < H.size → H1[q]? = H[q]? := fun q hq => by rw [← hH1, Array.getElem?_push, if_neg (Nat.ne_of_lt hq)]
  refine hk _ _ _ _ _ hx p e R s m args below meth c CX hd1 hd2 mc ms h1 h2 H1 locs (cells + 1) (slots + n.toNat) arr (by omega) (by omega) (hSm.push z1 o1 ?_ ?_) hL hz hLH (hSH.tl.cons trivial)
  · have hk1 : hS (nw h (100 + ti) n.toNat) (hN h) = (100 + ti, n.toNat) := by rw [hS_nw, if_pos rfl]
    rw [hsz] at e1
    rcases hti with q | q <;> subst q
    · rw [ent_t (by rw [hk1])]
      show H1[hN h]? = some (vp_cell _ _)
      rw [e1, hk1, vp_cell_q]
      congr 2; funext j; rw [hR_nw, if_pos rfl]; rfl
    · rw [ent_x (by rw [hk1])]
      show H1[hN h]? = some (vp_cell _ _)
      rw [e1, hk1, vp_cell_q]
      congr 2; funext j; rw [hR_nw, if_pos rfl]; rfl
  · unfold eok
    rw [hS_nw, if_pos rfl]
    exact ⟨fun q => by simp at q; omega, fun q => by simp at q; omega, fun q => by simp at q; omega, fun q => by simp at q; omega, by simp; omega⟩
