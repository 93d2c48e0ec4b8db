/-! Rows: reading, writing, lengths. -/
theorem Sim.P1 {G : Gv} {h : Hp} {H : Heap} {a : Nat} (S : Sim G h H) (h1 : gB G ≤ a) (h2 : a < hN h) : va_P (gD G) vwCl [(a, ent G h a)] H := fun k q hq => by
  cases k with
  | zero => simp at hq; subst hq; exact (S.lo h1 h2).1
  | succ k => simp at hq
theorem j_nat {j : Int} {n : Nat} (h0 : 0 ≤ j) (h1 : j < n) (hr : InR j) : (Int32.ofInt j).toNatClampNeg = j.toNat ∧ j.toNat < n ∧ ((j.toNat : Nat) : Int) = j := ⟨i_clamp h0 hr, by omega, by omega⟩
def xIALD : PT := fun d kc ks ls st h kk => ∃ j a st1, st = vi j :: vr a :: st1 ∧ (hS h a).1 = 100 ∧ 0 ≤ j ∧ j < ((hS h a).2 : Int) ∧ kk kc ks ls (vi (hI h a j) :: st1) h
theorem s_iaload {G : Gv} {M : Mt} {pc : Nat} (hd : decode M.2.1 pc = .ok (.iaload, 1)) : Snd G M pc (pc + 1) xIALD :=
  Snd.mem fun d kc ks ls st h kk ⟨j, a, st1, he, ha, h0, h1, hx⟩ => ⟨vi (hI h a j) :: st1, h, hx, fun H S hSH => by
    subst he
    obtain ⟨e1, e2, e3⟩ := j_nat h0 h1 hSH.hd
    have hin : vp_in (Int32.ofInt j) (hS h a).2 := i_in h0 h1 hSH.hd
    rcases S.dom (a := a) (fun q => by rw [q] at ha; cases ha) with hq | ⟨o1, o2⟩
    · subst hq
      obtain ⟨s1, s2, s3, ⟨s4, s5, s6, s7⟩, s8, s9⟩ := id S
      rw [s4] at hin e2
      have e4 : hI h (gs G) j = gx G j.toNat := by rw [← s5, e3]
      refine ⟨hSH.tl.tl.cons (by rw [e4]; exact s7 _), fun p e R s m args below meth c locs cells slots Qf arr CX hL w => ?_⟩
      obtain ⟨scr, g1, g2, g3, g4, g5⟩ := CX.2.2.2.2.2.2.2.2.2.2.2
      refine W.iald CX.1 CX.2.1 (v := .int (Int32.ofInt (hI h (gs G) j))) (by rw [s3 _ s6]; exact g1) g2 g3 (by rw [g4]; exact hin) ?_ rfl rfl hd (w H locs S hL)
      rw [e1, g5 _ e2, e4]
    · have hok := (S.lo o1 o2).2.2.1 ha j.toNat e2
      rw [e3] at hok
      refine ⟨hSH.tl.tl.cons hok, fun p e R s m args below meth c locs cells slots Qf arr CX hL w => ?_⟩
      refine va_iald CX.1 CX.2.1 CX.2.2.2.2.2.2.2.2.1 (S.P1 o1 o2) 0 0 (cA := gA G 0) (n := (hS h a).2) (f := fun j => Int32.ofInt (hI h a (j : Int))) (by rw [ent_i ha]; rfl) rfl hin hd ?_
      have e5 : Value.int (Int32.ofInt (hI h a (((Int32.ofInt j).toNatClampNeg : Nat) : Int))) = rv (vi (hI h a j)) := by rw [e1, e3]; rfl
      rw [e5]
      exact w H locs S hL⟩
def xLALD : PT := fun d kc ks ls st h kk => ∃ j a st1, st = vi j :: vr a :: st1 ∧ (hS h a).1 = 101 ∧ 0 ≤ j ∧ j < ((hS h a).2 : Int) ∧ kk kc ks ls (vl (hI h a j) :: st1) h
theorem s_laload {G : Gv} {M : Mt} {pc : Nat} (hd : decode M.2.1 pc = .ok (.laload, 1)) : Snd G M pc (pc + 1) xLALD :=
  Snd.mem fun d kc ks ls st h kk ⟨j, a, st1, he, ha, h0, h1, hx⟩ => ⟨vl (hI h a j) :: st1, h, hx, fun H S hSH => by
    subst he
    obtain ⟨e1, e2, e3⟩ := j_nat h0 h1 hSH.hd
    have hin : vp_in (Int32.ofInt j) (hS h a).2 := i_in h0 h1 hSH.hd
    obtain ⟨o1, o2⟩ := S.own (a := a) (by rw [ha]; decide) (by rw [ha]; decide)
    refine ⟨hSH.tl.tl.cons ?_, fun p e R s m args below meth c locs cells slots Qf arr CX hL w => ?_⟩
    · have hok := (S.lo o1 o2).2.2.2.1 ha j.toNat e2; rw [e3] at hok; exact hok
    · refine va_lald CX.1 CX.2.1 CX.2.2.2.2.2.2.2.2.1 (S.P1 o1 o2) 0 1 (cA := gA G 1) (n := (hS h a).2) (f := fun j => Int64.ofInt (hI h a (j : Int))) (by rw [ent_l ha]; rfl) rfl hin hd ?_
      have e5 : Value.long (Int64.ofInt (hI h a (((Int32.ofInt j).toNatClampNeg : Nat) : Int))) = rv (vl (hI h a j)) := by rw [e1, e3]; rfl
      rw [e5]
      exact w H locs S hL⟩
def xZALD : PT := fun d kc ks ls st h kk => ∃ j a st1, st = vi j :: vr a :: st1 ∧ (hS h a).1 = 102 ∧ 0 ≤ j ∧ j < ((hS h a).2 : Int) ∧ kk kc ks ls (vi (hI h a j) :: st1) h
theorem s_zaload {G : Gv} {M : Mt} {pc : Nat} (hd : decode M.2.1 pc = .ok (.baload, 1)) : Snd G M pc (pc + 1) xZALD :=
  Snd.mem fun d kc ks ls st h kk ⟨j, a, st1, he, ha, h0, h1, hx⟩ => ⟨vi (hI h a j) :: st1, h, hx, fun H S hSH => by
    subst he
    obtain ⟨e1, e2, e3⟩ := j_nat h0 h1 hSH.hd
    have hin : vp_in (Int32.ofInt j) (hS h a).2 := i_in h0 h1 hSH.hd
    obtain ⟨o1, o2⟩ := S.own (a := a) (by rw [ha]; decide) (by rw [ha]; decide)
    refine ⟨hSH.tl.tl.cons ?_, fun p e R s m args below meth c locs cells slots Qf arr CX hL w => ?_⟩
    · have hok := (S.lo o1 o2).2.2.2.2.1 ha j.toNat e2; rw [e3] at hok; show InR _; unfold InR; omega
    · refine va_zald CX.1 CX.2.1 CX.2.2.2.2.2.2.2.2.1 (S.P1 o1 o2) 0 2 (cA := gA G 2) (n := (hS h a).2) (f := fun j => Int32.ofInt (hI h a (j : Int))) (by rw [ent_z ha]; rfl) rfl hin hd ?_
      have e5 : Value.int (Int32.ofInt (hI h a (((Int32.ofInt j).toNatClampNeg : Nat) : Int))) = rv (vi (hI h a j)) := by rw [e1, e3]; rfl
      rw [e5]
      exact w H locs S hL⟩
def xTALD : PT := fun d kc ks ls st h kk => ∃ j a st1, st = vi j :: vr a :: st1 ∧ (hS h a).1 = 103 ∧ 0 ≤ j ∧ j < ((hS h a).2 : Int) ∧ kk kc ks ls (vq (hR h a j) :: st1) h
theorem s_taload {G : Gv} {M : Mt} {pc : Nat} (hd : decode M.2.1 pc = .ok (.aaload, 1)) : Snd G M pc (pc + 1) xTALD :=
  Snd.mem fun d kc ks ls st h kk ⟨j, a, st1, he, ha, h0, h1, hx⟩ => ⟨vq (hR h a j) :: st1, h, hx, fun H S hSH => by
    subst he
    obtain ⟨e1, e2, e3⟩ := j_nat h0 h1 hSH.hd
    have hin : vp_in (Int32.ofInt j) (hS h a).2 := i_in h0 h1 hSH.hd
    obtain ⟨o1, o2⟩ := S.own (a := a) (by rw [ha]; decide) (by rw [ha]; decide)
    refine ⟨hSH.tl.tl.cons ?_, fun p e R s m args below meth c locs cells slots Qf arr CX hL w => ?_⟩
    · trivial
    · refine va_aldq (C := "BlessLoan$Town") CX.1 CX.2.1 CX.2.2.2.2.2.2.2.2.1 (S.P1 o1 o2) 0 3 (cA := gA G 3) (n := (hS h a).2) (f := fun j => hR h a (j : Int)) (by rw [ent_t ha]; rfl) rfl hin hd ?_
      have e5 : va_rf (hR h a (((Int32.ofInt j).toNatClampNeg : Nat) : Int)) = rv (vq (hR h a j)) := by rw [e1, e3]; rfl
      rw [e5]
      exact w H locs S hL⟩
def xXALD : PT := fun d kc ks ls st h kk => ∃ j a st1, st = vi j :: vr a :: st1 ∧ (hS h a).1 = 104 ∧ 0 ≤ j ∧ j < ((hS h a).2 : Int) ∧ kk kc ks ls (vq (hR h a j) :: st1) h
theorem s_xaload {G : Gv} {M : Mt} {pc : Nat} (hd : decode M.2.1 pc = .ok (.aaload, 1)) : Snd G M pc (pc + 1) xXALD :=
  Snd.mem fun d kc ks ls st h kk ⟨j, a, st1, he, ha, h0, h1, hx⟩ => ⟨vq (hR h a j) :: st1, h, hx, fun H S hSH => by
    subst he
    obtain ⟨e1, e2, e3⟩ := j_nat h0 h1 hSH.hd
    have hin : vp_in (Int32.ofInt j) (hS h a).2 := i_in h0 h1 hSH.hd
    obtain ⟨o1, o2⟩ := S.own (a := a) (by rw [ha]; decide) (by rw [ha]; decide)
    refine ⟨hSH.tl.tl.cons ?_, fun p e R s m args below meth c locs cells slots Qf arr CX hL w => ?_⟩
    · trivial
    · refine va_aldq (C := "BlessLoan$Text") CX.1 CX.2.1 CX.2.2.2.2.2.2.2.2.1 (S.P1 o1 o2) 0 4 (cA := gA G 4) (n := (hS h a).2) (f := fun j => hR h a (j : Int)) (by rw [ent_x ha]; rfl) rfl hin hd ?_
      have e5 : va_rf (hR h a (((Int32.ofInt j).toNatClampNeg : Nat) : Int)) = rv (vq (hR h a j)) := by rw [e1, e3]; rfl
      rw [e5]
      exact w H locs S hL⟩
def xIAST (G : Gv) : PT := fun d kc ks ls st h kk => ∃ x j a st1, st = vi x :: vi j :: vr a :: st1 ∧ (hS h a).1 = 100 ∧ gB G ≤ a ∧ 0 ≤ j ∧ j < ((hS h a).2 : Int) ∧ kk kc ks ls st1 (sI h a j x)
theorem s_iastore {G : Gv} {M : Mt} {pc : Nat} (hd : decode M.2.1 pc = .ok (.iastore, 1)) : Snd G M pc (pc + 1) (xIAST G) :=
  Snd.mem fun d kc ks ls st h kk ⟨x, j, a, st1, he, ha, o1, h0, h1, hx⟩ => ⟨st1, sI h a j x, hx, fun H S hSH => by
    subst he
    obtain ⟨e1, e2, e3⟩ := j_nat h0 h1 hSH.tl.hd
    have hin : vp_in (Int32.ofInt j) (hS h a).2 := i_in h0 h1 hSH.tl.hd
    have o2 : a < hN h := S.own2 (by rw [ha]; decide) o1
    obtain ⟨q1, q2⟩ := S.lo o1 o2
    rw [ent_i ha] at q1
    refine ⟨hSH.tl.tl.tl, fun p e R s m args below meth c locs cells slots Qf arr CX hL w => ?_⟩
    refine W.iast CX.1 CX.2.1 q1 ((CX.2.2.2.2.2.2.2.2.1.2 0 _ rfl).1 (hS h a).2 (fun j => .int (Int32.ofInt (hI h a (j : Int))))) (fun q => by cases q) (by show ¬ (_ ∨ (arrV _ _ _).slots.size ≤ _); rw [arrV_size]; exact hin) rfl rfl hd fun H1 ee z oq => ?_
    refine w H1 _ (S.upd o1 z oq rfl (fun _ => rfl) sI_off ?_ ?_) (fun q hq => ?_)
    · rw [ent_i (h := sI h a j x) ha]
      show H1[a]? = some (vp_cell _ _)
      have ee : H1[a]? = some ((vp_cell _ _).setSlot _ _) := ee
      rw [ee]
      rw [vp_cell_i, vp_cell_i, arrV_store]
      congr 2
      funext q
      show updV _ _ _ q = Value.int (Int32.ofInt (hI (sI h a j x) a (q : Int)))
      rw [hI_sI, e1]
      by_cases hq : q = j.toNat
      · subst hq; rw [if_pos ⟨rfl, e3⟩]; simp [updV]
      · rw [if_neg (fun z => hq (by omega))]; simp [updV, hq]
    · obtain ⟨k1, k2, k3, k4, k5⟩ := q2
      unfold eok
      have hs2 : hS (sI h a j x) a = hS h a := rfl
      rw [hs2]
      refine ⟨fun q => by omega, fun q i hi => by
        show InR (hI _ _ _)
        rw [hI_sI]
        by_cases hij : a = a ∧ (i : Int) = j
        · rw [if_pos hij]; exact hSH.hd
        · rw [if_neg hij]; exact k2 q i hi, fun q => by omega, fun q => by omega, k5⟩
    · rcases List.mem_append.mp hq with zz | zz
      · exact hL q zz
      · rw [List.mem_singleton.mp zz]; exact o1⟩
def xLAST (G : Gv) : PT := fun d kc ks ls st h kk => ∃ x j a st1, st = vl x :: vi j :: vr a :: st1 ∧ (hS h a).1 = 101 ∧ gB G ≤ a ∧ 0 ≤ j ∧ j < ((hS h a).2 : Int) ∧ kk kc ks ls st1 (sI h a j x)
theorem s_lastore {G : Gv} {M : Mt} {pc : Nat} (hd : decode M.2.1 pc = .ok (.lastore, 1)) : Snd G M pc (pc + 1) (xLAST G) :=
  Snd.mem fun d kc ks ls st h kk ⟨x, j, a, st1, he, ha, o1, h0, h1, hx⟩ => ⟨st1, sI h a j x, hx, fun H S hSH => by
    subst he
    obtain ⟨e1, e2, e3⟩ := j_nat h0 h1 hSH.tl.hd
    have hin : vp_in (Int32.ofInt j) (hS h a).2 := i_in h0 h1 hSH.tl.hd
    have o2 : a < hN h := S.own2 (by rw [ha]; decide) o1
    obtain ⟨q1, q2⟩ := S.lo o1 o2
    rw [ent_l ha] at q1
    refine ⟨hSH.tl.tl.tl, fun p e R s m args below meth c locs cells slots Qf arr CX hL w => ?_⟩
    refine W.last CX.1 CX.2.1 q1 ((CX.2.2.2.2.2.2.2.2.1.2 1 _ rfl).1 (hS h a).2 (fun j => .long (Int64.ofInt (hI h a (j : Int))))) (fun q => by cases q) (by show ¬ (_ ∨ (arrV _ _ _).slots.size ≤ _); rw [arrV_size]; exact hin) rfl rfl hd fun H1 ee z oq => ?_
    refine w H1 _ (S.upd o1 z oq rfl (fun _ => rfl) sI_off ?_ ?_) (fun q hq => ?_)
    · rw [ent_l (h := sI h a j x) ha]
      show H1[a]? = some (vp_cell _ _)
      have ee : H1[a]? = some ((vp_cell _ _).setSlot _ _) := ee
      rw [ee]
      rw [vp_cell_l, vp_cell_l, arrV_store]
      congr 2
      funext q
      show updV _ _ _ q = Value.long (Int64.ofInt (hI (sI h a j x) a (q : Int)))
      rw [hI_sI, e1]
      by_cases hq : q = j.toNat
      · subst hq; rw [if_pos ⟨rfl, e3⟩]; simp [updV]
      · rw [if_neg (fun z => hq (by omega))]; simp [updV, hq]
    · obtain ⟨k1, k2, k3, k4, k5⟩ := q2
      unfold eok
      have hs2 : hS (sI h a j x) a = hS h a := rfl
      rw [hs2]
      refine ⟨fun q => by omega, fun q => by omega, fun q i hi => by
        show InL (hI _ _ _)
        rw [hI_sI]
        by_cases hij : a = a ∧ (i : Int) = j
        · rw [if_pos hij]; exact hSH.hd
        · rw [if_neg hij]; exact k3 q i hi, fun q => by omega, k5⟩
    · rcases List.mem_append.mp hq with zz | zz
      · exact hL q zz
      · rw [List.mem_singleton.mp zz]; exact o1⟩
def xZAST (G : Gv) : PT := fun d kc ks ls st h kk => ∃ x j a st1, st = vi x :: vi j :: vr a :: st1 ∧ (hS h a).1 = 102 ∧ gB G ≤ a ∧ 0 ≤ j ∧ j < ((hS h a).2 : Int) ∧ (x = 0 ∨ x = 1) ∧ kk kc ks ls st1 (sI h a j x)
theorem s_zastore {G : Gv} {M : Mt} {pc : Nat} (hd : decode M.2.1 pc = .ok (.bastore, 1)) : Snd G M pc (pc + 1) (xZAST G) :=
  Snd.mem fun d kc ks ls st h kk ⟨x, j, a, st1, he, ha, o1, h0, h1, h01, hx⟩ => ⟨st1, sI h a j x, hx, fun H S hSH => by
    subst he
    obtain ⟨e1, e2, e3⟩ := j_nat h0 h1 hSH.tl.hd
    have hin : vp_in (Int32.ofInt j) (hS h a).2 := i_in h0 h1 hSH.tl.hd
    have o2 : a < hN h := S.own2 (by rw [ha]; decide) o1
    obtain ⟨q1, q2⟩ := S.lo o1 o2
    rw [ent_z ha] at q1
    refine ⟨hSH.tl.tl.tl, fun p e R s m args below meth c locs cells slots Qf arr CX hL w => ?_⟩
    refine W.zast CX.1 CX.2.1 q1 ((CX.2.2.2.2.2.2.2.2.1.2 2 _ rfl).1 (hS h a).2 (fun j => .int (Int32.ofInt (hI h a (j : Int))))) (fun q => by cases q) (by show ¬ (_ ∨ (arrV _ _ _).slots.size ≤ _); rw [arrV_size]; exact hin) rfl rfl hd fun H1 ee z oq => ?_
    refine w H1 _ (S.upd o1 z oq rfl (fun _ => rfl) sI_off ?_ ?_) (fun q hq => ?_)
    · rw [ent_z (h := sI h a j x) ha]
      show H1[a]? = some (vp_cell _ _)
      have ee : H1[a]? = some ((vp_cell _ _).setSlot _ _) := ee
      rw [ee]
      rw [vp_cell_i, vp_cell_i, arrV_store]
      congr 2
      funext q
      show updV _ _ _ q = Value.int (Int32.ofInt (hI (sI h a j x) a (q : Int)))
      rw [hI_sI, e1]
      by_cases hq : q = j.toNat
      · subst hq; rw [if_pos ⟨rfl, e3⟩]; simp [updV]; exact nar_z h01
      · rw [if_neg (fun z => hq (by omega))]; simp [updV, hq]
    · obtain ⟨k1, k2, k3, k4, k5⟩ := q2
      unfold eok
      have hs2 : hS (sI h a j x) a = hS h a := rfl
      rw [hs2]
      refine ⟨fun q => by omega, fun q => by omega, fun q => by omega, fun q i hi => by
        show _ ∨ _
        rw [hI_sI]
        by_cases hij : a = a ∧ (i : Int) = j
        · rw [if_pos hij]; exact h01
        · rw [if_neg hij]; exact k4 q i hi, k5⟩
    · rcases List.mem_append.mp hq with zz | zz
      · exact hL q zz
      · rw [List.mem_singleton.mp zz]; exact o1⟩
