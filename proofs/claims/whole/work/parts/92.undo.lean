/-! undo of both. -/
theorem addR_bd {f ring : Int → Int} {len v : Int} (hf : ∀ q, 0 ≤ q → q < 64 → 0 ≤ f q ∧ f q ≤ 99) (hv : 0 ≤ v ∧ v ≤ 99) : ∀ (n : Nat) (q : Int), 0 ≤ q → q < 64 → 0 ≤ addR f ring len v n q ∧ addR f ring len v n q ≤ 99 + 99 * n
  | 0, q, q0, q1 => by have := hf q q0 q1; simp only [addR]; omega
  | n + 1, q, q0, q1 => by
    have := addR_bd (ring := ring) (len := len) hf hv n q q0 q1
    show 0 ≤ addR f ring len v n q + (if q = ring n * 8 + ring ((n + 1) % len) then v else 0) ∧ addR f ring len v n q + (if q = ring n * 8 + ring ((n + 1) % len) then v else 0) ≤ _
    split <;> omega
section
variable {G : Gv} {h h0 h1 h' : Hp} {b d : Nat} {τ υ : Tw} {Λ : Lw} {tp : Int → Int} {tl : Int} {ob rf : Int → Int} {U : Pst} {im : Img} {dr : Option Tw}
def tiP (b : Nat) (h : Hp) (A len v : Int) : Hp → Prop := fun h' => Fr (fun a => a = b + 1 + 7) h h' ∧ (∀ a k, hR h' a k = hR h a k) ∧ ∀ q, 0 ≤ q → q < 64 → hI h' (b + 1 + 7) q = addR (hI h (b + 1 + 7)) (fun i => hI h (b + 54) (A + i)) len v len.toNat q
theorem c_tie {A len v : Int} (hB : gB G ≤ b) (S : ShC h b) (hl : 1 ≤ len ∧ len ≤ 8) (hA : 0 ≤ A ∧ A + 8 ≤ 176) (hv : 0 ≤ v ∧ v ≤ 99) (hr : ∀ i, 0 ≤ i → i < len → 0 ≤ hI h (b + 54) (A + i) ∧ hI h (b + 54) (A + i) < 8) (ho : ∀ q, 0 ≤ q → q < 64 → 0 ≤ hI h (b + 1 + 7) q ∧ hI h (b + 1 + 7) q ≤ 99) : MA G M_X1_tieAgain d 0 0 [vr (b + 59), vi A, vi len, vi v] h (RV (tiP b h A len v)) := by
  refine MA.of2 [some (vr (b + 59)), some (vi A), some (vi len), some (vi v), none, none, none] (by decide +kernel) rfl rfl ?_
  have loop : ∀ (j i : Nat) (h1 : Hp) (l5 l6 : Option AV), (i : Int) + j = len → Fr (fun a => a = b + 1 + 7) h h1 → (∀ a k, hR h1 a k = hR h a k) → (∀ q, 0 ≤ q → q < 64 → hI h1 (b + 1 + 7) q = addR (hI h (b + 1 + 7)) (fun i => hI h (b + 54) (A + i)) len v i q) → WA G M_X1_tieAgain d 0 0 15 [some (vr (b + 59)), some (vi A), some (vi len), some (vi v), some (vi i), l5, l6] [] h1 (RV (tiP b h A len v)) := by
    intro j
    induction j with
    | zero =>
      intro i h1 l5 l6 hi F hR1 a1
      refine B_X1_tieAgain_15 ?_; simp (disch := omega) only [e_ICONST, e_LCONST, e_NULL, e_IADD, e_ISUB, e_IMUL, e_LADD, e_LSUB, e_LMUL, e_IAND, e_IOR, e_IXOR, e_ISHL, e_ISHR, e_IUSHR, e_LCMP, e_INEG, e_I2L, e_L2I, e_DUPi, e_DUPr, e_POPi, e_POPr, e_DUP2, e_GOTO, e_IFeq, e_IFne, e_IFlt, e_IFge, e_IFgt, e_IFle, e_ICeq, e_ICne, e_IClt, e_ICge, e_ICgt, e_ICle, e_NN, e_SW, wpB, r_ldI, r_ldL, r_ldA, r_ldAr, r_vqs, r_vqn, r_lgi, r_lgr, r_lgq, r_lgl, r_lgn, r_set0, r_set1, r_set2, r_sel0, r_sel1, r_sel2, r_wpL0, r_wpL1, r_app0, r_app1, r_ILOAD, r_LLOAD, r_ALOAD, r_IINC, r_ISTORE, r_ASTORE, r_ASTOREr, r_LSTORE, r_IDIV, r_IREM, r_LDIV, r_LREM, r_GETI, r_GETL, r_GETR, r_PUTI, r_PUTZ, r_PUTL, r_PUTR, r_PUTRr, r_PUTRn, r_IALD, r_LALD, r_ZALD, r_TALD, r_XALD, r_IAST, r_LAST, r_ZAST, r_TAST, r_TASTr, r_XAST, r_XASTr, r_ALEN, r_ALENL, r_NEW, r_NEWA, r_OBJI, r_MINI, r_MAXI, r_MINL, r_MAXL, r_STR, r_COPYI, r_IRET, r_LRET, r_ARET, r_VRET, r_ZRET, r_NNr, r_NNn, r_ARETr, r_ARETn, List.getElem?_cons_zero, List.getElem?_cons_succ, List.length_cons, List.length_nil, Bool.false_eq_true, if_false, if_true, Int.cast_ofNat_Int, Nat.sub_zero, true_and, and_true, wr_id, wl_id, Int.natCast_zero, Int.natCast_one, Nat.reduceAdd, Nat.reduceSub, Nat.reduceLT, Nat.reduceLeDiff, Nat.reduceEqDiff, Int.reduceNeg, Int.reduceLT, Int.reduceLE, Int.reduceNe, Int.reduceEq, Int.reduceAdd, Int.reduceSub, Int.reduceMul, Int.reduceToNat, ne_eq, not_false_eq_true, or_true, true_or, Nat.reduceMul, hS_sI, hS_sR, hN_sI, hN_sR, hR_sI, hI_sR, hS_cpI, hN_cpI, hR_cpI, g_Ie, g_In, g_Ij, g_Re, g_Rn, g_Rj, g_Cn, g_Ci, g_Co, add_m1, br_pos, br_neg, br_pos', br_neg', true_implies, false_implies, not_true_eq_false, r_if, im_pos, im_neg, and_true, true_and]
      refine B_X1_tieAgain_79 ?_; simp (disch := omega) only [e_ICONST, e_LCONST, e_NULL, e_IADD, e_ISUB, e_IMUL, e_LADD, e_LSUB, e_LMUL, e_IAND, e_IOR, e_IXOR, e_ISHL, e_ISHR, e_IUSHR, e_LCMP, e_INEG, e_I2L, e_L2I, e_DUPi, e_DUPr, e_POPi, e_POPr, e_DUP2, e_GOTO, e_IFeq, e_IFne, e_IFlt, e_IFge, e_IFgt, e_IFle, e_ICeq, e_ICne, e_IClt, e_ICge, e_ICgt, e_ICle, e_NN, e_SW, wpB, r_ldI, r_ldL, r_ldA, r_ldAr, r_vqs, r_vqn, r_lgi, r_lgr, r_lgq, r_lgl, r_lgn, r_set0, r_set1, r_set2, r_sel0, r_sel1, r_sel2, r_wpL0, r_wpL1, r_app0, r_app1, r_ILOAD, r_LLOAD, r_ALOAD, r_IINC, r_ISTORE, r_ASTORE, r_ASTOREr, r_LSTORE, r_IDIV, r_IREM, r_LDIV, r_LREM, r_GETI, r_GETL, r_GETR, r_PUTI, r_PUTZ, r_PUTL, r_PUTR, r_PUTRr, r_PUTRn, r_IALD, r_LALD, r_ZALD, r_TALD, r_XALD, r_IAST, r_LAST, r_ZAST, r_TAST, r_TASTr, r_XAST, r_XASTr, r_ALEN, r_ALENL, r_NEW, r_NEWA, r_OBJI, r_MINI, r_MAXI, r_MINL, r_MAXL, r_STR, r_COPYI, r_IRET, r_LRET, r_ARET, r_VRET, r_ZRET, r_NNr, r_NNn, r_ARETr, r_ARETn, List.getElem?_cons_zero, List.getElem?_cons_succ, List.length_cons, List.length_nil, Bool.false_eq_true, if_false, if_true, Int.cast_ofNat_Int, Nat.sub_zero, true_and, and_true, wr_id, wl_id, Int.natCast_zero, Int.natCast_one, Nat.reduceAdd, Nat.reduceSub, Nat.reduceLT, Nat.reduceLeDiff, Nat.reduceEqDiff, Int.reduceNeg, Int.reduceLT, Int.reduceLE, Int.reduceNe, Int.reduceEq, Int.reduceAdd, Int.reduceSub, Int.reduceMul, Int.reduceToNat, ne_eq, not_false_eq_true, or_true, true_or, Nat.reduceMul, hS_sI, hS_sR, hN_sI, hN_sR, hR_sI, hI_sR, hS_cpI, hN_cpI, hR_cpI, g_Ie, g_In, g_Ij, g_Re, g_Rn, g_Rj, g_Cn, g_Ci, g_Co, add_m1, br_pos, br_neg, br_pos', br_neg', true_implies, false_implies, not_true_eq_false, r_if, im_pos, im_neg, and_true, true_and]
      exact ⟨rfl, F, hR1, fun q q0 q1 => by rw [a1 q q0 q1, show len.toNat = i by omega]⟩
    | succ j ih =>
      intro i h1 l5 l6 hi F hR1 a1
      have S1 : ShC h1 b := S.fr ⟨fun a _ _ => F.2.1 a, fun a k _ _ _ => hR1 a k⟩
      have m0 : 0 ≤ ((i : Int) + 1) % len := Int.emod_nonneg _ (by omega)
      have m1 : ((i : Int) + 1) % len < len := Int.emod_lt_of_pos _ (by omega)
      have e54 : ∀ q, hI h1 (b + 53 + 1) q = hI h (b + 54) q := (F.2.2 (b + 54) (by omega)).1
      have r1 := hr i (by omega) (by omega)
      have r2 := hr (((i : Int) + 1) % len) m0 m1
      have tm : Int.tmod ((i : Int) + 1) len = ((i : Int) + 1) % len := Int.tmod_eq_emod_of_nonneg (by omega)
      obtain ⟨x, ex⟩ : ∃ x, hI h (b + 54) (A + i) = x := ⟨_, rfl⟩
      obtain ⟨y, ey⟩ : ∃ y, hI h (b + 54) (A + ((i : Int) + 1) % len) = y := ⟨_, rfl⟩
      rw [ex] at r1
      rw [ey] at r2
      generalize hM : ((i : Int) + 1) % len = M at *
      have a2 := a1 (x * 8 + y) (by omega) (by omega)
      have bd := addR_bd (f := hI h (b + 1 + 7)) (ring := fun i => hI h (b + 54) (A + i)) (len := len) ho hv i (x * 8 + y) (by omega) (by omega)
      refine B_X1_tieAgain_15 ?_; simp (disch := omega) only [e_ICONST, e_LCONST, e_NULL, e_IADD, e_ISUB, e_IMUL, e_LADD, e_LSUB, e_LMUL, e_IAND, e_IOR, e_IXOR, e_ISHL, e_ISHR, e_IUSHR, e_LCMP, e_INEG, e_I2L, e_L2I, e_DUPi, e_DUPr, e_POPi, e_POPr, e_DUP2, e_GOTO, e_IFeq, e_IFne, e_IFlt, e_IFge, e_IFgt, e_IFle, e_ICeq, e_ICne, e_IClt, e_ICge, e_ICgt, e_ICle, e_NN, e_SW, wpB, r_ldI, r_ldL, r_ldA, r_ldAr, r_vqs, r_vqn, r_lgi, r_lgr, r_lgq, r_lgl, r_lgn, r_set0, r_set1, r_set2, r_sel0, r_sel1, r_sel2, r_wpL0, r_wpL1, r_app0, r_app1, r_ILOAD, r_LLOAD, r_ALOAD, r_IINC, r_ISTORE, r_ASTORE, r_ASTOREr, r_LSTORE, r_IDIV, r_IREM, r_LDIV, r_LREM, r_GETI, r_GETL, r_GETR, r_PUTI, r_PUTZ, r_PUTL, r_PUTR, r_PUTRr, r_PUTRn, r_IALD, r_LALD, r_ZALD, r_TALD, r_XALD, r_IAST, r_LAST, r_ZAST, r_TAST, r_TASTr, r_XAST, r_XASTr, r_ALEN, r_ALENL, r_NEW, r_NEWA, r_OBJI, r_MINI, r_MAXI, r_MINL, r_MAXL, r_STR, r_COPYI, r_IRET, r_LRET, r_ARET, r_VRET, r_ZRET, r_NNr, r_NNn, r_ARETr, r_ARETn, List.getElem?_cons_zero, List.getElem?_cons_succ, List.length_cons, List.length_nil, Bool.false_eq_true, if_false, if_true, Int.cast_ofNat_Int, Nat.sub_zero, true_and, and_true, wr_id, wl_id, Int.natCast_zero, Int.natCast_one, Nat.reduceAdd, Nat.reduceSub, Nat.reduceLT, Nat.reduceLeDiff, Nat.reduceEqDiff, Int.reduceNeg, Int.reduceLT, Int.reduceLE, Int.reduceNe, Int.reduceEq, Int.reduceAdd, Int.reduceSub, Int.reduceMul, Int.reduceToNat, ne_eq, not_false_eq_true, or_true, true_or, Nat.reduceMul, hS_sI, hS_sR, hN_sI, hN_sR, hR_sI, hI_sR, hS_cpI, hN_cpI, hR_cpI, g_Ie, g_In, g_Ij, g_Re, g_Rn, g_Rj, g_Cn, g_Ci, g_Co, add_m1, br_pos, br_neg, br_pos', br_neg', true_implies, false_implies, not_true_eq_false, r_if, im_pos, im_neg, and_true, true_and, S1.s59, S1.r59_0, S1.r59_2, S1.p53.1, S1.p53.2.1, S1.p53.2.2, S1.t1.s0, S1.t1.s7, S1.t1.r6, tm, e54, ex, ey, a2]
      refine B_X1_tieAgain_21 ?_; simp (disch := omega) only [e_ICONST, e_LCONST, e_NULL, e_IADD, e_ISUB, e_IMUL, e_LADD, e_LSUB, e_LMUL, e_IAND, e_IOR, e_IXOR, e_ISHL, e_ISHR, e_IUSHR, e_LCMP, e_INEG, e_I2L, e_L2I, e_DUPi, e_DUPr, e_POPi, e_POPr, e_DUP2, e_GOTO, e_IFeq, e_IFne, e_IFlt, e_IFge, e_IFgt, e_IFle, e_ICeq, e_ICne, e_IClt, e_ICge, e_ICgt, e_ICle, e_NN, e_SW, wpB, r_ldI, r_ldL, r_ldA, r_ldAr, r_vqs, r_vqn, r_lgi, r_lgr, r_lgq, r_lgl, r_lgn, r_set0, r_set1, r_set2, r_sel0, r_sel1, r_sel2, r_wpL0, r_wpL1, r_app0, r_app1, r_ILOAD, r_LLOAD, r_ALOAD, r_IINC, r_ISTORE, r_ASTORE, r_ASTOREr, r_LSTORE, r_IDIV, r_IREM, r_LDIV, r_LREM, r_GETI, r_GETL, r_GETR, r_PUTI, r_PUTZ, r_PUTL, r_PUTR, r_PUTRr, r_PUTRn, r_IALD, r_LALD, r_ZALD, r_TALD, r_XALD, r_IAST, r_LAST, r_ZAST, r_TAST, r_TASTr, r_XAST, r_XASTr, r_ALEN, r_ALENL, r_NEW, r_NEWA, r_OBJI, r_MINI, r_MAXI, r_MINL, r_MAXL, r_STR, r_COPYI, r_IRET, r_LRET, r_ARET, r_VRET, r_ZRET, r_NNr, r_NNn, r_ARETr, r_ARETn, List.getElem?_cons_zero, List.getElem?_cons_succ, List.length_cons, List.length_nil, Bool.false_eq_true, if_false, if_true, Int.cast_ofNat_Int, Nat.sub_zero, true_and, and_true, wr_id, wl_id, Int.natCast_zero, Int.natCast_one, Nat.reduceAdd, Nat.reduceSub, Nat.reduceLT, Nat.reduceLeDiff, Nat.reduceEqDiff, Int.reduceNeg, Int.reduceLT, Int.reduceLE, Int.reduceNe, Int.reduceEq, Int.reduceAdd, Int.reduceSub, Int.reduceMul, Int.reduceToNat, ne_eq, not_false_eq_true, or_true, true_or, Nat.reduceMul, hS_sI, hS_sR, hN_sI, hN_sR, hR_sI, hI_sR, hS_cpI, hN_cpI, hR_cpI, g_Ie, g_In, g_Ij, g_Re, g_Rn, g_Rj, g_Cn, g_Ci, g_Co, add_m1, br_pos, br_neg, br_pos', br_neg', true_implies, false_implies, not_true_eq_false, r_if, im_pos, im_neg, and_true, true_and, S1.s59, S1.r59_0, S1.r59_2, S1.p53.1, S1.p53.2.1, S1.p53.2.2, S1.t1.s0, S1.t1.s7, S1.t1.r6, tm, e54, ex, ey, a2]
      refine ih (i + 1) _ _ _ (by omega) (F.sI rfl) (fun a k => hR1 a k) (fun q q0 q1 => ?_)
      show _ = addR _ _ len v i q + (if q = hI h (b + 54) (A + i) * 8 + hI h (b + 54) (A + ((i : Int) + 1) % len) then v else 0)
      rw [hM, ex, ey]
      by_cases c : q = x * 8 + y
      · rw [if_pos c, c, g_Ie]
      · rw [if_neg c, g_Ij c, a1 q q0 q1]; omega
  refine B_X1_tieAgain_0 ?_; simp (disch := omega) only [e_ICONST, e_LCONST, e_NULL, e_IADD, e_ISUB, e_IMUL, e_LADD, e_LSUB, e_LMUL, e_IAND, e_IOR, e_IXOR, e_ISHL, e_ISHR, e_IUSHR, e_LCMP, e_INEG, e_I2L, e_L2I, e_DUPi, e_DUPr, e_POPi, e_POPr, e_DUP2, e_GOTO, e_IFeq, e_IFne, e_IFlt, e_IFge, e_IFgt, e_IFle, e_ICeq, e_ICne, e_IClt, e_ICge, e_ICgt, e_ICle, e_NN, e_SW, wpB, r_ldI, r_ldL, r_ldA, r_ldAr, r_vqs, r_vqn, r_lgi, r_lgr, r_lgq, r_lgl, r_lgn, r_set0, r_set1, r_set2, r_sel0, r_sel1, r_sel2, r_wpL0, r_wpL1, r_app0, r_app1, r_ILOAD, r_LLOAD, r_ALOAD, r_IINC, r_ISTORE, r_ASTORE, r_ASTOREr, r_LSTORE, r_IDIV, r_IREM, r_LDIV, r_LREM, r_GETI, r_GETL, r_GETR, r_PUTI, r_PUTZ, r_PUTL, r_PUTR, r_PUTRr, r_PUTRn, r_IALD, r_LALD, r_ZALD, r_TALD, r_XALD, r_IAST, r_LAST, r_ZAST, r_TAST, r_TASTr, r_XAST, r_XASTr, r_ALEN, r_ALENL, r_NEW, r_NEWA, r_OBJI, r_MINI, r_MAXI, r_MINL, r_MAXL, r_STR, r_COPYI, r_IRET, r_LRET, r_ARET, r_VRET, r_ZRET, r_NNr, r_NNn, r_ARETr, r_ARETn, List.getElem?_cons_zero, List.getElem?_cons_succ, List.length_cons, List.length_nil, Bool.false_eq_true, if_false, if_true, Int.cast_ofNat_Int, Nat.sub_zero, true_and, and_true, wr_id, wl_id, Int.natCast_zero, Int.natCast_one, Nat.reduceAdd, Nat.reduceSub, Nat.reduceLT, Nat.reduceLeDiff, Nat.reduceEqDiff, Int.reduceNeg, Int.reduceLT, Int.reduceLE, Int.reduceNe, Int.reduceEq, Int.reduceAdd, Int.reduceSub, Int.reduceMul, Int.reduceToNat, ne_eq, not_false_eq_true, or_true, true_or, Nat.reduceMul, hS_sI, hS_sR, hN_sI, hN_sR, hR_sI, hI_sR, hS_cpI, hN_cpI, hR_cpI, g_Ie, g_In, g_Ij, g_Re, g_Rn, g_Rj, g_Cn, g_Ci, g_Co, add_m1, br_pos, br_neg, br_pos', br_neg', true_implies, false_implies, not_true_eq_false, r_if, im_pos, im_neg, and_true, true_and]
  refine B_X1_tieAgain_5 ?_; simp (disch := omega) only [e_ICONST, e_LCONST, e_NULL, e_IADD, e_ISUB, e_IMUL, e_LADD, e_LSUB, e_LMUL, e_IAND, e_IOR, e_IXOR, e_ISHL, e_ISHR, e_IUSHR, e_LCMP, e_INEG, e_I2L, e_L2I, e_DUPi, e_DUPr, e_POPi, e_POPr, e_DUP2, e_GOTO, e_IFeq, e_IFne, e_IFlt, e_IFge, e_IFgt, e_IFle, e_ICeq, e_ICne, e_IClt, e_ICge, e_ICgt, e_ICle, e_NN, e_SW, wpB, r_ldI, r_ldL, r_ldA, r_ldAr, r_vqs, r_vqn, r_lgi, r_lgr, r_lgq, r_lgl, r_lgn, r_set0, r_set1, r_set2, r_sel0, r_sel1, r_sel2, r_wpL0, r_wpL1, r_app0, r_app1, r_ILOAD, r_LLOAD, r_ALOAD, r_IINC, r_ISTORE, r_ASTORE, r_ASTOREr, r_LSTORE, r_IDIV, r_IREM, r_LDIV, r_LREM, r_GETI, r_GETL, r_GETR, r_PUTI, r_PUTZ, r_PUTL, r_PUTR, r_PUTRr, r_PUTRn, r_IALD, r_LALD, r_ZALD, r_TALD, r_XALD, r_IAST, r_LAST, r_ZAST, r_TAST, r_TASTr, r_XAST, r_XASTr, r_ALEN, r_ALENL, r_NEW, r_NEWA, r_OBJI, r_MINI, r_MAXI, r_MINL, r_MAXL, r_STR, r_COPYI, r_IRET, r_LRET, r_ARET, r_VRET, r_ZRET, r_NNr, r_NNn, r_ARETr, r_ARETn, List.getElem?_cons_zero, List.getElem?_cons_succ, List.length_cons, List.length_nil, Bool.false_eq_true, if_false, if_true, Int.cast_ofNat_Int, Nat.sub_zero, true_and, and_true, wr_id, wl_id, Int.natCast_zero, Int.natCast_one, Nat.reduceAdd, Nat.reduceSub, Nat.reduceLT, Nat.reduceLeDiff, Nat.reduceEqDiff, Int.reduceNeg, Int.reduceLT, Int.reduceLE, Int.reduceNe, Int.reduceEq, Int.reduceAdd, Int.reduceSub, Int.reduceMul, Int.reduceToNat, ne_eq, not_false_eq_true, or_true, true_or, Nat.reduceMul, hS_sI, hS_sR, hN_sI, hN_sR, hR_sI, hI_sR, hS_cpI, hN_cpI, hR_cpI, g_Ie, g_In, g_Ij, g_Re, g_Rn, g_Rj, g_Cn, g_Ci, g_Co, add_m1, br_pos, br_neg, br_pos', br_neg', true_implies, false_implies, not_true_eq_false, r_if, im_pos, im_neg, and_true, true_and]
  refine B_X1_tieAgain_12 ?_; simp (disch := omega) only [e_ICONST, e_LCONST, e_NULL, e_IADD, e_ISUB, e_IMUL, e_LADD, e_LSUB, e_LMUL, e_IAND, e_IOR, e_IXOR, e_ISHL, e_ISHR, e_IUSHR, e_LCMP, e_INEG, e_I2L, e_L2I, e_DUPi, e_DUPr, e_POPi, e_POPr, e_DUP2, e_GOTO, e_IFeq, e_IFne, e_IFlt, e_IFge, e_IFgt, e_IFle, e_ICeq, e_ICne, e_IClt, e_ICge, e_ICgt, e_ICle, e_NN, e_SW, wpB, r_ldI, r_ldL, r_ldA, r_ldAr, r_vqs, r_vqn, r_lgi, r_lgr, r_lgq, r_lgl, r_lgn, r_set0, r_set1, r_set2, r_sel0, r_sel1, r_sel2, r_wpL0, r_wpL1, r_app0, r_app1, r_ILOAD, r_LLOAD, r_ALOAD, r_IINC, r_ISTORE, r_ASTORE, r_ASTOREr, r_LSTORE, r_IDIV, r_IREM, r_LDIV, r_LREM, r_GETI, r_GETL, r_GETR, r_PUTI, r_PUTZ, r_PUTL, r_PUTR, r_PUTRr, r_PUTRn, r_IALD, r_LALD, r_ZALD, r_TALD, r_XALD, r_IAST, r_LAST, r_ZAST, r_TAST, r_TASTr, r_XAST, r_XASTr, r_ALEN, r_ALENL, r_NEW, r_NEWA, r_OBJI, r_MINI, r_MAXI, r_MINL, r_MAXL, r_STR, r_COPYI, r_IRET, r_LRET, r_ARET, r_VRET, r_ZRET, r_NNr, r_NNn, r_ARETr, r_ARETn, List.getElem?_cons_zero, List.getElem?_cons_succ, List.length_cons, List.length_nil, Bool.false_eq_true, if_false, if_true, Int.cast_ofNat_Int, Nat.sub_zero, true_and, and_true, wr_id, wl_id, Int.natCast_zero, Int.natCast_one, Nat.reduceAdd, Nat.reduceSub, Nat.reduceLT, Nat.reduceLeDiff, Nat.reduceEqDiff, Int.reduceNeg, Int.reduceLT, Int.reduceLE, Int.reduceNe, Int.reduceEq, Int.reduceAdd, Int.reduceSub, Int.reduceMul, Int.reduceToNat, ne_eq, not_false_eq_true, or_true, true_or, Nat.reduceMul, hS_sI, hS_sR, hN_sI, hN_sR, hR_sI, hI_sR, hS_cpI, hN_cpI, hR_cpI, g_Ie, g_In, g_Ij, g_Re, g_Rn, g_Rj, g_Cn, g_Ci, g_Co, add_m1, br_pos, br_neg, br_pos', br_neg', true_implies, false_implies, not_true_eq_false, r_if, im_pos, im_neg, and_true, true_and]
  exact loop len.toNat 0 h none none (by omega) Fr.rfl' (fun _ _ => rfl) (fun q q0 q1 => rfl)
/-- the latest deed, undone -/
def unU (U : Pst) : Pst := (U.1 - 1, U.2)
def unT (τ : Tw) (U : Pst) : Tw := mix τ (U.2 (U.1 - 1)).2
theorem PastC.pop (P : PastC h b τ U) (hn : 1 ≤ U.1) (h1 : hI h' (b + 53) 1 = (U.1 - 1 : Nat)) (h2 : ∀ k, hI h' (b + 54) k = hI h (b + 54) k) : PastC h' b (unT τ U) (unU U) := by
  obtain ⟨p1, p2, p3⟩ := P
  refine ⟨h1, (by show U.1 - 1 ≤ 16; omega), fun k hk => ?_⟩
  have hk' : k < U.1 - 1 := hk
  obtain ⟨q1, q2⟩ := p3 k (by omega)
  have e : unT τ U 0 11 = τ 0 11 := rfl
  refine ⟨?_, ?_⟩
  · rw [e]
    refine q1.congr (fun j _ _ => h2 _) (fun i q hi q0 q1 => ?_)
    unfold nxU
    show (if k + 1 < U.1 - 1 then (U.2 (k + 1)).2 else unT τ U) i q = (if k + 1 < U.1 then (U.2 (k + 1)).2 else τ) i q
    rw [if_pos (show k + 1 < U.1 by omega)]
    by_cases c : k + 1 < U.1 - 1
    · rw [if_pos c]
    · rw [if_neg c, show k + 1 = U.1 - 1 by omega]
      unfold unT mix
      rw [if_pos (show i = 2 ∨ i = 7 ∨ i = 8 from hi)]
  · have : mix (unT τ U) (U.2 k).2 = mix τ (U.2 k).2 := mix_off (fun i hi => by unfold unT mix; rw [if_neg (show ¬ (i = 2 ∨ i = 7 ∨ i = 8) from hi)])
    show WT (mix (unT τ U) (U.2 k).2)
    rw [this]
    exact q2
theorem TwR.eq {t : Nat} (T : TwR h t τ) (e : ∀ i k, 1 ≤ i → i ≤ 10 → 0 ≤ k → k < twL i → υ i k = τ i k) (e0 : ∀ k, 11 ≤ k → k ≤ 14 → υ 0 k = τ 0 k) : TwR h t υ :=
  ⟨T.1, fun i i1 i2 k k0 k1 => by rw [T.2.1 i i1 i2 k k0 k1, e i k i1 i2 k0 k1], fun k k0 k1 => by rw [T.2.2 k k0 k1, e0 k k0 k1]⟩
theorem undoT_off {row : Int → Int} {i : Nat} {k : Int} (hi : ¬ dyI i) : undoT row τ i k = τ i k := by
  have h2 : i ≠ 2 := fun e => hi (Or.inl e)
  have h7 : i ≠ 7 := fun e => hi (Or.inr (Or.inl e))
  have h8 : i ≠ 8 := fun e => hi (Or.inr (Or.inr e))
  unfold undoT
  split
  · exact upT_i h2
  split
  · simp only [if_neg h7]
  split
  · exact upT_i h8
  split
  · exact upT_i h7
  · rfl
/-- the new state, where the town is as the row undoes it -/
theorem CS.undo (H : CS G h b τ Λ tp tl ob rf U im dr) (hn : 1 ≤ U.1) (f : Fr (fun a => (b + 1 ≤ a ∧ a ≤ b + 11) ∨ a = b + 53) h h') (hr : ∀ a k, hR h' a k = hR h a k) (h53 : hI h' (b + 53) 1 = (U.1 - 1 : Nat)) (T : TwR h' (b + 1) (undoT (fun j => hI h (b + 54) (11 * (U.1 - 1 : Nat) + j)) τ)) : CS G h' b (unT τ U) Λ tp tl ob rf (unU U) im dr := by
  obtain ⟨q1, q2⟩ := H.2.2.2.2.2.2.1.2.2 (U.1 - 1) (by omega)
  have en : nxU U τ (U.1 - 1) = τ := by unfold nxU; rw [if_neg (by omega)]
  rw [en] at q1
  refine H.gen (f.mono (fun a ha => by omega)) hr (T.eq (fun i k i1 i2 k0 k1 => ?_) (fun k k0 k1 => ?_)) rfl q2 (PastC.pop H.2.2.2.2.2.2.1 hn h53 (f.2.2 (b + 54) (by omega)).1)
  · unfold unT mix
    by_cases c : i = 2 ∨ i = 7 ∨ i = 8
    · rw [if_pos c]; exact q1.2.2.2.2 i k c k0 k1
    · rw [if_neg c]; exact (undoT_off c).symm
  · rw [undoT_off nd0]; rfl
end
