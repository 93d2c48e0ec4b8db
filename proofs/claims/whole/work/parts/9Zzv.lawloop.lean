/-! The law: its loop. -/
theorem iand_63 {x : Int} : 0 ≤ iand x 63 ∧ iand x 63 ≤ 63 := by
  unfold iand
  generalize Int32.ofInt x = y
  have e : (y &&& Int32.ofInt 63).toBitVec = y.toBitVec &&& 63#32 := rfl
  have l : (y.toBitVec &&& 63#32).toNat ≤ 63 := by
    rw [BitVec.toNat_and]
    exact Nat.and_le_right
  have t : (y &&& Int32.ofInt 63).toInt = ((y.toBitVec &&& 63#32).toNat : Int) := by
    show (y &&& Int32.ofInt 63).toBitVec.toInt = _
    rw [e, BitVec.toInt_eq_toNat_of_lt (by omega)]
  rw [t]
  omega
section
variable {G : Gv} {h h0 h1 h2 h' : Hp} {b d kc ks k : Nat} {n i : Int} {sc : Int → Int} {Q : Post}
theorem WA.pc {M : Mt} {pc pc' : Nat} {ls : Lcs} {st : List AV} (e : pc = pc') (w : WA G M d kc ks pc' ls st h Q) : WA G M d kc ks pc ls st h Q := e ▸ w
def lwQ : Post := fun r _ => r = some (vi 1)
theorem l_sw (hgl : gL G < 100000) (hd : 61 ≤ d) (hn : n ≤ 1000) (hi : 0 ≤ i ∧ i + 6 ≤ gL G) (L : LwS G h b n sc) (hc : 12 * (k + 1) ≤ kc) (hs : 1000 * (k + 1) ≤ ks) (nx : ∀ (kc' ks' : Nat) (h' : Hp), 12 * k ≤ kc' → 1000 * k ≤ ks' → LwS G h' b (n + 1) sc → WA G M_L_law d kc' ks' 1380 [some (vr (gs G)), some (vr b), some (vr (b + 88)), some (vi i)] [] h' Q) (v : Int) (hv : 0 ≤ v) : WA G M_L_law d kc ks (if v < 0 then 1380 else [220, 253, 286, 339, 372, 405, 438, 481, 504, 537, 600, 623, 636, 649, 662, 675, 688, 701, 724, 767, 800, 823, 856, 869, 882, 895, 918, 951, 984, 1007, 1040, 1063, 1096, 1109, 1132, 1165, 1209, 1232, 1265, 1298, 1321, 1344, 1367].getD (v - 0).toNat 1380) [some (vr (gs G)), some (vr b), some (vr (b + 88)), some (vi i)] [] h Q := by
  have up : LwS G h b (n + 1) sc := by
    obtain ⟨τ, Λ, tp, tl, ob, rf, U, im, dr, C, M, g, s⟩ := L
    exact ⟨τ, Λ, tp, tl, ob, rf, U, im, dr, C, M, g.up, s⟩
  rcases (show v = 0 ∨ v = 1 ∨ v = 2 ∨ v = 3 ∨ v = 4 ∨ v = 5 ∨ v = 6 ∨ v = 7 ∨ v = 8 ∨ v = 9 ∨ v = 10 ∨ v = 11 ∨ v = 12 ∨ v = 13 ∨ v = 14 ∨ v = 15 ∨ v = 16 ∨ v = 17 ∨ v = 18 ∨ v = 19 ∨ v = 20 ∨ v = 21 ∨ v = 22 ∨ v = 23 ∨ v = 24 ∨ v = 25 ∨ v = 26 ∨ v = 27 ∨ v = 28 ∨ v = 29 ∨ v = 30 ∨ v = 31 ∨ v = 32 ∨ v = 33 ∨ v = 34 ∨ v = 35 ∨ v = 36 ∨ v = 37 ∨ v = 38 ∨ v = 39 ∨ v = 40 ∨ v = 41 ∨ v = 42 ∨ 43 ≤ v by omega) with e | e | e | e | e | e | e | e | e | e | e | e | e | e | e | e | e | e | e | e | e | e | e | e | e | e | e | e | e | e | e | e | e | e | e | e | e | e | e | e | e | e | e | e
  · subst e; exact WA.pc rfl (lc_dust hgl hd hn hi L hc hs nx)
  · subst e; exact WA.pc rfl (lc_at hgl hd hn hi L hc hs nx)
  · subst e; exact WA.pc rfl (lc_person hgl hd hn hi L hc hs nx)
  · subst e; exact WA.pc rfl (lc_of hgl hd hn hi L hc hs nx)
  · subst e; exact WA.pc rfl (lc_mask hgl hd hn hi L hc hs nx)
  · subst e; exact WA.pc rfl (lc_owed hgl hd hn hi L hc hs nx)
  · subst e; exact WA.pc rfl (lc_lend hgl hd hn hi L hc hs nx)
  · subst e; exact WA.pc rfl (lc_net hgl hd hn hi L hc hs nx)
  · subst e; exact WA.pc rfl (lc_terms hgl hd hn hi L hc hs nx)
  · subst e; exact WA.pc rfl (lc_feed hgl hd hn hi L hc hs nx)
  · subst e; exact WA.pc rfl (lc_end hgl hd hn hi L hc hs nx)
  · subst e; exact WA.pc rfl (lc_row hgl hd hn hi L hc hs nx)
  · subst e; exact WA.pc rfl (lc_hiccups hgl hd hn hi L hc hs nx)
  · subst e; exact WA.pc rfl (lc_law hgl hd hn hi L hc hs nx)
  · subst e; exact WA.pc rfl (lc_orders hgl hd hn hi L hc hs nx)
  · subst e; exact WA.pc rfl (lc_fault hgl hd hn hi L hc hs nx)
  · subst e; exact WA.pc rfl (lc_stopped hgl hd hn hi L hc hs nx)
  · subst e; exact WA.pc rfl (lc_force hgl hd hn hi L hc hs nx)
  · subst e; exact WA.pc rfl (lc_asks hgl hd hn hi L hc hs nx)
  · subst e; exact WA.pc rfl (lc_step hgl hd hn hi L hc hs nx)
  · subst e; exact WA.pc rfl (lc_sneeze hgl hd hn hi L hc hs nx)
  · subst e; exact WA.pc rfl (lc_forgive hgl hd hn hi L hc hs nx)
  · subst e; exact WA.pc rfl (lc_clear hgl hd hn hi L hc hs nx)
  · subst e; exact WA.pc rfl (lc_pass hgl hd hn hi L hc hs nx)
  · subst e; exact WA.pc rfl (lc_undo hgl hd hn hi L hc hs nx)
  · subst e; exact WA.pc rfl (lc_ring hgl hd hn hi L hc hs nx)
  · subst e; exact WA.pc rfl (lc_gain hgl hd hn hi L hc hs nx)
  · subst e; exact WA.pc rfl (lc_stand hgl hd hn hi L hc hs nx)
  · subst e; exact WA.pc rfl (lc_rests hgl hd hn hi L hc hs nx)
  · subst e; exact WA.pc rfl (lc_round hgl hd hn hi L hc hs nx)
  · subst e; exact WA.pc rfl (lc_masks hgl hd hn hi L hc hs nx)
  · subst e; exact WA.pc rfl (lc_seen hgl hd hn hi L hc hs nx)
  · subst e; exact WA.pc rfl (lc_forget hgl hd hn hi L hc hs nx)
  · subst e; exact WA.pc rfl (lc_can hgl hd hn hi L hc hs nx)
  · subst e; exact WA.pc rfl (lc_listen hgl hd hn hi L hc hs nx)
  · subst e; exact WA.pc rfl (lc_often hgl hd hn hi L hc hs nx)
  · subst e; exact WA.pc rfl (lc_compare hgl hd hn hi L hc hs nx)
  · subst e; exact WA.pc rfl (lc_hours hgl hd hn hi L hc hs nx)
  · subst e; exact WA.pc rfl (lc_drawn hgl hd hn hi L hc hs nx)
  · subst e; exact WA.pc rfl (lc_image hgl hd hn hi L hc hs nx)
  · subst e; exact WA.pc rfl (lc_back hgl hd hn hi L hc hs nx)
  · subst e; exact WA.pc rfl (lc_count hgl hd hn hi L hc hs nx)
  · subst e; exact WA.pc rfl (lc_status hgl hd hn hi L hc hs nx)
  · exact WA.pc (by rw [if_neg (by omega), List.getD_eq_getElem?_getD, List.getElem?_eq_none (Nat.le_trans (Nat.le_of_eq (rfl : List.length _ = 43)) (by omega))]; rfl) (nx kc ks h (by omega) (by omega) up)
theorem l_loop (hgl : gL G < 100000) (hd : 61 ≤ d) : ∀ (k : Nat) (i n : Int) (h : Hp) (kc ks : Nat), LwS G h b n sc → 0 ≤ i → (gL G : Int) - i ≤ 6 * k + 5 → i ≤ 100000 → n + k ≤ 1000 → 12 * k ≤ kc → 1000 * k ≤ ks → WA G M_L_law d kc ks 18 [some (vr (gs G)), some (vr b), some (vr (b + 88)), some (vi i)] [] h lwQ := by
  intro k
  induction k with
  | zero =>
    intro i n h kc ks L i0 hl ib hn hc hs
    obtain ⟨τ, Λ, tp, tl, ob, rf, U, im, dr, C, M, g, ⟨s1, s2⟩, s3⟩ := L
    clear C M g
    refine B_L_law_18 hgl ?_; simp (disch := omega) only [e_ICONST, e_LCONST, e_NULL, e_IADD, e_ISUB, e_IMUL, e_LADD, e_LSUB, e_LMUL, e_IAND, e_IOR, e_IXOR, e_ISHL, e_ISHR, e_IUSHR, e_LCMP, e_INEG, e_I2L, e_L2I, e_DUPi, e_DUPr, e_POPi, e_POPr, e_DUP2, e_GOTO, e_IFeq, e_IFne, e_IFlt, e_IFge, e_IFgt, e_IFle, e_ICeq, e_ICne, e_IClt, e_ICge, e_ICgt, e_ICle, e_NN, e_SW, wpB, r_ldI, r_ldL, r_ldA, r_ldAr, r_vqs, r_vqn, r_lgi, r_lgr, r_lgq, r_lgl, r_lgn, r_set0, r_set1, r_set2, r_sel0, r_sel1, r_sel2, r_wpL0, r_wpL1, r_app0, r_app1, r_ILOAD, r_LLOAD, r_ALOAD, r_IINC, r_ISTORE, r_ASTORE, r_ASTOREr, r_LSTORE, r_IDIV, r_IREM, r_LDIV, r_LREM, r_GETI, r_GETL, r_GETR, r_PUTI, r_PUTZ, r_PUTL, r_PUTR, r_PUTRr, r_PUTRn, r_IALD, r_LALD, r_ZALD, r_TALD, r_XALD, r_IAST, r_LAST, r_ZAST, r_TAST, r_TASTr, r_XAST, r_XASTr, r_ALEN, r_ALENL, r_NEW, r_NEWA, r_OBJI, r_MINI, r_MAXI, r_MINL, r_MAXL, r_STR, r_COPYI, r_IRET, r_LRET, r_ARET, r_VRET, r_ZRET, r_NNr, r_NNn, r_ARETr, r_ARETn, List.getElem?_cons_zero, List.getElem?_cons_succ, List.length_cons, List.length_nil, Bool.false_eq_true, if_false, if_true, Int.cast_ofNat_Int, Nat.sub_zero, true_and, and_true, wr_id, wl_id, Int.natCast_zero, Int.natCast_one, Nat.reduceAdd, Nat.reduceSub, Nat.reduceLT, Nat.reduceLeDiff, Nat.reduceEqDiff, Int.reduceNeg, Int.reduceLT, Int.reduceLE, Int.reduceNe, Int.reduceEq, Int.reduceAdd, Int.reduceSub, Int.reduceMul, Int.reduceToNat, ne_eq, not_false_eq_true, or_true, true_or, Nat.reduceMul, hS_sI, hS_sR, hN_sI, hN_sR, hR_sI, hI_sR, hS_cpI, hN_cpI, hR_cpI, g_Ie, g_In, g_Ij, g_Re, g_Rn, g_Rj, g_Cn, g_Ci, g_Co, add_m1, br_pos, br_neg, br_pos', br_neg', true_implies, false_implies, not_true_eq_false, r_if, im_pos, im_neg, and_true, true_and, s1]
    refine B_L_law_1386 ?_; simp (disch := omega) only [e_ICONST, e_LCONST, e_NULL, e_IADD, e_ISUB, e_IMUL, e_LADD, e_LSUB, e_LMUL, e_IAND, e_IOR, e_IXOR, e_ISHL, e_ISHR, e_IUSHR, e_LCMP, e_INEG, e_I2L, e_L2I, e_DUPi, e_DUPr, e_POPi, e_POPr, e_DUP2, e_GOTO, e_IFeq, e_IFne, e_IFlt, e_IFge, e_IFgt, e_IFle, e_ICeq, e_ICne, e_IClt, e_ICge, e_ICgt, e_ICle, e_NN, e_SW, wpB, r_ldI, r_ldL, r_ldA, r_ldAr, r_vqs, r_vqn, r_lgi, r_lgr, r_lgq, r_lgl, r_lgn, r_set0, r_set1, r_set2, r_sel0, r_sel1, r_sel2, r_wpL0, r_wpL1, r_app0, r_app1, r_ILOAD, r_LLOAD, r_ALOAD, r_IINC, r_ISTORE, r_ASTORE, r_ASTOREr, r_LSTORE, r_IDIV, r_IREM, r_LDIV, r_LREM, r_GETI, r_GETL, r_GETR, r_PUTI, r_PUTZ, r_PUTL, r_PUTR, r_PUTRr, r_PUTRn, r_IALD, r_LALD, r_ZALD, r_TALD, r_XALD, r_IAST, r_LAST, r_ZAST, r_TAST, r_TASTr, r_XAST, r_XASTr, r_ALEN, r_ALENL, r_NEW, r_NEWA, r_OBJI, r_MINI, r_MAXI, r_MINL, r_MAXL, r_STR, r_COPYI, r_IRET, r_LRET, r_ARET, r_VRET, r_ZRET, r_NNr, r_NNn, r_ARETr, r_ARETn, List.getElem?_cons_zero, List.getElem?_cons_succ, List.length_cons, List.length_nil, Bool.false_eq_true, if_false, if_true, Int.cast_ofNat_Int, Nat.sub_zero, true_and, and_true, wr_id, wl_id, Int.natCast_zero, Int.natCast_one, Nat.reduceAdd, Nat.reduceSub, Nat.reduceLT, Nat.reduceLeDiff, Nat.reduceEqDiff, Int.reduceNeg, Int.reduceLT, Int.reduceLE, Int.reduceNe, Int.reduceEq, Int.reduceAdd, Int.reduceSub, Int.reduceMul, Int.reduceToNat, ne_eq, not_false_eq_true, or_true, true_or, Nat.reduceMul, hS_sI, hS_sR, hN_sI, hN_sR, hR_sI, hI_sR, hS_cpI, hN_cpI, hR_cpI, g_Ie, g_In, g_Ij, g_Re, g_Rn, g_Rj, g_Cn, g_Ci, g_Co, add_m1, br_pos, br_neg, br_pos', br_neg', true_implies, false_implies, not_true_eq_false, r_if, im_pos, im_neg, and_true, true_and, s1]
    exact rfl
  | succ k ih =>
    intro i n h kc ks L i0 hl ib hn hc hs
    obtain ⟨s1, s3⟩ : hS h (gs G) = (100, gL G) ∧ ∀ j, hI h (gs G) j = sc j := by
      obtain ⟨τ, Λ, tp, tl, ob, rf, U, im, dr, C, M, g, ⟨s1, s2⟩, s3⟩ := L
      exact ⟨s1, s3⟩
    by_cases ci : i + 6 ≤ gL G
    · have sw := l_sw (Q := lwQ) (k := k) hgl hd (by omega) ⟨i0, ci⟩ L hc hs (fun kc' ks' h' hc' hs' L' => by
        have w := ih (i + 6) (n + 1) h' kc' ks' L' (by omega) (by omega) (by omega) (by omega) hc' hs'
        clear ih
        refine B_L_law_1380 ?_; simp (disch := omega) only [e_ICONST, e_LCONST, e_NULL, e_IADD, e_ISUB, e_IMUL, e_LADD, e_LSUB, e_LMUL, e_IAND, e_IOR, e_IXOR, e_ISHL, e_ISHR, e_IUSHR, e_LCMP, e_INEG, e_I2L, e_L2I, e_DUPi, e_DUPr, e_POPi, e_POPr, e_DUP2, e_GOTO, e_IFeq, e_IFne, e_IFlt, e_IFge, e_IFgt, e_IFle, e_ICeq, e_ICne, e_IClt, e_ICge, e_ICgt, e_ICle, e_NN, e_SW, wpB, r_ldI, r_ldL, r_ldA, r_ldAr, r_vqs, r_vqn, r_lgi, r_lgr, r_lgq, r_lgl, r_lgn, r_set0, r_set1, r_set2, r_sel0, r_sel1, r_sel2, r_wpL0, r_wpL1, r_app0, r_app1, r_ILOAD, r_LLOAD, r_ALOAD, r_IINC, r_ISTORE, r_ASTORE, r_ASTOREr, r_LSTORE, r_IDIV, r_IREM, r_LDIV, r_LREM, r_GETI, r_GETL, r_GETR, r_PUTI, r_PUTZ, r_PUTL, r_PUTR, r_PUTRr, r_PUTRn, r_IALD, r_LALD, r_ZALD, r_TALD, r_XALD, r_IAST, r_LAST, r_ZAST, r_TAST, r_TASTr, r_XAST, r_XASTr, r_ALEN, r_ALENL, r_NEW, r_NEWA, r_OBJI, r_MINI, r_MAXI, r_MINL, r_MAXL, r_STR, r_COPYI, r_IRET, r_LRET, r_ARET, r_VRET, r_ZRET, r_NNr, r_NNn, r_ARETr, r_ARETn, List.getElem?_cons_zero, List.getElem?_cons_succ, List.length_cons, List.length_nil, Bool.false_eq_true, if_false, if_true, Int.cast_ofNat_Int, Nat.sub_zero, true_and, and_true, wr_id, wl_id, Int.natCast_zero, Int.natCast_one, Nat.reduceAdd, Nat.reduceSub, Nat.reduceLT, Nat.reduceLeDiff, Nat.reduceEqDiff, Int.reduceNeg, Int.reduceLT, Int.reduceLE, Int.reduceNe, Int.reduceEq, Int.reduceAdd, Int.reduceSub, Int.reduceMul, Int.reduceToNat, ne_eq, not_false_eq_true, or_true, true_or, Nat.reduceMul, hS_sI, hS_sR, hN_sI, hN_sR, hR_sI, hI_sR, hS_cpI, hN_cpI, hR_cpI, g_Ie, g_In, g_Ij, g_Re, g_Rn, g_Rj, g_Cn, g_Ci, g_Co, add_m1, br_pos, br_neg, br_pos', br_neg', true_implies, false_implies, not_true_eq_false, r_if, im_pos, im_neg, and_true, true_and]
        exact w) (iand (sc i) 63) iand_63.1
      clear ih L
      generalize lwQ = Y at *
      refine B_L_law_18 hgl ?_; simp (disch := omega) only [e_ICONST, e_LCONST, e_NULL, e_IADD, e_ISUB, e_IMUL, e_LADD, e_LSUB, e_LMUL, e_IAND, e_IOR, e_IXOR, e_ISHL, e_ISHR, e_IUSHR, e_LCMP, e_INEG, e_I2L, e_L2I, e_DUPi, e_DUPr, e_POPi, e_POPr, e_DUP2, e_GOTO, e_IFeq, e_IFne, e_IFlt, e_IFge, e_IFgt, e_IFle, e_ICeq, e_ICne, e_IClt, e_ICge, e_ICgt, e_ICle, e_NN, e_SW, wpB, r_ldI, r_ldL, r_ldA, r_ldAr, r_vqs, r_vqn, r_lgi, r_lgr, r_lgq, r_lgl, r_lgn, r_set0, r_set1, r_set2, r_sel0, r_sel1, r_sel2, r_wpL0, r_wpL1, r_app0, r_app1, r_ILOAD, r_LLOAD, r_ALOAD, r_IINC, r_ISTORE, r_ASTORE, r_ASTOREr, r_LSTORE, r_IDIV, r_IREM, r_LDIV, r_LREM, r_GETI, r_GETL, r_GETR, r_PUTI, r_PUTZ, r_PUTL, r_PUTR, r_PUTRr, r_PUTRn, r_IALD, r_LALD, r_ZALD, r_TALD, r_XALD, r_IAST, r_LAST, r_ZAST, r_TAST, r_TASTr, r_XAST, r_XASTr, r_ALEN, r_ALENL, r_NEW, r_NEWA, r_OBJI, r_MINI, r_MAXI, r_MINL, r_MAXL, r_STR, r_COPYI, r_IRET, r_LRET, r_ARET, r_VRET, r_ZRET, r_NNr, r_NNn, r_ARETr, r_ARETn, List.getElem?_cons_zero, List.getElem?_cons_succ, List.length_cons, List.length_nil, Bool.false_eq_true, if_false, if_true, Int.cast_ofNat_Int, Nat.sub_zero, true_and, and_true, wr_id, wl_id, Int.natCast_zero, Int.natCast_one, Nat.reduceAdd, Nat.reduceSub, Nat.reduceLT, Nat.reduceLeDiff, Nat.reduceEqDiff, Int.reduceNeg, Int.reduceLT, Int.reduceLE, Int.reduceNe, Int.reduceEq, Int.reduceAdd, Int.reduceSub, Int.reduceMul, Int.reduceToNat, ne_eq, not_false_eq_true, or_true, true_or, Nat.reduceMul, hS_sI, hS_sR, hN_sI, hN_sR, hR_sI, hI_sR, hS_cpI, hN_cpI, hR_cpI, g_Ie, g_In, g_Ij, g_Re, g_Rn, g_Rj, g_Cn, g_Ci, g_Co, add_m1, br_pos, br_neg, br_pos', br_neg', true_implies, false_implies, not_true_eq_false, r_if, im_pos, im_neg, and_true, true_and, s1, s3]
      refine B_L_law_27 ?_; simp (disch := omega) only [e_ICONST, e_LCONST, e_NULL, e_IADD, e_ISUB, e_IMUL, e_LADD, e_LSUB, e_LMUL, e_IAND, e_IOR, e_IXOR, e_ISHL, e_ISHR, e_IUSHR, e_LCMP, e_INEG, e_I2L, e_L2I, e_DUPi, e_DUPr, e_POPi, e_POPr, e_DUP2, e_GOTO, e_IFeq, e_IFne, e_IFlt, e_IFge, e_IFgt, e_IFle, e_ICeq, e_ICne, e_IClt, e_ICge, e_ICgt, e_ICle, e_NN, e_SW, wpB, r_ldI, r_ldL, r_ldA, r_ldAr, r_vqs, r_vqn, r_lgi, r_lgr, r_lgq, r_lgl, r_lgn, r_set0, r_set1, r_set2, r_sel0, r_sel1, r_sel2, r_wpL0, r_wpL1, r_app0, r_app1, r_ILOAD, r_LLOAD, r_ALOAD, r_IINC, r_ISTORE, r_ASTORE, r_ASTOREr, r_LSTORE, r_IDIV, r_IREM, r_LDIV, r_LREM, r_GETI, r_GETL, r_GETR, r_PUTI, r_PUTZ, r_PUTL, r_PUTR, r_PUTRr, r_PUTRn, r_IALD, r_LALD, r_ZALD, r_TALD, r_XALD, r_IAST, r_LAST, r_ZAST, r_TAST, r_TASTr, r_XAST, r_XASTr, r_ALEN, r_ALENL, r_NEW, r_NEWA, r_OBJI, r_MINI, r_MAXI, r_MINL, r_MAXL, r_STR, r_COPYI, r_IRET, r_LRET, r_ARET, r_VRET, r_ZRET, r_NNr, r_NNn, r_ARETr, r_ARETn, List.getElem?_cons_zero, List.getElem?_cons_succ, List.length_cons, List.length_nil, Bool.false_eq_true, if_false, if_true, Int.cast_ofNat_Int, Nat.sub_zero, true_and, and_true, wr_id, wl_id, Int.natCast_zero, Int.natCast_one, Nat.reduceAdd, Nat.reduceSub, Nat.reduceLT, Nat.reduceLeDiff, Nat.reduceEqDiff, Int.reduceNeg, Int.reduceLT, Int.reduceLE, Int.reduceNe, Int.reduceEq, Int.reduceAdd, Int.reduceSub, Int.reduceMul, Int.reduceToNat, ne_eq, not_false_eq_true, or_true, true_or, Nat.reduceMul, hS_sI, hS_sR, hN_sI, hN_sR, hR_sI, hI_sR, hS_cpI, hN_cpI, hR_cpI, g_Ie, g_In, g_Ij, g_Re, g_Rn, g_Rj, g_Cn, g_Ci, g_Co, add_m1, br_pos, br_neg, br_pos', br_neg', true_implies, false_implies, not_true_eq_false, r_if, im_pos, im_neg, and_true, true_and, s1, s3]
      exact sw
    · clear ih L
      refine B_L_law_18 hgl ?_; simp (disch := omega) only [e_ICONST, e_LCONST, e_NULL, e_IADD, e_ISUB, e_IMUL, e_LADD, e_LSUB, e_LMUL, e_IAND, e_IOR, e_IXOR, e_ISHL, e_ISHR, e_IUSHR, e_LCMP, e_INEG, e_I2L, e_L2I, e_DUPi, e_DUPr, e_POPi, e_POPr, e_DUP2, e_GOTO, e_IFeq, e_IFne, e_IFlt, e_IFge, e_IFgt, e_IFle, e_ICeq, e_ICne, e_IClt, e_ICge, e_ICgt, e_ICle, e_NN, e_SW, wpB, r_ldI, r_ldL, r_ldA, r_ldAr, r_vqs, r_vqn, r_lgi, r_lgr, r_lgq, r_lgl, r_lgn, r_set0, r_set1, r_set2, r_sel0, r_sel1, r_sel2, r_wpL0, r_wpL1, r_app0, r_app1, r_ILOAD, r_LLOAD, r_ALOAD, r_IINC, r_ISTORE, r_ASTORE, r_ASTOREr, r_LSTORE, r_IDIV, r_IREM, r_LDIV, r_LREM, r_GETI, r_GETL, r_GETR, r_PUTI, r_PUTZ, r_PUTL, r_PUTR, r_PUTRr, r_PUTRn, r_IALD, r_LALD, r_ZALD, r_TALD, r_XALD, r_IAST, r_LAST, r_ZAST, r_TAST, r_TASTr, r_XAST, r_XASTr, r_ALEN, r_ALENL, r_NEW, r_NEWA, r_OBJI, r_MINI, r_MAXI, r_MINL, r_MAXL, r_STR, r_COPYI, r_IRET, r_LRET, r_ARET, r_VRET, r_ZRET, r_NNr, r_NNn, r_ARETr, r_ARETn, List.getElem?_cons_zero, List.getElem?_cons_succ, List.length_cons, List.length_nil, Bool.false_eq_true, if_false, if_true, Int.cast_ofNat_Int, Nat.sub_zero, true_and, and_true, wr_id, wl_id, Int.natCast_zero, Int.natCast_one, Nat.reduceAdd, Nat.reduceSub, Nat.reduceLT, Nat.reduceLeDiff, Nat.reduceEqDiff, Int.reduceNeg, Int.reduceLT, Int.reduceLE, Int.reduceNe, Int.reduceEq, Int.reduceAdd, Int.reduceSub, Int.reduceMul, Int.reduceToNat, ne_eq, not_false_eq_true, or_true, true_or, Nat.reduceMul, hS_sI, hS_sR, hN_sI, hN_sR, hR_sI, hI_sR, hS_cpI, hN_cpI, hR_cpI, g_Ie, g_In, g_Ij, g_Re, g_Rn, g_Rj, g_Cn, g_Ci, g_Co, add_m1, br_pos, br_neg, br_pos', br_neg', true_implies, false_implies, not_true_eq_false, r_if, im_pos, im_neg, and_true, true_and, s1]
      refine B_L_law_1386 ?_; simp (disch := omega) only [e_ICONST, e_LCONST, e_NULL, e_IADD, e_ISUB, e_IMUL, e_LADD, e_LSUB, e_LMUL, e_IAND, e_IOR, e_IXOR, e_ISHL, e_ISHR, e_IUSHR, e_LCMP, e_INEG, e_I2L, e_L2I, e_DUPi, e_DUPr, e_POPi, e_POPr, e_DUP2, e_GOTO, e_IFeq, e_IFne, e_IFlt, e_IFge, e_IFgt, e_IFle, e_ICeq, e_ICne, e_IClt, e_ICge, e_ICgt, e_ICle, e_NN, e_SW, wpB, r_ldI, r_ldL, r_ldA, r_ldAr, r_vqs, r_vqn, r_lgi, r_lgr, r_lgq, r_lgl, r_lgn, r_set0, r_set1, r_set2, r_sel0, r_sel1, r_sel2, r_wpL0, r_wpL1, r_app0, r_app1, r_ILOAD, r_LLOAD, r_ALOAD, r_IINC, r_ISTORE, r_ASTORE, r_ASTOREr, r_LSTORE, r_IDIV, r_IREM, r_LDIV, r_LREM, r_GETI, r_GETL, r_GETR, r_PUTI, r_PUTZ, r_PUTL, r_PUTR, r_PUTRr, r_PUTRn, r_IALD, r_LALD, r_ZALD, r_TALD, r_XALD, r_IAST, r_LAST, r_ZAST, r_TAST, r_TASTr, r_XAST, r_XASTr, r_ALEN, r_ALENL, r_NEW, r_NEWA, r_OBJI, r_MINI, r_MAXI, r_MINL, r_MAXL, r_STR, r_COPYI, r_IRET, r_LRET, r_ARET, r_VRET, r_ZRET, r_NNr, r_NNn, r_ARETr, r_ARETn, List.getElem?_cons_zero, List.getElem?_cons_succ, List.length_cons, List.length_nil, Bool.false_eq_true, if_false, if_true, Int.cast_ofNat_Int, Nat.sub_zero, true_and, and_true, wr_id, wl_id, Int.natCast_zero, Int.natCast_one, Nat.reduceAdd, Nat.reduceSub, Nat.reduceLT, Nat.reduceLeDiff, Nat.reduceEqDiff, Int.reduceNeg, Int.reduceLT, Int.reduceLE, Int.reduceNe, Int.reduceEq, Int.reduceAdd, Int.reduceSub, Int.reduceMul, Int.reduceToNat, ne_eq, not_false_eq_true, or_true, true_or, Nat.reduceMul, hS_sI, hS_sR, hN_sI, hN_sR, hR_sI, hI_sR, hS_cpI, hN_cpI, hR_cpI, g_Ie, g_In, g_Ij, g_Re, g_Rn, g_Rj, g_Cn, g_Ci, g_Co, add_m1, br_pos, br_neg, br_pos', br_neg', true_implies, false_implies, not_true_eq_false, r_if, im_pos, im_neg, and_true, true_and, s1]
      exact rfl
end
