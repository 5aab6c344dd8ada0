set_option maxRecDepth 100000 in
set_option maxHeartbeats 4000000 in
theorem v4_p3 {G : Nat → am_C} (hC : cl_L_law G) {w t a c : Nat} (w1 : 1 ≤ w) (hw9 : w < 9) (t1 : 1 ≤ t) (ht9 : t < 9) (ha : a + w < 12) (hc : c + t < 12) {E : am_E} {ca sl : Nat} (hN : ∀ (w12 w13 w14 w15 w16 w17 w18 w19 w20 w21 w22 w23 w24 w25 : Option Value), G 1822 [some (.retAddr 0), some (.ref 0), some (.ref 214), some (.int 1), some (.ref 227), some (.int (nI w)), some (.int (nI t)), some (.int (nI a)), some (.int (nI c)), some (.int (nI (v4_p w t))), some (.int (nI (v4_lw w t 14).1)), some (.int (nI (v4_lw w t 14).2)), w12, w13, w14, w15, w16, w17, w18, w19, w20, w21, w22, w23, w24, w25] [] 441 E ca sl) : ∀ (w13 w14 w15 w16 w17 w18 w19 w20 w21 w22 w23 w24 w25 : Option Value), G 1562 [some (.retAddr 0), some (.ref 0), some (.ref 214), some (.int 1), some (.ref 227), some (.int (nI w)), some (.int (nI t)), some (.int (nI a)), some (.int (nI c)), some (.int (nI (v4_p w t))), some (.int 0), some (.int 99), some (.int 0), w13, w14, w15, w16, w17, w18, w19, w20, w21, w22, w23, w24, w25] [] 441 E ca sl := by
  have loop := am_for (fun k => ∀ (w13 w14 w15 w16 w17 w18 w19 w20 w21 w22 w23 w24 w25 : Option Value), G 1562 [some (.retAddr 0), some (.ref 0), some (.ref 214), some (.int 1), some (.ref 227), some (.int (nI w)), some (.int (nI t)), some (.int (nI a)), some (.int (nI c)), some (.int (nI (v4_p w t))), some (.int (nI (v4_lw w t k).1)), some (.int (nI (v4_lw w t k).2)), some (.int (nI k)), w13, w14, w15, w16, w17, w18, w19, w20, w21, w22, w23, w24, w25] [] 441 E ca sl) 14 (by
    intro w13 w14 w15 w16 w17 w18 w19 w20 w21 w22 w23 w24 w25
    apply hC.2.2.2.2.2.2.2.2.2.2.2.2.2.2.2.2.2.2.2.2.2.2.2.2.2.2.2.2.2.2.2.2.2.2.2.2.2.2.2.2.2.2.2.2.2.2.2.2.2.2.2.2.2.2.2.2.2.2.2.2.2.2.1
    simp only [bk_L_law_1562, o_pi, o_pl, o_pf, o_pd, o_iload, o_lload, o_fload, o_dload, o_aload, o_istore, o_lstore, o_fstore, o_dstore, o_astore, o_iinc, o_ib, o_ibz, o_lb, o_lbz, o_lsh, o_lcmp, o_ineg, o_i2l, o_l2i, o_i2c, o_i2f, o_i2d, o_f2d, o_fdiv, o_ddiv, o_fcmp, o_dcmp, o_dup, o_dup2, o_pop, o_pop2, o_if_eq, o_if_ne, o_if_lt, o_if_ge, o_if_gt, o_if_le, o_ic_eq, o_ic_ne, o_ic_lt, o_ic_ge, o_ic_gt, o_ic_le, o_if, o_ic, o_getf, o_putf, o_ild, o_ist, o_lld, o_lst, o_dld, o_dst, o_ald, o_alen, o_new, o_newa, o_ast, o_oinit, o_iret, o_lret, o_fret, o_dret, o_aret, o_vret, o_throw, o_call, o_callV, am_kc, am_noX, o_im, o_ia, o_gets, o_ldcK, o_getK, o_codK, o_lenK, o_bldK, o_i2b, o_callK, o_mna, o_clone, o_castA, am_s1, am_s2, am_kill, am_inl, am_sl, Value.category, List.getElem?_cons_zero, List.getElem?_cons_succ, List.set_cons_zero, List.set_cons_succ, List.length_cons, List.length_nil, List.take_succ_cons, List.take_zero, List.drop_succ_cons, List.drop_zero, List.reverse_cons, List.reverse_nil, List.nil_append, List.cons_append, List.append_nil, List.map_cons, List.map_nil, List.sum_cons, List.sum_nil, List.replicate_succ, List.replicate_zero, Nat.zero_add, Nat.add_zero, Nat.le_refl, Nat.zero_le, ite_true, ite_false, if_true, if_false, true_and, and_true, eq_self, not_true_eq_false, not_false_eq_true, am_nb0, am_nb1, am_ni, am_fi, am_fr, am_fra, am_fz0, am_fz1, am_fl, am_uE, am_vnI, am_uu, am_ltx, ite_not, Classical.not_not, reduceIte, reduceCtorEq, Nat.reduceEqDiff, Nat.reduceAdd, Nat.reduceSub, Nat.reduceMul, Nat.reduceLeDiff, Nat.reduceLT, Int32.reduceLE, Int32.reduceLT, am_10, am_01, am_ite0, am_ite1, ms_boT, ms_boF, o_lend, rmc_L_law, rms_L_law, show ((14 : Int32) ≤ nI 14) = True from eq_true (by decide)]
    exact hN _ _ _ _ _ _ _ _ _ _ _ _ _ _) (fun k hk hn w13 w14 w15 w16 w17 w18 w19 w20 w21 w22 w23 w24 w25 => by
    apply hC.2.2.2.2.2.2.2.2.2.2.2.2.2.2.2.2.2.2.2.2.2.2.2.2.2.2.2.2.2.2.2.2.2.2.2.2.2.2.2.2.2.2.2.2.2.2.2.2.2.2.2.2.2.2.2.2.2.2.2.2.2.2.1
    simp only [bk_L_law_1562, o_pi, o_pl, o_pf, o_pd, o_iload, o_lload, o_fload, o_dload, o_aload, o_istore, o_lstore, o_fstore, o_dstore, o_astore, o_iinc, o_ib, o_ibz, o_lb, o_lbz, o_lsh, o_lcmp, o_ineg, o_i2l, o_l2i, o_i2c, o_i2f, o_i2d, o_f2d, o_fdiv, o_ddiv, o_fcmp, o_dcmp, o_dup, o_dup2, o_pop, o_pop2, o_if_eq, o_if_ne, o_if_lt, o_if_ge, o_if_gt, o_if_le, o_ic_eq, o_ic_ne, o_ic_lt, o_ic_ge, o_ic_gt, o_ic_le, o_if, o_ic, o_getf, o_putf, o_ild, o_ist, o_lld, o_lst, o_dld, o_dst, o_ald, o_alen, o_new, o_newa, o_ast, o_oinit, o_iret, o_lret, o_fret, o_dret, o_aret, o_vret, o_throw, o_call, o_callV, am_kc, am_noX, o_im, o_ia, o_gets, o_ldcK, o_getK, o_codK, o_lenK, o_bldK, o_i2b, o_callK, o_mna, o_clone, o_castA, am_s1, am_s2, am_kill, am_inl, am_sl, Value.category, List.getElem?_cons_zero, List.getElem?_cons_succ, List.set_cons_zero, List.set_cons_succ, List.length_cons, List.length_nil, List.take_succ_cons, List.take_zero, List.drop_succ_cons, List.drop_zero, List.reverse_cons, List.reverse_nil, List.nil_append, List.cons_append, List.append_nil, List.map_cons, List.map_nil, List.sum_cons, List.sum_nil, List.replicate_succ, List.replicate_zero, Nat.zero_add, Nat.add_zero, Nat.le_refl, Nat.zero_le, ite_true, ite_false, if_true, if_false, true_and, and_true, eq_self, not_true_eq_false, not_false_eq_true, am_nb0, am_nb1, am_ni, am_fi, am_fr, am_fra, am_fz0, am_fz1, am_fl, am_uE, am_vnI, am_uu, am_ltx, ite_not, Classical.not_not, reduceIte, reduceCtorEq, Nat.reduceEqDiff, Nat.reduceAdd, Nat.reduceSub, Nat.reduceMul, Nat.reduceLeDiff, Nat.reduceLT, Int32.reduceLE, Int32.reduceLT, am_10, am_01, am_ite0, am_ite1, ms_boT, ms_boF, o_lend, rmc_L_law, rms_L_law, show ((14 : Int32) ≤ nI (k)) = False from am_nge (show k < 14 by omega) (by decide)]
    obtain ⟨b1, b2⟩ := v4_lwb hw9 ht9 k
    have hs : v4_lw w t (k + 1) = v4_ls w t k (v4_lw w t k) := rfl
    rw [hs] at hn
    generalize v4_lw w t k = b at hn b1 b2 ⊢
    obtain ⟨x, m⟩ := b
    by_cases h7 : k < 7
    · refine v4_ld1 hC w1 hw9 t1 ht9 ha hc b1 b2 h7 (fun hy => ?_) (fun hz => ?_) w13 w14 w15 w16 w17 w18 w19 w20 w21 w22 w23 w24 w25
      · have e : v4_ls w t k (x, m) = ((w - (1 + k % 7)) * t, t) := by
          rw [v4_lsq, if_pos h7, if_pos hy]
        rw [e] at hn
        exact hn
      · have e : v4_ls w t k (x, m) = (x, m) := by
          rw [v4_lsq, if_pos h7, if_neg hz]
        rw [e] at hn
        exact hn
    · refine v4_ld0 hC w1 hw9 t1 ht9 ha hc b1 b2 ⟨by omega, hk⟩ (fun hy => ?_) (fun hz => ?_) w13 w14 w15 w16 w17 w18 w19 w20 w21 w22 w23 w24 w25
      · have e : v4_ls w t k (x, m) = (w * (t - (1 + k % 7)), w) := by
          rw [v4_lsq, if_neg h7, if_pos hy]
        rw [e] at hn
        exact hn
      · have e : v4_ls w t k (x, m) = (x, m) := by
          rw [v4_lsq, if_neg h7, if_neg hz]
        rw [e] at hn
        exact hn)
  intro w13 w14 w15 w16 w17 w18 w19 w20 w21 w22 w23 w24 w25
  exact loop 0 (by decide) _ _ _ _ _ _ _ _ _ _ _ _ _
