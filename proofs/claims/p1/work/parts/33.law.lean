theorem lw_hs {b : Nat} {E E' : am_E} {σ : am_St} (h : am_HS b E σ) (he : ∀ k, b ≤ k → k < b + 214 → E' k = E k) : am_HS b E' σ := by
  obtain ⟨τ, w, u, h1, h2, h3, h4⟩ := h
  exact ⟨τ, w, u, h1, h2, h3, fun k hk => by rw [he _ (by omega) (by omega)]; exact h4 k hk⟩
theorem lw_fin {L : Nat} {xs : Nat → Int32} {G : Nat → am_C} (hL : L = 6) (h28 : am_imp (bk_L_law_28 L xs G) (G 28)) (h2566 : am_imp (bk_L_law_2566 L xs G) (G 2566)) : lw_F G := by
  intro l6 l7 n E ca sl
  subst hL
  have a6 : (0 : Int32) + 6 = 6 := by decide
  have s6 : nI 6 - 6 = 0 := by decide
  have r6 : ((0 : Int32) < 6) = True := eq_true (by decide)
  apply h2566
  unfold bk_L_law_2566
  simp only [o_pi, o_pl, o_pf, o_pd, o_iload, o_lload, o_fload, o_dload, o_aload, o_istore, o_lstore, o_fstore, o_dstore, o_astore, o_iinc, o_ib, o_ibz, o_lb, o_lbz, o_lsh, o_lcmp, o_ineg, o_i2l, o_l2i, o_i2c, o_i2f, o_i2d, o_f2d, o_fdiv, o_ddiv, o_fcmp, o_dcmp, o_dup, o_dup2, o_pop, o_if_eq, o_if_ne, o_if_lt, o_if_ge, o_if_gt, o_if_le, o_ic_eq, o_ic_ne, o_ic_lt, o_ic_ge, o_ic_gt, o_ic_le, o_if, o_ic, o_getf, o_putf, o_ild, o_ist, o_lld, o_lst, o_dld, o_dst, o_ald, o_alen, o_new, o_newa, o_ast, o_oinit, o_iret, o_lret, o_fret, o_dret, o_aret, o_vret, o_throw, o_call, o_callV, am_kc, am_noX, o_im, o_ia, o_gets, o_ldcK, o_getK, o_codK, o_lenK, o_bldK, o_i2b, o_callK, o_mna, am_s1, am_s2, am_kill, am_inl, am_sl, Value.category, List.getElem?_cons_zero, List.getElem?_cons_succ, List.set_cons_zero, List.set_cons_succ, List.length_cons, List.length_nil, List.take_succ_cons, List.take_zero, List.drop_succ_cons, List.drop_zero, List.reverse_cons, List.reverse_nil, List.nil_append, List.cons_append, List.append_nil, List.map_cons, List.map_nil, List.sum_cons, List.sum_nil, List.replicate_succ, List.replicate_zero, Nat.zero_add, Nat.add_zero, Nat.le_refl, Nat.zero_le, ite_true, ite_false, if_true, if_false, true_and, and_true, eq_self, not_true_eq_false, not_false_eq_true, am_nb0, am_nb1, am_ni, am_fi, am_fr, am_fra, am_fz0, am_fz1, am_fl, am_uE, am_vnI, am_uu, am_ltx, ite_not, Classical.not_not, reduceIte, reduceCtorEq, Nat.reduceEqDiff, Nat.reduceAdd, Nat.reduceSub, Nat.reduceMul, Nat.reduceLeDiff, Nat.reduceLT, Int32.reduceLE, Int32.reduceLT, am_10, am_01, am_ite0, am_ite1, ms_boT, ms_boF, rmc_L_law, rms_L_law, lw_LL, o_slen, o_sld, o_lend, a6]
  apply h28
  unfold bk_L_law_28
  simp only [o_pi, o_pl, o_pf, o_pd, o_iload, o_lload, o_fload, o_dload, o_aload, o_istore, o_lstore, o_fstore, o_dstore, o_astore, o_iinc, o_ib, o_ibz, o_lb, o_lbz, o_lsh, o_lcmp, o_ineg, o_i2l, o_l2i, o_i2c, o_i2f, o_i2d, o_f2d, o_fdiv, o_ddiv, o_fcmp, o_dcmp, o_dup, o_dup2, o_pop, o_if_eq, o_if_ne, o_if_lt, o_if_ge, o_if_gt, o_if_le, o_ic_eq, o_ic_ne, o_ic_lt, o_ic_ge, o_ic_gt, o_ic_le, o_if, o_ic, o_getf, o_putf, o_ild, o_ist, o_lld, o_lst, o_dld, o_dst, o_ald, o_alen, o_new, o_newa, o_ast, o_oinit, o_iret, o_lret, o_fret, o_dret, o_aret, o_vret, o_throw, o_call, o_callV, am_kc, am_noX, o_im, o_ia, o_gets, o_ldcK, o_getK, o_codK, o_lenK, o_bldK, o_i2b, o_callK, o_mna, am_s1, am_s2, am_kill, am_inl, am_sl, Value.category, List.getElem?_cons_zero, List.getElem?_cons_succ, List.set_cons_zero, List.set_cons_succ, List.length_cons, List.length_nil, List.take_succ_cons, List.take_zero, List.drop_succ_cons, List.drop_zero, List.reverse_cons, List.reverse_nil, List.nil_append, List.cons_append, List.append_nil, List.map_cons, List.map_nil, List.sum_cons, List.sum_nil, List.replicate_succ, List.replicate_zero, Nat.zero_add, Nat.add_zero, Nat.le_refl, Nat.zero_le, ite_true, ite_false, if_true, if_false, true_and, and_true, eq_self, not_true_eq_false, not_false_eq_true, am_nb0, am_nb1, am_ni, am_fi, am_fr, am_fra, am_fz0, am_fz1, am_fl, am_uE, am_vnI, am_uu, am_ltx, ite_not, Classical.not_not, reduceIte, reduceCtorEq, Nat.reduceEqDiff, Nat.reduceAdd, Nat.reduceSub, Nat.reduceMul, Nat.reduceLeDiff, Nat.reduceLT, Int32.reduceLE, Int32.reduceLT, am_10, am_01, am_ite0, am_ite1, ms_boT, ms_boF, rmc_L_law, rms_L_law, lw_LL, o_slen, o_sld, o_lend, s6, r6]
theorem lw_lt6 : ∀ L, L < 6 → nI L - 6 < (0 : Int32) := by decide
set_option maxRecDepth 100000 in
set_option maxHeartbeats 4000000 in
theorem f_law {L : Nat} {xs : Nat → Int32} {G : Nat → am_C} (hL : L ≤ 6) (h0 : am_imp (bk_L_law_0 L xs G) (G 0)) (h28 : am_imp (bk_L_law_28 L xs G) (G 28)) (h232 : am_imp (bk_L_law_232 L xs G) (G 232)) (h271 : am_imp (bk_L_law_271 L xs G) (G 271)) (h352 : am_imp (bk_L_law_352 L xs G) (G 352)) (h456 : am_imp (bk_L_law_456 L xs G) (G 456)) (h524 : am_imp (bk_L_law_524 L xs G) (G 524)) (h580 : am_imp (bk_L_law_580 L xs G) (G 580)) (h636 : am_imp (bk_L_law_636 L xs G) (G 636)) (h692 : am_imp (bk_L_law_692 L xs G) (G 692)) (h748 : am_imp (bk_L_law_748 L xs G) (G 748)) (h804 : am_imp (bk_L_law_804 L xs G) (G 804)) (h817 : am_imp (bk_L_law_817 L xs G) (G 817)) (h830 : am_imp (bk_L_law_830 L xs G) (G 830)) (h924 : am_imp (bk_L_law_924 L xs G) (G 924)) (h980 : am_imp (bk_L_law_980 L xs G) (G 980)) (h1069 : am_imp (bk_L_law_1069 L xs G) (G 1069)) (h1096 : am_imp (bk_L_law_1096 L xs G) (G 1096)) (h1172 : am_imp (bk_L_law_1172 L xs G) (G 1172)) (h1228 : am_imp (bk_L_law_1228 L xs G) (G 1228)) (h1284 : am_imp (bk_L_law_1284 L xs G) (G 1284)) (h1354 : am_imp (bk_L_law_1354 L xs G) (G 1354)) (h1422 : am_imp (bk_L_law_1422 L xs G) (G 1422)) (h1492 : am_imp (bk_L_law_1492 L xs G) (G 1492)) (h1548 : am_imp (bk_L_law_1548 L xs G) (G 1548)) (h1561 : am_imp (bk_L_law_1561 L xs G) (G 1561)) (h1605 : am_imp (bk_L_law_1605 L xs G) (G 1605)) (h1649 : am_imp (bk_L_law_1649 L xs G) (G 1649)) (h1693 : am_imp (bk_L_law_1693 L xs G) (G 1693)) (h1706 : am_imp (bk_L_law_1706 L xs G) (G 1706)) (h1727 : am_imp (bk_L_law_1727 L xs G) (G 1727)) (h1797 : am_imp (bk_L_law_1797 L xs G) (G 1797)) (h1853 : am_imp (bk_L_law_1853 L xs G) (G 1853)) (h1909 : am_imp (bk_L_law_1909 L xs G) (G 1909)) (h1922 : am_imp (bk_L_law_1922 L xs G) (G 1922)) (h1935 : am_imp (bk_L_law_1935 L xs G) (G 1935)) (h1991 : am_imp (bk_L_law_1991 L xs G) (G 1991)) (h2071 : am_imp (bk_L_law_2071 L xs G) (G 2071)) (h2146 : am_imp (bk_L_law_2146 L xs G) (G 2146)) (h2202 : am_imp (bk_L_law_2202 L xs G) (G 2202)) (h2270 : am_imp (bk_L_law_2270 L xs G) (G 2270)) (h2326 : am_imp (bk_L_law_2326 L xs G) (G 2326)) (h2339 : am_imp (bk_L_law_2339 L xs G) (G 2339)) (h2395 : am_imp (bk_L_law_2395 L xs G) (G 2395)) (h2408 : am_imp (bk_L_law_2408 L xs G) (G 2408)) (h2422 : am_imp (bk_L_law_2422 L xs G) (G 2422)) (h2488 : am_imp (bk_L_law_2488 L xs G) (G 2488)) (h2553 : am_imp (bk_L_law_2553 L xs G) (G 2553)) (h2566 : am_imp (bk_L_law_2566 L xs G) (G 2566)) : G 0 (am_inl 9 [.retAddr 0]) [] 0 (fun _ => none) 0 0 := by
  have c1 : Int32.toNatClampNeg 1 = 1 := rfl
  have n1 : ¬ (1 : Int32) < 0 := by decide
  have c0 : Int32.toNatClampNeg 0 = 0 := rfl
  apply h0
  unfold bk_L_law_0
  simp only [o_pi, o_pl, o_pf, o_pd, o_iload, o_lload, o_fload, o_dload, o_aload, o_istore, o_lstore, o_fstore, o_dstore, o_astore, o_iinc, o_ib, o_ibz, o_lb, o_lbz, o_lsh, o_lcmp, o_ineg, o_i2l, o_l2i, o_i2c, o_i2f, o_i2d, o_f2d, o_fdiv, o_ddiv, o_fcmp, o_dcmp, o_dup, o_dup2, o_pop, o_if_eq, o_if_ne, o_if_lt, o_if_ge, o_if_gt, o_if_le, o_ic_eq, o_ic_ne, o_ic_lt, o_ic_ge, o_ic_gt, o_ic_le, o_if, o_ic, o_getf, o_putf, o_ild, o_ist, o_lld, o_lst, o_dld, o_dst, o_ald, o_alen, o_new, o_newa, o_ast, o_oinit, o_iret, o_lret, o_fret, o_dret, o_aret, o_vret, o_throw, o_call, o_callV, am_kc, am_noX, o_im, o_ia, o_gets, o_ldcK, o_getK, o_codK, o_lenK, o_bldK, o_i2b, o_callK, o_mna, am_s1, am_s2, am_kill, am_inl, am_sl, Value.category, List.getElem?_cons_zero, List.getElem?_cons_succ, List.set_cons_zero, List.set_cons_succ, List.length_cons, List.length_nil, List.take_succ_cons, List.take_zero, List.drop_succ_cons, List.drop_zero, List.reverse_cons, List.reverse_nil, List.nil_append, List.cons_append, List.append_nil, List.map_cons, List.map_nil, List.sum_cons, List.sum_nil, List.replicate_succ, List.replicate_zero, Nat.zero_add, Nat.add_zero, Nat.le_refl, Nat.zero_le, ite_true, ite_false, if_true, if_false, true_and, and_true, eq_self, not_true_eq_false, not_false_eq_true, am_nb0, am_nb1, am_ni, am_fi, am_fr, am_fra, am_fz0, am_fz1, am_fl, am_uE, am_vnI, am_uu, am_ltx, ite_not, Classical.not_not, reduceIte, reduceCtorEq, Nat.reduceEqDiff, Nat.reduceAdd, Nat.reduceSub, Nat.reduceMul, Nat.reduceLeDiff, Nat.reduceLT, Int32.reduceLE, Int32.reduceLT, am_10, am_01, am_ite0, am_ite1, ms_boT, ms_boF, rmc_L_law, rms_L_law, lw_LL, o_slen, o_sld, o_lend, rmc_X7_init, rms_X7_init, c1]
  refine ⟨0, rfl, rfl, am_uE, fun E1 hH1 hk1 => ?_⟩
  show am_kc _ _ _ _ _ _ (.inl none) 214 E1
  simp only [o_pi, o_pl, o_pf, o_pd, o_iload, o_lload, o_fload, o_dload, o_aload, o_istore, o_lstore, o_fstore, o_dstore, o_astore, o_iinc, o_ib, o_ibz, o_lb, o_lbz, o_lsh, o_lcmp, o_ineg, o_i2l, o_l2i, o_i2c, o_i2f, o_i2d, o_f2d, o_fdiv, o_ddiv, o_fcmp, o_dcmp, o_dup, o_dup2, o_pop, o_if_eq, o_if_ne, o_if_lt, o_if_ge, o_if_gt, o_if_le, o_ic_eq, o_ic_ne, o_ic_lt, o_ic_ge, o_ic_gt, o_ic_le, o_if, o_ic, o_getf, o_putf, o_ild, o_ist, o_lld, o_lst, o_dld, o_dst, o_ald, o_alen, o_new, o_newa, o_ast, o_oinit, o_iret, o_lret, o_fret, o_dret, o_aret, o_vret, o_throw, o_call, o_callV, am_kc, am_noX, o_im, o_ia, o_gets, o_ldcK, o_getK, o_codK, o_lenK, o_bldK, o_i2b, o_callK, o_mna, am_s1, am_s2, am_kill, am_inl, am_sl, Value.category, List.getElem?_cons_zero, List.getElem?_cons_succ, List.set_cons_zero, List.set_cons_succ, List.length_cons, List.length_nil, List.take_succ_cons, List.take_zero, List.drop_succ_cons, List.drop_zero, List.reverse_cons, List.reverse_nil, List.nil_append, List.cons_append, List.append_nil, List.map_cons, List.map_nil, List.sum_cons, List.sum_nil, List.replicate_succ, List.replicate_zero, Nat.zero_add, Nat.add_zero, Nat.le_refl, Nat.zero_le, ite_true, ite_false, if_true, if_false, true_and, and_true, eq_self, not_true_eq_false, not_false_eq_true, am_nb0, am_nb1, am_ni, am_fi, am_fr, am_fra, am_fz0, am_fz1, am_fl, am_uE, am_vnI, am_uu, am_ltx, ite_not, Classical.not_not, reduceIte, reduceCtorEq, Nat.reduceEqDiff, Nat.reduceAdd, Nat.reduceSub, Nat.reduceMul, Nat.reduceLeDiff, Nat.reduceLT, Int32.reduceLE, Int32.reduceLT, am_10, am_01, am_ite0, am_ite1, ms_boT, ms_boF, rmc_L_law, rms_L_law, lw_LL, o_slen, o_sld, o_lend, rmc_X8_init, rms_X8_init, c1]
  refine ⟨214, rfl, rfl, am_uE, fun E2 hM2 hk2 => ?_⟩
  show am_kc _ _ _ _ _ _ (.inl none) 335 E2
  simp only [o_pi, o_pl, o_pf, o_pd, o_iload, o_lload, o_fload, o_dload, o_aload, o_istore, o_lstore, o_fstore, o_dstore, o_astore, o_iinc, o_ib, o_ibz, o_lb, o_lbz, o_lsh, o_lcmp, o_ineg, o_i2l, o_l2i, o_i2c, o_i2f, o_i2d, o_f2d, o_fdiv, o_ddiv, o_fcmp, o_dcmp, o_dup, o_dup2, o_pop, o_if_eq, o_if_ne, o_if_lt, o_if_ge, o_if_gt, o_if_le, o_ic_eq, o_ic_ne, o_ic_lt, o_ic_ge, o_ic_gt, o_ic_le, o_if, o_ic, o_getf, o_putf, o_ild, o_ist, o_lld, o_lst, o_dld, o_dst, o_ald, o_alen, o_new, o_newa, o_ast, o_oinit, o_iret, o_lret, o_fret, o_dret, o_aret, o_vret, o_throw, o_call, o_callV, am_kc, am_noX, o_im, o_ia, o_gets, o_ldcK, o_getK, o_codK, o_lenK, o_bldK, o_i2b, o_callK, o_mna, am_s1, am_s2, am_kill, am_inl, am_sl, Value.category, List.getElem?_cons_zero, List.getElem?_cons_succ, List.set_cons_zero, List.set_cons_succ, List.length_cons, List.length_nil, List.take_succ_cons, List.take_zero, List.drop_succ_cons, List.drop_zero, List.reverse_cons, List.reverse_nil, List.nil_append, List.cons_append, List.append_nil, List.map_cons, List.map_nil, List.sum_cons, List.sum_nil, List.replicate_succ, List.replicate_zero, Nat.zero_add, Nat.add_zero, Nat.le_refl, Nat.zero_le, ite_true, ite_false, if_true, if_false, true_and, and_true, eq_self, not_true_eq_false, not_false_eq_true, am_nb0, am_nb1, am_ni, am_fi, am_fr, am_fra, am_fz0, am_fz1, am_fl, am_uE, am_vnI, am_uu, am_ltx, ite_not, Classical.not_not, reduceIte, reduceCtorEq, Nat.reduceEqDiff, Nat.reduceAdd, Nat.reduceSub, Nat.reduceMul, Nat.reduceLeDiff, Nat.reduceLT, Int32.reduceLE, Int32.reduceLT, am_10, am_01, am_ite0, am_ite1, ms_boT, ms_boF, rmc_L_law, rms_L_law, lw_LL, o_slen, o_sld, o_lend, c1, n1, am_z]
  obtain ⟨lm, lk, lf, hM⟩ := hM2
  have hE : ∀ e, lw_S (am_u (am_u E2 335 (.inl (1, 1, .inr (.inl (fun _ => 0))))) 336 (.inl (4, 1, .inr (.inr (.inr (.inl e)))))) := fun e => ⟨lw_hs hH1 (fun k h1 h2 => by
      rw [am_uN (by omega), am_uN (by omega), hk2 k (by omega), am_uN (by omega)]), ⟨lm, lk, lf, lw_mt hM (fun k h1 h2 => by
      rw [am_uN (by omega), am_uN (by omega)])⟩, ⟨_, by rw [am_uN (by decide)]; exact am_uE⟩, ⟨_, am_uE⟩⟩
  have hE := hE (fun _ => 0)
  generalize am_u (am_u E2 335 (.inl (1, 1, .inr (.inl (fun _ => 0))))) 336 (.inl (4, 1, .inr (.inr (.inr (.inl (fun _ => 0)))))) = E3 at hE ⊢
  show G 28 (lw_LL none none) [] 337 E3 337 63960
  by_cases hl : L = 6
  · have hF := lw_fin hl h28 h2566
    apply h28
    unfold bk_L_law_28
    have s6 : nI L - 6 = 0 := by subst hl; decide
    have v0 : vp_in 0 L := vp_in_nI (n := 0) (by omega) (by omega)
    have r0 : ((0 : Int32) < 0) = False := eq_false (by decide)
    simp only [o_pi, o_pl, o_pf, o_pd, o_iload, o_lload, o_fload, o_dload, o_aload, o_istore, o_lstore, o_fstore, o_dstore, o_astore, o_iinc, o_ib, o_ibz, o_lb, o_lbz, o_lsh, o_lcmp, o_ineg, o_i2l, o_l2i, o_i2c, o_i2f, o_i2d, o_f2d, o_fdiv, o_ddiv, o_fcmp, o_dcmp, o_dup, o_dup2, o_pop, o_if_eq, o_if_ne, o_if_lt, o_if_ge, o_if_gt, o_if_le, o_ic_eq, o_ic_ne, o_ic_lt, o_ic_ge, o_ic_gt, o_ic_le, o_if, o_ic, o_getf, o_putf, o_ild, o_ist, o_lld, o_lst, o_dld, o_dst, o_ald, o_alen, o_new, o_newa, o_ast, o_oinit, o_iret, o_lret, o_fret, o_dret, o_aret, o_vret, o_throw, o_call, o_callV, am_kc, am_noX, o_im, o_ia, o_gets, o_ldcK, o_getK, o_codK, o_lenK, o_bldK, o_i2b, o_callK, o_mna, am_s1, am_s2, am_kill, am_inl, am_sl, Value.category, List.getElem?_cons_zero, List.getElem?_cons_succ, List.set_cons_zero, List.set_cons_succ, List.length_cons, List.length_nil, List.take_succ_cons, List.take_zero, List.drop_succ_cons, List.drop_zero, List.reverse_cons, List.reverse_nil, List.nil_append, List.cons_append, List.append_nil, List.map_cons, List.map_nil, List.sum_cons, List.sum_nil, List.replicate_succ, List.replicate_zero, Nat.zero_add, Nat.add_zero, Nat.le_refl, Nat.zero_le, ite_true, ite_false, if_true, if_false, true_and, and_true, eq_self, not_true_eq_false, not_false_eq_true, am_nb0, am_nb1, am_ni, am_fi, am_fr, am_fra, am_fz0, am_fz1, am_fl, am_uE, am_vnI, am_uu, am_ltx, ite_not, Classical.not_not, reduceIte, reduceCtorEq, Nat.reduceEqDiff, Nat.reduceAdd, Nat.reduceSub, Nat.reduceMul, Nat.reduceLeDiff, Nat.reduceLT, Int32.reduceLE, Int32.reduceLT, am_10, am_01, am_ite0, am_ite1, ms_boT, ms_boF, rmc_L_law, rms_L_law, lw_LL, o_slen, o_sld, o_lend, s6, v0, c0, r0]
    refine ⟨fun hy => ?_, fun _ => hF _ _ _ _ _ _⟩
    have hj : (xs 0 &&& 63).toNatClampNeg < 43 := hy.2
    generalize (xs 0 &&& 63).toNatClampNeg = j at hj ⊢
    match j, hj with
    | 0, _ => exact cs_open hl h232 h271 hF hE
    | 1, _ => exact cs_lay hl h352 hF hE
    | 2, _ => exact cs_pieceAt hl h456 hF hE
    | 3, _ => exact cs_size hl h524 hF hE
    | 4, _ => exact cs_corners hl h580 hF hE
    | 5, _ => exact cs_point hl h636 hF hE
    | 6, _ => exact cs_hinders hl h692 hF hE
    | 7, _ => exact cs_split hl h748 hF hE
    | 8, _ => exact cs_lead hl h804 hF hE
    | 9, _ => exact cs_joints hl h817 hF hE
    | 10, _ => exact cs_sheet hl h830 hF hE
    | 11, _ => exact cs_free hl h924 hF hE
    | 12, _ => exact cs_want hl h980 hF hE
    | 13, _ => exact cs_cut hl h1069 h1096 hF hE
    | 14, _ => exact cs_glass hl h1172 hF hE
    | 15, _ => exact cs_colour hl h1228 hF hE
    | 16, _ => exact cs_paint hl h1284 hF hE
    | 17, _ => exact cs_fire hl h1354 hF hE
    | 18, _ => exact cs_layers hl h1422 hF hE
    | 19, _ => exact cs_seed hl h1492 hF hE
    | 20, _ => exact cs_isOrderly hl h1548 hF hE
    | 21, _ => exact cs_next hl h1561 hF hE
    | 22, _ => exact cs_comes hl h1605 hF hE
    | 23, _ => exact cs_solder hl h1649 hF hE
    | 24, _ => exact cs_isUp hl h1693 hF hE
    | 25, _ => exact cs_bar hl h1706 h1727 hF hE
    | 26, _ => exact cs_profile hl h1797 hF hE
    | 27, _ => exact cs_wind hl h1853 hF hE
    | 28, _ => exact cs_bears hl h1909 hF hE
    | 29, _ => exact cs_stands hl h1922 hF hE
    | 30, _ => exact cs_years hl h1935 hF hE
    | 31, _ => exact cs_looks hl h1991 hF hE
    | 32, _ => exact cs_hit hl h2071 hF hE
    | 33, _ => exact cs_mend hl h2146 hF hE
    | 34, _ => exact cs_stopgap hl h2202 hF hE
    | 35, _ => exact cs_year hl h2270 hF hE
    | 36, _ => exact cs_hands hl h2326 hF hE
    | 37, _ => exact cs_fits hl h2339 hF hE
    | 38, _ => exact cs_price hl h2395 hF hE
    | 39, _ => exact cs_checksum hl h2408 hF hE
    | 40, _ => exact cs_litShare hl h2422 hF hE
    | 41, _ => exact cs_meanCells hl h2488 hF hE
    | 42, _ => exact cs_isSound hl h2553 hF hE
    | j + 43, hj => exact absurd hj (by omega)
  · have hlt : nI L - 6 < 0 := lw_lt6 L (by omega)
    apply h28
    unfold bk_L_law_28
    simp only [o_pi, o_pl, o_pf, o_pd, o_iload, o_lload, o_fload, o_dload, o_aload, o_istore, o_lstore, o_fstore, o_dstore, o_astore, o_iinc, o_ib, o_ibz, o_lb, o_lbz, o_lsh, o_lcmp, o_ineg, o_i2l, o_l2i, o_i2c, o_i2f, o_i2d, o_f2d, o_fdiv, o_ddiv, o_fcmp, o_dcmp, o_dup, o_dup2, o_pop, o_if_eq, o_if_ne, o_if_lt, o_if_ge, o_if_gt, o_if_le, o_ic_eq, o_ic_ne, o_ic_lt, o_ic_ge, o_ic_gt, o_ic_le, o_if, o_ic, o_getf, o_putf, o_ild, o_ist, o_lld, o_lst, o_dld, o_dst, o_ald, o_alen, o_new, o_newa, o_ast, o_oinit, o_iret, o_lret, o_fret, o_dret, o_aret, o_vret, o_throw, o_call, o_callV, am_kc, am_noX, o_im, o_ia, o_gets, o_ldcK, o_getK, o_codK, o_lenK, o_bldK, o_i2b, o_callK, o_mna, am_s1, am_s2, am_kill, am_inl, am_sl, Value.category, List.getElem?_cons_zero, List.getElem?_cons_succ, List.set_cons_zero, List.set_cons_succ, List.length_cons, List.length_nil, List.take_succ_cons, List.take_zero, List.drop_succ_cons, List.drop_zero, List.reverse_cons, List.reverse_nil, List.nil_append, List.cons_append, List.append_nil, List.map_cons, List.map_nil, List.sum_cons, List.sum_nil, List.replicate_succ, List.replicate_zero, Nat.zero_add, Nat.add_zero, Nat.le_refl, Nat.zero_le, ite_true, ite_false, if_true, if_false, true_and, and_true, eq_self, not_true_eq_false, not_false_eq_true, am_nb0, am_nb1, am_ni, am_fi, am_fr, am_fra, am_fz0, am_fz1, am_fl, am_uE, am_vnI, am_uu, am_ltx, ite_not, Classical.not_not, reduceIte, reduceCtorEq, Nat.reduceEqDiff, Nat.reduceAdd, Nat.reduceSub, Nat.reduceMul, Nat.reduceLeDiff, Nat.reduceLT, Int32.reduceLE, Int32.reduceLT, am_10, am_01, am_ite0, am_ite1, ms_boT, ms_boF, rmc_L_law, rms_L_law, lw_LL, o_slen, o_sld, o_lend, hlt]
set_option maxRecDepth 100000 in
set_option maxHeartbeats 4000000 in
theorem whole_start {p : Program} {e : Env} {s : State} {m : MethodId} {below : List Frame} {meth : Method} {c : Code} (l : Launch) (hflags : l.flags = flags0) {b L : Nat} {xs : Nat → Int32} (hL : L ≤ 6) (C0 : lw_At p s m meth c b L xs) : W p l e room_1 s m #[Value.ref b] below meth c s.heap [] 0 0 (lw_Z below #[Value.ref b] s) (entryFrame m ([Value.ref b] : List Value).toArray 9) := by
  obtain ⟨hx, hb, hr, hml, hown, hts, hX, hbl, hlocks, hgv⟩ := id C0
  have hA0 : ∀ a : Nat, a < s.heap.size → ¬ (fun q : Nat => s.heap.size ≤ q) a := fun a h => Nat.not_le.mpr h
  obtain ⟨D, hD1⟩ := lw_dC hts
  obtain ⟨dA, hdA⟩ := lw_dA hts
  obtain ⟨ro, hro, hE⟩ := lw_ext (b := b) (A := fun q : Nat => s.heap.size ≤ q) hts hgv hA0
  have htr : l.stackTraces = false := by
    unfold Launch.stackTraces
    rw [hflags]
    decide +kernel
  have F : am_F (p, l, e, room_1, s, m, #[Value.ref b], below, meth, c, D, dA, ro, (fun _ => 0), 0, 9, (fun q : Nat => s.heap.size ≤ q), lw_Z below #[Value.ref b] s) code R_law ret lw_tbl := ⟨hx, hb, hml, hown, hts, ⟨hD1, hdA⟩, fun q h => h, hE, htr, hlocks, hr, fun w h => (List.mem_filter.mp h).1⟩
  have FL : am_FL (p, l, e, room_1, s, m, #[Value.ref b], below, meth, c, D, dA, ro, (fun _ => 0), 0, 9, (fun q : Nat => s.heap.size ≤ q), lw_Z below #[Value.ref b] s) b := ⟨rfl, rfl, rfl, rfl⟩
  have hS : am_SX (p, l, e, room_1, s, m, #[Value.ref b], below, meth, c, D, dA, ro, (fun _ => 0), 0, 9, (fun q : Nat => s.heap.size ≤ q), lw_Z below #[Value.ref b] s) L xs := ⟨by rw [hro]; exact hX, by rw [hro]; exact hbl, by rw [hro]; exact hA0 b hbl⟩
  have hR : am_Rm (p, l, e, room_1, s, m, #[Value.ref b], below, meth, c, D, dA, ro, (fun _ => 0), 0, 9, (fun q : Nat => s.heap.size ≤ q), lw_Z below #[Value.ref b] s) rm_L_law := rfl
  have g := f_law hL (sd_L_law_0 F FL hS hR rfl) (sd_L_law_28 F FL hS hR rfl) (sd_L_law_232 F FL hS hR rfl) (sd_L_law_271 F FL hS hR rfl) (sd_L_law_352 F FL hS hR rfl) (sd_L_law_456 F FL hS hR rfl) (sd_L_law_524 F FL hS hR rfl) (sd_L_law_580 F FL hS hR rfl) (sd_L_law_636 F FL hS hR rfl) (sd_L_law_692 F FL hS hR rfl) (sd_L_law_748 F FL hS hR rfl) (sd_L_law_804 F FL hS hR rfl) (sd_L_law_817 F FL hS hR rfl) (sd_L_law_830 F FL hS hR rfl) (sd_L_law_924 F FL hS hR rfl) (sd_L_law_980 F FL hS hR rfl) (sd_L_law_1069 F FL hS hR rfl) (sd_L_law_1096 F FL hS hR rfl) (sd_L_law_1172 F FL hS hR rfl) (sd_L_law_1228 F FL hS hR rfl) (sd_L_law_1284 F FL hS hR rfl) (sd_L_law_1354 F FL hS hR rfl) (sd_L_law_1422 F FL hS hR rfl) (sd_L_law_1492 F FL hS hR rfl) (sd_L_law_1548 F FL hS hR rfl) (sd_L_law_1561 F FL hS hR rfl) (sd_L_law_1605 F FL hS hR rfl) (sd_L_law_1649 F FL hS hR rfl) (sd_L_law_1693 F FL hS hR rfl) (sd_L_law_1706 F FL hS hR rfl) (sd_L_law_1727 F FL hS hR rfl) (sd_L_law_1797 F FL hS hR rfl) (sd_L_law_1853 F FL hS hR rfl) (sd_L_law_1909 F FL hS hR rfl) (sd_L_law_1922 F FL hS hR rfl) (sd_L_law_1935 F FL hS hR rfl) (sd_L_law_1991 F FL hS hR rfl) (sd_L_law_2071 F FL hS hR rfl) (sd_L_law_2146 F FL hS hR rfl) (sd_L_law_2202 F FL hS hR rfl) (sd_L_law_2270 F FL hS hR rfl) (sd_L_law_2326 F FL hS hR rfl) (sd_L_law_2339 F FL hS hR rfl) (sd_L_law_2395 F FL hS hR rfl) (sd_L_law_2408 F FL hS hR rfl) (sd_L_law_2422 F FL hS hR rfl) (sd_L_law_2488 F FL hS hR rfl) (sd_L_law_2553 F FL hS hR rfl) (sd_L_law_2566 F FL hS hR rfl)
  have hP : va_P D vwCl (am_w dA (fun _ => 0) ro 0 (fun _ => none)) s.heap := fun k q h => by simp [am_w] at h
  have hDD : va_D (fun q : Nat => s.heap.size ≤ q) (am_w dA (fun _ => 0) ro 0 (fun _ => none)) := ⟨fun i j p q h => by simp [am_w] at h, fun k q h => by simp [am_w] at h⟩
  have g2 := g (fun _ => 0) s.heap [] _ (fun _ _ => rfl) (Nat.le_refl _) (fun k => ⟨fun h => absurd h (Nat.not_lt_zero k), fun e h => by cases h⟩) (fun v hv => by cases hv) (am_inl_lt (fun v hv => by
    rcases List.mem_singleton.mp hv with rfl
    trivial)) hP hDD va_S.rf (am_inl_has (as := [.retAddr 0]) (by decide)) (Nat.zero_le _) (Nat.zero_le _)
  rw [lg_entry_eq]
  have e9 : List.map (am_tr (fun _ => 0) ro) [.retAddr 0] = [Value.ref b] := by
    show [Value.ref (ro 0)] = [Value.ref b]
    rw [hro]
  rw [e9] at g2
  exact g2
-- ===== YOUR PART ENDS =====
set_option maxHeartbeats 4000000 in
theorem lw_walk (l : Launch) (hflags : l.flags = flags0) (b : Addr) (xs : List Int32) : MetFree l x (headSpec (Jvm.Cond.code x code maxLocals ret :: tables_1) room_1) (lw_P b xs) (fun _ _ _ _ _ => True) lw_Q := by
  refine MetFree.of_bodyS (code := code) (maxLocals := maxLocals) (ret := ret) (by decide) ?_ ?_
  · intro args s m h hn
    obtain ⟨meth, c, h1, h2, h3, h4, h5, h6, -, -⟩ := Cond.code_spec hn (atoms_spec (ws := Jvm.Cond.code x code maxLocals ret :: tables_1) h _ List.mem_cons_self)
    exact ⟨meth, c, h1, h2, h3, h4, h5, h6⟩
  · intro p e s m args below meth c s₁ B hml0 hP _
    obtain ⟨rfl, hx, hbd, hgv⟩ := hP
    obtain ⟨scr, harrAt, hlist, hof, hsmall⟩ := hx
    obtain ⟨hcb, hkn, -, -⟩ := State.arrayAt?_spec harrAt
    have hown : s.vm.findClass R_law = some m.cls := findClass_of_methodNamed B.named
    have hts0 : ∀ c ∈ (Jvm.Cond.code x code maxLocals ret :: tables_1), c.before #[Value.ref b] s = true := atoms_spec (ws := Jvm.Cond.code x code maxLocals ret :: tables_1) B.pre
    have hts : ∀ w ∈ lw_tbl, w.before #[Value.ref b] s = true := k2_hts_sels lw_privs (fun w hw => hts0 w (List.mem_cons_of_mem _ hw)) lw_privs_ok
    have hml : c.maxLocals = 9 := B.maxLocals_eq (hts0 _ List.mem_cons_self)
    have X₀ : Stand p l e room_1 s m #[Value.ref b] below meth c s₁ [] 0 0 := Stand.of_body B
    have hh0 : s₁.heap = s.heap := by rw [B.state]; rfl
    have hsz : scr.slots.size = xs.length := by rw [← Array.length_toList, hlist, List.length_map]
    have hval : ∀ j : Nat, j < xs.length → scr.slots[j]? = some (.int (xs.getD j 0)) := fun j hj => by
      rw [← Array.getElem?_toList, hlist]
      simp [hj]
    have hbl : b < s.heap.size := (Array.getElem?_eq_some_iff.mp hcb).1
    have hX : va_X b xs.length (fun j => xs.getD j 0) s s.heap := ⟨scr, hcb, hof, hkn, hsz, hval⟩
    have K : W p l e room_1 s m #[Value.ref b] below meth c s₁.heap [] 0 0 (lw_Z below #[Value.ref b] s) (entryFrame m ([Value.ref b] : List Value).toArray 9) := by
      rw [hh0]
      exact whole_start l hflags hbd ⟨B.exec, B.bytes, B.returns, hml, hown, hts, hX, hbl, B.notSynchronized, hgv⟩
    obtain ⟨t, a1, o, b1, b2, b3⟩ := K s₁ rfl X₀
    exact ⟨t, o, a1, b1, b2, b3⟩
theorem lw_pre_spec {args : Array Value} {s : State} (h : (Jvm.Cond.and given_1 narrow_1).before args s = true) (hr : rest_1_c.before args s = true) : ∃ (b : Addr) (xs : List Int32), lw_P b xs args s := by
  have hs := flat_of_before _ h
  have hq := flat_of_before _ hr
  have hc : (Cond.count 1).before args s = true := hs _ (by decide +kernel)
  have harr : (Cond.arrayOf (.arg 0) .int).before args s = true := hs _ (by decide +kernel)
  have hle : (Cond.le (.length (.arg 0)) (.int 6)).before args s = true := hs _ (by decide +kernel)
  have hlen : (Cond.isInt (.length (.arg 0))).before args s = true := hq _ (by decide +kernel)
  have hall : (Cond.all (.arg 0) (.isInt (.elem (.arg 0) (.index 0)))).before args s = true := hq _ (by decide +kernel)
  obtain ⟨b, xs, hb, hx⟩ := State.ints_of_pre rfl harr hlen hall
  have hsm : xs.length < 2 ^ 31 := hx.choose_spec.2.2.2
  have hev : (Term.length (.arg 0)).eval args s none [] s = some (.int xs.length.toInt32) := hx.length_eval hb
  have hv := Cond.le_ints hev (show (Term.int 6).eval args s none [] s = some (.int 6) from rfl)
  have hd : xs.length.toInt32 ≤ 6 := by
    simpa [Cond.before, Cond.holds, hv] using hle
  have hN : xs.length ≤ 6 := (Int32.ofNat_le_ofNat hsm (by decide)).mp (show Int32.ofNat xs.length ≤ Int32.ofNat 6 from hd)
  exact ⟨b, xs, Cond.one_arg hc (show args[0]? = some (.ref b) from hb), hx, hN, h⟩
theorem lw_comes (l : Launch) (hflags : l.flags = flags0) : Comes l x (Jvm.Cond.code x code maxLocals ret :: tables_1) room_1 (fun tb e args s => Calls_1 tb e args s ∧ rest_1 tb e args s ∧ Pre_1 tb e args s)
    (fun _ _ args s o t => lw_Q args s o t) := by
  intro p e ha hc hk s m args below hf hfit hheap happ hpre
  obtain ⟨b, xs, hP⟩ := lw_pre_spec hpre.2.2 hpre.2.1
  obtain ⟨k, o, h1, h2, h3, hQ⟩ := lw_walk l hflags b xs p e ha hc hk s m args below hf ((Spec.applies_iff_loose hf).mp happ).1 hP trivial
  exact ⟨k, o, h1, h2, h3, hQ⟩
theorem lw_frame {s t : State} {o : Outcome} {args : Array Value} (h : State.butDraws s t lw_cs (fun t1 => Framed s o t1 [] 600002 7302232)) :
    State.butDraws s t [Jvm.Choice.named "NaN.bits"] (fun t1 => Framed s o t1 (fieldLocs frame_1_writes args s ++ arrayLocs frame_1_arrays args s ++ staticLocs frame_1_statics s) 600002 7302232) := h
theorem lw_limb (L : Cond) (hL : ∀ (args : Array Value) (s t : State), L.after args s (.returned (some (.int 1))) t = true) :
    ArmFor flags0 classFile x code maxLocals ret World_1 tables_1 room_1 Calls_1 rest_1 Pre_1
      (fun tb e a s o t => postC L tb e a s o t ∧ State.butDraws s t [Jvm.Choice.named "NaN.bits"] (fun t1 => Framed s o t1 (fieldLocs frame_1_writes a s ++ arrayLocs frame_1_arrays a s ++ staticLocs frame_1_statics s) 600002 7302232)) := by
  intro l hflags _ _ p e ha hc hk s m args below hf hfit hheap happ hpre
  obtain ⟨k, o, h1, h2, h3, rfl, hF⟩ := lw_comes l hflags p e ha hc hk s m args below hf hfit hheap happ hpre
  exact ⟨k, _, h1, h2, h3, hL args s _, lw_frame hF⟩
theorem i_vc : Claimed_1_1 ∧ Claimed_1_2 := ⟨lw_limb limb_1_1 (fun args s t => by simp [limb_1_1, Cond.after, Cond.holds, Cond.value]), lw_limb limb_1_2 (fun args s t => Cond.after_iff.mpr (by
  first | (rw [show limb_1_2 = Cond.eq .result (.int 1) from rfl, Cond.eq_ints (x := 1) (y := 1) rfl rfl]; simp; done) | (simp [limb_1_2, Cond.value, Term.eval]; done)))⟩
