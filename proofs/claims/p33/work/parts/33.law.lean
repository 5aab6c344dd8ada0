theorem lw_gt {L i : Nat} (hL : L ≤ 3072) (hi : i ≤ 3072) : (nI L - 6 < nI i) = (L < i + 6) := by
  by_cases c : 6 ≤ L
  · rw [show (6 : Int32) = nI 6 from rfl, am_subN c]
    have := am_geN (a := i) (b := L - 6) (by omega) (by omega)
    refine propext ⟨fun q => ?_, fun q => ?_⟩
    · have h2 : ¬ (nI i ≤ nI (L - 6)) := Int32.not_le.mpr q
      rw [this] at h2
      omega
    · refine Int32.not_le.mp (fun z => ?_)
      rw [this] at z
      omega
  · have h1 : ∀ L, L < 6 → nI L - 6 < (0 : Int32) := by decide
    have h2 : (0 : Int32) ≤ nI i := nI_pos' (show i < 2 ^ 31 by omega)
    exact propext ⟨fun _ => by omega, fun _ => Int32.lt_of_lt_of_le (h1 L (by omega)) h2⟩
set_option maxRecDepth 100000 in
set_option maxHeartbeats 4000000 in
theorem f_law {L : Nat} {xs : Nat → Int32} {G : Nat → am_C} (hL : L ≤ 3072) (h0 : am_imp (bk_L_law_0 L xs G) (G 0)) (h28 : am_imp (bk_L_law_28 L xs G) (G 28)) (h232 : am_imp (bk_L_law_232 L xs G) (G 232)) (h324 : am_imp (bk_L_law_324 L xs G) (G 324)) (h400 : am_imp (bk_L_law_400 L xs G) (G 400)) (h440 : am_imp (bk_L_law_440 L xs G) (G 440)) (h468 : am_imp (bk_L_law_468 L xs G) (G 468)) (h496 : am_imp (bk_L_law_496 L xs G) (G 496)) (h524 : am_imp (bk_L_law_524 L xs G) (G 524)) (h552 : am_imp (bk_L_law_552 L xs G) (G 552)) (h580 : am_imp (bk_L_law_580 L xs G) (G 580)) (h593 : am_imp (bk_L_law_593 L xs G) (G 593)) (h606 : am_imp (bk_L_law_606 L xs G) (G 606)) (h672 : am_imp (bk_L_law_672 L xs G) (G 672)) (h700 : am_imp (bk_L_law_700 L xs G) (G 700)) (h754 : am_imp (bk_L_law_754 L xs G) (G 754)) (h822 : am_imp (bk_L_law_822 L xs G) (G 822)) (h850 : am_imp (bk_L_law_850 L xs G) (G 850)) (h878 : am_imp (bk_L_law_878 L xs G) (G 878)) (h920 : am_imp (bk_L_law_920 L xs G) (G 920)) (h960 : am_imp (bk_L_law_960 L xs G) (G 960)) (h1002 : am_imp (bk_L_law_1002 L xs G) (G 1002)) (h1030 : am_imp (bk_L_law_1030 L xs G) (G 1030)) (h1043 : am_imp (bk_L_law_1043 L xs G) (G 1043)) (h1059 : am_imp (bk_L_law_1059 L xs G) (G 1059)) (h1075 : am_imp (bk_L_law_1075 L xs G) (G 1075)) (h1091 : am_imp (bk_L_law_1091 L xs G) (G 1091)) (h1104 : am_imp (bk_L_law_1104 L xs G) (G 1104)) (h1160 : am_imp (bk_L_law_1160 L xs G) (G 1160)) (h1188 : am_imp (bk_L_law_1188 L xs G) (G 1188)) (h1216 : am_imp (bk_L_law_1216 L xs G) (G 1216)) (h1229 : am_imp (bk_L_law_1229 L xs G) (G 1229)) (h1242 : am_imp (bk_L_law_1242 L xs G) (G 1242)) (h1270 : am_imp (bk_L_law_1270 L xs G) (G 1270)) (h1350 : am_imp (bk_L_law_1350 L xs G) (G 1350)) (h1390 : am_imp (bk_L_law_1390 L xs G) (G 1390)) (h1418 : am_imp (bk_L_law_1418 L xs G) (G 1418)) (h1458 : am_imp (bk_L_law_1458 L xs G) (G 1458)) (h1486 : am_imp (bk_L_law_1486 L xs G) (G 1486)) (h1499 : am_imp (bk_L_law_1499 L xs G) (G 1499)) (h1527 : am_imp (bk_L_law_1527 L xs G) (G 1527)) (h1540 : am_imp (bk_L_law_1540 L xs G) (G 1540)) (h1553 : am_imp (bk_L_law_1553 L xs G) (G 1553)) (h1570 : am_imp (bk_L_law_1570 L xs G) (G 1570)) (h1587 : am_imp (bk_L_law_1587 L xs G) (G 1587)) (h1600 : am_imp (bk_L_law_1600 L xs G) (G 1600)) : G 0 (am_inl 9 [.retAddr 0]) [] 0 (fun _ => none) 0 0 := by
  have c1 : Int32.toNatClampNeg 1 = 1 := rfl
  have n1 : ¬ (1 : Int32) < 0 := by decide
  have c0 : Int32.toNatClampNeg 0 = 0 := rfl
  apply h0
  unfold bk_L_law_0
  simp only [o_pi, o_pl, o_pf, o_pd, o_iload, o_lload, o_fload, o_dload, o_aload, o_istore, o_lstore, o_fstore, o_dstore, o_astore, o_iinc, o_ib, o_ibz, o_lb, o_lbz, o_lsh, o_lcmp, o_ineg, o_i2l, o_l2i, o_i2c, o_i2f, o_i2d, o_f2d, o_fdiv, o_ddiv, o_fcmp, o_dcmp, o_dup, o_dup2, o_pop, o_pop2, o_if_eq, o_if_ne, o_if_lt, o_if_ge, o_if_gt, o_if_le, o_ic_eq, o_ic_ne, o_ic_lt, o_ic_ge, o_ic_gt, o_ic_le, o_if, o_ic, o_getf, o_putf, o_ild, o_ist, o_lld, o_lst, o_dld, o_dst, o_ald, o_alen, o_new, o_newa, o_ast, o_oinit, o_iret, o_lret, o_fret, o_dret, o_aret, o_vret, o_throw, o_call, o_callV, am_kc, am_noX, o_im, o_ia, o_gets, o_ldcK, o_getK, o_codK, o_lenK, o_bldK, o_i2b, o_callK, o_mna, o_clone, o_castA, am_s1, am_s2, am_kill, am_inl, am_sl, Value.category, List.getElem?_cons_zero, List.getElem?_cons_succ, List.set_cons_zero, List.set_cons_succ, List.length_cons, List.length_nil, List.take_succ_cons, List.take_zero, List.drop_succ_cons, List.drop_zero, List.reverse_cons, List.reverse_nil, List.nil_append, List.cons_append, List.append_nil, List.map_cons, List.map_nil, List.sum_cons, List.sum_nil, List.replicate_succ, List.replicate_zero, Nat.zero_add, Nat.add_zero, Nat.le_refl, Nat.zero_le, ite_true, ite_false, if_true, if_false, true_and, and_true, eq_self, not_true_eq_false, not_false_eq_true, am_nb0, am_nb1, am_ni, am_fi, am_fr, am_fra, am_fz0, am_fz1, am_fl, am_uE, am_vnI, am_uu, am_ltx, ite_not, Classical.not_not, reduceIte, reduceCtorEq, Nat.reduceEqDiff, Nat.reduceAdd, Nat.reduceSub, Nat.reduceMul, Nat.reduceLeDiff, Nat.reduceLT, Int32.reduceLE, Int32.reduceLT, am_10, am_01, am_ite0, am_ite1, ms_boT, ms_boF, rmc_L_law, rms_L_law, lw_LG, o_slen, o_sld, o_tsw, o_lend, rmc_X7_init, rms_X7_init, c1]
  refine ⟨0, rfl, rfl, am_uE, fun E1 hH1 hk1 => ?_⟩
  show am_kc _ _ _ _ _ _ (.inl none) 214 E1
  simp only [o_pi, o_pl, o_pf, o_pd, o_iload, o_lload, o_fload, o_dload, o_aload, o_istore, o_lstore, o_fstore, o_dstore, o_astore, o_iinc, o_ib, o_ibz, o_lb, o_lbz, o_lsh, o_lcmp, o_ineg, o_i2l, o_l2i, o_i2c, o_i2f, o_i2d, o_f2d, o_fdiv, o_ddiv, o_fcmp, o_dcmp, o_dup, o_dup2, o_pop, o_pop2, o_if_eq, o_if_ne, o_if_lt, o_if_ge, o_if_gt, o_if_le, o_ic_eq, o_ic_ne, o_ic_lt, o_ic_ge, o_ic_gt, o_ic_le, o_if, o_ic, o_getf, o_putf, o_ild, o_ist, o_lld, o_lst, o_dld, o_dst, o_ald, o_alen, o_new, o_newa, o_ast, o_oinit, o_iret, o_lret, o_fret, o_dret, o_aret, o_vret, o_throw, o_call, o_callV, am_kc, am_noX, o_im, o_ia, o_gets, o_ldcK, o_getK, o_codK, o_lenK, o_bldK, o_i2b, o_callK, o_mna, o_clone, o_castA, am_s1, am_s2, am_kill, am_inl, am_sl, Value.category, List.getElem?_cons_zero, List.getElem?_cons_succ, List.set_cons_zero, List.set_cons_succ, List.length_cons, List.length_nil, List.take_succ_cons, List.take_zero, List.drop_succ_cons, List.drop_zero, List.reverse_cons, List.reverse_nil, List.nil_append, List.cons_append, List.append_nil, List.map_cons, List.map_nil, List.sum_cons, List.sum_nil, List.replicate_succ, List.replicate_zero, Nat.zero_add, Nat.add_zero, Nat.le_refl, Nat.zero_le, ite_true, ite_false, if_true, if_false, true_and, and_true, eq_self, not_true_eq_false, not_false_eq_true, am_nb0, am_nb1, am_ni, am_fi, am_fr, am_fra, am_fz0, am_fz1, am_fl, am_uE, am_vnI, am_uu, am_ltx, ite_not, Classical.not_not, reduceIte, reduceCtorEq, Nat.reduceEqDiff, Nat.reduceAdd, Nat.reduceSub, Nat.reduceMul, Nat.reduceLeDiff, Nat.reduceLT, Int32.reduceLE, Int32.reduceLT, am_10, am_01, am_ite0, am_ite1, ms_boT, ms_boF, rmc_L_law, rms_L_law, lw_LG, o_slen, o_sld, o_tsw, o_lend, rmc_X8_init, rms_X8_init, c1]
  refine ⟨214, rfl, rfl, am_uE, fun E2 hM2 hk2 => ?_⟩
  show am_kc _ _ _ _ _ _ (.inl none) 335 E2
  simp only [o_pi, o_pl, o_pf, o_pd, o_iload, o_lload, o_fload, o_dload, o_aload, o_istore, o_lstore, o_fstore, o_dstore, o_astore, o_iinc, o_ib, o_ibz, o_lb, o_lbz, o_lsh, o_lcmp, o_ineg, o_i2l, o_l2i, o_i2c, o_i2f, o_i2d, o_f2d, o_fdiv, o_ddiv, o_fcmp, o_dcmp, o_dup, o_dup2, o_pop, o_pop2, o_if_eq, o_if_ne, o_if_lt, o_if_ge, o_if_gt, o_if_le, o_ic_eq, o_ic_ne, o_ic_lt, o_ic_ge, o_ic_gt, o_ic_le, o_if, o_ic, o_getf, o_putf, o_ild, o_ist, o_lld, o_lst, o_dld, o_dst, o_ald, o_alen, o_new, o_newa, o_ast, o_oinit, o_iret, o_lret, o_fret, o_dret, o_aret, o_vret, o_throw, o_call, o_callV, am_kc, am_noX, o_im, o_ia, o_gets, o_ldcK, o_getK, o_codK, o_lenK, o_bldK, o_i2b, o_callK, o_mna, o_clone, o_castA, am_s1, am_s2, am_kill, am_inl, am_sl, Value.category, List.getElem?_cons_zero, List.getElem?_cons_succ, List.set_cons_zero, List.set_cons_succ, List.length_cons, List.length_nil, List.take_succ_cons, List.take_zero, List.drop_succ_cons, List.drop_zero, List.reverse_cons, List.reverse_nil, List.nil_append, List.cons_append, List.append_nil, List.map_cons, List.map_nil, List.sum_cons, List.sum_nil, List.replicate_succ, List.replicate_zero, Nat.zero_add, Nat.add_zero, Nat.le_refl, Nat.zero_le, ite_true, ite_false, if_true, if_false, true_and, and_true, eq_self, not_true_eq_false, not_false_eq_true, am_nb0, am_nb1, am_ni, am_fi, am_fr, am_fra, am_fz0, am_fz1, am_fl, am_uE, am_vnI, am_uu, am_ltx, ite_not, Classical.not_not, reduceIte, reduceCtorEq, Nat.reduceEqDiff, Nat.reduceAdd, Nat.reduceSub, Nat.reduceMul, Nat.reduceLeDiff, Nat.reduceLT, Int32.reduceLE, Int32.reduceLT, am_10, am_01, am_ite0, am_ite1, ms_boT, ms_boF, rmc_L_law, rms_L_law, lw_LG, o_slen, o_sld, o_tsw, o_lend, c1, n1, am_z]
  obtain ⟨lm, lk, lf, hM⟩ := hM2
  have hE : ∀ e : Nat → UInt64, lw_T am_s0 (am_u (am_u E2 335 (.inl (1, 1, .inr (.inl (fun _ => 0))))) 336 (.inl (4, 1, .inr (.inr (.inr (.inl e)))))) := fun e => ⟨lw_hs hH1 (fun k h1 h2 => by
      rw [am_uN (by omega), am_uN (by omega), hk2 k (by omega), am_uN (by omega)]), ⟨0, lm, lk, lf, lw_mt hM (fun k h1 h2 => by
      rw [am_uN (by omega), am_uN (by omega)])⟩, am_iw_s0, ⟨_, by rw [am_uN (by decide)]; exact am_uE⟩, ⟨_, am_uE⟩⟩
  have hE := hE (fun _ => 0)
  generalize am_u (am_u E2 335 (.inl (1, 1, .inr (.inl (fun _ => 0))))) 336 (.inl (4, 1, .inr (.inr (.inr (.inl (fun _ => 0)))))) = E3 at hE ⊢
  show G 28 (lw_LG 0 none none none) [] 337 E3 337 63960
  clear hM hk1 hk2 hH1
  have loop := am_for (fun q => ∀ (σ : am_St) (n : Nat) (E : am_E) (l6 l7 l8 : Option Value) (ca sl : Nat), 337 ≤ n → lw_T σ E → ca ≤ 337 + 1173 * q → sl ≤ 63960 + 14119 * q → G 28 (lw_LG (6 * q) l6 l7 l8) [] n E ca sl) (L / 6) (by
    intro σ n E l6 l7 l8 ca sl hn hT hca hsl
    have hg : (nI L - 6 < nI (6 * (L / 6))) = True := by
      rw [lw_gt hL (by omega)]
      exact eq_true (by omega)
    apply h28
    unfold bk_L_law_28
    simp only [o_pi, o_pl, o_pf, o_pd, o_iload, o_lload, o_fload, o_dload, o_aload, o_istore, o_lstore, o_fstore, o_dstore, o_astore, o_iinc, o_ib, o_ibz, o_lb, o_lbz, o_lsh, o_lcmp, o_ineg, o_i2l, o_l2i, o_i2c, o_i2f, o_i2d, o_f2d, o_fdiv, o_ddiv, o_fcmp, o_dcmp, o_dup, o_dup2, o_pop, o_pop2, o_if_eq, o_if_ne, o_if_lt, o_if_ge, o_if_gt, o_if_le, o_ic_eq, o_ic_ne, o_ic_lt, o_ic_ge, o_ic_gt, o_ic_le, o_if, o_ic, o_getf, o_putf, o_ild, o_ist, o_lld, o_lst, o_dld, o_dst, o_ald, o_alen, o_new, o_newa, o_ast, o_oinit, o_iret, o_lret, o_fret, o_dret, o_aret, o_vret, o_throw, o_call, o_callV, am_kc, am_noX, o_im, o_ia, o_gets, o_ldcK, o_getK, o_codK, o_lenK, o_bldK, o_i2b, o_callK, o_mna, o_clone, o_castA, am_s1, am_s2, am_kill, am_inl, am_sl, Value.category, List.getElem?_cons_zero, List.getElem?_cons_succ, List.set_cons_zero, List.set_cons_succ, List.length_cons, List.length_nil, List.take_succ_cons, List.take_zero, List.drop_succ_cons, List.drop_zero, List.reverse_cons, List.reverse_nil, List.nil_append, List.cons_append, List.append_nil, List.map_cons, List.map_nil, List.sum_cons, List.sum_nil, List.replicate_succ, List.replicate_zero, Nat.zero_add, Nat.add_zero, Nat.le_refl, Nat.zero_le, ite_true, ite_false, if_true, if_false, true_and, and_true, eq_self, not_true_eq_false, not_false_eq_true, am_nb0, am_nb1, am_ni, am_fi, am_fr, am_fra, am_fz0, am_fz1, am_fl, am_uE, am_vnI, am_uu, am_ltx, ite_not, Classical.not_not, reduceIte, reduceCtorEq, Nat.reduceEqDiff, Nat.reduceAdd, Nat.reduceSub, Nat.reduceMul, Nat.reduceLeDiff, Nat.reduceLT, Int32.reduceLE, Int32.reduceLT, am_10, am_01, am_ite0, am_ite1, ms_boT, ms_boF, rmc_L_law, rms_L_law, lw_LG, o_slen, o_sld, o_tsw, o_lend, hg]) (fun q hq hnx σ n E l6 l7 l8 ca sl hn hT hca hsl => by
    have hi : 6 * q + 6 ≤ L := by omega
    have hq5 : q < 512 := by omega
    have hN : lw_N G (6 * q) q := fun σ n E l6 l7 l8 ca sl hn hT hca hsl => by
      have h9 := hnx σ n E l6 l7 l8 ca sl hn hT hca hsl
      have a6 : nI (6 * q) + 6 = nI (6 * q + 6) := nI_add (6 * q) 6
      rw [show 6 * (q + 1) = 6 * q + 6 by omega] at h9
      apply h1600
      unfold bk_L_law_1600
      simp only [o_pi, o_pl, o_pf, o_pd, o_iload, o_lload, o_fload, o_dload, o_aload, o_istore, o_lstore, o_fstore, o_dstore, o_astore, o_iinc, o_ib, o_ibz, o_lb, o_lbz, o_lsh, o_lcmp, o_ineg, o_i2l, o_l2i, o_i2c, o_i2f, o_i2d, o_f2d, o_fdiv, o_ddiv, o_fcmp, o_dcmp, o_dup, o_dup2, o_pop, o_pop2, o_if_eq, o_if_ne, o_if_lt, o_if_ge, o_if_gt, o_if_le, o_ic_eq, o_ic_ne, o_ic_lt, o_ic_ge, o_ic_gt, o_ic_le, o_if, o_ic, o_getf, o_putf, o_ild, o_ist, o_lld, o_lst, o_dld, o_dst, o_ald, o_alen, o_new, o_newa, o_ast, o_oinit, o_iret, o_lret, o_fret, o_dret, o_aret, o_vret, o_throw, o_call, o_callV, am_kc, am_noX, o_im, o_ia, o_gets, o_ldcK, o_getK, o_codK, o_lenK, o_bldK, o_i2b, o_callK, o_mna, o_clone, o_castA, am_s1, am_s2, am_kill, am_inl, am_sl, Value.category, List.getElem?_cons_zero, List.getElem?_cons_succ, List.set_cons_zero, List.set_cons_succ, List.length_cons, List.length_nil, List.take_succ_cons, List.take_zero, List.drop_succ_cons, List.drop_zero, List.reverse_cons, List.reverse_nil, List.nil_append, List.cons_append, List.append_nil, List.map_cons, List.map_nil, List.sum_cons, List.sum_nil, List.replicate_succ, List.replicate_zero, Nat.zero_add, Nat.add_zero, Nat.le_refl, Nat.zero_le, ite_true, ite_false, if_true, if_false, true_and, and_true, eq_self, not_true_eq_false, not_false_eq_true, am_nb0, am_nb1, am_ni, am_fi, am_fr, am_fra, am_fz0, am_fz1, am_fl, am_uE, am_vnI, am_uu, am_ltx, ite_not, Classical.not_not, reduceIte, reduceCtorEq, Nat.reduceEqDiff, Nat.reduceAdd, Nat.reduceSub, Nat.reduceMul, Nat.reduceLeDiff, Nat.reduceLT, Int32.reduceLE, Int32.reduceLT, am_10, am_01, am_ite0, am_ite1, ms_boT, ms_boF, rmc_L_law, rms_L_law, lw_LG, o_slen, o_sld, o_tsw, o_lend, a6]
      exact h9
    clear hnx
    have hg : (nI L - 6 < nI (6 * q)) = False := by
      rw [lw_gt hL (by omega)]
      exact eq_false (by omega)
    have v0 : vp_in (nI (6 * q)) L := vp_in_nI (by omega) (by omega)
    have c9 : (nI (6 * q)).toNatClampNeg = 6 * q := am_cl (by omega)
    apply h28
    unfold bk_L_law_28
    simp only [o_pi, o_pl, o_pf, o_pd, o_iload, o_lload, o_fload, o_dload, o_aload, o_istore, o_lstore, o_fstore, o_dstore, o_astore, o_iinc, o_ib, o_ibz, o_lb, o_lbz, o_lsh, o_lcmp, o_ineg, o_i2l, o_l2i, o_i2c, o_i2f, o_i2d, o_f2d, o_fdiv, o_ddiv, o_fcmp, o_dcmp, o_dup, o_dup2, o_pop, o_pop2, o_if_eq, o_if_ne, o_if_lt, o_if_ge, o_if_gt, o_if_le, o_ic_eq, o_ic_ne, o_ic_lt, o_ic_ge, o_ic_gt, o_ic_le, o_if, o_ic, o_getf, o_putf, o_ild, o_ist, o_lld, o_lst, o_dld, o_dst, o_ald, o_alen, o_new, o_newa, o_ast, o_oinit, o_iret, o_lret, o_fret, o_dret, o_aret, o_vret, o_throw, o_call, o_callV, am_kc, am_noX, o_im, o_ia, o_gets, o_ldcK, o_getK, o_codK, o_lenK, o_bldK, o_i2b, o_callK, o_mna, o_clone, o_castA, am_s1, am_s2, am_kill, am_inl, am_sl, Value.category, List.getElem?_cons_zero, List.getElem?_cons_succ, List.set_cons_zero, List.set_cons_succ, List.length_cons, List.length_nil, List.take_succ_cons, List.take_zero, List.drop_succ_cons, List.drop_zero, List.reverse_cons, List.reverse_nil, List.nil_append, List.cons_append, List.append_nil, List.map_cons, List.map_nil, List.sum_cons, List.sum_nil, List.replicate_succ, List.replicate_zero, Nat.zero_add, Nat.add_zero, Nat.le_refl, Nat.zero_le, ite_true, ite_false, if_true, if_false, true_and, and_true, eq_self, not_true_eq_false, not_false_eq_true, am_nb0, am_nb1, am_ni, am_fi, am_fr, am_fra, am_fz0, am_fz1, am_fl, am_uE, am_vnI, am_uu, am_ltx, ite_not, Classical.not_not, reduceIte, reduceCtorEq, Nat.reduceEqDiff, Nat.reduceAdd, Nat.reduceSub, Nat.reduceMul, Nat.reduceLeDiff, Nat.reduceLT, Int32.reduceLE, Int32.reduceLT, am_10, am_01, am_ite0, am_ite1, ms_boT, ms_boF, rmc_L_law, rms_L_law, lw_LG, o_slen, o_sld, o_tsw, o_lend, hg, v0, c9]
    refine ⟨fun hy => ?_, fun _ => hN σ n E l6 l7 l8 ca sl hn hT (by omega) (by omega)⟩
    have hj : (xs (6 * q) &&& 63).toNatClampNeg < 43 := hy.2
    generalize (xs (6 * q) &&& 63).toNatClampNeg = j at hj ⊢
    match j, hj with
    | 0, _ => exact cs_open hi (by omega) hq5 h232 hN hn hT hca hsl
    | 1, _ => exact cs_lay hi (by omega) hq5 h324 hN hn hT hca hsl
    | 2, _ => exact cs_pieceAt hi (by omega) hq5 h400 hN hn hT hca hsl
    | 3, _ => exact cs_size hi (by omega) hq5 h440 hN hn hT hca hsl
    | 4, _ => exact cs_corners hi (by omega) hq5 h468 hN hn hT hca hsl
    | 5, _ => exact cs_point hi (by omega) hq5 h496 hN hn hT hca hsl
    | 6, _ => exact cs_hinders hi (by omega) hq5 h524 hN hn hT hca hsl
    | 7, _ => exact cs_split hi (by omega) hq5 h552 hN hn hT hca hsl
    | 8, _ => exact cs_lead hi (by omega) hq5 h580 hN hn hT hca hsl
    | 9, _ => exact cs_joints hi (by omega) hq5 h593 hN hn hT hca hsl
    | 10, _ => exact cs_sheet hi (by omega) hq5 h606 hN hn hT hca hsl
    | 11, _ => exact cs_free hi (by omega) hq5 h672 hN hn hT hca hsl
    | 12, _ => exact cs_want hi (by omega) hq5 h700 hN hn hT hca hsl
    | 13, _ => exact cs_cut hi (by omega) hq5 h754 hN hn hT hca hsl
    | 14, _ => exact cs_glass hi (by omega) hq5 h822 hN hn hT hca hsl
    | 15, _ => exact cs_colour hi (by omega) hq5 h850 hN hn hT hca hsl
    | 16, _ => exact cs_paint hi (by omega) hq5 h878 hN hn hT hca hsl
    | 17, _ => exact cs_fire hi (by omega) hq5 h920 hN hn hT hca hsl
    | 18, _ => exact cs_layers hi (by omega) hq5 h960 hN hn hT hca hsl
    | 19, _ => exact cs_seed hi (by omega) hq5 h1002 hN hn hT hca hsl
    | 20, _ => exact cs_isOrderly hi (by omega) hq5 h1030 hN hn hT hca hsl
    | 21, _ => exact cs_next hi (by omega) hq5 h1043 hN hn hT hca hsl
    | 22, _ => exact cs_comes hi (by omega) hq5 h1059 hN hn hT hca hsl
    | 23, _ => exact cs_solder hi (by omega) hq5 h1075 hN hn hT hca hsl
    | 24, _ => exact cs_isUp hi (by omega) hq5 h1091 hN hn hT hca hsl
    | 25, _ => exact cs_bar hi (by omega) hq5 h1104 hN hn hT hca hsl
    | 26, _ => exact cs_profile hi (by omega) hq5 h1160 hN hn hT hca hsl
    | 27, _ => exact cs_wind hi (by omega) hq5 h1188 hN hn hT hca hsl
    | 28, _ => exact cs_bears hi (by omega) hq5 h1216 hN hn hT hca hsl
    | 29, _ => exact cs_stands hi (by omega) hq5 h1229 hN hn hT hca hsl
    | 30, _ => exact cs_years hi (by omega) hq5 h1242 hN hn hT hca hsl
    | 31, _ => exact cs_looks hi (by omega) hq5 h1270 hN hn hT hca hsl
    | 32, _ => exact cs_hit hi (by omega) hq5 h1350 hN hn hT hca hsl
    | 33, _ => exact cs_mend hi (by omega) hq5 h1390 hN hn hT hca hsl
    | 34, _ => exact cs_stopgap hi (by omega) hq5 h1418 hN hn hT hca hsl
    | 35, _ => exact cs_year hi (by omega) hq5 h1458 hN hn hT hca hsl
    | 36, _ => exact cs_hands hi (by omega) hq5 h1486 hN hn hT hca hsl
    | 37, _ => exact cs_fits hi (by omega) hq5 h1499 hN hn hT hca hsl
    | 38, _ => exact cs_price hi (by omega) hq5 h1527 hN hn hT hca hsl
    | 39, _ => exact cs_checksum hi (by omega) hq5 h1540 hN hn hT hca hsl
    | 40, _ => exact cs_litShare hi (by omega) hq5 h1553 hN hn hT hca hsl
    | 41, _ => exact cs_meanCells hi (by omega) hq5 h1570 hN hn hT hca hsl
    | 42, _ => exact cs_isSound hi (by omega) hq5 h1587 hN hn hT hca hsl
    | j + 43, hj => exact absurd hj (by omega))
  exact loop 0 (by omega) am_s0 337 E3 none none none 337 63960 (by omega) hE (by omega) (by omega)
set_option maxRecDepth 100000 in
set_option maxHeartbeats 4000000 in
theorem whole_start {p : Program} {e : Env} {s : State} {m : MethodId} {below : List Frame} {meth : Method} {c : Code} (l : Launch) (hflags : l.flags = flags0) {b L : Nat} {xs : Nat → Int32} (hL : L ≤ 3072) (C0 : lw_At p s m meth c b L xs) : W p l e room_1 s m #[Value.ref b] below meth c s.heap [] 0 0 (lw_Z below #[Value.ref b] s) (entryFrame m ([Value.ref b] : List Value).toArray 9) := by
  obtain ⟨hx, hb, hr, hml, hown, hts, hX, hbl, hlocks, hgv⟩ := id C0
  have hA0 : ∀ a : Nat, a < s.heap.size → ¬ (fun q : Nat => s.heap.size ≤ q) a := fun a h => Nat.not_le.mpr h
  obtain ⟨D, hD1⟩ := lw_dC hts
  obtain ⟨dA, hdA⟩ := lw_dA hts
  obtain ⟨ro, hro, hE⟩ := lw_ext (b := b) (A := fun q : Nat => s.heap.size ≤ q) hts hgv hA0
  have htr : l.stackTraces = false := by
    unfold Launch.stackTraces
    rw [hflags]
    decide +kernel
  have F : am_F (p, l, e, room_1, s, m, #[Value.ref b], below, meth, c, D, dA, ro, (fun _ => 0), 0, 9, (fun q : Nat => s.heap.size ≤ q), lw_Z below #[Value.ref b] s) code R_law ret lw_tbl := ⟨hx, hb, hml, hown, hts, ⟨hD1, hdA⟩, fun q h => h, hE, htr, hlocks, hr, fun w h => (List.mem_filter.mp h).1⟩
  have FL : am_FL (p, l, e, room_1, s, m, #[Value.ref b], below, meth, c, D, dA, ro, (fun _ => 0), 0, 9, (fun q : Nat => s.heap.size ≤ q), lw_Z below #[Value.ref b] s) b := ⟨rfl, rfl, rfl, rfl⟩
  have hS : am_SX (p, l, e, room_1, s, m, #[Value.ref b], below, meth, c, D, dA, ro, (fun _ => 0), 0, 9, (fun q : Nat => s.heap.size ≤ q), lw_Z below #[Value.ref b] s) L xs := ⟨by rw [hro]; exact hX, by rw [hro]; exact hbl, by rw [hro]; exact hA0 b hbl⟩
  have hR : am_Rm (p, l, e, room_1, s, m, #[Value.ref b], below, meth, c, D, dA, ro, (fun _ => 0), 0, 9, (fun q : Nat => s.heap.size ≤ q), lw_Z below #[Value.ref b] s) rm_L_law := rfl
  have g := f_law hL (sd_L_law_0 F FL hS hR rfl) (sd_L_law_28 F FL hS hR rfl) (sd_L_law_232 F FL hS hR rfl) (sd_L_law_324 F FL hS hR rfl) (sd_L_law_400 F FL hS hR rfl) (sd_L_law_440 F FL hS hR rfl) (sd_L_law_468 F FL hS hR rfl) (sd_L_law_496 F FL hS hR rfl) (sd_L_law_524 F FL hS hR rfl) (sd_L_law_552 F FL hS hR rfl) (sd_L_law_580 F FL hS hR rfl) (sd_L_law_593 F FL hS hR rfl) (sd_L_law_606 F FL hS hR rfl) (sd_L_law_672 F FL hS hR rfl) (sd_L_law_700 F FL hS hR rfl) (sd_L_law_754 F FL hS hR rfl) (sd_L_law_822 F FL hS hR rfl) (sd_L_law_850 F FL hS hR rfl) (sd_L_law_878 F FL hS hR rfl) (sd_L_law_920 F FL hS hR rfl) (sd_L_law_960 F FL hS hR rfl) (sd_L_law_1002 F FL hS hR rfl) (sd_L_law_1030 F FL hS hR rfl) (sd_L_law_1043 F FL hS hR rfl) (sd_L_law_1059 F FL hS hR rfl) (sd_L_law_1075 F FL hS hR rfl) (sd_L_law_1091 F FL hS hR rfl) (sd_L_law_1104 F FL hS hR rfl) (sd_L_law_1160 F FL hS hR rfl) (sd_L_law_1188 F FL hS hR rfl) (sd_L_law_1216 F FL hS hR rfl) (sd_L_law_1229 F FL hS hR rfl) (sd_L_law_1242 F FL hS hR rfl) (sd_L_law_1270 F FL hS hR rfl) (sd_L_law_1350 F FL hS hR rfl) (sd_L_law_1390 F FL hS hR rfl) (sd_L_law_1418 F FL hS hR rfl) (sd_L_law_1458 F FL hS hR rfl) (sd_L_law_1486 F FL hS hR rfl) (sd_L_law_1499 F FL hS hR rfl) (sd_L_law_1527 F FL hS hR rfl) (sd_L_law_1540 F FL hS hR rfl) (sd_L_law_1553 F FL hS hR rfl) (sd_L_law_1570 F FL hS hR rfl) (sd_L_law_1587 F FL hS hR rfl) (sd_L_law_1600 F FL hS hR rfl)
  have hP : va_P D vwCl (am_w dA (fun _ => 0) ro 0 (fun _ => none)) s.heap := fun k q h => by simp [am_w] at h
  have hDD : va_D (fun q : Nat => s.heap.size ≤ q) (am_w dA (fun _ => 0) ro 0 (fun _ => none)) := ⟨fun i j p q h => by simp [am_w] at h, fun k q h => by simp [am_w] at h⟩
  have g2 := g (fun _ => 0) s.heap [] _ (fun _ _ => rfl) (Nat.le_refl _) (fun k => ⟨fun h => absurd h (Nat.not_lt_zero k), fun e h => by cases h⟩) (fun v hv => by cases hv) (am_inl_lt (fun v hv => by
    rcases List.mem_singleton.mp hv with rfl
    trivial)) hP hDD va_S.rf (am_inl_has (as := [.retAddr 0]) (by decide)) (Nat.zero_le _) (Nat.zero_le _)
  rw [lg_entry_eq]
  have e9 : List.map (am_tr (fun _ => 0) ro) [.retAddr 0] = [Value.ref b] := by
    show [Value.ref (ro 0)] = [Value.ref b]
    rw [hro]
  rw [e9] at g2
  exact g2
set_option maxHeartbeats 4000000 in
theorem lw_walk (l : Launch) (hflags : l.flags = flags0) (b : Addr) (xs : List Int32) : MetFree l x (headSpec (Jvm.Cond.code x code maxLocals ret :: tables_1) room_1) (lw_P b xs) (fun _ _ _ _ _ => True) lw_Q := by
  refine MetFree.of_bodyS (code := code) (maxLocals := maxLocals) (ret := ret) (by decide) ?_ ?_
  · intro args s m h hn
    obtain ⟨meth, c, h1, h2, h3, h4, h5, h6, -, -⟩ := Cond.code_spec hn (atoms_spec (ws := Jvm.Cond.code x code maxLocals ret :: tables_1) h _ List.mem_cons_self)
    exact ⟨meth, c, h1, h2, h3, h4, h5, h6⟩
  · intro p e s m args below meth c s₁ B hml0 hP _
    obtain ⟨rfl, hx, hbd, hgv⟩ := hP
    obtain ⟨scr, harrAt, hlist, hof, hsmall⟩ := hx
    obtain ⟨hcb, hkn, -, -⟩ := State.arrayAt?_spec harrAt
    have hown : s.vm.findClass R_law = some m.cls := findClass_of_methodNamed B.named
    have hts0 : ∀ c ∈ (Jvm.Cond.code x code maxLocals ret :: tables_1), c.before #[Value.ref b] s = true := atoms_spec (ws := Jvm.Cond.code x code maxLocals ret :: tables_1) B.pre
    have hts : ∀ w ∈ lw_tbl, w.before #[Value.ref b] s = true := k2_hts_sels lw_privs (fun w hw => hts0 w (List.mem_cons_of_mem _ hw)) lw_privs_ok
    have hml : c.maxLocals = 9 := B.maxLocals_eq (hts0 _ List.mem_cons_self)
    have X₀ : Stand p l e room_1 s m #[Value.ref b] below meth c s₁ [] 0 0 := Stand.of_body B
    have hh0 : s₁.heap = s.heap := by rw [B.state]; rfl
    have hsz : scr.slots.size = xs.length := by rw [← Array.length_toList, hlist, List.length_map]
    have hval : ∀ j : Nat, j < xs.length → scr.slots[j]? = some (.int (xs.getD j 0)) := fun j hj => by
      rw [← Array.getElem?_toList, hlist]
      simp [hj]
    have hbl : b < s.heap.size := (Array.getElem?_eq_some_iff.mp hcb).1
    have hX : va_X b xs.length (fun j => xs.getD j 0) s s.heap := ⟨scr, hcb, hof, hkn, hsz, hval⟩
    have K : W p l e room_1 s m #[Value.ref b] below meth c s₁.heap [] 0 0 (lw_Z below #[Value.ref b] s) (entryFrame m ([Value.ref b] : List Value).toArray 9) := by
      rw [hh0]
      exact whole_start l hflags hbd ⟨B.exec, B.bytes, B.returns, hml, hown, hts, hX, hbl, B.notSynchronized, hgv⟩
    obtain ⟨t, a1, o, b1, b2, b3⟩ := K s₁ rfl X₀
    exact ⟨t, o, a1, b1, b2, b3⟩
theorem lw_pre_spec {args : Array Value} {s : State} (h : (Jvm.Cond.and given_1 narrow_1).before args s = true) (hr : rest_1_c.before args s = true) : ∃ (b : Addr) (xs : List Int32), lw_P b xs args s := by
  have hs := flat_of_before _ h
  have hq := flat_of_before _ hr
  have hc : (Cond.count 1).before args s = true := hs _ (by decide +kernel)
  have harr : (Cond.arrayOf (.arg 0) .int).before args s = true := hs _ (by decide +kernel)
  have hle : (Cond.le (.length (.arg 0)) (.int 3072)).before args s = true := hs _ (by decide +kernel)
  have hlen : (Cond.isInt (.length (.arg 0))).before args s = true := hq _ (by decide +kernel)
  have hall : (Cond.all (.arg 0) (.isInt (.elem (.arg 0) (.index 0)))).before args s = true := hq _ (by decide +kernel)
  obtain ⟨b, xs, hb, hx⟩ := State.ints_of_pre rfl harr hlen hall
  have hsm : xs.length < 2 ^ 31 := hx.choose_spec.2.2.2
  have hev : (Term.length (.arg 0)).eval args s none [] s = some (.int xs.length.toInt32) := hx.length_eval hb
  have hv := Cond.le_ints hev (show (Term.int 3072).eval args s none [] s = some (.int 3072) from rfl)
  have hd : xs.length.toInt32 ≤ 3072 := by
    simpa [Cond.before, Cond.holds, hv] using hle
  have hN : xs.length ≤ 3072 := (Int32.ofNat_le_ofNat hsm (by decide)).mp (show Int32.ofNat xs.length ≤ Int32.ofNat 3072 from hd)
  exact ⟨b, xs, Cond.one_arg hc (show args[0]? = some (.ref b) from hb), hx, hN, h⟩
theorem lw_comes (l : Launch) (hflags : l.flags = flags0) : Comes l x (Jvm.Cond.code x code maxLocals ret :: tables_1) room_1 (fun tb e args s => Calls_1 tb e args s ∧ rest_1 tb e args s ∧ Pre_1 tb e args s)
    (fun _ _ args s o t => lw_Q args s o t) := by
  intro p e ha hc hk s m args below hf hfit hheap happ hpre
  obtain ⟨b, xs, hP⟩ := lw_pre_spec hpre.2.2 hpre.2.1
  obtain ⟨k, o, h1, h2, h3, hQ⟩ := lw_walk l hflags b xs p e ha hc hk s m args below hf ((Spec.applies_iff_loose hf).mp happ).1 hP trivial
  exact ⟨k, o, h1, h2, h3, hQ⟩
theorem lw_frame {s t : State} {o : Outcome} {args : Array Value} (h : State.butDraws s t lw_cs (fun t1 => Framed s o t1 [] 601024 7293034)) :
    State.butDraws s t [Jvm.Choice.named "NaN.bits"] (fun t1 => Framed s o t1 (fieldLocs frame_1_writes args s ++ arrayLocs frame_1_arrays args s ++ staticLocs frame_1_statics s) 601024 7293034) := h
theorem lw_limb (L : Cond) (hL : ∀ (args : Array Value) (s t : State), L.after args s (.returned (some (.int 1))) t = true) :
    ArmFor flags0 classFile x code maxLocals ret World_1 tables_1 room_1 Calls_1 rest_1 Pre_1
      (fun tb e a s o t => postC L tb e a s o t ∧ State.butDraws s t [Jvm.Choice.named "NaN.bits"] (fun t1 => Framed s o t1 (fieldLocs frame_1_writes a s ++ arrayLocs frame_1_arrays a s ++ staticLocs frame_1_statics s) 601024 7293034)) := by
  intro l hflags _ _ p e ha hc hk s m args below hf hfit hheap happ hpre
  obtain ⟨k, o, h1, h2, h3, rfl, hF⟩ := lw_comes l hflags p e ha hc hk s m args below hf hfit hheap happ hpre
  exact ⟨k, _, h1, h2, h3, hL args s _, lw_frame hF⟩
theorem i_vc : Claimed_1_1 ∧ Claimed_1_2 := ⟨lw_limb limb_1_1 (fun args s t => by simp [limb_1_1, Cond.after, Cond.holds, Cond.value]), lw_limb limb_1_2 (fun args s t => Cond.after_iff.mpr (by
  first | (rw [show limb_1_2 = Cond.eq .result (.int 1) from rfl, Cond.eq_ints (x := 1) (y := 1) rfl rfl]; simp; done) | (simp [limb_1_2, Cond.value, Term.eval]; done)))⟩
