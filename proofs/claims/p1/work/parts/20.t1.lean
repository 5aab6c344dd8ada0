def sp_X8_init : am_S := fun as n E K => ∃ (t : Nat), as = [.ref t] ∧ n = t + 1 ∧ E t = some (.inr (8, [.null, .null, .null, .null, .null, .null, .null, .null, .null, .null, .null, .null, .null, .null, .int 0, .int 0, .int 0, .int 0, .int 0, .int 0, .long 0, .int 0])) ∧ ∀ E' : am_E, am_MS t E' am_s0 0 → (∀ k, k < t → E' k = E k) → K (.inl none) (t + 121) E'
def rm_X8_init : Room := { frames := 1, cells := 120, slots := 61957, locals := 20 }
theorem rmc_X8_init : rm_X8_init.cells = 120 := rfl
theorem rms_X8_init : rm_X8_init.slots = 61957 := rfl
def bk_X8_init_0 (K : am_P) (G : Nat → am_C) : am_C := o_aload 0 <| o_oinit <| o_aload 0 <| o_pi 144 <| o_newa 0 rm_X8_init.cells rm_X8_init.slots <| o_putf 8 0 (.array .int) <| o_aload 0 <| o_pi 30 <| o_newa 0 rm_X8_init.cells rm_X8_init.slots <| o_putf 8 1 (.array .int) <| o_aload 0 <| o_pi 30 <| o_newa 2 rm_X8_init.cells rm_X8_init.slots <| o_putf 8 2 (.array .char) <| o_aload 0 <| o_pi 30 <| o_newa 2 rm_X8_init.cells rm_X8_init.slots <| o_putf 8 3 (.array .char) <| o_aload 0 <| o_pi 30 <| o_newa 0 rm_X8_init.cells rm_X8_init.slots <| o_putf 8 4 (.array .int) <| o_aload 0 <| o_pi 30 <| o_newa 0 rm_X8_init.cells rm_X8_init.slots <| o_putf 8 5 (.array .int) <| o_aload 0 <| o_pi 30 <| o_pi 5 <| o_mna 7 2 30 5 (5, .inl (fun _ => 0)) rm_X8_init.cells rm_X8_init.slots <| o_putf 8 6 (.array (.array .char)) <| o_aload 0 <| o_pi 30 <| o_pi 5 <| o_mna 8 3 30 5 (5, .inl (fun _ => 0)) rm_X8_init.cells rm_X8_init.slots <| o_putf 8 7 (.array (.array .boolean)) <| o_aload 0 <| o_pi 30 <| o_newa 0 rm_X8_init.cells rm_X8_init.slots <| o_putf 8 8 (.array .int) <| o_aload 0 <| o_pi 8 <| o_pi 3 <| o_mna 9 0 8 3 (3, .inl (fun _ => 0)) rm_X8_init.cells rm_X8_init.slots <| o_putf 8 9 (.array (.array .int)) <| o_aload 0 <| o_pi 8 <| o_newa 2 rm_X8_init.cells rm_X8_init.slots <| o_putf 8 10 (.array .char) <| o_aload 0 <| o_pi 8 <| o_pi 144 <| o_mna 8 3 8 144 (144, .inl (fun _ => 0)) rm_X8_init.cells rm_X8_init.slots <| o_putf 8 11 (.array (.array .boolean)) <| o_aload 0 <| o_pi 13 <| o_newa 3 rm_X8_init.cells rm_X8_init.slots <| o_putf 8 12 (.array .boolean) <| o_aload 0 <| o_pi 30 <| o_pi 2001 <| o_mna 8 3 30 2001 (2001, .inl (fun _ => 0)) rm_X8_init.cells rm_X8_init.slots <| o_putf 8 13 (.array (.array .boolean)) <| o_aload 0 <| o_pi 1 <| o_putf 8 16 .int <| o_aload 0 <| o_pi (-1) <| o_putf 8 19 .int <| o_aload 0 <| o_pl 1 <| o_putf 8 20 .long <| o_pi 0 <| o_istore 1 <| (G 153)
def bk_X8_init_153 (K : am_P) (G : Nat → am_C) : am_C := o_iload 1 <| o_pi 144 <| o_ic_ge (o_pi 0 <| o_istore 1 <| (G 176)) (o_aload 0 <| o_getf 8 0 <| o_iload 1 <| o_pi (-2) <| o_ist 0 .int <| o_iinc 1 1 <| (G 153))
def bk_X8_init_176 (K : am_P) (G : Nat → am_C) : am_C := o_iload 1 <| o_pi 30 <| o_ic_ge (o_vret K) (o_aload 0 <| o_getf 8 2 <| o_iload 1 <| o_pi 45 <| o_ist 2 .char <| o_aload 0 <| o_getf 8 3 <| o_iload 1 <| o_pi 45 <| o_ist 2 .char <| o_iinc 1 1 <| (G 176))
def cl_X8_init (K : am_P) (G : Nat → am_C) : Prop := am_imp (bk_X8_init_0 K G) (G 0) ∧ am_imp (bk_X8_init_153 K G) (G 153) ∧ am_imp (bk_X8_init_176 K G) (G 176)
/-- a cells and b pieces are begun -/
def mi_E (t a b k : Nat) : va_E := if k = 1 then .inl (0, 144, .inl (fun q => if q < a then -2 else 0)) else if k = 3 ∨ k = 4 then .inl (2, 30, .inl (fun q => if q < b then 45 else 0)) else ms_E t am_s0 (fun _ => 0) (fun _ _ => 0) (fun _ _ => false) 0 k
def mi_I (t a b : Nat) (E0 E : am_E) : Prop := (∀ k, k < t → E k = E0 k) ∧ ∀ k, k < 121 → E (t + k) = some (mi_E t a b k)
theorem mi_end {t : Nat} {E0 E : am_E} (h : mi_I t 144 30 E0 E) : am_MT t E am_s0 (fun _ => 0) (fun _ _ => 0) (fun _ _ => false) 0 := by
  refine ⟨s0_iv, fun p _ => ⟨Nat.zero_le _, fun i hi => absurd hi (Nat.not_lt_zero i), fun k _ => ⟨rfl, rfl⟩⟩, fun k hk => ?_⟩
  rw [h.2 k hk]
  unfold mi_E
  by_cases k1 : k = 1
  · subst k1
    rw [if_pos rfl]
    show some (Sum.inl (0, 144, Sum.inl (fun q => if q < 144 then -2 else 0))) = some (Sum.inl (0, 144, Sum.inl (st_f am_s0)))
    rw [s0_f2]
  · rw [if_neg k1]
    by_cases k3 : k = 3 ∨ k = 4
    · rw [if_pos k3]
      have e2 : (fun q => if q < 30 then (45 : Int32) else 0) = fun p => nI (am_s0 2 p 0) := by
        funext q
        show _ = nI (if q < 30 then 45 else 0)
        by_cases h9 : q < 30
        · rw [if_pos h9, if_pos h9]; rfl
        · rw [if_neg h9, if_neg h9]; rfl
      rcases k3 with rfl | rfl
      · show some (Sum.inl (2, 30, Sum.inl (fun q => if q < 30 then (45 : Int32) else 0))) = some (Sum.inl (2, 30, Sum.inl (fun p => nI (am_s0 2 p 0))))
        rw [e2]
      · show some (Sum.inl (2, 30, Sum.inl (fun q => if q < 30 then (45 : Int32) else 0))) = some (Sum.inl (2, 30, Sum.inl (fun p => nI (am_s0 3 p 0))))
        rw [e2]
        rfl
    · rw [if_neg k3]
theorem mi_upd {v : Int32} {i : Nat} : upd (fun q => if q < i then v else 0) i v = fun q => if q < i + 1 then v else 0 := by
  funext k
  unfold upd
  by_cases hk : k = i
  · subst hk
    simp
  · by_cases h9 : k < i
    · simp [hk, h9, show k < i + 1 by omega]
    · simp [hk, h9, show ¬ k < i + 1 by omega]
theorem f_X8_init (K : am_P) (G : Nat → am_C) (hC : cl_X8_init K G) (as : List Value) (n : Nat) (E : am_E) (hS : sp_X8_init as n E K) : (am_sl as).length ≤ 2 ∧ G 0 (am_inl 2 as) [] n E 0 0 := by
  obtain ⟨t, rfl, rfl, h1, hK⟩ := hS
  refine ⟨by simp [am_sl, Value.category], ?_⟩
  have obj : ∀ a b E', mi_I t a b E E' → E' t = some (.inr (8, [.ref (t + 1), .ref (t + 2), .ref (t + 3), .ref (t + 4), .ref (t + 5), .ref (t + 6), .ref (t + 7), .ref (t + 38), .ref (t + 69), .ref (t + 70), .ref (t + 79), .ref (t + 80), .ref (t + 89), .ref (t + 90), .int 0, .int 0, .int 1, .int 0, .int 0, .int (-1), .long 1, .int 0])) := fun a b E' hI => hI.2 0 (by decide)
  have loop2 := am_for (fun i => ∀ (E' : am_E), mi_I t 144 i E E' → G 176 [some (.ref t), some (.int (nI i))] [] (t + 121) E' 120 61957) 30 (by
    intro E' hI
    have hk := hK E' ⟨_, _, _, mi_end hI⟩ hI.1
    apply hC.2.2
    simp only [bk_X8_init_0, bk_X8_init_153, bk_X8_init_176, o_pi, o_pl, o_pf, o_pd, o_iload, o_lload, o_fload, o_dload, o_aload, o_istore, o_lstore, o_fstore, o_dstore, o_astore, o_iinc, o_ib, o_ibz, o_lb, o_lbz, o_lsh, o_lcmp, o_ineg, o_i2l, o_l2i, o_i2c, o_i2f, o_i2d, o_f2d, o_fdiv, o_ddiv, o_fcmp, o_dcmp, o_dup, o_dup2, o_pop, o_if_eq, o_if_ne, o_if_lt, o_if_ge, o_if_gt, o_if_le, o_ic_eq, o_ic_ne, o_ic_lt, o_ic_ge, o_ic_gt, o_ic_le, o_if, o_ic, o_getf, o_putf, o_ild, o_ist, o_lld, o_lst, o_dld, o_dst, o_ald, o_alen, o_new, o_newa, o_ast, o_oinit, o_iret, o_lret, o_fret, o_dret, o_aret, o_vret, o_throw, o_call, o_callV, am_kc, am_noX, o_im, o_ia, o_gets, o_ldcK, o_getK, o_codK, o_lenK, o_bldK, o_i2b, o_callK, o_mna, am_s1, am_s2, am_kill, am_inl, am_sl, Value.category, List.getElem?_cons_zero, List.getElem?_cons_succ, List.set_cons_zero, List.set_cons_succ, List.length_cons, List.length_nil, List.take_succ_cons, List.take_zero, List.drop_succ_cons, List.drop_zero, List.reverse_cons, List.reverse_nil, List.nil_append, List.cons_append, List.append_nil, List.map_cons, List.map_nil, List.sum_cons, List.sum_nil, List.replicate_succ, List.replicate_zero, Nat.zero_add, Nat.add_zero, Nat.le_refl, Nat.zero_le, ite_true, ite_false, if_true, if_false, true_and, and_true, eq_self, not_true_eq_false, not_false_eq_true, am_nb0, am_nb1, am_ni, am_fi, am_fr, am_fra, am_fz0, am_fz1, am_fl, am_uE, am_vnI, am_uu, am_ltx, ite_not, Classical.not_not, reduceIte, reduceCtorEq, Nat.reduceEqDiff, Nat.reduceAdd, Nat.reduceSub, Nat.reduceMul, Nat.reduceLeDiff, Nat.reduceLT, Int32.reduceLE, Int32.reduceLT, am_10, am_01, am_ite0, am_ite1, ms_boT, ms_boF, rmc_X8_init, rms_X8_init]
    exact hk) (fun i hi hn E' hI => by
    have o := obj _ _ _ hI
    have g3 : E' (t + 3) = some (.inl (2, 30, .inl (fun q => if q < i then 45 else 0))) := hI.2 3 (by decide)
    have g4 : E' (t + 4) = some (.inl (2, 30, .inl (fun q => if q < i then 45 else 0))) := hI.2 4 (by decide)
    have n1 : t ≠ t + 3 := by omega
    have n2 : t + 4 ≠ t + 3 := by omega
    have ev : vp_nar .char 45 = 45 := am_vcn (q := 45) (by decide)
    apply hC.2.2
    simp only [bk_X8_init_0, bk_X8_init_153, bk_X8_init_176, o_pi, o_pl, o_pf, o_pd, o_iload, o_lload, o_fload, o_dload, o_aload, o_istore, o_lstore, o_fstore, o_dstore, o_astore, o_iinc, o_ib, o_ibz, o_lb, o_lbz, o_lsh, o_lcmp, o_ineg, o_i2l, o_l2i, o_i2c, o_i2f, o_i2d, o_f2d, o_fdiv, o_ddiv, o_fcmp, o_dcmp, o_dup, o_dup2, o_pop, o_if_eq, o_if_ne, o_if_lt, o_if_ge, o_if_gt, o_if_le, o_ic_eq, o_ic_ne, o_ic_lt, o_ic_ge, o_ic_gt, o_ic_le, o_if, o_ic, o_getf, o_putf, o_ild, o_ist, o_lld, o_lst, o_dld, o_dst, o_ald, o_alen, o_new, o_newa, o_ast, o_oinit, o_iret, o_lret, o_fret, o_dret, o_aret, o_vret, o_throw, o_call, o_callV, am_kc, am_noX, o_im, o_ia, o_gets, o_ldcK, o_getK, o_codK, o_lenK, o_bldK, o_i2b, o_callK, o_mna, am_s1, am_s2, am_kill, am_inl, am_sl, Value.category, List.getElem?_cons_zero, List.getElem?_cons_succ, List.set_cons_zero, List.set_cons_succ, List.length_cons, List.length_nil, List.take_succ_cons, List.take_zero, List.drop_succ_cons, List.drop_zero, List.reverse_cons, List.reverse_nil, List.nil_append, List.cons_append, List.append_nil, List.map_cons, List.map_nil, List.sum_cons, List.sum_nil, List.replicate_succ, List.replicate_zero, Nat.zero_add, Nat.add_zero, Nat.le_refl, Nat.zero_le, ite_true, ite_false, if_true, if_false, true_and, and_true, eq_self, not_true_eq_false, not_false_eq_true, am_nb0, am_nb1, am_ni, am_fi, am_fr, am_fra, am_fz0, am_fz1, am_fl, am_uE, am_vnI, am_uu, am_ltx, ite_not, Classical.not_not, reduceIte, reduceCtorEq, Nat.reduceEqDiff, Nat.reduceAdd, Nat.reduceSub, Nat.reduceMul, Nat.reduceLeDiff, Nat.reduceLT, Int32.reduceLE, Int32.reduceLT, am_10, am_01, am_ite0, am_ite1, ms_boT, ms_boF, rmc_X8_init, rms_X8_init, show ((30 : Int32) ≤ nI (i)) = False from am_nge (show i < 30 by omega) (by decide), o, g3, g4, am_uN n1, am_uN n2, am_vi hi (show 30 < 2 ^ 31 by decide), am_cl (show i < 2 ^ 31 by omega), ev, nI_1]
    rw [mi_upd]
    refine hn _ ⟨fun k hk => by rw [am_uN (by omega), am_uN (by omega)]; exact hI.1 k hk, fun k hk => ?_⟩
    by_cases k3 : k = 3
    · subst k3
      rw [am_uN (by omega), am_uE]
      rfl
    · by_cases k4 : k = 4
      · subst k4
        rw [am_uE]
        rfl
      · rw [am_uN (by omega), am_uN (by omega), hI.2 k hk]
        unfold mi_E
        by_cases k1 : k = 1
        · rw [if_pos k1, if_pos k1]
        · rw [if_neg k1, if_neg k1, if_neg (by omega), if_neg (by omega)])
  have loop1 := am_for (fun i => ∀ (E' : am_E), mi_I t i 0 E E' → G 153 [some (.ref t), some (.int (nI i))] [] (t + 121) E' 120 61957) 144 (by
    intro E' hI
    have hl := loop2 0 (by omega) E' hI
    apply hC.2.1
    simp only [bk_X8_init_0, bk_X8_init_153, bk_X8_init_176, o_pi, o_pl, o_pf, o_pd, o_iload, o_lload, o_fload, o_dload, o_aload, o_istore, o_lstore, o_fstore, o_dstore, o_astore, o_iinc, o_ib, o_ibz, o_lb, o_lbz, o_lsh, o_lcmp, o_ineg, o_i2l, o_l2i, o_i2c, o_i2f, o_i2d, o_f2d, o_fdiv, o_ddiv, o_fcmp, o_dcmp, o_dup, o_dup2, o_pop, o_if_eq, o_if_ne, o_if_lt, o_if_ge, o_if_gt, o_if_le, o_ic_eq, o_ic_ne, o_ic_lt, o_ic_ge, o_ic_gt, o_ic_le, o_if, o_ic, o_getf, o_putf, o_ild, o_ist, o_lld, o_lst, o_dld, o_dst, o_ald, o_alen, o_new, o_newa, o_ast, o_oinit, o_iret, o_lret, o_fret, o_dret, o_aret, o_vret, o_throw, o_call, o_callV, am_kc, am_noX, o_im, o_ia, o_gets, o_ldcK, o_getK, o_codK, o_lenK, o_bldK, o_i2b, o_callK, o_mna, am_s1, am_s2, am_kill, am_inl, am_sl, Value.category, List.getElem?_cons_zero, List.getElem?_cons_succ, List.set_cons_zero, List.set_cons_succ, List.length_cons, List.length_nil, List.take_succ_cons, List.take_zero, List.drop_succ_cons, List.drop_zero, List.reverse_cons, List.reverse_nil, List.nil_append, List.cons_append, List.append_nil, List.map_cons, List.map_nil, List.sum_cons, List.sum_nil, List.replicate_succ, List.replicate_zero, Nat.zero_add, Nat.add_zero, Nat.le_refl, Nat.zero_le, ite_true, ite_false, if_true, if_false, true_and, and_true, eq_self, not_true_eq_false, not_false_eq_true, am_nb0, am_nb1, am_ni, am_fi, am_fr, am_fra, am_fz0, am_fz1, am_fl, am_uE, am_vnI, am_uu, am_ltx, ite_not, Classical.not_not, reduceIte, reduceCtorEq, Nat.reduceEqDiff, Nat.reduceAdd, Nat.reduceSub, Nat.reduceMul, Nat.reduceLeDiff, Nat.reduceLT, Int32.reduceLE, Int32.reduceLT, am_10, am_01, am_ite0, am_ite1, ms_boT, ms_boF, rmc_X8_init, rms_X8_init, show ((144 : Int32) ≤ nI 144) = True by decide]
    exact hl) (fun i hi hn E' hI => by
    have o := obj _ _ _ hI
    have g1 : E' (t + 1) = some (.inl (0, 144, .inl (fun q => if q < i then -2 else 0))) := hI.2 1 (by decide)
    apply hC.2.1
    simp only [bk_X8_init_0, bk_X8_init_153, bk_X8_init_176, o_pi, o_pl, o_pf, o_pd, o_iload, o_lload, o_fload, o_dload, o_aload, o_istore, o_lstore, o_fstore, o_dstore, o_astore, o_iinc, o_ib, o_ibz, o_lb, o_lbz, o_lsh, o_lcmp, o_ineg, o_i2l, o_l2i, o_i2c, o_i2f, o_i2d, o_f2d, o_fdiv, o_ddiv, o_fcmp, o_dcmp, o_dup, o_dup2, o_pop, o_if_eq, o_if_ne, o_if_lt, o_if_ge, o_if_gt, o_if_le, o_ic_eq, o_ic_ne, o_ic_lt, o_ic_ge, o_ic_gt, o_ic_le, o_if, o_ic, o_getf, o_putf, o_ild, o_ist, o_lld, o_lst, o_dld, o_dst, o_ald, o_alen, o_new, o_newa, o_ast, o_oinit, o_iret, o_lret, o_fret, o_dret, o_aret, o_vret, o_throw, o_call, o_callV, am_kc, am_noX, o_im, o_ia, o_gets, o_ldcK, o_getK, o_codK, o_lenK, o_bldK, o_i2b, o_callK, o_mna, am_s1, am_s2, am_kill, am_inl, am_sl, Value.category, List.getElem?_cons_zero, List.getElem?_cons_succ, List.set_cons_zero, List.set_cons_succ, List.length_cons, List.length_nil, List.take_succ_cons, List.take_zero, List.drop_succ_cons, List.drop_zero, List.reverse_cons, List.reverse_nil, List.nil_append, List.cons_append, List.append_nil, List.map_cons, List.map_nil, List.sum_cons, List.sum_nil, List.replicate_succ, List.replicate_zero, Nat.zero_add, Nat.add_zero, Nat.le_refl, Nat.zero_le, ite_true, ite_false, if_true, if_false, true_and, and_true, eq_self, not_true_eq_false, not_false_eq_true, am_nb0, am_nb1, am_ni, am_fi, am_fr, am_fra, am_fz0, am_fz1, am_fl, am_uE, am_vnI, am_uu, am_ltx, ite_not, Classical.not_not, reduceIte, reduceCtorEq, Nat.reduceEqDiff, Nat.reduceAdd, Nat.reduceSub, Nat.reduceMul, Nat.reduceLeDiff, Nat.reduceLT, Int32.reduceLE, Int32.reduceLT, am_10, am_01, am_ite0, am_ite1, ms_boT, ms_boF, rmc_X8_init, rms_X8_init, show ((144 : Int32) ≤ nI (i)) = False from am_nge (show i < 144 by omega) (by decide), o, g1, am_vi hi (show 144 < 2 ^ 31 by decide), am_cl (show i < 2 ^ 31 by omega), nI_1]
    rw [mi_upd]
    refine hn _ ⟨fun k hk => by rw [am_uN (by omega)]; exact hI.1 k hk, fun k hk => ?_⟩
    by_cases k1 : k = 1
    · subst k1
      rw [am_uE]
      rfl
    · rw [am_uN (by omega), hI.2 k hk]
      unfold mi_E
      rw [if_neg k1, if_neg k1])
  have um1 : ∀ (E9 : am_E) a b z, am_um E9 (t + 7) 30 a b z t = E9 t := fun _ _ _ _ => am_umN (Or.inl (by omega))
  have um2 : ∀ (E9 : am_E) a b z, am_um E9 (t + 38) 30 a b z t = E9 t := fun _ _ _ _ => am_umN (Or.inl (by omega))
  have um3 : ∀ (E9 : am_E) a b z, am_um E9 (t + 70) 8 a b z t = E9 t := fun _ _ _ _ => am_umN (Or.inl (by omega))
  have um4 : ∀ (E9 : am_E) a b z, am_um E9 (t + 80) 8 a b z t = E9 t := fun _ _ _ _ => am_umN (Or.inl (by omega))
  have um5 : ∀ (E9 : am_E) a b z, am_um E9 (t + 90) 30 a b z t = E9 t := fun _ _ _ _ => am_umN (Or.inl (by omega))
  have nI30 : (30 : Int32) = nI 30 := rfl
  have nI5 : (5 : Int32) = nI 5 := rfl
  have nI8 : (8 : Int32) = nI 8 := rfl
  have nI3 : (3 : Int32) = nI 3 := rfl
  have nI144 : (144 : Int32) = nI 144 := rfl
  have nI2001 : (2001 : Int32) = nI 2001 := rfl
  have ct (k : Nat) (h : k < 2 ^ 31) : (nI k).toNatClampNeg = k := nI_clamp h
  apply hC.1
  simp only [bk_X8_init_0, bk_X8_init_153, bk_X8_init_176, o_pi, o_pl, o_pf, o_pd, o_iload, o_lload, o_fload, o_dload, o_aload, o_istore, o_lstore, o_fstore, o_dstore, o_astore, o_iinc, o_ib, o_ibz, o_lb, o_lbz, o_lsh, o_lcmp, o_ineg, o_i2l, o_l2i, o_i2c, o_i2f, o_i2d, o_f2d, o_fdiv, o_ddiv, o_fcmp, o_dcmp, o_dup, o_dup2, o_pop, o_if_eq, o_if_ne, o_if_lt, o_if_ge, o_if_gt, o_if_le, o_ic_eq, o_ic_ne, o_ic_lt, o_ic_ge, o_ic_gt, o_ic_le, o_if, o_ic, o_getf, o_putf, o_ild, o_ist, o_lld, o_lst, o_dld, o_dst, o_ald, o_alen, o_new, o_newa, o_ast, o_oinit, o_iret, o_lret, o_fret, o_dret, o_aret, o_vret, o_throw, o_call, o_callV, am_kc, am_noX, o_im, o_ia, o_gets, o_ldcK, o_getK, o_codK, o_lenK, o_bldK, o_i2b, o_callK, o_mna, am_s1, am_s2, am_kill, am_inl, am_sl, Value.category, List.getElem?_cons_zero, List.getElem?_cons_succ, List.set_cons_zero, List.set_cons_succ, List.length_cons, List.length_nil, List.take_succ_cons, List.take_zero, List.drop_succ_cons, List.drop_zero, List.reverse_cons, List.reverse_nil, List.nil_append, List.cons_append, List.append_nil, List.map_cons, List.map_nil, List.sum_cons, List.sum_nil, List.replicate_succ, List.replicate_zero, Nat.zero_add, Nat.add_zero, Nat.le_refl, Nat.zero_le, ite_true, ite_false, if_true, if_false, true_and, and_true, eq_self, not_true_eq_false, not_false_eq_true, am_nb0, am_nb1, am_ni, am_fi, am_fr, am_fra, am_fz0, am_fz1, am_fl, am_uE, am_vnI, am_uu, am_ltx, ite_not, Classical.not_not, reduceIte, reduceCtorEq, Nat.reduceEqDiff, Nat.reduceAdd, Nat.reduceSub, Nat.reduceMul, Nat.reduceLeDiff, Nat.reduceLT, Int32.reduceLE, Int32.reduceLT, am_10, am_01, am_ite0, am_ite1, ms_boT, ms_boF, rmc_X8_init, rms_X8_init, h1, am_uA, am_q1, am_q2, Nat.add_assoc, am_clL 144 (by decide), am_clL 30 (by decide), am_clL 8 (by decide), am_clL 13 (by decide), um1, um2, um3, um4, um5]
  refine ⟨rfl, rfl, rfl, rfl, rfl, rfl, rfl, rfl, rfl, rfl, loop1 0 (by omega) _ ⟨fun k hk => ?_, fun k hk => ?_⟩⟩
  · repeat (first | rw [am_uN (by omega)] | rw [am_umN (by omega)])
  · have e0 : ∀ v : Int32, (fun q : Nat => if q < 0 then v else 0) = fun _ => 0 := fun v => by
      funext q
      rw [if_neg (Nat.not_lt_zero q)]
    by_cases a8 : k < 8
    · clear hk
      refine (Nat.lt_succ_iff_lt_or_eq.mp a8).elim (fun a8 => ?_) (fun e => by
        subst e
        repeat (first | rw [am_uN (by omega)] | rw [am_umN (by omega)])
        first | rw [am_uE] | rw [am_umE]
        rfl)
      refine (Nat.lt_succ_iff_lt_or_eq.mp a8).elim (fun a8 => ?_) (fun e => by
        subst e
        repeat (first | rw [am_uN (by omega)] | rw [am_umN (by omega)])
        first | rw [am_uE] | rw [am_umE]
        rfl)
      refine (Nat.lt_succ_iff_lt_or_eq.mp a8).elim (fun a8 => ?_) (fun e => by
        subst e
        repeat (first | rw [am_uN (by omega)] | rw [am_umN (by omega)])
        first | rw [am_uE] | rw [am_umE]
        rfl)
      refine (Nat.lt_succ_iff_lt_or_eq.mp a8).elim (fun a8 => ?_) (fun e => by
        subst e
        repeat (first | rw [am_uN (by omega)] | rw [am_umN (by omega)])
        rw [am_uE]
        show _ = some (Sum.inl (2, 30, Sum.inl (fun q : Nat => if q < 0 then (45 : Int32) else 0)))
        rw [e0]
        rfl)
      refine (Nat.lt_succ_iff_lt_or_eq.mp a8).elim (fun a8 => ?_) (fun e => by
        subst e
        repeat (first | rw [am_uN (by omega)] | rw [am_umN (by omega)])
        rw [am_uE]
        show _ = some (Sum.inl (2, 30, Sum.inl (fun q : Nat => if q < 0 then (45 : Int32) else 0)))
        rw [e0]
        rfl)
      refine (Nat.lt_succ_iff_lt_or_eq.mp a8).elim (fun a8 => ?_) (fun e => by
        subst e
        repeat (first | rw [am_uN (by omega)] | rw [am_umN (by omega)])
        first | rw [am_uE] | rw [am_umE]
        rfl)
      refine (Nat.lt_succ_iff_lt_or_eq.mp a8).elim (fun a8 => ?_) (fun e => by
        subst e
        repeat (first | rw [am_uN (by omega)] | rw [am_umN (by omega)])
        first | rw [am_uE] | rw [am_umE]
        show _ = some (Sum.inl (0, 144, Sum.inl (fun q : Nat => if q < 0 then (-2 : Int32) else 0)))
        rw [e0]
        rfl)
      refine (Nat.lt_succ_iff_lt_or_eq.mp a8).elim (fun a8 => ?_) (fun e => by
        subst e
        show am_u _ _ _ t = _
        repeat (first | rw [am_uN (by omega)] | rw [am_umN (by omega)])
        first | rw [am_uE] | rw [am_umE]
        rfl)
      exact absurd a8 (Nat.not_lt_zero _)
    · by_cases c38 : k < 38
      · unfold mi_E ms_E
        rw [if_neg (by omega), if_neg (by omega), if_neg (by omega), if_neg (by omega), if_neg (by omega), if_neg (by omega), if_neg (by omega), if_neg (by omega), if_neg (by omega), if_neg (by omega), if_pos (by omega)]
        repeat (first | rw [am_uN (by omega)] | rw [am_umN (by omega)])
        rw [am_umR (by omega)]
        rfl
      · by_cases e38 : k = 38
        · subst e38
          repeat (first | rw [am_uN (by omega)] | rw [am_umN (by omega)])
          rw [am_umE]
          rfl
        · by_cases c69 : k < 69
          · unfold mi_E ms_E
            rw [if_neg (by omega), if_neg (by omega), if_neg (by omega), if_neg (by omega), if_neg (by omega), if_neg (by omega), if_neg (by omega), if_neg (by omega), if_neg (by omega), if_neg (by omega), if_neg (by omega), if_neg (by omega), if_pos (by omega)]
            repeat (first | rw [am_uN (by omega)] | rw [am_umN (by omega)])
            rw [am_umR (by omega)]
            rfl
          · by_cases e69 : k = 69
            · subst e69
              repeat (first | rw [am_uN (by omega)] | rw [am_umN (by omega)])
              rw [am_uE]
              rfl
            · by_cases e70 : k = 70
              · subst e70
                repeat (first | rw [am_uN (by omega)] | rw [am_umN (by omega)])
                rw [am_umE]
                rfl
              · by_cases c79 : k < 79
                · unfold mi_E ms_E
                  rw [if_neg (by omega), if_neg (by omega), if_neg (by omega), if_neg (by omega), if_neg (by omega), if_neg (by omega), if_neg (by omega), if_neg (by omega), if_neg (by omega), if_neg (by omega), if_neg (by omega), if_neg (by omega), if_neg (by omega), if_neg (by omega), if_neg (by omega), if_pos (by omega)]
                  repeat (first | rw [am_uN (by omega)] | rw [am_umN (by omega)])
                  rw [am_umR (by omega)]
                  have ez : ms_sh am_s0 (k - 71) = fun _ => 0 := by
                    funext q
                    unfold ms_sh
                    split <;> rfl
                  rw [ez]
                · by_cases e79 : k = 79
                  · subst e79
                    repeat (first | rw [am_uN (by omega)] | rw [am_umN (by omega)])
                    rw [am_uE]
                    show _ = some (Sum.inl (2, 8, Sum.inl (fun q : Nat => if q < 0 then nI (am_s0 12 q 0) else 0)))
                    have e9 : (fun q : Nat => if q < 0 then nI (am_s0 12 q 0) else 0) = fun _ => 0 := by
                      funext q
                      rw [if_neg (Nat.not_lt_zero q)]
                    rw [e9]
                    rfl
                  · by_cases e80 : k = 80
                    · subst e80
                      repeat (first | rw [am_uN (by omega)] | rw [am_umN (by omega)])
                      rw [am_umE]
                      rfl
                    · by_cases c89 : k < 89
                      · unfold mi_E ms_E
                        rw [if_neg (by omega), if_neg (by omega), if_neg (by omega), if_neg (by omega), if_neg (by omega), if_neg (by omega), if_neg (by omega), if_neg (by omega), if_neg (by omega), if_neg (by omega), if_neg (by omega), if_neg (by omega), if_neg (by omega), if_neg (by omega), if_neg (by omega), if_neg (by omega), if_neg (by omega), if_neg (by omega), if_pos (by omega)]
                        repeat (first | rw [am_uN (by omega)] | rw [am_umN (by omega)])
                        rw [am_umR (by omega)]
                        have ez : (fun c => ms_bo (st_u am_s0 (k - 81) (c % 12) (c / 12))) = fun _ => 0 := by
                          funext q
                          rw [show st_u am_s0 (k - 81) (q % 12) (q / 12) = false from decide_eq_false (fun r => absurd r.2.2 (by show ¬ (0 : Nat) = 1; decide))]
                          rfl
                        rw [ez]
                      · by_cases e89 : k = 89
                        · subst e89
                          repeat (first | rw [am_uN (by omega)] | rw [am_umN (by omega)])
                          rw [am_uE]
                          rfl
                        · by_cases e90 : k = 90
                          · subst e90
                            repeat (first | rw [am_uN (by omega)] | rw [am_umN (by omega)])
                            rw [am_umE]
                            rfl
                          · unfold mi_E ms_E
                            rw [if_neg (by omega), if_neg (by omega), if_neg (by omega), if_neg (by omega), if_neg (by omega), if_neg (by omega), if_neg (by omega), if_neg (by omega), if_neg (by omega), if_neg (by omega), if_neg (by omega), if_neg (by omega), if_neg (by omega), if_neg (by omega), if_neg (by omega), if_neg (by omega), if_neg (by omega), if_neg (by omega), if_neg (by omega), if_neg (by omega), if_neg (by omega)]
                            repeat (first | rw [am_uN (by omega)] | rw [am_umN (by omega)])
                            rw [am_umR (by omega)]
                            have ez : (fun y => ms_bo (st_y am_s0 (k - 91) y)) = fun _ => 0 := by
                              funext q
                              rw [show st_y am_s0 (k - 91) q = false from decide_eq_false (fun r => absurd r.2 (by show ¬ (0 : Nat) = 1; decide))]
                              rfl
                            rw [ez]
set_option maxRecDepth 100000 in
set_option maxHeartbeats 4000000 in
theorem sd_X8_init (X : am_X) (K : am_P) (F : am_F X cX8_init yX8_init.cls none (am_ws yX8_init cX8_init 2 none)) (FQ : am_FQ X K rm_X8_init.cells rm_X8_init.slots) (hR : am_Rm X rm_X8_init) (hT : am_noT X) (hn : am_nL X = 2) (hini : am_ini X) : cl_X8_init K (am_G X) := by
  have ts : ∀ w ∈ am_WS, w ∈ am_ws yX8_init cX8_init 2 none := fun w h => List.mem_cons_of_mem _ h
  exact ⟨ms_aload_n F (am_dk (q := (0, .aload_n 0, 1)) dk_X8_init_0 0 rfl) rfl (ms_oinit F hR (by decide) (by decide) (ts _ wd_1017) (ts _ oi_inst) (ts _ oi_code) (am_dk (q := (1, .invokespecial 1, 3)) dk_X8_init_0 1 rfl) (ms_aload_n F (am_dk (q := (4, .aload_n 0, 1)) dk_X8_init_0 2 rfl) rfl (ms_sipush F (am_dk (q := (5, .sipush 144, 3)) dk_X8_init_0 3 rfl) (by decide +kernel) (ms_newa F hR (t := 0) (atype := .int) (by decide) (ts _ wd_44) (am_dk (q := (8, .newarray .int, 2)) dk_X8_init_0 4 rfl) (ms_putfF F (ty := (.array .int)) (ty0 := tyX8) (C := RX8) (T := TX8) (N := 22) (j := 0) (fun w h => ts _ (inw_X8 w h)) rfl (by decide) tyX8_ok nmX8 (by decide +kernel) rfl hini rfl (ts _ wd_1024) (am_dk (q := (10, .putfield 9, 3)) dk_X8_init_0 5 rfl) (ms_aload_n F (am_dk (q := (13, .aload_n 0, 1)) dk_X8_init_0 6 rfl) rfl (ms_bipush F (am_dk (q := (14, .bipush 30, 2)) dk_X8_init_0 7 rfl) (by decide +kernel) (ms_newa F hR (t := 0) (atype := .int) (by decide) (ts _ wd_44) (am_dk (q := (16, .newarray .int, 2)) dk_X8_init_0 8 rfl) (ms_putfF F (ty := (.array .int)) (ty0 := tyX8) (C := RX8) (T := TX8) (N := 22) (j := 1) (fun w h => ts _ (inw_X8 w h)) rfl (by decide) tyX8_ok nmX8 (by decide +kernel) rfl hini rfl (ts _ wd_1025) (am_dk (q := (18, .putfield 13, 3)) dk_X8_init_0 9 rfl) (ms_aload_n F (am_dk (q := (21, .aload_n 0, 1)) dk_X8_init_0 10 rfl) rfl (ms_bipush F (am_dk (q := (22, .bipush 30, 2)) dk_X8_init_0 11 rfl) (by decide +kernel) (ms_newa F hR (t := 2) (atype := .char) (by decide) (ts _ wd_1091) (am_dk (q := (24, .newarray .char, 2)) dk_X8_init_0 12 rfl) (ms_putfF F (ty := (.array .char)) (ty0 := tyX8) (C := RX8) (T := TX8) (N := 22) (j := 2) (fun w h => ts _ (inw_X8 w h)) rfl (by decide) tyX8_ok nmX8 (by decide +kernel) rfl hini rfl (ts _ wd_1026) (am_dk (q := (26, .putfield 16, 3)) dk_X8_init_0 13 rfl) (ms_aload_n F (am_dk (q := (29, .aload_n 0, 1)) dk_X8_init_0 14 rfl) rfl (ms_bipush F (am_dk (q := (30, .bipush 30, 2)) dk_X8_init_0 15 rfl) (by decide +kernel) (ms_newa F hR (t := 2) (atype := .char) (by decide) (ts _ wd_1091) (am_dk (q := (32, .newarray .char, 2)) dk_X8_init_0 16 rfl) (ms_putfF F (ty := (.array .char)) (ty0 := tyX8) (C := RX8) (T := TX8) (N := 22) (j := 3) (fun w h => ts _ (inw_X8 w h)) rfl (by decide) tyX8_ok nmX8 (by decide +kernel) rfl hini rfl (ts _ wd_1027) (am_dk (q := (34, .putfield 20, 3)) dk_X8_init_0 17 rfl) (ms_aload_n F (am_dk (q := (37, .aload_n 0, 1)) dk_X8_init_0 18 rfl) rfl (ms_bipush F (am_dk (q := (38, .bipush 30, 2)) dk_X8_init_0 19 rfl) (by decide +kernel) (ms_newa F hR (t := 0) (atype := .int) (by decide) (ts _ wd_44) (am_dk (q := (40, .newarray .int, 2)) dk_X8_init_0 20 rfl) (ms_putfF F (ty := (.array .int)) (ty0 := tyX8) (C := RX8) (T := TX8) (N := 22) (j := 4) (fun w h => ts _ (inw_X8 w h)) rfl (by decide) tyX8_ok nmX8 (by decide +kernel) rfl hini rfl (ts _ wd_1028) (am_dk (q := (42, .putfield 23, 3)) dk_X8_init_0 21 rfl) (ms_aload_n F (am_dk (q := (45, .aload_n 0, 1)) dk_X8_init_0 22 rfl) rfl (ms_bipush F (am_dk (q := (46, .bipush 30, 2)) dk_X8_init_0 23 rfl) (by decide +kernel) (ms_newa F hR (t := 0) (atype := .int) (by decide) (ts _ wd_44) (am_dk (q := (48, .newarray .int, 2)) dk_X8_init_0 24 rfl) (ms_putfF F (ty := (.array .int)) (ty0 := tyX8) (C := RX8) (T := TX8) (N := 22) (j := 5) (fun w h => ts _ (inw_X8 w h)) rfl (by decide) tyX8_ok nmX8 (by decide +kernel) rfl hini rfl (ts _ wd_1029) (am_dk (q := (50, .putfield 26, 3)) dk_X8_init_0 25 rfl) (ms_aload_n F (am_dk (q := (53, .aload_n 0, 1)) dk_X8_init_0 26 rfl) rfl (ms_bipush F (am_dk (q := (54, .bipush 30, 2)) dk_X8_init_0 27 rfl) (by decide +kernel) (ms_iconst F (am_dk (q := (56, .iconst 5, 1)) dk_X8_init_0 28 rfl) (by decide +kernel) (ms_mna F hR (t := 7) (ti := 2) (N := 30) (M := 5) (ty := .char) (z := (5, .inl (fun _ => 0))) (by simp) rfl (by decide) (by decide) (by rw [mna_char]; exact ts _ wd_1018) (ts _ wd_1091) (am_dk (q := (57, .multianewarray 29 2, 4)) dk_X8_init_0 29 rfl) (ms_putfF F (ty := (.array (.array .char))) (ty0 := tyX8) (C := RX8) (T := TX8) (N := 22) (j := 6) (fun w h => ts _ (inw_X8 w h)) rfl (by decide) tyX8_ok nmX8 (by decide +kernel) rfl hini rfl (ts _ wd_1030) (am_dk (q := (61, .putfield 31, 3)) dk_X8_init_0 30 rfl) (ms_aload_n F (am_dk (q := (64, .aload_n 0, 1)) dk_X8_init_0 31 rfl) rfl (ms_bipush F (am_dk (q := (65, .bipush 30, 2)) dk_X8_init_0 32 rfl) (by decide +kernel) (ms_iconst F (am_dk (q := (67, .iconst 5, 1)) dk_X8_init_0 33 rfl) (by decide +kernel) (ms_mna F hR (t := 8) (ti := 3) (N := 30) (M := 5) (ty := .boolean) (z := (5, .inl (fun _ => 0))) (by simp) rfl (by decide) (by decide) (by rw [mna_boolean]; exact ts _ wd_1020) (ts _ wd_1092) (am_dk (q := (68, .multianewarray 34 2, 4)) dk_X8_init_0 34 rfl) (ms_putfF F (ty := (.array (.array .boolean))) (ty0 := tyX8) (C := RX8) (T := TX8) (N := 22) (j := 7) (fun w h => ts _ (inw_X8 w h)) rfl (by decide) tyX8_ok nmX8 (by decide +kernel) rfl hini rfl (ts _ wd_1031) (am_dk (q := (72, .putfield 36, 3)) dk_X8_init_0 35 rfl) (ms_aload_n F (am_dk (q := (75, .aload_n 0, 1)) dk_X8_init_0 36 rfl) rfl (ms_bipush F (am_dk (q := (76, .bipush 30, 2)) dk_X8_init_0 37 rfl) (by decide +kernel) (ms_newa F hR (t := 0) (atype := .int) (by decide) (ts _ wd_44) (am_dk (q := (78, .newarray .int, 2)) dk_X8_init_0 38 rfl) (ms_putfF F (ty := (.array .int)) (ty0 := tyX8) (C := RX8) (T := TX8) (N := 22) (j := 8) (fun w h => ts _ (inw_X8 w h)) rfl (by decide) tyX8_ok nmX8 (by decide +kernel) rfl hini rfl (ts _ wd_1032) (am_dk (q := (80, .putfield 39, 3)) dk_X8_init_0 39 rfl) (ms_aload_n F (am_dk (q := (83, .aload_n 0, 1)) dk_X8_init_0 40 rfl) rfl (ms_bipush F (am_dk (q := (84, .bipush 8, 2)) dk_X8_init_0 41 rfl) (by decide +kernel) (ms_iconst F (am_dk (q := (86, .iconst 3, 1)) dk_X8_init_0 42 rfl) (by decide +kernel) (ms_mna F hR (t := 9) (ti := 0) (N := 8) (M := 3) (ty := .int) (z := (3, .inl (fun _ => 0))) (by simp) rfl (by decide) (by decide) (by rw [mna_int]; exact ts _ wd_1022) (ts _ wd_44) (am_dk (q := (87, .multianewarray 42 2, 4)) dk_X8_init_0 43 rfl) (ms_putfF F (ty := (.array (.array .int))) (ty0 := tyX8) (C := RX8) (T := TX8) (N := 22) (j := 9) (fun w h => ts _ (inw_X8 w h)) rfl (by decide) tyX8_ok nmX8 (by decide +kernel) rfl hini rfl (ts _ wd_1033) (am_dk (q := (91, .putfield 44, 3)) dk_X8_init_0 44 rfl) (ms_aload_n F (am_dk (q := (94, .aload_n 0, 1)) dk_X8_init_0 45 rfl) rfl (ms_bipush F (am_dk (q := (95, .bipush 8, 2)) dk_X8_init_0 46 rfl) (by decide +kernel) (ms_newa F hR (t := 2) (atype := .char) (by decide) (ts _ wd_1091) (am_dk (q := (97, .newarray .char, 2)) dk_X8_init_0 47 rfl) (ms_putfF F (ty := (.array .char)) (ty0 := tyX8) (C := RX8) (T := TX8) (N := 22) (j := 10) (fun w h => ts _ (inw_X8 w h)) rfl (by decide) tyX8_ok nmX8 (by decide +kernel) rfl hini rfl (ts _ wd_1034) (am_dk (q := (99, .putfield 47, 3)) dk_X8_init_0 48 rfl) (ms_aload_n F (am_dk (q := (102, .aload_n 0, 1)) dk_X8_init_0 49 rfl) rfl (ms_bipush F (am_dk (q := (103, .bipush 8, 2)) dk_X8_init_0 50 rfl) (by decide +kernel) (ms_sipush F (am_dk (q := (105, .sipush 144, 3)) dk_X8_init_0 51 rfl) (by decide +kernel) (ms_mna F hR (t := 8) (ti := 3) (N := 8) (M := 144) (ty := .boolean) (z := (144, .inl (fun _ => 0))) (by simp) rfl (by decide) (by decide) (by rw [mna_boolean]; exact ts _ wd_1020) (ts _ wd_1092) (am_dk (q := (108, .multianewarray 34 2, 4)) dk_X8_init_0 52 rfl) (ms_putfF F (ty := (.array (.array .boolean))) (ty0 := tyX8) (C := RX8) (T := TX8) (N := 22) (j := 11) (fun w h => ts _ (inw_X8 w h)) rfl (by decide) tyX8_ok nmX8 (by decide +kernel) rfl hini rfl (ts _ wd_1035) (am_dk (q := (112, .putfield 50, 3)) dk_X8_init_0 53 rfl) (ms_aload_n F (am_dk (q := (115, .aload_n 0, 1)) dk_X8_init_0 54 rfl) rfl (ms_bipush F (am_dk (q := (116, .bipush 13, 2)) dk_X8_init_0 55 rfl) (by decide +kernel) (ms_newa F hR (t := 3) (atype := .boolean) (by decide) (ts _ wd_1092) (am_dk (q := (118, .newarray .boolean, 2)) dk_X8_init_0 56 rfl) (ms_putfF F (ty := (.array .boolean)) (ty0 := tyX8) (C := RX8) (T := TX8) (N := 22) (j := 12) (fun w h => ts _ (inw_X8 w h)) rfl (by decide) tyX8_ok nmX8 (by decide +kernel) rfl hini rfl (ts _ wd_1036) (am_dk (q := (120, .putfield 53, 3)) dk_X8_init_0 57 rfl) (ms_aload_n F (am_dk (q := (123, .aload_n 0, 1)) dk_X8_init_0 58 rfl) rfl (ms_bipush F (am_dk (q := (124, .bipush 30, 2)) dk_X8_init_0 59 rfl) (by decide +kernel) (ms_sipush F (am_dk (q := (126, .sipush 2001, 3)) dk_X8_init_1 0 rfl) (by decide +kernel) (ms_mna F hR (t := 8) (ti := 3) (N := 30) (M := 2001) (ty := .boolean) (z := (2001, .inl (fun _ => 0))) (by simp) rfl (by decide) (by decide) (by rw [mna_boolean]; exact ts _ wd_1020) (ts _ wd_1092) (am_dk (q := (129, .multianewarray 34 2, 4)) dk_X8_init_1 1 rfl) (ms_putfF F (ty := (.array (.array .boolean))) (ty0 := tyX8) (C := RX8) (T := TX8) (N := 22) (j := 13) (fun w h => ts _ (inw_X8 w h)) rfl (by decide) tyX8_ok nmX8 (by decide +kernel) rfl hini rfl (ts _ wd_1037) (am_dk (q := (133, .putfield 57, 3)) dk_X8_init_1 2 rfl) (ms_aload_n F (am_dk (q := (136, .aload_n 0, 1)) dk_X8_init_1 3 rfl) rfl (ms_iconst F (am_dk (q := (137, .iconst 1, 1)) dk_X8_init_1 4 rfl) (by decide +kernel) (ms_putf F (ty := .int) (ty0 := tyX8) (C := RX8) (T := TX8) (N := 22) (j := 16) (fun w h => ts _ (inw_X8 w h)) rfl (by decide) tyX8_ok nmX8 (by decide +kernel) rfl (ts _ wd_1040) (am_dk (q := (138, .putfield 60, 3)) dk_X8_init_1 5 rfl) (ms_aload_n F (am_dk (q := (141, .aload_n 0, 1)) dk_X8_init_1 6 rfl) rfl (ms_iconst F (am_dk (q := (142, .iconst (-1), 1)) dk_X8_init_1 7 rfl) (by decide +kernel) (ms_putf F (ty := .int) (ty0 := tyX8) (C := RX8) (T := TX8) (N := 22) (j := 19) (fun w h => ts _ (inw_X8 w h)) rfl (by decide) tyX8_ok nmX8 (by decide +kernel) rfl (ts _ wd_1043) (am_dk (q := (143, .putfield 64, 3)) dk_X8_init_1 8 rfl) (ms_aload_n F (am_dk (q := (146, .aload_n 0, 1)) dk_X8_init_1 9 rfl) rfl (ms_lconst F (am_dk (q := (147, .lconst 1, 1)) dk_X8_init_1 10 rfl) (by decide +kernel) (ms_putf F (ty := .long) (ty0 := tyX8) (C := RX8) (T := TX8) (N := 22) (j := 20) (fun w h => ts _ (inw_X8 w h)) rfl (by decide) tyX8_ok nmX8 (by decide +kernel) rfl (ts _ wd_1044) (am_dk (q := (148, .putfield 67, 3)) dk_X8_init_1 11 rfl) (ms_iconst F (am_dk (q := (151, .iconst 0, 1)) dk_X8_init_1 12 rfl) (by decide +kernel) (ms_istore_n F (am_dk (q := (152, .istore_n 1, 1)) dk_X8_init_1 13 rfl) rfl hn (by decide) ((am_id _))))))))))))))))))))))))))))))))))))))))))))))))))))))))))))))))))))))))))),
    ms_iload_n F (am_dk (q := (153, .iload_n 1, 1)) dk_X8_init_1 14 rfl) rfl (ms_sipush F (am_dk (q := (154, .sipush 144, 3)) dk_X8_init_1 15 rfl) (by decide +kernel) (ms_ic_ge F (tgt := 174) (am_dk (q := (157, .if_icmp .ge 17, 3)) dk_X8_init_1 16 rfl) (by decide) (ms_iconst F (am_dk (q := (174, .iconst 0, 1)) dk_X8_init_1 24 rfl) (by decide +kernel) (ms_istore_n F (am_dk (q := (175, .istore_n 1, 1)) dk_X8_init_1 25 rfl) rfl hn (by decide) ((am_id _)))) (ms_aload_n F (am_dk (q := (160, .aload_n 0, 1)) dk_X8_init_1 17 rfl) rfl (ms_getf F (C := RX8) (T := TX8) (N := 22) (j := 0) (fun w h => ts _ (inw_X8 w h)) rfl (by decide) (ts _ wd_1024) (am_dk (q := (161, .getfield 9, 3)) dk_X8_init_1 18 rfl) (ms_iload_n F (am_dk (q := (164, .iload_n 1, 1)) dk_X8_init_1 19 rfl) rfl (ms_bipush F (am_dk (q := (165, .bipush (-2), 2)) dk_X8_init_1 20 rfl) (by decide +kernel) (ms_iastore F (am_dk (q := (167, .iastore, 1)) dk_X8_init_1 21 rfl) (ms_iinc F (am_dk (q := (168, .iinc 1 1, 3)) dk_X8_init_1 22 rfl) (by decide +kernel) hn (by decide) (ms_goto F (tgt := 153) (am_dk (q := (171, .goto (-18), 3)) dk_X8_init_1 23 rfl) (by decide) ((am_id _))))))))))),
    ms_iload_n F (am_dk (q := (176, .iload_n 1, 1)) dk_X8_init_1 26 rfl) rfl (ms_bipush F (am_dk (q := (177, .bipush 30, 2)) dk_X8_init_1 27 rfl) (by decide +kernel) (ms_ic_ge F (tgt := 204) (am_dk (q := (179, .if_icmp .ge 25, 3)) dk_X8_init_1 28 rfl) (by decide) (ms_vret F FQ rfl (am_dk (q := (204, .return_, 1)) dk_X8_init_1 41 rfl)) (ms_aload_n F (am_dk (q := (182, .aload_n 0, 1)) dk_X8_init_1 29 rfl) rfl (ms_getf F (C := RX8) (T := TX8) (N := 22) (j := 2) (fun w h => ts _ (inw_X8 w h)) rfl (by decide) (ts _ wd_1026) (am_dk (q := (183, .getfield 16, 3)) dk_X8_init_1 30 rfl) (ms_iload_n F (am_dk (q := (186, .iload_n 1, 1)) dk_X8_init_1 31 rfl) rfl (ms_bipush F (am_dk (q := (187, .bipush 45, 2)) dk_X8_init_1 32 rfl) (by decide +kernel) (ms_castore F (am_dk (q := (189, .castore, 1)) dk_X8_init_1 33 rfl) (ms_aload_n F (am_dk (q := (190, .aload_n 0, 1)) dk_X8_init_1 34 rfl) rfl (ms_getf F (C := RX8) (T := TX8) (N := 22) (j := 3) (fun w h => ts _ (inw_X8 w h)) rfl (by decide) (ts _ wd_1027) (am_dk (q := (191, .getfield 20, 3)) dk_X8_init_1 35 rfl) (ms_iload_n F (am_dk (q := (194, .iload_n 1, 1)) dk_X8_init_1 36 rfl) rfl (ms_bipush F (am_dk (q := (195, .bipush 45, 2)) dk_X8_init_1 37 rfl) (by decide +kernel) (ms_castore F (am_dk (q := (197, .castore, 1)) dk_X8_init_1 38 rfl) (ms_iinc F (am_dk (q := (198, .iinc 1 1, 3)) dk_X8_init_1 39 rfl) (by decide +kernel) hn (by decide) (ms_goto F (tgt := 176) (am_dk (q := (201, .goto (-25), 3)) dk_X8_init_1 40 rfl) (by decide) ((am_id _))))))))))))))))⟩
theorem ct_X8_init (l : Launch) (htr : l.stackTraces = false) : am_Ct l yX8_init (am_ws yX8_init cX8_init 2 none) rm_X8_init sp_X8_init := am_of htr (by decide) wd_1016 (fun X K F FQ hR hT hn hi as n E hS => f_X8_init K (am_G X) (sd_X8_init X K F FQ hR hT hn (hi rfl)) as n E hS)
