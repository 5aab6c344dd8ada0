def sp_X7_free : am_S := fun as n E K => ∃ (b : Nat) (σ : am_St) (s : Int32), as = [.ref b, .int s] ∧ am_HS b E σ ∧ am_api b n E K (q_free σ s)
def rm_X7_free : Room := { frames := 7, cells := 1, slots := 6, locals := 103 }
theorem rmc_X7_free : rm_X7_free.cells = 1 := rfl
theorem rms_X7_free : rm_X7_free.slots = 6 := rfl
def bk_X7_free_0 (K : am_P) (G : Nat → am_C) : am_C := o_aload 0 <| o_iload 1 <| o_callV 7 2 sp_X7_requireSheet rm_X7_requireSheet rm_X7_free (am_noX K) <| o_aload 0 <| o_getf 7 2 <| o_iload 1 <| o_ald 6 <| o_callV 4 1 sp_X4_freeCells rm_X4_freeCells rm_X7_free (am_noX K) <| o_iret .int K
def cl_X7_free (K : am_P) (G : Nat → am_C) : Prop := am_imp (bk_X7_free_0 K G) (G 0)
theorem f_X7_free (K : am_P) (G : Nat → am_C) (hC : cl_X7_free K G) (as : List Value) (n : Nat) (E : am_E) (hS : sp_X7_free as n E K) : (am_sl as).length ≤ 2 ∧ G 0 (am_inl 2 as) [] n E 0 0 := by
  obtain ⟨b, σ, s, rfl, ⟨τ, w, u, h⟩, hK⟩ := hS
  refine ⟨by simp [am_sl, Value.category], ?_⟩
  have h0 : E b = some (.inr (7, [.ref (b + 1), .ref (b + 3), .ref (b + 4), .ref (b + 5), .int (nI (σ 15 0 0)), .int (nI (σ 15 8 0)), .int (nI (σ 15 6 0)), .int (nI (σ 15 4 0)), .int (nI (σ 15 5 0)), .int (nI (σ 15 3 0)), .int (nI (σ 15 7 0)), .ref (b + 6), .ref (b + 9), .ref (b + 12), .ref (b + 15), .ref (b + 16)])) := hs_hall h
  have hw1 : E (b + 1) = some (.inr (5, [.ref (b + 2)])) := hs_t h 1 (by decide)
  have hp3 := hs_panes h
  have hs4 := hs_sheets h
  have hf5 : E (b + 5) = some (.inr (0, [.int (nI (am_bn (st_b σ) 12)), .int (nI (σ 15 1 0)), .int (nI (σ 15 2 0))])) := hs_t h 5 (by decide)
  have h6 : E (b + 6) = some (.inr (3, [.ref (b + 7), .ref (b + 8)])) := hs_t h 6 (by decide)
  have h9 : E (b + 9) = some (.inr (3, [.ref (b + 10), .ref (b + 11)])) := hs_t h 9 (by decide)
  have h12 : E (b + 12) = some (.inr (3, [.ref (b + 13), .ref (b + 14)])) := hs_t h 12 (by decide)
  have h15 := hs_wts h
  have h16 : E (b + 16) = some (.inr (6, [.ref (b + 17)])) := hs_t h 16 (by decide)
  apply hC
  unfold q_free at hK
  simp only [↓xaa_0, ↓xar_0, ↓xii_1, bk_X7_free_0, o_iload, o_aload, o_if, o_ic, o_getf, o_ald, o_iret, o_call, o_callV, am_kc, am_noX, am_s1, am_s2, am_kill, am_inl, am_sl, Value.category, List.getElem?_cons_zero, List.getElem?_cons_succ, List.set_cons_zero, List.set_cons_succ, List.length_cons, List.length_nil, List.take_succ_cons, List.take_zero, List.drop_succ_cons, List.drop_zero, List.reverse_cons, List.reverse_nil, List.nil_append, List.cons_append, List.append_nil, List.map_cons, List.map_nil, List.sum_cons, List.sum_nil, List.replicate_succ, List.replicate_zero, Nat.zero_add, Nat.add_zero, Nat.le_refl, Nat.zero_le, ite_true, ite_false, if_true, if_false, true_and, and_true, eq_self, not_true_eq_false, not_false_eq_true, am_nb0, am_nb1, am_ni, am_fi, am_fr, am_fra, am_fz0, am_fz1, am_fl, am_uE, am_vnI, am_uu, am_ltx, ite_not, Classical.not_not, reduceIte, reduceCtorEq, Nat.reduceEqDiff, Nat.reduceAdd, Nat.reduceSub, Nat.reduceMul, Nat.reduceLeDiff, Nat.reduceLT, Int32.reduceLE, Int32.reduceLT, am_10, am_01, am_ite0, am_ite1, ms_boT, ms_boF, rmc_X4_freeCells, rms_X4_freeCells, rmc_X7_free, rms_X7_free, rmc_X7_requireSheet, rms_X7_requireSheet, h0, hw1, hp3, hs4, hf5, h6, h9, h12, h15, h16]
  refine ⟨b, σ, s, rfl, ⟨τ, w, u, h⟩, fun hi => ?_, fun hi => ?_⟩
  · rw [if_pos hi] at hK
    obtain ⟨j, hj, rfl⟩ := am_nat hi.1
    have hb := (am_iv_b h.1).1
    have hj : j < 8 := by
      have := hi.2
      rw [am_geN (by omega) hj] at this
      omega
    rw [nI_clamp (show j < 2 ^ 31 by omega)] at hK
    have hsh := hs_sheet0 h hj
    have hsh9 : E (b + 198 + 2 * j) = _ := hsh
    simp only [↓xaa_0, ↓xar_0, ↓xii_1, bk_X7_free_0, o_iload, o_aload, o_if, o_ic, o_getf, o_ald, o_iret, o_call, o_callV, am_kc, am_noX, am_s1, am_s2, am_kill, am_inl, am_sl, Value.category, List.getElem?_cons_zero, List.getElem?_cons_succ, List.set_cons_zero, List.set_cons_succ, List.length_cons, List.length_nil, List.take_succ_cons, List.take_zero, List.drop_succ_cons, List.drop_zero, List.reverse_cons, List.reverse_nil, List.nil_append, List.cons_append, List.append_nil, List.map_cons, List.map_nil, List.sum_cons, List.sum_nil, List.replicate_succ, List.replicate_zero, Nat.zero_add, Nat.add_zero, Nat.le_refl, Nat.zero_le, ite_true, ite_false, if_true, if_false, true_and, and_true, eq_self, not_true_eq_false, not_false_eq_true, am_nb0, am_nb1, am_ni, am_fi, am_fr, am_fra, am_fz0, am_fz1, am_fl, am_uE, am_vnI, am_uu, am_ltx, ite_not, Classical.not_not, reduceIte, reduceCtorEq, Nat.reduceEqDiff, Nat.reduceAdd, Nat.reduceSub, Nat.reduceMul, Nat.reduceLeDiff, Nat.reduceLT, Int32.reduceLE, Int32.reduceLT, am_10, am_01, am_ite0, am_ite1, ms_boT, ms_boF, rmc_X4_freeCells, rms_X4_freeCells, rmc_X7_free, rms_X7_free, rmc_X7_requireSheet, rms_X7_requireSheet, h0, hw1, hp3, hs4, hf5, h6, h9, h12, h15, h16, am_vi hj (show 8 < 2 ^ 31 by decide), am_cl (show j < 2 ^ 31 by omega), if_pos hj, va_rf, hsh9]
    refine ⟨b + 198 + 2 * j, b + 199 + 2 * j, _, _, _, _, st_u σ j, rfl, hsh, hs_used h hj, ?_⟩
    simp only [↓xaa_0, ↓xar_0, ↓xii_1, bk_X7_free_0, o_iload, o_aload, o_if, o_ic, o_getf, o_ald, o_iret, o_call, o_callV, am_kc, am_noX, am_s1, am_s2, am_kill, am_inl, am_sl, Value.category, List.getElem?_cons_zero, List.getElem?_cons_succ, List.set_cons_zero, List.set_cons_succ, List.length_cons, List.length_nil, List.take_succ_cons, List.take_zero, List.drop_succ_cons, List.drop_zero, List.reverse_cons, List.reverse_nil, List.nil_append, List.cons_append, List.append_nil, List.map_cons, List.map_nil, List.sum_cons, List.sum_nil, List.replicate_succ, List.replicate_zero, Nat.zero_add, Nat.add_zero, Nat.le_refl, Nat.zero_le, ite_true, ite_false, if_true, if_false, true_and, and_true, eq_self, not_true_eq_false, not_false_eq_true, am_nb0, am_nb1, am_ni, am_fi, am_fr, am_fra, am_fz0, am_fz1, am_fl, am_uE, am_vnI, am_uu, am_ltx, ite_not, Classical.not_not, reduceIte, reduceCtorEq, Nat.reduceEqDiff, Nat.reduceAdd, Nat.reduceSub, Nat.reduceMul, Nat.reduceLeDiff, Nat.reduceLT, Int32.reduceLE, Int32.reduceLT, am_10, am_01, am_ite0, am_ite1, ms_boT, ms_boF, rmc_X4_freeCells, rms_X4_freeCells, rmc_X7_free, rms_X7_free, rmc_X7_requireSheet, rms_X7_requireSheet, h0, hw1, hp3, hs4, hf5, h6, h9, h12, h15, h16]
    exact hK E ⟨τ, w, u, h⟩ (am_kb_r _ _ _)
  · rw [if_neg hi] at hK
    exact hK E ⟨τ, w, u, h⟩ (am_kb_r _ _ _)
set_option maxRecDepth 100000 in
set_option maxHeartbeats 4000000 in
theorem sd_X7_free (X : am_X) (K : am_P) (F : am_F X cX7_free yX7_free.cls (some .int) (am_ws yX7_free cX7_free 2 (some .int))) (FQ : am_FQ X K rm_X7_free.cells rm_X7_free.slots) (hR : am_Rm X rm_X7_free) (hT : am_noT X) (hn : am_nL X = 2) : cl_X7_free K (am_G X) := by
  have ts : ∀ w ∈ am_WS, w ∈ am_ws yX7_free cX7_free 2 (some .int) := fun w h => List.mem_cons_of_mem _ h
  exact ms_aload_n F (am_dk (q := (0, .aload_n 0, 1)) dk_X7_free_0 0 rfl) rfl (ms_iload_n F (am_dk (q := (1, .iload_n 1, 1)) dk_X7_free_0 1 rfl) rfl (ms_callV F hR (ci := 7) (r9 := (RX7, TX7, 16)) (y := yX7_requireSheet) (maxL := 2) (rm' := rm_X7_requireSheet) (na := 1) ct_X7_requireSheet wd_688 wd_1 wd_685 wd_687 ps_X7_requireSheet rfl (by decide +kernel) (by decide) (am_dk (q := (2, .invokevirtual 198, 3)) dk_X7_free_0 2 rfl) (ms_noX F FQ hT) (ms_aload_n F (am_dk (q := (5, .aload_n 0, 1)) dk_X7_free_0 3 rfl) rfl (ms_getf F (C := RX7) (T := TX7) (N := 16) (j := 2) (fun w h => ts _ (inw_X7 w h)) rfl (by decide) (ts _ wd_165) (am_dk (q := (6, .getfield 24, 3)) dk_X7_free_0 4 rfl) (ms_iload_n F (am_dk (q := (9, .iload_n 1, 1)) dk_X7_free_0 5 rfl) rfl (ms_aaload F (t := 6) (ty := .object "LeadlightHall$Sheet") (by decide) (am_dk (q := (10, .aaload, 1)) dk_X7_free_0 6 rfl) (ms_callV F hR (ci := 4) (r9 := (RX4, TX4, 5)) (y := yX4_freeCells) (maxL := 1) (rm' := rm_X4_freeCells) (na := 0) ct_X4_freeCells wd_692 wd_8 wd_689 wd_690 wd_691 rfl (by decide +kernel) (by decide) (am_dk (q := (11, .invokevirtual 201, 3)) dk_X7_free_0 7 rfl) (ms_noX F FQ hT) (ms_iret F FQ rfl (am_dk (q := (14, .ireturn, 1)) dk_X7_free_0 8 rfl)))))))))
theorem ct_X7_free (l : Launch) (htr : l.stackTraces = false) : am_Ct l yX7_free (am_ws yX7_free cX7_free 2 (some .int)) rm_X7_free sp_X7_free := am_of htr (by decide) wd_684 (fun X K F FQ hR hT hn hi as n E hS => f_X7_free K (am_G X) (sd_X7_free X K F FQ hR hT hn) as n E hS)
def sp_L_free : am_S := fun as n E K => ∃ (b : Nat) (σ : am_St) (s : Int32) (o : Nat) (g : Nat → Int64), as = [.ref b, .int s, .ref o] ∧ am_HS b E σ ∧ (o < b ∨ b + 214 ≤ o) ∧ E o = some (.inl (1, 1, .inr (.inl g))) ∧ am_wr b o n E K L_O (q_free σ s)
def rm_L_free : Room := { frames := 8, cells := 1, slots := 6, locals := 124 }
theorem rmc_L_free : rm_L_free.cells = 1 := rfl
theorem rms_L_free : rm_L_free.slots = 6 := rfl
def bk_L_free_0 (K : am_P) (G : Nat → am_C) : am_C := o_aload 2 <| o_pi 0 <| o_aload 0 <| o_iload 1 <| o_callV 7 2 sp_X7_free rm_X7_free rm_L_free (am_hdl [("java/lang/IndexOutOfBoundsException", 1)] K) <| o_i2l <| o_lst <| o_pi 0 <| o_iret .int K
def cl_L_free (K : am_P) (G : Nat → am_C) : Prop := am_imp (bk_L_free_0 K G) (G 0)
theorem f_L_free (K : am_P) (G : Nat → am_C) (hC : cl_L_free K G) (as : List Value) (n : Nat) (E : am_E) (hS : sp_L_free as n E K) : (am_sl as).length ≤ 4 ∧ G 0 (am_inl 4 as) [] n E 0 0 := by
  obtain ⟨b, σ, s, o, g, rfl, ⟨τ, w, u, h⟩, ho, hEo, hK⟩ := hS
  refine ⟨by simp [am_sl, Value.category], ?_⟩
  have h0 : E b = some (.inr (7, [.ref (b + 1), .ref (b + 3), .ref (b + 4), .ref (b + 5), .int (nI (σ 15 0 0)), .int (nI (σ 15 8 0)), .int (nI (σ 15 6 0)), .int (nI (σ 15 4 0)), .int (nI (σ 15 5 0)), .int (nI (σ 15 3 0)), .int (nI (σ 15 7 0)), .ref (b + 6), .ref (b + 9), .ref (b + 12), .ref (b + 15), .ref (b + 16)])) := hs_hall h
  have hw1 : E (b + 1) = some (.inr (5, [.ref (b + 2)])) := hs_t h 1 (by decide)
  have hp3 := hs_panes h
  have hs4 := hs_sheets h
  have hf5 : E (b + 5) = some (.inr (0, [.int (nI (am_bn (st_b σ) 12)), .int (nI (σ 15 1 0)), .int (nI (σ 15 2 0))])) := hs_t h 5 (by decide)
  have h6 : E (b + 6) = some (.inr (3, [.ref (b + 7), .ref (b + 8)])) := hs_t h 6 (by decide)
  have h9 : E (b + 9) = some (.inr (3, [.ref (b + 10), .ref (b + 11)])) := hs_t h 9 (by decide)
  have h12 : E (b + 12) = some (.inr (3, [.ref (b + 13), .ref (b + 14)])) := hs_t h 12 (by decide)
  have h15 := hs_wts h
  have h16 : E (b + 16) = some (.inr (6, [.ref (b + 17)])) := hs_t h 16 (by decide)
  apply hC
  simp only [↓xaa_0, ↓xar_0, ↓xaa_2, ↓xar_2, ↓xii_1, ↓xpi, ↓xi2l, bk_L_free_0, o_pi, o_iload, o_aload, o_i2l, o_if, o_ic, o_lst, o_iret, o_call, o_callV, am_kc, am_noX, am_s1, am_s2, am_kill, am_inl, am_sl, Value.category, List.getElem?_cons_zero, List.getElem?_cons_succ, List.set_cons_zero, List.set_cons_succ, List.length_cons, List.length_nil, List.take_succ_cons, List.take_zero, List.drop_succ_cons, List.drop_zero, List.reverse_cons, List.reverse_nil, List.nil_append, List.cons_append, List.append_nil, List.map_cons, List.map_nil, List.sum_cons, List.sum_nil, List.replicate_succ, List.replicate_zero, Nat.zero_add, Nat.add_zero, Nat.le_refl, Nat.zero_le, ite_true, ite_false, if_true, if_false, true_and, and_true, eq_self, not_true_eq_false, not_false_eq_true, am_nb0, am_nb1, am_ni, am_fi, am_fr, am_fra, am_fz0, am_fz1, am_fl, am_uE, am_vnI, am_uu, am_ltx, ite_not, Classical.not_not, reduceIte, reduceCtorEq, Nat.reduceEqDiff, Nat.reduceAdd, Nat.reduceSub, Nat.reduceMul, Nat.reduceLeDiff, Nat.reduceLT, Int32.reduceLE, Int32.reduceLT, am_10, am_01, am_ite0, am_ite1, ms_boT, ms_boF, rmc_L_free, rms_L_free, rmc_X7_free, rms_X7_free, h0, hw1, hp3, hs4, hf5, h6, h9, h12, h15, h16]
  refine ⟨b, σ, s, rfl, ⟨τ, w, u, h⟩, fun E' hE' hk => ?_⟩
  have hEo' : E' o = some (.inl (1, 1, .inr (.inl g))) := (hk o ho).trans hEo
  have v01 : vp_in 0 1 := vp_in_nI (n := 0) (by decide) (by decide)
  have c0 : Int32.toNatClampNeg 0 = 0 := rfl
  have hok := ok_free σ s
  generalize q_free σ s = rr at hK hE' hok ⊢
  rcases hok with ⟨v, σ', hv, rfl⟩ | ⟨C, σ', hC9, rfl⟩
  · show am_kc _ _ _ _ _ _ (.inl (some (.int v))) n E'
    simp only [↓xaa_0, ↓xar_0, ↓xaa_2, ↓xar_2, ↓xii_1, ↓xpi, ↓xi2l, bk_L_free_0, o_pi, o_iload, o_aload, o_i2l, o_if, o_ic, o_lst, o_iret, o_call, o_callV, am_kc, am_noX, am_s1, am_s2, am_kill, am_inl, am_sl, Value.category, List.getElem?_cons_zero, List.getElem?_cons_succ, List.set_cons_zero, List.set_cons_succ, List.length_cons, List.length_nil, List.take_succ_cons, List.take_zero, List.drop_succ_cons, List.drop_zero, List.reverse_cons, List.reverse_nil, List.nil_append, List.cons_append, List.append_nil, List.map_cons, List.map_nil, List.sum_cons, List.sum_nil, List.replicate_succ, List.replicate_zero, Nat.zero_add, Nat.add_zero, Nat.le_refl, Nat.zero_le, ite_true, ite_false, if_true, if_false, true_and, and_true, eq_self, not_true_eq_false, not_false_eq_true, am_nb0, am_nb1, am_ni, am_fi, am_fr, am_fra, am_fz0, am_fz1, am_fl, am_uE, am_vnI, am_uu, am_ltx, ite_not, Classical.not_not, reduceIte, reduceCtorEq, Nat.reduceEqDiff, Nat.reduceAdd, Nat.reduceSub, Nat.reduceMul, Nat.reduceLeDiff, Nat.reduceLT, Int32.reduceLE, Int32.reduceLT, am_10, am_01, am_ite0, am_ite1, ms_boT, ms_boF, rmc_L_free, rms_L_free, rmc_X7_free, rms_X7_free, hEo', v01, c0]
    exact am_wr_i hK ho hE' hk
  · show ∃ q ∈ [(x_IO, (1 : Int32))], q.1 = C ∧ K (.inl (some (.int q.2))) n E'
    have hC8 : C = x_IO := by simpa using hC9
    rcases hC8 with rfl
    exact ⟨(x_IO, 1), by simp, rfl, am_wr_x hK th_O_1 hEo' hE' hk⟩
set_option maxRecDepth 100000 in
set_option maxHeartbeats 4000000 in
theorem sd_L_free (X : am_X) (K : am_P) (F : am_F X cL_free yL_free.cls (some .int) (am_wsT yL_free cL_free 4 (some .int) [(0, 9, 12, 21)])) (FQ : am_FQ X K rm_L_free.cells rm_L_free.slots) (hR : am_Rm X rm_L_free) (hT : am_T X [(0, 9, 12, 21)]) (hn : am_nL X = 4) : cl_L_free K (am_G X) := by
  have ts : ∀ w ∈ am_WS, w ∈ am_wsT yL_free cL_free 4 (some .int) [(0, 9, 12, 21)] := fun w h => List.mem_cons_of_mem _ h
  exact ms_aload_n F (am_dk (q := (0, .aload_n 2, 1)) dk_L_free_0 0 rfl) rfl (ms_iconst F (am_dk (q := (1, .iconst 0, 1)) dk_L_free_0 1 rfl) (by decide +kernel) (ms_aload_n F (am_dk (q := (2, .aload_n 0, 1)) dk_L_free_0 2 rfl) rfl (ms_iload_n F (am_dk (q := (3, .iload_n 1, 1)) dk_L_free_0 3 rfl) rfl (ms_callV F hR (ci := 7) (r9 := (RX7, TX7, 16)) (y := yX7_free) (maxL := 2) (rm' := rm_X7_free) (na := 1) ct_X7_free wd_684 wd_1 wd_681 wd_682 wd_683 rfl (by decide +kernel) (by decide) (am_dk (q := (4, .invokevirtual 50, 3)) dk_L_free_0 4 rfl) (ms_hdl_c (ms_cat F FQ hT (C := "java/lang/IndexOutOfBoundsException") (name := "java/lang/IndexOutOfBoundsException") [] ⟨0, 9, 12, 21⟩ [] rfl (fun _ h => absurd h List.not_mem_nil) (by decide) (by decide) (ts _ wd_503) wn_513 hn (by decide : 3 < 4) (Or.inl ⟨3, rfl, (am_dk (q := (12, .astore_n 3, 1)) dk_L_free_0 8 rfl), rfl⟩) (am_dk (q := (13, .iconst 1, 1)) dk_L_free_0 9 rfl) (by decide +kernel) (am_dk (q := (14, .ireturn, 1)) dk_L_free_0 10 rfl) rfl) (ms_hdl_n _ _)) (ms_i2l F (am_dk (q := (7, .i2l, 1)) dk_L_free_0 5 rfl) (ms_lastore F (am_dk (q := (8, .lastore, 1)) dk_L_free_0 6 rfl) (ms_goto F (tgt := 15) (am_dk (q := (9, .goto 6, 3)) dk_L_free_0 7 rfl) (by decide) (ms_iconst F (am_dk (q := (15, .iconst 0, 1)) dk_L_free_0 11 rfl) (by decide +kernel) (ms_iret F FQ rfl (am_dk (q := (16, .ireturn, 1)) dk_L_free_0 12 rfl))))))))))
theorem ct_L_free (l : Launch) (htr : l.stackTraces = false) : am_Ct l yL_free (am_wsT yL_free cL_free 4 (some .int) [(0, 9, 12, 21)]) rm_L_free sp_L_free := am_ofH htr (by decide) wd_680 (fun X K F FQ hR hT hn as n E hS => f_L_free K (am_G X) (sd_L_free X K F FQ hR hT hn) as n E hS)
def sp_X8_isNoSheet : am_S := fun as n E K => ∃ (m : Nat) (σ : am_St) (lm : Nat → Nat) (lk : Nat → Nat → Nat) (lf : Nat → Nat → Bool) (thr : Int32) (s : Int32), as = [.ref m, .int s] ∧ m + 121 ≤ n ∧ am_MT m E σ lm lk lf thr ∧ K (.inl (some (.int (if 0 ≤ s ∧ ¬ nI (σ 15 0 0) ≤ s then 0 else 1)))) n E
def rm_X8_isNoSheet : Room := { frames := 1, cells := 0, slots := 0, locals := 22 }
theorem rmc_X8_isNoSheet : rm_X8_isNoSheet.cells = 0 := rfl
theorem rms_X8_isNoSheet : rm_X8_isNoSheet.slots = 0 := rfl
def bk_X8_isNoSheet_0 (K : am_P) (G : Nat → am_C) : am_C := o_iload 1 <| o_pi 0 <| o_aload 0 <| o_getf 8 14 <| o_pi 1 <| o_ib (fun x y => x - y) <| o_call 3 sp_X8_isIn rm_X8_isIn rm_X8_isNoSheet (am_noX K) <| o_if_ne (o_pi 0 <| o_iret .boolean K) (o_pi 1 <| o_iret .boolean K)
def cl_X8_isNoSheet (K : am_P) (G : Nat → am_C) : Prop := am_imp (bk_X8_isNoSheet_0 K G) (G 0)
theorem f_X8_isNoSheet (K : am_P) (G : Nat → am_C) (hC : cl_X8_isNoSheet K G) (as : List Value) (n : Nat) (E : am_E) (hS : sp_X8_isNoSheet as n E K) : (am_sl as).length ≤ 2 ∧ G 0 (am_inl 2 as) [] n E 0 0 := by
  obtain ⟨m, σ, lm, lk, lf, thr, s, rfl, hmn, h, hK⟩ := hS
  refine ⟨by simp [am_sl, Value.category], ?_⟩
  have g0 : E m = some (.inr (8, [.ref (m + 1), .ref (m + 2), .ref (m + 3), .ref (m + 4), .ref (m + 5), .ref (m + 6), .ref (m + 7), .ref (m + 38), .ref (m + 69), .ref (m + 70), .ref (m + 79), .ref (m + 80), .ref (m + 89), .ref (m + 90), .int (nI (σ 15 0 0)), .int (nI (σ 15 7 0)), .int (nI (σ 15 1 0)), .int (nI (σ 15 2 0)), .int (nI (σ 15 3 0)), .int (if σ 15 4 0 = 0 then -1 else nI (σ 15 5 0)), .long (lN (σ 15 6 0)), .int (thr)])) := ms_0 h; have g7 : E (m + 7) = some (.inl (7, 30, .inr (.inr (.inr (.inr (fun i => if i < 30 then some (m + 8 + i) else none)))))) := ms_7 h; have g38 : E (m + 38) = some (.inl (8, 30, .inr (.inr (.inr (.inr (fun i => if i < 30 then some (m + 39 + i) else none)))))) := ms_38 h; have g70 : E (m + 70) = some (.inl (9, 8, .inr (.inr (.inr (.inr (fun i => if i < 8 then some (m + 71 + i) else none)))))) := ms_70 h; have g80 : E (m + 80) = some (.inl (8, 8, .inr (.inr (.inr (.inr (fun i => if i < 8 then some (m + 81 + i) else none)))))) := ms_80 h; have g90 : E (m + 90) = some (.inl (8, 30, .inr (.inr (.inr (.inr (fun i => if i < 30 then some (m + 91 + i) else none)))))) := ms_90 h
  apply hC
  have hb := (am_iv_b h.1).1
  have e : (0 ≤ s ∧ s ≤ nI (σ 15 0 0) - 1) ↔ (0 ≤ s ∧ ¬ nI (σ 15 0 0) ≤ s) := by
    constructor
    · rintro ⟨h1, h2⟩
      refine ⟨h1, ?_⟩
      obtain ⟨i, hi, rfl⟩ := am_nat h1
      rw [am_geN (by omega) hi]
      by_cases h0 : σ 15 0 0 = 0
      · rw [h0, show nI 0 - 1 = -1 by decide] at h2
        exact absurd (Int32.le_trans h1 h2) (by decide)
      · obtain ⟨j, hj⟩ : ∃ j, σ 15 0 0 = j + 1 := ⟨σ 15 0 0 - 1, by omega⟩
        rw [hj, nI_pred, am_geN hi (by omega)] at h2
        omega
    · rintro ⟨h1, h2⟩
      refine ⟨h1, ?_⟩
      obtain ⟨i, hi, rfl⟩ := am_nat h1
      rw [am_geN (by omega) hi] at h2
      obtain ⟨j, hj⟩ : ∃ j, σ 15 0 0 = j + 1 := ⟨σ 15 0 0 - 1, by omega⟩
      rw [hj, nI_pred, am_geN hi (by omega)]
      omega
  simp only [↓xaa_0, ↓xar_0, ↓xii_1, ↓xpi, ↓xib, ↓xif, bk_X8_isNoSheet_0, o_pi, o_iload, o_aload, o_ib, o_if_ne, o_if, o_ic, o_getf, o_iret, o_call, am_kc, am_noX, am_s1, am_s2, am_kill, am_inl, am_sl, Value.category, List.getElem?_cons_zero, List.getElem?_cons_succ, List.set_cons_zero, List.set_cons_succ, List.length_cons, List.length_nil, List.take_succ_cons, List.take_zero, List.drop_succ_cons, List.drop_zero, List.reverse_cons, List.reverse_nil, List.nil_append, List.cons_append, List.append_nil, List.map_cons, List.map_nil, List.sum_cons, List.sum_nil, List.replicate_succ, List.replicate_zero, Nat.zero_add, Nat.add_zero, Nat.le_refl, Nat.zero_le, ite_true, ite_false, if_true, if_false, true_and, and_true, eq_self, not_true_eq_false, not_false_eq_true, am_nb0, am_nb1, am_ni, am_fi, am_fr, am_fra, am_fz0, am_fz1, am_fl, am_uE, am_vnI, am_uu, am_ltx, ite_not, Classical.not_not, reduceIte, reduceCtorEq, Nat.reduceEqDiff, Nat.reduceAdd, Nat.reduceSub, Nat.reduceMul, Nat.reduceLeDiff, Nat.reduceLT, Int32.reduceLE, Int32.reduceLT, am_10, am_01, am_ite0, am_ite1, ms_boT, ms_boF, rmc_X8_isIn, rms_X8_isIn, rmc_X8_isNoSheet, rms_X8_isNoSheet, g0, g7, g38, g70, g80, g90, ms_1 h, ms_2 h, ms_3 h, ms_4 h, ms_5 h, ms_6 h, ms_69 h, ms_79 h, ms_89 h,  ]
  refine ⟨s, 0, _, rfl, ?_⟩
  by_cases a : 0 ≤ s ∧ ¬ nI (σ 15 0 0) ≤ s
  · rw [if_pos a] at hK
    rw [if_pos (e.mpr a)]
    simp only [↓xaa_0, ↓xar_0, ↓xii_1, ↓xpi, ↓xib, ↓xif, bk_X8_isNoSheet_0, o_pi, o_iload, o_aload, o_ib, o_if_ne, o_if, o_ic, o_getf, o_iret, o_call, am_kc, am_noX, am_s1, am_s2, am_kill, am_inl, am_sl, Value.category, List.getElem?_cons_zero, List.getElem?_cons_succ, List.set_cons_zero, List.set_cons_succ, List.length_cons, List.length_nil, List.take_succ_cons, List.take_zero, List.drop_succ_cons, List.drop_zero, List.reverse_cons, List.reverse_nil, List.nil_append, List.cons_append, List.append_nil, List.map_cons, List.map_nil, List.sum_cons, List.sum_nil, List.replicate_succ, List.replicate_zero, Nat.zero_add, Nat.add_zero, Nat.le_refl, Nat.zero_le, ite_true, ite_false, if_true, if_false, true_and, and_true, eq_self, not_true_eq_false, not_false_eq_true, am_nb0, am_nb1, am_ni, am_fi, am_fr, am_fra, am_fz0, am_fz1, am_fl, am_uE, am_vnI, am_uu, am_ltx, ite_not, Classical.not_not, reduceIte, reduceCtorEq, Nat.reduceEqDiff, Nat.reduceAdd, Nat.reduceSub, Nat.reduceMul, Nat.reduceLeDiff, Nat.reduceLT, Int32.reduceLE, Int32.reduceLT, am_10, am_01, am_ite0, am_ite1, ms_boT, ms_boF, rmc_X8_isIn, rms_X8_isIn, rmc_X8_isNoSheet, rms_X8_isNoSheet, g0, g7, g38, g70, g80, g90, ms_1 h, ms_2 h, ms_3 h, ms_4 h, ms_5 h, ms_6 h, ms_69 h, ms_79 h, ms_89 h,  ]
    exact hK
  · rw [if_neg a] at hK
    rw [if_neg (fun q => a (e.mp q))]
    simp only [↓xaa_0, ↓xar_0, ↓xii_1, ↓xpi, ↓xib, ↓xif, bk_X8_isNoSheet_0, o_pi, o_iload, o_aload, o_ib, o_if_ne, o_if, o_ic, o_getf, o_iret, o_call, am_kc, am_noX, am_s1, am_s2, am_kill, am_inl, am_sl, Value.category, List.getElem?_cons_zero, List.getElem?_cons_succ, List.set_cons_zero, List.set_cons_succ, List.length_cons, List.length_nil, List.take_succ_cons, List.take_zero, List.drop_succ_cons, List.drop_zero, List.reverse_cons, List.reverse_nil, List.nil_append, List.cons_append, List.append_nil, List.map_cons, List.map_nil, List.sum_cons, List.sum_nil, List.replicate_succ, List.replicate_zero, Nat.zero_add, Nat.add_zero, Nat.le_refl, Nat.zero_le, ite_true, ite_false, if_true, if_false, true_and, and_true, eq_self, not_true_eq_false, not_false_eq_true, am_nb0, am_nb1, am_ni, am_fi, am_fr, am_fra, am_fz0, am_fz1, am_fl, am_uE, am_vnI, am_uu, am_ltx, ite_not, Classical.not_not, reduceIte, reduceCtorEq, Nat.reduceEqDiff, Nat.reduceAdd, Nat.reduceSub, Nat.reduceMul, Nat.reduceLeDiff, Nat.reduceLT, Int32.reduceLE, Int32.reduceLT, am_10, am_01, am_ite0, am_ite1, ms_boT, ms_boF, rmc_X8_isIn, rms_X8_isIn, rmc_X8_isNoSheet, rms_X8_isNoSheet, g0, g7, g38, g70, g80, g90, ms_1 h, ms_2 h, ms_3 h, ms_4 h, ms_5 h, ms_6 h, ms_69 h, ms_79 h, ms_89 h,  ]
    exact hK
set_option maxRecDepth 100000 in
set_option maxHeartbeats 4000000 in
theorem sd_X8_isNoSheet (X : am_X) (K : am_P) (F : am_F X cX8_isNoSheet yX8_isNoSheet.cls (some .boolean) (am_ws yX8_isNoSheet cX8_isNoSheet 2 (some .boolean))) (FQ : am_FQ X K rm_X8_isNoSheet.cells rm_X8_isNoSheet.slots) (hR : am_Rm X rm_X8_isNoSheet) (hT : am_noT X) (hn : am_nL X = 2) : cl_X8_isNoSheet K (am_G X) := by
  have ts : ∀ w ∈ am_WS, w ∈ am_ws yX8_isNoSheet cX8_isNoSheet 2 (some .boolean) := fun w h => List.mem_cons_of_mem _ h
  exact ms_iload_n F (am_dk (q := (0, .iload_n 1, 1)) dk_X8_isNoSheet_0 0 rfl) rfl (ms_iconst F (am_dk (q := (1, .iconst 0, 1)) dk_X8_isNoSheet_0 1 rfl) (by decide +kernel) (ms_aload_n F (am_dk (q := (2, .aload_n 0, 1)) dk_X8_isNoSheet_0 2 rfl) rfl (ms_getf F (C := RX8) (T := TX8) (N := 22) (j := 14) (fun w h => ts _ (inw_X8 w h)) rfl (by decide) (ts _ wd_1038) (am_dk (q := (3, .getfield 173, 3)) dk_X8_isNoSheet_0 3 rfl) (ms_iconst F (am_dk (q := (6, .iconst 1, 1)) dk_X8_isNoSheet_0 4 rfl) (by decide +kernel) (ms_isub F (am_dk (q := (7, .isub, 1)) dk_X8_isNoSheet_0 5 rfl) (ms_callS F hR (y := yX8_isIn) (maxL := 3) (rm' := rm_X8_isIn) (na := 3) ct_X8_isIn wd_1105 wd_9 wd_1103 wd_1104 (by decide +kernel) (by decide) (am_dk (q := (8, .invokestatic 74, 3)) dk_X8_isNoSheet_0 6 rfl) (ms_noX F FQ hT) (ms_if_ne F (tgt := 18) (am_dk (q := (11, .ifCond .ne 7, 3)) dk_X8_isNoSheet_0 7 rfl) (by decide) (ms_iconst F (am_dk (q := (18, .iconst 0, 1)) dk_X8_isNoSheet_0 10 rfl) (by decide +kernel) (ms_iret F FQ rfl (am_dk (q := (19, .ireturn, 1)) dk_X8_isNoSheet_0 11 rfl))) (ms_iconst F (am_dk (q := (14, .iconst 1, 1)) dk_X8_isNoSheet_0 8 rfl) (by decide +kernel) (ms_goto F (tgt := 19) (am_dk (q := (15, .goto 4, 3)) dk_X8_isNoSheet_0 9 rfl) (by decide) (ms_iret F FQ rfl (am_dk (q := (19, .ireturn, 1)) dk_X8_isNoSheet_0 11 rfl)))))))))))
theorem ct_X8_isNoSheet (l : Launch) (htr : l.stackTraces = false) : am_Ct l yX8_isNoSheet (am_ws yX8_isNoSheet cX8_isNoSheet 2 (some .boolean)) rm_X8_isNoSheet sp_X8_isNoSheet := am_of htr (by decide) wd_1231 (fun X K F FQ hR hT hn hi as n E hS => f_X8_isNoSheet K (am_G X) (sd_X8_isNoSheet X K F FQ hR hT hn) as n E hS)
