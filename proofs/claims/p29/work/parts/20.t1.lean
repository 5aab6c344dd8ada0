def sp_X1_rawLayers : am_S := fun as n E K => ∃ (t r f : Nat) (R F : Nat → Nat), as = [.ref t] ∧ am_po E t r f R F ∧ K (.inl (some (.int (nI (fb_sm R 4))))) n E
def rm_X1_rawLayers : Room := { frames := 0, cells := 0, slots := 0, locals := 0 }
theorem rmc_X1_rawLayers : rm_X1_rawLayers.cells = 0 := rfl
theorem rms_X1_rawLayers : rm_X1_rawLayers.slots = 0 := rfl
theorem ct_X1_rawLayers (l : Launch) (htr : l.stackTraces = false) : am_Ct l yX1_rawLayers (am_ws yX1_rawLayers cX1_rawLayers 3 (some .int)) rm_X1_rawLayers sp_X1_rawLayers := sorry
def sp_X7_isInside : am_S := fun as n E K => ∃ x y : Int32, as = [.int x, .int y] ∧ K (.inl (some (.int (if (0 ≤ x ∧ ¬ 12 ≤ x) ∧ 0 ≤ y ∧ ¬ 12 ≤ y then 1 else 0)))) n E
def rm_X7_isInside : Room := { frames := 0, cells := 0, slots := 0, locals := 0 }
theorem rmc_X7_isInside : rm_X7_isInside.cells = 0 := rfl
theorem rms_X7_isInside : rm_X7_isInside.slots = 0 := rfl
theorem ct_X7_isInside (l : Launch) (htr : l.stackTraces = false) : am_Ct l yX7_isInside (am_ws yX7_isInside cX7_isInside 2 (some .boolean)) rm_X7_isInside sp_X7_isInside := sorry
def sp_X5_at : am_S := fun as n E K => ∃ (t c : Nat) (f : Nat → Int32) (x y : Int32), as = [.ref t, .int x, .int y] ∧ am_wl E t c f ∧ K (.inl (some (.int (am_at f x y)))) n E
def rm_X5_at : Room := { frames := 1, cells := 0, slots := 0, locals := 21 }
theorem rmc_X5_at : rm_X5_at.cells = 0 := rfl
theorem rms_X5_at : rm_X5_at.slots = 0 := rfl
theorem ct_X5_at (l : Launch) (htr : l.stackTraces = false) : am_Ct l yX5_at (am_ws yX5_at cX5_at 3 (some .int)) rm_X5_at sp_X5_at := sorry
def sp_X5_bitOf : am_S := fun as n E K => ∃ (w : Int32) (p : Nat), as = [.int w, .int (nI p)] ∧ p < 30 ∧ am_wv w ∧ K (.inl (some (.int (nI (am_bn (am_btb w p) 31))))) n E
def rm_X5_bitOf : Room := { frames := 0, cells := 0, slots := 0, locals := 0 }
theorem rmc_X5_bitOf : rm_X5_bitOf.cells = 0 := rfl
theorem rms_X5_bitOf : rm_X5_bitOf.slots = 0 := rfl
theorem ct_X5_bitOf (l : Launch) (htr : l.stackTraces = false) : am_Ct l yX5_bitOf (am_ws yX5_bitOf cX5_bitOf 2 (some .int)) rm_X5_bitOf sp_X5_bitOf := sorry
def sp_X5_waitsInto : am_S := fun as n E K => ∃ (t c a : Nat) (f g : Nat → Int32), as = [.ref t, .ref a] ∧ c ≠ a ∧ am_wok f ∧ am_wl E t c f ∧ E a = some (.inl (0, 30, .inl g)) ∧ ∀ g' : Nat → Int32, (∀ p, p < 30 → g' p = nI (am_bn (am_wtb f 144 p) 31)) → K (.inl none) n (am_u E a (.inl (0, 30, .inl g')))
def rm_X5_waitsInto : Room := { frames := 2, cells := 0, slots := 0, locals := 43 }
theorem rmc_X5_waitsInto : rm_X5_waitsInto.cells = 0 := rfl
theorem rms_X5_waitsInto : rm_X5_waitsInto.slots = 0 := rfl
theorem ct_X5_waitsInto (l : Launch) (htr : l.stackTraces = false) : am_Ct l yX5_waitsInto (am_ws yX5_waitsInto cX5_waitsInto 5 none) rm_X5_waitsInto sp_X5_waitsInto := sorry
def sp_X7_panesThatAre : am_S := fun as n E K => ∃ (b : Nat) (σ : am_St) (c : Nat), as = [.ref b, .int (nI c)] ∧ c < 2 ^ 31 ∧ am_HS b E σ ∧ K (.inl (some (.int (nI (am_bn (fun p => decide (σ 3 p 0 = c)) 30))))) n E
def rm_X7_panesThatAre : Room := { frames := 0, cells := 0, slots := 0, locals := 0 }
theorem rmc_X7_panesThatAre : rm_X7_panesThatAre.cells = 0 := rfl
theorem rms_X7_panesThatAre : rm_X7_panesThatAre.slots = 0 := rfl
theorem ct_X7_panesThatAre (l : Launch) (htr : l.stackTraces = false) : am_Ct l yX7_panesThatAre (am_ws yX7_panesThatAre cX7_panesThatAre 4 (some .int)) rm_X7_panesThatAre sp_X7_panesThatAre := sorry
def sp_X7_lowestFreeOf : am_S := fun as n E K => ∃ (b a d : Nat) (σ : am_St) (g : Nat → Nat), as = [.ref b, .int (nI a), .int (nI d)] ∧ a < 2 ^ 31 ∧ d < 2 ^ 31 ∧ (∃ τ w u, am_HT b E σ τ w u ∧ ∀ p, p < 30 → w p = nI (g p) ∧ g p < 2 ^ 31) ∧ K (.inl (some (.int (if am_fst (fun p => a.testBit p && decide (am_dif (g p) d = 0)) 30 < 30 then nI (am_fst (fun p => a.testBit p && decide (am_dif (g p) d = 0)) 30) else -1)))) n E
def rm_X7_lowestFreeOf : Room := { frames := 0, cells := 0, slots := 0, locals := 0 }
theorem rmc_X7_lowestFreeOf : rm_X7_lowestFreeOf.cells = 0 := rfl
theorem rms_X7_lowestFreeOf : rm_X7_lowestFreeOf.slots = 0 := rfl
theorem ct_X7_lowestFreeOf (l : Launch) (htr : l.stackTraces = false) : am_Ct l yX7_lowestFreeOf (am_ws yX7_lowestFreeOf cX7_lowestFreeOf 4 (some .int)) rm_X7_lowestFreeOf sp_X7_lowestFreeOf := sorry
def sp_X7_requireNext : am_S := fun as n E K => ∃ (b : Nat) (σ : am_St), as = [.ref b] ∧ am_HS b E σ ∧ am_api b n E K (q_next σ)
def rm_X7_requireNext : Room := { frames := 6, cells := 1, slots := 6, locals := 82 }
theorem rmc_X7_requireNext : rm_X7_requireNext.cells = 1 := rfl
theorem rms_X7_requireNext : rm_X7_requireNext.slots = 6 := rfl
theorem ct_X7_requireNext (l : Launch) (htr : l.stackTraces = false) : am_Ct l yX7_requireNext (am_ws yX7_requireNext cX7_requireNext 3 (some .int)) rm_X7_requireNext sp_X7_requireNext := sorry
def sp_X7_next : am_S := fun as n E K => ∃ (b : Nat) (σ : am_St), as = [.ref b] ∧ am_HS b E σ ∧ am_api b n E K (q_next σ)
def rm_X7_next : Room := { frames := 7, cells := 1, slots := 6, locals := 104 }
theorem rmc_X7_next : rm_X7_next.cells = 1 := rfl
theorem rms_X7_next : rm_X7_next.slots = 6 := rfl
theorem ct_X7_next (l : Launch) (htr : l.stackTraces = false) : am_Ct l yX7_next (am_ws yX7_next cX7_next 1 (some .int)) rm_X7_next sp_X7_next := sorry
def sp_L_next : am_S := fun as n E K => ∃ (b : Nat) (σ : am_St)  (o : Nat) (g : Nat → Int64), as = [.ref b, .ref o] ∧ am_HS b E σ ∧ (o < b ∨ b + 214 ≤ o) ∧ E o = some (.inl (1, 1, .inr (.inl g))) ∧ am_wr b o n E K L_N (q_next σ)
def rm_L_next : Room := { frames := 8, cells := 1, slots := 6, locals := 124 }
theorem rmc_L_next : rm_L_next.cells = 1 := rfl
theorem rms_L_next : rm_L_next.slots = 6 := rfl
def bk_L_next_0 (K : am_P) (G : Nat → am_C) : am_C := o_aload 1 <| o_pi 0 <| o_aload 0 <| o_callV 7 1 sp_X7_next rm_X7_next rm_L_next (am_hdl [("java/util/NoSuchElementException", 1)] K) <| o_i2l <| o_lst <| o_pi 0 <| o_iret .int K
def cl_L_next (K : am_P) (G : Nat → am_C) : Prop := am_imp (bk_L_next_0 K G) (G 0)
theorem f_L_next (K : am_P) (G : Nat → am_C) (hC : cl_L_next K G) (as : List Value) (n : Nat) (E : am_E) (hS : sp_L_next as n E K) : (am_sl as).length ≤ 3 ∧ G 0 (am_inl 3 as) [] n E 0 0 := by
  obtain ⟨b, σ, o, g, rfl, ⟨τ, w, u, h⟩, ho, hEo, hK⟩ := hS
  refine ⟨by simp [am_sl, Value.category], ?_⟩
  have h0 : E b = some (.inr (7, [.ref (b + 1), .ref (b + 3), .ref (b + 4), .ref (b + 5), .int (nI (σ 15 0 0)), .int (nI (σ 15 8 0)), .int (nI (σ 15 6 0)), .int (nI (σ 15 4 0)), .int (nI (σ 15 5 0)), .int (nI (σ 15 3 0)), .int (nI (σ 15 7 0)), .ref (b + 6), .ref (b + 9), .ref (b + 12), .ref (b + 15), .ref (b + 16)])) := hs_hall h
  have hw1 : E (b + 1) = some (.inr (5, [.ref (b + 2)])) := hs_t h 1 (by decide)
  have hp3 := hs_panes h
  have hs4 := hs_sheets h
  have hf5 : E (b + 5) = some (.inr (0, [.int (nI (am_bn (st_b σ) 12)), .int (nI (σ 15 1 0)), .int (nI (σ 15 2 0))])) := hs_t h 5 (by decide)
  have h6 : E (b + 6) = some (.inr (3, [.ref (b + 7), .ref (b + 8)])) := hs_t h 6 (by decide)
  have h9 : E (b + 9) = some (.inr (3, [.ref (b + 10), .ref (b + 11)])) := hs_t h 9 (by decide)
  have h12 : E (b + 12) = some (.inr (3, [.ref (b + 13), .ref (b + 14)])) := hs_t h 12 (by decide)
  have h15 := hs_wts h
  have h16 : E (b + 16) = some (.inr (6, [.ref (b + 17)])) := hs_t h 16 (by decide)
  apply hC
  simp only [bk_L_next_0, o_pi, o_pl, o_pf, o_pd, o_iload, o_lload, o_fload, o_dload, o_aload, o_istore, o_lstore, o_fstore, o_dstore, o_astore, o_iinc, o_ib, o_ibz, o_lb, o_lbz, o_lsh, o_lcmp, o_ineg, o_i2l, o_l2i, o_i2c, o_i2f, o_i2d, o_f2d, o_fdiv, o_ddiv, o_fcmp, o_dcmp, o_dup, o_dup2, o_pop, o_if_eq, o_if_ne, o_if_lt, o_if_ge, o_if_gt, o_if_le, o_ic_eq, o_ic_ne, o_ic_lt, o_ic_ge, o_ic_gt, o_ic_le, o_if, o_ic, o_getf, o_putf, o_ild, o_ist, o_lld, o_lst, o_dld, o_dst, o_ald, o_alen, o_new, o_newa, o_ast, o_oinit, o_iret, o_lret, o_fret, o_dret, o_aret, o_vret, o_throw, o_call, o_callV, am_kc, am_noX, o_im, o_ia, o_gets, o_ldcK, o_getK, o_codK, o_lenK, o_bldK, o_i2b, o_callK, o_mna, o_clone, o_castA, am_s1, am_s2, am_kill, am_inl, am_sl, Value.category, List.getElem?_cons_zero, List.getElem?_cons_succ, List.set_cons_zero, List.set_cons_succ, List.length_cons, List.length_nil, List.take_succ_cons, List.take_zero, List.drop_succ_cons, List.drop_zero, List.reverse_cons, List.reverse_nil, List.nil_append, List.cons_append, List.append_nil, List.map_cons, List.map_nil, List.sum_cons, List.sum_nil, List.replicate_succ, List.replicate_zero, Nat.zero_add, Nat.add_zero, Nat.le_refl, Nat.zero_le, ite_true, ite_false, if_true, if_false, true_and, and_true, eq_self, not_true_eq_false, not_false_eq_true, am_nb0, am_nb1, am_ni, am_fi, am_fr, am_fra, am_fz0, am_fz1, am_fl, am_uE, am_vnI, am_uu, am_ltx, ite_not, Classical.not_not, reduceIte, reduceCtorEq, Nat.reduceEqDiff, Nat.reduceAdd, Nat.reduceSub, Nat.reduceMul, Nat.reduceLeDiff, Nat.reduceLT, Int32.reduceLE, Int32.reduceLT, am_10, am_01, am_ite0, am_ite1, ms_boT, ms_boF, rmc_L_next, rms_L_next, rmc_X7_next, rms_X7_next, h0, hw1, hp3, hs4, hf5, h6, h9, h12, h15, h16]
  refine ⟨b, σ, rfl, ⟨τ, w, u, h⟩, fun E' hE' hk => ?_⟩
  have hEo' : E' o = some (.inl (1, 1, .inr (.inl g))) := (hk o ho).trans hEo
  have v01 : vp_in 0 1 := vp_in_nI (n := 0) (by decide) (by decide)
  have c0 : Int32.toNatClampNeg 0 = 0 := rfl
  have hok := ok9_next σ 
  generalize q_next σ = rr at hK hE' hok ⊢
  rcases hok with ⟨v, σ', hv, rfl⟩ | ⟨C, σ', hC9, rfl⟩
  · show am_kc _ _ _ _ _ _ (.inl (some (.int v))) n E'
    simp only [bk_L_next_0, o_pi, o_pl, o_pf, o_pd, o_iload, o_lload, o_fload, o_dload, o_aload, o_istore, o_lstore, o_fstore, o_dstore, o_astore, o_iinc, o_ib, o_ibz, o_lb, o_lbz, o_lsh, o_lcmp, o_ineg, o_i2l, o_l2i, o_i2c, o_i2f, o_i2d, o_f2d, o_fdiv, o_ddiv, o_fcmp, o_dcmp, o_dup, o_dup2, o_pop, o_if_eq, o_if_ne, o_if_lt, o_if_ge, o_if_gt, o_if_le, o_ic_eq, o_ic_ne, o_ic_lt, o_ic_ge, o_ic_gt, o_ic_le, o_if, o_ic, o_getf, o_putf, o_ild, o_ist, o_lld, o_lst, o_dld, o_dst, o_ald, o_alen, o_new, o_newa, o_ast, o_oinit, o_iret, o_lret, o_fret, o_dret, o_aret, o_vret, o_throw, o_call, o_callV, am_kc, am_noX, o_im, o_ia, o_gets, o_ldcK, o_getK, o_codK, o_lenK, o_bldK, o_i2b, o_callK, o_mna, o_clone, o_castA, am_s1, am_s2, am_kill, am_inl, am_sl, Value.category, List.getElem?_cons_zero, List.getElem?_cons_succ, List.set_cons_zero, List.set_cons_succ, List.length_cons, List.length_nil, List.take_succ_cons, List.take_zero, List.drop_succ_cons, List.drop_zero, List.reverse_cons, List.reverse_nil, List.nil_append, List.cons_append, List.append_nil, List.map_cons, List.map_nil, List.sum_cons, List.sum_nil, List.replicate_succ, List.replicate_zero, Nat.zero_add, Nat.add_zero, Nat.le_refl, Nat.zero_le, ite_true, ite_false, if_true, if_false, true_and, and_true, eq_self, not_true_eq_false, not_false_eq_true, am_nb0, am_nb1, am_ni, am_fi, am_fr, am_fra, am_fz0, am_fz1, am_fl, am_uE, am_vnI, am_uu, am_ltx, ite_not, Classical.not_not, reduceIte, reduceCtorEq, Nat.reduceEqDiff, Nat.reduceAdd, Nat.reduceSub, Nat.reduceMul, Nat.reduceLeDiff, Nat.reduceLT, Int32.reduceLE, Int32.reduceLT, am_10, am_01, am_ite0, am_ite1, ms_boT, ms_boF, rmc_L_next, rms_L_next, rmc_X7_next, rms_X7_next, hEo', v01, c0]
    exact am_wr_i hK ho hE' hk
  · show ∃ q ∈ [(x_NE, (1 : Int32))], q.1 = C ∧ K (.inl (some (.int q.2))) n E'
    have hC8 : C = x_NE := by simpa using hC9
    rcases hC8 with rfl
    exact ⟨(x_NE, 1), by simp, rfl, am_wr_x hK th_N_1 hEo' hE' hk⟩
set_option maxRecDepth 100000 in
set_option maxHeartbeats 4000000 in
theorem sd_L_next (X : am_X) (K : am_P) (F : am_F X cL_next yL_next.cls (some .int) (am_wsT yL_next cL_next 3 (some .int) [(0, 8, 11, 67)])) (FQ : am_FQ X K rm_L_next.cells rm_L_next.slots) (hR : am_Rm X rm_L_next) (hT : am_T X [(0, 8, 11, 67)]) (hn : am_nL X = 3) : cl_L_next K (am_G X) := by
  have ts : ∀ w ∈ am_WS, w ∈ am_wsT yL_next cL_next 3 (some .int) [(0, 8, 11, 67)] := fun w h => List.mem_cons_of_mem _ h
  exact ms_aload_n F (am_dk (q := (0, .aload_n 1, 1)) dk_L_next_0 0 rfl) rfl (ms_iconst F (am_dk (q := (1, .iconst 0, 1)) dk_L_next_0 1 rfl) (by decide +kernel) (ms_aload_n F (am_dk (q := (2, .aload_n 0, 1)) dk_L_next_0 2 rfl) rfl (ms_callV F hR (ci := 7) (r9 := (RX7, TX7, 16)) (y := yX7_next) (maxL := 1) (rm' := rm_X7_next) (na := 0) ct_X7_next wd_874 wd_1 wd_871 wd_872 wd_873 rfl (by decide +kernel) (by decide) (am_dk (q := (3, .invokevirtual 82, 3)) dk_L_next_0 3 rfl) (ms_hdl_c (ms_cat F FQ hT (C := "java/util/NoSuchElementException") (name := "java/util/NoSuchElementException") [] ⟨0, 8, 11, 67⟩ [] rfl (fun _ h => absurd h List.not_mem_nil) (by decide) (by decide) (ts _ wd_781) wn_792 hn (by decide : 2 < 3) (Or.inl ⟨2, rfl, (am_dk (q := (11, .astore_n 2, 1)) dk_L_next_0 7 rfl), rfl⟩) (am_dk (q := (12, .iconst 1, 1)) dk_L_next_0 8 rfl) (by decide +kernel) (am_dk (q := (13, .ireturn, 1)) dk_L_next_0 9 rfl) rfl) (ms_hdl_n _ _)) (ms_i2l F (am_dk (q := (6, .i2l, 1)) dk_L_next_0 4 rfl) (ms_lastore F (am_dk (q := (7, .lastore, 1)) dk_L_next_0 5 rfl) (ms_goto F (tgt := 14) (am_dk (q := (8, .goto 6, 3)) dk_L_next_0 6 rfl) (by decide) (ms_iconst F (am_dk (q := (14, .iconst 0, 1)) dk_L_next_0 10 rfl) (by decide +kernel) (ms_iret F FQ rfl (am_dk (q := (15, .ireturn, 1)) dk_L_next_0 11 rfl)))))))))
theorem ct_L_next (l : Launch) (htr : l.stackTraces = false) : am_Ct l yL_next (am_wsT yL_next cL_next 3 (some .int) [(0, 8, 11, 67)]) rm_L_next sp_L_next := am_ofH htr (by decide) wd_870 (fun X K F FQ hR hT hn as n E hS => f_L_next K (am_G X) (sd_L_next X K F FQ hR hT hn) as n E hS)
