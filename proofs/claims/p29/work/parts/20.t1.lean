def sp_X5_cellsOf : am_S := fun as n E K => ∃ (t c : Nat) (f : Nat → Int32) (v : Int32), as = [.ref t, .int v] ∧ am_wl E t c f ∧ K (.inl (some (.int (nI (fb_ct (fun k => decide (f k = v)) 144))))) n E
def rm_X5_cellsOf : Room := { frames := 0, cells := 0, slots := 0, locals := 0 }
theorem rmc_X5_cellsOf : rm_X5_cellsOf.cells = 0 := rfl
theorem rms_X5_cellsOf : rm_X5_cellsOf.slots = 0 := rfl
theorem ct_X5_cellsOf (l : Launch) (htr : l.stackTraces = false) : am_Ct l yX5_cellsOf (am_ws yX5_cellsOf cX5_cellsOf 4 (some .int)) rm_X5_cellsOf sp_X5_cellsOf := sorry
def sp_X2_hasGlass : am_S := fun as n E K => ∃ (t p y : Nat) (wc wk st co yr : Int32), as = [.ref t] ∧ am_pn0 E t wc wk st co yr p y ∧ K (.inl (some (.int (if st = 45 then 0 else 1)))) n E
def rm_X2_hasGlass : Room := { frames := 0, cells := 0, slots := 0, locals := 0 }
theorem rmc_X2_hasGlass : rm_X2_hasGlass.cells = 0 := rfl
theorem rms_X2_hasGlass : rm_X2_hasGlass.slots = 0 := rfl
theorem ct_X2_hasGlass (l : Launch) (htr : l.stackTraces = false) : am_Ct l yX2_hasGlass (am_ws yX2_hasGlass cX2_hasGlass 1 (some .boolean)) rm_X2_hasGlass sp_X2_hasGlass := sorry
def sp_X7_litShare : am_S := fun as n E K => ∃ (b : Nat) (σ : am_St), as = [.ref b] ∧ am_HS b E σ ∧ am_api b n E K (q_litShare σ)
def rm_X7_litShare : Room := { frames := 6, cells := 1, slots := 6, locals := 82 }
theorem rmc_X7_litShare : rm_X7_litShare.cells = 1 := rfl
theorem rms_X7_litShare : rm_X7_litShare.slots = 6 := rfl
theorem ct_X7_litShare (l : Launch) (htr : l.stackTraces = false) : am_Ct l yX7_litShare (am_ws yX7_litShare cX7_litShare 4 (some .float)) rm_X7_litShare sp_X7_litShare := sorry
def sp_L_litShare : am_S := fun as n E K => ∃ (b o : Nat) (σ : am_St) (g : Nat → UInt64), as = [.ref b, .ref o] ∧ am_HS b E σ ∧ (o < b ∨ b + 214 ≤ o) ∧ E o = some (.inl (4, 1, .inr (.inr (.inr (.inl g))))) ∧ ∀ (E' : am_E) (g' : Nat → UInt64), am_HS b E' σ → (∀ k, (k < b ∨ b + 214 ≤ k) → k ≠ o → E' k = E k) → E' o = some (.inl (4, 1, .inr (.inr (.inr (.inl g'))))) → K (.inl (some (.int (if am_on σ = 0 then 1 else 0)))) n E'
def rm_L_litShare : Room := { frames := 7, cells := 1, slots := 6, locals := 105 }
theorem rmc_L_litShare : rm_L_litShare.cells = 1 := rfl
theorem rms_L_litShare : rm_L_litShare.slots = 6 := rfl
def bk_L_litShare_0 (K : am_P) (G : Nat → am_C) : am_C := o_aload 1 <| o_pi 0 <| o_aload 0 <| o_callV 7 1 sp_X7_litShare rm_X7_litShare rm_L_litShare (am_hdl [("java/util/NoSuchElementException", 1)] K) <| o_f2d <| o_dst <| o_pi 0 <| o_iret .int K
def cl_L_litShare (K : am_P) (G : Nat → am_C) : Prop := am_imp (bk_L_litShare_0 K G) (G 0)
theorem f_L_litShare (K : am_P) (G : Nat → am_C) (hC : cl_L_litShare K G) (as : List Value) (n : Nat) (E : am_E) (hS : sp_L_litShare as n E K) : (am_sl as).length ≤ 3 ∧ G 0 (am_inl 3 as) [] n E 0 0 := by
  obtain ⟨b, o, σ, g, rfl, ⟨τ, w, u, h⟩, ho, hEo, hK⟩ := hS
  refine ⟨by simp [am_sl, Value.category], ?_⟩
  have h0 : E b = some (.inr (7, [.ref (b + 1), .ref (b + 3), .ref (b + 4), .ref (b + 5), .int (nI (σ 15 0 0)), .int (nI (σ 15 8 0)), .int (nI (σ 15 6 0)), .int (nI (σ 15 4 0)), .int (nI (σ 15 5 0)), .int (nI (σ 15 3 0)), .int (nI (σ 15 7 0)), .ref (b + 6), .ref (b + 9), .ref (b + 12), .ref (b + 15), .ref (b + 16)])) := hs_hall h
  have hw1 : E (b + 1) = some (.inr (5, [.ref (b + 2)])) := hs_t h 1 (by decide)
  have hp3 := hs_panes h
  have hs4 := hs_sheets h
  have hf5 : E (b + 5) = some (.inr (0, [.int (nI (am_bn (st_b σ) 12)), .int (nI (σ 15 1 0)), .int (nI (σ 15 2 0))])) := hs_t h 5 (by decide)
  have h6 : E (b + 6) = some (.inr (3, [.ref (b + 7), .ref (b + 8)])) := hs_t h 6 (by decide)
  have h9 : E (b + 9) = some (.inr (3, [.ref (b + 10), .ref (b + 11)])) := hs_t h 9 (by decide)
  have h12 : E (b + 12) = some (.inr (3, [.ref (b + 13), .ref (b + 14)])) := hs_t h 12 (by decide)
  have h15 := hs_wts h
  have h16 : E (b + 16) = some (.inr (6, [.ref (b + 17)])) := hs_t h 16 (by decide)
  apply hC
  simp only [bk_L_litShare_0, o_pi, o_pl, o_pf, o_pd, o_iload, o_lload, o_fload, o_dload, o_aload, o_istore, o_lstore, o_fstore, o_dstore, o_astore, o_iinc, o_ib, o_ibz, o_lb, o_lbz, o_lsh, o_lcmp, o_ineg, o_i2l, o_l2i, o_i2c, o_i2f, o_i2d, o_f2d, o_fdiv, o_ddiv, o_fcmp, o_dcmp, o_dup, o_dup2, o_pop, o_if_eq, o_if_ne, o_if_lt, o_if_ge, o_if_gt, o_if_le, o_ic_eq, o_ic_ne, o_ic_lt, o_ic_ge, o_ic_gt, o_ic_le, o_if, o_ic, o_getf, o_putf, o_ild, o_ist, o_lld, o_lst, o_dld, o_dst, o_ald, o_alen, o_new, o_newa, o_ast, o_oinit, o_iret, o_lret, o_fret, o_dret, o_aret, o_vret, o_throw, o_call, o_callV, am_kc, am_noX, o_im, o_ia, o_gets, o_ldcK, o_getK, o_codK, o_lenK, o_bldK, o_i2b, o_callK, o_mna, o_clone, o_castA, am_s1, am_s2, am_kill, am_inl, am_sl, Value.category, List.getElem?_cons_zero, List.getElem?_cons_succ, List.set_cons_zero, List.set_cons_succ, List.length_cons, List.length_nil, List.take_succ_cons, List.take_zero, List.drop_succ_cons, List.drop_zero, List.reverse_cons, List.reverse_nil, List.nil_append, List.cons_append, List.append_nil, List.map_cons, List.map_nil, List.sum_cons, List.sum_nil, List.replicate_succ, List.replicate_zero, Nat.zero_add, Nat.add_zero, Nat.le_refl, Nat.zero_le, ite_true, ite_false, if_true, if_false, true_and, and_true, eq_self, not_true_eq_false, not_false_eq_true, am_nb0, am_nb1, am_ni, am_fi, am_fr, am_fra, am_fz0, am_fz1, am_fl, am_uE, am_vnI, am_uu, am_ltx, ite_not, Classical.not_not, reduceIte, reduceCtorEq, Nat.reduceEqDiff, Nat.reduceAdd, Nat.reduceSub, Nat.reduceMul, Nat.reduceLeDiff, Nat.reduceLT, Int32.reduceLE, Int32.reduceLT, am_10, am_01, am_ite0, am_ite1, ms_boT, ms_boF, rmc_L_litShare, rms_L_litShare, rmc_X7_litShare, rms_X7_litShare, h0, hw1, hp3, hs4, hf5, h6, h9, h12, h15, h16]
  refine ⟨b, σ, rfl, ⟨τ, w, u, h⟩, fun E' hE' hk => ?_⟩
  have hEo' : E' o = _ := (hk o ho).trans hEo
  have v01 : vp_in 0 1 := vp_in_nI (n := 0) (by decide) (by decide)
  have hq := q_litShare_2 σ
  rw [hq] at hE'
  clear hq
  unfold q_litShare
  have hz : ∀ x, am_on σ = x → (x = 0 → K (.inl (some (.int 1))) n E') ∧ (¬ x = 0 → ∀ (E2 : am_E) (g' : Nat → UInt64), am_HS b E2 σ → (∀ k, (k < b ∨ b + 214 ≤ k) → k ≠ o → E2 k = E k) → E2 o = some (.inl (4, 1, .inr (.inr (.inr (.inl g'))))) → K (.inl (some (.int 0))) n E2) := fun x hx => ⟨fun q => by
    have := hK E' g hE' (fun k h1 _ => hk k h1) hEo'
    rw [if_pos (hx.trans q)] at this
    exact this, fun q E2 g2 a1 a2 a3 => by
    have := hK E2 g2 a1 a2 a3
    rw [if_neg (fun z => q (hx.symm.trans z))] at this
    exact this⟩
  clear hK
  have hz := hz _ rfl
  by_cases c : am_on σ = 0
  · rw [if_pos c]
    exact ⟨(x_NE, 1), by simp, rfl, hz.1 c⟩
  · rw [if_neg c]
    have hz := hz.2 c
    have hok := am_f2dok (am_fdok (a := fb_sm (am_lit σ) 30) (o := am_on σ) (by unfold am_on; omega) c)
    generalize FP.fdiv (FP.i2f (nI (fb_sm (am_lit σ) 30))) (FP.i2f (nI (am_on σ))) = f at hok ⊢
    show am_kc _ _ _ _ _ _ (.inl (some (.float f))) n E'
    simp only [bk_L_litShare_0, o_pi, o_pl, o_pf, o_pd, o_iload, o_lload, o_fload, o_dload, o_aload, o_istore, o_lstore, o_fstore, o_dstore, o_astore, o_iinc, o_ib, o_ibz, o_lb, o_lbz, o_lsh, o_lcmp, o_ineg, o_i2l, o_l2i, o_i2c, o_i2f, o_i2d, o_f2d, o_fdiv, o_ddiv, o_fcmp, o_dcmp, o_dup, o_dup2, o_pop, o_if_eq, o_if_ne, o_if_lt, o_if_ge, o_if_gt, o_if_le, o_ic_eq, o_ic_ne, o_ic_lt, o_ic_ge, o_ic_gt, o_ic_le, o_if, o_ic, o_getf, o_putf, o_ild, o_ist, o_lld, o_lst, o_dld, o_dst, o_ald, o_alen, o_new, o_newa, o_ast, o_oinit, o_iret, o_lret, o_fret, o_dret, o_aret, o_vret, o_throw, o_call, o_callV, am_kc, am_noX, o_im, o_ia, o_gets, o_ldcK, o_getK, o_codK, o_lenK, o_bldK, o_i2b, o_callK, o_mna, o_clone, o_castA, am_s1, am_s2, am_kill, am_inl, am_sl, Value.category, List.getElem?_cons_zero, List.getElem?_cons_succ, List.set_cons_zero, List.set_cons_succ, List.length_cons, List.length_nil, List.take_succ_cons, List.take_zero, List.drop_succ_cons, List.drop_zero, List.reverse_cons, List.reverse_nil, List.nil_append, List.cons_append, List.append_nil, List.map_cons, List.map_nil, List.sum_cons, List.sum_nil, List.replicate_succ, List.replicate_zero, Nat.zero_add, Nat.add_zero, Nat.le_refl, Nat.zero_le, ite_true, ite_false, if_true, if_false, true_and, and_true, eq_self, not_true_eq_false, not_false_eq_true, am_nb0, am_nb1, am_ni, am_fi, am_fr, am_fra, am_fz0, am_fz1, am_fl, am_uE, am_vnI, am_uu, am_ltx, ite_not, Classical.not_not, reduceIte, reduceCtorEq, Nat.reduceEqDiff, Nat.reduceAdd, Nat.reduceSub, Nat.reduceMul, Nat.reduceLeDiff, Nat.reduceLT, Int32.reduceLE, Int32.reduceLT, am_10, am_01, am_ite0, am_ite1, ms_boT, ms_boF, rmc_L_litShare, rms_L_litShare, rmc_X7_litShare, rms_X7_litShare, hEo', v01, hok]
    exact hz _ _ (am_HS_off hE' ho) (fun k h1 h2 => by rw [am_uN h2]; exact hk k h1) am_uE
set_option maxRecDepth 100000 in
set_option maxHeartbeats 4000000 in
theorem sd_L_litShare (X : am_X) (K : am_P) (F : am_F X cL_litShare yL_litShare.cls (some .int) (am_wsT yL_litShare cL_litShare 3 (some .int) [(0, 8, 11, 67)])) (FQ : am_FQ X K rm_L_litShare.cells rm_L_litShare.slots) (hR : am_Rm X rm_L_litShare) (hT : am_T X [(0, 8, 11, 67)]) (hn : am_nL X = 3) : cl_L_litShare K (am_G X) := by
  have ts : ∀ w ∈ am_WS, w ∈ am_wsT yL_litShare cL_litShare 3 (some .int) [(0, 8, 11, 67)] := fun w h => List.mem_cons_of_mem _ h
  exact ms_aload_n F (am_dk (q := (0, .aload_n 1, 1)) dk_L_litShare_0 0 rfl) rfl (ms_iconst F (am_dk (q := (1, .iconst 0, 1)) dk_L_litShare_0 1 rfl) (by decide +kernel) (ms_aload_n F (am_dk (q := (2, .aload_n 0, 1)) dk_L_litShare_0 2 rfl) rfl (ms_callV F hR (ci := 7) (r9 := (RX7, TX7, 16)) (y := yX7_litShare) (maxL := 4) (rm' := rm_X7_litShare) (na := 0) ct_X7_litShare wd_1003 wd_1 wd_1000 wd_1001 wd_1002 rfl (by decide +kernel) (by decide) (am_dk (q := (3, .invokevirtual 125, 3)) dk_L_litShare_0 3 rfl) (ms_hdl_c (ms_cat F FQ hT (C := "java/util/NoSuchElementException") (name := "java/util/NoSuchElementException") [] ⟨0, 8, 11, 67⟩ [] rfl (fun _ h => absurd h List.not_mem_nil) (by decide) (by decide) (ts _ wd_781) wn_792 hn (by decide : 2 < 3) (Or.inl ⟨2, rfl, (am_dk (q := (11, .astore_n 2, 1)) dk_L_litShare_0 7 rfl), rfl⟩) (am_dk (q := (12, .iconst 1, 1)) dk_L_litShare_0 8 rfl) (by decide +kernel) (am_dk (q := (13, .ireturn, 1)) dk_L_litShare_0 9 rfl) rfl) (ms_hdl_n _ _)) (ms_f2d F (am_dk (q := (6, .f2d, 1)) dk_L_litShare_0 4 rfl) (ms_dastore F (am_dk (q := (7, .dastore, 1)) dk_L_litShare_0 5 rfl) (ms_goto F (tgt := 14) (am_dk (q := (8, .goto 6, 3)) dk_L_litShare_0 6 rfl) (by decide) (ms_iconst F (am_dk (q := (14, .iconst 0, 1)) dk_L_litShare_0 10 rfl) (by decide +kernel) (ms_iret F FQ rfl (am_dk (q := (15, .ireturn, 1)) dk_L_litShare_0 11 rfl)))))))))
theorem ct_L_litShare (l : Launch) (htr : l.stackTraces = false) : am_Ct l yL_litShare (am_wsT yL_litShare cL_litShare 3 (some .int) [(0, 8, 11, 67)]) rm_L_litShare sp_L_litShare := am_ofH htr (by decide) wd_999 (fun X K F FQ hR hT hn as n E hS => f_L_litShare K (am_G X) (sd_L_litShare X K F FQ hR hT hn) as n E hS)
def sp_X5_piecesWithCells : am_S := fun as n E K => ∃ (t c : Nat) (f : Nat → Int32), as = [.ref t] ∧ am_wok f ∧ am_wl E t c f ∧ K (.inl (some (.int (nI (am_bn (am_hp f 144) 30))))) n E
def rm_X5_piecesWithCells : Room := { frames := 0, cells := 0, slots := 0, locals := 0 }
theorem rmc_X5_piecesWithCells : rm_X5_piecesWithCells.cells = 0 := rfl
theorem rms_X5_piecesWithCells : rm_X5_piecesWithCells.slots = 0 := rfl
theorem ct_X5_piecesWithCells (l : Launch) (htr : l.stackTraces = false) : am_Ct l yX5_piecesWithCells (am_ws yX5_piecesWithCells cX5_piecesWithCells 3 (some .int)) rm_X5_piecesWithCells sp_X5_piecesWithCells := sorry
def sp_J6_bitCount_0f7a4 : am_S := fun as n E K => ∃ a : Nat, a < 2 ^ 32 ∧ as = [.int (nI a)] ∧ K (.inl (some (.int (nI (fb_ct a.testBit 32))))) n E
def rm_J6_bitCount_0f7a4 : Room := { frames := 0, cells := 0, slots := 0, locals := 0 }
theorem rmc_J6_bitCount_0f7a4 : rm_J6_bitCount_0f7a4.cells = 0 := rfl
theorem rms_J6_bitCount_0f7a4 : rm_J6_bitCount_0f7a4.slots = 0 := rfl
theorem ct_J6_bitCount_0f7a4 (l : Launch) (htr : l.stackTraces = false) : am_Ct l yJ6_bitCount_0f7a4 (am_ws yJ6_bitCount_0f7a4 cJ6_bitCount_0f7a4 1 (some .int)) rm_J6_bitCount_0f7a4 sp_J6_bitCount_0f7a4 := sorry
def sp_X7_meanCells : am_S := fun as n E K => ∃ (b : Nat) (σ : am_St), as = [.ref b] ∧ am_HS b E σ ∧ am_api b n E K (q_meanCells σ)
def rm_X7_meanCells : Room := { frames := 6, cells := 1, slots := 6, locals := 82 }
theorem rmc_X7_meanCells : rm_X7_meanCells.cells = 1 := rfl
theorem rms_X7_meanCells : rm_X7_meanCells.slots = 6 := rfl
theorem ct_X7_meanCells (l : Launch) (htr : l.stackTraces = false) : am_Ct l yX7_meanCells (am_ws yX7_meanCells cX7_meanCells 3 (some .double)) rm_X7_meanCells sp_X7_meanCells := sorry
def sp_L_meanCells : am_S := fun as n E K => ∃ (b o : Nat) (σ : am_St) (g : Nat → UInt64), as = [.ref b, .ref o] ∧ am_HS b E σ ∧ (o < b ∨ b + 214 ≤ o) ∧ E o = some (.inl (4, 1, .inr (.inr (.inr (.inl g))))) ∧ ∀ (E' : am_E) (g' : Nat → UInt64), am_HS b E' σ → (∀ k, (k < b ∨ b + 214 ≤ k) → k ≠ o → E' k = E k) → E' o = some (.inl (4, 1, .inr (.inr (.inr (.inl g'))))) → K (.inl (some (.int (if am_pcs σ = 0 then 1 else 0)))) n E'
def rm_L_meanCells : Room := { frames := 7, cells := 1, slots := 6, locals := 104 }
theorem rmc_L_meanCells : rm_L_meanCells.cells = 1 := rfl
theorem rms_L_meanCells : rm_L_meanCells.slots = 6 := rfl
def bk_L_meanCells_0 (K : am_P) (G : Nat → am_C) : am_C := o_aload 1 <| o_pi 0 <| o_aload 0 <| o_callV 7 1 sp_X7_meanCells rm_X7_meanCells rm_L_meanCells (am_hdl [("java/util/NoSuchElementException", 1)] K) <| o_dst <| o_pi 0 <| o_iret .int K
def cl_L_meanCells (K : am_P) (G : Nat → am_C) : Prop := am_imp (bk_L_meanCells_0 K G) (G 0)
theorem f_L_meanCells (K : am_P) (G : Nat → am_C) (hC : cl_L_meanCells K G) (as : List Value) (n : Nat) (E : am_E) (hS : sp_L_meanCells as n E K) : (am_sl as).length ≤ 3 ∧ G 0 (am_inl 3 as) [] n E 0 0 := by
  obtain ⟨b, o, σ, g, rfl, ⟨τ, w, u, h⟩, ho, hEo, hK⟩ := hS
  refine ⟨by simp [am_sl, Value.category], ?_⟩
  have h0 : E b = some (.inr (7, [.ref (b + 1), .ref (b + 3), .ref (b + 4), .ref (b + 5), .int (nI (σ 15 0 0)), .int (nI (σ 15 8 0)), .int (nI (σ 15 6 0)), .int (nI (σ 15 4 0)), .int (nI (σ 15 5 0)), .int (nI (σ 15 3 0)), .int (nI (σ 15 7 0)), .ref (b + 6), .ref (b + 9), .ref (b + 12), .ref (b + 15), .ref (b + 16)])) := hs_hall h
  have hw1 : E (b + 1) = some (.inr (5, [.ref (b + 2)])) := hs_t h 1 (by decide)
  have hp3 := hs_panes h
  have hs4 := hs_sheets h
  have hf5 : E (b + 5) = some (.inr (0, [.int (nI (am_bn (st_b σ) 12)), .int (nI (σ 15 1 0)), .int (nI (σ 15 2 0))])) := hs_t h 5 (by decide)
  have h6 : E (b + 6) = some (.inr (3, [.ref (b + 7), .ref (b + 8)])) := hs_t h 6 (by decide)
  have h9 : E (b + 9) = some (.inr (3, [.ref (b + 10), .ref (b + 11)])) := hs_t h 9 (by decide)
  have h12 : E (b + 12) = some (.inr (3, [.ref (b + 13), .ref (b + 14)])) := hs_t h 12 (by decide)
  have h15 := hs_wts h
  have h16 : E (b + 16) = some (.inr (6, [.ref (b + 17)])) := hs_t h 16 (by decide)
  apply hC
  simp only [bk_L_meanCells_0, o_pi, o_pl, o_pf, o_pd, o_iload, o_lload, o_fload, o_dload, o_aload, o_istore, o_lstore, o_fstore, o_dstore, o_astore, o_iinc, o_ib, o_ibz, o_lb, o_lbz, o_lsh, o_lcmp, o_ineg, o_i2l, o_l2i, o_i2c, o_i2f, o_i2d, o_f2d, o_fdiv, o_ddiv, o_fcmp, o_dcmp, o_dup, o_dup2, o_pop, o_if_eq, o_if_ne, o_if_lt, o_if_ge, o_if_gt, o_if_le, o_ic_eq, o_ic_ne, o_ic_lt, o_ic_ge, o_ic_gt, o_ic_le, o_if, o_ic, o_getf, o_putf, o_ild, o_ist, o_lld, o_lst, o_dld, o_dst, o_ald, o_alen, o_new, o_newa, o_ast, o_oinit, o_iret, o_lret, o_fret, o_dret, o_aret, o_vret, o_throw, o_call, o_callV, am_kc, am_noX, o_im, o_ia, o_gets, o_ldcK, o_getK, o_codK, o_lenK, o_bldK, o_i2b, o_callK, o_mna, o_clone, o_castA, am_s1, am_s2, am_kill, am_inl, am_sl, Value.category, List.getElem?_cons_zero, List.getElem?_cons_succ, List.set_cons_zero, List.set_cons_succ, List.length_cons, List.length_nil, List.take_succ_cons, List.take_zero, List.drop_succ_cons, List.drop_zero, List.reverse_cons, List.reverse_nil, List.nil_append, List.cons_append, List.append_nil, List.map_cons, List.map_nil, List.sum_cons, List.sum_nil, List.replicate_succ, List.replicate_zero, Nat.zero_add, Nat.add_zero, Nat.le_refl, Nat.zero_le, ite_true, ite_false, if_true, if_false, true_and, and_true, eq_self, not_true_eq_false, not_false_eq_true, am_nb0, am_nb1, am_ni, am_fi, am_fr, am_fra, am_fz0, am_fz1, am_fl, am_uE, am_vnI, am_uu, am_ltx, ite_not, Classical.not_not, reduceIte, reduceCtorEq, Nat.reduceEqDiff, Nat.reduceAdd, Nat.reduceSub, Nat.reduceMul, Nat.reduceLeDiff, Nat.reduceLT, Int32.reduceLE, Int32.reduceLT, am_10, am_01, am_ite0, am_ite1, ms_boT, ms_boF, rmc_L_meanCells, rms_L_meanCells, rmc_X7_meanCells, rms_X7_meanCells, h0, hw1, hp3, hs4, hf5, h6, h9, h12, h15, h16]
  refine ⟨b, σ, rfl, ⟨τ, w, u, h⟩, fun E' hE' hk => ?_⟩
  have hEo' : E' o = _ := (hk o ho).trans hEo
  have v01 : vp_in 0 1 := vp_in_nI (n := 0) (by decide) (by decide)
  have hq := q_meanCells_2 σ
  rw [hq] at hE'
  clear hq
  unfold q_meanCells
  have hz : ∀ x, am_pcs σ = x → (x = 0 → K (.inl (some (.int 1))) n E') ∧ (¬ x = 0 → ∀ (E2 : am_E) (g' : Nat → UInt64), am_HS b E2 σ → (∀ k, (k < b ∨ b + 214 ≤ k) → k ≠ o → E2 k = E k) → E2 o = some (.inl (4, 1, .inr (.inr (.inr (.inl g'))))) → K (.inl (some (.int 0))) n E2) := fun x hx => ⟨fun q => by
    have := hK E' g hE' (fun k h1 _ => hk k h1) hEo'
    rw [if_pos (hx.trans q)] at this
    exact this, fun q E2 g2 a1 a2 a3 => by
    have := hK E2 g2 a1 a2 a3
    rw [if_neg (fun z => q (hx.symm.trans z))] at this
    exact this⟩
  clear hK
  have hz := hz _ rfl
  generalize am_pcs σ = z at hz ⊢
  by_cases c : z = 0
  · rw [if_pos c]
    exact ⟨(x_NE, 1), by simp, rfl, hz.1 c⟩
  · rw [if_neg c]
    have hz := hz.2 c
    generalize FP.ddiv (FP.i2d (nI (am_on σ - fb_ct (fun k => decide (st_f σ k = -1)) 144))) (FP.i2d (nI z)) = f
    show am_kc _ _ _ _ _ _ (.inl (some (.double f))) n E'
    simp only [bk_L_meanCells_0, o_pi, o_pl, o_pf, o_pd, o_iload, o_lload, o_fload, o_dload, o_aload, o_istore, o_lstore, o_fstore, o_dstore, o_astore, o_iinc, o_ib, o_ibz, o_lb, o_lbz, o_lsh, o_lcmp, o_ineg, o_i2l, o_l2i, o_i2c, o_i2f, o_i2d, o_f2d, o_fdiv, o_ddiv, o_fcmp, o_dcmp, o_dup, o_dup2, o_pop, o_if_eq, o_if_ne, o_if_lt, o_if_ge, o_if_gt, o_if_le, o_ic_eq, o_ic_ne, o_ic_lt, o_ic_ge, o_ic_gt, o_ic_le, o_if, o_ic, o_getf, o_putf, o_ild, o_ist, o_lld, o_lst, o_dld, o_dst, o_ald, o_alen, o_new, o_newa, o_ast, o_oinit, o_iret, o_lret, o_fret, o_dret, o_aret, o_vret, o_throw, o_call, o_callV, am_kc, am_noX, o_im, o_ia, o_gets, o_ldcK, o_getK, o_codK, o_lenK, o_bldK, o_i2b, o_callK, o_mna, o_clone, o_castA, am_s1, am_s2, am_kill, am_inl, am_sl, Value.category, List.getElem?_cons_zero, List.getElem?_cons_succ, List.set_cons_zero, List.set_cons_succ, List.length_cons, List.length_nil, List.take_succ_cons, List.take_zero, List.drop_succ_cons, List.drop_zero, List.reverse_cons, List.reverse_nil, List.nil_append, List.cons_append, List.append_nil, List.map_cons, List.map_nil, List.sum_cons, List.sum_nil, List.replicate_succ, List.replicate_zero, Nat.zero_add, Nat.add_zero, Nat.le_refl, Nat.zero_le, ite_true, ite_false, if_true, if_false, true_and, and_true, eq_self, not_true_eq_false, not_false_eq_true, am_nb0, am_nb1, am_ni, am_fi, am_fr, am_fra, am_fz0, am_fz1, am_fl, am_uE, am_vnI, am_uu, am_ltx, ite_not, Classical.not_not, reduceIte, reduceCtorEq, Nat.reduceEqDiff, Nat.reduceAdd, Nat.reduceSub, Nat.reduceMul, Nat.reduceLeDiff, Nat.reduceLT, Int32.reduceLE, Int32.reduceLT, am_10, am_01, am_ite0, am_ite1, ms_boT, ms_boF, rmc_L_meanCells, rms_L_meanCells, rmc_X7_meanCells, rms_X7_meanCells, hEo', v01]
    exact hz _ _ (am_HS_off hE' ho) (fun k h1 h2 => by rw [am_uN h2]; exact hk k h1) am_uE
set_option maxRecDepth 100000 in
set_option maxHeartbeats 4000000 in
theorem sd_L_meanCells (X : am_X) (K : am_P) (F : am_F X cL_meanCells yL_meanCells.cls (some .int) (am_wsT yL_meanCells cL_meanCells 3 (some .int) [(0, 7, 10, 67)])) (FQ : am_FQ X K rm_L_meanCells.cells rm_L_meanCells.slots) (hR : am_Rm X rm_L_meanCells) (hT : am_T X [(0, 7, 10, 67)]) (hn : am_nL X = 3) : cl_L_meanCells K (am_G X) := by
  have ts : ∀ w ∈ am_WS, w ∈ am_wsT yL_meanCells cL_meanCells 3 (some .int) [(0, 7, 10, 67)] := fun w h => List.mem_cons_of_mem _ h
  exact ms_aload_n F (am_dk (q := (0, .aload_n 1, 1)) dk_L_meanCells_0 0 rfl) rfl (ms_iconst F (am_dk (q := (1, .iconst 0, 1)) dk_L_meanCells_0 1 rfl) (by decide +kernel) (ms_aload_n F (am_dk (q := (2, .aload_n 0, 1)) dk_L_meanCells_0 2 rfl) rfl (ms_callV F hR (ci := 7) (r9 := (RX7, TX7, 16)) (y := yX7_meanCells) (maxL := 3) (rm' := rm_X7_meanCells) (na := 0) ct_X7_meanCells wd_1010 wd_1 wd_1007 wd_1008 wd_1009 rfl (by decide +kernel) (by decide) (am_dk (q := (3, .invokevirtual 129, 3)) dk_L_meanCells_0 3 rfl) (ms_hdl_c (ms_cat F FQ hT (C := "java/util/NoSuchElementException") (name := "java/util/NoSuchElementException") [] ⟨0, 7, 10, 67⟩ [] rfl (fun _ h => absurd h List.not_mem_nil) (by decide) (by decide) (ts _ wd_781) wn_792 hn (by decide : 2 < 3) (Or.inl ⟨2, rfl, (am_dk (q := (10, .astore_n 2, 1)) dk_L_meanCells_0 6 rfl), rfl⟩) (am_dk (q := (11, .iconst 1, 1)) dk_L_meanCells_0 7 rfl) (by decide +kernel) (am_dk (q := (12, .ireturn, 1)) dk_L_meanCells_0 8 rfl) rfl) (ms_hdl_n _ _)) (ms_dastore F (am_dk (q := (6, .dastore, 1)) dk_L_meanCells_0 4 rfl) (ms_goto F (tgt := 13) (am_dk (q := (7, .goto 6, 3)) dk_L_meanCells_0 5 rfl) (by decide) (ms_iconst F (am_dk (q := (13, .iconst 0, 1)) dk_L_meanCells_0 9 rfl) (by decide +kernel) (ms_iret F FQ rfl (am_dk (q := (14, .ireturn, 1)) dk_L_meanCells_0 10 rfl))))))))
theorem ct_L_meanCells (l : Launch) (htr : l.stackTraces = false) : am_Ct l yL_meanCells (am_wsT yL_meanCells cL_meanCells 3 (some .int) [(0, 7, 10, 67)]) rm_L_meanCells sp_L_meanCells := am_ofH htr (by decide) wd_1006 (fun X K F FQ hR hT hn as n E hS => f_L_meanCells K (am_G X) (sd_L_meanCells X K F FQ hR hT hn) as n E hS)
