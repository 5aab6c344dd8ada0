def sp_X7_isInside : am_S := fun as n E K => ∃ x y : Int32, as = [.int x, .int y] ∧ K (.inl (some (.int (if (0 ≤ x ∧ ¬ 12 ≤ x) ∧ 0 ≤ y ∧ ¬ 12 ≤ y then 1 else 0)))) n E
def rm_X7_isInside : Room := { frames := 0, cells := 0, slots := 0, locals := 0 }
theorem rmc_X7_isInside : rm_X7_isInside.cells = 0 := rfl
theorem rms_X7_isInside : rm_X7_isInside.slots = 0 := rfl
theorem ct_X7_isInside (l : Launch) (htr : l.stackTraces = false) : am_Ct l yX7_isInside (am_ws yX7_isInside cX7_isInside 2 (some .boolean)) rm_X7_isInside sp_X7_isInside := sorry
def sp_X7_requireCells : am_S := fun as n E K => ∃ l lo r hi : Int32, as = [.int l, .int lo, .int r, .int hi] ∧ (am_rng l lo r hi → K (.inl none) n E) ∧ (¬ am_rng l lo r hi → K (.inr "java/lang/IllegalArgumentException") n E)
def rm_X7_requireCells : Room := { frames := 6, cells := 1, slots := 6, locals := 82 }
theorem rmc_X7_requireCells : rm_X7_requireCells.cells = 1 := rfl
theorem rms_X7_requireCells : rm_X7_requireCells.slots = 6 := rfl
theorem ct_X7_requireCells (l : Launch) (htr : l.stackTraces = false) : am_Ct l yX7_requireCells (am_ws yX7_requireCells cX7_requireCells 4 none) rm_X7_requireCells sp_X7_requireCells := sorry
def sp_X5_at : am_S := fun as n E K => ∃ (t c : Nat) (f : Nat → Int32) (x y : Int32), as = [.ref t, .int x, .int y] ∧ am_wl E t c f ∧ K (.inl (some (.int (am_at f x y)))) n E
def rm_X5_at : Room := { frames := 1, cells := 0, slots := 0, locals := 21 }
theorem rmc_X5_at : rm_X5_at.cells = 0 := rfl
theorem rms_X5_at : rm_X5_at.slots = 0 := rfl
theorem ct_X5_at (l : Launch) (htr : l.stackTraces = false) : am_Ct l yX5_at (am_ws yX5_at cX5_at 3 (some .int)) rm_X5_at sp_X5_at := sorry
def sp_X7_isWithin : am_S := fun as n E K => ∃ x lo hi : Int32, as = [.int x, .int lo, .int hi] ∧ K (.inl (some (.int (if lo ≤ x ∧ x ≤ hi then 1 else 0)))) n E
def rm_X7_isWithin : Room := { frames := 0, cells := 0, slots := 0, locals := 0 }
theorem rmc_X7_isWithin : rm_X7_isWithin.cells = 0 := rfl
theorem rms_X7_isWithin : rm_X7_isWithin.slots = 0 := rfl
theorem ct_X7_isWithin (l : Launch) (htr : l.stackTraces = false) : am_Ct l yX7_isWithin (am_ws yX7_isWithin cX7_isWithin 3 (some .boolean)) rm_X7_isWithin sp_X7_isWithin := sorry
def sp_X7_isPiece : am_S := fun as n E K => ∃ x : Int32, as = [.int x] ∧ K (.inl (some (.int (if 0 ≤ x ∧ x ≤ 29 then 1 else 0)))) n E
def rm_X7_isPiece : Room := { frames := 1, cells := 0, slots := 0, locals := 22 }
theorem rmc_X7_isPiece : rm_X7_isPiece.cells = 0 := rfl
theorem rms_X7_isPiece : rm_X7_isPiece.slots = 0 := rfl
theorem ct_X7_isPiece (l : Launch) (htr : l.stackTraces = false) : am_Ct l yX7_isPiece (am_ws yX7_isPiece cX7_isPiece 1 (some .boolean)) rm_X7_isPiece sp_X7_isPiece := sorry
def sp_X2_hasGlass : am_S := fun as n E K => ∃ (t p y : Nat) (wc wk st co yr : Int32), as = [.ref t] ∧ am_pn0 E t wc wk st co yr p y ∧ K (.inl (some (.int (if st = 45 then 0 else 1)))) n E
def rm_X2_hasGlass : Room := { frames := 0, cells := 0, slots := 0, locals := 0 }
theorem rmc_X2_hasGlass : rm_X2_hasGlass.cells = 0 := rfl
theorem rms_X2_hasGlass : rm_X2_hasGlass.slots = 0 := rfl
theorem ct_X2_hasGlass (l : Launch) (htr : l.stackTraces = false) : am_Ct l yX2_hasGlass (am_ws yX2_hasGlass cX2_hasGlass 1 (some .boolean)) rm_X2_hasGlass sp_X2_hasGlass := sorry
def sp_X7_isGlassWithin : am_S := fun as n E K => ∃ (b l lo r hi : Nat) (σ : am_St), as = [.ref b, .int (nI l), .int (nI lo), .int (nI r), .int (nI hi)] ∧ l ≤ r ∧ r < 12 ∧ lo ≤ hi ∧ hi < 12 ∧ am_HS b E σ ∧ K (.inl (some (.int (if am_rga (am_gl1 σ) l lo r hi = true then 1 else 0)))) n E
def rm_X7_isGlassWithin : Room := { frames := 2, cells := 0, slots := 0, locals := 43 }
theorem rmc_X7_isGlassWithin : rm_X7_isGlassWithin.cells = 0 := rfl
theorem rms_X7_isGlassWithin : rm_X7_isGlassWithin.slots = 0 := rfl
theorem ct_X7_isGlassWithin (l : Launch) (htr : l.stackTraces = false) : am_Ct l yX7_isGlassWithin (am_ws yX7_isGlassWithin cX7_isGlassWithin 8 (some .boolean)) rm_X7_isGlassWithin sp_X7_isGlassWithin := sorry
def sp_X5_put : am_S := fun as n E K => ∃ (t c i j : Nat) (f : Nat → Int32) (v : Int32), as = [.ref t, .int (nI i), .int (nI j), .int v] ∧ i < 12 ∧ j < 12 ∧ am_wl E t c f ∧ K (.inl none) n (am_u E c (.inl (0, 144, .inl (upd f (12 * j + i) v))))
def rm_X5_put : Room := { frames := 1, cells := 0, slots := 0, locals := 21 }
theorem rmc_X5_put : rm_X5_put.cells = 0 := rfl
theorem rms_X5_put : rm_X5_put.slots = 0 := rfl
theorem ct_X5_put (l : Launch) (htr : l.stackTraces = false) : am_Ct l yX5_put (am_ws yX5_put cX5_put 4 none) rm_X5_put sp_X5_put := sorry
def sp_X7_open : am_S := fun as n E K => ∃ (b : Nat) (σ : am_St) (l : Int32) (lo : Int32) (r : Int32) (hi : Int32) (v : Bool), as = [.ref b, .int l, .int lo, .int r, .int hi, .int (if v = true then 1 else 0)] ∧ am_HS b E σ ∧ am_api b n E K (q_open σ l lo r hi v)
def rm_X7_open : Room := { frames := 7, cells := 2, slots := 12, locals := 105 }
theorem rmc_X7_open : rm_X7_open.cells = 2 := rfl
theorem rms_X7_open : rm_X7_open.slots = 12 := rfl
theorem ct_X7_open (l : Launch) (htr : l.stackTraces = false) : am_Ct l yX7_open (am_ws yX7_open cX7_open 10 (some .int)) rm_X7_open sp_X7_open := sorry
def sp_L_open : am_S := fun as n E K => ∃ (b : Nat) (σ : am_St) (l : Int32) (lo : Int32) (r : Int32) (hi : Int32) (v : Bool) (o : Nat) (g : Nat → Int64), as = [.ref b, .int l, .int lo, .int r, .int hi, .int (if v = true then 1 else 0), .ref o] ∧ am_HS b E σ ∧ (o < b ∨ b + 214 ≤ o) ∧ E o = some (.inl (1, 1, .inr (.inl g))) ∧ am_wr b o n E K L_AU (q_open σ l lo r hi v)
def rm_L_open : Room := { frames := 8, cells := 2, slots := 12, locals := 134 }
theorem rmc_L_open : rm_L_open.cells = 2 := rfl
theorem rms_L_open : rm_L_open.slots = 12 := rfl
def bk_L_open_0 (K : am_P) (G : Nat → am_C) : am_C := o_aload 6 <| o_pi 0 <| o_aload 0 <| o_iload 1 <| o_iload 2 <| o_iload 3 <| o_iload 4 <| o_iload 5 <| o_callV 7 6 sp_X7_open rm_X7_open rm_L_open (am_hdl [("java/lang/IllegalArgumentException", 1), ("java/lang/UnsupportedOperationException", 2)] K) <| o_i2l <| o_lst <| o_pi 0 <| o_iret .int K
def cl_L_open (K : am_P) (G : Nat → am_C) : Prop := am_imp (bk_L_open_0 K G) (G 0)
theorem f_L_open (K : am_P) (G : Nat → am_C) (hC : cl_L_open K G) (as : List Value) (n : Nat) (E : am_E) (hS : sp_L_open as n E K) : (am_sl as).length ≤ 8 ∧ G 0 (am_inl 8 as) [] n E 0 0 := by
  obtain ⟨b, σ, l, lo, r, hi, v, o, g, rfl, ⟨τ, w, u, h⟩, ho, hEo, hK⟩ := hS
  refine ⟨by simp [am_sl, Value.category], ?_⟩
  have h0 : E b = some (.inr (7, [.ref (b + 1), .ref (b + 3), .ref (b + 4), .ref (b + 5), .int (nI (σ 15 0 0)), .int (nI (σ 15 8 0)), .int (nI (σ 15 6 0)), .int (nI (σ 15 4 0)), .int (nI (σ 15 5 0)), .int (nI (σ 15 3 0)), .int (nI (σ 15 7 0)), .ref (b + 6), .ref (b + 9), .ref (b + 12), .ref (b + 15), .ref (b + 16)])) := hs_hall h
  have hw1 : E (b + 1) = some (.inr (5, [.ref (b + 2)])) := hs_t h 1 (by decide)
  have hp3 := hs_panes h
  have hs4 := hs_sheets h
  have hf5 : E (b + 5) = some (.inr (0, [.int (nI (am_bn (st_b σ) 12)), .int (nI (σ 15 1 0)), .int (nI (σ 15 2 0))])) := hs_t h 5 (by decide)
  have h6 : E (b + 6) = some (.inr (3, [.ref (b + 7), .ref (b + 8)])) := hs_t h 6 (by decide)
  have h9 : E (b + 9) = some (.inr (3, [.ref (b + 10), .ref (b + 11)])) := hs_t h 9 (by decide)
  have h12 : E (b + 12) = some (.inr (3, [.ref (b + 13), .ref (b + 14)])) := hs_t h 12 (by decide)
  have h15 := hs_wts h
  have h16 : E (b + 16) = some (.inr (6, [.ref (b + 17)])) := hs_t h 16 (by decide)
  apply hC
  simp only [bk_L_open_0, o_pi, o_pl, o_pf, o_pd, o_iload, o_lload, o_fload, o_dload, o_aload, o_istore, o_lstore, o_fstore, o_dstore, o_astore, o_iinc, o_ib, o_ibz, o_lb, o_lbz, o_lsh, o_lcmp, o_ineg, o_i2l, o_l2i, o_i2c, o_i2f, o_i2d, o_f2d, o_fdiv, o_ddiv, o_fcmp, o_dcmp, o_dup, o_dup2, o_pop, o_if_eq, o_if_ne, o_if_lt, o_if_ge, o_if_gt, o_if_le, o_ic_eq, o_ic_ne, o_ic_lt, o_ic_ge, o_ic_gt, o_ic_le, o_if, o_ic, o_getf, o_putf, o_ild, o_ist, o_lld, o_lst, o_dld, o_dst, o_ald, o_alen, o_new, o_newa, o_ast, o_oinit, o_iret, o_lret, o_fret, o_dret, o_aret, o_vret, o_throw, o_call, o_callV, am_kc, am_noX, o_im, o_ia, o_gets, o_ldcK, o_getK, o_codK, o_lenK, o_bldK, o_i2b, o_callK, o_mna, o_clone, o_castA, am_s1, am_s2, am_kill, am_inl, am_sl, Value.category, List.getElem?_cons_zero, List.getElem?_cons_succ, List.set_cons_zero, List.set_cons_succ, List.length_cons, List.length_nil, List.take_succ_cons, List.take_zero, List.drop_succ_cons, List.drop_zero, List.reverse_cons, List.reverse_nil, List.nil_append, List.cons_append, List.append_nil, List.map_cons, List.map_nil, List.sum_cons, List.sum_nil, List.replicate_succ, List.replicate_zero, Nat.zero_add, Nat.add_zero, Nat.le_refl, Nat.zero_le, ite_true, ite_false, if_true, if_false, true_and, and_true, eq_self, not_true_eq_false, not_false_eq_true, am_nb0, am_nb1, am_ni, am_fi, am_fr, am_fra, am_fz0, am_fz1, am_fl, am_uE, am_vnI, am_uu, am_ltx, ite_not, Classical.not_not, reduceIte, reduceCtorEq, Nat.reduceEqDiff, Nat.reduceAdd, Nat.reduceSub, Nat.reduceMul, Nat.reduceLeDiff, Nat.reduceLT, Int32.reduceLE, Int32.reduceLT, am_10, am_01, am_ite0, am_ite1, ms_boT, ms_boF, rmc_L_open, rms_L_open, rmc_X7_open, rms_X7_open, h0, hw1, hp3, hs4, hf5, h6, h9, h12, h15, h16]
  refine ⟨b, σ, l, lo, r, hi, v, rfl, ⟨τ, w, u, h⟩, fun E' hE' hk => ?_⟩
  have hEo' : E' o = some (.inl (1, 1, .inr (.inl g))) := (hk o ho).trans hEo
  have v01 : vp_in 0 1 := vp_in_nI (n := 0) (by decide) (by decide)
  have c0 : Int32.toNatClampNeg 0 = 0 := rfl
  have hok := ok9_open σ l lo r hi v
  generalize q_open σ l lo r hi v = rr at hK hE' hok ⊢
  rcases hok with ⟨v, σ', hv, rfl⟩ | ⟨C, σ', hC9, rfl⟩
  · show am_kc _ _ _ _ _ _ (.inl (some (.int v))) n E'
    simp only [bk_L_open_0, o_pi, o_pl, o_pf, o_pd, o_iload, o_lload, o_fload, o_dload, o_aload, o_istore, o_lstore, o_fstore, o_dstore, o_astore, o_iinc, o_ib, o_ibz, o_lb, o_lbz, o_lsh, o_lcmp, o_ineg, o_i2l, o_l2i, o_i2c, o_i2f, o_i2d, o_f2d, o_fdiv, o_ddiv, o_fcmp, o_dcmp, o_dup, o_dup2, o_pop, o_if_eq, o_if_ne, o_if_lt, o_if_ge, o_if_gt, o_if_le, o_ic_eq, o_ic_ne, o_ic_lt, o_ic_ge, o_ic_gt, o_ic_le, o_if, o_ic, o_getf, o_putf, o_ild, o_ist, o_lld, o_lst, o_dld, o_dst, o_ald, o_alen, o_new, o_newa, o_ast, o_oinit, o_iret, o_lret, o_fret, o_dret, o_aret, o_vret, o_throw, o_call, o_callV, am_kc, am_noX, o_im, o_ia, o_gets, o_ldcK, o_getK, o_codK, o_lenK, o_bldK, o_i2b, o_callK, o_mna, o_clone, o_castA, am_s1, am_s2, am_kill, am_inl, am_sl, Value.category, List.getElem?_cons_zero, List.getElem?_cons_succ, List.set_cons_zero, List.set_cons_succ, List.length_cons, List.length_nil, List.take_succ_cons, List.take_zero, List.drop_succ_cons, List.drop_zero, List.reverse_cons, List.reverse_nil, List.nil_append, List.cons_append, List.append_nil, List.map_cons, List.map_nil, List.sum_cons, List.sum_nil, List.replicate_succ, List.replicate_zero, Nat.zero_add, Nat.add_zero, Nat.le_refl, Nat.zero_le, ite_true, ite_false, if_true, if_false, true_and, and_true, eq_self, not_true_eq_false, not_false_eq_true, am_nb0, am_nb1, am_ni, am_fi, am_fr, am_fra, am_fz0, am_fz1, am_fl, am_uE, am_vnI, am_uu, am_ltx, ite_not, Classical.not_not, reduceIte, reduceCtorEq, Nat.reduceEqDiff, Nat.reduceAdd, Nat.reduceSub, Nat.reduceMul, Nat.reduceLeDiff, Nat.reduceLT, Int32.reduceLE, Int32.reduceLT, am_10, am_01, am_ite0, am_ite1, ms_boT, ms_boF, rmc_L_open, rms_L_open, rmc_X7_open, rms_X7_open, hEo', v01, c0]
    exact am_wr_i hK ho hE' hk
  · show ∃ q ∈ [(x_IA, (1 : Int32)), (x_UO, (2 : Int32))], q.1 = C ∧ K (.inl (some (.int q.2))) n E'
    have hC8 : C = x_IA ∨ C = x_UO := by simpa using hC9
    rcases hC8 with rfl | rfl
    · exact ⟨(x_IA, 1), by simp, rfl, am_wr_x hK th_AU_1 hEo' hE' hk⟩
    · exact ⟨(x_UO, 2), by simp, rfl, am_wr_x hK th_AU_2 hEo' hE' hk⟩
set_option maxRecDepth 100000 in
set_option maxHeartbeats 4000000 in
theorem sd_L_open (X : am_X) (K : am_P) (F : am_F X cL_open yL_open.cls (some .int) (am_wsT yL_open cL_open 8 (some .int) [(0, 16, 19, 13), (0, 16, 23, 15)])) (FQ : am_FQ X K rm_L_open.cells rm_L_open.slots) (hR : am_Rm X rm_L_open) (hT : am_T X [(0, 16, 19, 13), (0, 16, 23, 15)]) (hn : am_nL X = 8) : cl_L_open K (am_G X) := by
  have ts : ∀ w ∈ am_WS, w ∈ am_wsT yL_open cL_open 8 (some .int) [(0, 16, 19, 13), (0, 16, 23, 15)] := fun w h => List.mem_cons_of_mem _ h
  exact ms_aload F (am_dk (q := (0, .aload 6, 2)) dk_L_open_0 0 rfl) (ms_iconst F (am_dk (q := (2, .iconst 0, 1)) dk_L_open_0 1 rfl) (by decide +kernel) (ms_aload_n F (am_dk (q := (3, .aload_n 0, 1)) dk_L_open_0 2 rfl) rfl (ms_iload_n F (am_dk (q := (4, .iload_n 1, 1)) dk_L_open_0 3 rfl) rfl (ms_iload_n F (am_dk (q := (5, .iload_n 2, 1)) dk_L_open_0 4 rfl) rfl (ms_iload_n F (am_dk (q := (6, .iload_n 3, 1)) dk_L_open_0 5 rfl) rfl (ms_iload F (am_dk (q := (7, .iload 4, 2)) dk_L_open_0 6 rfl) (ms_iload F (am_dk (q := (9, .iload 5, 2)) dk_L_open_0 7 rfl) (ms_callV F hR (ci := 7) (r9 := (RX7, TX7, 16)) (y := yX7_open) (maxL := 10) (rm' := rm_X7_open) (na := 5) ct_X7_open wd_397 wd_1 wd_394 wd_395 wd_396 rfl (by decide +kernel) (by decide) (am_dk (q := (11, .invokevirtual 7, 3)) dk_L_open_0 8 rfl) (ms_hdl_c (ms_cat F FQ hT (C := "java/lang/IllegalArgumentException") (name := "java/lang/IllegalArgumentException") [] ⟨0, 16, 19, 13⟩ [⟨0, 16, 23, 15⟩] rfl (fun _ h => absurd h List.not_mem_nil) (by decide) (by decide) (ts _ wd_392) wn_404 hn (by decide : 7 < 8) (Or.inr ⟨(am_dk (q := (19, .astore 7, 2)) dk_L_open_0 12 rfl), rfl⟩) (am_dk (q := (21, .iconst 1, 1)) dk_L_open_0 13 rfl) (by decide +kernel) (am_dk (q := (22, .ireturn, 1)) dk_L_open_0 14 rfl) rfl) (ms_hdl_c (ms_cat F FQ hT (C := "java/lang/UnsupportedOperationException") (name := "java/lang/UnsupportedOperationException") [⟨0, 16, 19, 13⟩] ⟨0, 16, 23, 15⟩ [] rfl (List.forall_mem_cons.mpr ⟨⟨by decide, "java/lang/IllegalArgumentException", ts _ wd_392, by decide +kernel⟩, (fun _ h => absurd h List.not_mem_nil)⟩) (by decide) (by decide) (ts _ wd_393) wn_482 hn (by decide : 7 < 8) (Or.inr ⟨(am_dk (q := (23, .astore 7, 2)) dk_L_open_0 15 rfl), rfl⟩) (am_dk (q := (25, .iconst 2, 1)) dk_L_open_0 16 rfl) (by decide +kernel) (am_dk (q := (26, .ireturn, 1)) dk_L_open_0 17 rfl) rfl) (ms_hdl_n _ _))) (ms_i2l F (am_dk (q := (14, .i2l, 1)) dk_L_open_0 9 rfl) (ms_lastore F (am_dk (q := (15, .lastore, 1)) dk_L_open_0 10 rfl) (ms_goto F (tgt := 27) (am_dk (q := (16, .goto 11, 3)) dk_L_open_0 11 rfl) (by decide) (ms_iconst F (am_dk (q := (27, .iconst 0, 1)) dk_L_open_0 18 rfl) (by decide +kernel) (ms_iret F FQ rfl (am_dk (q := (28, .ireturn, 1)) dk_L_open_0 19 rfl))))))))))))))
theorem ct_L_open (l : Launch) (htr : l.stackTraces = false) : am_Ct l yL_open (am_wsT yL_open cL_open 8 (some .int) [(0, 16, 19, 13), (0, 16, 23, 15)]) rm_L_open sp_L_open := am_ofH htr (by decide) wd_391 (fun X K F FQ hR hT hn as n E hS => f_L_open K (am_G X) (sd_L_open X K F FQ hR hT hn) as n E hS)
def sp_X7_requirePiece : am_S := fun as n E K => ∃ x : Int32, as = [.int x] ∧ (0 ≤ x ∧ x ≤ 29 → K (.inl none) n E) ∧ (¬ (0 ≤ x ∧ x ≤ 29) → K (.inr "java/lang/IndexOutOfBoundsException") n E)
def rm_X7_requirePiece : Room := { frames := 6, cells := 1, slots := 6, locals := 82 }
theorem rmc_X7_requirePiece : rm_X7_requirePiece.cells = 1 := rfl
theorem rms_X7_requirePiece : rm_X7_requirePiece.slots = 6 := rfl
theorem ct_X7_requirePiece (l : Launch) (htr : l.stackTraces = false) : am_Ct l yX7_requirePiece (am_ws yX7_requirePiece cX7_requirePiece 1 none) rm_X7_requirePiece sp_X7_requirePiece := sorry
def sp_X7_isOpenWithin : am_S := fun as n E K => ∃ (b l lo r hi : Nat) (σ : am_St), as = [.ref b, .int (nI l), .int (nI lo), .int (nI r), .int (nI hi)] ∧ l ≤ r ∧ r < 12 ∧ lo ≤ hi ∧ hi < 12 ∧ am_HS b E σ ∧ K (.inl (some (.int (if am_rga (am_op1 σ) l lo r hi = true then 1 else 0)))) n E
def rm_X7_isOpenWithin : Room := { frames := 2, cells := 0, slots := 0, locals := 43 }
theorem rmc_X7_isOpenWithin : rm_X7_isOpenWithin.cells = 0 := rfl
theorem rms_X7_isOpenWithin : rm_X7_isOpenWithin.slots = 0 := rfl
theorem ct_X7_isOpenWithin (l : Launch) (htr : l.stackTraces = false) : am_Ct l yX7_isOpenWithin (am_ws yX7_isOpenWithin cX7_isOpenWithin 7 (some .boolean)) rm_X7_isOpenWithin sp_X7_isOpenWithin := sorry
def sp_X5_cellsOf : am_S := fun as n E K => ∃ (t c : Nat) (f : Nat → Int32) (v : Int32), as = [.ref t, .int v] ∧ am_wl E t c f ∧ K (.inl (some (.int (nI (fb_ct (fun k => decide (f k = v)) 144))))) n E
def rm_X5_cellsOf : Room := { frames := 0, cells := 0, slots := 0, locals := 0 }
theorem rmc_X5_cellsOf : rm_X5_cellsOf.cells = 0 := rfl
theorem rms_X5_cellsOf : rm_X5_cellsOf.slots = 0 := rfl
theorem ct_X5_cellsOf (l : Launch) (htr : l.stackTraces = false) : am_Ct l yX5_cellsOf (am_ws yX5_cellsOf cX5_cellsOf 4 (some .int)) rm_X5_cellsOf sp_X5_cellsOf := sorry
def sp_X7_lay : am_S := fun as n E K => ∃ (b : Nat) (σ : am_St) (p : Int32) (l : Int32) (lo : Int32) (r : Int32) (hi : Int32), as = [.ref b, .int p, .int l, .int lo, .int r, .int hi] ∧ am_HS b E σ ∧ am_api b n E K (q_lay σ p l lo r hi)
def rm_X7_lay : Room := { frames := 7, cells := 3, slots := 18, locals := 105 }
theorem rmc_X7_lay : rm_X7_lay.cells = 3 := rfl
theorem rms_X7_lay : rm_X7_lay.slots = 18 := rfl
theorem ct_X7_lay (l : Launch) (htr : l.stackTraces = false) : am_Ct l yX7_lay (am_ws yX7_lay cX7_lay 8 (some .int)) rm_X7_lay sp_X7_lay := sorry
def sp_L_lay : am_S := fun as n E K => ∃ (b : Nat) (σ : am_St) (p : Int32) (l : Int32) (lo : Int32) (r : Int32) (hi : Int32) (o : Nat) (g : Nat → Int64), as = [.ref b, .int p, .int l, .int lo, .int r, .int hi, .ref o] ∧ am_HS b E σ ∧ (o < b ∨ b + 214 ≤ o) ∧ E o = some (.inl (1, 1, .inr (.inl g))) ∧ am_wr b o n E K L_OAU (q_lay σ p l lo r hi)
def rm_L_lay : Room := { frames := 8, cells := 3, slots := 18, locals := 132 }
theorem rmc_L_lay : rm_L_lay.cells = 3 := rfl
theorem rms_L_lay : rm_L_lay.slots = 18 := rfl
def bk_L_lay_0 (K : am_P) (G : Nat → am_C) : am_C := o_aload 6 <| o_pi 0 <| o_aload 0 <| o_iload 1 <| o_iload 2 <| o_iload 3 <| o_iload 4 <| o_iload 5 <| o_callV 7 6 sp_X7_lay rm_X7_lay rm_L_lay (am_hdl [("java/lang/IndexOutOfBoundsException", 1), ("java/lang/IllegalArgumentException", 2), ("java/lang/UnsupportedOperationException", 3)] K) <| o_i2l <| o_lst <| o_pi 0 <| o_iret .int K
def cl_L_lay (K : am_P) (G : Nat → am_C) : Prop := am_imp (bk_L_lay_0 K G) (G 0)
theorem f_L_lay (K : am_P) (G : Nat → am_C) (hC : cl_L_lay K G) (as : List Value) (n : Nat) (E : am_E) (hS : sp_L_lay as n E K) : (am_sl as).length ≤ 8 ∧ G 0 (am_inl 8 as) [] n E 0 0 := by
  obtain ⟨b, σ, p, l, lo, r, hi, o, g, rfl, ⟨τ, w, u, h⟩, ho, hEo, hK⟩ := hS
  refine ⟨by simp [am_sl, Value.category], ?_⟩
  have h0 : E b = some (.inr (7, [.ref (b + 1), .ref (b + 3), .ref (b + 4), .ref (b + 5), .int (nI (σ 15 0 0)), .int (nI (σ 15 8 0)), .int (nI (σ 15 6 0)), .int (nI (σ 15 4 0)), .int (nI (σ 15 5 0)), .int (nI (σ 15 3 0)), .int (nI (σ 15 7 0)), .ref (b + 6), .ref (b + 9), .ref (b + 12), .ref (b + 15), .ref (b + 16)])) := hs_hall h
  have hw1 : E (b + 1) = some (.inr (5, [.ref (b + 2)])) := hs_t h 1 (by decide)
  have hp3 := hs_panes h
  have hs4 := hs_sheets h
  have hf5 : E (b + 5) = some (.inr (0, [.int (nI (am_bn (st_b σ) 12)), .int (nI (σ 15 1 0)), .int (nI (σ 15 2 0))])) := hs_t h 5 (by decide)
  have h6 : E (b + 6) = some (.inr (3, [.ref (b + 7), .ref (b + 8)])) := hs_t h 6 (by decide)
  have h9 : E (b + 9) = some (.inr (3, [.ref (b + 10), .ref (b + 11)])) := hs_t h 9 (by decide)
  have h12 : E (b + 12) = some (.inr (3, [.ref (b + 13), .ref (b + 14)])) := hs_t h 12 (by decide)
  have h15 := hs_wts h
  have h16 : E (b + 16) = some (.inr (6, [.ref (b + 17)])) := hs_t h 16 (by decide)
  apply hC
  simp only [bk_L_lay_0, o_pi, o_pl, o_pf, o_pd, o_iload, o_lload, o_fload, o_dload, o_aload, o_istore, o_lstore, o_fstore, o_dstore, o_astore, o_iinc, o_ib, o_ibz, o_lb, o_lbz, o_lsh, o_lcmp, o_ineg, o_i2l, o_l2i, o_i2c, o_i2f, o_i2d, o_f2d, o_fdiv, o_ddiv, o_fcmp, o_dcmp, o_dup, o_dup2, o_pop, o_if_eq, o_if_ne, o_if_lt, o_if_ge, o_if_gt, o_if_le, o_ic_eq, o_ic_ne, o_ic_lt, o_ic_ge, o_ic_gt, o_ic_le, o_if, o_ic, o_getf, o_putf, o_ild, o_ist, o_lld, o_lst, o_dld, o_dst, o_ald, o_alen, o_new, o_newa, o_ast, o_oinit, o_iret, o_lret, o_fret, o_dret, o_aret, o_vret, o_throw, o_call, o_callV, am_kc, am_noX, o_im, o_ia, o_gets, o_ldcK, o_getK, o_codK, o_lenK, o_bldK, o_i2b, o_callK, o_mna, o_clone, o_castA, am_s1, am_s2, am_kill, am_inl, am_sl, Value.category, List.getElem?_cons_zero, List.getElem?_cons_succ, List.set_cons_zero, List.set_cons_succ, List.length_cons, List.length_nil, List.take_succ_cons, List.take_zero, List.drop_succ_cons, List.drop_zero, List.reverse_cons, List.reverse_nil, List.nil_append, List.cons_append, List.append_nil, List.map_cons, List.map_nil, List.sum_cons, List.sum_nil, List.replicate_succ, List.replicate_zero, Nat.zero_add, Nat.add_zero, Nat.le_refl, Nat.zero_le, ite_true, ite_false, if_true, if_false, true_and, and_true, eq_self, not_true_eq_false, not_false_eq_true, am_nb0, am_nb1, am_ni, am_fi, am_fr, am_fra, am_fz0, am_fz1, am_fl, am_uE, am_vnI, am_uu, am_ltx, ite_not, Classical.not_not, reduceIte, reduceCtorEq, Nat.reduceEqDiff, Nat.reduceAdd, Nat.reduceSub, Nat.reduceMul, Nat.reduceLeDiff, Nat.reduceLT, Int32.reduceLE, Int32.reduceLT, am_10, am_01, am_ite0, am_ite1, ms_boT, ms_boF, rmc_L_lay, rms_L_lay, rmc_X7_lay, rms_X7_lay, h0, hw1, hp3, hs4, hf5, h6, h9, h12, h15, h16]
  refine ⟨b, σ, p, l, lo, r, hi, rfl, ⟨τ, w, u, h⟩, fun E' hE' hk => ?_⟩
  have hEo' : E' o = some (.inl (1, 1, .inr (.inl g))) := (hk o ho).trans hEo
  have v01 : vp_in 0 1 := vp_in_nI (n := 0) (by decide) (by decide)
  have c0 : Int32.toNatClampNeg 0 = 0 := rfl
  have hok := ok9_lay σ p l lo r hi
  generalize q_lay σ p l lo r hi = rr at hK hE' hok ⊢
  rcases hok with ⟨v, σ', hv, rfl⟩ | ⟨C, σ', hC9, rfl⟩
  · show am_kc _ _ _ _ _ _ (.inl (some (.int v))) n E'
    simp only [bk_L_lay_0, o_pi, o_pl, o_pf, o_pd, o_iload, o_lload, o_fload, o_dload, o_aload, o_istore, o_lstore, o_fstore, o_dstore, o_astore, o_iinc, o_ib, o_ibz, o_lb, o_lbz, o_lsh, o_lcmp, o_ineg, o_i2l, o_l2i, o_i2c, o_i2f, o_i2d, o_f2d, o_fdiv, o_ddiv, o_fcmp, o_dcmp, o_dup, o_dup2, o_pop, o_if_eq, o_if_ne, o_if_lt, o_if_ge, o_if_gt, o_if_le, o_ic_eq, o_ic_ne, o_ic_lt, o_ic_ge, o_ic_gt, o_ic_le, o_if, o_ic, o_getf, o_putf, o_ild, o_ist, o_lld, o_lst, o_dld, o_dst, o_ald, o_alen, o_new, o_newa, o_ast, o_oinit, o_iret, o_lret, o_fret, o_dret, o_aret, o_vret, o_throw, o_call, o_callV, am_kc, am_noX, o_im, o_ia, o_gets, o_ldcK, o_getK, o_codK, o_lenK, o_bldK, o_i2b, o_callK, o_mna, o_clone, o_castA, am_s1, am_s2, am_kill, am_inl, am_sl, Value.category, List.getElem?_cons_zero, List.getElem?_cons_succ, List.set_cons_zero, List.set_cons_succ, List.length_cons, List.length_nil, List.take_succ_cons, List.take_zero, List.drop_succ_cons, List.drop_zero, List.reverse_cons, List.reverse_nil, List.nil_append, List.cons_append, List.append_nil, List.map_cons, List.map_nil, List.sum_cons, List.sum_nil, List.replicate_succ, List.replicate_zero, Nat.zero_add, Nat.add_zero, Nat.le_refl, Nat.zero_le, ite_true, ite_false, if_true, if_false, true_and, and_true, eq_self, not_true_eq_false, not_false_eq_true, am_nb0, am_nb1, am_ni, am_fi, am_fr, am_fra, am_fz0, am_fz1, am_fl, am_uE, am_vnI, am_uu, am_ltx, ite_not, Classical.not_not, reduceIte, reduceCtorEq, Nat.reduceEqDiff, Nat.reduceAdd, Nat.reduceSub, Nat.reduceMul, Nat.reduceLeDiff, Nat.reduceLT, Int32.reduceLE, Int32.reduceLT, am_10, am_01, am_ite0, am_ite1, ms_boT, ms_boF, rmc_L_lay, rms_L_lay, rmc_X7_lay, rms_X7_lay, hEo', v01, c0]
    exact am_wr_i hK ho hE' hk
  · show ∃ q ∈ [(x_IO, (1 : Int32)), (x_IA, (2 : Int32)), (x_UO, (3 : Int32))], q.1 = C ∧ K (.inl (some (.int q.2))) n E'
    have hC8 : C = x_IO ∨ C = x_IA ∨ C = x_UO := by simpa using hC9
    rcases hC8 with rfl | rfl | rfl
    · exact ⟨(x_IO, 1), by simp, rfl, am_wr_x hK th_OAU_1 hEo' hE' hk⟩
    · exact ⟨(x_IA, 2), by simp, rfl, am_wr_x hK th_OAU_2 hEo' hE' hk⟩
    · exact ⟨(x_UO, 3), by simp, rfl, am_wr_x hK th_OAU_3 hEo' hE' hk⟩
set_option maxRecDepth 100000 in
set_option maxHeartbeats 4000000 in
theorem sd_L_lay (X : am_X) (K : am_P) (F : am_F X cL_lay yL_lay.cls (some .int) (am_wsT yL_lay cL_lay 8 (some .int) [(0, 16, 19, 21), (0, 16, 23, 13), (0, 16, 27, 15)])) (FQ : am_FQ X K rm_L_lay.cells rm_L_lay.slots) (hR : am_Rm X rm_L_lay) (hT : am_T X [(0, 16, 19, 21), (0, 16, 23, 13), (0, 16, 27, 15)]) (hn : am_nL X = 8) : cl_L_lay K (am_G X) := by
  have ts : ∀ w ∈ am_WS, w ∈ am_wsT yL_lay cL_lay 8 (some .int) [(0, 16, 19, 21), (0, 16, 23, 13), (0, 16, 27, 15)] := fun w h => List.mem_cons_of_mem _ h
  exact ms_aload F (am_dk (q := (0, .aload 6, 2)) dk_L_lay_0 0 rfl) (ms_iconst F (am_dk (q := (2, .iconst 0, 1)) dk_L_lay_0 1 rfl) (by decide +kernel) (ms_aload_n F (am_dk (q := (3, .aload_n 0, 1)) dk_L_lay_0 2 rfl) rfl (ms_iload_n F (am_dk (q := (4, .iload_n 1, 1)) dk_L_lay_0 3 rfl) rfl (ms_iload_n F (am_dk (q := (5, .iload_n 2, 1)) dk_L_lay_0 4 rfl) rfl (ms_iload_n F (am_dk (q := (6, .iload_n 3, 1)) dk_L_lay_0 5 rfl) rfl (ms_iload F (am_dk (q := (7, .iload 4, 2)) dk_L_lay_0 6 rfl) (ms_iload F (am_dk (q := (9, .iload 5, 2)) dk_L_lay_0 7 rfl) (ms_callV F hR (ci := 7) (r9 := (RX7, TX7, 16)) (y := yX7_lay) (maxL := 8) (rm' := rm_X7_lay) (na := 5) ct_X7_lay wd_507 wd_1 wd_504 wd_505 wd_506 rfl (by decide +kernel) (by decide) (am_dk (q := (11, .invokevirtual 17, 3)) dk_L_lay_0 8 rfl) (ms_hdl_c (ms_cat F FQ hT (C := "java/lang/IndexOutOfBoundsException") (name := "java/lang/IndexOutOfBoundsException") [] ⟨0, 16, 19, 21⟩ [⟨0, 16, 23, 13⟩, ⟨0, 16, 27, 15⟩] rfl (fun _ h => absurd h List.not_mem_nil) (by decide) (by decide) (ts _ wd_503) wn_513 hn (by decide : 7 < 8) (Or.inr ⟨(am_dk (q := (19, .astore 7, 2)) dk_L_lay_0 12 rfl), rfl⟩) (am_dk (q := (21, .iconst 1, 1)) dk_L_lay_0 13 rfl) (by decide +kernel) (am_dk (q := (22, .ireturn, 1)) dk_L_lay_0 14 rfl) rfl) (ms_hdl_c (ms_cat F FQ hT (C := "java/lang/IllegalArgumentException") (name := "java/lang/IllegalArgumentException") [⟨0, 16, 19, 21⟩] ⟨0, 16, 23, 13⟩ [⟨0, 16, 27, 15⟩] rfl (List.forall_mem_cons.mpr ⟨⟨by decide, "java/lang/IndexOutOfBoundsException", ts _ wd_503, by decide +kernel⟩, (fun _ h => absurd h List.not_mem_nil)⟩) (by decide) (by decide) (ts _ wd_392) wn_404 hn (by decide : 7 < 8) (Or.inr ⟨(am_dk (q := (23, .astore 7, 2)) dk_L_lay_0 15 rfl), rfl⟩) (am_dk (q := (25, .iconst 2, 1)) dk_L_lay_0 16 rfl) (by decide +kernel) (am_dk (q := (26, .ireturn, 1)) dk_L_lay_0 17 rfl) rfl) (ms_hdl_c (ms_cat F FQ hT (C := "java/lang/UnsupportedOperationException") (name := "java/lang/UnsupportedOperationException") [⟨0, 16, 19, 21⟩, ⟨0, 16, 23, 13⟩] ⟨0, 16, 27, 15⟩ [] rfl (List.forall_mem_cons.mpr ⟨⟨by decide, "java/lang/IndexOutOfBoundsException", ts _ wd_503, by decide +kernel⟩, (List.forall_mem_cons.mpr ⟨⟨by decide, "java/lang/IllegalArgumentException", ts _ wd_392, by decide +kernel⟩, (fun _ h => absurd h List.not_mem_nil)⟩)⟩) (by decide) (by decide) (ts _ wd_393) wn_482 hn (by decide : 7 < 8) (Or.inr ⟨(am_dk (q := (27, .astore 7, 2)) dk_L_lay_0 18 rfl), rfl⟩) (am_dk (q := (29, .iconst 3, 1)) dk_L_lay_0 19 rfl) (by decide +kernel) (am_dk (q := (30, .ireturn, 1)) dk_L_lay_0 20 rfl) rfl) (ms_hdl_n _ _)))) (ms_i2l F (am_dk (q := (14, .i2l, 1)) dk_L_lay_0 9 rfl) (ms_lastore F (am_dk (q := (15, .lastore, 1)) dk_L_lay_0 10 rfl) (ms_goto F (tgt := 31) (am_dk (q := (16, .goto 15, 3)) dk_L_lay_0 11 rfl) (by decide) (ms_iconst F (am_dk (q := (31, .iconst 0, 1)) dk_L_lay_0 21 rfl) (by decide +kernel) (ms_iret F FQ rfl (am_dk (q := (32, .ireturn, 1)) dk_L_lay_0 22 rfl))))))))))))))
theorem ct_L_lay (l : Launch) (htr : l.stackTraces = false) : am_Ct l yL_lay (am_wsT yL_lay cL_lay 8 (some .int) [(0, 16, 19, 21), (0, 16, 23, 13), (0, 16, 27, 15)]) rm_L_lay sp_L_lay := am_ofH htr (by decide) wd_502 (fun X K F FQ hR hT hn as n E hS => f_L_lay K (am_G X) (sd_L_lay X K F FQ hR hT hn) as n E hS)
def sp_X3_clear : am_S := fun as n E K => ∃ (t r q : Nat) (P : Nat → Nat → Bool), as = [.ref t] ∧ t ≠ r ∧ am_sup P ∧ am_so E t r q ∧ am_sr E r P ∧ K (.inl none) n (am_u E r (am_rwE am_non))
def rm_X3_clear : Room := { frames := 0, cells := 0, slots := 0, locals := 0 }
theorem rmc_X3_clear : rm_X3_clear.cells = 0 := rfl
theorem rms_X3_clear : rm_X3_clear.slots = 0 := rfl
theorem ct_X3_clear (l : Launch) (htr : l.stackTraces = false) : am_Ct l yX3_clear (am_ws yX3_clear cX3_clear 2 none) rm_X3_clear sp_X3_clear := sorry
def sp_X3_add : am_S := fun as n E K => ∃ (t r q i j : Nat) (P : Nat → Nat → Bool), as = [.ref t, .int (nI i), .int (nI j)] ∧ i < 12 ∧ j < 12 ∧ am_so E t r q ∧ am_sr E r P ∧ K (.inl none) n (am_u E r (am_rwE (am_add P i j)))
def rm_X3_add : Room := { frames := 1, cells := 0, slots := 0, locals := 21 }
theorem rmc_X3_add : rm_X3_add.cells = 0 := rfl
theorem rms_X3_add : rm_X3_add.slots = 0 := rfl
theorem ct_X3_add (l : Launch) (htr : l.stackTraces = false) : am_Ct l yX3_add (am_ws yX3_add cX3_add 3 none) rm_X3_add sp_X3_add := sorry
def sp_X5_shapeInto : am_S := fun as n E K => ∃ (t c : Nat) (f : Nat → Int32) (v : Int32) (tS r q : Nat) (P : Nat → Nat → Bool), as = [.ref t, .int v, .ref tS] ∧ c ≠ r ∧ am_sup P ∧ am_wl E t c f ∧ am_so E tS r q ∧ am_sr E r P ∧ K (.inl none) n (am_u E r (am_rwE (am_shp f v)))
def rm_X5_shapeInto : Room := { frames := 2, cells := 0, slots := 0, locals := 43 }
theorem rmc_X5_shapeInto : rm_X5_shapeInto.cells = 0 := rfl
theorem rms_X5_shapeInto : rm_X5_shapeInto.slots = 0 := rfl
theorem ct_X5_shapeInto (l : Launch) (htr : l.stackTraces = false) : am_Ct l yX5_shapeInto (am_ws yX5_shapeInto cX5_shapeInto 5 none) rm_X5_shapeInto sp_X5_shapeInto := sorry
def sp_X3_partBy : am_S := fun as n E K => ∃ (t r q tn rn qn tf rf qf l : Nat) (P N F : Nat → Nat → Bool), as = [.ref t, .int (nI l), .ref tn, .ref tf] ∧ 1 ≤ l ∧ l < 24 ∧ r ≠ rn ∧ r ≠ rf ∧ rn ≠ rf ∧ am_sup P ∧ am_sup N ∧ am_sup F ∧ am_so E t r q ∧ am_sr E r P ∧ am_so E tn rn qn ∧ am_sr E rn N ∧ am_so E tf rf qf ∧ am_sr E rf F ∧ K (.inl none) n (am_u (am_u E rn (am_rwE (am_pn P l))) rf (am_rwE (am_pf P l)))
def rm_X3_partBy : Room := { frames := 0, cells := 0, slots := 0, locals := 0 }
theorem rmc_X3_partBy : rm_X3_partBy.cells = 0 := rfl
theorem rms_X3_partBy : rm_X3_partBy.slots = 0 := rfl
theorem ct_X3_partBy (l : Launch) (htr : l.stackTraces = false) : am_Ct l yX3_partBy (am_ws yX3_partBy cX3_partBy 6 none) rm_X3_partBy sp_X3_partBy := sorry
def sp_J6_bitCount_0f7a4 : am_S := fun as n E K => ∃ a : Nat, a < 2 ^ 32 ∧ as = [.int (nI a)] ∧ K (.inl (some (.int (nI (fb_ct a.testBit 32))))) n E
def rm_J6_bitCount_0f7a4 : Room := { frames := 0, cells := 0, slots := 0, locals := 0 }
theorem rmc_J6_bitCount_0f7a4 : rm_J6_bitCount_0f7a4.cells = 0 := rfl
theorem rms_J6_bitCount_0f7a4 : rm_J6_bitCount_0f7a4.slots = 0 := rfl
theorem ct_J6_bitCount_0f7a4 (l : Launch) (htr : l.stackTraces = false) : am_Ct l yJ6_bitCount_0f7a4 (am_ws yJ6_bitCount_0f7a4 cJ6_bitCount_0f7a4 1 (some .int)) rm_J6_bitCount_0f7a4 sp_J6_bitCount_0f7a4 := sorry
def sp_X3_cellCount : am_S := fun as n E K => ∃ (t r q : Nat) (P : Nat → Nat → Bool), as = [.ref t] ∧ am_so E t r q ∧ am_sr E r P ∧ K (.inl (some (.int (nI (am_sz P))))) n E
def rm_X3_cellCount : Room := { frames := 1, cells := 0, slots := 0, locals := 20 }
theorem rmc_X3_cellCount : rm_X3_cellCount.cells = 0 := rfl
theorem rms_X3_cellCount : rm_X3_cellCount.slots = 0 := rfl
theorem ct_X3_cellCount (l : Launch) (htr : l.stackTraces = false) : am_Ct l yX3_cellCount (am_ws yX3_cellCount cX3_cellCount 3 (some .int)) rm_X3_cellCount sp_X3_cellCount := sorry
def sp_X3_grow : am_S := fun as n E K => ∃ (t r q : Nat) (P R : Nat → Nat → Bool), as = [.ref t] ∧ r ≠ q ∧ am_sup P ∧ (∀ x y, R x y = true → P x y = true) ∧ am_so E t r q ∧ am_sr E r P ∧ am_sr E q R ∧ ∀ (S : Nat → Nat → Bool) (g : Int32), am_gi P R S 12 → (g = 0 ∧ S = R ∨ g = 1 ∧ ¬ S = R) → K (.inl (some (.int g))) n (am_u E q (am_rwE S))
def rm_X3_grow : Room := { frames := 0, cells := 0, slots := 0, locals := 0 }
theorem rmc_X3_grow : rm_X3_grow.cells = 0 := rfl
theorem rms_X3_grow : rm_X3_grow.slots = 0 := rfl
theorem ct_X3_grow (l : Launch) (htr : l.stackTraces = false) : am_Ct l yX3_grow (am_ws yX3_grow cX3_grow 6 (some .boolean)) rm_X3_grow sp_X3_grow := sorry
def sp_X3_isWhole : am_S := fun as n E K => ∃ (t r q : Nat) (P Q : Nat → Nat → Bool), as = [.ref t] ∧ r ≠ q ∧ am_sup P ∧ am_sup Q ∧ am_so E t r q ∧ am_sr E r P ∧ am_sr E q Q ∧ ∀ (S : Nat → Nat → Bool), am_sup S → K (.inl (some (.int (if am_wh P = true then 1 else 0)))) n (am_u E q (am_rwE S))
def rm_X3_isWhole : Room := { frames := 1, cells := 0, slots := 0, locals := 25 }
theorem rmc_X3_isWhole : rm_X3_isWhole.cells = 0 := rfl
theorem rms_X3_isWhole : rm_X3_isWhole.slots = 0 := rfl
theorem ct_X3_isWhole (l : Launch) (htr : l.stackTraces = false) : am_Ct l yX3_isWhole (am_ws yX3_isWhole cX3_isWhole 4 (some .boolean)) rm_X3_isWhole sp_X3_isWhole := sorry
def sp_X3_innerCorners : am_S := fun as n E K => ∃ (t r q : Nat) (P : Nat → Nat → Bool), as = [.ref t] ∧ am_so E t r q ∧ am_sr E r P ∧ K (.inl (some (.int (nI (am_co P))))) n E
def rm_X3_innerCorners : Room := { frames := 1, cells := 0, slots := 0, locals := 20 }
theorem rmc_X3_innerCorners : rm_X3_innerCorners.cells = 0 := rfl
theorem rms_X3_innerCorners : rm_X3_innerCorners.slots = 0 := rfl
theorem ct_X3_innerCorners (l : Launch) (htr : l.stackTraces = false) : am_Ct l yX3_innerCorners (am_ws yX3_innerCorners cX3_innerCorners 5 (some .int)) rm_X3_innerCorners sp_X3_innerCorners := sorry
def sp_X3_row : am_S := fun as n E K => ∃ (t r q : Nat) (y : Int32) (P : Nat → Nat → Bool), as = [.ref t, .int y] ∧ am_so E t r q ∧ am_sr E r P ∧ K (.inl (some (.int (am_ro P y)))) n E
def rm_X3_row : Room := { frames := 0, cells := 0, slots := 0, locals := 0 }
theorem rmc_X3_row : rm_X3_row.cells = 0 := rfl
theorem rms_X3_row : rm_X3_row.slots = 0 := rfl
theorem ct_X3_row (l : Launch) (htr : l.stackTraces = false) : am_Ct l yX3_row (am_ws yX3_row cX3_row 2 (some .int)) rm_X3_row sp_X3_row := sorry
def sp_X3_narrowInRow : am_S := fun as n E K => ∃ (t r q y : Nat) (P : Nat → Nat → Bool), as = [.ref t, .int (nI y)] ∧ y < 12 ∧ am_sup P ∧ am_so E t r q ∧ am_sr E r P ∧ K (.inl (some (.int (nI (am_bn (am_nrr P y) 12))))) n E
def rm_X3_narrowInRow : Room := { frames := 1, cells := 0, slots := 0, locals := 21 }
theorem rmc_X3_narrowInRow : rm_X3_narrowInRow.cells = 0 := rfl
theorem rms_X3_narrowInRow : rm_X3_narrowInRow.slots = 0 := rfl
theorem ct_X3_narrowInRow (l : Launch) (htr : l.stackTraces = false) : am_Ct l yX3_narrowInRow (am_ws yX3_narrowInRow cX3_narrowInRow 2 (some .int)) rm_X3_narrowInRow sp_X3_narrowInRow := sorry
def sp_J9_max_7cf53 : am_S := fun _ _ _ _ => False
def rm_J9_max_7cf53 : Room := { frames := 0, cells := 0, slots := 0, locals := 0 }
theorem rmc_J9_max_7cf53 : rm_J9_max_7cf53.cells = 0 := rfl
theorem rms_J9_max_7cf53 : rm_J9_max_7cf53.slots = 0 := rfl
theorem ct_J9_max_7cf53 (l : Launch) (htr : l.stackTraces = false) : am_Ct l yJ9_max_7cf53 (am_ws yJ9_max_7cf53 cJ9_max_7cf53 2 (some .int)) rm_J9_max_7cf53 sp_J9_max_7cf53 := sorry
def sp_X3_longestRun : am_S := fun as n E K => ∃ (b : Nat → Bool), as = [.int (nI (am_bn b 12))] ∧ K (.inl (some (.int (nI (am_lr b 12))))) n E
def rm_X3_longestRun : Room := { frames := 1, cells := 0, slots := 0, locals := 21 }
theorem rmc_X3_longestRun : rm_X3_longestRun.cells = 0 := rfl
theorem rms_X3_longestRun : rm_X3_longestRun.slots = 0 := rfl
theorem ct_X3_longestRun (l : Launch) (htr : l.stackTraces = false) : am_Ct l yX3_longestRun (am_ws yX3_longestRun cX3_longestRun 4 (some .int)) rm_X3_longestRun sp_X3_longestRun := sorry
def sp_X3_has : am_S := fun as n E K => ∃ (t r q : Nat) (x y : Int32) (P : Nat → Nat → Bool), as = [.ref t, .int x, .int y] ∧ am_so E t r q ∧ am_sr E r P ∧ K (.inl (some (.int (if am_hs P x y = true then 1 else 0)))) n E
def rm_X3_has : Room := { frames := 1, cells := 0, slots := 0, locals := 21 }
theorem rmc_X3_has : rm_X3_has.cells = 0 := rfl
theorem rms_X3_has : rm_X3_has.slots = 0 := rfl
theorem ct_X3_has (l : Launch) (htr : l.stackTraces = false) : am_Ct l yX3_has (am_ws yX3_has cX3_has 3 (some .boolean)) rm_X3_has sp_X3_has := sorry
def sp_X3_narrowInColumn : am_S := fun as n E K => ∃ (t r q x : Nat) (P : Nat → Nat → Bool), as = [.ref t, .int (nI x)] ∧ x < 12 ∧ am_sup P ∧ am_so E t r q ∧ am_sr E r P ∧ K (.inl (some (.int (nI (am_bn (am_nrc P x) 12))))) n E
def rm_X3_narrowInColumn : Room := { frames := 2, cells := 0, slots := 0, locals := 43 }
theorem rmc_X3_narrowInColumn : rm_X3_narrowInColumn.cells = 0 := rfl
theorem rms_X3_narrowInColumn : rm_X3_narrowInColumn.slots = 0 := rfl
theorem ct_X3_narrowInColumn (l : Launch) (htr : l.stackTraces = false) : am_Ct l yX3_narrowInColumn (am_ws yX3_narrowInColumn cX3_narrowInColumn 4 (some .int)) rm_X3_narrowInColumn sp_X3_narrowInColumn := sorry
def sp_X3_longestNarrow : am_S := fun as n E K => ∃ (t r q : Nat) (P : Nat → Nat → Bool), as = [.ref t] ∧ am_sup P ∧ am_so E t r q ∧ am_sr E r P ∧ K (.inl (some (.int (nI (am_pt P))))) n E
def rm_X3_longestNarrow : Room := { frames := 3, cells := 0, slots := 0, locals := 66 }
theorem rmc_X3_longestNarrow : rm_X3_longestNarrow.cells = 0 := rfl
theorem rms_X3_longestNarrow : rm_X3_longestNarrow.slots = 0 := rfl
theorem ct_X3_longestNarrow (l : Launch) (htr : l.stackTraces = false) : am_Ct l yX3_longestNarrow (am_ws yX3_longestNarrow cX3_longestNarrow 3 (some .int)) rm_X3_longestNarrow sp_X3_longestNarrow := sorry
def sp_X3_hindrance : am_S := fun as n E K => ∃ (t r q : Nat) (P Q : Nat → Nat → Bool), as = [.ref t] ∧ r ≠ q ∧ am_sup P ∧ am_sup Q ∧ am_so E t r q ∧ am_sr E r P ∧ am_sr E q Q ∧ ∀ (S : Nat → Nat → Bool), am_sup S → K (.inl (some (.int (am_hi P)))) n (am_u E q (am_rwE S))
def rm_X3_hindrance : Room := { frames := 4, cells := 0, slots := 0, locals := 88 }
theorem rmc_X3_hindrance : rm_X3_hindrance.cells = 0 := rfl
theorem rms_X3_hindrance : rm_X3_hindrance.slots = 0 := rfl
theorem ct_X3_hindrance (l : Launch) (htr : l.stackTraces = false) : am_Ct l yX3_hindrance (am_ws yX3_hindrance cX3_hindrance 1 (some .char)) rm_X3_hindrance sp_X3_hindrance := sorry
def sp_X3_touchesOver : am_S := fun as n E K => ∃ (t r q l : Nat) (P : Nat → Nat → Bool), as = [.ref t, .int (nI l)] ∧ 1 ≤ l ∧ l < 24 ∧ am_sup P ∧ am_so E t r q ∧ am_sr E r P ∧ K (.inl (some (.int (nI (am_tc P l))))) n E
def rm_X3_touchesOver : Room := { frames := 2, cells := 0, slots := 0, locals := 43 }
theorem rmc_X3_touchesOver : rm_X3_touchesOver.cells = 0 := rfl
theorem rms_X3_touchesOver : rm_X3_touchesOver.slots = 0 := rfl
theorem ct_X3_touchesOver (l : Launch) (htr : l.stackTraces = false) : am_Ct l yX3_touchesOver (am_ws yX3_touchesOver cX3_touchesOver 4 (some .int)) rm_X3_touchesOver sp_X3_touchesOver := sorry
def sp_X3_bestLead : am_S := fun as n E K => ∃ (t r q tn rn qn tf rf qf : Nat) (P N F Qn Qf : Nat → Nat → Bool), as = [.ref t, .ref tn, .ref tf] ∧ (r ≠ rn ∧ r ≠ rf ∧ r ≠ qn ∧ r ≠ qf ∧ rn ≠ rf ∧ rn ≠ qn ∧ rn ≠ qf ∧ rf ≠ qn ∧ rf ≠ qf ∧ qn ≠ qf) ∧ am_sup P ∧ am_sup N ∧ am_sup F ∧ am_sup Qn ∧ am_sup Qf ∧ am_so E t r q ∧ am_sr E r P ∧ am_so E tn rn qn ∧ am_sr E rn N ∧ am_sr E qn Qn ∧ am_so E tf rf qf ∧ am_sr E rf F ∧ am_sr E qf Qf ∧
  ∀ (E' : am_E) (N F Qn Qf : Nat → Nat → Bool), am_ke [rn, rf, qn, qf] E E' → am_sup N → am_sup F → am_sup Qn → am_sup Qf → am_sr E' rn N → am_sr E' rf F → am_sr E' qn Qn → am_sr E' qf Qf → K (.inl (some (.int (am_bl P)))) n E'
def rm_X3_bestLead : Room := { frames := 5, cells := 0, slots := 0, locals := 108 }
theorem rmc_X3_bestLead : rm_X3_bestLead.cells = 0 := rfl
theorem rms_X3_bestLead : rm_X3_bestLead.slots = 0 := rfl
theorem ct_X3_bestLead (l : Launch) (htr : l.stackTraces = false) : am_Ct l yX3_bestLead (am_ws yX3_bestLead cX3_bestLead 6 (some .int)) rm_X3_bestLead sp_X3_bestLead := sorry
def sp_X5_piecesWithCells : am_S := fun as n E K => ∃ (t c : Nat) (f : Nat → Int32), as = [.ref t] ∧ am_wok f ∧ am_wl E t c f ∧ K (.inl (some (.int (nI (am_bn (am_hp f 144) 30))))) n E
def rm_X5_piecesWithCells : Room := { frames := 0, cells := 0, slots := 0, locals := 0 }
theorem rmc_X5_piecesWithCells : rm_X5_piecesWithCells.cells = 0 := rfl
theorem rms_X5_piecesWithCells : rm_X5_piecesWithCells.slots = 0 := rfl
theorem ct_X5_piecesWithCells (l : Launch) (htr : l.stackTraces = false) : am_Ct l yX5_piecesWithCells (am_ws yX5_piecesWithCells cX5_piecesWithCells 3 (some .int)) rm_X5_piecesWithCells sp_X5_piecesWithCells := sorry
def sp_X7_lowestWithoutCells : am_S := fun as n E K => ∃ (b : Nat) (σ : am_St), as = [.ref b] ∧ am_HS b E σ ∧ K (.inl (some (.int (if am_fst (fun p => !am_hp (st_f σ) 144 p) 30 < 30 then nI (am_fst (fun p => !am_hp (st_f σ) 144 p) 30) else -1)))) n E
def rm_X7_lowestWithoutCells : Room := { frames := 1, cells := 0, slots := 0, locals := 22 }
theorem rmc_X7_lowestWithoutCells : rm_X7_lowestWithoutCells.cells = 0 := rfl
theorem rms_X7_lowestWithoutCells : rm_X7_lowestWithoutCells.slots = 0 := rfl
theorem ct_X7_lowestWithoutCells (l : Launch) (htr : l.stackTraces = false) : am_Ct l yX7_lowestWithoutCells (am_ws yX7_lowestWithoutCells cX7_lowestWithoutCells 3 (some .int)) rm_X7_lowestWithoutCells sp_X7_lowestWithoutCells := sorry
def sp_X5_putShape : am_S := fun as n E K => ∃ (t c : Nat) (f : Nat → Int32) (v : Int32) (tS r q : Nat) (P : Nat → Nat → Bool), as = [.ref t, .ref tS, .int v] ∧ c ≠ r ∧ am_sup P ∧ am_wl E t c f ∧ am_so E tS r q ∧ am_sr E r P ∧ K (.inl none) n (am_u E c (.inl (0, 144, .inl (am_put f P v))))
def rm_X5_putShape : Room := { frames := 2, cells := 0, slots := 0, locals := 44 }
theorem rmc_X5_putShape : rm_X5_putShape.cells = 0 := rfl
theorem rms_X5_putShape : rm_X5_putShape.slots = 0 := rfl
theorem ct_X5_putShape (l : Launch) (htr : l.stackTraces = false) : am_Ct l yX5_putShape (am_ws yX5_putShape cX5_putShape 5 none) rm_X5_putShape sp_X5_putShape := sorry
def sp_X2_wantLike : am_S := fun as n E K => ∃ (t p y : Nat) (wc wk st co yr : Int32) (t' p' y' : Nat) (wc' wk' st' co' yr' : Int32), as = [.ref t, .ref t'] ∧ am_pn0 E t wc wk st co yr p y ∧ am_pn0 E t' wc' wk' st' co' yr' p' y' ∧ am_ch wk' ∧ K (.inl none) n (am_u E t (.inr (2, [.int wc', .int wk', .int st, .int co, .int yr, .ref p, .ref y])))
def rm_X2_wantLike : Room := { frames := 0, cells := 0, slots := 0, locals := 0 }
theorem rmc_X2_wantLike : rm_X2_wantLike.cells = 0 := rfl
theorem rms_X2_wantLike : rm_X2_wantLike.slots = 0 := rfl
theorem ct_X2_wantLike (l : Launch) (htr : l.stackTraces = false) : am_Ct l yX2_wantLike (am_ws yX2_wantLike cX2_wantLike 2 none) rm_X2_wantLike sp_X2_wantLike := sorry
def sp_X7_split : am_S := fun as n E K => ∃ (b : Nat) (σ : am_St) (p : Int32), as = [.ref b, .int p] ∧ am_HS b E σ ∧ am_api b n E K (q_split σ p)
def rm_X7_split : Room := { frames := 7, cells := 2, slots := 12, locals := 133 }
theorem rmc_X7_split : rm_X7_split.cells = 2 := rfl
theorem rms_X7_split : rm_X7_split.slots = 12 := rfl
theorem ct_X7_split (l : Launch) (htr : l.stackTraces = false) : am_Ct l yX7_split (am_ws yX7_split cX7_split 4 (some .int)) rm_X7_split sp_X7_split := sorry
def sp_L_split : am_S := fun as n E K => ∃ (b : Nat) (σ : am_St) (p : Int32) (o : Nat) (g : Nat → Int64), as = [.ref b, .int p, .ref o] ∧ am_HS b E σ ∧ (o < b ∨ b + 214 ≤ o) ∧ E o = some (.inl (1, 1, .inr (.inl g))) ∧ am_wr b o n E K L_OUS (q_split σ p)
def rm_L_split : Room := { frames := 8, cells := 2, slots := 12, locals := 156 }
theorem rmc_L_split : rm_L_split.cells = 2 := rfl
theorem rms_L_split : rm_L_split.slots = 12 := rfl
def bk_L_split_0 (K : am_P) (G : Nat → am_C) : am_C := o_aload 2 <| o_pi 0 <| o_aload 0 <| o_iload 1 <| o_callV 7 2 sp_X7_split rm_X7_split rm_L_split (am_hdl [("java/lang/IndexOutOfBoundsException", 1), ("java/lang/UnsupportedOperationException", 2), ("java/lang/IllegalStateException", 3)] K) <| o_i2l <| o_lst <| o_pi 0 <| o_iret .int K
def cl_L_split (K : am_P) (G : Nat → am_C) : Prop := am_imp (bk_L_split_0 K G) (G 0)
theorem f_L_split (K : am_P) (G : Nat → am_C) (hC : cl_L_split K G) (as : List Value) (n : Nat) (E : am_E) (hS : sp_L_split as n E K) : (am_sl as).length ≤ 4 ∧ G 0 (am_inl 4 as) [] n E 0 0 := by
  obtain ⟨b, σ, p, o, g, rfl, ⟨τ, w, u, h⟩, ho, hEo, hK⟩ := hS
  refine ⟨by simp [am_sl, Value.category], ?_⟩
  have h0 : E b = some (.inr (7, [.ref (b + 1), .ref (b + 3), .ref (b + 4), .ref (b + 5), .int (nI (σ 15 0 0)), .int (nI (σ 15 8 0)), .int (nI (σ 15 6 0)), .int (nI (σ 15 4 0)), .int (nI (σ 15 5 0)), .int (nI (σ 15 3 0)), .int (nI (σ 15 7 0)), .ref (b + 6), .ref (b + 9), .ref (b + 12), .ref (b + 15), .ref (b + 16)])) := hs_hall h
  have hw1 : E (b + 1) = some (.inr (5, [.ref (b + 2)])) := hs_t h 1 (by decide)
  have hp3 := hs_panes h
  have hs4 := hs_sheets h
  have hf5 : E (b + 5) = some (.inr (0, [.int (nI (am_bn (st_b σ) 12)), .int (nI (σ 15 1 0)), .int (nI (σ 15 2 0))])) := hs_t h 5 (by decide)
  have h6 : E (b + 6) = some (.inr (3, [.ref (b + 7), .ref (b + 8)])) := hs_t h 6 (by decide)
  have h9 : E (b + 9) = some (.inr (3, [.ref (b + 10), .ref (b + 11)])) := hs_t h 9 (by decide)
  have h12 : E (b + 12) = some (.inr (3, [.ref (b + 13), .ref (b + 14)])) := hs_t h 12 (by decide)
  have h15 := hs_wts h
  have h16 : E (b + 16) = some (.inr (6, [.ref (b + 17)])) := hs_t h 16 (by decide)
  apply hC
  simp only [bk_L_split_0, o_pi, o_pl, o_pf, o_pd, o_iload, o_lload, o_fload, o_dload, o_aload, o_istore, o_lstore, o_fstore, o_dstore, o_astore, o_iinc, o_ib, o_ibz, o_lb, o_lbz, o_lsh, o_lcmp, o_ineg, o_i2l, o_l2i, o_i2c, o_i2f, o_i2d, o_f2d, o_fdiv, o_ddiv, o_fcmp, o_dcmp, o_dup, o_dup2, o_pop, o_if_eq, o_if_ne, o_if_lt, o_if_ge, o_if_gt, o_if_le, o_ic_eq, o_ic_ne, o_ic_lt, o_ic_ge, o_ic_gt, o_ic_le, o_if, o_ic, o_getf, o_putf, o_ild, o_ist, o_lld, o_lst, o_dld, o_dst, o_ald, o_alen, o_new, o_newa, o_ast, o_oinit, o_iret, o_lret, o_fret, o_dret, o_aret, o_vret, o_throw, o_call, o_callV, am_kc, am_noX, o_im, o_ia, o_gets, o_ldcK, o_getK, o_codK, o_lenK, o_bldK, o_i2b, o_callK, o_mna, o_clone, o_castA, am_s1, am_s2, am_kill, am_inl, am_sl, Value.category, List.getElem?_cons_zero, List.getElem?_cons_succ, List.set_cons_zero, List.set_cons_succ, List.length_cons, List.length_nil, List.take_succ_cons, List.take_zero, List.drop_succ_cons, List.drop_zero, List.reverse_cons, List.reverse_nil, List.nil_append, List.cons_append, List.append_nil, List.map_cons, List.map_nil, List.sum_cons, List.sum_nil, List.replicate_succ, List.replicate_zero, Nat.zero_add, Nat.add_zero, Nat.le_refl, Nat.zero_le, ite_true, ite_false, if_true, if_false, true_and, and_true, eq_self, not_true_eq_false, not_false_eq_true, am_nb0, am_nb1, am_ni, am_fi, am_fr, am_fra, am_fz0, am_fz1, am_fl, am_uE, am_vnI, am_uu, am_ltx, ite_not, Classical.not_not, reduceIte, reduceCtorEq, Nat.reduceEqDiff, Nat.reduceAdd, Nat.reduceSub, Nat.reduceMul, Nat.reduceLeDiff, Nat.reduceLT, Int32.reduceLE, Int32.reduceLT, am_10, am_01, am_ite0, am_ite1, ms_boT, ms_boF, rmc_L_split, rms_L_split, rmc_X7_split, rms_X7_split, h0, hw1, hp3, hs4, hf5, h6, h9, h12, h15, h16]
  refine ⟨b, σ, p, rfl, ⟨τ, w, u, h⟩, fun E' hE' hk => ?_⟩
  have hEo' : E' o = some (.inl (1, 1, .inr (.inl g))) := (hk o ho).trans hEo
  have v01 : vp_in 0 1 := vp_in_nI (n := 0) (by decide) (by decide)
  have c0 : Int32.toNatClampNeg 0 = 0 := rfl
  have hok := ok9_split σ p
  generalize q_split σ p = rr at hK hE' hok ⊢
  rcases hok with ⟨v, σ', hv, rfl⟩ | ⟨C, σ', hC9, rfl⟩
  · show am_kc _ _ _ _ _ _ (.inl (some (.int v))) n E'
    simp only [bk_L_split_0, o_pi, o_pl, o_pf, o_pd, o_iload, o_lload, o_fload, o_dload, o_aload, o_istore, o_lstore, o_fstore, o_dstore, o_astore, o_iinc, o_ib, o_ibz, o_lb, o_lbz, o_lsh, o_lcmp, o_ineg, o_i2l, o_l2i, o_i2c, o_i2f, o_i2d, o_f2d, o_fdiv, o_ddiv, o_fcmp, o_dcmp, o_dup, o_dup2, o_pop, o_if_eq, o_if_ne, o_if_lt, o_if_ge, o_if_gt, o_if_le, o_ic_eq, o_ic_ne, o_ic_lt, o_ic_ge, o_ic_gt, o_ic_le, o_if, o_ic, o_getf, o_putf, o_ild, o_ist, o_lld, o_lst, o_dld, o_dst, o_ald, o_alen, o_new, o_newa, o_ast, o_oinit, o_iret, o_lret, o_fret, o_dret, o_aret, o_vret, o_throw, o_call, o_callV, am_kc, am_noX, o_im, o_ia, o_gets, o_ldcK, o_getK, o_codK, o_lenK, o_bldK, o_i2b, o_callK, o_mna, o_clone, o_castA, am_s1, am_s2, am_kill, am_inl, am_sl, Value.category, List.getElem?_cons_zero, List.getElem?_cons_succ, List.set_cons_zero, List.set_cons_succ, List.length_cons, List.length_nil, List.take_succ_cons, List.take_zero, List.drop_succ_cons, List.drop_zero, List.reverse_cons, List.reverse_nil, List.nil_append, List.cons_append, List.append_nil, List.map_cons, List.map_nil, List.sum_cons, List.sum_nil, List.replicate_succ, List.replicate_zero, Nat.zero_add, Nat.add_zero, Nat.le_refl, Nat.zero_le, ite_true, ite_false, if_true, if_false, true_and, and_true, eq_self, not_true_eq_false, not_false_eq_true, am_nb0, am_nb1, am_ni, am_fi, am_fr, am_fra, am_fz0, am_fz1, am_fl, am_uE, am_vnI, am_uu, am_ltx, ite_not, Classical.not_not, reduceIte, reduceCtorEq, Nat.reduceEqDiff, Nat.reduceAdd, Nat.reduceSub, Nat.reduceMul, Nat.reduceLeDiff, Nat.reduceLT, Int32.reduceLE, Int32.reduceLT, am_10, am_01, am_ite0, am_ite1, ms_boT, ms_boF, rmc_L_split, rms_L_split, rmc_X7_split, rms_X7_split, hEo', v01, c0]
    exact am_wr_i hK ho hE' hk
  · show ∃ q ∈ [(x_IO, (1 : Int32)), (x_UO, (2 : Int32)), (x_IS, (3 : Int32))], q.1 = C ∧ K (.inl (some (.int q.2))) n E'
    have hC8 : C = x_IO ∨ C = x_UO ∨ C = x_IS := by simpa using hC9
    rcases hC8 with rfl | rfl | rfl
    · exact ⟨(x_IO, 1), by simp, rfl, am_wr_x hK th_OUS_1 hEo' hE' hk⟩
    · exact ⟨(x_UO, 2), by simp, rfl, am_wr_x hK th_OUS_2 hEo' hE' hk⟩
    · exact ⟨(x_IS, 3), by simp, rfl, am_wr_x hK th_OUS_3 hEo' hE' hk⟩
set_option maxRecDepth 100000 in
set_option maxHeartbeats 4000000 in
theorem sd_L_split (X : am_X) (K : am_P) (F : am_F X cL_split yL_split.cls (some .int) (am_wsT yL_split cL_split 4 (some .int) [(0, 9, 12, 21), (0, 9, 15, 15), (0, 9, 18, 44)])) (FQ : am_FQ X K rm_L_split.cells rm_L_split.slots) (hR : am_Rm X rm_L_split) (hT : am_T X [(0, 9, 12, 21), (0, 9, 15, 15), (0, 9, 18, 44)]) (hn : am_nL X = 4) : cl_L_split K (am_G X) := by
  have ts : ∀ w ∈ am_WS, w ∈ am_wsT yL_split cL_split 4 (some .int) [(0, 9, 12, 21), (0, 9, 15, 15), (0, 9, 18, 44)] := fun w h => List.mem_cons_of_mem _ h
  exact ms_aload_n F (am_dk (q := (0, .aload_n 2, 1)) dk_L_split_0 0 rfl) rfl (ms_iconst F (am_dk (q := (1, .iconst 0, 1)) dk_L_split_0 1 rfl) (by decide +kernel) (ms_aload_n F (am_dk (q := (2, .aload_n 0, 1)) dk_L_split_0 2 rfl) rfl (ms_iload_n F (am_dk (q := (3, .iload_n 1, 1)) dk_L_split_0 3 rfl) rfl (ms_callV F hR (ci := 7) (r9 := (RX7, TX7, 16)) (y := yX7_split) (maxL := 4) (rm' := rm_X7_split) (na := 1) ct_X7_split wd_613 wd_1 wd_610 wd_611 wd_612 rfl (by decide +kernel) (by decide) (am_dk (q := (4, .invokevirtual 41, 3)) dk_L_split_0 4 rfl) (ms_hdl_c (ms_cat F FQ hT (C := "java/lang/IndexOutOfBoundsException") (name := "java/lang/IndexOutOfBoundsException") [] ⟨0, 9, 12, 21⟩ [⟨0, 9, 15, 15⟩, ⟨0, 9, 18, 44⟩] rfl (fun _ h => absurd h List.not_mem_nil) (by decide) (by decide) (ts _ wd_503) wn_513 hn (by decide : 3 < 4) (Or.inl ⟨3, rfl, (am_dk (q := (12, .astore_n 3, 1)) dk_L_split_0 8 rfl), rfl⟩) (am_dk (q := (13, .iconst 1, 1)) dk_L_split_0 9 rfl) (by decide +kernel) (am_dk (q := (14, .ireturn, 1)) dk_L_split_0 10 rfl) rfl) (ms_hdl_c (ms_cat F FQ hT (C := "java/lang/UnsupportedOperationException") (name := "java/lang/UnsupportedOperationException") [⟨0, 9, 12, 21⟩] ⟨0, 9, 15, 15⟩ [⟨0, 9, 18, 44⟩] rfl (List.forall_mem_cons.mpr ⟨⟨by decide, "java/lang/IndexOutOfBoundsException", ts _ wd_503, by decide +kernel⟩, (fun _ h => absurd h List.not_mem_nil)⟩) (by decide) (by decide) (ts _ wd_393) wn_482 hn (by decide : 3 < 4) (Or.inl ⟨3, rfl, (am_dk (q := (15, .astore_n 3, 1)) dk_L_split_0 11 rfl), rfl⟩) (am_dk (q := (16, .iconst 2, 1)) dk_L_split_0 12 rfl) (by decide +kernel) (am_dk (q := (17, .ireturn, 1)) dk_L_split_0 13 rfl) rfl) (ms_hdl_c (ms_cat F FQ hT (C := "java/lang/IllegalStateException") (name := "java/lang/IllegalStateException") [⟨0, 9, 12, 21⟩, ⟨0, 9, 15, 15⟩] ⟨0, 9, 18, 44⟩ [] rfl (List.forall_mem_cons.mpr ⟨⟨by decide, "java/lang/IndexOutOfBoundsException", ts _ wd_503, by decide +kernel⟩, (List.forall_mem_cons.mpr ⟨⟨by decide, "java/lang/UnsupportedOperationException", ts _ wd_393, by decide +kernel⟩, (fun _ h => absurd h List.not_mem_nil)⟩)⟩) (by decide) (by decide) (ts _ wd_609) wn_634 hn (by decide : 3 < 4) (Or.inl ⟨3, rfl, (am_dk (q := (18, .astore_n 3, 1)) dk_L_split_0 14 rfl), rfl⟩) (am_dk (q := (19, .iconst 3, 1)) dk_L_split_0 15 rfl) (by decide +kernel) (am_dk (q := (20, .ireturn, 1)) dk_L_split_0 16 rfl) rfl) (ms_hdl_n _ _)))) (ms_i2l F (am_dk (q := (7, .i2l, 1)) dk_L_split_0 5 rfl) (ms_lastore F (am_dk (q := (8, .lastore, 1)) dk_L_split_0 6 rfl) (ms_goto F (tgt := 21) (am_dk (q := (9, .goto 12, 3)) dk_L_split_0 7 rfl) (by decide) (ms_iconst F (am_dk (q := (21, .iconst 0, 1)) dk_L_split_0 17 rfl) (by decide +kernel) (ms_iret F FQ rfl (am_dk (q := (22, .ireturn, 1)) dk_L_split_0 18 rfl))))))))))
theorem ct_L_split (l : Launch) (htr : l.stackTraces = false) : am_Ct l yL_split (am_wsT yL_split cL_split 4 (some .int) [(0, 9, 12, 21), (0, 9, 15, 15), (0, 9, 18, 44)]) rm_L_split sp_L_split := am_ofH htr (by decide) wd_608 (fun X K F FQ hR hT hn as n E hS => f_L_split K (am_G X) (sd_L_split X K F FQ hR hT hn) as n E hS)
def sp_X7_requireSheet : am_S := fun as n E K => ∃ (b : Nat) (σ : am_St) (s : Int32), as = [.ref b, .int s] ∧ am_HS b E σ ∧ (0 ≤ s ∧ ¬ nI (σ 15 0 0) ≤ s → K (.inl none) n E) ∧ (¬ (0 ≤ s ∧ ¬ nI (σ 15 0 0) ≤ s) → K (.inr x_IO) n E)
def rm_X7_requireSheet : Room := { frames := 6, cells := 1, slots := 6, locals := 82 }
theorem rmc_X7_requireSheet : rm_X7_requireSheet.cells = 1 := rfl
theorem rms_X7_requireSheet : rm_X7_requireSheet.slots = 6 := rfl
theorem ct_X7_requireSheet (l : Launch) (htr : l.stackTraces = false) : am_Ct l yX7_requireSheet (am_ws yX7_requireSheet cX7_requireSheet 2 none) rm_X7_requireSheet sp_X7_requireSheet := sorry
def sp_X4_streaksOf : am_S := fun as n E K => ∃ (t u : Nat) (co w h sk : Int32) (tu : Bool), as = [.ref t, .int (if tu = true then 1 else 0)] ∧ am_sh0 E t co w h sk u ∧ am_ch sk ∧ K (.inl (some (.int (am_sko sk tu)))) n E
def rm_X4_streaksOf : Room := { frames := 0, cells := 0, slots := 0, locals := 0 }
theorem rmc_X4_streaksOf : rm_X4_streaksOf.cells = 0 := rfl
theorem rms_X4_streaksOf : rm_X4_streaksOf.slots = 0 := rfl
theorem ct_X4_streaksOf (l : Launch) (htr : l.stackTraces = false) : am_Ct l yX4_streaksOf (am_ws yX4_streaksOf cX4_streaksOf 2 (some .char)) rm_X4_streaksOf sp_X4_streaksOf := sorry
def sp_X2_wants : am_S := fun as n E K => ∃ (t p y : Nat) (wc wk st co yr : Int32) (t' u : Nat) (co' w h sk : Int32) (tu : Bool), as = [.ref t, .ref t', .int (if tu = true then 1 else 0)] ∧ am_pn0 E t wc wk st co yr p y ∧ am_sh0 E t' co' w h sk u ∧ am_ch sk ∧ K (.inl (some (.int (if co' = wc ∧ (wk = 45 ∨ wk = am_sko sk tu) then 1 else 0)))) n E
def rm_X2_wants : Room := { frames := 1, cells := 0, slots := 0, locals := 21 }
theorem rmc_X2_wants : rm_X2_wants.cells = 0 := rfl
theorem rms_X2_wants : rm_X2_wants.slots = 0 := rfl
theorem ct_X2_wants (l : Launch) (htr : l.stackTraces = false) : am_Ct l yX2_wants (am_ws yX2_wants cX2_wants 3 (some .boolean)) rm_X2_wants sp_X2_wants := sorry
def sp_X3_columnsUsed : am_S := fun as n E K => ∃ (t r q : Nat) (P : Nat → Nat → Bool), as = [.ref t] ∧ am_so E t r q ∧ am_sr E r P ∧ K (.inl (some (.int (nI (am_bn (am_cu P) 12))))) n E
def rm_X3_columnsUsed : Room := { frames := 0, cells := 0, slots := 0, locals := 0 }
theorem rmc_X3_columnsUsed : rm_X3_columnsUsed.cells = 0 := rfl
theorem rms_X3_columnsUsed : rm_X3_columnsUsed.slots = 0 := rfl
theorem ct_X3_columnsUsed (l : Launch) (htr : l.stackTraces = false) : am_Ct l yX3_columnsUsed (am_ws yX3_columnsUsed cX3_columnsUsed 3 (some .int)) rm_X3_columnsUsed sp_X3_columnsUsed := sorry
def sp_X3_moveToCorner : am_S := fun as n E K => ∃ (t r q : Nat) (P : Nat → Nat → Bool), as = [.ref t] ∧ am_sup P ∧ am_so E t r q ∧ am_sr E r P ∧ K (.inl none) n (am_u E r (am_rwE (am_mv P)))
def rm_X3_moveToCorner : Room := { frames := 1, cells := 0, slots := 0, locals := 22 }
theorem rmc_X3_moveToCorner : rm_X3_moveToCorner.cells = 0 := rfl
theorem rms_X3_moveToCorner : rm_X3_moveToCorner.slots = 0 := rfl
theorem ct_X3_moveToCorner (l : Launch) (htr : l.stackTraces = false) : am_Ct l yX3_moveToCorner (am_ws yX3_moveToCorner cX3_moveToCorner 5 none) rm_X3_moveToCorner sp_X3_moveToCorner := sorry
def sp_X3_height : am_S := fun as n E K => ∃ (t r q : Nat) (P : Nat → Nat → Bool), as = [.ref t] ∧ am_so E t r q ∧ am_sr E r P ∧ K (.inl (some (.int (nI (am_ht P))))) n E
def rm_X3_height : Room := { frames := 0, cells := 0, slots := 0, locals := 0 }
theorem rmc_X3_height : rm_X3_height.cells = 0 := rfl
theorem rms_X3_height : rm_X3_height.slots = 0 := rfl
theorem ct_X3_height (l : Launch) (htr : l.stackTraces = false) : am_Ct l yX3_height (am_ws yX3_height cX3_height 2 (some .int)) rm_X3_height sp_X3_height := sorry
def sp_X3_turnInto : am_S := fun as n E K => ∃ (t r q t2 r2 q2 : Nat) (P Q : Nat → Nat → Bool), as = [.ref t, .ref t2] ∧ r ≠ r2 ∧ am_sup P ∧ am_sup Q ∧ am_so E t r q ∧ am_sr E r P ∧ am_so E t2 r2 q2 ∧ am_sr E r2 Q ∧ K (.inl none) n (am_u E r2 (am_rwE (am_tn P)))
def rm_X3_turnInto : Room := { frames := 2, cells := 0, slots := 0, locals := 43 }
theorem rmc_X3_turnInto : rm_X3_turnInto.cells = 0 := rfl
theorem rms_X3_turnInto : rm_X3_turnInto.slots = 0 := rfl
theorem ct_X3_turnInto (l : Launch) (htr : l.stackTraces = false) : am_Ct l yX3_turnInto (am_ws yX3_turnInto cX3_turnInto 5 none) rm_X3_turnInto sp_X3_turnInto := sorry
def sp_X3_width : am_S := fun as n E K => ∃ (t r q : Nat) (P : Nat → Nat → Bool), as = [.ref t] ∧ am_so E t r q ∧ am_sr E r P ∧ K (.inl (some (.int (nI (am_wd P))))) n E
def rm_X3_width : Room := { frames := 1, cells := 0, slots := 0, locals := 22 }
theorem rmc_X3_width : rm_X3_width.cells = 0 := rfl
theorem rms_X3_width : rm_X3_width.slots = 0 := rfl
theorem ct_X3_width (l : Launch) (htr : l.stackTraces = false) : am_Ct l yX3_width (am_ws yX3_width cX3_width 3 (some .int)) rm_X3_width sp_X3_width := sorry
def sp_X4_isFreeAt : am_S := fun as n E K => ∃ (t u t2 r2 q2 a l h : Nat) (co wd sk : Int32) (U P : Nat → Nat → Bool), as = [.ref t, .ref t2, .int (nI a), .int (nI l)] ∧ a ≤ 12 ∧ h ≤ 12 ∧ l ≤ h ∧ am_sup P ∧ am_sh0 E t co wd (nI h) sk u ∧ am_sr E u U ∧ am_so E t2 r2 q2 ∧ am_sr E r2 P ∧ K (.inl (some (.int (if am_fre U P a l h = true then 1 else 0)))) n E
def rm_X4_isFreeAt : Room := { frames := 1, cells := 0, slots := 0, locals := 21 }
theorem rmc_X4_isFreeAt : rm_X4_isFreeAt.cells = 0 := rfl
theorem rms_X4_isFreeAt : rm_X4_isFreeAt.slots = 0 := rfl
theorem ct_X4_isFreeAt (l : Launch) (htr : l.stackTraces = false) : am_Ct l yX4_isFreeAt (am_ws yX4_isFreeAt cX4_isFreeAt 5 (some .boolean)) rm_X4_isFreeAt sp_X4_isFreeAt := sorry
def sp_X4_placeFor : am_S := fun as n E K => ∃ (t u t2 r2 q2 w h : Nat) (co sk : Int32) (U P : Nat → Nat → Bool), as = [.ref t, .ref t2] ∧ w ≤ 12 ∧ h ≤ 12 ∧ am_sup P ∧ 1 ≤ am_wd P ∧ 1 ≤ am_ht P ∧ am_sh0 E t co (nI w) (nI h) sk u ∧ am_sr E u U ∧ am_so E t2 r2 q2 ∧ am_sr E r2 P ∧ K (.inl (some (.int (if am_plc U P w h < 144 then nI (am_plc U P w h) else -1)))) n E
def rm_X4_placeFor : Room := { frames := 2, cells := 0, slots := 0, locals := 45 }
theorem rmc_X4_placeFor : rm_X4_placeFor.cells = 0 := rfl
theorem rms_X4_placeFor : rm_X4_placeFor.slots = 0 := rfl
theorem ct_X4_placeFor (l : Launch) (htr : l.stackTraces = false) : am_Ct l yX4_placeFor (am_ws yX4_placeFor cX4_placeFor 6 (some .int)) rm_X4_placeFor sp_X4_placeFor := sorry
def sp_X4_use : am_S := fun as n E K => ∃ (t u t2 r2 q2 k h : Nat) (co wd sk : Int32) (U P : Nat → Nat → Bool), as = [.ref t, .ref t2, .int (nI k)] ∧ k < 144 ∧ h ≤ 12 ∧ r2 ≠ u ∧ am_sup U ∧ am_sup P ∧ (∀ x y, P x y = true → x + k % 12 < 12 ∧ y + k / 12 < h) ∧ k / 12 ≤ h ∧ am_sh0 E t co wd (nI h) sk u ∧ am_sr E u U ∧ am_so E t2 r2 q2 ∧ am_sr E r2 P ∧ K (.inl none) n (am_u E u (am_rwE (am_usd U P (k % 12) (k / 12))))
def rm_X4_use : Room := { frames := 1, cells := 0, slots := 0, locals := 21 }
theorem rmc_X4_use : rm_X4_use.cells = 0 := rfl
theorem rms_X4_use : rm_X4_use.slots = 0 := rfl
theorem ct_X4_use (l : Launch) (htr : l.stackTraces = false) : am_Ct l yX4_use (am_ws yX4_use cX4_use 6 none) rm_X4_use sp_X4_use := sorry
def sp_X7_take : am_S := fun as n E K => ∃ (b : Nat) (σ : am_St) (τ : Nat → Nat → Nat → Bool) (w : Nat → Int32) (u : Nat → Bool) (aS i j k : Nat), ((aS = 6 ∧ i = 0) ∨ (aS = 9 ∧ i = 2)) ∧ j < 8 ∧ k < 144 ∧ as = [.ref b, .ref (b + 198 + 2 * j), .ref (b + aS), .int (nI k)] ∧ am_HT b E σ τ w u ∧ (∀ x y, τ i x y = true → x + k % 12 < 12 ∧ y + k / 12 < σ 11 j 0) ∧ k / 12 ≤ σ 11 j 0 ∧ ∀ E', am_HT b E' (am_tks σ j (τ i) k) τ w u → am_kb b 214 E E' → K (.inl none) n E'
def rm_X7_take : Room := { frames := 2, cells := 0, slots := 0, locals := 46 }
theorem rmc_X7_take : rm_X7_take.cells = 0 := rfl
theorem rms_X7_take : rm_X7_take.slots = 0 := rfl
theorem ct_X7_take (l : Launch) (htr : l.stackTraces = false) : am_Ct l yX7_take (am_ws yX7_take cX7_take 4 none) rm_X7_take sp_X7_take := sorry
def sp_X1_clear : am_S := fun as n E K => ∃ (t r f : Nat) (R F : Nat → Nat), as = [.ref t] ∧ am_po E t r f R F ∧ (∀ k, 4 ≤ k → R k = 0 ∧ F k = 0) ∧ K (.inl none) n (am_u (am_u E r (am_c4 (fun _ => 0))) f (am_c4 (fun _ => 0)))
def rm_X1_clear : Room := { frames := 0, cells := 0, slots := 0, locals := 0 }
theorem rmc_X1_clear : rm_X1_clear.cells = 0 := rfl
theorem rms_X1_clear : rm_X1_clear.slots = 0 := rfl
theorem ct_X1_clear (l : Launch) (htr : l.stackTraces = false) : am_Ct l yX1_clear (am_ws yX1_clear cX1_clear 2 none) rm_X1_clear sp_X1_clear := sorry
def sp_X6_clear : am_S := fun as n E K => ∃ (t w : Nat) (Y : Nat → Bool), as = [.ref t] ∧ t ≠ w ∧ am_ysup Y ∧ am_yo E t w Y ∧ K (.inl none) n (am_u E w (am_ywE (fun _ => false)))
def rm_X6_clear : Room := { frames := 0, cells := 0, slots := 0, locals := 0 }
theorem rmc_X6_clear : rm_X6_clear.cells = 0 := rfl
theorem rms_X6_clear : rm_X6_clear.slots = 0 := rfl
theorem ct_X6_clear (l : Launch) (htr : l.stackTraces = false) : am_Ct l yX6_clear (am_ws yX6_clear cX6_clear 2 none) rm_X6_clear sp_X6_clear := sorry
def sp_X2_glaze : am_S := fun as n E K => ∃ (t p y r f w : Nat) (wc wk st co yr st2 co2 yr2 : Int32) (R F : Nat → Nat) (Y : Nat → Bool), as = [.ref t, .int st2, .int co2, .int yr2] ∧ am_ch st2 ∧ am_pn0 E t wc wk st co yr p y ∧ am_po E p r f R F ∧ (∀ k, 4 ≤ k → R k = 0 ∧ F k = 0) ∧ am_ysup Y ∧ am_yo E y w Y ∧ K (.inl none) n (am_u (am_u (am_u (am_u E t (.inr (2, [.int wc, .int wk, .int st2, .int co2, .int yr2, .ref p, .ref y]))) r (am_c4 (fun _ => 0))) f (am_c4 (fun _ => 0))) w (am_ywE (fun _ => false)))
def rm_X2_glaze : Room := { frames := 1, cells := 0, slots := 0, locals := 21 }
theorem rmc_X2_glaze : rm_X2_glaze.cells = 0 := rfl
theorem rms_X2_glaze : rm_X2_glaze.slots = 0 := rfl
theorem ct_X2_glaze (l : Launch) (htr : l.stackTraces = false) : am_Ct l yX2_glaze (am_ws yX2_glaze cX2_glaze 4 none) rm_X2_glaze sp_X2_glaze := sorry
def sp_X7_cut : am_S := fun as n E K => ∃ (b : Nat) (σ : am_St) (s : Int32) (p : Int32) (v : Bool), as = [.ref b, .int s, .int p, .int (if v = true then 1 else 0)] ∧ am_HS b E σ ∧ am_api b n E K (q_cut σ s p v)
def rm_X7_cut : Room := { frames := 7, cells := 3, slots := 18, locals := 108 }
theorem rmc_X7_cut : rm_X7_cut.cells = 3 := rfl
theorem rms_X7_cut : rm_X7_cut.slots = 18 := rfl
theorem ct_X7_cut (l : Launch) (htr : l.stackTraces = false) : am_Ct l yX7_cut (am_ws yX7_cut cX7_cut 8 (some .boolean)) rm_X7_cut sp_X7_cut := sorry
def sp_L_cut : am_S := fun as n E K => ∃ (b : Nat) (σ : am_St) (s : Int32) (p : Int32) (v : Bool) (o : Nat) (g : Nat → Int64), as = [.ref b, .int s, .int p, .int (if v = true then 1 else 0), .ref o] ∧ am_HS b E σ ∧ (o < b ∨ b + 214 ≤ o) ∧ E o = some (.inl (1, 1, .inr (.inl g))) ∧ am_wr b o n E K L_OAU (q_cut σ s p v)
def rm_L_cut : Room := { frames := 8, cells := 3, slots := 18, locals := 135 }
theorem rmc_L_cut : rm_L_cut.cells = 3 := rfl
theorem rms_L_cut : rm_L_cut.slots = 18 := rfl
def bk_L_cut_0 (K : am_P) (G : Nat → am_C) : am_C := o_aload 4 <| o_pi 0 <| o_aload 0 <| o_iload 1 <| o_iload 2 <| o_iload 3 <| o_callV 7 4 sp_X7_cut rm_X7_cut rm_L_cut (am_hdl [("java/lang/IndexOutOfBoundsException", 1), ("java/lang/IllegalArgumentException", 2), ("java/lang/UnsupportedOperationException", 3)] K) <| o_if_eq (o_pl 0 <| o_lst <| o_pi 0 <| o_iret .int K) (o_pl 1 <| o_lst <| o_pi 0 <| o_iret .int K)
def cl_L_cut (K : am_P) (G : Nat → am_C) : Prop := am_imp (bk_L_cut_0 K G) (G 0)
theorem f_L_cut (K : am_P) (G : Nat → am_C) (hC : cl_L_cut K G) (as : List Value) (n : Nat) (E : am_E) (hS : sp_L_cut as n E K) : (am_sl as).length ≤ 6 ∧ G 0 (am_inl 6 as) [] n E 0 0 := by
  obtain ⟨b, σ, s, p, v, o, g, rfl, ⟨τ, w, u, h⟩, ho, hEo, hK⟩ := hS
  refine ⟨by simp [am_sl, Value.category], ?_⟩
  have h0 : E b = some (.inr (7, [.ref (b + 1), .ref (b + 3), .ref (b + 4), .ref (b + 5), .int (nI (σ 15 0 0)), .int (nI (σ 15 8 0)), .int (nI (σ 15 6 0)), .int (nI (σ 15 4 0)), .int (nI (σ 15 5 0)), .int (nI (σ 15 3 0)), .int (nI (σ 15 7 0)), .ref (b + 6), .ref (b + 9), .ref (b + 12), .ref (b + 15), .ref (b + 16)])) := hs_hall h
  have hw1 : E (b + 1) = some (.inr (5, [.ref (b + 2)])) := hs_t h 1 (by decide)
  have hp3 := hs_panes h
  have hs4 := hs_sheets h
  have hf5 : E (b + 5) = some (.inr (0, [.int (nI (am_bn (st_b σ) 12)), .int (nI (σ 15 1 0)), .int (nI (σ 15 2 0))])) := hs_t h 5 (by decide)
  have h6 : E (b + 6) = some (.inr (3, [.ref (b + 7), .ref (b + 8)])) := hs_t h 6 (by decide)
  have h9 : E (b + 9) = some (.inr (3, [.ref (b + 10), .ref (b + 11)])) := hs_t h 9 (by decide)
  have h12 : E (b + 12) = some (.inr (3, [.ref (b + 13), .ref (b + 14)])) := hs_t h 12 (by decide)
  have h15 := hs_wts h
  have h16 : E (b + 16) = some (.inr (6, [.ref (b + 17)])) := hs_t h 16 (by decide)
  apply hC
  simp only [bk_L_cut_0, o_pi, o_pl, o_pf, o_pd, o_iload, o_lload, o_fload, o_dload, o_aload, o_istore, o_lstore, o_fstore, o_dstore, o_astore, o_iinc, o_ib, o_ibz, o_lb, o_lbz, o_lsh, o_lcmp, o_ineg, o_i2l, o_l2i, o_i2c, o_i2f, o_i2d, o_f2d, o_fdiv, o_ddiv, o_fcmp, o_dcmp, o_dup, o_dup2, o_pop, o_if_eq, o_if_ne, o_if_lt, o_if_ge, o_if_gt, o_if_le, o_ic_eq, o_ic_ne, o_ic_lt, o_ic_ge, o_ic_gt, o_ic_le, o_if, o_ic, o_getf, o_putf, o_ild, o_ist, o_lld, o_lst, o_dld, o_dst, o_ald, o_alen, o_new, o_newa, o_ast, o_oinit, o_iret, o_lret, o_fret, o_dret, o_aret, o_vret, o_throw, o_call, o_callV, am_kc, am_noX, o_im, o_ia, o_gets, o_ldcK, o_getK, o_codK, o_lenK, o_bldK, o_i2b, o_callK, o_mna, o_clone, o_castA, am_s1, am_s2, am_kill, am_inl, am_sl, Value.category, List.getElem?_cons_zero, List.getElem?_cons_succ, List.set_cons_zero, List.set_cons_succ, List.length_cons, List.length_nil, List.take_succ_cons, List.take_zero, List.drop_succ_cons, List.drop_zero, List.reverse_cons, List.reverse_nil, List.nil_append, List.cons_append, List.append_nil, List.map_cons, List.map_nil, List.sum_cons, List.sum_nil, List.replicate_succ, List.replicate_zero, Nat.zero_add, Nat.add_zero, Nat.le_refl, Nat.zero_le, ite_true, ite_false, if_true, if_false, true_and, and_true, eq_self, not_true_eq_false, not_false_eq_true, am_nb0, am_nb1, am_ni, am_fi, am_fr, am_fra, am_fz0, am_fz1, am_fl, am_uE, am_vnI, am_uu, am_ltx, ite_not, Classical.not_not, reduceIte, reduceCtorEq, Nat.reduceEqDiff, Nat.reduceAdd, Nat.reduceSub, Nat.reduceMul, Nat.reduceLeDiff, Nat.reduceLT, Int32.reduceLE, Int32.reduceLT, am_10, am_01, am_ite0, am_ite1, ms_boT, ms_boF, rmc_L_cut, rms_L_cut, rmc_X7_cut, rms_X7_cut, h0, hw1, hp3, hs4, hf5, h6, h9, h12, h15, h16]
  refine ⟨b, σ, s, p, v, rfl, ⟨τ, w, u, h⟩, fun E' hE' hk => ?_⟩
  have hEo' : E' o = some (.inl (1, 1, .inr (.inl g))) := (hk o ho).trans hEo
  have v01 : vp_in 0 1 := vp_in_nI (n := 0) (by decide) (by decide)
  have c0 : Int32.toNatClampNeg 0 = 0 := rfl
  have hok := ok9_cut σ s p v
  generalize q_cut σ s p v = rr at hK hE' hok ⊢
  rcases hok with ⟨v, σ', hv, rfl⟩ | ⟨C, σ', hC9, rfl⟩
  · rcases hv with rfl | rfl
    · show am_kc _ _ _ _ _ _ (.inl (some (.int 0))) n E'
      simp only [bk_L_cut_0, o_pi, o_pl, o_pf, o_pd, o_iload, o_lload, o_fload, o_dload, o_aload, o_istore, o_lstore, o_fstore, o_dstore, o_astore, o_iinc, o_ib, o_ibz, o_lb, o_lbz, o_lsh, o_lcmp, o_ineg, o_i2l, o_l2i, o_i2c, o_i2f, o_i2d, o_f2d, o_fdiv, o_ddiv, o_fcmp, o_dcmp, o_dup, o_dup2, o_pop, o_if_eq, o_if_ne, o_if_lt, o_if_ge, o_if_gt, o_if_le, o_ic_eq, o_ic_ne, o_ic_lt, o_ic_ge, o_ic_gt, o_ic_le, o_if, o_ic, o_getf, o_putf, o_ild, o_ist, o_lld, o_lst, o_dld, o_dst, o_ald, o_alen, o_new, o_newa, o_ast, o_oinit, o_iret, o_lret, o_fret, o_dret, o_aret, o_vret, o_throw, o_call, o_callV, am_kc, am_noX, o_im, o_ia, o_gets, o_ldcK, o_getK, o_codK, o_lenK, o_bldK, o_i2b, o_callK, o_mna, o_clone, o_castA, am_s1, am_s2, am_kill, am_inl, am_sl, Value.category, List.getElem?_cons_zero, List.getElem?_cons_succ, List.set_cons_zero, List.set_cons_succ, List.length_cons, List.length_nil, List.take_succ_cons, List.take_zero, List.drop_succ_cons, List.drop_zero, List.reverse_cons, List.reverse_nil, List.nil_append, List.cons_append, List.append_nil, List.map_cons, List.map_nil, List.sum_cons, List.sum_nil, List.replicate_succ, List.replicate_zero, Nat.zero_add, Nat.add_zero, Nat.le_refl, Nat.zero_le, ite_true, ite_false, if_true, if_false, true_and, and_true, eq_self, not_true_eq_false, not_false_eq_true, am_nb0, am_nb1, am_ni, am_fi, am_fr, am_fra, am_fz0, am_fz1, am_fl, am_uE, am_vnI, am_uu, am_ltx, ite_not, Classical.not_not, reduceIte, reduceCtorEq, Nat.reduceEqDiff, Nat.reduceAdd, Nat.reduceSub, Nat.reduceMul, Nat.reduceLeDiff, Nat.reduceLT, Int32.reduceLE, Int32.reduceLT, am_10, am_01, am_ite0, am_ite1, ms_boT, ms_boF, rmc_L_cut, rms_L_cut, rmc_X7_cut, rms_X7_cut, hEo', v01, c0]
      exact am_wr_i hK ho hE' hk
    · show am_kc _ _ _ _ _ _ (.inl (some (.int 1))) n E'
      simp only [bk_L_cut_0, o_pi, o_pl, o_pf, o_pd, o_iload, o_lload, o_fload, o_dload, o_aload, o_istore, o_lstore, o_fstore, o_dstore, o_astore, o_iinc, o_ib, o_ibz, o_lb, o_lbz, o_lsh, o_lcmp, o_ineg, o_i2l, o_l2i, o_i2c, o_i2f, o_i2d, o_f2d, o_fdiv, o_ddiv, o_fcmp, o_dcmp, o_dup, o_dup2, o_pop, o_if_eq, o_if_ne, o_if_lt, o_if_ge, o_if_gt, o_if_le, o_ic_eq, o_ic_ne, o_ic_lt, o_ic_ge, o_ic_gt, o_ic_le, o_if, o_ic, o_getf, o_putf, o_ild, o_ist, o_lld, o_lst, o_dld, o_dst, o_ald, o_alen, o_new, o_newa, o_ast, o_oinit, o_iret, o_lret, o_fret, o_dret, o_aret, o_vret, o_throw, o_call, o_callV, am_kc, am_noX, o_im, o_ia, o_gets, o_ldcK, o_getK, o_codK, o_lenK, o_bldK, o_i2b, o_callK, o_mna, o_clone, o_castA, am_s1, am_s2, am_kill, am_inl, am_sl, Value.category, List.getElem?_cons_zero, List.getElem?_cons_succ, List.set_cons_zero, List.set_cons_succ, List.length_cons, List.length_nil, List.take_succ_cons, List.take_zero, List.drop_succ_cons, List.drop_zero, List.reverse_cons, List.reverse_nil, List.nil_append, List.cons_append, List.append_nil, List.map_cons, List.map_nil, List.sum_cons, List.sum_nil, List.replicate_succ, List.replicate_zero, Nat.zero_add, Nat.add_zero, Nat.le_refl, Nat.zero_le, ite_true, ite_false, if_true, if_false, true_and, and_true, eq_self, not_true_eq_false, not_false_eq_true, am_nb0, am_nb1, am_ni, am_fi, am_fr, am_fra, am_fz0, am_fz1, am_fl, am_uE, am_vnI, am_uu, am_ltx, ite_not, Classical.not_not, reduceIte, reduceCtorEq, Nat.reduceEqDiff, Nat.reduceAdd, Nat.reduceSub, Nat.reduceMul, Nat.reduceLeDiff, Nat.reduceLT, Int32.reduceLE, Int32.reduceLT, am_10, am_01, am_ite0, am_ite1, ms_boT, ms_boF, rmc_L_cut, rms_L_cut, rmc_X7_cut, rms_X7_cut, hEo', v01, c0]
      exact am_wr_i hK ho hE' hk
  · show ∃ q ∈ [(x_IO, (1 : Int32)), (x_IA, (2 : Int32)), (x_UO, (3 : Int32))], q.1 = C ∧ K (.inl (some (.int q.2))) n E'
    have hC8 : C = x_IO ∨ C = x_IA ∨ C = x_UO := by simpa using hC9
    rcases hC8 with rfl | rfl | rfl
    · exact ⟨(x_IO, 1), by simp, rfl, am_wr_x hK th_OAU_1 hEo' hE' hk⟩
    · exact ⟨(x_IA, 2), by simp, rfl, am_wr_x hK th_OAU_2 hEo' hE' hk⟩
    · exact ⟨(x_UO, 3), by simp, rfl, am_wr_x hK th_OAU_3 hEo' hE' hk⟩
set_option maxRecDepth 100000 in
set_option maxHeartbeats 4000000 in
theorem sd_L_cut (X : am_X) (K : am_P) (F : am_F X cL_cut yL_cut.cls (some .int) (am_wsT yL_cut cL_cut 6 (some .int) [(0, 19, 22, 21), (0, 19, 26, 13), (0, 19, 30, 15)])) (FQ : am_FQ X K rm_L_cut.cells rm_L_cut.slots) (hR : am_Rm X rm_L_cut) (hT : am_T X [(0, 19, 22, 21), (0, 19, 26, 13), (0, 19, 30, 15)]) (hn : am_nL X = 6) : cl_L_cut K (am_G X) := by
  have ts : ∀ w ∈ am_WS, w ∈ am_wsT yL_cut cL_cut 6 (some .int) [(0, 19, 22, 21), (0, 19, 26, 13), (0, 19, 30, 15)] := fun w h => List.mem_cons_of_mem _ h
  exact ms_aload F (am_dk (q := (0, .aload 4, 2)) dk_L_cut_0 0 rfl) (ms_iconst F (am_dk (q := (2, .iconst 0, 1)) dk_L_cut_0 1 rfl) (by decide +kernel) (ms_aload_n F (am_dk (q := (3, .aload_n 0, 1)) dk_L_cut_0 2 rfl) rfl (ms_iload_n F (am_dk (q := (4, .iload_n 1, 1)) dk_L_cut_0 3 rfl) rfl (ms_iload_n F (am_dk (q := (5, .iload_n 2, 1)) dk_L_cut_0 4 rfl) rfl (ms_iload_n F (am_dk (q := (6, .iload_n 3, 1)) dk_L_cut_0 5 rfl) rfl (ms_callV F hR (ci := 7) (r9 := (RX7, TX7, 16)) (y := yX7_cut) (maxL := 8) (rm' := rm_X7_cut) (na := 3) ct_X7_cut wd_708 wd_1 wd_705 wd_706 wd_707 rfl (by decide +kernel) (by decide) (am_dk (q := (7, .invokevirtual 57, 3)) dk_L_cut_0 6 rfl) (ms_hdl_c (ms_cat F FQ hT (C := "java/lang/IndexOutOfBoundsException") (name := "java/lang/IndexOutOfBoundsException") [] ⟨0, 19, 22, 21⟩ [⟨0, 19, 26, 13⟩, ⟨0, 19, 30, 15⟩] rfl (fun _ h => absurd h List.not_mem_nil) (by decide) (by decide) (ts _ wd_503) wn_513 hn (by decide : 5 < 6) (Or.inr ⟨(am_dk (q := (22, .astore 5, 2)) dk_L_cut_0 13 rfl), rfl⟩) (am_dk (q := (24, .iconst 1, 1)) dk_L_cut_0 14 rfl) (by decide +kernel) (am_dk (q := (25, .ireturn, 1)) dk_L_cut_0 15 rfl) rfl) (ms_hdl_c (ms_cat F FQ hT (C := "java/lang/IllegalArgumentException") (name := "java/lang/IllegalArgumentException") [⟨0, 19, 22, 21⟩] ⟨0, 19, 26, 13⟩ [⟨0, 19, 30, 15⟩] rfl (List.forall_mem_cons.mpr ⟨⟨by decide, "java/lang/IndexOutOfBoundsException", ts _ wd_503, by decide +kernel⟩, (fun _ h => absurd h List.not_mem_nil)⟩) (by decide) (by decide) (ts _ wd_392) wn_404 hn (by decide : 5 < 6) (Or.inr ⟨(am_dk (q := (26, .astore 5, 2)) dk_L_cut_0 16 rfl), rfl⟩) (am_dk (q := (28, .iconst 2, 1)) dk_L_cut_0 17 rfl) (by decide +kernel) (am_dk (q := (29, .ireturn, 1)) dk_L_cut_0 18 rfl) rfl) (ms_hdl_c (ms_cat F FQ hT (C := "java/lang/UnsupportedOperationException") (name := "java/lang/UnsupportedOperationException") [⟨0, 19, 22, 21⟩, ⟨0, 19, 26, 13⟩] ⟨0, 19, 30, 15⟩ [] rfl (List.forall_mem_cons.mpr ⟨⟨by decide, "java/lang/IndexOutOfBoundsException", ts _ wd_503, by decide +kernel⟩, (List.forall_mem_cons.mpr ⟨⟨by decide, "java/lang/IllegalArgumentException", ts _ wd_392, by decide +kernel⟩, (fun _ h => absurd h List.not_mem_nil)⟩)⟩) (by decide) (by decide) (ts _ wd_393) wn_482 hn (by decide : 5 < 6) (Or.inr ⟨(am_dk (q := (30, .astore 5, 2)) dk_L_cut_0 19 rfl), rfl⟩) (am_dk (q := (32, .iconst 3, 1)) dk_L_cut_0 20 rfl) (by decide +kernel) (am_dk (q := (33, .ireturn, 1)) dk_L_cut_0 21 rfl) rfl) (ms_hdl_n _ _)))) (ms_if_eq F (tgt := 17) (am_dk (q := (10, .ifCond .eq 7, 3)) dk_L_cut_0 7 rfl) (by decide) (ms_lconst F (am_dk (q := (17, .lconst 0, 1)) dk_L_cut_0 10 rfl) (by decide +kernel) (ms_lastore F (am_dk (q := (18, .lastore, 1)) dk_L_cut_0 11 rfl) (ms_goto F (tgt := 34) (am_dk (q := (19, .goto 15, 3)) dk_L_cut_0 12 rfl) (by decide) (ms_iconst F (am_dk (q := (34, .iconst 0, 1)) dk_L_cut_0 22 rfl) (by decide +kernel) (ms_iret F FQ rfl (am_dk (q := (35, .ireturn, 1)) dk_L_cut_0 23 rfl)))))) (ms_lconst F (am_dk (q := (13, .lconst 1, 1)) dk_L_cut_0 8 rfl) (by decide +kernel) (ms_goto F (tgt := 18) (am_dk (q := (14, .goto 4, 3)) dk_L_cut_0 9 rfl) (by decide) (ms_lastore F (am_dk (q := (18, .lastore, 1)) dk_L_cut_0 11 rfl) (ms_goto F (tgt := 34) (am_dk (q := (19, .goto 15, 3)) dk_L_cut_0 12 rfl) (by decide) (ms_iconst F (am_dk (q := (34, .iconst 0, 1)) dk_L_cut_0 22 rfl) (by decide +kernel) (ms_iret F FQ rfl (am_dk (q := (35, .ireturn, 1)) dk_L_cut_0 23 rfl))))))))))))))
theorem ct_L_cut (l : Launch) (htr : l.stackTraces = false) : am_Ct l yL_cut (am_wsT yL_cut cL_cut 6 (some .int) [(0, 19, 22, 21), (0, 19, 26, 13), (0, 19, 30, 15)]) rm_L_cut sp_L_cut := am_ofH htr (by decide) wd_704 (fun X K F FQ hR hT hn as n E hS => f_L_cut K (am_G X) (sd_L_cut X K F FQ hR hT hn) as n E hS)
def sp_X1_numberOf : am_S := fun as n E K => ∃ c : Int32, as = [.int c] ∧ K (.inl (some (.int (am_kd c)))) n E
def rm_X1_numberOf : Room := { frames := 0, cells := 0, slots := 0, locals := 0 }
theorem rmc_X1_numberOf : rm_X1_numberOf.cells = 0 := rfl
theorem rms_X1_numberOf : rm_X1_numberOf.slots = 0 := rfl
theorem ct_X1_numberOf (l : Launch) (htr : l.stackTraces = false) : am_Ct l yX1_numberOf (am_ws yX1_numberOf cX1_numberOf 2 (some .int)) rm_X1_numberOf sp_X1_numberOf := sorry
def sp_X1_hasStain : am_S := fun as n E K => ∃ (t r f : Nat) (R F : Nat → Nat), as = [.ref t] ∧ am_po E t r f R F ∧ K (.inl (some (.int (if R 2 + F 2 = 0 then 0 else 1)))) n E
def rm_X1_hasStain : Room := { frames := 0, cells := 0, slots := 0, locals := 0 }
theorem rmc_X1_hasStain : rm_X1_hasStain.cells = 0 := rfl
theorem rms_X1_hasStain : rm_X1_hasStain.slots = 0 := rfl
theorem ct_X1_hasStain (l : Launch) (htr : l.stackTraces = false) : am_Ct l yX1_hasStain (am_ws yX1_hasStain cX1_hasStain 1 (some .boolean)) rm_X1_hasStain sp_X1_hasStain := sorry
def sp_X1_rawLayers : am_S := fun as n E K => ∃ (t r f : Nat) (R F : Nat → Nat), as = [.ref t] ∧ am_po E t r f R F ∧ K (.inl (some (.int (nI (fb_sm R 4))))) n E
def rm_X1_rawLayers : Room := { frames := 0, cells := 0, slots := 0, locals := 0 }
theorem rmc_X1_rawLayers : rm_X1_rawLayers.cells = 0 := rfl
theorem rms_X1_rawLayers : rm_X1_rawLayers.slots = 0 := rfl
theorem ct_X1_rawLayers (l : Launch) (htr : l.stackTraces = false) : am_Ct l yX1_rawLayers (am_ws yX1_rawLayers cX1_rawLayers 3 (some .int)) rm_X1_rawLayers sp_X1_rawLayers := sorry
def sp_X1_fixedLayers : am_S := fun as n E K => ∃ (t r f : Nat) (R F : Nat → Nat), as = [.ref t] ∧ am_po E t r f R F ∧ K (.inl (some (.int (nI (fb_sm F 4))))) n E
def rm_X1_fixedLayers : Room := { frames := 0, cells := 0, slots := 0, locals := 0 }
theorem rmc_X1_fixedLayers : rm_X1_fixedLayers.cells = 0 := rfl
theorem rms_X1_fixedLayers : rm_X1_fixedLayers.slots = 0 := rfl
theorem ct_X1_fixedLayers (l : Launch) (htr : l.stackTraces = false) : am_Ct l yX1_fixedLayers (am_ws yX1_fixedLayers cX1_fixedLayers 3 (some .int)) rm_X1_fixedLayers sp_X1_fixedLayers := sorry
def sp_X1_keptLayers : am_S := fun as n E K => ∃ (t r f : Nat) (R F : Nat → Nat), as = [.ref t] ∧ am_po E t r f R F ∧ K (.inl (some (.int (nI (fb_sm R 4 + fb_sm F 4))))) n E
def rm_X1_keptLayers : Room := { frames := 1, cells := 0, slots := 0, locals := 22 }
theorem rmc_X1_keptLayers : rm_X1_keptLayers.cells = 0 := rfl
theorem rms_X1_keptLayers : rm_X1_keptLayers.slots = 0 := rfl
theorem ct_X1_keptLayers (l : Launch) (htr : l.stackTraces = false) : am_Ct l yX1_keptLayers (am_ws yX1_keptLayers cX1_keptLayers 1 (some .int)) rm_X1_keptLayers sp_X1_keptLayers := sorry
def sp_X1_add : am_S := fun as n E K => ∃ (t r f k : Nat) (R F : Nat → Nat), as = [.ref t, .int (nI k)] ∧ k < 4 ∧ am_po E t r f R F ∧ K (.inl none) n (am_u E r (am_c4 (fun i => if i = k then R k + 1 else R i)))
def rm_X1_add : Room := { frames := 0, cells := 0, slots := 0, locals := 0 }
theorem rmc_X1_add : rm_X1_add.cells = 0 := rfl
theorem rms_X1_add : rm_X1_add.slots = 0 := rfl
theorem ct_X1_add (l : Launch) (htr : l.stackTraces = false) : am_Ct l yX1_add (am_ws yX1_add cX1_add 2 none) rm_X1_add sp_X1_add := sorry
def sp_X7_paint : am_S := fun as n E K => ∃ (b : Nat) (σ : am_St) (p : Int32) (c : Int32), as = [.ref b, .int p, .int c] ∧ am_HS b E σ ∧ am_api b n E K (q_paint σ p c)
def rm_X7_paint : Room := { frames := 7, cells := 2, slots := 12, locals := 102 }
theorem rmc_X7_paint : rm_X7_paint.cells = 2 := rfl
theorem rms_X7_paint : rm_X7_paint.slots = 12 := rfl
theorem ct_X7_paint (l : Launch) (htr : l.stackTraces = false) : am_Ct l yX7_paint (am_ws yX7_paint cX7_paint 5 (some .int)) rm_X7_paint sp_X7_paint := sorry
def sp_L_paint : am_S := fun as n E K => ∃ (b : Nat) (σ : am_St) (p : Int32) (c : Int32) (o : Nat) (g : Nat → Int64), as = [.ref b, .int p, .int c, .ref o] ∧ am_HS b E σ ∧ (o < b ∨ b + 214 ≤ o) ∧ E o = some (.inl (1, 1, .inr (.inl g))) ∧ am_wr b o n E K L_OAUS (q_paint σ p c)
def rm_L_paint : Room := { frames := 8, cells := 2, slots := 12, locals := 126 }
theorem rmc_L_paint : rm_L_paint.cells = 2 := rfl
theorem rms_L_paint : rm_L_paint.slots = 12 := rfl
def bk_L_paint_0 (K : am_P) (G : Nat → am_C) : am_C := o_aload 3 <| o_pi 0 <| o_aload 0 <| o_iload 1 <| o_iload 2 <| o_callV 7 3 sp_X7_paint rm_X7_paint rm_L_paint (am_hdl [("java/lang/IndexOutOfBoundsException", 1), ("java/lang/IllegalArgumentException", 2), ("java/lang/UnsupportedOperationException", 3), ("java/lang/IllegalStateException", 4)] K) <| o_i2l <| o_lst <| o_pi 0 <| o_iret .int K
def cl_L_paint (K : am_P) (G : Nat → am_C) : Prop := am_imp (bk_L_paint_0 K G) (G 0)
theorem f_L_paint (K : am_P) (G : Nat → am_C) (hC : cl_L_paint K G) (as : List Value) (n : Nat) (E : am_E) (hS : sp_L_paint as n E K) : (am_sl as).length ≤ 5 ∧ G 0 (am_inl 5 as) [] n E 0 0 := by
  obtain ⟨b, σ, p, c, o, g, rfl, ⟨τ, w, u, h⟩, ho, hEo, hK⟩ := hS
  refine ⟨by simp [am_sl, Value.category], ?_⟩
  have h0 : E b = some (.inr (7, [.ref (b + 1), .ref (b + 3), .ref (b + 4), .ref (b + 5), .int (nI (σ 15 0 0)), .int (nI (σ 15 8 0)), .int (nI (σ 15 6 0)), .int (nI (σ 15 4 0)), .int (nI (σ 15 5 0)), .int (nI (σ 15 3 0)), .int (nI (σ 15 7 0)), .ref (b + 6), .ref (b + 9), .ref (b + 12), .ref (b + 15), .ref (b + 16)])) := hs_hall h
  have hw1 : E (b + 1) = some (.inr (5, [.ref (b + 2)])) := hs_t h 1 (by decide)
  have hp3 := hs_panes h
  have hs4 := hs_sheets h
  have hf5 : E (b + 5) = some (.inr (0, [.int (nI (am_bn (st_b σ) 12)), .int (nI (σ 15 1 0)), .int (nI (σ 15 2 0))])) := hs_t h 5 (by decide)
  have h6 : E (b + 6) = some (.inr (3, [.ref (b + 7), .ref (b + 8)])) := hs_t h 6 (by decide)
  have h9 : E (b + 9) = some (.inr (3, [.ref (b + 10), .ref (b + 11)])) := hs_t h 9 (by decide)
  have h12 : E (b + 12) = some (.inr (3, [.ref (b + 13), .ref (b + 14)])) := hs_t h 12 (by decide)
  have h15 := hs_wts h
  have h16 : E (b + 16) = some (.inr (6, [.ref (b + 17)])) := hs_t h 16 (by decide)
  apply hC
  simp only [bk_L_paint_0, o_pi, o_pl, o_pf, o_pd, o_iload, o_lload, o_fload, o_dload, o_aload, o_istore, o_lstore, o_fstore, o_dstore, o_astore, o_iinc, o_ib, o_ibz, o_lb, o_lbz, o_lsh, o_lcmp, o_ineg, o_i2l, o_l2i, o_i2c, o_i2f, o_i2d, o_f2d, o_fdiv, o_ddiv, o_fcmp, o_dcmp, o_dup, o_dup2, o_pop, o_if_eq, o_if_ne, o_if_lt, o_if_ge, o_if_gt, o_if_le, o_ic_eq, o_ic_ne, o_ic_lt, o_ic_ge, o_ic_gt, o_ic_le, o_if, o_ic, o_getf, o_putf, o_ild, o_ist, o_lld, o_lst, o_dld, o_dst, o_ald, o_alen, o_new, o_newa, o_ast, o_oinit, o_iret, o_lret, o_fret, o_dret, o_aret, o_vret, o_throw, o_call, o_callV, am_kc, am_noX, o_im, o_ia, o_gets, o_ldcK, o_getK, o_codK, o_lenK, o_bldK, o_i2b, o_callK, o_mna, o_clone, o_castA, am_s1, am_s2, am_kill, am_inl, am_sl, Value.category, List.getElem?_cons_zero, List.getElem?_cons_succ, List.set_cons_zero, List.set_cons_succ, List.length_cons, List.length_nil, List.take_succ_cons, List.take_zero, List.drop_succ_cons, List.drop_zero, List.reverse_cons, List.reverse_nil, List.nil_append, List.cons_append, List.append_nil, List.map_cons, List.map_nil, List.sum_cons, List.sum_nil, List.replicate_succ, List.replicate_zero, Nat.zero_add, Nat.add_zero, Nat.le_refl, Nat.zero_le, ite_true, ite_false, if_true, if_false, true_and, and_true, eq_self, not_true_eq_false, not_false_eq_true, am_nb0, am_nb1, am_ni, am_fi, am_fr, am_fra, am_fz0, am_fz1, am_fl, am_uE, am_vnI, am_uu, am_ltx, ite_not, Classical.not_not, reduceIte, reduceCtorEq, Nat.reduceEqDiff, Nat.reduceAdd, Nat.reduceSub, Nat.reduceMul, Nat.reduceLeDiff, Nat.reduceLT, Int32.reduceLE, Int32.reduceLT, am_10, am_01, am_ite0, am_ite1, ms_boT, ms_boF, rmc_L_paint, rms_L_paint, rmc_X7_paint, rms_X7_paint, h0, hw1, hp3, hs4, hf5, h6, h9, h12, h15, h16]
  refine ⟨b, σ, p, c, rfl, ⟨τ, w, u, h⟩, fun E' hE' hk => ?_⟩
  have hEo' : E' o = some (.inl (1, 1, .inr (.inl g))) := (hk o ho).trans hEo
  have v01 : vp_in 0 1 := vp_in_nI (n := 0) (by decide) (by decide)
  have c0 : Int32.toNatClampNeg 0 = 0 := rfl
  have hok := ok9_paint σ p c
  generalize q_paint σ p c = rr at hK hE' hok ⊢
  rcases hok with ⟨v, σ', hv, rfl⟩ | ⟨C, σ', hC9, rfl⟩
  · show am_kc _ _ _ _ _ _ (.inl (some (.int v))) n E'
    simp only [bk_L_paint_0, o_pi, o_pl, o_pf, o_pd, o_iload, o_lload, o_fload, o_dload, o_aload, o_istore, o_lstore, o_fstore, o_dstore, o_astore, o_iinc, o_ib, o_ibz, o_lb, o_lbz, o_lsh, o_lcmp, o_ineg, o_i2l, o_l2i, o_i2c, o_i2f, o_i2d, o_f2d, o_fdiv, o_ddiv, o_fcmp, o_dcmp, o_dup, o_dup2, o_pop, o_if_eq, o_if_ne, o_if_lt, o_if_ge, o_if_gt, o_if_le, o_ic_eq, o_ic_ne, o_ic_lt, o_ic_ge, o_ic_gt, o_ic_le, o_if, o_ic, o_getf, o_putf, o_ild, o_ist, o_lld, o_lst, o_dld, o_dst, o_ald, o_alen, o_new, o_newa, o_ast, o_oinit, o_iret, o_lret, o_fret, o_dret, o_aret, o_vret, o_throw, o_call, o_callV, am_kc, am_noX, o_im, o_ia, o_gets, o_ldcK, o_getK, o_codK, o_lenK, o_bldK, o_i2b, o_callK, o_mna, o_clone, o_castA, am_s1, am_s2, am_kill, am_inl, am_sl, Value.category, List.getElem?_cons_zero, List.getElem?_cons_succ, List.set_cons_zero, List.set_cons_succ, List.length_cons, List.length_nil, List.take_succ_cons, List.take_zero, List.drop_succ_cons, List.drop_zero, List.reverse_cons, List.reverse_nil, List.nil_append, List.cons_append, List.append_nil, List.map_cons, List.map_nil, List.sum_cons, List.sum_nil, List.replicate_succ, List.replicate_zero, Nat.zero_add, Nat.add_zero, Nat.le_refl, Nat.zero_le, ite_true, ite_false, if_true, if_false, true_and, and_true, eq_self, not_true_eq_false, not_false_eq_true, am_nb0, am_nb1, am_ni, am_fi, am_fr, am_fra, am_fz0, am_fz1, am_fl, am_uE, am_vnI, am_uu, am_ltx, ite_not, Classical.not_not, reduceIte, reduceCtorEq, Nat.reduceEqDiff, Nat.reduceAdd, Nat.reduceSub, Nat.reduceMul, Nat.reduceLeDiff, Nat.reduceLT, Int32.reduceLE, Int32.reduceLT, am_10, am_01, am_ite0, am_ite1, ms_boT, ms_boF, rmc_L_paint, rms_L_paint, rmc_X7_paint, rms_X7_paint, hEo', v01, c0]
    exact am_wr_i hK ho hE' hk
  · show ∃ q ∈ [(x_IO, (1 : Int32)), (x_IA, (2 : Int32)), (x_UO, (3 : Int32)), (x_IS, (4 : Int32))], q.1 = C ∧ K (.inl (some (.int q.2))) n E'
    have hC8 : C = x_IO ∨ C = x_IA ∨ C = x_UO ∨ C = x_IS := by simpa using hC9
    rcases hC8 with rfl | rfl | rfl | rfl
    · exact ⟨(x_IO, 1), by simp, rfl, am_wr_x hK th_OAUS_1 hEo' hE' hk⟩
    · exact ⟨(x_IA, 2), by simp, rfl, am_wr_x hK th_OAUS_2 hEo' hE' hk⟩
    · exact ⟨(x_UO, 3), by simp, rfl, am_wr_x hK th_OAUS_3 hEo' hE' hk⟩
    · exact ⟨(x_IS, 4), by simp, rfl, am_wr_x hK th_OAUS_4 hEo' hE' hk⟩
set_option maxRecDepth 100000 in
set_option maxHeartbeats 4000000 in
theorem sd_L_paint (X : am_X) (K : am_P) (F : am_F X cL_paint yL_paint.cls (some .int) (am_wsT yL_paint cL_paint 5 (some .int) [(0, 10, 13, 21), (0, 10, 17, 13), (0, 10, 21, 15), (0, 10, 25, 44)])) (FQ : am_FQ X K rm_L_paint.cells rm_L_paint.slots) (hR : am_Rm X rm_L_paint) (hT : am_T X [(0, 10, 13, 21), (0, 10, 17, 13), (0, 10, 21, 15), (0, 10, 25, 44)]) (hn : am_nL X = 5) : cl_L_paint K (am_G X) := by
  have ts : ∀ w ∈ am_WS, w ∈ am_wsT yL_paint cL_paint 5 (some .int) [(0, 10, 13, 21), (0, 10, 17, 13), (0, 10, 21, 15), (0, 10, 25, 44)] := fun w h => List.mem_cons_of_mem _ h
  exact ms_aload_n F (am_dk (q := (0, .aload_n 3, 1)) dk_L_paint_0 0 rfl) rfl (ms_iconst F (am_dk (q := (1, .iconst 0, 1)) dk_L_paint_0 1 rfl) (by decide +kernel) (ms_aload_n F (am_dk (q := (2, .aload_n 0, 1)) dk_L_paint_0 2 rfl) rfl (ms_iload_n F (am_dk (q := (3, .iload_n 1, 1)) dk_L_paint_0 3 rfl) rfl (ms_iload_n F (am_dk (q := (4, .iload_n 2, 1)) dk_L_paint_0 4 rfl) rfl (ms_callV F hR (ci := 7) (r9 := (RX7, TX7, 16)) (y := yX7_paint) (maxL := 5) (rm' := rm_X7_paint) (na := 2) ct_X7_paint wd_812 wd_1 wd_809 wd_810 wd_811 rfl (by decide +kernel) (by decide) (am_dk (q := (5, .invokevirtual 69, 3)) dk_L_paint_0 5 rfl) (ms_hdl_c (ms_cat F FQ hT (C := "java/lang/IndexOutOfBoundsException") (name := "java/lang/IndexOutOfBoundsException") [] ⟨0, 10, 13, 21⟩ [⟨0, 10, 17, 13⟩, ⟨0, 10, 21, 15⟩, ⟨0, 10, 25, 44⟩] rfl (fun _ h => absurd h List.not_mem_nil) (by decide) (by decide) (ts _ wd_503) wn_513 hn (by decide : 4 < 5) (Or.inr ⟨(am_dk (q := (13, .astore 4, 2)) dk_L_paint_0 9 rfl), rfl⟩) (am_dk (q := (15, .iconst 1, 1)) dk_L_paint_0 10 rfl) (by decide +kernel) (am_dk (q := (16, .ireturn, 1)) dk_L_paint_0 11 rfl) rfl) (ms_hdl_c (ms_cat F FQ hT (C := "java/lang/IllegalArgumentException") (name := "java/lang/IllegalArgumentException") [⟨0, 10, 13, 21⟩] ⟨0, 10, 17, 13⟩ [⟨0, 10, 21, 15⟩, ⟨0, 10, 25, 44⟩] rfl (List.forall_mem_cons.mpr ⟨⟨by decide, "java/lang/IndexOutOfBoundsException", ts _ wd_503, by decide +kernel⟩, (fun _ h => absurd h List.not_mem_nil)⟩) (by decide) (by decide) (ts _ wd_392) wn_404 hn (by decide : 4 < 5) (Or.inr ⟨(am_dk (q := (17, .astore 4, 2)) dk_L_paint_0 12 rfl), rfl⟩) (am_dk (q := (19, .iconst 2, 1)) dk_L_paint_0 13 rfl) (by decide +kernel) (am_dk (q := (20, .ireturn, 1)) dk_L_paint_0 14 rfl) rfl) (ms_hdl_c (ms_cat F FQ hT (C := "java/lang/UnsupportedOperationException") (name := "java/lang/UnsupportedOperationException") [⟨0, 10, 13, 21⟩, ⟨0, 10, 17, 13⟩] ⟨0, 10, 21, 15⟩ [⟨0, 10, 25, 44⟩] rfl (List.forall_mem_cons.mpr ⟨⟨by decide, "java/lang/IndexOutOfBoundsException", ts _ wd_503, by decide +kernel⟩, (List.forall_mem_cons.mpr ⟨⟨by decide, "java/lang/IllegalArgumentException", ts _ wd_392, by decide +kernel⟩, (fun _ h => absurd h List.not_mem_nil)⟩)⟩) (by decide) (by decide) (ts _ wd_393) wn_482 hn (by decide : 4 < 5) (Or.inr ⟨(am_dk (q := (21, .astore 4, 2)) dk_L_paint_0 15 rfl), rfl⟩) (am_dk (q := (23, .iconst 3, 1)) dk_L_paint_0 16 rfl) (by decide +kernel) (am_dk (q := (24, .ireturn, 1)) dk_L_paint_0 17 rfl) rfl) (ms_hdl_c (ms_cat F FQ hT (C := "java/lang/IllegalStateException") (name := "java/lang/IllegalStateException") [⟨0, 10, 13, 21⟩, ⟨0, 10, 17, 13⟩, ⟨0, 10, 21, 15⟩] ⟨0, 10, 25, 44⟩ [] rfl (List.forall_mem_cons.mpr ⟨⟨by decide, "java/lang/IndexOutOfBoundsException", ts _ wd_503, by decide +kernel⟩, (List.forall_mem_cons.mpr ⟨⟨by decide, "java/lang/IllegalArgumentException", ts _ wd_392, by decide +kernel⟩, (List.forall_mem_cons.mpr ⟨⟨by decide, "java/lang/UnsupportedOperationException", ts _ wd_393, by decide +kernel⟩, (fun _ h => absurd h List.not_mem_nil)⟩)⟩)⟩) (by decide) (by decide) (ts _ wd_609) wn_634 hn (by decide : 4 < 5) (Or.inr ⟨(am_dk (q := (25, .astore 4, 2)) dk_L_paint_0 18 rfl), rfl⟩) (am_dk (q := (27, .iconst 4, 1)) dk_L_paint_0 19 rfl) (by decide +kernel) (am_dk (q := (28, .ireturn, 1)) dk_L_paint_0 20 rfl) rfl) (ms_hdl_n _ _))))) (ms_i2l F (am_dk (q := (8, .i2l, 1)) dk_L_paint_0 6 rfl) (ms_lastore F (am_dk (q := (9, .lastore, 1)) dk_L_paint_0 7 rfl) (ms_goto F (tgt := 29) (am_dk (q := (10, .goto 19, 3)) dk_L_paint_0 8 rfl) (by decide) (ms_iconst F (am_dk (q := (29, .iconst 0, 1)) dk_L_paint_0 21 rfl) (by decide +kernel) (ms_iret F FQ rfl (am_dk (q := (30, .ireturn, 1)) dk_L_paint_0 22 rfl)))))))))))
theorem ct_L_paint (l : Launch) (htr : l.stackTraces = false) : am_Ct l yL_paint (am_wsT yL_paint cL_paint 5 (some .int) [(0, 10, 13, 21), (0, 10, 17, 13), (0, 10, 21, 15), (0, 10, 25, 44)]) rm_L_paint sp_L_paint := am_ofH htr (by decide) wd_808 (fun X K F FQ hR hT hn as n E hS => f_L_paint K (am_G X) (sd_L_paint X K F FQ hR hT hn) as n E hS)
def sp_X7_panesThatAre : am_S := fun as n E K => ∃ (b : Nat) (σ : am_St) (c : Nat), as = [.ref b, .int (nI c)] ∧ c < 2 ^ 31 ∧ am_HS b E σ ∧ K (.inl (some (.int (nI (am_bn (fun p => decide (σ 3 p 0 = c)) 30))))) n E
def rm_X7_panesThatAre : Room := { frames := 0, cells := 0, slots := 0, locals := 0 }
theorem rmc_X7_panesThatAre : rm_X7_panesThatAre.cells = 0 := rfl
theorem rms_X7_panesThatAre : rm_X7_panesThatAre.slots = 0 := rfl
theorem ct_X7_panesThatAre (l : Launch) (htr : l.stackTraces = false) : am_Ct l yX7_panesThatAre (am_ws yX7_panesThatAre cX7_panesThatAre 4 (some .int)) rm_X7_panesThatAre sp_X7_panesThatAre := sorry
def sp_X1_heat : am_S := fun as n E K => ∃ (t r f d : Nat) (R F : Nat → Nat), as = [.ref t, .int (nI d)] ∧ d ≤ 700 ∧ am_po E t r f R F ∧ (∀ k, 4 ≤ k → R k = 0 ∧ F k = 0) ∧ K (.inl (some (.int (nI (fb_sm (am_hN d R) 4))))) n (am_u (am_u E r (am_c4 (am_hR d R))) f (am_c4 (am_hF d R F)))
def rm_X1_heat : Room := { frames := 0, cells := 0, slots := 0, locals := 0 }
theorem rmc_X1_heat : rm_X1_heat.cells = 0 := rfl
theorem rms_X1_heat : rm_X1_heat.slots = 0 := rfl
theorem ct_X1_heat (l : Launch) (htr : l.stackTraces = false) : am_Ct l yX1_heat (am_ws yX1_heat cX1_heat 5 (some .int)) rm_X1_heat sp_X1_heat := sorry
def sp_X7_fire : am_S := fun as n E K => ∃ (b : Nat) (σ : am_St) (a : Nat) (d : Int32), a < 2 ^ 32 ∧ (∀ p, am_kept σ p ≤ 5) ∧ as = [.ref b, .int (nI a), .int d] ∧ am_HS b E σ ∧ am_api b n E K (q_fire σ a d)
def rm_X7_fire : Room := { frames := 6, cells := 1, slots := 6, locals := 82 }
theorem rmc_X7_fire : rm_X7_fire.cells = 1 := rfl
theorem rms_X7_fire : rm_X7_fire.slots = 6 := rfl
theorem ct_X7_fire (l : Launch) (htr : l.stackTraces = false) : am_Ct l yX7_fire (am_ws yX7_fire cX7_fire 5 (some .int)) rm_X7_fire sp_X7_fire := sorry
def sp_L_fire : am_S := fun as n E K => ∃ (b : Nat) (σ : am_St) (a : Nat) (d : Int32) (o : Nat) (g : Nat → Int64), a < 2 ^ 32 ∧ (∀ p, am_kept σ p ≤ 5) ∧ as = [.ref b, .int (nI a), .int d, .ref o] ∧ am_HS b E σ ∧ (o < b ∨ b + 214 ≤ o) ∧ E o = some (.inl (1, 1, .inr (.inl g))) ∧ am_wr b o n E K L_AU (q_fire σ a d)
def rm_L_fire : Room := { frames := 7, cells := 1, slots := 6, locals := 106 }
theorem rmc_L_fire : rm_L_fire.cells = 1 := rfl
theorem rms_L_fire : rm_L_fire.slots = 6 := rfl
def bk_L_fire_0 (K : am_P) (G : Nat → am_C) : am_C := o_aload 3 <| o_pi 0 <| o_aload 0 <| o_iload 1 <| o_iload 2 <| o_callV 7 3 sp_X7_fire rm_X7_fire rm_L_fire (am_hdl [("java/lang/IllegalArgumentException", 1), ("java/lang/UnsupportedOperationException", 2)] K) <| o_i2l <| o_lst <| o_pi 0 <| o_iret .int K
def cl_L_fire (K : am_P) (G : Nat → am_C) : Prop := am_imp (bk_L_fire_0 K G) (G 0)
theorem f_L_fire (K : am_P) (G : Nat → am_C) (hC : cl_L_fire K G) (as : List Value) (n : Nat) (E : am_E) (hS : sp_L_fire as n E K) : (am_sl as).length ≤ 5 ∧ G 0 (am_inl 5 as) [] n E 0 0 := by
  obtain ⟨b, σ, a, d, o, g, q0, q1, rfl, ⟨τ, w, u, h⟩, ho, hEo, hK⟩ := hS
  refine ⟨by simp [am_sl, Value.category], ?_⟩
  have h0 : E b = some (.inr (7, [.ref (b + 1), .ref (b + 3), .ref (b + 4), .ref (b + 5), .int (nI (σ 15 0 0)), .int (nI (σ 15 8 0)), .int (nI (σ 15 6 0)), .int (nI (σ 15 4 0)), .int (nI (σ 15 5 0)), .int (nI (σ 15 3 0)), .int (nI (σ 15 7 0)), .ref (b + 6), .ref (b + 9), .ref (b + 12), .ref (b + 15), .ref (b + 16)])) := hs_hall h
  have hw1 : E (b + 1) = some (.inr (5, [.ref (b + 2)])) := hs_t h 1 (by decide)
  have hp3 := hs_panes h
  have hs4 := hs_sheets h
  have hf5 : E (b + 5) = some (.inr (0, [.int (nI (am_bn (st_b σ) 12)), .int (nI (σ 15 1 0)), .int (nI (σ 15 2 0))])) := hs_t h 5 (by decide)
  have h6 : E (b + 6) = some (.inr (3, [.ref (b + 7), .ref (b + 8)])) := hs_t h 6 (by decide)
  have h9 : E (b + 9) = some (.inr (3, [.ref (b + 10), .ref (b + 11)])) := hs_t h 9 (by decide)
  have h12 : E (b + 12) = some (.inr (3, [.ref (b + 13), .ref (b + 14)])) := hs_t h 12 (by decide)
  have h15 := hs_wts h
  have h16 : E (b + 16) = some (.inr (6, [.ref (b + 17)])) := hs_t h 16 (by decide)
  apply hC
  simp only [bk_L_fire_0, o_pi, o_pl, o_pf, o_pd, o_iload, o_lload, o_fload, o_dload, o_aload, o_istore, o_lstore, o_fstore, o_dstore, o_astore, o_iinc, o_ib, o_ibz, o_lb, o_lbz, o_lsh, o_lcmp, o_ineg, o_i2l, o_l2i, o_i2c, o_i2f, o_i2d, o_f2d, o_fdiv, o_ddiv, o_fcmp, o_dcmp, o_dup, o_dup2, o_pop, o_if_eq, o_if_ne, o_if_lt, o_if_ge, o_if_gt, o_if_le, o_ic_eq, o_ic_ne, o_ic_lt, o_ic_ge, o_ic_gt, o_ic_le, o_if, o_ic, o_getf, o_putf, o_ild, o_ist, o_lld, o_lst, o_dld, o_dst, o_ald, o_alen, o_new, o_newa, o_ast, o_oinit, o_iret, o_lret, o_fret, o_dret, o_aret, o_vret, o_throw, o_call, o_callV, am_kc, am_noX, o_im, o_ia, o_gets, o_ldcK, o_getK, o_codK, o_lenK, o_bldK, o_i2b, o_callK, o_mna, o_clone, o_castA, am_s1, am_s2, am_kill, am_inl, am_sl, Value.category, List.getElem?_cons_zero, List.getElem?_cons_succ, List.set_cons_zero, List.set_cons_succ, List.length_cons, List.length_nil, List.take_succ_cons, List.take_zero, List.drop_succ_cons, List.drop_zero, List.reverse_cons, List.reverse_nil, List.nil_append, List.cons_append, List.append_nil, List.map_cons, List.map_nil, List.sum_cons, List.sum_nil, List.replicate_succ, List.replicate_zero, Nat.zero_add, Nat.add_zero, Nat.le_refl, Nat.zero_le, ite_true, ite_false, if_true, if_false, true_and, and_true, eq_self, not_true_eq_false, not_false_eq_true, am_nb0, am_nb1, am_ni, am_fi, am_fr, am_fra, am_fz0, am_fz1, am_fl, am_uE, am_vnI, am_uu, am_ltx, ite_not, Classical.not_not, reduceIte, reduceCtorEq, Nat.reduceEqDiff, Nat.reduceAdd, Nat.reduceSub, Nat.reduceMul, Nat.reduceLeDiff, Nat.reduceLT, Int32.reduceLE, Int32.reduceLT, am_10, am_01, am_ite0, am_ite1, ms_boT, ms_boF, rmc_L_fire, rms_L_fire, rmc_X7_fire, rms_X7_fire, h0, hw1, hp3, hs4, hf5, h6, h9, h12, h15, h16]
  refine ⟨b, σ, a, d, q0, q1, rfl, ⟨τ, w, u, h⟩, fun E' hE' hk => ?_⟩
  have hEo' : E' o = some (.inl (1, 1, .inr (.inl g))) := (hk o ho).trans hEo
  have v01 : vp_in 0 1 := vp_in_nI (n := 0) (by decide) (by decide)
  have c0 : Int32.toNatClampNeg 0 = 0 := rfl
  have hok := ok9_fire σ a d
  generalize q_fire σ a d = rr at hK hE' hok ⊢
  rcases hok with ⟨v, σ', hv, rfl⟩ | ⟨C, σ', hC9, rfl⟩
  · show am_kc _ _ _ _ _ _ (.inl (some (.int v))) n E'
    simp only [bk_L_fire_0, o_pi, o_pl, o_pf, o_pd, o_iload, o_lload, o_fload, o_dload, o_aload, o_istore, o_lstore, o_fstore, o_dstore, o_astore, o_iinc, o_ib, o_ibz, o_lb, o_lbz, o_lsh, o_lcmp, o_ineg, o_i2l, o_l2i, o_i2c, o_i2f, o_i2d, o_f2d, o_fdiv, o_ddiv, o_fcmp, o_dcmp, o_dup, o_dup2, o_pop, o_if_eq, o_if_ne, o_if_lt, o_if_ge, o_if_gt, o_if_le, o_ic_eq, o_ic_ne, o_ic_lt, o_ic_ge, o_ic_gt, o_ic_le, o_if, o_ic, o_getf, o_putf, o_ild, o_ist, o_lld, o_lst, o_dld, o_dst, o_ald, o_alen, o_new, o_newa, o_ast, o_oinit, o_iret, o_lret, o_fret, o_dret, o_aret, o_vret, o_throw, o_call, o_callV, am_kc, am_noX, o_im, o_ia, o_gets, o_ldcK, o_getK, o_codK, o_lenK, o_bldK, o_i2b, o_callK, o_mna, o_clone, o_castA, am_s1, am_s2, am_kill, am_inl, am_sl, Value.category, List.getElem?_cons_zero, List.getElem?_cons_succ, List.set_cons_zero, List.set_cons_succ, List.length_cons, List.length_nil, List.take_succ_cons, List.take_zero, List.drop_succ_cons, List.drop_zero, List.reverse_cons, List.reverse_nil, List.nil_append, List.cons_append, List.append_nil, List.map_cons, List.map_nil, List.sum_cons, List.sum_nil, List.replicate_succ, List.replicate_zero, Nat.zero_add, Nat.add_zero, Nat.le_refl, Nat.zero_le, ite_true, ite_false, if_true, if_false, true_and, and_true, eq_self, not_true_eq_false, not_false_eq_true, am_nb0, am_nb1, am_ni, am_fi, am_fr, am_fra, am_fz0, am_fz1, am_fl, am_uE, am_vnI, am_uu, am_ltx, ite_not, Classical.not_not, reduceIte, reduceCtorEq, Nat.reduceEqDiff, Nat.reduceAdd, Nat.reduceSub, Nat.reduceMul, Nat.reduceLeDiff, Nat.reduceLT, Int32.reduceLE, Int32.reduceLT, am_10, am_01, am_ite0, am_ite1, ms_boT, ms_boF, rmc_L_fire, rms_L_fire, rmc_X7_fire, rms_X7_fire, hEo', v01, c0]
    exact am_wr_i hK ho hE' hk
  · show ∃ q ∈ [(x_IA, (1 : Int32)), (x_UO, (2 : Int32))], q.1 = C ∧ K (.inl (some (.int q.2))) n E'
    have hC8 : C = x_IA ∨ C = x_UO := by simpa using hC9
    rcases hC8 with rfl | rfl
    · exact ⟨(x_IA, 1), by simp, rfl, am_wr_x hK th_AU_1 hEo' hE' hk⟩
    · exact ⟨(x_UO, 2), by simp, rfl, am_wr_x hK th_AU_2 hEo' hE' hk⟩
set_option maxRecDepth 100000 in
set_option maxHeartbeats 4000000 in
theorem sd_L_fire (X : am_X) (K : am_P) (F : am_F X cL_fire yL_fire.cls (some .int) (am_wsT yL_fire cL_fire 5 (some .int) [(0, 10, 13, 13), (0, 10, 17, 15)])) (FQ : am_FQ X K rm_L_fire.cells rm_L_fire.slots) (hR : am_Rm X rm_L_fire) (hT : am_T X [(0, 10, 13, 13), (0, 10, 17, 15)]) (hn : am_nL X = 5) : cl_L_fire K (am_G X) := by
  have ts : ∀ w ∈ am_WS, w ∈ am_wsT yL_fire cL_fire 5 (some .int) [(0, 10, 13, 13), (0, 10, 17, 15)] := fun w h => List.mem_cons_of_mem _ h
  exact ms_aload_n F (am_dk (q := (0, .aload_n 3, 1)) dk_L_fire_0 0 rfl) rfl (ms_iconst F (am_dk (q := (1, .iconst 0, 1)) dk_L_fire_0 1 rfl) (by decide +kernel) (ms_aload_n F (am_dk (q := (2, .aload_n 0, 1)) dk_L_fire_0 2 rfl) rfl (ms_iload_n F (am_dk (q := (3, .iload_n 1, 1)) dk_L_fire_0 3 rfl) rfl (ms_iload_n F (am_dk (q := (4, .iload_n 2, 1)) dk_L_fire_0 4 rfl) rfl (ms_callV F hR (ci := 7) (r9 := (RX7, TX7, 16)) (y := yX7_fire) (maxL := 5) (rm' := rm_X7_fire) (na := 2) ct_X7_fire wd_841 wd_1 wd_838 wd_839 wd_840 rfl (by decide +kernel) (by decide) (am_dk (q := (5, .invokevirtual 73, 3)) dk_L_fire_0 5 rfl) (ms_hdl_c (ms_cat F FQ hT (C := "java/lang/IllegalArgumentException") (name := "java/lang/IllegalArgumentException") [] ⟨0, 10, 13, 13⟩ [⟨0, 10, 17, 15⟩] rfl (fun _ h => absurd h List.not_mem_nil) (by decide) (by decide) (ts _ wd_392) wn_404 hn (by decide : 4 < 5) (Or.inr ⟨(am_dk (q := (13, .astore 4, 2)) dk_L_fire_0 9 rfl), rfl⟩) (am_dk (q := (15, .iconst 1, 1)) dk_L_fire_0 10 rfl) (by decide +kernel) (am_dk (q := (16, .ireturn, 1)) dk_L_fire_0 11 rfl) rfl) (ms_hdl_c (ms_cat F FQ hT (C := "java/lang/UnsupportedOperationException") (name := "java/lang/UnsupportedOperationException") [⟨0, 10, 13, 13⟩] ⟨0, 10, 17, 15⟩ [] rfl (List.forall_mem_cons.mpr ⟨⟨by decide, "java/lang/IllegalArgumentException", ts _ wd_392, by decide +kernel⟩, (fun _ h => absurd h List.not_mem_nil)⟩) (by decide) (by decide) (ts _ wd_393) wn_482 hn (by decide : 4 < 5) (Or.inr ⟨(am_dk (q := (17, .astore 4, 2)) dk_L_fire_0 12 rfl), rfl⟩) (am_dk (q := (19, .iconst 2, 1)) dk_L_fire_0 13 rfl) (by decide +kernel) (am_dk (q := (20, .ireturn, 1)) dk_L_fire_0 14 rfl) rfl) (ms_hdl_n _ _))) (ms_i2l F (am_dk (q := (8, .i2l, 1)) dk_L_fire_0 6 rfl) (ms_lastore F (am_dk (q := (9, .lastore, 1)) dk_L_fire_0 7 rfl) (ms_goto F (tgt := 21) (am_dk (q := (10, .goto 11, 3)) dk_L_fire_0 8 rfl) (by decide) (ms_iconst F (am_dk (q := (21, .iconst 0, 1)) dk_L_fire_0 15 rfl) (by decide +kernel) (ms_iret F FQ rfl (am_dk (q := (22, .ireturn, 1)) dk_L_fire_0 16 rfl)))))))))))
theorem ct_L_fire (l : Launch) (htr : l.stackTraces = false) : am_Ct l yL_fire (am_wsT yL_fire cL_fire 5 (some .int) [(0, 10, 13, 13), (0, 10, 17, 15)]) rm_L_fire sp_L_fire := am_ofH htr (by decide) wd_837 (fun X K F FQ hR hT hn as n E hS => f_L_fire K (am_G X) (sd_L_fire X K F FQ hR hT hn) as n E hS)
def sp_X5_bitOf : am_S := fun as n E K => ∃ (w : Int32) (p : Nat), as = [.int w, .int (nI p)] ∧ p < 30 ∧ am_wv w ∧ K (.inl (some (.int (nI (am_bn (am_btb w p) 31))))) n E
def rm_X5_bitOf : Room := { frames := 0, cells := 0, slots := 0, locals := 0 }
theorem rmc_X5_bitOf : rm_X5_bitOf.cells = 0 := rfl
theorem rms_X5_bitOf : rm_X5_bitOf.slots = 0 := rfl
theorem ct_X5_bitOf (l : Launch) (htr : l.stackTraces = false) : am_Ct l yX5_bitOf (am_ws yX5_bitOf cX5_bitOf 2 (some .int)) rm_X5_bitOf sp_X5_bitOf := sorry
def sp_X5_waitsInto : am_S := fun as n E K => ∃ (t c a : Nat) (f g : Nat → Int32), as = [.ref t, .ref a] ∧ c ≠ a ∧ am_wok f ∧ am_wl E t c f ∧ E a = some (.inl (0, 30, .inl g)) ∧ ∀ g' : Nat → Int32, (∀ p, p < 30 → g' p = nI (am_bn (am_wtb f 144 p) 31)) → K (.inl none) n (am_u E a (.inl (0, 30, .inl g')))
def rm_X5_waitsInto : Room := { frames := 2, cells := 0, slots := 0, locals := 43 }
theorem rmc_X5_waitsInto : rm_X5_waitsInto.cells = 0 := rfl
theorem rms_X5_waitsInto : rm_X5_waitsInto.slots = 0 := rfl
theorem ct_X5_waitsInto (l : Launch) (htr : l.stackTraces = false) : am_Ct l yX5_waitsInto (am_ws yX5_waitsInto cX5_waitsInto 5 none) rm_X5_waitsInto sp_X5_waitsInto := sorry
def sp_X7_lowestFreeOf : am_S := fun as n E K => ∃ (b a d : Nat) (σ : am_St) (g : Nat → Nat), as = [.ref b, .int (nI a), .int (nI d)] ∧ a < 2 ^ 31 ∧ d < 2 ^ 31 ∧ (∃ τ w u, am_HT b E σ τ w u ∧ ∀ p, p < 30 → w p = nI (g p) ∧ g p < 2 ^ 31) ∧ K (.inl (some (.int (if am_fst (fun p => a.testBit p && decide (am_dif (g p) d = 0)) 30 < 30 then nI (am_fst (fun p => a.testBit p && decide (am_dif (g p) d = 0)) 30) else -1)))) n E
def rm_X7_lowestFreeOf : Room := { frames := 0, cells := 0, slots := 0, locals := 0 }
theorem rmc_X7_lowestFreeOf : rm_X7_lowestFreeOf.cells = 0 := rfl
theorem rms_X7_lowestFreeOf : rm_X7_lowestFreeOf.slots = 0 := rfl
theorem ct_X7_lowestFreeOf (l : Launch) (htr : l.stackTraces = false) : am_Ct l yX7_lowestFreeOf (am_ws yX7_lowestFreeOf cX7_lowestFreeOf 4 (some .int)) rm_X7_lowestFreeOf sp_X7_lowestFreeOf := sorry
def sp_X7_requireNext : am_S := fun as n E K => ∃ (b : Nat) (σ : am_St), as = [.ref b] ∧ am_HS b E σ ∧ am_api b n E K (q_next σ)
def rm_X7_requireNext : Room := { frames := 6, cells := 1, slots := 6, locals := 82 }
theorem rmc_X7_requireNext : rm_X7_requireNext.cells = 1 := rfl
theorem rms_X7_requireNext : rm_X7_requireNext.slots = 6 := rfl
theorem ct_X7_requireNext (l : Launch) (htr : l.stackTraces = false) : am_Ct l yX7_requireNext (am_ws yX7_requireNext cX7_requireNext 3 (some .int)) rm_X7_requireNext sp_X7_requireNext := sorry
def sp_X7_next : am_S := fun as n E K => ∃ (b : Nat) (σ : am_St), as = [.ref b] ∧ am_HS b E σ ∧ am_api b n E K (q_next σ)
def rm_X7_next : Room := { frames := 7, cells := 1, slots := 6, locals := 104 }
theorem rmc_X7_next : rm_X7_next.cells = 1 := rfl
theorem rms_X7_next : rm_X7_next.slots = 6 := rfl
theorem ct_X7_next (l : Launch) (htr : l.stackTraces = false) : am_Ct l yX7_next (am_ws yX7_next cX7_next 1 (some .int)) rm_X7_next sp_X7_next := sorry
def sp_L_next : am_S := fun as n E K => ∃ (b : Nat) (σ : am_St)  (o : Nat) (g : Nat → Int64), as = [.ref b, .ref o] ∧ am_HS b E σ ∧ (o < b ∨ b + 214 ≤ o) ∧ E o = some (.inl (1, 1, .inr (.inl g))) ∧ am_wr b o n E K L_N (q_next σ)
def rm_L_next : Room := { frames := 8, cells := 1, slots := 6, locals := 124 }
theorem rmc_L_next : rm_L_next.cells = 1 := rfl
theorem rms_L_next : rm_L_next.slots = 6 := rfl
def bk_L_next_0 (K : am_P) (G : Nat → am_C) : am_C := o_aload 1 <| o_pi 0 <| o_aload 0 <| o_callV 7 1 sp_X7_next rm_X7_next rm_L_next (am_hdl [("java/util/NoSuchElementException", 1)] K) <| o_i2l <| o_lst <| o_pi 0 <| o_iret .int K
def cl_L_next (K : am_P) (G : Nat → am_C) : Prop := am_imp (bk_L_next_0 K G) (G 0)
theorem f_L_next (K : am_P) (G : Nat → am_C) (hC : cl_L_next K G) (as : List Value) (n : Nat) (E : am_E) (hS : sp_L_next as n E K) : (am_sl as).length ≤ 3 ∧ G 0 (am_inl 3 as) [] n E 0 0 := by
  obtain ⟨b, σ, o, g, rfl, ⟨τ, w, u, h⟩, ho, hEo, hK⟩ := hS
  refine ⟨by simp [am_sl, Value.category], ?_⟩
  have h0 : E b = some (.inr (7, [.ref (b + 1), .ref (b + 3), .ref (b + 4), .ref (b + 5), .int (nI (σ 15 0 0)), .int (nI (σ 15 8 0)), .int (nI (σ 15 6 0)), .int (nI (σ 15 4 0)), .int (nI (σ 15 5 0)), .int (nI (σ 15 3 0)), .int (nI (σ 15 7 0)), .ref (b + 6), .ref (b + 9), .ref (b + 12), .ref (b + 15), .ref (b + 16)])) := hs_hall h
  have hw1 : E (b + 1) = some (.inr (5, [.ref (b + 2)])) := hs_t h 1 (by decide)
  have hp3 := hs_panes h
  have hs4 := hs_sheets h
  have hf5 : E (b + 5) = some (.inr (0, [.int (nI (am_bn (st_b σ) 12)), .int (nI (σ 15 1 0)), .int (nI (σ 15 2 0))])) := hs_t h 5 (by decide)
  have h6 : E (b + 6) = some (.inr (3, [.ref (b + 7), .ref (b + 8)])) := hs_t h 6 (by decide)
  have h9 : E (b + 9) = some (.inr (3, [.ref (b + 10), .ref (b + 11)])) := hs_t h 9 (by decide)
  have h12 : E (b + 12) = some (.inr (3, [.ref (b + 13), .ref (b + 14)])) := hs_t h 12 (by decide)
  have h15 := hs_wts h
  have h16 : E (b + 16) = some (.inr (6, [.ref (b + 17)])) := hs_t h 16 (by decide)
  apply hC
  simp only [bk_L_next_0, o_pi, o_pl, o_pf, o_pd, o_iload, o_lload, o_fload, o_dload, o_aload, o_istore, o_lstore, o_fstore, o_dstore, o_astore, o_iinc, o_ib, o_ibz, o_lb, o_lbz, o_lsh, o_lcmp, o_ineg, o_i2l, o_l2i, o_i2c, o_i2f, o_i2d, o_f2d, o_fdiv, o_ddiv, o_fcmp, o_dcmp, o_dup, o_dup2, o_pop, o_if_eq, o_if_ne, o_if_lt, o_if_ge, o_if_gt, o_if_le, o_ic_eq, o_ic_ne, o_ic_lt, o_ic_ge, o_ic_gt, o_ic_le, o_if, o_ic, o_getf, o_putf, o_ild, o_ist, o_lld, o_lst, o_dld, o_dst, o_ald, o_alen, o_new, o_newa, o_ast, o_oinit, o_iret, o_lret, o_fret, o_dret, o_aret, o_vret, o_throw, o_call, o_callV, am_kc, am_noX, o_im, o_ia, o_gets, o_ldcK, o_getK, o_codK, o_lenK, o_bldK, o_i2b, o_callK, o_mna, o_clone, o_castA, am_s1, am_s2, am_kill, am_inl, am_sl, Value.category, List.getElem?_cons_zero, List.getElem?_cons_succ, List.set_cons_zero, List.set_cons_succ, List.length_cons, List.length_nil, List.take_succ_cons, List.take_zero, List.drop_succ_cons, List.drop_zero, List.reverse_cons, List.reverse_nil, List.nil_append, List.cons_append, List.append_nil, List.map_cons, List.map_nil, List.sum_cons, List.sum_nil, List.replicate_succ, List.replicate_zero, Nat.zero_add, Nat.add_zero, Nat.le_refl, Nat.zero_le, ite_true, ite_false, if_true, if_false, true_and, and_true, eq_self, not_true_eq_false, not_false_eq_true, am_nb0, am_nb1, am_ni, am_fi, am_fr, am_fra, am_fz0, am_fz1, am_fl, am_uE, am_vnI, am_uu, am_ltx, ite_not, Classical.not_not, reduceIte, reduceCtorEq, Nat.reduceEqDiff, Nat.reduceAdd, Nat.reduceSub, Nat.reduceMul, Nat.reduceLeDiff, Nat.reduceLT, Int32.reduceLE, Int32.reduceLT, am_10, am_01, am_ite0, am_ite1, ms_boT, ms_boF, rmc_L_next, rms_L_next, rmc_X7_next, rms_X7_next, h0, hw1, hp3, hs4, hf5, h6, h9, h12, h15, h16]
  refine ⟨b, σ, rfl, ⟨τ, w, u, h⟩, fun E' hE' hk => ?_⟩
  have hEo' : E' o = some (.inl (1, 1, .inr (.inl g))) := (hk o ho).trans hEo
  have v01 : vp_in 0 1 := vp_in_nI (n := 0) (by decide) (by decide)
  have c0 : Int32.toNatClampNeg 0 = 0 := rfl
  have hok := ok9_next σ 
  generalize q_next σ = rr at hK hE' hok ⊢
  rcases hok with ⟨v, σ', hv, rfl⟩ | ⟨C, σ', hC9, rfl⟩
  · show am_kc _ _ _ _ _ _ (.inl (some (.int v))) n E'
    simp only [bk_L_next_0, o_pi, o_pl, o_pf, o_pd, o_iload, o_lload, o_fload, o_dload, o_aload, o_istore, o_lstore, o_fstore, o_dstore, o_astore, o_iinc, o_ib, o_ibz, o_lb, o_lbz, o_lsh, o_lcmp, o_ineg, o_i2l, o_l2i, o_i2c, o_i2f, o_i2d, o_f2d, o_fdiv, o_ddiv, o_fcmp, o_dcmp, o_dup, o_dup2, o_pop, o_if_eq, o_if_ne, o_if_lt, o_if_ge, o_if_gt, o_if_le, o_ic_eq, o_ic_ne, o_ic_lt, o_ic_ge, o_ic_gt, o_ic_le, o_if, o_ic, o_getf, o_putf, o_ild, o_ist, o_lld, o_lst, o_dld, o_dst, o_ald, o_alen, o_new, o_newa, o_ast, o_oinit, o_iret, o_lret, o_fret, o_dret, o_aret, o_vret, o_throw, o_call, o_callV, am_kc, am_noX, o_im, o_ia, o_gets, o_ldcK, o_getK, o_codK, o_lenK, o_bldK, o_i2b, o_callK, o_mna, o_clone, o_castA, am_s1, am_s2, am_kill, am_inl, am_sl, Value.category, List.getElem?_cons_zero, List.getElem?_cons_succ, List.set_cons_zero, List.set_cons_succ, List.length_cons, List.length_nil, List.take_succ_cons, List.take_zero, List.drop_succ_cons, List.drop_zero, List.reverse_cons, List.reverse_nil, List.nil_append, List.cons_append, List.append_nil, List.map_cons, List.map_nil, List.sum_cons, List.sum_nil, List.replicate_succ, List.replicate_zero, Nat.zero_add, Nat.add_zero, Nat.le_refl, Nat.zero_le, ite_true, ite_false, if_true, if_false, true_and, and_true, eq_self, not_true_eq_false, not_false_eq_true, am_nb0, am_nb1, am_ni, am_fi, am_fr, am_fra, am_fz0, am_fz1, am_fl, am_uE, am_vnI, am_uu, am_ltx, ite_not, Classical.not_not, reduceIte, reduceCtorEq, Nat.reduceEqDiff, Nat.reduceAdd, Nat.reduceSub, Nat.reduceMul, Nat.reduceLeDiff, Nat.reduceLT, Int32.reduceLE, Int32.reduceLT, am_10, am_01, am_ite0, am_ite1, ms_boT, ms_boF, rmc_L_next, rms_L_next, rmc_X7_next, rms_X7_next, hEo', v01, c0]
    exact am_wr_i hK ho hE' hk
  · show ∃ q ∈ [(x_NE, (1 : Int32))], q.1 = C ∧ K (.inl (some (.int q.2))) n E'
    have hC8 : C = x_NE := by simpa using hC9
    rcases hC8 with rfl
    exact ⟨(x_NE, 1), by simp, rfl, am_wr_x hK th_N_1 hEo' hE' hk⟩
set_option maxRecDepth 100000 in
set_option maxHeartbeats 4000000 in
theorem sd_L_next (X : am_X) (K : am_P) (F : am_F X cL_next yL_next.cls (some .int) (am_wsT yL_next cL_next 3 (some .int) [(0, 8, 11, 67)])) (FQ : am_FQ X K rm_L_next.cells rm_L_next.slots) (hR : am_Rm X rm_L_next) (hT : am_T X [(0, 8, 11, 67)]) (hn : am_nL X = 3) : cl_L_next K (am_G X) := by
  have ts : ∀ w ∈ am_WS, w ∈ am_wsT yL_next cL_next 3 (some .int) [(0, 8, 11, 67)] := fun w h => List.mem_cons_of_mem _ h
  exact ms_aload_n F (am_dk (q := (0, .aload_n 1, 1)) dk_L_next_0 0 rfl) rfl (ms_iconst F (am_dk (q := (1, .iconst 0, 1)) dk_L_next_0 1 rfl) (by decide +kernel) (ms_aload_n F (am_dk (q := (2, .aload_n 0, 1)) dk_L_next_0 2 rfl) rfl (ms_callV F hR (ci := 7) (r9 := (RX7, TX7, 16)) (y := yX7_next) (maxL := 1) (rm' := rm_X7_next) (na := 0) ct_X7_next wd_874 wd_1 wd_871 wd_872 wd_873 rfl (by decide +kernel) (by decide) (am_dk (q := (3, .invokevirtual 82, 3)) dk_L_next_0 3 rfl) (ms_hdl_c (ms_cat F FQ hT (C := "java/util/NoSuchElementException") (name := "java/util/NoSuchElementException") [] ⟨0, 8, 11, 67⟩ [] rfl (fun _ h => absurd h List.not_mem_nil) (by decide) (by decide) (ts _ wd_781) wn_792 hn (by decide : 2 < 3) (Or.inl ⟨2, rfl, (am_dk (q := (11, .astore_n 2, 1)) dk_L_next_0 7 rfl), rfl⟩) (am_dk (q := (12, .iconst 1, 1)) dk_L_next_0 8 rfl) (by decide +kernel) (am_dk (q := (13, .ireturn, 1)) dk_L_next_0 9 rfl) rfl) (ms_hdl_n _ _)) (ms_i2l F (am_dk (q := (6, .i2l, 1)) dk_L_next_0 4 rfl) (ms_lastore F (am_dk (q := (7, .lastore, 1)) dk_L_next_0 5 rfl) (ms_goto F (tgt := 14) (am_dk (q := (8, .goto 6, 3)) dk_L_next_0 6 rfl) (by decide) (ms_iconst F (am_dk (q := (14, .iconst 0, 1)) dk_L_next_0 10 rfl) (by decide +kernel) (ms_iret F FQ rfl (am_dk (q := (15, .ireturn, 1)) dk_L_next_0 11 rfl)))))))))
theorem ct_L_next (l : Launch) (htr : l.stackTraces = false) : am_Ct l yL_next (am_wsT yL_next cL_next 3 (some .int) [(0, 8, 11, 67)]) rm_L_next sp_L_next := am_ofH htr (by decide) wd_870 (fun X K F FQ hR hT hn as n E hS => f_L_next K (am_G X) (sd_L_next X K F FQ hR hT hn) as n E hS)
def sp_X7_comes : am_S := fun as n E K => ∃ (b : Nat) (σ : am_St), as = [.ref b] ∧ am_HS b E σ ∧ am_api b n E K (q_comes σ)
def rm_X7_comes : Room := { frames := 7, cells := 1, slots := 6, locals := 104 }
theorem rmc_X7_comes : rm_X7_comes.cells = 1 := rfl
theorem rms_X7_comes : rm_X7_comes.slots = 6 := rfl
theorem ct_X7_comes (l : Launch) (htr : l.stackTraces = false) : am_Ct l yX7_comes (am_ws yX7_comes cX7_comes 2 (some .int)) rm_X7_comes sp_X7_comes := sorry
def sp_L_comes : am_S := fun as n E K => ∃ (b : Nat) (σ : am_St)  (o : Nat) (g : Nat → Int64), as = [.ref b, .ref o] ∧ am_HS b E σ ∧ (o < b ∨ b + 214 ≤ o) ∧ E o = some (.inl (1, 1, .inr (.inl g))) ∧ am_wr b o n E K L_N (q_comes σ)
def rm_L_comes : Room := { frames := 8, cells := 1, slots := 6, locals := 125 }
theorem rmc_L_comes : rm_L_comes.cells = 1 := rfl
theorem rms_L_comes : rm_L_comes.slots = 6 := rfl
def bk_L_comes_0 (K : am_P) (G : Nat → am_C) : am_C := o_aload 1 <| o_pi 0 <| o_aload 0 <| o_callV 7 1 sp_X7_comes rm_X7_comes rm_L_comes (am_hdl [("java/util/NoSuchElementException", 1)] K) <| o_i2l <| o_lst <| o_pi 0 <| o_iret .int K
def cl_L_comes (K : am_P) (G : Nat → am_C) : Prop := am_imp (bk_L_comes_0 K G) (G 0)
theorem f_L_comes (K : am_P) (G : Nat → am_C) (hC : cl_L_comes K G) (as : List Value) (n : Nat) (E : am_E) (hS : sp_L_comes as n E K) : (am_sl as).length ≤ 3 ∧ G 0 (am_inl 3 as) [] n E 0 0 := by
  obtain ⟨b, σ, o, g, rfl, ⟨τ, w, u, h⟩, ho, hEo, hK⟩ := hS
  refine ⟨by simp [am_sl, Value.category], ?_⟩
  have h0 : E b = some (.inr (7, [.ref (b + 1), .ref (b + 3), .ref (b + 4), .ref (b + 5), .int (nI (σ 15 0 0)), .int (nI (σ 15 8 0)), .int (nI (σ 15 6 0)), .int (nI (σ 15 4 0)), .int (nI (σ 15 5 0)), .int (nI (σ 15 3 0)), .int (nI (σ 15 7 0)), .ref (b + 6), .ref (b + 9), .ref (b + 12), .ref (b + 15), .ref (b + 16)])) := hs_hall h
  have hw1 : E (b + 1) = some (.inr (5, [.ref (b + 2)])) := hs_t h 1 (by decide)
  have hp3 := hs_panes h
  have hs4 := hs_sheets h
  have hf5 : E (b + 5) = some (.inr (0, [.int (nI (am_bn (st_b σ) 12)), .int (nI (σ 15 1 0)), .int (nI (σ 15 2 0))])) := hs_t h 5 (by decide)
  have h6 : E (b + 6) = some (.inr (3, [.ref (b + 7), .ref (b + 8)])) := hs_t h 6 (by decide)
  have h9 : E (b + 9) = some (.inr (3, [.ref (b + 10), .ref (b + 11)])) := hs_t h 9 (by decide)
  have h12 : E (b + 12) = some (.inr (3, [.ref (b + 13), .ref (b + 14)])) := hs_t h 12 (by decide)
  have h15 := hs_wts h
  have h16 : E (b + 16) = some (.inr (6, [.ref (b + 17)])) := hs_t h 16 (by decide)
  apply hC
  simp only [bk_L_comes_0, o_pi, o_pl, o_pf, o_pd, o_iload, o_lload, o_fload, o_dload, o_aload, o_istore, o_lstore, o_fstore, o_dstore, o_astore, o_iinc, o_ib, o_ibz, o_lb, o_lbz, o_lsh, o_lcmp, o_ineg, o_i2l, o_l2i, o_i2c, o_i2f, o_i2d, o_f2d, o_fdiv, o_ddiv, o_fcmp, o_dcmp, o_dup, o_dup2, o_pop, o_if_eq, o_if_ne, o_if_lt, o_if_ge, o_if_gt, o_if_le, o_ic_eq, o_ic_ne, o_ic_lt, o_ic_ge, o_ic_gt, o_ic_le, o_if, o_ic, o_getf, o_putf, o_ild, o_ist, o_lld, o_lst, o_dld, o_dst, o_ald, o_alen, o_new, o_newa, o_ast, o_oinit, o_iret, o_lret, o_fret, o_dret, o_aret, o_vret, o_throw, o_call, o_callV, am_kc, am_noX, o_im, o_ia, o_gets, o_ldcK, o_getK, o_codK, o_lenK, o_bldK, o_i2b, o_callK, o_mna, o_clone, o_castA, am_s1, am_s2, am_kill, am_inl, am_sl, Value.category, List.getElem?_cons_zero, List.getElem?_cons_succ, List.set_cons_zero, List.set_cons_succ, List.length_cons, List.length_nil, List.take_succ_cons, List.take_zero, List.drop_succ_cons, List.drop_zero, List.reverse_cons, List.reverse_nil, List.nil_append, List.cons_append, List.append_nil, List.map_cons, List.map_nil, List.sum_cons, List.sum_nil, List.replicate_succ, List.replicate_zero, Nat.zero_add, Nat.add_zero, Nat.le_refl, Nat.zero_le, ite_true, ite_false, if_true, if_false, true_and, and_true, eq_self, not_true_eq_false, not_false_eq_true, am_nb0, am_nb1, am_ni, am_fi, am_fr, am_fra, am_fz0, am_fz1, am_fl, am_uE, am_vnI, am_uu, am_ltx, ite_not, Classical.not_not, reduceIte, reduceCtorEq, Nat.reduceEqDiff, Nat.reduceAdd, Nat.reduceSub, Nat.reduceMul, Nat.reduceLeDiff, Nat.reduceLT, Int32.reduceLE, Int32.reduceLT, am_10, am_01, am_ite0, am_ite1, ms_boT, ms_boF, rmc_L_comes, rms_L_comes, rmc_X7_comes, rms_X7_comes, h0, hw1, hp3, hs4, hf5, h6, h9, h12, h15, h16]
  refine ⟨b, σ, rfl, ⟨τ, w, u, h⟩, fun E' hE' hk => ?_⟩
  have hEo' : E' o = some (.inl (1, 1, .inr (.inl g))) := (hk o ho).trans hEo
  have v01 : vp_in 0 1 := vp_in_nI (n := 0) (by decide) (by decide)
  have c0 : Int32.toNatClampNeg 0 = 0 := rfl
  have hok := ok9_comes σ 
  generalize q_comes σ = rr at hK hE' hok ⊢
  rcases hok with ⟨v, σ', hv, rfl⟩ | ⟨C, σ', hC9, rfl⟩
  · show am_kc _ _ _ _ _ _ (.inl (some (.int v))) n E'
    simp only [bk_L_comes_0, o_pi, o_pl, o_pf, o_pd, o_iload, o_lload, o_fload, o_dload, o_aload, o_istore, o_lstore, o_fstore, o_dstore, o_astore, o_iinc, o_ib, o_ibz, o_lb, o_lbz, o_lsh, o_lcmp, o_ineg, o_i2l, o_l2i, o_i2c, o_i2f, o_i2d, o_f2d, o_fdiv, o_ddiv, o_fcmp, o_dcmp, o_dup, o_dup2, o_pop, o_if_eq, o_if_ne, o_if_lt, o_if_ge, o_if_gt, o_if_le, o_ic_eq, o_ic_ne, o_ic_lt, o_ic_ge, o_ic_gt, o_ic_le, o_if, o_ic, o_getf, o_putf, o_ild, o_ist, o_lld, o_lst, o_dld, o_dst, o_ald, o_alen, o_new, o_newa, o_ast, o_oinit, o_iret, o_lret, o_fret, o_dret, o_aret, o_vret, o_throw, o_call, o_callV, am_kc, am_noX, o_im, o_ia, o_gets, o_ldcK, o_getK, o_codK, o_lenK, o_bldK, o_i2b, o_callK, o_mna, o_clone, o_castA, am_s1, am_s2, am_kill, am_inl, am_sl, Value.category, List.getElem?_cons_zero, List.getElem?_cons_succ, List.set_cons_zero, List.set_cons_succ, List.length_cons, List.length_nil, List.take_succ_cons, List.take_zero, List.drop_succ_cons, List.drop_zero, List.reverse_cons, List.reverse_nil, List.nil_append, List.cons_append, List.append_nil, List.map_cons, List.map_nil, List.sum_cons, List.sum_nil, List.replicate_succ, List.replicate_zero, Nat.zero_add, Nat.add_zero, Nat.le_refl, Nat.zero_le, ite_true, ite_false, if_true, if_false, true_and, and_true, eq_self, not_true_eq_false, not_false_eq_true, am_nb0, am_nb1, am_ni, am_fi, am_fr, am_fra, am_fz0, am_fz1, am_fl, am_uE, am_vnI, am_uu, am_ltx, ite_not, Classical.not_not, reduceIte, reduceCtorEq, Nat.reduceEqDiff, Nat.reduceAdd, Nat.reduceSub, Nat.reduceMul, Nat.reduceLeDiff, Nat.reduceLT, Int32.reduceLE, Int32.reduceLT, am_10, am_01, am_ite0, am_ite1, ms_boT, ms_boF, rmc_L_comes, rms_L_comes, rmc_X7_comes, rms_X7_comes, hEo', v01, c0]
    exact am_wr_i hK ho hE' hk
  · show ∃ q ∈ [(x_NE, (1 : Int32))], q.1 = C ∧ K (.inl (some (.int q.2))) n E'
    have hC8 : C = x_NE := by simpa using hC9
    rcases hC8 with rfl
    exact ⟨(x_NE, 1), by simp, rfl, am_wr_x hK th_N_1 hEo' hE' hk⟩
set_option maxRecDepth 100000 in
set_option maxHeartbeats 4000000 in
theorem sd_L_comes (X : am_X) (K : am_P) (F : am_F X cL_comes yL_comes.cls (some .int) (am_wsT yL_comes cL_comes 3 (some .int) [(0, 8, 11, 67)])) (FQ : am_FQ X K rm_L_comes.cells rm_L_comes.slots) (hR : am_Rm X rm_L_comes) (hT : am_T X [(0, 8, 11, 67)]) (hn : am_nL X = 3) : cl_L_comes K (am_G X) := by
  have ts : ∀ w ∈ am_WS, w ∈ am_wsT yL_comes cL_comes 3 (some .int) [(0, 8, 11, 67)] := fun w h => List.mem_cons_of_mem _ h
  exact ms_aload_n F (am_dk (q := (0, .aload_n 1, 1)) dk_L_comes_0 0 rfl) rfl (ms_iconst F (am_dk (q := (1, .iconst 0, 1)) dk_L_comes_0 1 rfl) (by decide +kernel) (ms_aload_n F (am_dk (q := (2, .aload_n 0, 1)) dk_L_comes_0 2 rfl) rfl (ms_callV F hR (ci := 7) (r9 := (RX7, TX7, 16)) (y := yX7_comes) (maxL := 2) (rm' := rm_X7_comes) (na := 0) ct_X7_comes wd_886 wd_1 wd_883 wd_884 wd_885 rfl (by decide +kernel) (by decide) (am_dk (q := (3, .invokevirtual 86, 3)) dk_L_comes_0 3 rfl) (ms_hdl_c (ms_cat F FQ hT (C := "java/util/NoSuchElementException") (name := "java/util/NoSuchElementException") [] ⟨0, 8, 11, 67⟩ [] rfl (fun _ h => absurd h List.not_mem_nil) (by decide) (by decide) (ts _ wd_781) wn_792 hn (by decide : 2 < 3) (Or.inl ⟨2, rfl, (am_dk (q := (11, .astore_n 2, 1)) dk_L_comes_0 7 rfl), rfl⟩) (am_dk (q := (12, .iconst 1, 1)) dk_L_comes_0 8 rfl) (by decide +kernel) (am_dk (q := (13, .ireturn, 1)) dk_L_comes_0 9 rfl) rfl) (ms_hdl_n _ _)) (ms_i2l F (am_dk (q := (6, .i2l, 1)) dk_L_comes_0 4 rfl) (ms_lastore F (am_dk (q := (7, .lastore, 1)) dk_L_comes_0 5 rfl) (ms_goto F (tgt := 14) (am_dk (q := (8, .goto 6, 3)) dk_L_comes_0 6 rfl) (by decide) (ms_iconst F (am_dk (q := (14, .iconst 0, 1)) dk_L_comes_0 10 rfl) (by decide +kernel) (ms_iret F FQ rfl (am_dk (q := (15, .ireturn, 1)) dk_L_comes_0 11 rfl)))))))))
theorem ct_L_comes (l : Launch) (htr : l.stackTraces = false) : am_Ct l yL_comes (am_wsT yL_comes cL_comes 3 (some .int) [(0, 8, 11, 67)]) rm_L_comes sp_L_comes := am_ofH htr (by decide) wd_882 (fun X K F FQ hR hT hn as n E hS => f_L_comes K (am_G X) (sd_L_comes X K F FQ hR hT hn) as n E hS)
def sp_X5_leadBetween : am_S := fun as n E K => ∃ a b : Int32, as = [.int a, .int b] ∧ K (.inl (some (.int (nI (am_lb a b))))) n E
def rm_X5_leadBetween : Room := { frames := 0, cells := 0, slots := 0, locals := 0 }
theorem rmc_X5_leadBetween : rm_X5_leadBetween.cells = 0 := rfl
theorem rms_X5_leadBetween : rm_X5_leadBetween.slots = 0 := rfl
theorem ct_X5_leadBetween (l : Launch) (htr : l.stackTraces = false) : am_Ct l yX5_leadBetween (am_ws yX5_leadBetween cX5_leadBetween 2 (some .int)) rm_X5_leadBetween sp_X5_leadBetween := sorry
def sp_X5_meetingPoints : am_S := fun as n E K => ∃ (t c : Nat) (f : Nat → Int32), as = [.ref t] ∧ am_wl E t c f ∧ K (.inl (some (.int (nI (am_mts f))))) n E
def rm_X5_meetingPoints : Room := { frames := 2, cells := 0, slots := 0, locals := 43 }
theorem rmc_X5_meetingPoints : rm_X5_meetingPoints.cells = 0 := rfl
theorem rms_X5_meetingPoints : rm_X5_meetingPoints.slots = 0 := rfl
theorem ct_X5_meetingPoints (l : Launch) (htr : l.stackTraces = false) : am_Ct l yX5_meetingPoints (am_ws yX5_meetingPoints cX5_meetingPoints 5 (some .int)) rm_X5_meetingPoints sp_X5_meetingPoints := sorry
def sp_X7_solder : am_S := fun as n E K => ∃ (b : Nat) (σ : am_St), am_iw σ ∧ as = [.ref b] ∧ am_HS b E σ ∧ am_api b n E K (q_solder σ)
def rm_X7_solder : Room := { frames := 6, cells := 1, slots := 6, locals := 82 }
theorem rmc_X7_solder : rm_X7_solder.cells = 1 := rfl
theorem rms_X7_solder : rm_X7_solder.slots = 6 := rfl
theorem ct_X7_solder (l : Launch) (htr : l.stackTraces = false) : am_Ct l yX7_solder (am_ws yX7_solder cX7_solder 2 (some .int)) rm_X7_solder sp_X7_solder := sorry
def sp_L_solder : am_S := fun as n E K => ∃ (b : Nat) (σ : am_St)  (o : Nat) (g : Nat → Int64), am_iw σ ∧ as = [.ref b, .ref o] ∧ am_HS b E σ ∧ (o < b ∨ b + 214 ≤ o) ∧ E o = some (.inl (1, 1, .inr (.inl g))) ∧ am_wr b o n E K L_U (q_solder σ)
def rm_L_solder : Room := { frames := 7, cells := 1, slots := 6, locals := 103 }
theorem rmc_L_solder : rm_L_solder.cells = 1 := rfl
theorem rms_L_solder : rm_L_solder.slots = 6 := rfl
def bk_L_solder_0 (K : am_P) (G : Nat → am_C) : am_C := o_aload 1 <| o_pi 0 <| o_aload 0 <| o_callV 7 1 sp_X7_solder rm_X7_solder rm_L_solder (am_hdl [("java/lang/UnsupportedOperationException", 1)] K) <| o_i2l <| o_lst <| o_pi 0 <| o_iret .int K
def cl_L_solder (K : am_P) (G : Nat → am_C) : Prop := am_imp (bk_L_solder_0 K G) (G 0)
theorem f_L_solder (K : am_P) (G : Nat → am_C) (hC : cl_L_solder K G) (as : List Value) (n : Nat) (E : am_E) (hS : sp_L_solder as n E K) : (am_sl as).length ≤ 3 ∧ G 0 (am_inl 3 as) [] n E 0 0 := by
  obtain ⟨b, σ, o, g, q0, rfl, ⟨τ, w, u, h⟩, ho, hEo, hK⟩ := hS
  refine ⟨by simp [am_sl, Value.category], ?_⟩
  have h0 : E b = some (.inr (7, [.ref (b + 1), .ref (b + 3), .ref (b + 4), .ref (b + 5), .int (nI (σ 15 0 0)), .int (nI (σ 15 8 0)), .int (nI (σ 15 6 0)), .int (nI (σ 15 4 0)), .int (nI (σ 15 5 0)), .int (nI (σ 15 3 0)), .int (nI (σ 15 7 0)), .ref (b + 6), .ref (b + 9), .ref (b + 12), .ref (b + 15), .ref (b + 16)])) := hs_hall h
  have hw1 : E (b + 1) = some (.inr (5, [.ref (b + 2)])) := hs_t h 1 (by decide)
  have hp3 := hs_panes h
  have hs4 := hs_sheets h
  have hf5 : E (b + 5) = some (.inr (0, [.int (nI (am_bn (st_b σ) 12)), .int (nI (σ 15 1 0)), .int (nI (σ 15 2 0))])) := hs_t h 5 (by decide)
  have h6 : E (b + 6) = some (.inr (3, [.ref (b + 7), .ref (b + 8)])) := hs_t h 6 (by decide)
  have h9 : E (b + 9) = some (.inr (3, [.ref (b + 10), .ref (b + 11)])) := hs_t h 9 (by decide)
  have h12 : E (b + 12) = some (.inr (3, [.ref (b + 13), .ref (b + 14)])) := hs_t h 12 (by decide)
  have h15 := hs_wts h
  have h16 : E (b + 16) = some (.inr (6, [.ref (b + 17)])) := hs_t h 16 (by decide)
  apply hC
  simp only [bk_L_solder_0, o_pi, o_pl, o_pf, o_pd, o_iload, o_lload, o_fload, o_dload, o_aload, o_istore, o_lstore, o_fstore, o_dstore, o_astore, o_iinc, o_ib, o_ibz, o_lb, o_lbz, o_lsh, o_lcmp, o_ineg, o_i2l, o_l2i, o_i2c, o_i2f, o_i2d, o_f2d, o_fdiv, o_ddiv, o_fcmp, o_dcmp, o_dup, o_dup2, o_pop, o_if_eq, o_if_ne, o_if_lt, o_if_ge, o_if_gt, o_if_le, o_ic_eq, o_ic_ne, o_ic_lt, o_ic_ge, o_ic_gt, o_ic_le, o_if, o_ic, o_getf, o_putf, o_ild, o_ist, o_lld, o_lst, o_dld, o_dst, o_ald, o_alen, o_new, o_newa, o_ast, o_oinit, o_iret, o_lret, o_fret, o_dret, o_aret, o_vret, o_throw, o_call, o_callV, am_kc, am_noX, o_im, o_ia, o_gets, o_ldcK, o_getK, o_codK, o_lenK, o_bldK, o_i2b, o_callK, o_mna, o_clone, o_castA, am_s1, am_s2, am_kill, am_inl, am_sl, Value.category, List.getElem?_cons_zero, List.getElem?_cons_succ, List.set_cons_zero, List.set_cons_succ, List.length_cons, List.length_nil, List.take_succ_cons, List.take_zero, List.drop_succ_cons, List.drop_zero, List.reverse_cons, List.reverse_nil, List.nil_append, List.cons_append, List.append_nil, List.map_cons, List.map_nil, List.sum_cons, List.sum_nil, List.replicate_succ, List.replicate_zero, Nat.zero_add, Nat.add_zero, Nat.le_refl, Nat.zero_le, ite_true, ite_false, if_true, if_false, true_and, and_true, eq_self, not_true_eq_false, not_false_eq_true, am_nb0, am_nb1, am_ni, am_fi, am_fr, am_fra, am_fz0, am_fz1, am_fl, am_uE, am_vnI, am_uu, am_ltx, ite_not, Classical.not_not, reduceIte, reduceCtorEq, Nat.reduceEqDiff, Nat.reduceAdd, Nat.reduceSub, Nat.reduceMul, Nat.reduceLeDiff, Nat.reduceLT, Int32.reduceLE, Int32.reduceLT, am_10, am_01, am_ite0, am_ite1, ms_boT, ms_boF, rmc_L_solder, rms_L_solder, rmc_X7_solder, rms_X7_solder, h0, hw1, hp3, hs4, hf5, h6, h9, h12, h15, h16]
  refine ⟨b, σ, q0, rfl, ⟨τ, w, u, h⟩, fun E' hE' hk => ?_⟩
  have hEo' : E' o = some (.inl (1, 1, .inr (.inl g))) := (hk o ho).trans hEo
  have v01 : vp_in 0 1 := vp_in_nI (n := 0) (by decide) (by decide)
  have c0 : Int32.toNatClampNeg 0 = 0 := rfl
  have hok := ok9_solder σ 
  generalize q_solder σ = rr at hK hE' hok ⊢
  rcases hok with ⟨v, σ', hv, rfl⟩ | ⟨C, σ', hC9, rfl⟩
  · show am_kc _ _ _ _ _ _ (.inl (some (.int v))) n E'
    simp only [bk_L_solder_0, o_pi, o_pl, o_pf, o_pd, o_iload, o_lload, o_fload, o_dload, o_aload, o_istore, o_lstore, o_fstore, o_dstore, o_astore, o_iinc, o_ib, o_ibz, o_lb, o_lbz, o_lsh, o_lcmp, o_ineg, o_i2l, o_l2i, o_i2c, o_i2f, o_i2d, o_f2d, o_fdiv, o_ddiv, o_fcmp, o_dcmp, o_dup, o_dup2, o_pop, o_if_eq, o_if_ne, o_if_lt, o_if_ge, o_if_gt, o_if_le, o_ic_eq, o_ic_ne, o_ic_lt, o_ic_ge, o_ic_gt, o_ic_le, o_if, o_ic, o_getf, o_putf, o_ild, o_ist, o_lld, o_lst, o_dld, o_dst, o_ald, o_alen, o_new, o_newa, o_ast, o_oinit, o_iret, o_lret, o_fret, o_dret, o_aret, o_vret, o_throw, o_call, o_callV, am_kc, am_noX, o_im, o_ia, o_gets, o_ldcK, o_getK, o_codK, o_lenK, o_bldK, o_i2b, o_callK, o_mna, o_clone, o_castA, am_s1, am_s2, am_kill, am_inl, am_sl, Value.category, List.getElem?_cons_zero, List.getElem?_cons_succ, List.set_cons_zero, List.set_cons_succ, List.length_cons, List.length_nil, List.take_succ_cons, List.take_zero, List.drop_succ_cons, List.drop_zero, List.reverse_cons, List.reverse_nil, List.nil_append, List.cons_append, List.append_nil, List.map_cons, List.map_nil, List.sum_cons, List.sum_nil, List.replicate_succ, List.replicate_zero, Nat.zero_add, Nat.add_zero, Nat.le_refl, Nat.zero_le, ite_true, ite_false, if_true, if_false, true_and, and_true, eq_self, not_true_eq_false, not_false_eq_true, am_nb0, am_nb1, am_ni, am_fi, am_fr, am_fra, am_fz0, am_fz1, am_fl, am_uE, am_vnI, am_uu, am_ltx, ite_not, Classical.not_not, reduceIte, reduceCtorEq, Nat.reduceEqDiff, Nat.reduceAdd, Nat.reduceSub, Nat.reduceMul, Nat.reduceLeDiff, Nat.reduceLT, Int32.reduceLE, Int32.reduceLT, am_10, am_01, am_ite0, am_ite1, ms_boT, ms_boF, rmc_L_solder, rms_L_solder, rmc_X7_solder, rms_X7_solder, hEo', v01, c0]
    exact am_wr_i hK ho hE' hk
  · show ∃ q ∈ [(x_UO, (1 : Int32))], q.1 = C ∧ K (.inl (some (.int q.2))) n E'
    have hC8 : C = x_UO := by simpa using hC9
    rcases hC8 with rfl
    exact ⟨(x_UO, 1), by simp, rfl, am_wr_x hK th_U_1 hEo' hE' hk⟩
set_option maxRecDepth 100000 in
set_option maxHeartbeats 4000000 in
theorem sd_L_solder (X : am_X) (K : am_P) (F : am_F X cL_solder yL_solder.cls (some .int) (am_wsT yL_solder cL_solder 3 (some .int) [(0, 8, 11, 15)])) (FQ : am_FQ X K rm_L_solder.cells rm_L_solder.slots) (hR : am_Rm X rm_L_solder) (hT : am_T X [(0, 8, 11, 15)]) (hn : am_nL X = 3) : cl_L_solder K (am_G X) := by
  have ts : ∀ w ∈ am_WS, w ∈ am_wsT yL_solder cL_solder 3 (some .int) [(0, 8, 11, 15)] := fun w h => List.mem_cons_of_mem _ h
  exact ms_aload_n F (am_dk (q := (0, .aload_n 1, 1)) dk_L_solder_0 0 rfl) rfl (ms_iconst F (am_dk (q := (1, .iconst 0, 1)) dk_L_solder_0 1 rfl) (by decide +kernel) (ms_aload_n F (am_dk (q := (2, .aload_n 0, 1)) dk_L_solder_0 2 rfl) rfl (ms_callV F hR (ci := 7) (r9 := (RX7, TX7, 16)) (y := yX7_solder) (maxL := 2) (rm' := rm_X7_solder) (na := 0) ct_X7_solder wd_893 wd_1 wd_890 wd_891 wd_892 rfl (by decide +kernel) (by decide) (am_dk (q := (3, .invokevirtual 89, 3)) dk_L_solder_0 3 rfl) (ms_hdl_c (ms_cat F FQ hT (C := "java/lang/UnsupportedOperationException") (name := "java/lang/UnsupportedOperationException") [] ⟨0, 8, 11, 15⟩ [] rfl (fun _ h => absurd h List.not_mem_nil) (by decide) (by decide) (ts _ wd_393) wn_482 hn (by decide : 2 < 3) (Or.inl ⟨2, rfl, (am_dk (q := (11, .astore_n 2, 1)) dk_L_solder_0 7 rfl), rfl⟩) (am_dk (q := (12, .iconst 1, 1)) dk_L_solder_0 8 rfl) (by decide +kernel) (am_dk (q := (13, .ireturn, 1)) dk_L_solder_0 9 rfl) rfl) (ms_hdl_n _ _)) (ms_i2l F (am_dk (q := (6, .i2l, 1)) dk_L_solder_0 4 rfl) (ms_lastore F (am_dk (q := (7, .lastore, 1)) dk_L_solder_0 5 rfl) (ms_goto F (tgt := 14) (am_dk (q := (8, .goto 6, 3)) dk_L_solder_0 6 rfl) (by decide) (ms_iconst F (am_dk (q := (14, .iconst 0, 1)) dk_L_solder_0 10 rfl) (by decide +kernel) (ms_iret F FQ rfl (am_dk (q := (15, .ireturn, 1)) dk_L_solder_0 11 rfl)))))))))
theorem ct_L_solder (l : Launch) (htr : l.stackTraces = false) : am_Ct l yL_solder (am_wsT yL_solder cL_solder 3 (some .int) [(0, 8, 11, 15)]) rm_L_solder sp_L_solder := am_ofH htr (by decide) wd_889 (fun X K F FQ hR hT hn as n E hS => f_L_solder K (am_G X) (sd_L_solder X K F FQ hR hT hn) as n E hS)
def sp_X7_requireCell : am_S := fun as n E K => ∃ x y : Int32, as = [.int x, .int y] ∧ (am_ins x y → K (.inl none) n E) ∧ (¬ am_ins x y → K (.inr "java/lang/IllegalArgumentException") n E)
def rm_X7_requireCell : Room := { frames := 6, cells := 1, slots := 6, locals := 82 }
theorem rmc_X7_requireCell : rm_X7_requireCell.cells = 1 := rfl
theorem rms_X7_requireCell : rm_X7_requireCell.slots = 6 := rfl
theorem ct_X7_requireCell (l : Launch) (htr : l.stackTraces = false) : am_Ct l yX7_requireCell (am_ws yX7_requireCell cX7_requireCell 2 none) rm_X7_requireCell sp_X7_requireCell := sorry
def sp_J9_abs_0f7a4 : am_S := fun _ _ _ _ => False
def rm_J9_abs_0f7a4 : Room := { frames := 0, cells := 0, slots := 0, locals := 0 }
theorem rmc_J9_abs_0f7a4 : rm_J9_abs_0f7a4.cells = 0 := rfl
theorem rms_J9_abs_0f7a4 : rm_J9_abs_0f7a4.slots = 0 := rfl
theorem ct_J9_abs_0f7a4 (l : Launch) (htr : l.stackTraces = false) : am_Ct l yJ9_abs_0f7a4 (am_ws yJ9_abs_0f7a4 cJ9_abs_0f7a4 1 (some .int)) rm_J9_abs_0f7a4 sp_J9_abs_0f7a4 := sorry
def sp_X2_lacksGlass : am_S := fun as n E K => ∃ (t p y : Nat) (wc wk st co yr : Int32), as = [.ref t] ∧ am_pn0 E t wc wk st co yr p y ∧ K (.inl (some (.int (if st = 45 ∨ st = 98 then 1 else 0)))) n E
def rm_X2_lacksGlass : Room := { frames := 0, cells := 0, slots := 0, locals := 0 }
theorem rmc_X2_lacksGlass : rm_X2_lacksGlass.cells = 0 := rfl
theorem rms_X2_lacksGlass : rm_X2_lacksGlass.slots = 0 := rfl
theorem ct_X2_lacksGlass (l : Launch) (htr : l.stackTraces = false) : am_Ct l yX2_lacksGlass (am_ws yX2_lacksGlass cX2_lacksGlass 1 (some .boolean)) rm_X2_lacksGlass sp_X2_lacksGlass := sorry
def sp_X7_brightness : am_S := fun as n E K => ∃ (b : Nat) (σ : am_St) (x y l : Int32), as = [.ref b, .int x, .int y, .int l] ∧ am_HS b E σ ∧ K (.inl (some (.int (am_br σ (am_at (st_f σ) x y) l)))) n E
def rm_X7_brightness : Room := { frames := 2, cells := 0, slots := 0, locals := 43 }
theorem rmc_X7_brightness : rm_X7_brightness.cells = 0 := rfl
theorem rms_X7_brightness : rm_X7_brightness.slots = 0 := rfl
theorem ct_X7_brightness (l : Launch) (htr : l.stackTraces = false) : am_Ct l yX7_brightness (am_ws yX7_brightness cX7_brightness 7 (some .int)) rm_X7_brightness sp_X7_brightness := sorry
def sp_X7_looks : am_S := fun as n E K => ∃ (b : Nat) (σ : am_St) (x : Int32) (y : Int32) (t : Int32), as = [.ref b, .int x, .int y, .int t] ∧ am_HS b E σ ∧ am_api b n E K (q_looks σ x y t)
def rm_X7_looks : Room := { frames := 7, cells := 2, slots := 12, locals := 103 }
theorem rmc_X7_looks : rm_X7_looks.cells = 2 := rfl
theorem rms_X7_looks : rm_X7_looks.slots = 12 := rfl
theorem ct_X7_looks (l : Launch) (htr : l.stackTraces = false) : am_Ct l yX7_looks (am_ws yX7_looks cX7_looks 7 (some .int)) rm_X7_looks sp_X7_looks := sorry
def sp_L_looks : am_S := fun as n E K => ∃ (b : Nat) (σ : am_St) (x : Int32) (y : Int32) (t : Int32) (o : Nat) (g : Nat → Int64), as = [.ref b, .int x, .int y, .int t, .ref o] ∧ am_HS b E σ ∧ (o < b ∨ b + 214 ≤ o) ∧ E o = some (.inl (1, 1, .inr (.inl g))) ∧ am_wr b o n E K L_A (q_looks σ x y t)
def rm_L_looks : Room := { frames := 8, cells := 2, slots := 12, locals := 129 }
theorem rmc_L_looks : rm_L_looks.cells = 2 := rfl
theorem rms_L_looks : rm_L_looks.slots = 12 := rfl
def bk_L_looks_0 (K : am_P) (G : Nat → am_C) : am_C := o_aload 4 <| o_pi 0 <| o_aload 0 <| o_iload 1 <| o_iload 2 <| o_iload 3 <| o_callV 7 4 sp_X7_looks rm_X7_looks rm_L_looks (am_hdl [("java/lang/IllegalArgumentException", 1)] K) <| o_i2l <| o_lst <| o_pi 0 <| o_iret .int K
def cl_L_looks (K : am_P) (G : Nat → am_C) : Prop := am_imp (bk_L_looks_0 K G) (G 0)
theorem f_L_looks (K : am_P) (G : Nat → am_C) (hC : cl_L_looks K G) (as : List Value) (n : Nat) (E : am_E) (hS : sp_L_looks as n E K) : (am_sl as).length ≤ 6 ∧ G 0 (am_inl 6 as) [] n E 0 0 := by
  obtain ⟨b, σ, x, y, t, o, g, rfl, ⟨τ, w, u, h⟩, ho, hEo, hK⟩ := hS
  refine ⟨by simp [am_sl, Value.category], ?_⟩
  have h0 : E b = some (.inr (7, [.ref (b + 1), .ref (b + 3), .ref (b + 4), .ref (b + 5), .int (nI (σ 15 0 0)), .int (nI (σ 15 8 0)), .int (nI (σ 15 6 0)), .int (nI (σ 15 4 0)), .int (nI (σ 15 5 0)), .int (nI (σ 15 3 0)), .int (nI (σ 15 7 0)), .ref (b + 6), .ref (b + 9), .ref (b + 12), .ref (b + 15), .ref (b + 16)])) := hs_hall h
  have hw1 : E (b + 1) = some (.inr (5, [.ref (b + 2)])) := hs_t h 1 (by decide)
  have hp3 := hs_panes h
  have hs4 := hs_sheets h
  have hf5 : E (b + 5) = some (.inr (0, [.int (nI (am_bn (st_b σ) 12)), .int (nI (σ 15 1 0)), .int (nI (σ 15 2 0))])) := hs_t h 5 (by decide)
  have h6 : E (b + 6) = some (.inr (3, [.ref (b + 7), .ref (b + 8)])) := hs_t h 6 (by decide)
  have h9 : E (b + 9) = some (.inr (3, [.ref (b + 10), .ref (b + 11)])) := hs_t h 9 (by decide)
  have h12 : E (b + 12) = some (.inr (3, [.ref (b + 13), .ref (b + 14)])) := hs_t h 12 (by decide)
  have h15 := hs_wts h
  have h16 : E (b + 16) = some (.inr (6, [.ref (b + 17)])) := hs_t h 16 (by decide)
  apply hC
  simp only [bk_L_looks_0, o_pi, o_pl, o_pf, o_pd, o_iload, o_lload, o_fload, o_dload, o_aload, o_istore, o_lstore, o_fstore, o_dstore, o_astore, o_iinc, o_ib, o_ibz, o_lb, o_lbz, o_lsh, o_lcmp, o_ineg, o_i2l, o_l2i, o_i2c, o_i2f, o_i2d, o_f2d, o_fdiv, o_ddiv, o_fcmp, o_dcmp, o_dup, o_dup2, o_pop, o_if_eq, o_if_ne, o_if_lt, o_if_ge, o_if_gt, o_if_le, o_ic_eq, o_ic_ne, o_ic_lt, o_ic_ge, o_ic_gt, o_ic_le, o_if, o_ic, o_getf, o_putf, o_ild, o_ist, o_lld, o_lst, o_dld, o_dst, o_ald, o_alen, o_new, o_newa, o_ast, o_oinit, o_iret, o_lret, o_fret, o_dret, o_aret, o_vret, o_throw, o_call, o_callV, am_kc, am_noX, o_im, o_ia, o_gets, o_ldcK, o_getK, o_codK, o_lenK, o_bldK, o_i2b, o_callK, o_mna, o_clone, o_castA, am_s1, am_s2, am_kill, am_inl, am_sl, Value.category, List.getElem?_cons_zero, List.getElem?_cons_succ, List.set_cons_zero, List.set_cons_succ, List.length_cons, List.length_nil, List.take_succ_cons, List.take_zero, List.drop_succ_cons, List.drop_zero, List.reverse_cons, List.reverse_nil, List.nil_append, List.cons_append, List.append_nil, List.map_cons, List.map_nil, List.sum_cons, List.sum_nil, List.replicate_succ, List.replicate_zero, Nat.zero_add, Nat.add_zero, Nat.le_refl, Nat.zero_le, ite_true, ite_false, if_true, if_false, true_and, and_true, eq_self, not_true_eq_false, not_false_eq_true, am_nb0, am_nb1, am_ni, am_fi, am_fr, am_fra, am_fz0, am_fz1, am_fl, am_uE, am_vnI, am_uu, am_ltx, ite_not, Classical.not_not, reduceIte, reduceCtorEq, Nat.reduceEqDiff, Nat.reduceAdd, Nat.reduceSub, Nat.reduceMul, Nat.reduceLeDiff, Nat.reduceLT, Int32.reduceLE, Int32.reduceLT, am_10, am_01, am_ite0, am_ite1, ms_boT, ms_boF, rmc_L_looks, rms_L_looks, rmc_X7_looks, rms_X7_looks, h0, hw1, hp3, hs4, hf5, h6, h9, h12, h15, h16]
  refine ⟨b, σ, x, y, t, rfl, ⟨τ, w, u, h⟩, fun E' hE' hk => ?_⟩
  have hEo' : E' o = some (.inl (1, 1, .inr (.inl g))) := (hk o ho).trans hEo
  have v01 : vp_in 0 1 := vp_in_nI (n := 0) (by decide) (by decide)
  have c0 : Int32.toNatClampNeg 0 = 0 := rfl
  have hok := ok9_looks σ x y t
  generalize q_looks σ x y t = rr at hK hE' hok ⊢
  rcases hok with ⟨v, σ', hv, rfl⟩ | ⟨C, σ', hC9, rfl⟩
  · show am_kc _ _ _ _ _ _ (.inl (some (.int v))) n E'
    simp only [bk_L_looks_0, o_pi, o_pl, o_pf, o_pd, o_iload, o_lload, o_fload, o_dload, o_aload, o_istore, o_lstore, o_fstore, o_dstore, o_astore, o_iinc, o_ib, o_ibz, o_lb, o_lbz, o_lsh, o_lcmp, o_ineg, o_i2l, o_l2i, o_i2c, o_i2f, o_i2d, o_f2d, o_fdiv, o_ddiv, o_fcmp, o_dcmp, o_dup, o_dup2, o_pop, o_if_eq, o_if_ne, o_if_lt, o_if_ge, o_if_gt, o_if_le, o_ic_eq, o_ic_ne, o_ic_lt, o_ic_ge, o_ic_gt, o_ic_le, o_if, o_ic, o_getf, o_putf, o_ild, o_ist, o_lld, o_lst, o_dld, o_dst, o_ald, o_alen, o_new, o_newa, o_ast, o_oinit, o_iret, o_lret, o_fret, o_dret, o_aret, o_vret, o_throw, o_call, o_callV, am_kc, am_noX, o_im, o_ia, o_gets, o_ldcK, o_getK, o_codK, o_lenK, o_bldK, o_i2b, o_callK, o_mna, o_clone, o_castA, am_s1, am_s2, am_kill, am_inl, am_sl, Value.category, List.getElem?_cons_zero, List.getElem?_cons_succ, List.set_cons_zero, List.set_cons_succ, List.length_cons, List.length_nil, List.take_succ_cons, List.take_zero, List.drop_succ_cons, List.drop_zero, List.reverse_cons, List.reverse_nil, List.nil_append, List.cons_append, List.append_nil, List.map_cons, List.map_nil, List.sum_cons, List.sum_nil, List.replicate_succ, List.replicate_zero, Nat.zero_add, Nat.add_zero, Nat.le_refl, Nat.zero_le, ite_true, ite_false, if_true, if_false, true_and, and_true, eq_self, not_true_eq_false, not_false_eq_true, am_nb0, am_nb1, am_ni, am_fi, am_fr, am_fra, am_fz0, am_fz1, am_fl, am_uE, am_vnI, am_uu, am_ltx, ite_not, Classical.not_not, reduceIte, reduceCtorEq, Nat.reduceEqDiff, Nat.reduceAdd, Nat.reduceSub, Nat.reduceMul, Nat.reduceLeDiff, Nat.reduceLT, Int32.reduceLE, Int32.reduceLT, am_10, am_01, am_ite0, am_ite1, ms_boT, ms_boF, rmc_L_looks, rms_L_looks, rmc_X7_looks, rms_X7_looks, hEo', v01, c0]
    exact am_wr_i hK ho hE' hk
  · show ∃ q ∈ [(x_IA, (1 : Int32))], q.1 = C ∧ K (.inl (some (.int q.2))) n E'
    have hC8 : C = x_IA := by simpa using hC9
    rcases hC8 with rfl
    exact ⟨(x_IA, 1), by simp, rfl, am_wr_x hK th_A_1 hEo' hE' hk⟩
set_option maxRecDepth 100000 in
set_option maxHeartbeats 4000000 in
theorem sd_L_looks (X : am_X) (K : am_P) (F : am_F X cL_looks yL_looks.cls (some .int) (am_wsT yL_looks cL_looks 6 (some .int) [(0, 12, 15, 13)])) (FQ : am_FQ X K rm_L_looks.cells rm_L_looks.slots) (hR : am_Rm X rm_L_looks) (hT : am_T X [(0, 12, 15, 13)]) (hn : am_nL X = 6) : cl_L_looks K (am_G X) := by
  have ts : ∀ w ∈ am_WS, w ∈ am_wsT yL_looks cL_looks 6 (some .int) [(0, 12, 15, 13)] := fun w h => List.mem_cons_of_mem _ h
  exact ms_aload F (am_dk (q := (0, .aload 4, 2)) dk_L_looks_0 0 rfl) (ms_iconst F (am_dk (q := (2, .iconst 0, 1)) dk_L_looks_0 1 rfl) (by decide +kernel) (ms_aload_n F (am_dk (q := (3, .aload_n 0, 1)) dk_L_looks_0 2 rfl) rfl (ms_iload_n F (am_dk (q := (4, .iload_n 1, 1)) dk_L_looks_0 3 rfl) rfl (ms_iload_n F (am_dk (q := (5, .iload_n 2, 1)) dk_L_looks_0 4 rfl) rfl (ms_iload_n F (am_dk (q := (6, .iload_n 3, 1)) dk_L_looks_0 5 rfl) rfl (ms_callV F hR (ci := 7) (r9 := (RX7, TX7, 16)) (y := yX7_looks) (maxL := 7) (rm' := rm_X7_looks) (na := 3) ct_X7_looks wd_940 wd_1 wd_937 wd_938 wd_939 rfl (by decide +kernel) (by decide) (am_dk (q := (7, .invokevirtual 105, 3)) dk_L_looks_0 6 rfl) (ms_hdl_c (ms_cat F FQ hT (C := "java/lang/IllegalArgumentException") (name := "java/lang/IllegalArgumentException") [] ⟨0, 12, 15, 13⟩ [] rfl (fun _ h => absurd h List.not_mem_nil) (by decide) (by decide) (ts _ wd_392) wn_404 hn (by decide : 5 < 6) (Or.inr ⟨(am_dk (q := (15, .astore 5, 2)) dk_L_looks_0 10 rfl), rfl⟩) (am_dk (q := (17, .iconst 1, 1)) dk_L_looks_0 11 rfl) (by decide +kernel) (am_dk (q := (18, .ireturn, 1)) dk_L_looks_0 12 rfl) rfl) (ms_hdl_n _ _)) (ms_i2l F (am_dk (q := (10, .i2l, 1)) dk_L_looks_0 7 rfl) (ms_lastore F (am_dk (q := (11, .lastore, 1)) dk_L_looks_0 8 rfl) (ms_goto F (tgt := 19) (am_dk (q := (12, .goto 7, 3)) dk_L_looks_0 9 rfl) (by decide) (ms_iconst F (am_dk (q := (19, .iconst 0, 1)) dk_L_looks_0 13 rfl) (by decide +kernel) (ms_iret F FQ rfl (am_dk (q := (20, .ireturn, 1)) dk_L_looks_0 14 rfl))))))))))))
theorem ct_L_looks (l : Launch) (htr : l.stackTraces = false) : am_Ct l yL_looks (am_wsT yL_looks cL_looks 6 (some .int) [(0, 12, 15, 13)]) rm_L_looks sp_L_looks := am_ofH htr (by decide) wd_936 (fun X K F FQ hR hT hn as n E hS => f_L_looks K (am_G X) (sd_L_looks X K F FQ hR hT hn) as n E hS)
def sp_X7_hit : am_S := fun as n E K => ∃ (b : Nat) (σ : am_St) (x : Int32) (y : Int32), as = [.ref b, .int x, .int y] ∧ am_HS b E σ ∧ am_api b n E K (q_hit σ x y)
def rm_X7_hit : Room := { frames := 7, cells := 2, slots := 12, locals := 103 }
theorem rmc_X7_hit : rm_X7_hit.cells = 2 := rfl
theorem rms_X7_hit : rm_X7_hit.slots = 12 := rfl
theorem ct_X7_hit (l : Launch) (htr : l.stackTraces = false) : am_Ct l yX7_hit (am_ws yX7_hit cX7_hit 4 (some .boolean)) rm_X7_hit sp_X7_hit := sorry
def sp_L_hit : am_S := fun as n E K => ∃ (b : Nat) (σ : am_St) (x : Int32) (y : Int32) (o : Nat) (g : Nat → Int64), as = [.ref b, .int x, .int y, .ref o] ∧ am_HS b E σ ∧ (o < b ∨ b + 214 ≤ o) ∧ E o = some (.inl (1, 1, .inr (.inl g))) ∧ am_wr b o n E K L_AU (q_hit σ x y)
def rm_L_hit : Room := { frames := 8, cells := 2, slots := 12, locals := 126 }
theorem rmc_L_hit : rm_L_hit.cells = 2 := rfl
theorem rms_L_hit : rm_L_hit.slots = 12 := rfl
def bk_L_hit_0 (K : am_P) (G : Nat → am_C) : am_C := o_aload 3 <| o_pi 0 <| o_aload 0 <| o_iload 1 <| o_iload 2 <| o_callV 7 3 sp_X7_hit rm_X7_hit rm_L_hit (am_hdl [("java/lang/IllegalArgumentException", 1), ("java/lang/UnsupportedOperationException", 2)] K) <| o_if_eq (o_pl 0 <| o_lst <| o_pi 0 <| o_iret .int K) (o_pl 1 <| o_lst <| o_pi 0 <| o_iret .int K)
def cl_L_hit (K : am_P) (G : Nat → am_C) : Prop := am_imp (bk_L_hit_0 K G) (G 0)
theorem f_L_hit (K : am_P) (G : Nat → am_C) (hC : cl_L_hit K G) (as : List Value) (n : Nat) (E : am_E) (hS : sp_L_hit as n E K) : (am_sl as).length ≤ 5 ∧ G 0 (am_inl 5 as) [] n E 0 0 := by
  obtain ⟨b, σ, x, y, o, g, rfl, ⟨τ, w, u, h⟩, ho, hEo, hK⟩ := hS
  refine ⟨by simp [am_sl, Value.category], ?_⟩
  have h0 : E b = some (.inr (7, [.ref (b + 1), .ref (b + 3), .ref (b + 4), .ref (b + 5), .int (nI (σ 15 0 0)), .int (nI (σ 15 8 0)), .int (nI (σ 15 6 0)), .int (nI (σ 15 4 0)), .int (nI (σ 15 5 0)), .int (nI (σ 15 3 0)), .int (nI (σ 15 7 0)), .ref (b + 6), .ref (b + 9), .ref (b + 12), .ref (b + 15), .ref (b + 16)])) := hs_hall h
  have hw1 : E (b + 1) = some (.inr (5, [.ref (b + 2)])) := hs_t h 1 (by decide)
  have hp3 := hs_panes h
  have hs4 := hs_sheets h
  have hf5 : E (b + 5) = some (.inr (0, [.int (nI (am_bn (st_b σ) 12)), .int (nI (σ 15 1 0)), .int (nI (σ 15 2 0))])) := hs_t h 5 (by decide)
  have h6 : E (b + 6) = some (.inr (3, [.ref (b + 7), .ref (b + 8)])) := hs_t h 6 (by decide)
  have h9 : E (b + 9) = some (.inr (3, [.ref (b + 10), .ref (b + 11)])) := hs_t h 9 (by decide)
  have h12 : E (b + 12) = some (.inr (3, [.ref (b + 13), .ref (b + 14)])) := hs_t h 12 (by decide)
  have h15 := hs_wts h
  have h16 : E (b + 16) = some (.inr (6, [.ref (b + 17)])) := hs_t h 16 (by decide)
  apply hC
  simp only [bk_L_hit_0, o_pi, o_pl, o_pf, o_pd, o_iload, o_lload, o_fload, o_dload, o_aload, o_istore, o_lstore, o_fstore, o_dstore, o_astore, o_iinc, o_ib, o_ibz, o_lb, o_lbz, o_lsh, o_lcmp, o_ineg, o_i2l, o_l2i, o_i2c, o_i2f, o_i2d, o_f2d, o_fdiv, o_ddiv, o_fcmp, o_dcmp, o_dup, o_dup2, o_pop, o_if_eq, o_if_ne, o_if_lt, o_if_ge, o_if_gt, o_if_le, o_ic_eq, o_ic_ne, o_ic_lt, o_ic_ge, o_ic_gt, o_ic_le, o_if, o_ic, o_getf, o_putf, o_ild, o_ist, o_lld, o_lst, o_dld, o_dst, o_ald, o_alen, o_new, o_newa, o_ast, o_oinit, o_iret, o_lret, o_fret, o_dret, o_aret, o_vret, o_throw, o_call, o_callV, am_kc, am_noX, o_im, o_ia, o_gets, o_ldcK, o_getK, o_codK, o_lenK, o_bldK, o_i2b, o_callK, o_mna, o_clone, o_castA, am_s1, am_s2, am_kill, am_inl, am_sl, Value.category, List.getElem?_cons_zero, List.getElem?_cons_succ, List.set_cons_zero, List.set_cons_succ, List.length_cons, List.length_nil, List.take_succ_cons, List.take_zero, List.drop_succ_cons, List.drop_zero, List.reverse_cons, List.reverse_nil, List.nil_append, List.cons_append, List.append_nil, List.map_cons, List.map_nil, List.sum_cons, List.sum_nil, List.replicate_succ, List.replicate_zero, Nat.zero_add, Nat.add_zero, Nat.le_refl, Nat.zero_le, ite_true, ite_false, if_true, if_false, true_and, and_true, eq_self, not_true_eq_false, not_false_eq_true, am_nb0, am_nb1, am_ni, am_fi, am_fr, am_fra, am_fz0, am_fz1, am_fl, am_uE, am_vnI, am_uu, am_ltx, ite_not, Classical.not_not, reduceIte, reduceCtorEq, Nat.reduceEqDiff, Nat.reduceAdd, Nat.reduceSub, Nat.reduceMul, Nat.reduceLeDiff, Nat.reduceLT, Int32.reduceLE, Int32.reduceLT, am_10, am_01, am_ite0, am_ite1, ms_boT, ms_boF, rmc_L_hit, rms_L_hit, rmc_X7_hit, rms_X7_hit, h0, hw1, hp3, hs4, hf5, h6, h9, h12, h15, h16]
  refine ⟨b, σ, x, y, rfl, ⟨τ, w, u, h⟩, fun E' hE' hk => ?_⟩
  have hEo' : E' o = some (.inl (1, 1, .inr (.inl g))) := (hk o ho).trans hEo
  have v01 : vp_in 0 1 := vp_in_nI (n := 0) (by decide) (by decide)
  have c0 : Int32.toNatClampNeg 0 = 0 := rfl
  have hok := ok9_hit σ x y
  generalize q_hit σ x y = rr at hK hE' hok ⊢
  rcases hok with ⟨v, σ', hv, rfl⟩ | ⟨C, σ', hC9, rfl⟩
  · rcases hv with rfl | rfl
    · show am_kc _ _ _ _ _ _ (.inl (some (.int 0))) n E'
      simp only [bk_L_hit_0, o_pi, o_pl, o_pf, o_pd, o_iload, o_lload, o_fload, o_dload, o_aload, o_istore, o_lstore, o_fstore, o_dstore, o_astore, o_iinc, o_ib, o_ibz, o_lb, o_lbz, o_lsh, o_lcmp, o_ineg, o_i2l, o_l2i, o_i2c, o_i2f, o_i2d, o_f2d, o_fdiv, o_ddiv, o_fcmp, o_dcmp, o_dup, o_dup2, o_pop, o_if_eq, o_if_ne, o_if_lt, o_if_ge, o_if_gt, o_if_le, o_ic_eq, o_ic_ne, o_ic_lt, o_ic_ge, o_ic_gt, o_ic_le, o_if, o_ic, o_getf, o_putf, o_ild, o_ist, o_lld, o_lst, o_dld, o_dst, o_ald, o_alen, o_new, o_newa, o_ast, o_oinit, o_iret, o_lret, o_fret, o_dret, o_aret, o_vret, o_throw, o_call, o_callV, am_kc, am_noX, o_im, o_ia, o_gets, o_ldcK, o_getK, o_codK, o_lenK, o_bldK, o_i2b, o_callK, o_mna, o_clone, o_castA, am_s1, am_s2, am_kill, am_inl, am_sl, Value.category, List.getElem?_cons_zero, List.getElem?_cons_succ, List.set_cons_zero, List.set_cons_succ, List.length_cons, List.length_nil, List.take_succ_cons, List.take_zero, List.drop_succ_cons, List.drop_zero, List.reverse_cons, List.reverse_nil, List.nil_append, List.cons_append, List.append_nil, List.map_cons, List.map_nil, List.sum_cons, List.sum_nil, List.replicate_succ, List.replicate_zero, Nat.zero_add, Nat.add_zero, Nat.le_refl, Nat.zero_le, ite_true, ite_false, if_true, if_false, true_and, and_true, eq_self, not_true_eq_false, not_false_eq_true, am_nb0, am_nb1, am_ni, am_fi, am_fr, am_fra, am_fz0, am_fz1, am_fl, am_uE, am_vnI, am_uu, am_ltx, ite_not, Classical.not_not, reduceIte, reduceCtorEq, Nat.reduceEqDiff, Nat.reduceAdd, Nat.reduceSub, Nat.reduceMul, Nat.reduceLeDiff, Nat.reduceLT, Int32.reduceLE, Int32.reduceLT, am_10, am_01, am_ite0, am_ite1, ms_boT, ms_boF, rmc_L_hit, rms_L_hit, rmc_X7_hit, rms_X7_hit, hEo', v01, c0]
      exact am_wr_i hK ho hE' hk
    · show am_kc _ _ _ _ _ _ (.inl (some (.int 1))) n E'
      simp only [bk_L_hit_0, o_pi, o_pl, o_pf, o_pd, o_iload, o_lload, o_fload, o_dload, o_aload, o_istore, o_lstore, o_fstore, o_dstore, o_astore, o_iinc, o_ib, o_ibz, o_lb, o_lbz, o_lsh, o_lcmp, o_ineg, o_i2l, o_l2i, o_i2c, o_i2f, o_i2d, o_f2d, o_fdiv, o_ddiv, o_fcmp, o_dcmp, o_dup, o_dup2, o_pop, o_if_eq, o_if_ne, o_if_lt, o_if_ge, o_if_gt, o_if_le, o_ic_eq, o_ic_ne, o_ic_lt, o_ic_ge, o_ic_gt, o_ic_le, o_if, o_ic, o_getf, o_putf, o_ild, o_ist, o_lld, o_lst, o_dld, o_dst, o_ald, o_alen, o_new, o_newa, o_ast, o_oinit, o_iret, o_lret, o_fret, o_dret, o_aret, o_vret, o_throw, o_call, o_callV, am_kc, am_noX, o_im, o_ia, o_gets, o_ldcK, o_getK, o_codK, o_lenK, o_bldK, o_i2b, o_callK, o_mna, o_clone, o_castA, am_s1, am_s2, am_kill, am_inl, am_sl, Value.category, List.getElem?_cons_zero, List.getElem?_cons_succ, List.set_cons_zero, List.set_cons_succ, List.length_cons, List.length_nil, List.take_succ_cons, List.take_zero, List.drop_succ_cons, List.drop_zero, List.reverse_cons, List.reverse_nil, List.nil_append, List.cons_append, List.append_nil, List.map_cons, List.map_nil, List.sum_cons, List.sum_nil, List.replicate_succ, List.replicate_zero, Nat.zero_add, Nat.add_zero, Nat.le_refl, Nat.zero_le, ite_true, ite_false, if_true, if_false, true_and, and_true, eq_self, not_true_eq_false, not_false_eq_true, am_nb0, am_nb1, am_ni, am_fi, am_fr, am_fra, am_fz0, am_fz1, am_fl, am_uE, am_vnI, am_uu, am_ltx, ite_not, Classical.not_not, reduceIte, reduceCtorEq, Nat.reduceEqDiff, Nat.reduceAdd, Nat.reduceSub, Nat.reduceMul, Nat.reduceLeDiff, Nat.reduceLT, Int32.reduceLE, Int32.reduceLT, am_10, am_01, am_ite0, am_ite1, ms_boT, ms_boF, rmc_L_hit, rms_L_hit, rmc_X7_hit, rms_X7_hit, hEo', v01, c0]
      exact am_wr_i hK ho hE' hk
  · show ∃ q ∈ [(x_IA, (1 : Int32)), (x_UO, (2 : Int32))], q.1 = C ∧ K (.inl (some (.int q.2))) n E'
    have hC8 : C = x_IA ∨ C = x_UO := by simpa using hC9
    rcases hC8 with rfl | rfl
    · exact ⟨(x_IA, 1), by simp, rfl, am_wr_x hK th_AU_1 hEo' hE' hk⟩
    · exact ⟨(x_UO, 2), by simp, rfl, am_wr_x hK th_AU_2 hEo' hE' hk⟩
set_option maxRecDepth 100000 in
set_option maxHeartbeats 4000000 in
theorem sd_L_hit (X : am_X) (K : am_P) (F : am_F X cL_hit yL_hit.cls (some .int) (am_wsT yL_hit cL_hit 5 (some .int) [(0, 17, 20, 13), (0, 17, 24, 15)])) (FQ : am_FQ X K rm_L_hit.cells rm_L_hit.slots) (hR : am_Rm X rm_L_hit) (hT : am_T X [(0, 17, 20, 13), (0, 17, 24, 15)]) (hn : am_nL X = 5) : cl_L_hit K (am_G X) := by
  have ts : ∀ w ∈ am_WS, w ∈ am_wsT yL_hit cL_hit 5 (some .int) [(0, 17, 20, 13), (0, 17, 24, 15)] := fun w h => List.mem_cons_of_mem _ h
  exact ms_aload_n F (am_dk (q := (0, .aload_n 3, 1)) dk_L_hit_0 0 rfl) rfl (ms_iconst F (am_dk (q := (1, .iconst 0, 1)) dk_L_hit_0 1 rfl) (by decide +kernel) (ms_aload_n F (am_dk (q := (2, .aload_n 0, 1)) dk_L_hit_0 2 rfl) rfl (ms_iload_n F (am_dk (q := (3, .iload_n 1, 1)) dk_L_hit_0 3 rfl) rfl (ms_iload_n F (am_dk (q := (4, .iload_n 2, 1)) dk_L_hit_0 4 rfl) rfl (ms_callV F hR (ci := 7) (r9 := (RX7, TX7, 16)) (y := yX7_hit) (maxL := 4) (rm' := rm_X7_hit) (na := 2) ct_X7_hit wd_960 wd_1 wd_957 wd_958 wd_959 rfl (by decide +kernel) (by decide) (am_dk (q := (5, .invokevirtual 109, 3)) dk_L_hit_0 5 rfl) (ms_hdl_c (ms_cat F FQ hT (C := "java/lang/IllegalArgumentException") (name := "java/lang/IllegalArgumentException") [] ⟨0, 17, 20, 13⟩ [⟨0, 17, 24, 15⟩] rfl (fun _ h => absurd h List.not_mem_nil) (by decide) (by decide) (ts _ wd_392) wn_404 hn (by decide : 4 < 5) (Or.inr ⟨(am_dk (q := (20, .astore 4, 2)) dk_L_hit_0 12 rfl), rfl⟩) (am_dk (q := (22, .iconst 1, 1)) dk_L_hit_0 13 rfl) (by decide +kernel) (am_dk (q := (23, .ireturn, 1)) dk_L_hit_0 14 rfl) rfl) (ms_hdl_c (ms_cat F FQ hT (C := "java/lang/UnsupportedOperationException") (name := "java/lang/UnsupportedOperationException") [⟨0, 17, 20, 13⟩] ⟨0, 17, 24, 15⟩ [] rfl (List.forall_mem_cons.mpr ⟨⟨by decide, "java/lang/IllegalArgumentException", ts _ wd_392, by decide +kernel⟩, (fun _ h => absurd h List.not_mem_nil)⟩) (by decide) (by decide) (ts _ wd_393) wn_482 hn (by decide : 4 < 5) (Or.inr ⟨(am_dk (q := (24, .astore 4, 2)) dk_L_hit_0 15 rfl), rfl⟩) (am_dk (q := (26, .iconst 2, 1)) dk_L_hit_0 16 rfl) (by decide +kernel) (am_dk (q := (27, .ireturn, 1)) dk_L_hit_0 17 rfl) rfl) (ms_hdl_n _ _))) (ms_if_eq F (tgt := 15) (am_dk (q := (8, .ifCond .eq 7, 3)) dk_L_hit_0 6 rfl) (by decide) (ms_lconst F (am_dk (q := (15, .lconst 0, 1)) dk_L_hit_0 9 rfl) (by decide +kernel) (ms_lastore F (am_dk (q := (16, .lastore, 1)) dk_L_hit_0 10 rfl) (ms_goto F (tgt := 28) (am_dk (q := (17, .goto 11, 3)) dk_L_hit_0 11 rfl) (by decide) (ms_iconst F (am_dk (q := (28, .iconst 0, 1)) dk_L_hit_0 18 rfl) (by decide +kernel) (ms_iret F FQ rfl (am_dk (q := (29, .ireturn, 1)) dk_L_hit_0 19 rfl)))))) (ms_lconst F (am_dk (q := (11, .lconst 1, 1)) dk_L_hit_0 7 rfl) (by decide +kernel) (ms_goto F (tgt := 16) (am_dk (q := (12, .goto 4, 3)) dk_L_hit_0 8 rfl) (by decide) (ms_lastore F (am_dk (q := (16, .lastore, 1)) dk_L_hit_0 10 rfl) (ms_goto F (tgt := 28) (am_dk (q := (17, .goto 11, 3)) dk_L_hit_0 11 rfl) (by decide) (ms_iconst F (am_dk (q := (28, .iconst 0, 1)) dk_L_hit_0 18 rfl) (by decide +kernel) (ms_iret F FQ rfl (am_dk (q := (29, .ireturn, 1)) dk_L_hit_0 19 rfl)))))))))))))
theorem ct_L_hit (l : Launch) (htr : l.stackTraces = false) : am_Ct l yL_hit (am_wsT yL_hit cL_hit 5 (some .int) [(0, 17, 20, 13), (0, 17, 24, 15)]) rm_L_hit sp_L_hit := am_ofH htr (by decide) wd_956 (fun X K F FQ hR hT hn as n E hS => f_L_hit K (am_G X) (sd_L_hit X K F FQ hR hT hn) as n E hS)
def sp_X6_add : am_S := fun as n E K => ∃ (t w y : Nat) (Y : Nat → Bool), as = [.ref t, .int (nI y)] ∧ y ≤ 2000 ∧ am_yo E t w Y ∧ K (.inl none) n (am_u E w (am_ywE (fun i => if i = y then true else Y i)))
def rm_X6_add : Room := { frames := 1, cells := 0, slots := 0, locals := 22 }
theorem rmc_X6_add : rm_X6_add.cells = 0 := rfl
theorem rms_X6_add : rm_X6_add.slots = 0 := rfl
theorem ct_X6_add (l : Launch) (htr : l.stackTraces = false) : am_Ct l yX6_add (am_ws yX6_add cX6_add 2 none) rm_X6_add sp_X6_add := sorry
def sp_X7_mend : am_S := fun as n E K => ∃ (b : Nat) (σ : am_St) (p : Int32), as = [.ref b, .int p] ∧ am_HS b E σ ∧ am_api b n E K (q_mend σ p)
def rm_X7_mend : Room := { frames := 7, cells := 2, slots := 12, locals := 102 }
theorem rmc_X7_mend : rm_X7_mend.cells = 2 := rfl
theorem rms_X7_mend : rm_X7_mend.slots = 12 := rfl
theorem ct_X7_mend (l : Launch) (htr : l.stackTraces = false) : am_Ct l yX7_mend (am_ws yX7_mend cX7_mend 3 (some .int)) rm_X7_mend sp_X7_mend := sorry
def sp_L_mend : am_S := fun as n E K => ∃ (b : Nat) (σ : am_St) (p : Int32) (o : Nat) (g : Nat → Int64), as = [.ref b, .int p, .ref o] ∧ am_HS b E σ ∧ (o < b ∨ b + 214 ≤ o) ∧ E o = some (.inl (1, 1, .inr (.inl g))) ∧ am_wr b o n E K L_OU (q_mend σ p)
def rm_L_mend : Room := { frames := 8, cells := 2, slots := 12, locals := 124 }
theorem rmc_L_mend : rm_L_mend.cells = 2 := rfl
theorem rms_L_mend : rm_L_mend.slots = 12 := rfl
def bk_L_mend_0 (K : am_P) (G : Nat → am_C) : am_C := o_aload 2 <| o_pi 0 <| o_aload 0 <| o_iload 1 <| o_callV 7 2 sp_X7_mend rm_X7_mend rm_L_mend (am_hdl [("java/lang/IndexOutOfBoundsException", 1), ("java/lang/UnsupportedOperationException", 2)] K) <| o_i2l <| o_lst <| o_pi 0 <| o_iret .int K
def cl_L_mend (K : am_P) (G : Nat → am_C) : Prop := am_imp (bk_L_mend_0 K G) (G 0)
theorem f_L_mend (K : am_P) (G : Nat → am_C) (hC : cl_L_mend K G) (as : List Value) (n : Nat) (E : am_E) (hS : sp_L_mend as n E K) : (am_sl as).length ≤ 4 ∧ G 0 (am_inl 4 as) [] n E 0 0 := by
  obtain ⟨b, σ, p, o, g, rfl, ⟨τ, w, u, h⟩, ho, hEo, hK⟩ := hS
  refine ⟨by simp [am_sl, Value.category], ?_⟩
  have h0 : E b = some (.inr (7, [.ref (b + 1), .ref (b + 3), .ref (b + 4), .ref (b + 5), .int (nI (σ 15 0 0)), .int (nI (σ 15 8 0)), .int (nI (σ 15 6 0)), .int (nI (σ 15 4 0)), .int (nI (σ 15 5 0)), .int (nI (σ 15 3 0)), .int (nI (σ 15 7 0)), .ref (b + 6), .ref (b + 9), .ref (b + 12), .ref (b + 15), .ref (b + 16)])) := hs_hall h
  have hw1 : E (b + 1) = some (.inr (5, [.ref (b + 2)])) := hs_t h 1 (by decide)
  have hp3 := hs_panes h
  have hs4 := hs_sheets h
  have hf5 : E (b + 5) = some (.inr (0, [.int (nI (am_bn (st_b σ) 12)), .int (nI (σ 15 1 0)), .int (nI (σ 15 2 0))])) := hs_t h 5 (by decide)
  have h6 : E (b + 6) = some (.inr (3, [.ref (b + 7), .ref (b + 8)])) := hs_t h 6 (by decide)
  have h9 : E (b + 9) = some (.inr (3, [.ref (b + 10), .ref (b + 11)])) := hs_t h 9 (by decide)
  have h12 : E (b + 12) = some (.inr (3, [.ref (b + 13), .ref (b + 14)])) := hs_t h 12 (by decide)
  have h15 := hs_wts h
  have h16 : E (b + 16) = some (.inr (6, [.ref (b + 17)])) := hs_t h 16 (by decide)
  apply hC
  simp only [bk_L_mend_0, o_pi, o_pl, o_pf, o_pd, o_iload, o_lload, o_fload, o_dload, o_aload, o_istore, o_lstore, o_fstore, o_dstore, o_astore, o_iinc, o_ib, o_ibz, o_lb, o_lbz, o_lsh, o_lcmp, o_ineg, o_i2l, o_l2i, o_i2c, o_i2f, o_i2d, o_f2d, o_fdiv, o_ddiv, o_fcmp, o_dcmp, o_dup, o_dup2, o_pop, o_if_eq, o_if_ne, o_if_lt, o_if_ge, o_if_gt, o_if_le, o_ic_eq, o_ic_ne, o_ic_lt, o_ic_ge, o_ic_gt, o_ic_le, o_if, o_ic, o_getf, o_putf, o_ild, o_ist, o_lld, o_lst, o_dld, o_dst, o_ald, o_alen, o_new, o_newa, o_ast, o_oinit, o_iret, o_lret, o_fret, o_dret, o_aret, o_vret, o_throw, o_call, o_callV, am_kc, am_noX, o_im, o_ia, o_gets, o_ldcK, o_getK, o_codK, o_lenK, o_bldK, o_i2b, o_callK, o_mna, o_clone, o_castA, am_s1, am_s2, am_kill, am_inl, am_sl, Value.category, List.getElem?_cons_zero, List.getElem?_cons_succ, List.set_cons_zero, List.set_cons_succ, List.length_cons, List.length_nil, List.take_succ_cons, List.take_zero, List.drop_succ_cons, List.drop_zero, List.reverse_cons, List.reverse_nil, List.nil_append, List.cons_append, List.append_nil, List.map_cons, List.map_nil, List.sum_cons, List.sum_nil, List.replicate_succ, List.replicate_zero, Nat.zero_add, Nat.add_zero, Nat.le_refl, Nat.zero_le, ite_true, ite_false, if_true, if_false, true_and, and_true, eq_self, not_true_eq_false, not_false_eq_true, am_nb0, am_nb1, am_ni, am_fi, am_fr, am_fra, am_fz0, am_fz1, am_fl, am_uE, am_vnI, am_uu, am_ltx, ite_not, Classical.not_not, reduceIte, reduceCtorEq, Nat.reduceEqDiff, Nat.reduceAdd, Nat.reduceSub, Nat.reduceMul, Nat.reduceLeDiff, Nat.reduceLT, Int32.reduceLE, Int32.reduceLT, am_10, am_01, am_ite0, am_ite1, ms_boT, ms_boF, rmc_L_mend, rms_L_mend, rmc_X7_mend, rms_X7_mend, h0, hw1, hp3, hs4, hf5, h6, h9, h12, h15, h16]
  refine ⟨b, σ, p, rfl, ⟨τ, w, u, h⟩, fun E' hE' hk => ?_⟩
  have hEo' : E' o = some (.inl (1, 1, .inr (.inl g))) := (hk o ho).trans hEo
  have v01 : vp_in 0 1 := vp_in_nI (n := 0) (by decide) (by decide)
  have c0 : Int32.toNatClampNeg 0 = 0 := rfl
  have hok := ok9_mend σ p
  generalize q_mend σ p = rr at hK hE' hok ⊢
  rcases hok with ⟨v, σ', hv, rfl⟩ | ⟨C, σ', hC9, rfl⟩
  · show am_kc _ _ _ _ _ _ (.inl (some (.int v))) n E'
    simp only [bk_L_mend_0, o_pi, o_pl, o_pf, o_pd, o_iload, o_lload, o_fload, o_dload, o_aload, o_istore, o_lstore, o_fstore, o_dstore, o_astore, o_iinc, o_ib, o_ibz, o_lb, o_lbz, o_lsh, o_lcmp, o_ineg, o_i2l, o_l2i, o_i2c, o_i2f, o_i2d, o_f2d, o_fdiv, o_ddiv, o_fcmp, o_dcmp, o_dup, o_dup2, o_pop, o_if_eq, o_if_ne, o_if_lt, o_if_ge, o_if_gt, o_if_le, o_ic_eq, o_ic_ne, o_ic_lt, o_ic_ge, o_ic_gt, o_ic_le, o_if, o_ic, o_getf, o_putf, o_ild, o_ist, o_lld, o_lst, o_dld, o_dst, o_ald, o_alen, o_new, o_newa, o_ast, o_oinit, o_iret, o_lret, o_fret, o_dret, o_aret, o_vret, o_throw, o_call, o_callV, am_kc, am_noX, o_im, o_ia, o_gets, o_ldcK, o_getK, o_codK, o_lenK, o_bldK, o_i2b, o_callK, o_mna, o_clone, o_castA, am_s1, am_s2, am_kill, am_inl, am_sl, Value.category, List.getElem?_cons_zero, List.getElem?_cons_succ, List.set_cons_zero, List.set_cons_succ, List.length_cons, List.length_nil, List.take_succ_cons, List.take_zero, List.drop_succ_cons, List.drop_zero, List.reverse_cons, List.reverse_nil, List.nil_append, List.cons_append, List.append_nil, List.map_cons, List.map_nil, List.sum_cons, List.sum_nil, List.replicate_succ, List.replicate_zero, Nat.zero_add, Nat.add_zero, Nat.le_refl, Nat.zero_le, ite_true, ite_false, if_true, if_false, true_and, and_true, eq_self, not_true_eq_false, not_false_eq_true, am_nb0, am_nb1, am_ni, am_fi, am_fr, am_fra, am_fz0, am_fz1, am_fl, am_uE, am_vnI, am_uu, am_ltx, ite_not, Classical.not_not, reduceIte, reduceCtorEq, Nat.reduceEqDiff, Nat.reduceAdd, Nat.reduceSub, Nat.reduceMul, Nat.reduceLeDiff, Nat.reduceLT, Int32.reduceLE, Int32.reduceLT, am_10, am_01, am_ite0, am_ite1, ms_boT, ms_boF, rmc_L_mend, rms_L_mend, rmc_X7_mend, rms_X7_mend, hEo', v01, c0]
    exact am_wr_i hK ho hE' hk
  · show ∃ q ∈ [(x_IO, (1 : Int32)), (x_UO, (2 : Int32))], q.1 = C ∧ K (.inl (some (.int q.2))) n E'
    have hC8 : C = x_IO ∨ C = x_UO := by simpa using hC9
    rcases hC8 with rfl | rfl
    · exact ⟨(x_IO, 1), by simp, rfl, am_wr_x hK th_OU_1 hEo' hE' hk⟩
    · exact ⟨(x_UO, 2), by simp, rfl, am_wr_x hK th_OU_2 hEo' hE' hk⟩
set_option maxRecDepth 100000 in
set_option maxHeartbeats 4000000 in
theorem sd_L_mend (X : am_X) (K : am_P) (F : am_F X cL_mend yL_mend.cls (some .int) (am_wsT yL_mend cL_mend 4 (some .int) [(0, 9, 12, 21), (0, 9, 15, 15)])) (FQ : am_FQ X K rm_L_mend.cells rm_L_mend.slots) (hR : am_Rm X rm_L_mend) (hT : am_T X [(0, 9, 12, 21), (0, 9, 15, 15)]) (hn : am_nL X = 4) : cl_L_mend K (am_G X) := by
  have ts : ∀ w ∈ am_WS, w ∈ am_wsT yL_mend cL_mend 4 (some .int) [(0, 9, 12, 21), (0, 9, 15, 15)] := fun w h => List.mem_cons_of_mem _ h
  exact ms_aload_n F (am_dk (q := (0, .aload_n 2, 1)) dk_L_mend_0 0 rfl) rfl (ms_iconst F (am_dk (q := (1, .iconst 0, 1)) dk_L_mend_0 1 rfl) (by decide +kernel) (ms_aload_n F (am_dk (q := (2, .aload_n 0, 1)) dk_L_mend_0 2 rfl) rfl (ms_iload_n F (am_dk (q := (3, .iload_n 1, 1)) dk_L_mend_0 3 rfl) rfl (ms_callV F hR (ci := 7) (r9 := (RX7, TX7, 16)) (y := yX7_mend) (maxL := 3) (rm' := rm_X7_mend) (na := 1) ct_X7_mend wd_968 wd_1 wd_965 wd_966 wd_967 rfl (by decide +kernel) (by decide) (am_dk (q := (4, .invokevirtual 113, 3)) dk_L_mend_0 4 rfl) (ms_hdl_c (ms_cat F FQ hT (C := "java/lang/IndexOutOfBoundsException") (name := "java/lang/IndexOutOfBoundsException") [] ⟨0, 9, 12, 21⟩ [⟨0, 9, 15, 15⟩] rfl (fun _ h => absurd h List.not_mem_nil) (by decide) (by decide) (ts _ wd_503) wn_513 hn (by decide : 3 < 4) (Or.inl ⟨3, rfl, (am_dk (q := (12, .astore_n 3, 1)) dk_L_mend_0 8 rfl), rfl⟩) (am_dk (q := (13, .iconst 1, 1)) dk_L_mend_0 9 rfl) (by decide +kernel) (am_dk (q := (14, .ireturn, 1)) dk_L_mend_0 10 rfl) rfl) (ms_hdl_c (ms_cat F FQ hT (C := "java/lang/UnsupportedOperationException") (name := "java/lang/UnsupportedOperationException") [⟨0, 9, 12, 21⟩] ⟨0, 9, 15, 15⟩ [] rfl (List.forall_mem_cons.mpr ⟨⟨by decide, "java/lang/IndexOutOfBoundsException", ts _ wd_503, by decide +kernel⟩, (fun _ h => absurd h List.not_mem_nil)⟩) (by decide) (by decide) (ts _ wd_393) wn_482 hn (by decide : 3 < 4) (Or.inl ⟨3, rfl, (am_dk (q := (15, .astore_n 3, 1)) dk_L_mend_0 11 rfl), rfl⟩) (am_dk (q := (16, .iconst 2, 1)) dk_L_mend_0 12 rfl) (by decide +kernel) (am_dk (q := (17, .ireturn, 1)) dk_L_mend_0 13 rfl) rfl) (ms_hdl_n _ _))) (ms_i2l F (am_dk (q := (7, .i2l, 1)) dk_L_mend_0 5 rfl) (ms_lastore F (am_dk (q := (8, .lastore, 1)) dk_L_mend_0 6 rfl) (ms_goto F (tgt := 18) (am_dk (q := (9, .goto 9, 3)) dk_L_mend_0 7 rfl) (by decide) (ms_iconst F (am_dk (q := (18, .iconst 0, 1)) dk_L_mend_0 14 rfl) (by decide +kernel) (ms_iret F FQ rfl (am_dk (q := (19, .ireturn, 1)) dk_L_mend_0 15 rfl))))))))))
theorem ct_L_mend (l : Launch) (htr : l.stackTraces = false) : am_Ct l yL_mend (am_wsT yL_mend cL_mend 4 (some .int) [(0, 9, 12, 21), (0, 9, 15, 15)]) rm_L_mend sp_L_mend := am_ofH htr (by decide) wd_964 (fun X K F FQ hR hT hn as n E hS => f_L_mend K (am_G X) (sd_L_mend X K F FQ hR hT hn) as n E hS)
def sp_X7_stopgap : am_S := fun as n E K => ∃ (b : Nat) (σ : am_St) (p : Int32) (s : Int32), am_iw σ ∧ as = [.ref b, .int p, .int s] ∧ am_HS b E σ ∧ am_api b n E K (q_stopgap σ p s)
def rm_X7_stopgap : Room := { frames := 7, cells := 3, slots := 18, locals := 103 }
theorem rmc_X7_stopgap : rm_X7_stopgap.cells = 3 := rfl
theorem rms_X7_stopgap : rm_X7_stopgap.slots = 18 := rfl
theorem ct_X7_stopgap (l : Launch) (htr : l.stackTraces = false) : am_Ct l yX7_stopgap (am_ws yX7_stopgap cX7_stopgap 6 (some .int)) rm_X7_stopgap sp_X7_stopgap := sorry
def sp_L_stopgap : am_S := fun as n E K => ∃ (b : Nat) (σ : am_St) (p : Int32) (s : Int32) (o : Nat) (g : Nat → Int64), am_iw σ ∧ as = [.ref b, .int p, .int s, .ref o] ∧ am_HS b E σ ∧ (o < b ∨ b + 214 ≤ o) ∧ E o = some (.inl (1, 1, .inr (.inl g))) ∧ am_wr b o n E K L_OU (q_stopgap σ p s)
def rm_L_stopgap : Room := { frames := 8, cells := 3, slots := 18, locals := 128 }
theorem rmc_L_stopgap : rm_L_stopgap.cells = 3 := rfl
theorem rms_L_stopgap : rm_L_stopgap.slots = 18 := rfl
def bk_L_stopgap_0 (K : am_P) (G : Nat → am_C) : am_C := o_aload 3 <| o_pi 0 <| o_aload 0 <| o_iload 1 <| o_iload 2 <| o_callV 7 3 sp_X7_stopgap rm_X7_stopgap rm_L_stopgap (am_hdl [("java/lang/IndexOutOfBoundsException", 1), ("java/lang/UnsupportedOperationException", 2)] K) <| o_i2l <| o_lst <| o_pi 0 <| o_iret .int K
def cl_L_stopgap (K : am_P) (G : Nat → am_C) : Prop := am_imp (bk_L_stopgap_0 K G) (G 0)
theorem f_L_stopgap (K : am_P) (G : Nat → am_C) (hC : cl_L_stopgap K G) (as : List Value) (n : Nat) (E : am_E) (hS : sp_L_stopgap as n E K) : (am_sl as).length ≤ 5 ∧ G 0 (am_inl 5 as) [] n E 0 0 := by
  obtain ⟨b, σ, p, s, o, g, q0, rfl, ⟨τ, w, u, h⟩, ho, hEo, hK⟩ := hS
  refine ⟨by simp [am_sl, Value.category], ?_⟩
  have h0 : E b = some (.inr (7, [.ref (b + 1), .ref (b + 3), .ref (b + 4), .ref (b + 5), .int (nI (σ 15 0 0)), .int (nI (σ 15 8 0)), .int (nI (σ 15 6 0)), .int (nI (σ 15 4 0)), .int (nI (σ 15 5 0)), .int (nI (σ 15 3 0)), .int (nI (σ 15 7 0)), .ref (b + 6), .ref (b + 9), .ref (b + 12), .ref (b + 15), .ref (b + 16)])) := hs_hall h
  have hw1 : E (b + 1) = some (.inr (5, [.ref (b + 2)])) := hs_t h 1 (by decide)
  have hp3 := hs_panes h
  have hs4 := hs_sheets h
  have hf5 : E (b + 5) = some (.inr (0, [.int (nI (am_bn (st_b σ) 12)), .int (nI (σ 15 1 0)), .int (nI (σ 15 2 0))])) := hs_t h 5 (by decide)
  have h6 : E (b + 6) = some (.inr (3, [.ref (b + 7), .ref (b + 8)])) := hs_t h 6 (by decide)
  have h9 : E (b + 9) = some (.inr (3, [.ref (b + 10), .ref (b + 11)])) := hs_t h 9 (by decide)
  have h12 : E (b + 12) = some (.inr (3, [.ref (b + 13), .ref (b + 14)])) := hs_t h 12 (by decide)
  have h15 := hs_wts h
  have h16 : E (b + 16) = some (.inr (6, [.ref (b + 17)])) := hs_t h 16 (by decide)
  apply hC
  simp only [bk_L_stopgap_0, o_pi, o_pl, o_pf, o_pd, o_iload, o_lload, o_fload, o_dload, o_aload, o_istore, o_lstore, o_fstore, o_dstore, o_astore, o_iinc, o_ib, o_ibz, o_lb, o_lbz, o_lsh, o_lcmp, o_ineg, o_i2l, o_l2i, o_i2c, o_i2f, o_i2d, o_f2d, o_fdiv, o_ddiv, o_fcmp, o_dcmp, o_dup, o_dup2, o_pop, o_if_eq, o_if_ne, o_if_lt, o_if_ge, o_if_gt, o_if_le, o_ic_eq, o_ic_ne, o_ic_lt, o_ic_ge, o_ic_gt, o_ic_le, o_if, o_ic, o_getf, o_putf, o_ild, o_ist, o_lld, o_lst, o_dld, o_dst, o_ald, o_alen, o_new, o_newa, o_ast, o_oinit, o_iret, o_lret, o_fret, o_dret, o_aret, o_vret, o_throw, o_call, o_callV, am_kc, am_noX, o_im, o_ia, o_gets, o_ldcK, o_getK, o_codK, o_lenK, o_bldK, o_i2b, o_callK, o_mna, o_clone, o_castA, am_s1, am_s2, am_kill, am_inl, am_sl, Value.category, List.getElem?_cons_zero, List.getElem?_cons_succ, List.set_cons_zero, List.set_cons_succ, List.length_cons, List.length_nil, List.take_succ_cons, List.take_zero, List.drop_succ_cons, List.drop_zero, List.reverse_cons, List.reverse_nil, List.nil_append, List.cons_append, List.append_nil, List.map_cons, List.map_nil, List.sum_cons, List.sum_nil, List.replicate_succ, List.replicate_zero, Nat.zero_add, Nat.add_zero, Nat.le_refl, Nat.zero_le, ite_true, ite_false, if_true, if_false, true_and, and_true, eq_self, not_true_eq_false, not_false_eq_true, am_nb0, am_nb1, am_ni, am_fi, am_fr, am_fra, am_fz0, am_fz1, am_fl, am_uE, am_vnI, am_uu, am_ltx, ite_not, Classical.not_not, reduceIte, reduceCtorEq, Nat.reduceEqDiff, Nat.reduceAdd, Nat.reduceSub, Nat.reduceMul, Nat.reduceLeDiff, Nat.reduceLT, Int32.reduceLE, Int32.reduceLT, am_10, am_01, am_ite0, am_ite1, ms_boT, ms_boF, rmc_L_stopgap, rms_L_stopgap, rmc_X7_stopgap, rms_X7_stopgap, h0, hw1, hp3, hs4, hf5, h6, h9, h12, h15, h16]
  refine ⟨b, σ, p, s, q0, rfl, ⟨τ, w, u, h⟩, fun E' hE' hk => ?_⟩
  have hEo' : E' o = some (.inl (1, 1, .inr (.inl g))) := (hk o ho).trans hEo
  have v01 : vp_in 0 1 := vp_in_nI (n := 0) (by decide) (by decide)
  have c0 : Int32.toNatClampNeg 0 = 0 := rfl
  have hok := ok9_stopgap σ p s
  generalize q_stopgap σ p s = rr at hK hE' hok ⊢
  rcases hok with ⟨v, σ', hv, rfl⟩ | ⟨C, σ', hC9, rfl⟩
  · show am_kc _ _ _ _ _ _ (.inl (some (.int v))) n E'
    simp only [bk_L_stopgap_0, o_pi, o_pl, o_pf, o_pd, o_iload, o_lload, o_fload, o_dload, o_aload, o_istore, o_lstore, o_fstore, o_dstore, o_astore, o_iinc, o_ib, o_ibz, o_lb, o_lbz, o_lsh, o_lcmp, o_ineg, o_i2l, o_l2i, o_i2c, o_i2f, o_i2d, o_f2d, o_fdiv, o_ddiv, o_fcmp, o_dcmp, o_dup, o_dup2, o_pop, o_if_eq, o_if_ne, o_if_lt, o_if_ge, o_if_gt, o_if_le, o_ic_eq, o_ic_ne, o_ic_lt, o_ic_ge, o_ic_gt, o_ic_le, o_if, o_ic, o_getf, o_putf, o_ild, o_ist, o_lld, o_lst, o_dld, o_dst, o_ald, o_alen, o_new, o_newa, o_ast, o_oinit, o_iret, o_lret, o_fret, o_dret, o_aret, o_vret, o_throw, o_call, o_callV, am_kc, am_noX, o_im, o_ia, o_gets, o_ldcK, o_getK, o_codK, o_lenK, o_bldK, o_i2b, o_callK, o_mna, o_clone, o_castA, am_s1, am_s2, am_kill, am_inl, am_sl, Value.category, List.getElem?_cons_zero, List.getElem?_cons_succ, List.set_cons_zero, List.set_cons_succ, List.length_cons, List.length_nil, List.take_succ_cons, List.take_zero, List.drop_succ_cons, List.drop_zero, List.reverse_cons, List.reverse_nil, List.nil_append, List.cons_append, List.append_nil, List.map_cons, List.map_nil, List.sum_cons, List.sum_nil, List.replicate_succ, List.replicate_zero, Nat.zero_add, Nat.add_zero, Nat.le_refl, Nat.zero_le, ite_true, ite_false, if_true, if_false, true_and, and_true, eq_self, not_true_eq_false, not_false_eq_true, am_nb0, am_nb1, am_ni, am_fi, am_fr, am_fra, am_fz0, am_fz1, am_fl, am_uE, am_vnI, am_uu, am_ltx, ite_not, Classical.not_not, reduceIte, reduceCtorEq, Nat.reduceEqDiff, Nat.reduceAdd, Nat.reduceSub, Nat.reduceMul, Nat.reduceLeDiff, Nat.reduceLT, Int32.reduceLE, Int32.reduceLT, am_10, am_01, am_ite0, am_ite1, ms_boT, ms_boF, rmc_L_stopgap, rms_L_stopgap, rmc_X7_stopgap, rms_X7_stopgap, hEo', v01, c0]
    exact am_wr_i hK ho hE' hk
  · show ∃ q ∈ [(x_IO, (1 : Int32)), (x_UO, (2 : Int32))], q.1 = C ∧ K (.inl (some (.int q.2))) n E'
    have hC8 : C = x_IO ∨ C = x_UO := by simpa using hC9
    rcases hC8 with rfl | rfl
    · exact ⟨(x_IO, 1), by simp, rfl, am_wr_x hK th_OU_1 hEo' hE' hk⟩
    · exact ⟨(x_UO, 2), by simp, rfl, am_wr_x hK th_OU_2 hEo' hE' hk⟩
set_option maxRecDepth 100000 in
set_option maxHeartbeats 4000000 in
theorem sd_L_stopgap (X : am_X) (K : am_P) (F : am_F X cL_stopgap yL_stopgap.cls (some .int) (am_wsT yL_stopgap cL_stopgap 5 (some .int) [(0, 10, 13, 21), (0, 10, 17, 15)])) (FQ : am_FQ X K rm_L_stopgap.cells rm_L_stopgap.slots) (hR : am_Rm X rm_L_stopgap) (hT : am_T X [(0, 10, 13, 21), (0, 10, 17, 15)]) (hn : am_nL X = 5) : cl_L_stopgap K (am_G X) := by
  have ts : ∀ w ∈ am_WS, w ∈ am_wsT yL_stopgap cL_stopgap 5 (some .int) [(0, 10, 13, 21), (0, 10, 17, 15)] := fun w h => List.mem_cons_of_mem _ h
  exact ms_aload_n F (am_dk (q := (0, .aload_n 3, 1)) dk_L_stopgap_0 0 rfl) rfl (ms_iconst F (am_dk (q := (1, .iconst 0, 1)) dk_L_stopgap_0 1 rfl) (by decide +kernel) (ms_aload_n F (am_dk (q := (2, .aload_n 0, 1)) dk_L_stopgap_0 2 rfl) rfl (ms_iload_n F (am_dk (q := (3, .iload_n 1, 1)) dk_L_stopgap_0 3 rfl) rfl (ms_iload_n F (am_dk (q := (4, .iload_n 2, 1)) dk_L_stopgap_0 4 rfl) rfl (ms_callV F hR (ci := 7) (r9 := (RX7, TX7, 16)) (y := yX7_stopgap) (maxL := 6) (rm' := rm_X7_stopgap) (na := 2) ct_X7_stopgap wd_976 wd_1 wd_973 wd_974 wd_975 rfl (by decide +kernel) (by decide) (am_dk (q := (5, .invokevirtual 116, 3)) dk_L_stopgap_0 5 rfl) (ms_hdl_c (ms_cat F FQ hT (C := "java/lang/IndexOutOfBoundsException") (name := "java/lang/IndexOutOfBoundsException") [] ⟨0, 10, 13, 21⟩ [⟨0, 10, 17, 15⟩] rfl (fun _ h => absurd h List.not_mem_nil) (by decide) (by decide) (ts _ wd_503) wn_513 hn (by decide : 4 < 5) (Or.inr ⟨(am_dk (q := (13, .astore 4, 2)) dk_L_stopgap_0 9 rfl), rfl⟩) (am_dk (q := (15, .iconst 1, 1)) dk_L_stopgap_0 10 rfl) (by decide +kernel) (am_dk (q := (16, .ireturn, 1)) dk_L_stopgap_0 11 rfl) rfl) (ms_hdl_c (ms_cat F FQ hT (C := "java/lang/UnsupportedOperationException") (name := "java/lang/UnsupportedOperationException") [⟨0, 10, 13, 21⟩] ⟨0, 10, 17, 15⟩ [] rfl (List.forall_mem_cons.mpr ⟨⟨by decide, "java/lang/IndexOutOfBoundsException", ts _ wd_503, by decide +kernel⟩, (fun _ h => absurd h List.not_mem_nil)⟩) (by decide) (by decide) (ts _ wd_393) wn_482 hn (by decide : 4 < 5) (Or.inr ⟨(am_dk (q := (17, .astore 4, 2)) dk_L_stopgap_0 12 rfl), rfl⟩) (am_dk (q := (19, .iconst 2, 1)) dk_L_stopgap_0 13 rfl) (by decide +kernel) (am_dk (q := (20, .ireturn, 1)) dk_L_stopgap_0 14 rfl) rfl) (ms_hdl_n _ _))) (ms_i2l F (am_dk (q := (8, .i2l, 1)) dk_L_stopgap_0 6 rfl) (ms_lastore F (am_dk (q := (9, .lastore, 1)) dk_L_stopgap_0 7 rfl) (ms_goto F (tgt := 21) (am_dk (q := (10, .goto 11, 3)) dk_L_stopgap_0 8 rfl) (by decide) (ms_iconst F (am_dk (q := (21, .iconst 0, 1)) dk_L_stopgap_0 15 rfl) (by decide +kernel) (ms_iret F FQ rfl (am_dk (q := (22, .ireturn, 1)) dk_L_stopgap_0 16 rfl)))))))))))
theorem ct_L_stopgap (l : Launch) (htr : l.stackTraces = false) : am_Ct l yL_stopgap (am_wsT yL_stopgap cL_stopgap 5 (some .int) [(0, 10, 13, 21), (0, 10, 17, 15)]) rm_L_stopgap sp_L_stopgap := am_ofH htr (by decide) wd_972 (fun X K F FQ hR hT hn as n E hS => f_L_stopgap K (am_G X) (sd_L_stopgap X K F FQ hR hT hn) as n E hS)
def sp_X7_requireGlass : am_S := fun as n E K => ∃ (b : Nat) (σ : am_St) (p : Nat), as = [.ref b, .int (nI p)] ∧ p < 30 ∧ am_HS b E σ ∧ (¬ σ 3 p 0 = 45 → K (.inl none) n E) ∧ (σ 3 p 0 = 45 → K (.inr x_NE) n E)
def rm_X7_requireGlass : Room := { frames := 6, cells := 1, slots := 6, locals := 82 }
theorem rmc_X7_requireGlass : rm_X7_requireGlass.cells = 1 := rfl
theorem rms_X7_requireGlass : rm_X7_requireGlass.slots = 6 := rfl
theorem ct_X7_requireGlass (l : Launch) (htr : l.stackTraces = false) : am_Ct l yX7_requireGlass (am_ws yX7_requireGlass cX7_requireGlass 2 none) rm_X7_requireGlass sp_X7_requireGlass := sorry
def sp_X3_isLike : am_S := fun as n E K => ∃ (t r q t2 r2 q2 : Nat) (P Q : Nat → Nat → Bool), as = [.ref t, .ref t2] ∧ am_sup P ∧ am_sup Q ∧ am_so E t r q ∧ am_sr E r P ∧ am_so E t2 r2 q2 ∧ am_sr E r2 Q ∧ K (.inl (some (.int (if am_eqb P Q = true then 1 else 0)))) n E
def rm_X3_isLike : Room := { frames := 0, cells := 0, slots := 0, locals := 0 }
theorem rmc_X3_isLike : rm_X3_isLike.cells = 0 := rfl
theorem rms_X3_isLike : rm_X3_isLike.slots = 0 := rfl
theorem ct_X3_isLike (l : Launch) (htr : l.stackTraces = false) : am_Ct l yX3_isLike (am_ws yX3_isLike cX3_isLike 3 (some .boolean)) rm_X3_isLike sp_X3_isLike := sorry
def sp_X7_fits : am_S := fun as n E K => ∃ (b : Nat) (σ : am_St) (p : Int32), as = [.ref b, .int p] ∧ am_HS b E σ ∧ am_api b n E K (q_fits σ p)
def rm_X7_fits : Room := { frames := 7, cells := 2, slots := 12, locals := 103 }
theorem rmc_X7_fits : rm_X7_fits.cells = 2 := rfl
theorem rms_X7_fits : rm_X7_fits.slots = 12 := rfl
theorem ct_X7_fits (l : Launch) (htr : l.stackTraces = false) : am_Ct l yX7_fits (am_ws yX7_fits cX7_fits 5 (some .int)) rm_X7_fits sp_X7_fits := sorry
def sp_L_fits : am_S := fun as n E K => ∃ (b : Nat) (σ : am_St) (p : Int32) (o : Nat) (g : Nat → Int64), as = [.ref b, .int p, .ref o] ∧ am_HS b E σ ∧ (o < b ∨ b + 214 ≤ o) ∧ E o = some (.inl (1, 1, .inr (.inl g))) ∧ am_wr b o n E K L_ON (q_fits σ p)
def rm_L_fits : Room := { frames := 8, cells := 2, slots := 12, locals := 127 }
theorem rmc_L_fits : rm_L_fits.cells = 2 := rfl
theorem rms_L_fits : rm_L_fits.slots = 12 := rfl
def bk_L_fits_0 (K : am_P) (G : Nat → am_C) : am_C := o_aload 2 <| o_pi 0 <| o_aload 0 <| o_iload 1 <| o_callV 7 2 sp_X7_fits rm_X7_fits rm_L_fits (am_hdl [("java/lang/IndexOutOfBoundsException", 1), ("java/util/NoSuchElementException", 2)] K) <| o_i2l <| o_lst <| o_pi 0 <| o_iret .int K
def cl_L_fits (K : am_P) (G : Nat → am_C) : Prop := am_imp (bk_L_fits_0 K G) (G 0)
theorem f_L_fits (K : am_P) (G : Nat → am_C) (hC : cl_L_fits K G) (as : List Value) (n : Nat) (E : am_E) (hS : sp_L_fits as n E K) : (am_sl as).length ≤ 4 ∧ G 0 (am_inl 4 as) [] n E 0 0 := by
  obtain ⟨b, σ, p, o, g, rfl, ⟨τ, w, u, h⟩, ho, hEo, hK⟩ := hS
  refine ⟨by simp [am_sl, Value.category], ?_⟩
  have h0 : E b = some (.inr (7, [.ref (b + 1), .ref (b + 3), .ref (b + 4), .ref (b + 5), .int (nI (σ 15 0 0)), .int (nI (σ 15 8 0)), .int (nI (σ 15 6 0)), .int (nI (σ 15 4 0)), .int (nI (σ 15 5 0)), .int (nI (σ 15 3 0)), .int (nI (σ 15 7 0)), .ref (b + 6), .ref (b + 9), .ref (b + 12), .ref (b + 15), .ref (b + 16)])) := hs_hall h
  have hw1 : E (b + 1) = some (.inr (5, [.ref (b + 2)])) := hs_t h 1 (by decide)
  have hp3 := hs_panes h
  have hs4 := hs_sheets h
  have hf5 : E (b + 5) = some (.inr (0, [.int (nI (am_bn (st_b σ) 12)), .int (nI (σ 15 1 0)), .int (nI (σ 15 2 0))])) := hs_t h 5 (by decide)
  have h6 : E (b + 6) = some (.inr (3, [.ref (b + 7), .ref (b + 8)])) := hs_t h 6 (by decide)
  have h9 : E (b + 9) = some (.inr (3, [.ref (b + 10), .ref (b + 11)])) := hs_t h 9 (by decide)
  have h12 : E (b + 12) = some (.inr (3, [.ref (b + 13), .ref (b + 14)])) := hs_t h 12 (by decide)
  have h15 := hs_wts h
  have h16 : E (b + 16) = some (.inr (6, [.ref (b + 17)])) := hs_t h 16 (by decide)
  apply hC
  simp only [bk_L_fits_0, o_pi, o_pl, o_pf, o_pd, o_iload, o_lload, o_fload, o_dload, o_aload, o_istore, o_lstore, o_fstore, o_dstore, o_astore, o_iinc, o_ib, o_ibz, o_lb, o_lbz, o_lsh, o_lcmp, o_ineg, o_i2l, o_l2i, o_i2c, o_i2f, o_i2d, o_f2d, o_fdiv, o_ddiv, o_fcmp, o_dcmp, o_dup, o_dup2, o_pop, o_if_eq, o_if_ne, o_if_lt, o_if_ge, o_if_gt, o_if_le, o_ic_eq, o_ic_ne, o_ic_lt, o_ic_ge, o_ic_gt, o_ic_le, o_if, o_ic, o_getf, o_putf, o_ild, o_ist, o_lld, o_lst, o_dld, o_dst, o_ald, o_alen, o_new, o_newa, o_ast, o_oinit, o_iret, o_lret, o_fret, o_dret, o_aret, o_vret, o_throw, o_call, o_callV, am_kc, am_noX, o_im, o_ia, o_gets, o_ldcK, o_getK, o_codK, o_lenK, o_bldK, o_i2b, o_callK, o_mna, o_clone, o_castA, am_s1, am_s2, am_kill, am_inl, am_sl, Value.category, List.getElem?_cons_zero, List.getElem?_cons_succ, List.set_cons_zero, List.set_cons_succ, List.length_cons, List.length_nil, List.take_succ_cons, List.take_zero, List.drop_succ_cons, List.drop_zero, List.reverse_cons, List.reverse_nil, List.nil_append, List.cons_append, List.append_nil, List.map_cons, List.map_nil, List.sum_cons, List.sum_nil, List.replicate_succ, List.replicate_zero, Nat.zero_add, Nat.add_zero, Nat.le_refl, Nat.zero_le, ite_true, ite_false, if_true, if_false, true_and, and_true, eq_self, not_true_eq_false, not_false_eq_true, am_nb0, am_nb1, am_ni, am_fi, am_fr, am_fra, am_fz0, am_fz1, am_fl, am_uE, am_vnI, am_uu, am_ltx, ite_not, Classical.not_not, reduceIte, reduceCtorEq, Nat.reduceEqDiff, Nat.reduceAdd, Nat.reduceSub, Nat.reduceMul, Nat.reduceLeDiff, Nat.reduceLT, Int32.reduceLE, Int32.reduceLT, am_10, am_01, am_ite0, am_ite1, ms_boT, ms_boF, rmc_L_fits, rms_L_fits, rmc_X7_fits, rms_X7_fits, h0, hw1, hp3, hs4, hf5, h6, h9, h12, h15, h16]
  refine ⟨b, σ, p, rfl, ⟨τ, w, u, h⟩, fun E' hE' hk => ?_⟩
  have hEo' : E' o = some (.inl (1, 1, .inr (.inl g))) := (hk o ho).trans hEo
  have v01 : vp_in 0 1 := vp_in_nI (n := 0) (by decide) (by decide)
  have c0 : Int32.toNatClampNeg 0 = 0 := rfl
  have hok := ok9_fits σ p
  generalize q_fits σ p = rr at hK hE' hok ⊢
  rcases hok with ⟨v, σ', hv, rfl⟩ | ⟨C, σ', hC9, rfl⟩
  · show am_kc _ _ _ _ _ _ (.inl (some (.int v))) n E'
    simp only [bk_L_fits_0, o_pi, o_pl, o_pf, o_pd, o_iload, o_lload, o_fload, o_dload, o_aload, o_istore, o_lstore, o_fstore, o_dstore, o_astore, o_iinc, o_ib, o_ibz, o_lb, o_lbz, o_lsh, o_lcmp, o_ineg, o_i2l, o_l2i, o_i2c, o_i2f, o_i2d, o_f2d, o_fdiv, o_ddiv, o_fcmp, o_dcmp, o_dup, o_dup2, o_pop, o_if_eq, o_if_ne, o_if_lt, o_if_ge, o_if_gt, o_if_le, o_ic_eq, o_ic_ne, o_ic_lt, o_ic_ge, o_ic_gt, o_ic_le, o_if, o_ic, o_getf, o_putf, o_ild, o_ist, o_lld, o_lst, o_dld, o_dst, o_ald, o_alen, o_new, o_newa, o_ast, o_oinit, o_iret, o_lret, o_fret, o_dret, o_aret, o_vret, o_throw, o_call, o_callV, am_kc, am_noX, o_im, o_ia, o_gets, o_ldcK, o_getK, o_codK, o_lenK, o_bldK, o_i2b, o_callK, o_mna, o_clone, o_castA, am_s1, am_s2, am_kill, am_inl, am_sl, Value.category, List.getElem?_cons_zero, List.getElem?_cons_succ, List.set_cons_zero, List.set_cons_succ, List.length_cons, List.length_nil, List.take_succ_cons, List.take_zero, List.drop_succ_cons, List.drop_zero, List.reverse_cons, List.reverse_nil, List.nil_append, List.cons_append, List.append_nil, List.map_cons, List.map_nil, List.sum_cons, List.sum_nil, List.replicate_succ, List.replicate_zero, Nat.zero_add, Nat.add_zero, Nat.le_refl, Nat.zero_le, ite_true, ite_false, if_true, if_false, true_and, and_true, eq_self, not_true_eq_false, not_false_eq_true, am_nb0, am_nb1, am_ni, am_fi, am_fr, am_fra, am_fz0, am_fz1, am_fl, am_uE, am_vnI, am_uu, am_ltx, ite_not, Classical.not_not, reduceIte, reduceCtorEq, Nat.reduceEqDiff, Nat.reduceAdd, Nat.reduceSub, Nat.reduceMul, Nat.reduceLeDiff, Nat.reduceLT, Int32.reduceLE, Int32.reduceLT, am_10, am_01, am_ite0, am_ite1, ms_boT, ms_boF, rmc_L_fits, rms_L_fits, rmc_X7_fits, rms_X7_fits, hEo', v01, c0]
    exact am_wr_i hK ho hE' hk
  · show ∃ q ∈ [(x_IO, (1 : Int32)), (x_NE, (2 : Int32))], q.1 = C ∧ K (.inl (some (.int q.2))) n E'
    have hC8 : C = x_IO ∨ C = x_NE := by simpa using hC9
    rcases hC8 with rfl | rfl
    · exact ⟨(x_IO, 1), by simp, rfl, am_wr_x hK th_ON_1 hEo' hE' hk⟩
    · exact ⟨(x_NE, 2), by simp, rfl, am_wr_x hK th_ON_2 hEo' hE' hk⟩
set_option maxRecDepth 100000 in
set_option maxHeartbeats 4000000 in
theorem sd_L_fits (X : am_X) (K : am_P) (F : am_F X cL_fits yL_fits.cls (some .int) (am_wsT yL_fits cL_fits 4 (some .int) [(0, 9, 12, 21), (0, 9, 15, 67)])) (FQ : am_FQ X K rm_L_fits.cells rm_L_fits.slots) (hR : am_Rm X rm_L_fits) (hT : am_T X [(0, 9, 12, 21), (0, 9, 15, 67)]) (hn : am_nL X = 4) : cl_L_fits K (am_G X) := by
  have ts : ∀ w ∈ am_WS, w ∈ am_wsT yL_fits cL_fits 4 (some .int) [(0, 9, 12, 21), (0, 9, 15, 67)] := fun w h => List.mem_cons_of_mem _ h
  exact ms_aload_n F (am_dk (q := (0, .aload_n 2, 1)) dk_L_fits_0 0 rfl) rfl (ms_iconst F (am_dk (q := (1, .iconst 0, 1)) dk_L_fits_0 1 rfl) (by decide +kernel) (ms_aload_n F (am_dk (q := (2, .aload_n 0, 1)) dk_L_fits_0 2 rfl) rfl (ms_iload_n F (am_dk (q := (3, .iload_n 1, 1)) dk_L_fits_0 3 rfl) rfl (ms_callV F hR (ci := 7) (r9 := (RX7, TX7, 16)) (y := yX7_fits) (maxL := 5) (rm' := rm_X7_fits) (na := 1) ct_X7_fits wd_992 wd_1 wd_989 wd_990 wd_991 rfl (by decide +kernel) (by decide) (am_dk (q := (4, .invokevirtual 122, 3)) dk_L_fits_0 4 rfl) (ms_hdl_c (ms_cat F FQ hT (C := "java/lang/IndexOutOfBoundsException") (name := "java/lang/IndexOutOfBoundsException") [] ⟨0, 9, 12, 21⟩ [⟨0, 9, 15, 67⟩] rfl (fun _ h => absurd h List.not_mem_nil) (by decide) (by decide) (ts _ wd_503) wn_513 hn (by decide : 3 < 4) (Or.inl ⟨3, rfl, (am_dk (q := (12, .astore_n 3, 1)) dk_L_fits_0 8 rfl), rfl⟩) (am_dk (q := (13, .iconst 1, 1)) dk_L_fits_0 9 rfl) (by decide +kernel) (am_dk (q := (14, .ireturn, 1)) dk_L_fits_0 10 rfl) rfl) (ms_hdl_c (ms_cat F FQ hT (C := "java/util/NoSuchElementException") (name := "java/util/NoSuchElementException") [⟨0, 9, 12, 21⟩] ⟨0, 9, 15, 67⟩ [] rfl (List.forall_mem_cons.mpr ⟨⟨by decide, "java/lang/IndexOutOfBoundsException", ts _ wd_503, by decide +kernel⟩, (fun _ h => absurd h List.not_mem_nil)⟩) (by decide) (by decide) (ts _ wd_781) wn_792 hn (by decide : 3 < 4) (Or.inl ⟨3, rfl, (am_dk (q := (15, .astore_n 3, 1)) dk_L_fits_0 11 rfl), rfl⟩) (am_dk (q := (16, .iconst 2, 1)) dk_L_fits_0 12 rfl) (by decide +kernel) (am_dk (q := (17, .ireturn, 1)) dk_L_fits_0 13 rfl) rfl) (ms_hdl_n _ _))) (ms_i2l F (am_dk (q := (7, .i2l, 1)) dk_L_fits_0 5 rfl) (ms_lastore F (am_dk (q := (8, .lastore, 1)) dk_L_fits_0 6 rfl) (ms_goto F (tgt := 18) (am_dk (q := (9, .goto 9, 3)) dk_L_fits_0 7 rfl) (by decide) (ms_iconst F (am_dk (q := (18, .iconst 0, 1)) dk_L_fits_0 14 rfl) (by decide +kernel) (ms_iret F FQ rfl (am_dk (q := (19, .ireturn, 1)) dk_L_fits_0 15 rfl))))))))))
theorem ct_L_fits (l : Launch) (htr : l.stackTraces = false) : am_Ct l yL_fits (am_wsT yL_fits cL_fits 4 (some .int) [(0, 9, 12, 21), (0, 9, 15, 67)]) rm_L_fits sp_L_fits := am_ofH htr (by decide) wd_988 (fun X K F FQ hR hT hn as n E hS => f_L_fits K (am_G X) (sd_L_fits X K F FQ hR hT hn) as n E hS)
