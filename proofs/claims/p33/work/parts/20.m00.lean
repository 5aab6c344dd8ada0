def sp_X5_init : am_S := fun as n E K => ∃ (t : Nat), as = [.ref t] ∧ t < n ∧ E t = some (.inr (5, [.null])) ∧ K (.inl none) (n + 1) (am_u (am_u E n (.inl (0, 144, .inl (fun k => if k < 144 then -2 else 0)))) t (.inr (5, [.ref n])))
def rm_X5_init : Room := { frames := 1, cells := 1, slots := 144, locals := 20 }
theorem rmc_X5_init : rm_X5_init.cells = 1 := rfl
theorem rms_X5_init : rm_X5_init.slots = 144 := rfl
def bk_X5_init_0 (K : am_P) (G : Nat → am_C) : am_C := o_aload 0 <| o_oinit <| o_aload 0 <| o_pi 144 <| o_newa 0 rm_X5_init.cells rm_X5_init.slots <| o_putf 5 0 (.array .int) <| o_pi 0 <| o_istore 1 <| (G 15)
def bk_X5_init_15 (K : am_P) (G : Nat → am_C) : am_C := o_iload 1 <| o_pi 144 <| o_ic_ge (o_vret K) (o_aload 0 <| o_getf 5 0 <| o_iload 1 <| o_pi (-2) <| o_ist 0 .int <| o_iinc 1 1 <| (G 15))
def cl_X5_init (K : am_P) (G : Nat → am_C) : Prop := am_imp (bk_X5_init_0 K G) (G 0) ∧ am_imp (bk_X5_init_15 K G) (G 15)
theorem f_X5_init (K : am_P) (G : Nat → am_C) (hC : cl_X5_init K G) (as : List Value) (n : Nat) (E : am_E) (hS : sp_X5_init as n E K) : (am_sl as).length ≤ 2 ∧ G 0 (am_inl 2 as) [] n E 0 0 := by
  obtain ⟨t, rfl, ht, h1, hK⟩ := hS
  refine ⟨by simp [am_sl, Value.category], ?_⟩
  have e1 : t ≠ n := by omega
  have loop := am_for (fun i => G 15 [some (.ref t), some (.int (nI i))] [] (n + 1) (am_u (am_u E t (.inr (5, [.ref n]))) n (.inl (0, 144, .inl (fun k => if k < i then -2 else 0)))) 1 144) 144 (by
    apply hC.2
    simp only [↓xaa_0, ↓xar_0, ↓xinc_1i, ↓xinc_1a, ↓xinc_1n, ↓xii_1, ↓xisi_1i, ↓xisi_1a, ↓xisi_1n, ↓xpi, ↓xic, bk_X5_init_0, bk_X5_init_15, o_pi, o_iload, o_aload, o_istore, o_iinc, o_ic_ge, o_if, o_ic, o_getf, o_putf, o_ist, o_newa, o_oinit, o_vret, o_call, am_kc, am_noX, am_s1, am_s2, am_kill, am_inl, am_sl, Value.category, List.getElem?_cons_zero, List.getElem?_cons_succ, List.set_cons_zero, List.set_cons_succ, List.length_cons, List.length_nil, List.take_succ_cons, List.take_zero, List.drop_succ_cons, List.drop_zero, List.reverse_cons, List.reverse_nil, List.nil_append, List.cons_append, List.append_nil, List.map_cons, List.map_nil, List.sum_cons, List.sum_nil, List.replicate_succ, List.replicate_zero, Nat.zero_add, Nat.add_zero, Nat.le_refl, Nat.zero_le, ite_true, ite_false, if_true, if_false, true_and, and_true, eq_self, not_true_eq_false, not_false_eq_true, am_nb0, am_nb1, am_ni, am_fi, am_fr, am_fra, am_fz0, am_fz1, am_fl, am_uE, am_vnI, am_uu, am_ltx, ite_not, Classical.not_not, reduceIte, reduceCtorEq, Nat.reduceEqDiff, Nat.reduceAdd, Nat.reduceSub, Nat.reduceMul, Nat.reduceLeDiff, Nat.reduceLT, Int32.reduceLE, Int32.reduceLT, am_10, am_01, am_ite0, am_ite1, ms_boT, ms_boF, rmc_X5_init, rms_X5_init, h1]
    rw [am_uc e1]
    exact hK) (fun i hi hn => by
    apply hC.2
    have e144 : (144 : Int32) = nI 144 := rfl
    have e : upd (fun k => if k < i then (-2 : Int32) else 0) i (-2) = (fun k => if k < i + 1 then -2 else 0) := by
      funext k
      by_cases hk : k = i
      · subst hk
        simp [upd]
      · by_cases h9 : k < i
        · simp [upd, hk, h9, show k < i + 1 by omega]
        · simp [upd, hk, h9, show ¬ k < i + 1 by omega]
    simp only [↓xaa_0, ↓xar_0, ↓xinc_1i, ↓xinc_1a, ↓xinc_1n, ↓xii_1, ↓xisi_1i, ↓xisi_1a, ↓xisi_1n, ↓xpi, ↓xic, bk_X5_init_0, bk_X5_init_15, o_pi, o_iload, o_aload, o_istore, o_iinc, o_ic_ge, o_if, o_ic, o_getf, o_putf, o_ist, o_newa, o_oinit, o_vret, o_call, am_kc, am_noX, am_s1, am_s2, am_kill, am_inl, am_sl, Value.category, List.getElem?_cons_zero, List.getElem?_cons_succ, List.set_cons_zero, List.set_cons_succ, List.length_cons, List.length_nil, List.take_succ_cons, List.take_zero, List.drop_succ_cons, List.drop_zero, List.reverse_cons, List.reverse_nil, List.nil_append, List.cons_append, List.append_nil, List.map_cons, List.map_nil, List.sum_cons, List.sum_nil, List.replicate_succ, List.replicate_zero, Nat.zero_add, Nat.add_zero, Nat.le_refl, Nat.zero_le, ite_true, ite_false, if_true, if_false, true_and, and_true, eq_self, not_true_eq_false, not_false_eq_true, am_nb0, am_nb1, am_ni, am_fi, am_fr, am_fra, am_fz0, am_fz1, am_fl, am_uE, am_vnI, am_uu, am_ltx, ite_not, Classical.not_not, reduceIte, reduceCtorEq, Nat.reduceEqDiff, Nat.reduceAdd, Nat.reduceSub, Nat.reduceMul, Nat.reduceLeDiff, Nat.reduceLT, Int32.reduceLE, Int32.reduceLT, am_10, am_01, am_ite0, am_ite1, ms_boT, ms_boF, rmc_X5_init, rms_X5_init, am_uN e1, am_uN (Ne.symm e1), e144, am_geN (show 144 < 2 ^ 31 by decide) (show i < 2 ^ 31 by omega), show ¬ 144 ≤ i by omega, am_vi hi (by decide), am_cl (show i < 2 ^ 31 by omega), nI_1, e]
    exact hn)
  apply hC.1
  simp only [↓xaa_0, ↓xar_0, ↓xinc_1i, ↓xinc_1a, ↓xinc_1n, ↓xii_1, ↓xisi_1i, ↓xisi_1a, ↓xisi_1n, ↓xpi, ↓xic, bk_X5_init_0, bk_X5_init_15, o_pi, o_iload, o_aload, o_istore, o_iinc, o_ic_ge, o_if, o_ic, o_getf, o_putf, o_ist, o_newa, o_oinit, o_vret, o_call, am_kc, am_noX, am_s1, am_s2, am_kill, am_inl, am_sl, Value.category, List.getElem?_cons_zero, List.getElem?_cons_succ, List.set_cons_zero, List.set_cons_succ, List.length_cons, List.length_nil, List.take_succ_cons, List.take_zero, List.drop_succ_cons, List.drop_zero, List.reverse_cons, List.reverse_nil, List.nil_append, List.cons_append, List.append_nil, List.map_cons, List.map_nil, List.sum_cons, List.sum_nil, List.replicate_succ, List.replicate_zero, Nat.zero_add, Nat.add_zero, Nat.le_refl, Nat.zero_le, ite_true, ite_false, if_true, if_false, true_and, and_true, eq_self, not_true_eq_false, not_false_eq_true, am_nb0, am_nb1, am_ni, am_fi, am_fr, am_fra, am_fz0, am_fz1, am_fl, am_uE, am_vnI, am_uu, am_ltx, ite_not, Classical.not_not, reduceIte, reduceCtorEq, Nat.reduceEqDiff, Nat.reduceAdd, Nat.reduceSub, Nat.reduceMul, Nat.reduceLeDiff, Nat.reduceLT, Int32.reduceLE, Int32.reduceLT, am_10, am_01, am_ite0, am_ite1, ms_boT, ms_boF, rmc_X5_init, rms_X5_init, h1, am_uN e1, am_clL 144 (by decide)]
  have h0 := loop 0 (by omega)
  rw [am_uc e1] at h0
  have e0 : (fun k => if k < 0 then (-2 : Int32) else 0) = fun _ => 0 := by
    funext k
    simp
  rw [e0] at h0
  exact h0
set_option maxRecDepth 100000 in
set_option maxHeartbeats 4000000 in
theorem sd_X5_init (X : am_X) (K : am_P) (F : am_F X cX5_init yX5_init.cls none (am_ws yX5_init cX5_init 2 none)) (FQ : am_FQ X K rm_X5_init.cells rm_X5_init.slots) (hR : am_Rm X rm_X5_init) (hT : am_noT X) (hn : am_nL X = 2) (hini : am_ini X) : cl_X5_init K (am_G X) := by
  have ts : ∀ w ∈ am_WS, w ∈ am_ws yX5_init cX5_init 2 none := fun w h => List.mem_cons_of_mem _ h
  exact ⟨ms_aload_n F (am_dk (q := (0, .aload_n 0, 1)) dk_X5_init_0 0 rfl) rfl (ms_oinit F hR (by decide) (by decide) (ts _ wd_39) (ts _ oi_inst) (ts _ oi_code) (am_dk (q := (1, .invokespecial 3, 3)) dk_X5_init_0 1 rfl) (ms_aload_n F (am_dk (q := (4, .aload_n 0, 1)) dk_X5_init_0 2 rfl) rfl (ms_sipush F (am_dk (q := (5, .sipush 144, 3)) dk_X5_init_0 3 rfl) (by decide +kernel) (ms_newa F hR (t := 0) (atype := .int) (by decide) (ts _ wd_44) (am_dk (q := (8, .newarray .int, 2)) dk_X5_init_0 4 rfl) (ms_putfF F (ty := (.array .int)) (ty0 := tyX5) (C := RX5) (T := TX5) (N := 1) (j := 0) (fun w h => ts _ (inw_X5 w h)) rfl (by decide) tyX5_ok nmX5 (by decide +kernel) rfl hini rfl (ts _ wd_40) (am_dk (q := (10, .putfield 9, 3)) dk_X5_init_0 5 rfl) (ms_iconst F (am_dk (q := (13, .iconst 0, 1)) dk_X5_init_0 6 rfl) (by decide +kernel) (ms_istore_n F (am_dk (q := (14, .istore_n 1, 1)) dk_X5_init_0 7 rfl) rfl hn (by decide) ((am_id _))))))))),
    ms_iload_n F (am_dk (q := (15, .iload_n 1, 1)) dk_X5_init_0 8 rfl) rfl (ms_sipush F (am_dk (q := (16, .sipush 144, 3)) dk_X5_init_0 9 rfl) (by decide +kernel) (ms_ic_ge F (tgt := 36) (am_dk (q := (19, .if_icmp .ge 17, 3)) dk_X5_init_0 10 rfl) (by decide) (ms_vret F FQ rfl (am_dk (q := (36, .return_, 1)) dk_X5_init_1 2 rfl)) (ms_aload_n F (am_dk (q := (22, .aload_n 0, 1)) dk_X5_init_0 11 rfl) rfl (ms_getf F (C := RX5) (T := TX5) (N := 1) (j := 0) (fun w h => ts _ (inw_X5 w h)) rfl (by decide) (ts _ wd_40) (am_dk (q := (23, .getfield 9, 3)) dk_X5_init_0 12 rfl) (ms_iload_n F (am_dk (q := (26, .iload_n 1, 1)) dk_X5_init_0 13 rfl) rfl (ms_bipush F (am_dk (q := (27, .bipush (-2), 2)) dk_X5_init_0 14 rfl) (by decide +kernel) (ms_iastore F (am_dk (q := (29, .iastore, 1)) dk_X5_init_0 15 rfl) (ms_iinc F (am_dk (q := (30, .iinc 1 1, 3)) dk_X5_init_1 0 rfl) (by decide +kernel) hn (by decide) (ms_goto F (tgt := 15) (am_dk (q := (33, .goto (-18), 3)) dk_X5_init_1 1 rfl) (by decide) ((am_id _)))))))))))⟩
theorem ct_X5_init (l : Launch) (htr : l.stackTraces = false) : am_Ct l yX5_init (am_ws yX5_init cX5_init 2 none) rm_X5_init sp_X5_init := am_of htr (by decide) wd_38 (fun X K F FQ hR hT hn hi as n E hS => f_X5_init K (am_G X) (sd_X5_init X K F FQ hR hT hn (hi rfl)) as n E hS)
def sp_X0_init : am_S := fun as n E K => ∃ (t : Nat) (a b c : Value), as = [.ref t] ∧ E t = some (.inr (0, [a, b, c])) ∧ K (.inl none) n (am_u E t (.inr (0, [.int 0, .int 1, .int 0])))
def rm_X0_init : Room := { frames := 1, cells := 0, slots := 0, locals := 20 }
theorem rmc_X0_init : rm_X0_init.cells = 0 := rfl
theorem rms_X0_init : rm_X0_init.slots = 0 := rfl
def bk_X0_init_0 (K : am_P) (G : Nat → am_C) : am_C := o_aload 0 <| o_oinit <| o_aload 0 <| o_pi 0 <| o_putf 0 0 .int <| o_aload 0 <| o_pi 1 <| o_putf 0 1 .int <| o_aload 0 <| o_pi 0 <| o_putf 0 2 .int <| o_vret K
def cl_X0_init (K : am_P) (G : Nat → am_C) : Prop := am_imp (bk_X0_init_0 K G) (G 0)
theorem f_X0_init (K : am_P) (G : Nat → am_C) (hC : cl_X0_init K G) (as : List Value) (n : Nat) (E : am_E) (hS : sp_X0_init as n E K) : (am_sl as).length ≤ 1 ∧ G 0 (am_inl 1 as) [] n E 0 0 := by
  obtain ⟨t, a, b, c, rfl, h1, hK⟩ := hS
  refine ⟨by simp [am_sl, Value.category], ?_⟩
  apply hC
  simp only [↓xaa_0, ↓xar_0, ↓xpi, bk_X0_init_0, o_pi, o_aload, o_if, o_ic, o_putf, o_oinit, o_vret, o_call, am_kc, am_noX, am_s1, am_s2, am_kill, am_inl, am_sl, Value.category, List.getElem?_cons_zero, List.getElem?_cons_succ, List.set_cons_zero, List.set_cons_succ, List.length_cons, List.length_nil, List.take_succ_cons, List.take_zero, List.drop_succ_cons, List.drop_zero, List.reverse_cons, List.reverse_nil, List.nil_append, List.cons_append, List.append_nil, List.map_cons, List.map_nil, List.sum_cons, List.sum_nil, List.replicate_succ, List.replicate_zero, Nat.zero_add, Nat.add_zero, Nat.le_refl, Nat.zero_le, ite_true, ite_false, if_true, if_false, true_and, and_true, eq_self, not_true_eq_false, not_false_eq_true, am_nb0, am_nb1, am_ni, am_fi, am_fr, am_fra, am_fz0, am_fz1, am_fl, am_uE, am_vnI, am_uu, am_ltx, ite_not, Classical.not_not, reduceIte, reduceCtorEq, Nat.reduceEqDiff, Nat.reduceAdd, Nat.reduceSub, Nat.reduceMul, Nat.reduceLeDiff, Nat.reduceLT, Int32.reduceLE, Int32.reduceLT, am_10, am_01, am_ite0, am_ite1, ms_boT, ms_boF, rmc_X0_init, rms_X0_init, h1]
  exact hK
set_option maxRecDepth 100000 in
set_option maxHeartbeats 4000000 in
theorem sd_X0_init (X : am_X) (K : am_P) (F : am_F X cX0_init yX0_init.cls none (am_ws yX0_init cX0_init 1 none)) (FQ : am_FQ X K rm_X0_init.cells rm_X0_init.slots) (hR : am_Rm X rm_X0_init) (hT : am_noT X) (hn : am_nL X = 1) (hini : am_ini X) : cl_X0_init K (am_G X) := by
  have ts : ∀ w ∈ am_WS, w ∈ am_ws yX0_init cX0_init 1 none := fun w h => List.mem_cons_of_mem _ h
  exact ms_aload_n F (am_dk (q := (0, .aload_n 0, 1)) dk_X0_init_0 0 rfl) rfl (ms_oinit F hR (by decide) (by decide) (ts _ wd_54) (ts _ oi_inst) (ts _ oi_code) (am_dk (q := (1, .invokespecial 3, 3)) dk_X0_init_0 1 rfl) (ms_aload_n F (am_dk (q := (4, .aload_n 0, 1)) dk_X0_init_0 2 rfl) rfl (ms_iconst F (am_dk (q := (5, .iconst 0, 1)) dk_X0_init_0 3 rfl) (by decide +kernel) (ms_putf F (ty := .int) (ty0 := tyX0) (C := RX0) (T := TX0) (N := 3) (j := 0) (fun w h => ts _ (inw_X0 w h)) rfl (by decide) tyX0_ok nmX0 (by decide +kernel) rfl (ts _ wd_55) (am_dk (q := (6, .putfield 9, 3)) dk_X0_init_0 4 rfl) (ms_aload_n F (am_dk (q := (9, .aload_n 0, 1)) dk_X0_init_0 5 rfl) rfl (ms_iconst F (am_dk (q := (10, .iconst 1, 1)) dk_X0_init_0 6 rfl) (by decide +kernel) (ms_putf F (ty := .int) (ty0 := tyX0) (C := RX0) (T := TX0) (N := 3) (j := 1) (fun w h => ts _ (inw_X0 w h)) rfl (by decide) tyX0_ok nmX0 (by decide +kernel) rfl (ts _ wd_56) (am_dk (q := (11, .putfield 15, 3)) dk_X0_init_0 7 rfl) (ms_aload_n F (am_dk (q := (14, .aload_n 0, 1)) dk_X0_init_0 8 rfl) rfl (ms_iconst F (am_dk (q := (15, .iconst 0, 1)) dk_X0_init_0 9 rfl) (by decide +kernel) (ms_putf F (ty := .int) (ty0 := tyX0) (C := RX0) (T := TX0) (N := 3) (j := 2) (fun w h => ts _ (inw_X0 w h)) rfl (by decide) tyX0_ok nmX0 (by decide +kernel) rfl (ts _ wd_58) (am_dk (q := (16, .putfield 18, 3)) dk_X0_init_0 10 rfl) (ms_vret F FQ rfl (am_dk (q := (19, .return_, 1)) dk_X0_init_0 11 rfl))))))))))))
theorem ct_X0_init (l : Launch) (htr : l.stackTraces = false) : am_Ct l yX0_init (am_ws yX0_init cX0_init 1 none) rm_X0_init sp_X0_init := am_of htr (by decide) wd_53 (fun X K F FQ hR hT hn hi as n E hS => f_X0_init K (am_G X) (sd_X0_init X K F FQ hR hT hn (hi rfl)) as n E hS)
def sp_X3_init : am_S := fun as n E K => ∃ (t : Nat), as = [.ref t] ∧ t < n ∧ E t = some (.inr (3, [.null, .null])) ∧ K (.inl none) (n + 2) (am_u (am_u (am_u E n (.inl (0, am_z 0 12))) (n + 1) (.inl (0, am_z 0 12))) t (.inr (3, [.ref n, .ref (n + 1)])))
def rm_X3_init : Room := { frames := 1, cells := 2, slots := 24, locals := 20 }
theorem rmc_X3_init : rm_X3_init.cells = 2 := rfl
theorem rms_X3_init : rm_X3_init.slots = 24 := rfl
def bk_X3_init_0 (K : am_P) (G : Nat → am_C) : am_C := o_aload 0 <| o_oinit <| o_aload 0 <| o_pi 12 <| o_newa 0 rm_X3_init.cells rm_X3_init.slots <| o_putf 3 0 (.array .int) <| o_aload 0 <| o_pi 12 <| o_newa 0 rm_X3_init.cells rm_X3_init.slots <| o_putf 3 1 (.array .int) <| o_vret K
def cl_X3_init (K : am_P) (G : Nat → am_C) : Prop := am_imp (bk_X3_init_0 K G) (G 0)
theorem f_X3_init (K : am_P) (G : Nat → am_C) (hC : cl_X3_init K G) (as : List Value) (n : Nat) (E : am_E) (hS : sp_X3_init as n E K) : (am_sl as).length ≤ 1 ∧ G 0 (am_inl 1 as) [] n E 0 0 := by
  obtain ⟨t, rfl, ht, h1, hK⟩ := hS
  refine ⟨by simp [am_sl, Value.category], ?_⟩
  apply hC
  have e1 : t ≠ n := by omega
  have e2 : t ≠ n + 1 := by omega
  simp only [↓xaa_0, ↓xar_0, ↓xpi, bk_X3_init_0, o_pi, o_aload, o_if, o_ic, o_putf, o_newa, o_oinit, o_vret, o_call, am_kc, am_noX, am_s1, am_s2, am_kill, am_inl, am_sl, Value.category, List.getElem?_cons_zero, List.getElem?_cons_succ, List.set_cons_zero, List.set_cons_succ, List.length_cons, List.length_nil, List.take_succ_cons, List.take_zero, List.drop_succ_cons, List.drop_zero, List.reverse_cons, List.reverse_nil, List.nil_append, List.cons_append, List.append_nil, List.map_cons, List.map_nil, List.sum_cons, List.sum_nil, List.replicate_succ, List.replicate_zero, Nat.zero_add, Nat.add_zero, Nat.le_refl, Nat.zero_le, ite_true, ite_false, if_true, if_false, true_and, and_true, eq_self, not_true_eq_false, not_false_eq_true, am_nb0, am_nb1, am_ni, am_fi, am_fr, am_fra, am_fz0, am_fz1, am_fl, am_uE, am_vnI, am_uu, am_ltx, ite_not, Classical.not_not, reduceIte, reduceCtorEq, Nat.reduceEqDiff, Nat.reduceAdd, Nat.reduceSub, Nat.reduceMul, Nat.reduceLeDiff, Nat.reduceLT, Int32.reduceLE, Int32.reduceLT, am_10, am_01, am_ite0, am_ite1, ms_boT, ms_boF, rmc_X3_init, rms_X3_init, h1, am_uN e1, am_uN e2, am_clL 12 (by decide), Nat.reduceAdd]
  rw [am_uc e2, am_uu]
  exact hK
set_option maxRecDepth 100000 in
set_option maxHeartbeats 4000000 in
theorem sd_X3_init (X : am_X) (K : am_P) (F : am_F X cX3_init yX3_init.cls none (am_ws yX3_init cX3_init 1 none)) (FQ : am_FQ X K rm_X3_init.cells rm_X3_init.slots) (hR : am_Rm X rm_X3_init) (hT : am_noT X) (hn : am_nL X = 1) (hini : am_ini X) : cl_X3_init K (am_G X) := by
  have ts : ∀ w ∈ am_WS, w ∈ am_ws yX3_init cX3_init 1 none := fun w h => List.mem_cons_of_mem _ h
  exact ms_aload_n F (am_dk (q := (0, .aload_n 0, 1)) dk_X3_init_0 0 rfl) rfl (ms_oinit F hR (by decide) (by decide) (ts _ wd_72) (ts _ oi_inst) (ts _ oi_code) (am_dk (q := (1, .invokespecial 3, 3)) dk_X3_init_0 1 rfl) (ms_aload_n F (am_dk (q := (4, .aload_n 0, 1)) dk_X3_init_0 2 rfl) rfl (ms_bipush F (am_dk (q := (5, .bipush 12, 2)) dk_X3_init_0 3 rfl) (by decide +kernel) (ms_newa F hR (t := 0) (atype := .int) (by decide) (ts _ wd_44) (am_dk (q := (7, .newarray .int, 2)) dk_X3_init_0 4 rfl) (ms_putfF F (ty := (.array .int)) (ty0 := tyX3) (C := RX3) (T := TX3) (N := 2) (j := 0) (fun w h => ts _ (inw_X3 w h)) rfl (by decide) tyX3_ok nmX3 (by decide +kernel) rfl hini rfl (ts _ wd_73) (am_dk (q := (9, .putfield 9, 3)) dk_X3_init_0 5 rfl) (ms_aload_n F (am_dk (q := (12, .aload_n 0, 1)) dk_X3_init_0 6 rfl) rfl (ms_bipush F (am_dk (q := (13, .bipush 12, 2)) dk_X3_init_0 7 rfl) (by decide +kernel) (ms_newa F hR (t := 0) (atype := .int) (by decide) (ts _ wd_44) (am_dk (q := (15, .newarray .int, 2)) dk_X3_init_0 8 rfl) (ms_putfF F (ty := (.array .int)) (ty0 := tyX3) (C := RX3) (T := TX3) (N := 2) (j := 1) (fun w h => ts _ (inw_X3 w h)) rfl (by decide) tyX3_ok nmX3 (by decide +kernel) rfl hini rfl (ts _ wd_74) (am_dk (q := (17, .putfield 15, 3)) dk_X3_init_0 9 rfl) (ms_vret F FQ rfl (am_dk (q := (20, .return_, 1)) dk_X3_init_0 10 rfl)))))))))))
theorem ct_X3_init (l : Launch) (htr : l.stackTraces = false) : am_Ct l yX3_init (am_ws yX3_init cX3_init 1 none) rm_X3_init sp_X3_init := am_of htr (by decide) wd_71 (fun X K F FQ hR hT hn hi as n E hS => f_X3_init K (am_G X) (sd_X3_init X K F FQ hR hT hn (hi rfl)) as n E hS)
def sp_X6_init : am_S := fun as n E K => ∃ (t : Nat), as = [.ref t] ∧ t < n ∧ E t = some (.inr (6, [.null])) ∧ K (.inl none) (n + 1) (am_u (am_u E n (.inl (1, am_z 1 32))) t (.inr (6, [.ref n])))
def rm_X6_init : Room := { frames := 1, cells := 1, slots := 32, locals := 20 }
theorem rmc_X6_init : rm_X6_init.cells = 1 := rfl
theorem rms_X6_init : rm_X6_init.slots = 32 := rfl
def bk_X6_init_0 (K : am_P) (G : Nat → am_C) : am_C := o_aload 0 <| o_oinit <| o_aload 0 <| o_pi 32 <| o_newa 1 rm_X6_init.cells rm_X6_init.slots <| o_putf 6 0 (.array .long) <| o_vret K
def cl_X6_init (K : am_P) (G : Nat → am_C) : Prop := am_imp (bk_X6_init_0 K G) (G 0)
theorem f_X6_init (K : am_P) (G : Nat → am_C) (hC : cl_X6_init K G) (as : List Value) (n : Nat) (E : am_E) (hS : sp_X6_init as n E K) : (am_sl as).length ≤ 1 ∧ G 0 (am_inl 1 as) [] n E 0 0 := by
  obtain ⟨t, rfl, ht, h1, hK⟩ := hS
  refine ⟨by simp [am_sl, Value.category], ?_⟩
  apply hC
  have e1 : t ≠ n := by omega
  simp only [↓xaa_0, ↓xar_0, ↓xpi, bk_X6_init_0, o_pi, o_aload, o_if, o_ic, o_putf, o_newa, o_oinit, o_vret, o_call, am_kc, am_noX, am_s1, am_s2, am_kill, am_inl, am_sl, Value.category, List.getElem?_cons_zero, List.getElem?_cons_succ, List.set_cons_zero, List.set_cons_succ, List.length_cons, List.length_nil, List.take_succ_cons, List.take_zero, List.drop_succ_cons, List.drop_zero, List.reverse_cons, List.reverse_nil, List.nil_append, List.cons_append, List.append_nil, List.map_cons, List.map_nil, List.sum_cons, List.sum_nil, List.replicate_succ, List.replicate_zero, Nat.zero_add, Nat.add_zero, Nat.le_refl, Nat.zero_le, ite_true, ite_false, if_true, if_false, true_and, and_true, eq_self, not_true_eq_false, not_false_eq_true, am_nb0, am_nb1, am_ni, am_fi, am_fr, am_fra, am_fz0, am_fz1, am_fl, am_uE, am_vnI, am_uu, am_ltx, ite_not, Classical.not_not, reduceIte, reduceCtorEq, Nat.reduceEqDiff, Nat.reduceAdd, Nat.reduceSub, Nat.reduceMul, Nat.reduceLeDiff, Nat.reduceLT, Int32.reduceLE, Int32.reduceLT, am_10, am_01, am_ite0, am_ite1, ms_boT, ms_boF, rmc_X6_init, rms_X6_init, h1, am_uN e1, am_clL 32 (by decide)]
  exact hK
set_option maxRecDepth 100000 in
set_option maxHeartbeats 4000000 in
theorem sd_X6_init (X : am_X) (K : am_P) (F : am_F X cX6_init yX6_init.cls none (am_ws yX6_init cX6_init 1 none)) (FQ : am_FQ X K rm_X6_init.cells rm_X6_init.slots) (hR : am_Rm X rm_X6_init) (hT : am_noT X) (hn : am_nL X = 1) (hini : am_ini X) : cl_X6_init K (am_G X) := by
  have ts : ∀ w ∈ am_WS, w ∈ am_ws yX6_init cX6_init 1 none := fun w h => List.mem_cons_of_mem _ h
  exact ms_aload_n F (am_dk (q := (0, .aload_n 0, 1)) dk_X6_init_0 0 rfl) rfl (ms_oinit F hR (by decide) (by decide) (ts _ wd_85) (ts _ oi_inst) (ts _ oi_code) (am_dk (q := (1, .invokespecial 3, 3)) dk_X6_init_0 1 rfl) (ms_aload_n F (am_dk (q := (4, .aload_n 0, 1)) dk_X6_init_0 2 rfl) rfl (ms_bipush F (am_dk (q := (5, .bipush 32, 2)) dk_X6_init_0 3 rfl) (by decide +kernel) (ms_newa F hR (t := 1) (atype := .long) (by decide) (ts _ wd_90) (am_dk (q := (7, .newarray .long, 2)) dk_X6_init_0 4 rfl) (ms_putfF F (ty := (.array .long)) (ty0 := tyX6) (C := RX6) (T := TX6) (N := 1) (j := 0) (fun w h => ts _ (inw_X6 w h)) rfl (by decide) tyX6_ok nmX6 (by decide +kernel) rfl hini rfl (ts _ wd_86) (am_dk (q := (9, .putfield 11, 3)) dk_X6_init_0 5 rfl) (ms_vret F FQ rfl (am_dk (q := (12, .return_, 1)) dk_X6_init_0 6 rfl)))))))
theorem ct_X6_init (l : Launch) (htr : l.stackTraces = false) : am_Ct l yX6_init (am_ws yX6_init cX6_init 1 none) rm_X6_init sp_X6_init := am_of htr (by decide) wd_84 (fun X K F FQ hR hT hn hi as n E hS => f_X6_init K (am_G X) (sd_X6_init X K F FQ hR hT hn (hi rfl)) as n E hS)
def sp_X1_init : am_S := fun as n E K => ∃ (t : Nat), as = [.ref t] ∧ t < n ∧ E t = some (.inr (1, [.null, .null])) ∧ K (.inl none) (n + 2) (am_u (am_u (am_u E n (.inl (0, am_z 0 4))) (n + 1) (.inl (0, am_z 0 4))) t (.inr (1, [.ref n, .ref (n + 1)])))
def rm_X1_init : Room := { frames := 1, cells := 2, slots := 8, locals := 20 }
theorem rmc_X1_init : rm_X1_init.cells = 2 := rfl
theorem rms_X1_init : rm_X1_init.slots = 8 := rfl
def bk_X1_init_0 (K : am_P) (G : Nat → am_C) : am_C := o_aload 0 <| o_oinit <| o_aload 0 <| o_pi 4 <| o_newa 0 rm_X1_init.cells rm_X1_init.slots <| o_putf 1 0 (.array .int) <| o_aload 0 <| o_pi 4 <| o_newa 0 rm_X1_init.cells rm_X1_init.slots <| o_putf 1 1 (.array .int) <| o_vret K
def cl_X1_init (K : am_P) (G : Nat → am_C) : Prop := am_imp (bk_X1_init_0 K G) (G 0)
theorem f_X1_init (K : am_P) (G : Nat → am_C) (hC : cl_X1_init K G) (as : List Value) (n : Nat) (E : am_E) (hS : sp_X1_init as n E K) : (am_sl as).length ≤ 1 ∧ G 0 (am_inl 1 as) [] n E 0 0 := by
  obtain ⟨t, rfl, ht, h1, hK⟩ := hS
  refine ⟨by simp [am_sl, Value.category], ?_⟩
  apply hC
  have e1 : t ≠ n := by omega
  have e2 : t ≠ n + 1 := by omega
  simp only [↓xaa_0, ↓xar_0, ↓xpi, bk_X1_init_0, o_pi, o_aload, o_if, o_ic, o_putf, o_newa, o_oinit, o_vret, o_call, am_kc, am_noX, am_s1, am_s2, am_kill, am_inl, am_sl, Value.category, List.getElem?_cons_zero, List.getElem?_cons_succ, List.set_cons_zero, List.set_cons_succ, List.length_cons, List.length_nil, List.take_succ_cons, List.take_zero, List.drop_succ_cons, List.drop_zero, List.reverse_cons, List.reverse_nil, List.nil_append, List.cons_append, List.append_nil, List.map_cons, List.map_nil, List.sum_cons, List.sum_nil, List.replicate_succ, List.replicate_zero, Nat.zero_add, Nat.add_zero, Nat.le_refl, Nat.zero_le, ite_true, ite_false, if_true, if_false, true_and, and_true, eq_self, not_true_eq_false, not_false_eq_true, am_nb0, am_nb1, am_ni, am_fi, am_fr, am_fra, am_fz0, am_fz1, am_fl, am_uE, am_vnI, am_uu, am_ltx, ite_not, Classical.not_not, reduceIte, reduceCtorEq, Nat.reduceEqDiff, Nat.reduceAdd, Nat.reduceSub, Nat.reduceMul, Nat.reduceLeDiff, Nat.reduceLT, Int32.reduceLE, Int32.reduceLT, am_10, am_01, am_ite0, am_ite1, ms_boT, ms_boF, rmc_X1_init, rms_X1_init, h1, am_uN e1, am_uN e2, am_clL 4 (by decide), Nat.reduceAdd]
  rw [am_uc e2, am_uu] 


  exact hK
set_option maxRecDepth 100000 in
set_option maxHeartbeats 4000000 in
theorem sd_X1_init (X : am_X) (K : am_P) (F : am_F X cX1_init yX1_init.cls none (am_ws yX1_init cX1_init 1 none)) (FQ : am_FQ X K rm_X1_init.cells rm_X1_init.slots) (hR : am_Rm X rm_X1_init) (hT : am_noT X) (hn : am_nL X = 1) (hini : am_ini X) : cl_X1_init K (am_G X) := by
  have ts : ∀ w ∈ am_WS, w ∈ am_ws yX1_init cX1_init 1 none := fun w h => List.mem_cons_of_mem _ h
  exact ms_aload_n F (am_dk (q := (0, .aload_n 0, 1)) dk_X1_init_0 0 rfl) rfl (ms_oinit F hR (by decide) (by decide) (ts _ wd_101) (ts _ oi_inst) (ts _ oi_code) (am_dk (q := (1, .invokespecial 1, 3)) dk_X1_init_0 1 rfl) (ms_aload_n F (am_dk (q := (4, .aload_n 0, 1)) dk_X1_init_0 2 rfl) rfl (ms_iconst F (am_dk (q := (5, .iconst 4, 1)) dk_X1_init_0 3 rfl) (by decide +kernel) (ms_newa F hR (t := 0) (atype := .int) (by decide) (ts _ wd_44) (am_dk (q := (6, .newarray .int, 2)) dk_X1_init_0 4 rfl) (ms_putfF F (ty := (.array .int)) (ty0 := tyX1) (C := RX1) (T := TX1) (N := 2) (j := 0) (fun w h => ts _ (inw_X1 w h)) rfl (by decide) tyX1_ok nmX1 (by decide +kernel) rfl hini rfl (ts _ wd_102) (am_dk (q := (8, .putfield 9, 3)) dk_X1_init_0 5 rfl) (ms_aload_n F (am_dk (q := (11, .aload_n 0, 1)) dk_X1_init_0 6 rfl) rfl (ms_iconst F (am_dk (q := (12, .iconst 4, 1)) dk_X1_init_0 7 rfl) (by decide +kernel) (ms_newa F hR (t := 0) (atype := .int) (by decide) (ts _ wd_44) (am_dk (q := (13, .newarray .int, 2)) dk_X1_init_0 8 rfl) (ms_putfF F (ty := (.array .int)) (ty0 := tyX1) (C := RX1) (T := TX1) (N := 2) (j := 1) (fun w h => ts _ (inw_X1 w h)) rfl (by decide) tyX1_ok nmX1 (by decide +kernel) rfl hini rfl (ts _ wd_103) (am_dk (q := (15, .putfield 13, 3)) dk_X1_init_0 9 rfl) (ms_vret F FQ rfl (am_dk (q := (18, .return_, 1)) dk_X1_init_0 10 rfl)))))))))))
theorem ct_X1_init (l : Launch) (htr : l.stackTraces = false) : am_Ct l yX1_init (am_ws yX1_init cX1_init 1 none) rm_X1_init sp_X1_init := am_of htr (by decide) wd_100 (fun X K F FQ hR hT hn hi as n E hS => f_X1_init K (am_G X) (sd_X1_init X K F FQ hR hT hn (hi rfl)) as n E hS)
def sp_X2_init : am_S := fun as n E K => ∃ (t : Nat), as = [.ref t] ∧ t < n ∧ E t = some (.inr (2, [.int 0, .int 0, .int 0, .int 0, .int 0, .null, .null])) ∧
  K (.inl none) (n + 5) (am_u (am_u (am_u (am_u (am_u (am_u E n (.inr (1, [.ref (n + 1), .ref (n + 2)]))) (n + 1) (.inl (0, am_z 0 4))) (n + 2) (.inl (0, am_z 0 4))) (n + 3) (.inr (6, [.ref (n + 4)]))) (n + 4) (.inl (1, am_z 1 32))) t (.inr (2, [.int 0, .int 45, .int 45, .int 0, .int 0, .ref n, .ref (n + 3)])))
def rm_X2_init : Room := { frames := 2, cells := 5, slots := 43, locals := 40 }
theorem rmc_X2_init : rm_X2_init.cells = 5 := rfl
theorem rms_X2_init : rm_X2_init.slots = 43 := rfl
def bk_X2_init_0 (K : am_P) (G : Nat → am_C) : am_C := o_aload 0 <| o_oinit <| o_aload 0 <| o_pi 0 <| o_putf 2 0 .int <| o_aload 0 <| o_pi 45 <| o_putf 2 1 .char <| o_aload 0 <| o_pi 45 <| o_putf 2 2 .char <| o_aload 0 <| o_pi 0 <| o_putf 2 3 .int <| o_aload 0 <| o_pi 0 <| o_putf 2 4 .int <| o_aload 0 <| o_new 1 [.null, .null] rm_X2_init.cells rm_X2_init.slots <| o_dup <| o_callV 1 1 sp_X1_init rm_X1_init rm_X2_init (am_noX K) <| o_putf 2 5 (.object "LeadlightHall$Paint") <| o_aload 0 <| o_new 6 [.null] rm_X2_init.cells rm_X2_init.slots <| o_dup <| o_callV 6 1 sp_X6_init rm_X6_init rm_X2_init (am_noX K) <| o_putf 2 6 (.object "LeadlightHall$YearSet") <| o_vret K
def cl_X2_init (K : am_P) (G : Nat → am_C) : Prop := am_imp (bk_X2_init_0 K G) (G 0)
theorem f_X2_init (K : am_P) (G : Nat → am_C) (hC : cl_X2_init K G) (as : List Value) (n : Nat) (E : am_E) (hS : sp_X2_init as n E K) : (am_sl as).length ≤ 1 ∧ G 0 (am_inl 1 as) [] n E 0 0 := by
  obtain ⟨t, rfl, ht, h1, hK⟩ := hS
  refine ⟨by simp [am_sl, Value.category], ?_⟩
  apply hC
  have e0 : t ≠ n := by omega
  have e1 : t ≠ n + 1 := by omega
  have e2 : t ≠ n + 2 := by omega
  have e3 : t ≠ n + 3 := by omega
  have e4 : t ≠ n + 4 := by omega
  simp only [↓xaa_0, ↓xar_0, ↓xpi, bk_X2_init_0, o_pi, o_aload, o_dup, o_if, o_ic, o_putf, o_new, o_oinit, o_vret, o_call, o_callV, am_kc, am_noX, am_s1, am_s2, am_kill, am_inl, am_sl, Value.category, List.getElem?_cons_zero, List.getElem?_cons_succ, List.set_cons_zero, List.set_cons_succ, List.length_cons, List.length_nil, List.take_succ_cons, List.take_zero, List.drop_succ_cons, List.drop_zero, List.reverse_cons, List.reverse_nil, List.nil_append, List.cons_append, List.append_nil, List.map_cons, List.map_nil, List.sum_cons, List.sum_nil, List.replicate_succ, List.replicate_zero, Nat.zero_add, Nat.add_zero, Nat.le_refl, Nat.zero_le, ite_true, ite_false, if_true, if_false, true_and, and_true, eq_self, not_true_eq_false, not_false_eq_true, am_nb0, am_nb1, am_ni, am_fi, am_fr, am_fra, am_fz0, am_fz1, am_fl, am_uE, am_vnI, am_uu, am_ltx, ite_not, Classical.not_not, reduceIte, reduceCtorEq, Nat.reduceEqDiff, Nat.reduceAdd, Nat.reduceSub, Nat.reduceMul, Nat.reduceLeDiff, Nat.reduceLT, Int32.reduceLE, Int32.reduceLT, am_10, am_01, am_ite0, am_ite1, ms_boT, ms_boF, rmc_X1_init, rms_X1_init, rmc_X2_init, rms_X2_init, rmc_X6_init, rms_X6_init, h1, am_uN e0, am_uN e1, am_fcx am_c45, Nat.reduceAdd]
  refine ⟨n, rfl, by omega, by rw [am_uE], ?_⟩
  simp only [↓xaa_0, ↓xar_0, ↓xpi, bk_X2_init_0, o_pi, o_aload, o_dup, o_if, o_ic, o_putf, o_new, o_oinit, o_vret, o_call, o_callV, am_kc, am_noX, am_s1, am_s2, am_kill, am_inl, am_sl, Value.category, List.getElem?_cons_zero, List.getElem?_cons_succ, List.set_cons_zero, List.set_cons_succ, List.length_cons, List.length_nil, List.take_succ_cons, List.take_zero, List.drop_succ_cons, List.drop_zero, List.reverse_cons, List.reverse_nil, List.nil_append, List.cons_append, List.append_nil, List.map_cons, List.map_nil, List.sum_cons, List.sum_nil, List.replicate_succ, List.replicate_zero, Nat.zero_add, Nat.add_zero, Nat.le_refl, Nat.zero_le, ite_true, ite_false, if_true, if_false, true_and, and_true, eq_self, not_true_eq_false, not_false_eq_true, am_nb0, am_nb1, am_ni, am_fi, am_fr, am_fra, am_fz0, am_fz1, am_fl, am_uE, am_vnI, am_uu, am_ltx, ite_not, Classical.not_not, reduceIte, reduceCtorEq, Nat.reduceEqDiff, Nat.reduceAdd, Nat.reduceSub, Nat.reduceMul, Nat.reduceLeDiff, Nat.reduceLT, Int32.reduceLE, Int32.reduceLT, am_10, am_01, am_ite0, am_ite1, ms_boT, ms_boF, rmc_X1_init, rms_X1_init, rmc_X2_init, rms_X2_init, rmc_X6_init, rms_X6_init, h1, am_uN e0, am_uN e1, am_uN e2, am_uN e3, am_fcx am_c45]
  refine ⟨n + 3, rfl, by omega, by rw [am_uE], ?_⟩
  simp only [↓xaa_0, ↓xar_0, ↓xpi, bk_X2_init_0, o_pi, o_aload, o_dup, o_if, o_ic, o_putf, o_new, o_oinit, o_vret, o_call, o_callV, am_kc, am_noX, am_s1, am_s2, am_kill, am_inl, am_sl, Value.category, List.getElem?_cons_zero, List.getElem?_cons_succ, List.set_cons_zero, List.set_cons_succ, List.length_cons, List.length_nil, List.take_succ_cons, List.take_zero, List.drop_succ_cons, List.drop_zero, List.reverse_cons, List.reverse_nil, List.nil_append, List.cons_append, List.append_nil, List.map_cons, List.map_nil, List.sum_cons, List.sum_nil, List.replicate_succ, List.replicate_zero, Nat.zero_add, Nat.add_zero, Nat.le_refl, Nat.zero_le, ite_true, ite_false, if_true, if_false, true_and, and_true, eq_self, not_true_eq_false, not_false_eq_true, am_nb0, am_nb1, am_ni, am_fi, am_fr, am_fra, am_fz0, am_fz1, am_fl, am_uE, am_vnI, am_uu, am_ltx, ite_not, Classical.not_not, reduceIte, reduceCtorEq, Nat.reduceEqDiff, Nat.reduceAdd, Nat.reduceSub, Nat.reduceMul, Nat.reduceLeDiff, Nat.reduceLT, Int32.reduceLE, Int32.reduceLT, am_10, am_01, am_ite0, am_ite1, ms_boT, ms_boF, rmc_X1_init, rms_X1_init, rmc_X2_init, rms_X2_init, rmc_X6_init, rms_X6_init, h1, am_uN e0, am_uN e1, am_uN e2, am_uN e3, am_uN e4, am_fcx am_c45]
  refine Eq.mp (congrArg (K (.inl none) (n + 5)) ?_) hK
  funext i
  simp only [am_u, Nat.add_assoc, Nat.reduceAdd]
  by_cases hi : i = t
  · simp [hi]
  · by_cases a0 : i = n
    · subst a0; simp [hi]
    · by_cases a1 : i = n + 1
      · subst a1; simp [hi]
      · by_cases a2 : i = n + 2
        · subst a2; simp [hi]
        · by_cases a3 : i = n + 3
          · subst a3; simp [hi]
          · by_cases a4 : i = n + 4
            · subst a4; simp [hi]
            · simp [hi, a0, a1, a2, a3, a4]
set_option maxRecDepth 100000 in
set_option maxHeartbeats 4000000 in
theorem sd_X2_init (X : am_X) (K : am_P) (F : am_F X cX2_init yX2_init.cls none (am_ws yX2_init cX2_init 1 none)) (FQ : am_FQ X K rm_X2_init.cells rm_X2_init.slots) (hR : am_Rm X rm_X2_init) (hT : am_noT X) (hn : am_nL X = 1) (hini : am_ini X) : cl_X2_init K (am_G X) := by
  have ts : ∀ w ∈ am_WS, w ∈ am_ws yX2_init cX2_init 1 none := fun w h => List.mem_cons_of_mem _ h
  exact ms_aload_n F (am_dk (q := (0, .aload_n 0, 1)) dk_X2_init_0 0 rfl) rfl (ms_oinit F hR (by decide) (by decide) (ts _ wd_95) (ts _ oi_inst) (ts _ oi_code) (am_dk (q := (1, .invokespecial 3, 3)) dk_X2_init_0 1 rfl) (ms_aload_n F (am_dk (q := (4, .aload_n 0, 1)) dk_X2_init_0 2 rfl) rfl (ms_iconst F (am_dk (q := (5, .iconst 0, 1)) dk_X2_init_0 3 rfl) (by decide +kernel) (ms_putf F (ty := .int) (ty0 := tyX2) (C := RX2) (T := TX2) (N := 7) (j := 0) (fun w h => ts _ (inw_X2 w h)) rfl (by decide) tyX2_ok nmX2 (by decide +kernel) rfl (ts _ wd_111) (am_dk (q := (6, .putfield 9, 3)) dk_X2_init_0 4 rfl) (ms_aload_n F (am_dk (q := (9, .aload_n 0, 1)) dk_X2_init_0 5 rfl) rfl (ms_bipush F (am_dk (q := (10, .bipush 45, 2)) dk_X2_init_0 6 rfl) (by decide +kernel) (ms_putf F (ty := .char) (ty0 := tyX2) (C := RX2) (T := TX2) (N := 7) (j := 1) (fun w h => ts _ (inw_X2 w h)) rfl (by decide) tyX2_ok nmX2 (by decide +kernel) rfl (ts _ wd_113) (am_dk (q := (12, .putfield 15, 3)) dk_X2_init_0 7 rfl) (ms_aload_n F (am_dk (q := (15, .aload_n 0, 1)) dk_X2_init_0 8 rfl) rfl (ms_bipush F (am_dk (q := (16, .bipush 45, 2)) dk_X2_init_0 9 rfl) (by decide +kernel) (ms_putf F (ty := .char) (ty0 := tyX2) (C := RX2) (T := TX2) (N := 7) (j := 2) (fun w h => ts _ (inw_X2 w h)) rfl (by decide) tyX2_ok nmX2 (by decide +kernel) rfl (ts _ wd_115) (am_dk (q := (18, .putfield 19, 3)) dk_X2_init_0 10 rfl) (ms_aload_n F (am_dk (q := (21, .aload_n 0, 1)) dk_X2_init_0 11 rfl) rfl (ms_iconst F (am_dk (q := (22, .iconst 0, 1)) dk_X2_init_0 12 rfl) (by decide +kernel) (ms_putf F (ty := .int) (ty0 := tyX2) (C := RX2) (T := TX2) (N := 7) (j := 3) (fun w h => ts _ (inw_X2 w h)) rfl (by decide) tyX2_ok nmX2 (by decide +kernel) rfl (ts _ wd_117) (am_dk (q := (23, .putfield 22, 3)) dk_X2_init_0 13 rfl) (ms_aload_n F (am_dk (q := (26, .aload_n 0, 1)) dk_X2_init_0 14 rfl) rfl (ms_iconst F (am_dk (q := (27, .iconst 0, 1)) dk_X2_init_0 15 rfl) (by decide +kernel) (ms_putf F (ty := .int) (ty0 := tyX2) (C := RX2) (T := TX2) (N := 7) (j := 4) (fun w h => ts _ (inw_X2 w h)) rfl (by decide) tyX2_ok nmX2 (by decide +kernel) rfl (ts _ wd_119) (am_dk (q := (28, .putfield 25, 3)) dk_X2_init_1 0 rfl) (ms_aload_n F (am_dk (q := (31, .aload_n 0, 1)) dk_X2_init_1 1 rfl) rfl (ms_new F hR (C := RX1) (T := TX1) (N := 2) (ty := tyX1) (fs := [.null, .null]) (fun w h => ts _ (inw_X1 w h)) tyX1_ok (ts _ wd_96) (ts _ wd_97) (ts _ wd_7) rfl (by decide +kernel) rfl (by simp) (am_dk (q := (32, .new 28, 3)) dk_X2_init_1 2 rfl) (ms_dup F (am_dk (q := (35, .dup, 1)) dk_X2_init_1 3 rfl) (ms_callIN F hR (ci := 1) (y := yX1_init) (maxL := 1) (rm' := rm_X1_init) (na := 0) ct_X1_init wd_100 wd_7 wn_98 wd_99 rfl (by decide +kernel) (by decide) (am_dk (q := (36, .invokespecial 30, 3)) dk_X2_init_1 4 rfl) (ms_noX F FQ hT) (ms_putfF F (ty := (.object "LeadlightHall$Paint")) (ty0 := tyX2) (C := RX2) (T := TX2) (N := 7) (j := 5) (fun w h => ts _ (inw_X2 w h)) rfl (by decide) tyX2_ok nmX2 (by decide +kernel) rfl hini rfl (ts _ wd_121) (am_dk (q := (39, .putfield 31, 3)) dk_X2_init_1 5 rfl) (ms_aload_n F (am_dk (q := (42, .aload_n 0, 1)) dk_X2_init_1 6 rfl) rfl (ms_new F hR (C := RX6) (T := TX6) (N := 1) (ty := tyX6) (fs := [.null]) (fun w h => ts _ (inw_X6 w h)) tyX6_ok (ts _ wd_109) (ts _ wd_81) (ts _ wd_5) rfl (by decide +kernel) rfl (by simp) (am_dk (q := (43, .new 35, 3)) dk_X2_init_1 7 rfl) (ms_dup F (am_dk (q := (46, .dup, 1)) dk_X2_init_1 8 rfl) (ms_callIN F hR (ci := 6) (y := yX6_init) (maxL := 1) (rm' := rm_X6_init) (na := 0) ct_X6_init wd_84 wd_5 wn_110 wd_83 rfl (by decide +kernel) (by decide) (am_dk (q := (47, .invokespecial 37, 3)) dk_X2_init_1 9 rfl) (ms_noX F FQ hT) (ms_putfF F (ty := (.object "LeadlightHall$YearSet")) (ty0 := tyX2) (C := RX2) (T := TX2) (N := 7) (j := 6) (fun w h => ts _ (inw_X2 w h)) rfl (by decide) tyX2_ok nmX2 (by decide +kernel) rfl hini rfl (ts _ wd_123) (am_dk (q := (50, .putfield 38, 3)) dk_X2_init_1 10 rfl) (ms_vret F FQ rfl (am_dk (q := (53, .return_, 1)) dk_X2_init_1 11 rfl))))))))))))))))))))))))))))
theorem ct_X2_init (l : Launch) (htr : l.stackTraces = false) : am_Ct l yX2_init (am_ws yX2_init cX2_init 1 none) rm_X2_init sp_X2_init := am_of htr (by decide) wd_94 (fun X K F FQ hR hT hn hi as n E hS => f_X2_init K (am_G X) (sd_X2_init X K F FQ hR hT hn (hi rfl)) as n E hS)
def sp_X4_init : am_S := fun as n E K => ∃ (t : Nat), as = [.ref t] ∧ t < n ∧ E t = some (.inr (4, [.int 0, .int 0, .int 0, .int 0, .null])) ∧ K (.inl none) (n + 1) (am_u (am_u E n (.inl (0, am_z 0 12))) t (.inr (4, [.int 0, .int 0, .int 0, .int 104, .ref n])))
def rm_X4_init : Room := { frames := 1, cells := 1, slots := 12, locals := 20 }
theorem rmc_X4_init : rm_X4_init.cells = 1 := rfl
theorem rms_X4_init : rm_X4_init.slots = 12 := rfl
def bk_X4_init_0 (K : am_P) (G : Nat → am_C) : am_C := o_aload 0 <| o_oinit <| o_aload 0 <| o_pi 0 <| o_putf 4 0 .int <| o_aload 0 <| o_pi 0 <| o_putf 4 1 .int <| o_aload 0 <| o_pi 0 <| o_putf 4 2 .int <| o_aload 0 <| o_pi 104 <| o_putf 4 3 .char <| o_aload 0 <| o_pi 12 <| o_newa 0 rm_X4_init.cells rm_X4_init.slots <| o_putf 4 4 (.array .int) <| o_vret K
def cl_X4_init (K : am_P) (G : Nat → am_C) : Prop := am_imp (bk_X4_init_0 K G) (G 0)
theorem f_X4_init (K : am_P) (G : Nat → am_C) (hC : cl_X4_init K G) (as : List Value) (n : Nat) (E : am_E) (hS : sp_X4_init as n E K) : (am_sl as).length ≤ 1 ∧ G 0 (am_inl 1 as) [] n E 0 0 := by
  obtain ⟨t, rfl, ht, h1, hK⟩ := hS
  refine ⟨by simp [am_sl, Value.category], ?_⟩
  apply hC
  have e1 : t ≠ n := by omega
  simp only [↓xaa_0, ↓xar_0, ↓xpi, bk_X4_init_0, o_pi, o_aload, o_if, o_ic, o_putf, o_newa, o_oinit, o_vret, o_call, am_kc, am_noX, am_s1, am_s2, am_kill, am_inl, am_sl, Value.category, List.getElem?_cons_zero, List.getElem?_cons_succ, List.set_cons_zero, List.set_cons_succ, List.length_cons, List.length_nil, List.take_succ_cons, List.take_zero, List.drop_succ_cons, List.drop_zero, List.reverse_cons, List.reverse_nil, List.nil_append, List.cons_append, List.append_nil, List.map_cons, List.map_nil, List.sum_cons, List.sum_nil, List.replicate_succ, List.replicate_zero, Nat.zero_add, Nat.add_zero, Nat.le_refl, Nat.zero_le, ite_true, ite_false, if_true, if_false, true_and, and_true, eq_self, not_true_eq_false, not_false_eq_true, am_nb0, am_nb1, am_ni, am_fi, am_fr, am_fra, am_fz0, am_fz1, am_fl, am_uE, am_vnI, am_uu, am_ltx, ite_not, Classical.not_not, reduceIte, reduceCtorEq, Nat.reduceEqDiff, Nat.reduceAdd, Nat.reduceSub, Nat.reduceMul, Nat.reduceLeDiff, Nat.reduceLT, Int32.reduceLE, Int32.reduceLT, am_10, am_01, am_ite0, am_ite1, ms_boT, ms_boF, rmc_X4_init, rms_X4_init, h1, am_uN e1, am_clL 12 (by decide), am_fcx am_c104]
  rw [am_uc e1, am_uu]
  exact hK
set_option maxRecDepth 100000 in
set_option maxHeartbeats 4000000 in
theorem sd_X4_init (X : am_X) (K : am_P) (F : am_F X cX4_init yX4_init.cls none (am_ws yX4_init cX4_init 1 none)) (FQ : am_FQ X K rm_X4_init.cells rm_X4_init.slots) (hR : am_Rm X rm_X4_init) (hT : am_noT X) (hn : am_nL X = 1) (hini : am_ini X) : cl_X4_init K (am_G X) := by
  have ts : ∀ w ∈ am_WS, w ∈ am_ws yX4_init cX4_init 1 none := fun w h => List.mem_cons_of_mem _ h
  exact ms_aload_n F (am_dk (q := (0, .aload_n 0, 1)) dk_X4_init_0 0 rfl) rfl (ms_oinit F hR (by decide) (by decide) (ts _ wd_144) (ts _ oi_inst) (ts _ oi_code) (am_dk (q := (1, .invokespecial 3, 3)) dk_X4_init_0 1 rfl) (ms_aload_n F (am_dk (q := (4, .aload_n 0, 1)) dk_X4_init_0 2 rfl) rfl (ms_iconst F (am_dk (q := (5, .iconst 0, 1)) dk_X4_init_0 3 rfl) (by decide +kernel) (ms_putf F (ty := .int) (ty0 := tyX4) (C := RX4) (T := TX4) (N := 5) (j := 0) (fun w h => ts _ (inw_X4 w h)) rfl (by decide) tyX4_ok nmX4 (by decide +kernel) rfl (ts _ wd_145) (am_dk (q := (6, .putfield 9, 3)) dk_X4_init_0 4 rfl) (ms_aload_n F (am_dk (q := (9, .aload_n 0, 1)) dk_X4_init_0 5 rfl) rfl (ms_iconst F (am_dk (q := (10, .iconst 0, 1)) dk_X4_init_0 6 rfl) (by decide +kernel) (ms_putf F (ty := .int) (ty0 := tyX4) (C := RX4) (T := TX4) (N := 5) (j := 1) (fun w h => ts _ (inw_X4 w h)) rfl (by decide) tyX4_ok nmX4 (by decide +kernel) rfl (ts _ wd_148) (am_dk (q := (11, .putfield 15, 3)) dk_X4_init_0 7 rfl) (ms_aload_n F (am_dk (q := (14, .aload_n 0, 1)) dk_X4_init_0 8 rfl) rfl (ms_iconst F (am_dk (q := (15, .iconst 0, 1)) dk_X4_init_0 9 rfl) (by decide +kernel) (ms_putf F (ty := .int) (ty0 := tyX4) (C := RX4) (T := TX4) (N := 5) (j := 2) (fun w h => ts _ (inw_X4 w h)) rfl (by decide) tyX4_ok nmX4 (by decide +kernel) rfl (ts _ wd_149) (am_dk (q := (16, .putfield 18, 3)) dk_X4_init_0 10 rfl) (ms_aload_n F (am_dk (q := (19, .aload_n 0, 1)) dk_X4_init_0 11 rfl) rfl (ms_bipush F (am_dk (q := (20, .bipush 104, 2)) dk_X4_init_0 12 rfl) (by decide +kernel) (ms_putf F (ty := .char) (ty0 := tyX4) (C := RX4) (T := TX4) (N := 5) (j := 3) (fun w h => ts _ (inw_X4 w h)) rfl (by decide) tyX4_ok nmX4 (by decide +kernel) rfl (ts _ wd_150) (am_dk (q := (22, .putfield 21, 3)) dk_X4_init_0 13 rfl) (ms_aload_n F (am_dk (q := (25, .aload_n 0, 1)) dk_X4_init_0 14 rfl) rfl (ms_bipush F (am_dk (q := (26, .bipush 12, 2)) dk_X4_init_0 15 rfl) (by decide +kernel) (ms_newa F hR (t := 0) (atype := .int) (by decide) (ts _ wd_44) (am_dk (q := (28, .newarray .int, 2)) dk_X4_init_1 0 rfl) (ms_putfF F (ty := (.array .int)) (ty0 := tyX4) (C := RX4) (T := TX4) (N := 5) (j := 4) (fun w h => ts _ (inw_X4 w h)) rfl (by decide) tyX4_ok nmX4 (by decide +kernel) rfl hini rfl (ts _ wd_151) (am_dk (q := (30, .putfield 25, 3)) dk_X4_init_1 1 rfl) (ms_vret F FQ rfl (am_dk (q := (33, .return_, 1)) dk_X4_init_1 2 rfl)))))))))))))))))))
theorem ct_X4_init (l : Launch) (htr : l.stackTraces = false) : am_Ct l yX4_init (am_ws yX4_init cX4_init 1 none) rm_X4_init sp_X4_init := am_of htr (by decide) wd_143 (fun X K F FQ hR hT hn hi as n E hS => f_X4_init K (am_G X) (sd_X4_init X K F FQ hR hT hn (hi rfl)) as n E hS)
def sp_X7_init : am_S := fun as n E K => ∃ (t : Nat), as = [.ref t] ∧ n = t + 1 ∧ E t = some (.inr (7, [.null, .null, .null, .null, .int 0, .int 0, .int 0, .int 0, .int 0, .int 0, .int 0, .null, .null, .null, .null, .null])) ∧ ∀ E' : am_E, am_HS t E' am_s0 → (∀ k, k < t → E' k = E k) → K (.inl none) (t + 214) E'
def rm_X7_init : Room := { frames := 3, cells := 213, slots := 1963, locals := 60 }
theorem rmc_X7_init : rm_X7_init.cells = 213 := rfl
theorem rms_X7_init : rm_X7_init.slots = 1963 := rfl
def bk_X7_init_0 (K : am_P) (G : Nat → am_C) : am_C := o_aload 0 <| o_oinit <| o_aload 0 <| o_new 5 [.null] rm_X7_init.cells rm_X7_init.slots <| o_dup <| o_callV 5 1 sp_X5_init rm_X5_init rm_X7_init (am_noX K) <| o_putf 7 0 (.object "LeadlightHall$Wall") <| o_aload 0 <| o_pi 30 <| o_newa 5 rm_X7_init.cells rm_X7_init.slots <| o_putf 7 1 (.array (.object "LeadlightHall$Pane")) <| o_aload 0 <| o_pi 8 <| o_newa 6 rm_X7_init.cells rm_X7_init.slots <| o_putf 7 2 (.array (.object "LeadlightHall$Sheet")) <| o_aload 0 <| o_new 0 [.int 0, .int 0, .int 0] rm_X7_init.cells rm_X7_init.slots <| o_dup <| o_callV 0 1 sp_X0_init rm_X0_init rm_X7_init (am_noX K) <| o_putf 7 3 (.object "LeadlightHall$Frame") <| o_aload 0 <| o_pi 0 <| o_putf 7 4 .int <| o_aload 0 <| o_pi 0 <| o_putf 7 5 .int <| o_aload 0 <| o_pi 1 <| o_putf 7 6 .int <| o_aload 0 <| o_pi 0 <| o_putf 7 7 .boolean <| o_aload 0 <| o_pi 0 <| o_putf 7 8 .int <| o_aload 0 <| o_pi 0 <| o_putf 7 9 .int <| o_aload 0 <| o_pi 0 <| o_putf 7 10 .int <| o_aload 0 <| o_new 3 [.null, .null] rm_X7_init.cells rm_X7_init.slots <| o_dup <| o_callV 3 1 sp_X3_init rm_X3_init rm_X7_init (am_noX K) <| o_putf 7 11 (.object "LeadlightHall$Shape") <| o_aload 0 <| o_new 3 [.null, .null] rm_X7_init.cells rm_X7_init.slots <| o_dup <| o_callV 3 1 sp_X3_init rm_X3_init rm_X7_init (am_noX K) <| o_putf 7 12 (.object "LeadlightHall$Shape") <| o_aload 0 <| o_new 3 [.null, .null] rm_X7_init.cells rm_X7_init.slots <| o_dup <| o_callV 3 1 sp_X3_init rm_X3_init rm_X7_init (am_noX K) <| o_putf 7 13 (.object "LeadlightHall$Shape") <| o_aload 0 <| o_pi 30 <| o_newa 0 rm_X7_init.cells rm_X7_init.slots <| o_putf 7 14 (.array .int) <| o_aload 0 <| o_new 6 [.null] rm_X7_init.cells rm_X7_init.slots <| o_dup <| o_callV 6 1 sp_X6_init rm_X6_init rm_X7_init (am_noX K) <| o_putf 7 15 (.object "LeadlightHall$YearSet") <| o_pi 0 <| o_istore 1 <| (G 133)
def bk_X7_init_133 (K : am_P) (G : Nat → am_C) : am_C := o_iload 1 <| o_pi 30 <| o_ic_ge (o_pi 0 <| o_istore 1 <| (G 160)) (o_aload 0 <| o_getf 7 1 <| o_iload 1 <| o_new 2 [.int 0, .int 0, .int 0, .int 0, .int 0, .null, .null] rm_X7_init.cells rm_X7_init.slots <| o_dup <| o_callV 2 1 sp_X2_init rm_X2_init rm_X7_init (am_noX K) <| o_ast 5 2 <| o_iinc 1 1 <| (G 133))
def bk_X7_init_160 (K : am_P) (G : Nat → am_C) : am_C := o_iload 1 <| o_pi 8 <| o_ic_ge (o_vret K) (o_aload 0 <| o_getf 7 2 <| o_iload 1 <| o_new 4 [.int 0, .int 0, .int 0, .int 0, .null] rm_X7_init.cells rm_X7_init.slots <| o_dup <| o_callV 4 1 sp_X4_init rm_X4_init rm_X7_init (am_noX K) <| o_ast 6 4 <| o_iinc 1 1 <| (G 160))
def cl_X7_init (K : am_P) (G : Nat → am_C) : Prop := am_imp (bk_X7_init_0 K G) (G 0) ∧ am_imp (bk_X7_init_133 K G) (G 133) ∧ am_imp (bk_X7_init_160 K G) (G 160)
/-- i panes and m sheets are made -/
def hi_top (b i m k : Nat) : va_E := if k = 3 then .inl (5, 30, .inr (.inr (.inr (.inr (fun k => if k < i then some (b + 18 + 6 * k) else none))))) else if k = 4 then .inl (6, 8, .inr (.inr (.inr (.inr (fun k => if k < m then some (b + 198 + 2 * k) else none))))) else hs_top b am_s0 (fun _ => am_non) (fun _ => 0) (fun _ => false) k
def hi_I (b i m : Nat) (E0 E : am_E) : Prop := (∀ k, k < b → E k = E0 k) ∧ (∀ k, k < 18 → E (b + k) = some (hi_top b i m k)) ∧ (∀ p c, p < i → c < 6 → E (b + (18 + 6 * p + c)) = some (hs_pane b am_s0 p c)) ∧ ∀ j c, j < m → c < 2 → E (b + (198 + 2 * j + c)) = some (hs_sheet b am_s0 j c)
theorem hi_rw : am_rw am_non = fun _ => 0 := by
  funext y
  unfold am_rw am_non
  rw [am_bn_0 (fun _ _ => rfl)]
  rfl
theorem hi_yw {Y : Nat → Bool} (h : ∀ y, Y y = false) : am_ywE Y = .inl (1, 32, .inr (.inl (fun _ => 0))) := by
  unfold am_ywE
  have : am_yw Y = fun _ => 0 := by
    funext k
    unfold am_yw
    rw [am_bn_0 (fun _ _ => h _)]
    rfl
  rw [this]
theorem hi_rwE : am_rwE am_non = .inl (0, 12, .inl (fun _ => 0)) := by unfold am_rwE; rw [hi_rw]
theorem hi_stu (j : Nat) : st_u am_s0 j = am_non := by
  funext x y
  unfold st_u am_non
  exact decide_eq_false (fun q => absurd q.2.2 (by show ¬ (0 : Nat) = 1; decide))
theorem hi_end {b : Nat} {E0 E : am_E} (h : hi_I b 30 8 E0 E) : am_HT b E am_s0 (fun _ => am_non) (fun _ => 0) (fun _ => false) := by
  obtain ⟨h1, h2, h3, h4⟩ := h
  refine ⟨s0_iv, fun _ => (fun x y q => Bool.noConfusion q), (fun y q => Bool.noConfusion q), fun k hk => ?_⟩
  unfold hsE
  by_cases a : k < 18
  · rw [if_pos a, h2 k a]
    unfold hi_top
    by_cases e3 : k = 3
    · subst e3; rfl
    · rw [if_neg e3]
      by_cases e4 : k = 4
      · subst e4; rfl
      · rw [if_neg e4]
  · rw [if_neg a]
    by_cases c : k < 198
    · rw [if_pos c]
      have := h3 ((k - 18) / 6) ((k - 18) % 6) (by omega) (by omega)
      rw [show 18 + 6 * ((k - 18) / 6) + (k - 18) % 6 = k by omega] at this
      exact this
    · rw [if_neg c]
      have := h4 ((k - 198) / 2) ((k - 198) % 2) (by omega) (by omega)
      rw [show 198 + 2 * ((k - 198) / 2) + (k - 198) % 2 = k by omega] at this
      exact this
theorem hi_pane {b i : Nat} {E0 E E' : am_E} (h : hi_I b i 0 E0 E) (hi : i < 30) (h3 : E' (b + 3) = some (hi_top b (i + 1) 0 3)) (hp : ∀ c, c < 6 → E' (b + (18 + 6 * i + c)) = some (hs_pane b am_s0 i c)) (ho : ∀ k, k ≠ b + 3 → k < b + 18 + 6 * i → E' k = E k) : hi_I b (i + 1) 0 E0 E' := by
  obtain ⟨h1, h2, h4, h5⟩ := h
  refine ⟨fun k hk => (ho k (by omega) (by omega)).trans (h1 k hk), fun k hk => ?_, fun p c hp9 hc => ?_, fun j c hj => by omega⟩
  · by_cases e : k = 3
    · subst e; exact h3
    · rw [ho _ (by omega) (by omega), h2 k hk]
      unfold hi_top
      rw [if_neg e, if_neg e]
  · by_cases e : p = i
    · subst e; exact hp c hc
    · rw [ho _ (by omega) (by omega)]
      exact h4 p c (by omega) hc
theorem hi_sheet {b j : Nat} {E0 E E' : am_E} (h : hi_I b 30 j E0 E) (hj : j < 8) (h3 : E' (b + 4) = some (hi_top b 30 (j + 1) 4)) (hp : ∀ c, c < 2 → E' (b + (198 + 2 * j + c)) = some (hs_sheet b am_s0 j c)) (ho : ∀ k, k ≠ b + 4 → k < b + 198 + 2 * j → E' k = E k) : hi_I b 30 (j + 1) E0 E' := by
  obtain ⟨h1, h2, h4, h5⟩ := h
  refine ⟨fun k hk => (ho k (by omega) (by omega)).trans (h1 k hk), fun k hk => ?_, fun p c hp9 hc => ?_, fun i c hi9 hc => ?_⟩
  · by_cases e : k = 4
    · subst e; exact h3
    · rw [ho _ (by omega) (by omega), h2 k hk]
      unfold hi_top
      rw [if_neg e, if_neg e]
  · rw [ho _ (by omega) (by omega)]
    exact h4 p c hp9 hc
  · by_cases e : i = j
    · subst e; exact hp c hc
    · rw [ho _ (by omega) (by omega)]
      exact h5 i c (by omega) hc
theorem hi_up {i b : Nat} : va_up (fun k => if k < i then some (b + 6 * k) else none) i (some (b + 6 * i)) = fun k => if k < i + 1 then some (b + 6 * k) else none := by
  funext k
  unfold va_up
  by_cases e : k = i
  · subst e
    simp
  · by_cases h : k < i
    · simp [e, h, show k < i + 1 by omega]
    · simp [e, h, show ¬ k < i + 1 by omega]
theorem hi_up2 {i b : Nat} : va_up (fun k => if k < i then some (b + 2 * k) else none) i (some (b + 2 * i)) = fun k => if k < i + 1 then some (b + 2 * k) else none := by
  funext k
  unfold va_up
  by_cases e : k = i
  · subst e
    simp
  · by_cases h : k < i
    · simp [e, h, show k < i + 1 by omega]
    · simp [e, h, show ¬ k < i + 1 by omega]
theorem f_X7_init (K : am_P) (G : Nat → am_C) (hC : cl_X7_init K G) (as : List Value) (n : Nat) (E : am_E) (hS : sp_X7_init as n E K) : (am_sl as).length ≤ 2 ∧ G 0 (am_inl 2 as) [] n E 0 0 := by
  obtain ⟨b, rfl, rfl, h1, hK⟩ := hS
  refine ⟨by simp [am_sl, Value.category], ?_⟩
  have loop2 := am_for (fun m => ∀ (E' : am_E), hi_I b 30 m E E' → G 160 [some (.ref b), some (.int (nI m))] [] (b + 198 + 2 * m) E' (197 + 2 * m) (1827 + 17 * m)) 8 (by
    intro E' hI
    apply hC.2.2
    have hk := hK E' ⟨_, _, _, hi_end hI⟩ hI.1
    simp only [↓xaa_0, ↓xar_0, ↓xinc_1i, ↓xinc_1a, ↓xinc_1n, ↓xii_1, ↓xisi_1i, ↓xisi_1a, ↓xisi_1n, ↓xpi, ↓xic, bk_X7_init_0, bk_X7_init_133, bk_X7_init_160, o_pi, o_iload, o_aload, o_istore, o_iinc, o_dup, o_ic_ge, o_if, o_ic, o_getf, o_putf, o_new, o_newa, o_ast, o_oinit, o_vret, o_call, o_callV, am_kc, am_noX, am_s1, am_s2, am_kill, am_inl, am_sl, Value.category, List.getElem?_cons_zero, List.getElem?_cons_succ, List.set_cons_zero, List.set_cons_succ, List.length_cons, List.length_nil, List.take_succ_cons, List.take_zero, List.drop_succ_cons, List.drop_zero, List.reverse_cons, List.reverse_nil, List.nil_append, List.cons_append, List.append_nil, List.map_cons, List.map_nil, List.sum_cons, List.sum_nil, List.replicate_succ, List.replicate_zero, Nat.zero_add, Nat.add_zero, Nat.le_refl, Nat.zero_le, ite_true, ite_false, if_true, if_false, true_and, and_true, eq_self, not_true_eq_false, not_false_eq_true, am_nb0, am_nb1, am_ni, am_fi, am_fr, am_fra, am_fz0, am_fz1, am_fl, am_uE, am_vnI, am_uu, am_ltx, ite_not, Classical.not_not, reduceIte, reduceCtorEq, Nat.reduceEqDiff, Nat.reduceAdd, Nat.reduceSub, Nat.reduceMul, Nat.reduceLeDiff, Nat.reduceLT, Int32.reduceLE, Int32.reduceLT, am_10, am_01, am_ite0, am_ite1, ms_boT, ms_boF, rmc_X0_init, rms_X0_init, rmc_X2_init, rms_X2_init, rmc_X3_init, rms_X3_init, rmc_X4_init, rms_X4_init, rmc_X5_init, rms_X5_init, rmc_X6_init, rms_X6_init, rmc_X7_init, rms_X7_init]
    exact hk) (fun m hm hn E' hI => by
    apply hC.2.2
    have g0 : E' b = some (hi_top b 30 m 0) := hI.2.1 0 (by decide)
    have g0' : E' b = some (.inr (7, [.ref (b + 1), .ref (b + 3), .ref (b + 4), .ref (b + 5), .int 0, .int 0, .int 1, .int 0, .int 0, .int 0, .int 0, .ref (b + 6), .ref (b + 9), .ref (b + 12), .ref (b + 15), .ref (b + 16)])) := g0
    have g4 : E' (b + 4) = some (.inl (6, 8, .inr (.inr (.inr (.inr (fun k => if k < m then some (b + 198 + 2 * k) else none)))))) := hI.2.1 4 (by decide)
    have n1 : b ≠ b + 198 + 2 * m := by omega
    have n2 : b + 4 ≠ b + 198 + 2 * m := by omega
    have n3 : b + 198 + 2 * m ≠ b + 198 + 2 * m + 1 := by omega
    have n4 : b + 4 ≠ b + 198 + 2 * m + 1 := by omega
    simp only [↓xaa_0, ↓xar_0, ↓xinc_1i, ↓xinc_1a, ↓xinc_1n, ↓xii_1, ↓xisi_1i, ↓xisi_1a, ↓xisi_1n, ↓xpi, ↓xic, bk_X7_init_0, bk_X7_init_133, bk_X7_init_160, o_pi, o_iload, o_aload, o_istore, o_iinc, o_dup, o_ic_ge, o_if, o_ic, o_getf, o_putf, o_new, o_newa, o_ast, o_oinit, o_vret, o_call, o_callV, am_kc, am_noX, am_s1, am_s2, am_kill, am_inl, am_sl, Value.category, List.getElem?_cons_zero, List.getElem?_cons_succ, List.set_cons_zero, List.set_cons_succ, List.length_cons, List.length_nil, List.take_succ_cons, List.take_zero, List.drop_succ_cons, List.drop_zero, List.reverse_cons, List.reverse_nil, List.nil_append, List.cons_append, List.append_nil, List.map_cons, List.map_nil, List.sum_cons, List.sum_nil, List.replicate_succ, List.replicate_zero, Nat.zero_add, Nat.add_zero, Nat.le_refl, Nat.zero_le, ite_true, ite_false, if_true, if_false, true_and, and_true, eq_self, not_true_eq_false, not_false_eq_true, am_nb0, am_nb1, am_ni, am_fi, am_fr, am_fra, am_fz0, am_fz1, am_fl, am_uE, am_vnI, am_uu, am_ltx, ite_not, Classical.not_not, reduceIte, reduceCtorEq, Nat.reduceEqDiff, Nat.reduceAdd, Nat.reduceSub, Nat.reduceMul, Nat.reduceLeDiff, Nat.reduceLT, Int32.reduceLE, Int32.reduceLT, am_10, am_01, am_ite0, am_ite1, ms_boT, ms_boF, rmc_X0_init, rms_X0_init, rmc_X2_init, rms_X2_init, rmc_X3_init, rms_X3_init, rmc_X4_init, rms_X4_init, rmc_X5_init, rms_X5_init, rmc_X6_init, rms_X6_init, rmc_X7_init, rms_X7_init, show ((8 : Int32) ≤ nI (m)) = False from am_nge (show m < 8 by omega) (by decide), g0', am_uE]
    refine ⟨by omega, by omega, b + 198 + 2 * m, rfl, by omega, am_uE, ?_⟩
    simp only [↓xaa_0, ↓xar_0, ↓xinc_1i, ↓xinc_1a, ↓xinc_1n, ↓xii_1, ↓xisi_1i, ↓xisi_1a, ↓xisi_1n, ↓xpi, ↓xic, bk_X7_init_0, bk_X7_init_133, bk_X7_init_160, o_pi, o_iload, o_aload, o_istore, o_iinc, o_dup, o_ic_ge, o_if, o_ic, o_getf, o_putf, o_new, o_newa, o_ast, o_oinit, o_vret, o_call, o_callV, am_kc, am_noX, am_s1, am_s2, am_kill, am_inl, am_sl, Value.category, List.getElem?_cons_zero, List.getElem?_cons_succ, List.set_cons_zero, List.set_cons_succ, List.length_cons, List.length_nil, List.take_succ_cons, List.take_zero, List.drop_succ_cons, List.drop_zero, List.reverse_cons, List.reverse_nil, List.nil_append, List.cons_append, List.append_nil, List.map_cons, List.map_nil, List.sum_cons, List.sum_nil, List.replicate_succ, List.replicate_zero, Nat.zero_add, Nat.add_zero, Nat.le_refl, Nat.zero_le, ite_true, ite_false, if_true, if_false, true_and, and_true, eq_self, not_true_eq_false, not_false_eq_true, am_nb0, am_nb1, am_ni, am_fi, am_fr, am_fra, am_fz0, am_fz1, am_fl, am_uE, am_vnI, am_uu, am_ltx, ite_not, Classical.not_not, reduceIte, reduceCtorEq, Nat.reduceEqDiff, Nat.reduceAdd, Nat.reduceSub, Nat.reduceMul, Nat.reduceLeDiff, Nat.reduceLT, Int32.reduceLE, Int32.reduceLT, am_10, am_01, am_ite0, am_ite1, ms_boT, ms_boF, rmc_X0_init, rms_X0_init, rmc_X2_init, rms_X2_init, rmc_X3_init, rms_X3_init, rmc_X4_init, rms_X4_init, rmc_X5_init, rms_X5_init, rmc_X6_init, rms_X6_init, rmc_X7_init, rms_X7_init, am_uN n2, am_uN n4, g4, am_vi hm (show 8 < 2 ^ 31 by decide), am_cl (show m < 2 ^ 31 by omega), nI_1]
    have en : b + 198 + 2 * m + 1 + 1 = b + 198 + 2 * (m + 1) := by omega
    have ec : 197 + 2 * m + 1 + 1 = 197 + 2 * (m + 1) := by omega
    have es : 1827 + 17 * m + 5 + 12 = 1827 + 17 * (m + 1) := by omega
    rw [en, ec, es]
    refine hn _ (hi_sheet hI hm ?_ ?_ ?_)
    · rw [am_uE, hi_up2]
      rfl
    · intro c hc
      rcases (show c = 0 ∨ c = 1 by omega) with rfl | rfl
      · rw [am_uN (by omega), show b + (198 + 2 * m + 0) = b + 198 + 2 * m by omega, am_uE]
        show some (Sum.inr (4, [Value.int 0, .int 0, .int 0, .int 104, .ref (b + 198 + 2 * m + 1)])) = some (Sum.inr (4, [Value.int 0, .int 0, .int 0, .int 104, .ref (b + 199 + 2 * m)]))
        rw [show b + 198 + 2 * m + 1 = b + 199 + 2 * m by omega]
      · rw [am_uN (by omega), am_uN (by omega), show b + (198 + 2 * m + 1) = b + 198 + 2 * m + 1 by omega, am_uE]
        show _ = some (am_rwE (st_u am_s0 m))
        rw [hi_stu, hi_rwE]
        rfl
    · intro k hk1 hk2
      rw [am_uN hk1, am_uN (by omega), am_uN (by omega), am_uN (by omega)])
  have loop1 := am_for (fun i => ∀ (E' : am_E), hi_I b i 0 E E' → G 133 [some (.ref b), some (.int (nI i))] [] (b + 18 + 6 * i) E' (17 + 6 * i) (327 + 50 * i)) 30 (by
    intro E' hI
    apply hC.2.1
    have hl := loop2 0 (by omega) E' hI
    simp only [↓xaa_0, ↓xar_0, ↓xinc_1i, ↓xinc_1a, ↓xinc_1n, ↓xii_1, ↓xisi_1i, ↓xisi_1a, ↓xisi_1n, ↓xpi, ↓xic, bk_X7_init_0, bk_X7_init_133, bk_X7_init_160, o_pi, o_iload, o_aload, o_istore, o_iinc, o_dup, o_ic_ge, o_if, o_ic, o_getf, o_putf, o_new, o_newa, o_ast, o_oinit, o_vret, o_call, o_callV, am_kc, am_noX, am_s1, am_s2, am_kill, am_inl, am_sl, Value.category, List.getElem?_cons_zero, List.getElem?_cons_succ, List.set_cons_zero, List.set_cons_succ, List.length_cons, List.length_nil, List.take_succ_cons, List.take_zero, List.drop_succ_cons, List.drop_zero, List.reverse_cons, List.reverse_nil, List.nil_append, List.cons_append, List.append_nil, List.map_cons, List.map_nil, List.sum_cons, List.sum_nil, List.replicate_succ, List.replicate_zero, Nat.zero_add, Nat.add_zero, Nat.le_refl, Nat.zero_le, ite_true, ite_false, if_true, if_false, true_and, and_true, eq_self, not_true_eq_false, not_false_eq_true, am_nb0, am_nb1, am_ni, am_fi, am_fr, am_fra, am_fz0, am_fz1, am_fl, am_uE, am_vnI, am_uu, am_ltx, ite_not, Classical.not_not, reduceIte, reduceCtorEq, Nat.reduceEqDiff, Nat.reduceAdd, Nat.reduceSub, Nat.reduceMul, Nat.reduceLeDiff, Nat.reduceLT, Int32.reduceLE, Int32.reduceLT, am_10, am_01, am_ite0, am_ite1, ms_boT, ms_boF, rmc_X0_init, rms_X0_init, rmc_X2_init, rms_X2_init, rmc_X3_init, rms_X3_init, rmc_X4_init, rms_X4_init, rmc_X5_init, rms_X5_init, rmc_X6_init, rms_X6_init, rmc_X7_init, rms_X7_init]
    exact hl) (fun i hi hn E' hI => by
    apply hC.2.1
    have g0 : E' b = some (hi_top b i 0 0) := hI.2.1 0 (by decide)
    have g0' : E' b = some (.inr (7, [.ref (b + 1), .ref (b + 3), .ref (b + 4), .ref (b + 5), .int 0, .int 0, .int 1, .int 0, .int 0, .int 0, .int 0, .ref (b + 6), .ref (b + 9), .ref (b + 12), .ref (b + 15), .ref (b + 16)])) := g0
    have g3 : E' (b + 3) = some (.inl (5, 30, .inr (.inr (.inr (.inr (fun k => if k < i then some (b + 18 + 6 * k) else none)))))) := hI.2.1 3 (by decide)
    have n2 : b + 3 ≠ b + 18 + 6 * i := by omega
    simp only [↓xaa_0, ↓xar_0, ↓xinc_1i, ↓xinc_1a, ↓xinc_1n, ↓xii_1, ↓xisi_1i, ↓xisi_1a, ↓xisi_1n, ↓xpi, ↓xic, bk_X7_init_0, bk_X7_init_133, bk_X7_init_160, o_pi, o_iload, o_aload, o_istore, o_iinc, o_dup, o_ic_ge, o_if, o_ic, o_getf, o_putf, o_new, o_newa, o_ast, o_oinit, o_vret, o_call, o_callV, am_kc, am_noX, am_s1, am_s2, am_kill, am_inl, am_sl, Value.category, List.getElem?_cons_zero, List.getElem?_cons_succ, List.set_cons_zero, List.set_cons_succ, List.length_cons, List.length_nil, List.take_succ_cons, List.take_zero, List.drop_succ_cons, List.drop_zero, List.reverse_cons, List.reverse_nil, List.nil_append, List.cons_append, List.append_nil, List.map_cons, List.map_nil, List.sum_cons, List.sum_nil, List.replicate_succ, List.replicate_zero, Nat.zero_add, Nat.add_zero, Nat.le_refl, Nat.zero_le, ite_true, ite_false, if_true, if_false, true_and, and_true, eq_self, not_true_eq_false, not_false_eq_true, am_nb0, am_nb1, am_ni, am_fi, am_fr, am_fra, am_fz0, am_fz1, am_fl, am_uE, am_vnI, am_uu, am_ltx, ite_not, Classical.not_not, reduceIte, reduceCtorEq, Nat.reduceEqDiff, Nat.reduceAdd, Nat.reduceSub, Nat.reduceMul, Nat.reduceLeDiff, Nat.reduceLT, Int32.reduceLE, Int32.reduceLT, am_10, am_01, am_ite0, am_ite1, ms_boT, ms_boF, rmc_X0_init, rms_X0_init, rmc_X2_init, rms_X2_init, rmc_X3_init, rms_X3_init, rmc_X4_init, rms_X4_init, rmc_X5_init, rms_X5_init, rmc_X6_init, rms_X6_init, rmc_X7_init, rms_X7_init, show ((30 : Int32) ≤ nI (i)) = False from am_nge (show i < 30 by omega) (by decide), g0', am_uE]
    refine ⟨by omega, by omega, b + 18 + 6 * i, rfl, by omega, am_uE, ?_⟩
    have m1 : b + 3 ≠ b + 18 + 6 * i + 1 := by omega
    have m2 : b + 3 ≠ b + 18 + 6 * i + 1 + 1 := by omega
    have m3 : b + 3 ≠ b + 18 + 6 * i + 1 + 2 := by omega
    have m4 : b + 3 ≠ b + 18 + 6 * i + 1 + 3 := by omega
    have m5 : b + 3 ≠ b + 18 + 6 * i + 1 + 4 := by omega
    simp only [↓xaa_0, ↓xar_0, ↓xinc_1i, ↓xinc_1a, ↓xinc_1n, ↓xii_1, ↓xisi_1i, ↓xisi_1a, ↓xisi_1n, ↓xpi, ↓xic, bk_X7_init_0, bk_X7_init_133, bk_X7_init_160, o_pi, o_iload, o_aload, o_istore, o_iinc, o_dup, o_ic_ge, o_if, o_ic, o_getf, o_putf, o_new, o_newa, o_ast, o_oinit, o_vret, o_call, o_callV, am_kc, am_noX, am_s1, am_s2, am_kill, am_inl, am_sl, Value.category, List.getElem?_cons_zero, List.getElem?_cons_succ, List.set_cons_zero, List.set_cons_succ, List.length_cons, List.length_nil, List.take_succ_cons, List.take_zero, List.drop_succ_cons, List.drop_zero, List.reverse_cons, List.reverse_nil, List.nil_append, List.cons_append, List.append_nil, List.map_cons, List.map_nil, List.sum_cons, List.sum_nil, List.replicate_succ, List.replicate_zero, Nat.zero_add, Nat.add_zero, Nat.le_refl, Nat.zero_le, ite_true, ite_false, if_true, if_false, true_and, and_true, eq_self, not_true_eq_false, not_false_eq_true, am_nb0, am_nb1, am_ni, am_fi, am_fr, am_fra, am_fz0, am_fz1, am_fl, am_uE, am_vnI, am_uu, am_ltx, ite_not, Classical.not_not, reduceIte, reduceCtorEq, Nat.reduceEqDiff, Nat.reduceAdd, Nat.reduceSub, Nat.reduceMul, Nat.reduceLeDiff, Nat.reduceLT, Int32.reduceLE, Int32.reduceLT, am_10, am_01, am_ite0, am_ite1, ms_boT, ms_boF, rmc_X0_init, rms_X0_init, rmc_X2_init, rms_X2_init, rmc_X3_init, rms_X3_init, rmc_X4_init, rms_X4_init, rmc_X5_init, rms_X5_init, rmc_X6_init, rms_X6_init, rmc_X7_init, rms_X7_init, am_uN n2, am_uN m1, am_uN m2, am_uN m3, am_uN m4, am_uN m5, g3, am_vi hi (show 30 < 2 ^ 31 by decide), am_cl (show i < 2 ^ 31 by omega), nI_1]
    have en : b + 18 + 6 * i + 1 + 5 = b + 18 + 6 * (i + 1) := by omega
    have ec : 17 + 6 * i + 1 + 5 = 17 + 6 * (i + 1) := by omega
    have es : 327 + 50 * i + 7 + 43 = 327 + 50 * (i + 1) := by omega
    rw [en, ec, es]
    refine hn _ (hi_pane hI hi ?_ ?_ ?_)
    · rw [am_uE, hi_up]
      rfl
    · intro c hc
      rw [am_uN (by omega)]
      rcases (show c = 0 ∨ c = 1 ∨ c = 2 ∨ c = 3 ∨ c = 4 ∨ c = 5 by omega) with rfl | rfl | rfl | rfl | rfl | rfl
      · rw [show b + (18 + 6 * i + 0) = b + 18 + 6 * i by omega, am_uE]
        show some (Sum.inr (2, [Value.int 0, .int 45, .int 45, .int 0, .int 0, .ref (b + 18 + 6 * i + 1), .ref (b + 18 + 6 * i + 1 + 3)])) = some (Sum.inr (2, [Value.int 0, .int (nI (am_s0 2 i 0)), .int (nI (am_s0 3 i 0)), .int 0, .int 0, .ref (b + 19 + 6 * i), .ref (b + 22 + 6 * i)]))
        rw [show b + 18 + 6 * i + 1 = b + 19 + 6 * i by omega, show b + 19 + 6 * i + 3 = b + 22 + 6 * i by omega, show am_s0 2 i 0 = 45 from if_pos hi, show am_s0 3 i 0 = 45 from if_pos hi]
        rfl
      · rw [am_uN (by omega), am_uN (by omega), am_uN (by omega), am_uN (by omega), am_uN (by omega), show b + (18 + 6 * i + 1) = b + 18 + 6 * i + 1 by omega, am_uE]
        show some (Sum.inr (1, [Value.ref (b + 18 + 6 * i + 1 + 1), .ref (b + 18 + 6 * i + 1 + 2)])) = some (Sum.inr (1, [Value.ref (b + 20 + 6 * i), .ref (b + 21 + 6 * i)]))
        rw [show b + 18 + 6 * i + 1 + 1 = b + 20 + 6 * i by omega, show b + 18 + 6 * i + 1 + 2 = b + 21 + 6 * i by omega]
      · rw [am_uN (by omega), am_uN (by omega), am_uN (by omega), am_uN (by omega), show b + (18 + 6 * i + 2) = b + 18 + 6 * i + 1 + 1 by omega, am_uE]
        rfl
      · rw [am_uN (by omega), am_uN (by omega), am_uN (by omega), show b + (18 + 6 * i + 3) = b + 18 + 6 * i + 1 + 2 by omega, am_uE]
        rfl
      · rw [am_uN (by omega), am_uN (by omega), show b + (18 + 6 * i + 4) = b + 18 + 6 * i + 1 + 3 by omega, am_uE]
        show some (Sum.inr (6, [Value.ref (b + 18 + 6 * i + 1 + 4)])) = some (Sum.inr (6, [Value.ref (b + 23 + 6 * i)]))
        rw [show b + 18 + 6 * i + 1 + 4 = b + 23 + 6 * i by omega]
      · rw [am_uN (by omega), show b + (18 + 6 * i + 5) = b + 18 + 6 * i + 1 + 4 by omega, am_uE]
        show _ = some (am_ywE (st_y am_s0 i))
        rw [hi_yw (Y := st_y am_s0 i) (fun y => decide_eq_false (fun q => absurd q.2 (by show ¬ (0 : Nat) = 1; decide)))]
        rfl
    · intro k hk1 hk2
      rw [am_uN hk1, am_uN (by omega), am_uN (by omega), am_uN (by omega), am_uN (by omega), am_uN (by omega), am_uN (by omega), am_uN (by omega)])
  apply hC.1
  simp only [↓xaa_0, ↓xar_0, ↓xinc_1i, ↓xinc_1a, ↓xinc_1n, ↓xii_1, ↓xisi_1i, ↓xisi_1a, ↓xisi_1n, ↓xpi, ↓xic, bk_X7_init_0, bk_X7_init_133, bk_X7_init_160, o_pi, o_iload, o_aload, o_istore, o_iinc, o_dup, o_ic_ge, o_if, o_ic, o_getf, o_putf, o_new, o_newa, o_ast, o_oinit, o_vret, o_call, o_callV, am_kc, am_noX, am_s1, am_s2, am_kill, am_inl, am_sl, Value.category, List.getElem?_cons_zero, List.getElem?_cons_succ, List.set_cons_zero, List.set_cons_succ, List.length_cons, List.length_nil, List.take_succ_cons, List.take_zero, List.drop_succ_cons, List.drop_zero, List.reverse_cons, List.reverse_nil, List.nil_append, List.cons_append, List.append_nil, List.map_cons, List.map_nil, List.sum_cons, List.sum_nil, List.replicate_succ, List.replicate_zero, Nat.zero_add, Nat.add_zero, Nat.le_refl, Nat.zero_le, ite_true, ite_false, if_true, if_false, true_and, and_true, eq_self, not_true_eq_false, not_false_eq_true, am_nb0, am_nb1, am_ni, am_fi, am_fr, am_fra, am_fz0, am_fz1, am_fl, am_uE, am_vnI, am_uu, am_ltx, ite_not, Classical.not_not, reduceIte, reduceCtorEq, Nat.reduceEqDiff, Nat.reduceAdd, Nat.reduceSub, Nat.reduceMul, Nat.reduceLeDiff, Nat.reduceLT, Int32.reduceLE, Int32.reduceLT, am_10, am_01, am_ite0, am_ite1, ms_boT, ms_boF, rmc_X0_init, rms_X0_init, rmc_X2_init, rms_X2_init, rmc_X3_init, rms_X3_init, rmc_X4_init, rms_X4_init, rmc_X5_init, rms_X5_init, rmc_X6_init, rms_X6_init, rmc_X7_init, rms_X7_init, h1, am_uA, am_q1, am_q2, Nat.add_assoc, am_clL 30 (by decide), am_clL 8 (by decide), if_true, if_false]
  refine ⟨b + 1, rfl, by omega, by simp only [am_uA, am_q1, am_q2, Nat.add_assoc, Nat.reduceAdd, Nat.reduceEqDiff, ite_true, ite_false], ?_⟩
  simp only [↓xaa_0, ↓xar_0, ↓xinc_1i, ↓xinc_1a, ↓xinc_1n, ↓xii_1, ↓xisi_1i, ↓xisi_1a, ↓xisi_1n, ↓xpi, ↓xic, bk_X7_init_0, bk_X7_init_133, bk_X7_init_160, o_pi, o_iload, o_aload, o_istore, o_iinc, o_dup, o_ic_ge, o_if, o_ic, o_getf, o_putf, o_new, o_newa, o_ast, o_oinit, o_vret, o_call, o_callV, am_kc, am_noX, am_s1, am_s2, am_kill, am_inl, am_sl, Value.category, List.getElem?_cons_zero, List.getElem?_cons_succ, List.set_cons_zero, List.set_cons_succ, List.length_cons, List.length_nil, List.take_succ_cons, List.take_zero, List.drop_succ_cons, List.drop_zero, List.reverse_cons, List.reverse_nil, List.nil_append, List.cons_append, List.append_nil, List.map_cons, List.map_nil, List.sum_cons, List.sum_nil, List.replicate_succ, List.replicate_zero, Nat.zero_add, Nat.add_zero, Nat.le_refl, Nat.zero_le, ite_true, ite_false, if_true, if_false, true_and, and_true, eq_self, not_true_eq_false, not_false_eq_true, am_nb0, am_nb1, am_ni, am_fi, am_fr, am_fra, am_fz0, am_fz1, am_fl, am_uE, am_vnI, am_uu, am_ltx, ite_not, Classical.not_not, reduceIte, reduceCtorEq, Nat.reduceEqDiff, Nat.reduceAdd, Nat.reduceSub, Nat.reduceMul, Nat.reduceLeDiff, Nat.reduceLT, Int32.reduceLE, Int32.reduceLT, am_10, am_01, am_ite0, am_ite1, ms_boT, ms_boF, rmc_X0_init, rms_X0_init, rmc_X2_init, rms_X2_init, rmc_X3_init, rms_X3_init, rmc_X4_init, rms_X4_init, rmc_X5_init, rms_X5_init, rmc_X6_init, rms_X6_init, rmc_X7_init, rms_X7_init, h1, am_uA, am_q1, am_q2, Nat.add_assoc, am_clL 30 (by decide), am_clL 8 (by decide), if_true, if_false]
  refine ⟨b + 5, .int 0, .int 0, .int 0, rfl, by simp only [am_uA, am_q1, am_q2, Nat.add_assoc, Nat.reduceAdd, Nat.reduceEqDiff, ite_true, ite_false], ?_⟩
  simp only [↓xaa_0, ↓xar_0, ↓xinc_1i, ↓xinc_1a, ↓xinc_1n, ↓xii_1, ↓xisi_1i, ↓xisi_1a, ↓xisi_1n, ↓xpi, ↓xic, bk_X7_init_0, bk_X7_init_133, bk_X7_init_160, o_pi, o_iload, o_aload, o_istore, o_iinc, o_dup, o_ic_ge, o_if, o_ic, o_getf, o_putf, o_new, o_newa, o_ast, o_oinit, o_vret, o_call, o_callV, am_kc, am_noX, am_s1, am_s2, am_kill, am_inl, am_sl, Value.category, List.getElem?_cons_zero, List.getElem?_cons_succ, List.set_cons_zero, List.set_cons_succ, List.length_cons, List.length_nil, List.take_succ_cons, List.take_zero, List.drop_succ_cons, List.drop_zero, List.reverse_cons, List.reverse_nil, List.nil_append, List.cons_append, List.append_nil, List.map_cons, List.map_nil, List.sum_cons, List.sum_nil, List.replicate_succ, List.replicate_zero, Nat.zero_add, Nat.add_zero, Nat.le_refl, Nat.zero_le, ite_true, ite_false, if_true, if_false, true_and, and_true, eq_self, not_true_eq_false, not_false_eq_true, am_nb0, am_nb1, am_ni, am_fi, am_fr, am_fra, am_fz0, am_fz1, am_fl, am_uE, am_vnI, am_uu, am_ltx, ite_not, Classical.not_not, reduceIte, reduceCtorEq, Nat.reduceEqDiff, Nat.reduceAdd, Nat.reduceSub, Nat.reduceMul, Nat.reduceLeDiff, Nat.reduceLT, Int32.reduceLE, Int32.reduceLT, am_10, am_01, am_ite0, am_ite1, ms_boT, ms_boF, rmc_X0_init, rms_X0_init, rmc_X2_init, rms_X2_init, rmc_X3_init, rms_X3_init, rmc_X4_init, rms_X4_init, rmc_X5_init, rms_X5_init, rmc_X6_init, rms_X6_init, rmc_X7_init, rms_X7_init, h1, am_uA, am_q1, am_q2, Nat.add_assoc, am_clL 30 (by decide), am_clL 8 (by decide), if_true, if_false]
  refine ⟨b + 6, rfl, by omega, by simp only [am_uA, am_q1, am_q2, Nat.add_assoc, Nat.reduceAdd, Nat.reduceEqDiff, ite_true, ite_false], ?_⟩
  simp only [↓xaa_0, ↓xar_0, ↓xinc_1i, ↓xinc_1a, ↓xinc_1n, ↓xii_1, ↓xisi_1i, ↓xisi_1a, ↓xisi_1n, ↓xpi, ↓xic, bk_X7_init_0, bk_X7_init_133, bk_X7_init_160, o_pi, o_iload, o_aload, o_istore, o_iinc, o_dup, o_ic_ge, o_if, o_ic, o_getf, o_putf, o_new, o_newa, o_ast, o_oinit, o_vret, o_call, o_callV, am_kc, am_noX, am_s1, am_s2, am_kill, am_inl, am_sl, Value.category, List.getElem?_cons_zero, List.getElem?_cons_succ, List.set_cons_zero, List.set_cons_succ, List.length_cons, List.length_nil, List.take_succ_cons, List.take_zero, List.drop_succ_cons, List.drop_zero, List.reverse_cons, List.reverse_nil, List.nil_append, List.cons_append, List.append_nil, List.map_cons, List.map_nil, List.sum_cons, List.sum_nil, List.replicate_succ, List.replicate_zero, Nat.zero_add, Nat.add_zero, Nat.le_refl, Nat.zero_le, ite_true, ite_false, if_true, if_false, true_and, and_true, eq_self, not_true_eq_false, not_false_eq_true, am_nb0, am_nb1, am_ni, am_fi, am_fr, am_fra, am_fz0, am_fz1, am_fl, am_uE, am_vnI, am_uu, am_ltx, ite_not, Classical.not_not, reduceIte, reduceCtorEq, Nat.reduceEqDiff, Nat.reduceAdd, Nat.reduceSub, Nat.reduceMul, Nat.reduceLeDiff, Nat.reduceLT, Int32.reduceLE, Int32.reduceLT, am_10, am_01, am_ite0, am_ite1, ms_boT, ms_boF, rmc_X0_init, rms_X0_init, rmc_X2_init, rms_X2_init, rmc_X3_init, rms_X3_init, rmc_X4_init, rms_X4_init, rmc_X5_init, rms_X5_init, rmc_X6_init, rms_X6_init, rmc_X7_init, rms_X7_init, h1, am_uA, am_q1, am_q2, Nat.add_assoc, am_clL 30 (by decide), am_clL 8 (by decide), if_true, if_false]
  refine ⟨b + 9, rfl, by omega, by simp only [am_uA, am_q1, am_q2, Nat.add_assoc, Nat.reduceAdd, Nat.reduceEqDiff, ite_true, ite_false], ?_⟩
  simp only [↓xaa_0, ↓xar_0, ↓xinc_1i, ↓xinc_1a, ↓xinc_1n, ↓xii_1, ↓xisi_1i, ↓xisi_1a, ↓xisi_1n, ↓xpi, ↓xic, bk_X7_init_0, bk_X7_init_133, bk_X7_init_160, o_pi, o_iload, o_aload, o_istore, o_iinc, o_dup, o_ic_ge, o_if, o_ic, o_getf, o_putf, o_new, o_newa, o_ast, o_oinit, o_vret, o_call, o_callV, am_kc, am_noX, am_s1, am_s2, am_kill, am_inl, am_sl, Value.category, List.getElem?_cons_zero, List.getElem?_cons_succ, List.set_cons_zero, List.set_cons_succ, List.length_cons, List.length_nil, List.take_succ_cons, List.take_zero, List.drop_succ_cons, List.drop_zero, List.reverse_cons, List.reverse_nil, List.nil_append, List.cons_append, List.append_nil, List.map_cons, List.map_nil, List.sum_cons, List.sum_nil, List.replicate_succ, List.replicate_zero, Nat.zero_add, Nat.add_zero, Nat.le_refl, Nat.zero_le, ite_true, ite_false, if_true, if_false, true_and, and_true, eq_self, not_true_eq_false, not_false_eq_true, am_nb0, am_nb1, am_ni, am_fi, am_fr, am_fra, am_fz0, am_fz1, am_fl, am_uE, am_vnI, am_uu, am_ltx, ite_not, Classical.not_not, reduceIte, reduceCtorEq, Nat.reduceEqDiff, Nat.reduceAdd, Nat.reduceSub, Nat.reduceMul, Nat.reduceLeDiff, Nat.reduceLT, Int32.reduceLE, Int32.reduceLT, am_10, am_01, am_ite0, am_ite1, ms_boT, ms_boF, rmc_X0_init, rms_X0_init, rmc_X2_init, rms_X2_init, rmc_X3_init, rms_X3_init, rmc_X4_init, rms_X4_init, rmc_X5_init, rms_X5_init, rmc_X6_init, rms_X6_init, rmc_X7_init, rms_X7_init, h1, am_uA, am_q1, am_q2, Nat.add_assoc, am_clL 30 (by decide), am_clL 8 (by decide), if_true, if_false]
  refine ⟨b + 12, rfl, by omega, by simp only [am_uA, am_q1, am_q2, Nat.add_assoc, Nat.reduceAdd, Nat.reduceEqDiff, ite_true, ite_false], ?_⟩
  simp only [↓xaa_0, ↓xar_0, ↓xinc_1i, ↓xinc_1a, ↓xinc_1n, ↓xii_1, ↓xisi_1i, ↓xisi_1a, ↓xisi_1n, ↓xpi, ↓xic, bk_X7_init_0, bk_X7_init_133, bk_X7_init_160, o_pi, o_iload, o_aload, o_istore, o_iinc, o_dup, o_ic_ge, o_if, o_ic, o_getf, o_putf, o_new, o_newa, o_ast, o_oinit, o_vret, o_call, o_callV, am_kc, am_noX, am_s1, am_s2, am_kill, am_inl, am_sl, Value.category, List.getElem?_cons_zero, List.getElem?_cons_succ, List.set_cons_zero, List.set_cons_succ, List.length_cons, List.length_nil, List.take_succ_cons, List.take_zero, List.drop_succ_cons, List.drop_zero, List.reverse_cons, List.reverse_nil, List.nil_append, List.cons_append, List.append_nil, List.map_cons, List.map_nil, List.sum_cons, List.sum_nil, List.replicate_succ, List.replicate_zero, Nat.zero_add, Nat.add_zero, Nat.le_refl, Nat.zero_le, ite_true, ite_false, if_true, if_false, true_and, and_true, eq_self, not_true_eq_false, not_false_eq_true, am_nb0, am_nb1, am_ni, am_fi, am_fr, am_fra, am_fz0, am_fz1, am_fl, am_uE, am_vnI, am_uu, am_ltx, ite_not, Classical.not_not, reduceIte, reduceCtorEq, Nat.reduceEqDiff, Nat.reduceAdd, Nat.reduceSub, Nat.reduceMul, Nat.reduceLeDiff, Nat.reduceLT, Int32.reduceLE, Int32.reduceLT, am_10, am_01, am_ite0, am_ite1, ms_boT, ms_boF, rmc_X0_init, rms_X0_init, rmc_X2_init, rms_X2_init, rmc_X3_init, rms_X3_init, rmc_X4_init, rms_X4_init, rmc_X5_init, rms_X5_init, rmc_X6_init, rms_X6_init, rmc_X7_init, rms_X7_init, h1, am_uA, am_q1, am_q2, Nat.add_assoc, am_clL 30 (by decide), am_clL 8 (by decide), if_true, if_false]
  refine ⟨b + 16, rfl, by omega, by simp only [am_uA, am_q1, am_q2, Nat.add_assoc, Nat.reduceAdd, Nat.reduceEqDiff, ite_true, ite_false], ?_⟩
  simp only [↓xaa_0, ↓xar_0, ↓xinc_1i, ↓xinc_1a, ↓xinc_1n, ↓xii_1, ↓xisi_1i, ↓xisi_1a, ↓xisi_1n, ↓xpi, ↓xic, bk_X7_init_0, bk_X7_init_133, bk_X7_init_160, o_pi, o_iload, o_aload, o_istore, o_iinc, o_dup, o_ic_ge, o_if, o_ic, o_getf, o_putf, o_new, o_newa, o_ast, o_oinit, o_vret, o_call, o_callV, am_kc, am_noX, am_s1, am_s2, am_kill, am_inl, am_sl, Value.category, List.getElem?_cons_zero, List.getElem?_cons_succ, List.set_cons_zero, List.set_cons_succ, List.length_cons, List.length_nil, List.take_succ_cons, List.take_zero, List.drop_succ_cons, List.drop_zero, List.reverse_cons, List.reverse_nil, List.nil_append, List.cons_append, List.append_nil, List.map_cons, List.map_nil, List.sum_cons, List.sum_nil, List.replicate_succ, List.replicate_zero, Nat.zero_add, Nat.add_zero, Nat.le_refl, Nat.zero_le, ite_true, ite_false, if_true, if_false, true_and, and_true, eq_self, not_true_eq_false, not_false_eq_true, am_nb0, am_nb1, am_ni, am_fi, am_fr, am_fra, am_fz0, am_fz1, am_fl, am_uE, am_vnI, am_uu, am_ltx, ite_not, Classical.not_not, reduceIte, reduceCtorEq, Nat.reduceEqDiff, Nat.reduceAdd, Nat.reduceSub, Nat.reduceMul, Nat.reduceLeDiff, Nat.reduceLT, Int32.reduceLE, Int32.reduceLT, am_10, am_01, am_ite0, am_ite1, ms_boT, ms_boF, rmc_X0_init, rms_X0_init, rmc_X2_init, rms_X2_init, rmc_X3_init, rms_X3_init, rmc_X4_init, rms_X4_init, rmc_X5_init, rms_X5_init, rmc_X6_init, rms_X6_init, rmc_X7_init, rms_X7_init, h1, am_uA, am_q1, am_q2, Nat.add_assoc, am_clL 30 (by decide), am_clL 8 (by decide), if_true, if_false]
  refine loop1 0 (by omega) _ ⟨fun k hk => ?_, fun k hk => ?_, fun p c hp => by omega, fun p c hp => by omega⟩
  · simp only [am_uA, show ¬ k = b by omega, show ∀ j, ¬ k = b + j from fun j => by omega, if_false]
  · have e3 : (fun k => if k < 0 then some (b + 18 + 6 * k) else none) = fun _ => none := by funext k; simp
    have e4 : (fun k => if k < 0 then some (b + 198 + 2 * k) else none) = fun _ => none := by funext k; simp
    have ey : am_ywE (fun _ => false) = .inl (1, 32, .inr (.inl (fun _ => 0))) := hi_yw (fun _ => rfl)
    have ef := s0_f2
    refine (Nat.lt_succ_iff_lt_or_eq.mp hk).elim (fun hk => ?_) (fun e => by
      subst e
      simp only [am_uA, am_q1, am_q2, Nat.reduceEqDiff, Nat.add_zero, ite_true, ite_false, if_true, if_false]
      show _ = some (am_ywE (fun _ => false))
      rw [ey]
      rfl)
    refine (Nat.lt_succ_iff_lt_or_eq.mp hk).elim (fun hk => ?_) (fun e => by
      subst e
      simp only [am_uA, am_q1, am_q2, Nat.reduceEqDiff, Nat.add_zero, ite_true, ite_false, if_true, if_false]
      rfl)
    refine (Nat.lt_succ_iff_lt_or_eq.mp hk).elim (fun hk => ?_) (fun e => by
      subst e
      simp only [am_uA, am_q1, am_q2, Nat.reduceEqDiff, Nat.add_zero, ite_true, ite_false, if_true, if_false]
      rfl)
    refine (Nat.lt_succ_iff_lt_or_eq.mp hk).elim (fun hk => ?_) (fun e => by
      subst e
      simp only [am_uA, am_q1, am_q2, Nat.reduceEqDiff, Nat.add_zero, ite_true, ite_false, if_true, if_false]
      show _ = some (am_rwE am_non)
      rw [hi_rwE]
      rfl)
    refine (Nat.lt_succ_iff_lt_or_eq.mp hk).elim (fun hk => ?_) (fun e => by
      subst e
      simp only [am_uA, am_q1, am_q2, Nat.reduceEqDiff, Nat.add_zero, ite_true, ite_false, if_true, if_false]
      show _ = some (am_rwE am_non)
      rw [hi_rwE]
      rfl)
    refine (Nat.lt_succ_iff_lt_or_eq.mp hk).elim (fun hk => ?_) (fun e => by
      subst e
      simp only [am_uA, am_q1, am_q2, Nat.reduceEqDiff, Nat.add_zero, ite_true, ite_false, if_true, if_false]
      rfl)
    refine (Nat.lt_succ_iff_lt_or_eq.mp hk).elim (fun hk => ?_) (fun e => by
      subst e
      simp only [am_uA, am_q1, am_q2, Nat.reduceEqDiff, Nat.add_zero, ite_true, ite_false, if_true, if_false]
      show _ = some (am_rwE am_non)
      rw [hi_rwE]
      rfl)
    refine (Nat.lt_succ_iff_lt_or_eq.mp hk).elim (fun hk => ?_) (fun e => by
      subst e
      simp only [am_uA, am_q1, am_q2, Nat.reduceEqDiff, Nat.add_zero, ite_true, ite_false, if_true, if_false]
      show _ = some (am_rwE am_non)
      rw [hi_rwE]
      rfl)
    refine (Nat.lt_succ_iff_lt_or_eq.mp hk).elim (fun hk => ?_) (fun e => by
      subst e
      simp only [am_uA, am_q1, am_q2, Nat.reduceEqDiff, Nat.add_zero, ite_true, ite_false, if_true, if_false]
      rfl)
    refine (Nat.lt_succ_iff_lt_or_eq.mp hk).elim (fun hk => ?_) (fun e => by
      subst e
      simp only [am_uA, am_q1, am_q2, Nat.reduceEqDiff, Nat.add_zero, ite_true, ite_false, if_true, if_false]
      show _ = some (am_rwE am_non)
      rw [hi_rwE]
      rfl)
    refine (Nat.lt_succ_iff_lt_or_eq.mp hk).elim (fun hk => ?_) (fun e => by
      subst e
      simp only [am_uA, am_q1, am_q2, Nat.reduceEqDiff, Nat.add_zero, ite_true, ite_false, if_true, if_false]
      show _ = some (am_rwE am_non)
      rw [hi_rwE]
      rfl)
    refine (Nat.lt_succ_iff_lt_or_eq.mp hk).elim (fun hk => ?_) (fun e => by
      subst e
      simp only [am_uA, am_q1, am_q2, Nat.reduceEqDiff, Nat.add_zero, ite_true, ite_false, if_true, if_false]
      rfl)
    refine (Nat.lt_succ_iff_lt_or_eq.mp hk).elim (fun hk => ?_) (fun e => by
      subst e
      simp only [am_uA, am_q1, am_q2, Nat.reduceEqDiff, Nat.add_zero, ite_true, ite_false, if_true, if_false]
      rfl)
    refine (Nat.lt_succ_iff_lt_or_eq.mp hk).elim (fun hk => ?_) (fun e => by
      subst e
      simp only [am_uA, am_q1, am_q2, Nat.reduceEqDiff, Nat.add_zero, ite_true, ite_false, if_true, if_false]
      show _ = some (Sum.inl (6, 8, Sum.inr (Sum.inr (Sum.inr (Sum.inr (fun k => if k < 0 then some (b + 198 + 2 * k) else none))))))
      rw [e4]
      rfl)
    refine (Nat.lt_succ_iff_lt_or_eq.mp hk).elim (fun hk => ?_) (fun e => by
      subst e
      simp only [am_uA, am_q1, am_q2, Nat.reduceEqDiff, Nat.add_zero, ite_true, ite_false, if_true, if_false]
      show _ = some (Sum.inl (5, 30, Sum.inr (Sum.inr (Sum.inr (Sum.inr (fun k => if k < 0 then some (b + 18 + 6 * k) else none))))))
      rw [e3]
      rfl)
    refine (Nat.lt_succ_iff_lt_or_eq.mp hk).elim (fun hk => ?_) (fun e => by
      subst e
      simp only [am_uA, am_q1, am_q2, Nat.reduceEqDiff, Nat.add_zero, ite_true, ite_false, if_true, if_false]
      show _ = some (Sum.inl (0, 144, Sum.inl (st_f am_s0)))
      rw [ef])
    refine (Nat.lt_succ_iff_lt_or_eq.mp hk).elim (fun hk => ?_) (fun e => by
      subst e
      simp only [am_uA, am_q1, am_q2, Nat.reduceEqDiff, Nat.add_zero, ite_true, ite_false, if_true, if_false]
      rfl)
    refine (Nat.lt_succ_iff_lt_or_eq.mp hk).elim (fun hk => ?_) (fun e => by
      subst e
      simp only [am_uA, am_q1, am_q2, Nat.reduceEqDiff, Nat.add_zero, ite_true, ite_false, if_true, if_false]
      rfl)
    exact absurd hk (Nat.not_lt_zero _)
set_option maxRecDepth 100000 in
set_option maxHeartbeats 4000000 in
theorem sd_X7_init (X : am_X) (K : am_P) (F : am_F X cX7_init yX7_init.cls none (am_ws yX7_init cX7_init 2 none)) (FQ : am_FQ X K rm_X7_init.cells rm_X7_init.slots) (hR : am_Rm X rm_X7_init) (hT : am_noT X) (hn : am_nL X = 2) (hini : am_ini X) : cl_X7_init K (am_G X) := by
  have ts : ∀ w ∈ am_WS, w ∈ am_ws yX7_init cX7_init 2 none := fun w h => List.mem_cons_of_mem _ h
  exact ⟨ms_aload_n F (am_dk (q := (0, .aload_n 0, 1)) dk_X7_init_0 0 rfl) rfl (ms_oinit F hR (by decide) (by decide) (ts _ wd_31) (ts _ oi_inst) (ts _ oi_code) (am_dk (q := (1, .invokespecial 3, 3)) dk_X7_init_0 1 rfl) (ms_aload_n F (am_dk (q := (4, .aload_n 0, 1)) dk_X7_init_0 2 rfl) rfl (ms_new F hR (C := RX5) (T := TX5) (N := 1) (ty := tyX5) (fs := [.null]) (fun w h => ts _ (inw_X5 w h)) tyX5_ok (ts _ wd_34) (ts _ wd_35) (ts _ wd_2) rfl (by decide +kernel) rfl (by simp) (am_dk (q := (5, .new 9, 3)) dk_X7_init_0 3 rfl) (ms_dup F (am_dk (q := (8, .dup, 1)) dk_X7_init_0 4 rfl) (ms_callI F hR (ci := 5) (y := yX5_init) (maxL := 2) (rm' := rm_X5_init) (na := 0) ct_X5_init wd_38 wd_2 wd_36 wd_37 rfl (by decide +kernel) (by decide) (am_dk (q := (9, .invokespecial 11, 3)) dk_X7_init_0 5 rfl) (ms_noX F FQ hT) (ms_putfF F (ty := (.object "LeadlightHall$Wall")) (ty0 := tyX7) (C := RX7) (T := TX7) (N := 16) (j := 0) (fun w h => ts _ (inw_X7 w h)) rfl (by decide) tyX7_ok nmX7 (by decide +kernel) rfl hini rfl (ts _ wd_163) (am_dk (q := (12, .putfield 12, 3)) dk_X7_init_0 6 rfl) (ms_aload_n F (am_dk (q := (15, .aload_n 0, 1)) dk_X7_init_0 7 rfl) rfl (ms_bipush F (am_dk (q := (16, .bipush 30, 2)) dk_X7_init_0 8 rfl) (by decide +kernel) (ms_newq F hR (t := 5) (C := "LeadlightHall$Pane") (by decide) (ts _ wd_45) (am_dk (q := (18, .anewarray 16, 3)) dk_X7_init_0 9 rfl) (ms_putfF F (ty := (.array (.object "LeadlightHall$Pane"))) (ty0 := tyX7) (C := RX7) (T := TX7) (N := 16) (j := 1) (fun w h => ts _ (inw_X7 w h)) rfl (by decide) tyX7_ok nmX7 (by decide +kernel) rfl hini rfl (ts _ wd_164) (am_dk (q := (21, .putfield 18, 3)) dk_X7_init_0 10 rfl) (ms_aload_n F (am_dk (q := (24, .aload_n 0, 1)) dk_X7_init_0 11 rfl) rfl (ms_bipush F (am_dk (q := (25, .bipush 8, 2)) dk_X7_init_0 12 rfl) (by decide +kernel) (ms_newq F hR (t := 6) (C := "LeadlightHall$Sheet") (by decide) (ts _ wd_47) (am_dk (q := (27, .anewarray 22, 3)) dk_X7_init_0 13 rfl) (ms_putfF F (ty := (.array (.object "LeadlightHall$Sheet"))) (ty0 := tyX7) (C := RX7) (T := TX7) (N := 16) (j := 2) (fun w h => ts _ (inw_X7 w h)) rfl (by decide) tyX7_ok nmX7 (by decide +kernel) rfl hini rfl (ts _ wd_165) (am_dk (q := (30, .putfield 24, 3)) dk_X7_init_0 14 rfl) (ms_aload_n F (am_dk (q := (33, .aload_n 0, 1)) dk_X7_init_0 15 rfl) rfl (ms_new F hR (C := RX0) (T := TX0) (N := 3) (ty := tyX0) (fs := [.int 0, .int 0, .int 0]) (fun w h => ts _ (inw_X0 w h)) tyX0_ok (ts _ wd_49) (ts _ wd_50) (ts _ wd_3) rfl (by decide +kernel) rfl (by simp) (am_dk (q := (34, .new 28, 3)) dk_X7_init_1 0 rfl) (ms_dup F (am_dk (q := (37, .dup, 1)) dk_X7_init_1 1 rfl) (ms_callIN F hR (ci := 0) (y := yX0_init) (maxL := 1) (rm' := rm_X0_init) (na := 0) ct_X0_init wd_53 wd_3 wn_51 wd_52 rfl (by decide +kernel) (by decide) (am_dk (q := (38, .invokespecial 30, 3)) dk_X7_init_1 2 rfl) (ms_noX F FQ hT) (ms_putfF F (ty := (.object "LeadlightHall$Frame")) (ty0 := tyX7) (C := RX7) (T := TX7) (N := 16) (j := 3) (fun w h => ts _ (inw_X7 w h)) rfl (by decide) tyX7_ok nmX7 (by decide +kernel) rfl hini rfl (ts _ wd_166) (am_dk (q := (41, .putfield 31, 3)) dk_X7_init_1 3 rfl) (ms_aload_n F (am_dk (q := (44, .aload_n 0, 1)) dk_X7_init_1 4 rfl) rfl (ms_iconst F (am_dk (q := (45, .iconst 0, 1)) dk_X7_init_1 5 rfl) (by decide +kernel) (ms_putf F (ty := .int) (ty0 := tyX7) (C := RX7) (T := TX7) (N := 16) (j := 4) (fun w h => ts _ (inw_X7 w h)) rfl (by decide) tyX7_ok nmX7 (by decide +kernel) rfl (ts _ wd_167) (am_dk (q := (46, .putfield 35, 3)) dk_X7_init_1 6 rfl) (ms_aload_n F (am_dk (q := (49, .aload_n 0, 1)) dk_X7_init_1 7 rfl) rfl (ms_iconst F (am_dk (q := (50, .iconst 0, 1)) dk_X7_init_1 8 rfl) (by decide +kernel) (ms_putf F (ty := .int) (ty0 := tyX7) (C := RX7) (T := TX7) (N := 16) (j := 5) (fun w h => ts _ (inw_X7 w h)) rfl (by decide) tyX7_ok nmX7 (by decide +kernel) rfl (ts _ wd_168) (am_dk (q := (51, .putfield 39, 3)) dk_X7_init_1 9 rfl) (ms_aload_n F (am_dk (q := (54, .aload_n 0, 1)) dk_X7_init_1 10 rfl) rfl (ms_iconst F (am_dk (q := (55, .iconst 1, 1)) dk_X7_init_1 11 rfl) (by decide +kernel) (ms_putf F (ty := .int) (ty0 := tyX7) (C := RX7) (T := TX7) (N := 16) (j := 6) (fun w h => ts _ (inw_X7 w h)) rfl (by decide) tyX7_ok nmX7 (by decide +kernel) rfl (ts _ wd_169) (am_dk (q := (56, .putfield 42, 3)) dk_X7_init_1 12 rfl) (ms_aload_n F (am_dk (q := (59, .aload_n 0, 1)) dk_X7_init_1 13 rfl) rfl (ms_iconst F (am_dk (q := (60, .iconst 0, 1)) dk_X7_init_1 14 rfl) (by decide +kernel) (ms_putf F (ty := .boolean) (ty0 := tyX7) (C := RX7) (T := TX7) (N := 16) (j := 7) (fun w h => ts _ (inw_X7 w h)) rfl (by decide) tyX7_ok nmX7 (by decide +kernel) rfl (ts _ wd_170) (am_dk (q := (61, .putfield 45, 3)) dk_X7_init_1 15 rfl) (ms_aload_n F (am_dk (q := (64, .aload_n 0, 1)) dk_X7_init_2 0 rfl) rfl (ms_iconst F (am_dk (q := (65, .iconst 0, 1)) dk_X7_init_2 1 rfl) (by decide +kernel) (ms_putf F (ty := .int) (ty0 := tyX7) (C := RX7) (T := TX7) (N := 16) (j := 8) (fun w h => ts _ (inw_X7 w h)) rfl (by decide) tyX7_ok nmX7 (by decide +kernel) rfl (ts _ wd_171) (am_dk (q := (66, .putfield 49, 3)) dk_X7_init_2 2 rfl) (ms_aload_n F (am_dk (q := (69, .aload_n 0, 1)) dk_X7_init_2 3 rfl) rfl (ms_iconst F (am_dk (q := (70, .iconst 0, 1)) dk_X7_init_2 4 rfl) (by decide +kernel) (ms_putf F (ty := .int) (ty0 := tyX7) (C := RX7) (T := TX7) (N := 16) (j := 9) (fun w h => ts _ (inw_X7 w h)) rfl (by decide) tyX7_ok nmX7 (by decide +kernel) rfl (ts _ wd_172) (am_dk (q := (71, .putfield 52, 3)) dk_X7_init_2 5 rfl) (ms_aload_n F (am_dk (q := (74, .aload_n 0, 1)) dk_X7_init_2 6 rfl) rfl (ms_iconst F (am_dk (q := (75, .iconst 0, 1)) dk_X7_init_2 7 rfl) (by decide +kernel) (ms_putf F (ty := .int) (ty0 := tyX7) (C := RX7) (T := TX7) (N := 16) (j := 10) (fun w h => ts _ (inw_X7 w h)) rfl (by decide) tyX7_ok nmX7 (by decide +kernel) rfl (ts _ wd_173) (am_dk (q := (76, .putfield 55, 3)) dk_X7_init_2 8 rfl) (ms_aload_n F (am_dk (q := (79, .aload_n 0, 1)) dk_X7_init_2 9 rfl) rfl (ms_new F hR (C := RX3) (T := TX3) (N := 2) (ty := tyX3) (fs := [.null, .null]) (fun w h => ts _ (inw_X3 w h)) tyX3_ok (ts _ wd_67) (ts _ wd_68) (ts _ wd_4) rfl (by decide +kernel) rfl (by simp) (am_dk (q := (80, .new 58, 3)) dk_X7_init_2 10 rfl) (ms_dup F (am_dk (q := (83, .dup, 1)) dk_X7_init_2 11 rfl) (ms_callIN F hR (ci := 3) (y := yX3_init) (maxL := 1) (rm' := rm_X3_init) (na := 0) ct_X3_init wd_71 wd_4 wn_69 wd_70 rfl (by decide +kernel) (by decide) (am_dk (q := (84, .invokespecial 60, 3)) dk_X7_init_2 12 rfl) (ms_noX F FQ hT) (ms_putfF F (ty := (.object "LeadlightHall$Shape")) (ty0 := tyX7) (C := RX7) (T := TX7) (N := 16) (j := 11) (fun w h => ts _ (inw_X7 w h)) rfl (by decide) tyX7_ok nmX7 (by decide +kernel) rfl hini rfl (ts _ wd_174) (am_dk (q := (87, .putfield 61, 3)) dk_X7_init_2 13 rfl) (ms_aload_n F (am_dk (q := (90, .aload_n 0, 1)) dk_X7_init_2 14 rfl) rfl (ms_new F hR (C := RX3) (T := TX3) (N := 2) (ty := tyX3) (fs := [.null, .null]) (fun w h => ts _ (inw_X3 w h)) tyX3_ok (ts _ wd_67) (ts _ wd_68) (ts _ wd_4) rfl (by decide +kernel) rfl (by simp) (am_dk (q := (91, .new 58, 3)) dk_X7_init_2 15 rfl) (ms_dup F (am_dk (q := (94, .dup, 1)) dk_X7_init_3 0 rfl) (ms_callIN F hR (ci := 3) (y := yX3_init) (maxL := 1) (rm' := rm_X3_init) (na := 0) ct_X3_init wd_71 wd_4 wn_69 wd_70 rfl (by decide +kernel) (by decide) (am_dk (q := (95, .invokespecial 60, 3)) dk_X7_init_3 1 rfl) (ms_noX F FQ hT) (ms_putfF F (ty := (.object "LeadlightHall$Shape")) (ty0 := tyX7) (C := RX7) (T := TX7) (N := 16) (j := 12) (fun w h => ts _ (inw_X7 w h)) rfl (by decide) tyX7_ok nmX7 (by decide +kernel) rfl hini rfl (ts _ wd_175) (am_dk (q := (98, .putfield 65, 3)) dk_X7_init_3 2 rfl) (ms_aload_n F (am_dk (q := (101, .aload_n 0, 1)) dk_X7_init_3 3 rfl) rfl (ms_new F hR (C := RX3) (T := TX3) (N := 2) (ty := tyX3) (fs := [.null, .null]) (fun w h => ts _ (inw_X3 w h)) tyX3_ok (ts _ wd_67) (ts _ wd_68) (ts _ wd_4) rfl (by decide +kernel) rfl (by simp) (am_dk (q := (102, .new 58, 3)) dk_X7_init_3 4 rfl) (ms_dup F (am_dk (q := (105, .dup, 1)) dk_X7_init_3 5 rfl) (ms_callIN F hR (ci := 3) (y := yX3_init) (maxL := 1) (rm' := rm_X3_init) (na := 0) ct_X3_init wd_71 wd_4 wn_69 wd_70 rfl (by decide +kernel) (by decide) (am_dk (q := (106, .invokespecial 60, 3)) dk_X7_init_3 6 rfl) (ms_noX F FQ hT) (ms_putfF F (ty := (.object "LeadlightHall$Shape")) (ty0 := tyX7) (C := RX7) (T := TX7) (N := 16) (j := 13) (fun w h => ts _ (inw_X7 w h)) rfl (by decide) tyX7_ok nmX7 (by decide +kernel) rfl hini rfl (ts _ wd_176) (am_dk (q := (109, .putfield 68, 3)) dk_X7_init_3 7 rfl) (ms_aload_n F (am_dk (q := (112, .aload_n 0, 1)) dk_X7_init_3 8 rfl) rfl (ms_bipush F (am_dk (q := (113, .bipush 30, 2)) dk_X7_init_3 9 rfl) (by decide +kernel) (ms_newa F hR (t := 0) (atype := .int) (by decide) (ts _ wd_44) (am_dk (q := (115, .newarray .int, 2)) dk_X7_init_3 10 rfl) (ms_putfF F (ty := (.array .int)) (ty0 := tyX7) (C := RX7) (T := TX7) (N := 16) (j := 14) (fun w h => ts _ (inw_X7 w h)) rfl (by decide) tyX7_ok nmX7 (by decide +kernel) rfl hini rfl (ts _ wd_177) (am_dk (q := (117, .putfield 71, 3)) dk_X7_init_3 11 rfl) (ms_aload_n F (am_dk (q := (120, .aload_n 0, 1)) dk_X7_init_3 12 rfl) rfl (ms_new F hR (C := RX6) (T := TX6) (N := 1) (ty := tyX6) (fs := [.null]) (fun w h => ts _ (inw_X6 w h)) tyX6_ok (ts _ wd_80) (ts _ wd_81) (ts _ wd_5) rfl (by decide +kernel) rfl (by simp) (am_dk (q := (121, .new 75, 3)) dk_X7_init_3 13 rfl) (ms_dup F (am_dk (q := (124, .dup, 1)) dk_X7_init_3 14 rfl) (ms_callIN F hR (ci := 6) (y := yX6_init) (maxL := 1) (rm' := rm_X6_init) (na := 0) ct_X6_init wd_84 wd_5 wn_82 wd_83 rfl (by decide +kernel) (by decide) (am_dk (q := (125, .invokespecial 77, 3)) dk_X7_init_3 15 rfl) (ms_noX F FQ hT) (ms_putfF F (ty := (.object "LeadlightHall$YearSet")) (ty0 := tyX7) (C := RX7) (T := TX7) (N := 16) (j := 15) (fun w h => ts _ (inw_X7 w h)) rfl (by decide) tyX7_ok nmX7 (by decide +kernel) rfl hini rfl (ts _ wd_178) (am_dk (q := (128, .putfield 78, 3)) dk_X7_init_4 0 rfl) (ms_iconst F (am_dk (q := (131, .iconst 0, 1)) dk_X7_init_4 1 rfl) (by decide +kernel) (ms_istore_n F (am_dk (q := (132, .istore_n 1, 1)) dk_X7_init_4 2 rfl) rfl hn (by decide) ((am_id _)))))))))))))))))))))))))))))))))))))))))))))))))))))))))))))))))))),
    ms_iload_n F (am_dk (q := (133, .iload_n 1, 1)) dk_X7_init_4 3 rfl) rfl (ms_bipush F (am_dk (q := (134, .bipush 30, 2)) dk_X7_init_4 4 rfl) (by decide +kernel) (ms_ic_ge F (tgt := 158) (am_dk (q := (136, .if_icmp .ge 22, 3)) dk_X7_init_4 5 rfl) (by decide) (ms_iconst F (am_dk (q := (158, .iconst 0, 1)) dk_X7_init_4 15 rfl) (by decide +kernel) (ms_istore_n F (am_dk (q := (159, .istore_n 1, 1)) dk_X7_init_5 0 rfl) rfl hn (by decide) ((am_id _)))) (ms_aload_n F (am_dk (q := (139, .aload_n 0, 1)) dk_X7_init_4 6 rfl) rfl (ms_getf F (C := RX7) (T := TX7) (N := 16) (j := 1) (fun w h => ts _ (inw_X7 w h)) rfl (by decide) (ts _ wd_164) (am_dk (q := (140, .getfield 18, 3)) dk_X7_init_4 7 rfl) (ms_iload_n F (am_dk (q := (143, .iload_n 1, 1)) dk_X7_init_4 8 rfl) rfl (ms_new F hR (C := RX2) (T := TX2) (N := 7) (ty := tyX2) (fs := [.int 0, .int 0, .int 0, .int 0, .int 0, .null, .null]) (fun w h => ts _ (inw_X2 w h)) tyX2_ok (ts _ wd_45) (ts _ wd_91) (ts _ wd_6) rfl (by decide +kernel) rfl (by simp) (am_dk (q := (144, .new 16, 3)) dk_X7_init_4 9 rfl) (ms_dup F (am_dk (q := (147, .dup, 1)) dk_X7_init_4 10 rfl) (ms_callIN F hR (ci := 2) (y := yX2_init) (maxL := 1) (rm' := rm_X2_init) (na := 0) ct_X2_init wd_94 wd_6 wn_92 wd_93 rfl (by decide +kernel) (by decide) (am_dk (q := (148, .invokespecial 82, 3)) dk_X7_init_4 11 rfl) (ms_noX F FQ hT) (ms_aastore F (t := 5) (ci := 2) (r9 := (RX2, TX2, 7)) (by decide) rfl (am_dk (q := (151, .aastore, 1)) dk_X7_init_4 12 rfl) (ms_iinc F (am_dk (q := (152, .iinc 1 1, 3)) dk_X7_init_4 13 rfl) (by decide +kernel) hn (by decide) (ms_goto F (tgt := 133) (am_dk (q := (155, .goto (-22), 3)) dk_X7_init_4 14 rfl) (by decide) ((am_id _))))))))))))),
    ms_iload_n F (am_dk (q := (160, .iload_n 1, 1)) dk_X7_init_5 1 rfl) rfl (ms_bipush F (am_dk (q := (161, .bipush 8, 2)) dk_X7_init_5 2 rfl) (by decide +kernel) (ms_ic_ge F (tgt := 185) (am_dk (q := (163, .if_icmp .ge 22, 3)) dk_X7_init_5 3 rfl) (by decide) (ms_vret F FQ rfl (am_dk (q := (185, .return_, 1)) dk_X7_init_5 13 rfl)) (ms_aload_n F (am_dk (q := (166, .aload_n 0, 1)) dk_X7_init_5 4 rfl) rfl (ms_getf F (C := RX7) (T := TX7) (N := 16) (j := 2) (fun w h => ts _ (inw_X7 w h)) rfl (by decide) (ts _ wd_165) (am_dk (q := (167, .getfield 24, 3)) dk_X7_init_5 5 rfl) (ms_iload_n F (am_dk (q := (170, .iload_n 1, 1)) dk_X7_init_5 6 rfl) rfl (ms_new F hR (C := RX4) (T := TX4) (N := 5) (ty := tyX4) (fs := [.int 0, .int 0, .int 0, .int 0, .null]) (fun w h => ts _ (inw_X4 w h)) tyX4_ok (ts _ wd_47) (ts _ wd_140) (ts _ wd_8) rfl (by decide +kernel) rfl (by simp) (am_dk (q := (171, .new 22, 3)) dk_X7_init_5 7 rfl) (ms_dup F (am_dk (q := (174, .dup, 1)) dk_X7_init_5 8 rfl) (ms_callIN F hR (ci := 4) (y := yX4_init) (maxL := 1) (rm' := rm_X4_init) (na := 0) ct_X4_init wd_143 wd_8 wn_141 wd_142 rfl (by decide +kernel) (by decide) (am_dk (q := (175, .invokespecial 83, 3)) dk_X7_init_5 9 rfl) (ms_noX F FQ hT) (ms_aastore F (t := 6) (ci := 4) (r9 := (RX4, TX4, 5)) (by decide) rfl (am_dk (q := (178, .aastore, 1)) dk_X7_init_5 10 rfl) (ms_iinc F (am_dk (q := (179, .iinc 1 1, 3)) dk_X7_init_5 11 rfl) (by decide +kernel) hn (by decide) (ms_goto F (tgt := 160) (am_dk (q := (182, .goto (-22), 3)) dk_X7_init_5 12 rfl) (by decide) ((am_id _)))))))))))))⟩
theorem ct_X7_init (l : Launch) (htr : l.stackTraces = false) : am_Ct l yX7_init (am_ws yX7_init cX7_init 2 none) rm_X7_init sp_X7_init := am_of htr (by decide) wd_30 (fun X K F FQ hR hT hn hi as n E hS => f_X7_init K (am_G X) (sd_X7_init X K F FQ hR hT hn (hi rfl)) as n E hS)
def sp_X8_init : am_S := fun as n E K => ∃ (t : Nat), as = [.ref t] ∧ n = t + 1 ∧ E t = some (.inr (8, [.null, .null, .null, .null, .null, .null, .null, .null, .null, .null, .null, .null, .null, .null, .int 0, .int 0, .int 0, .int 0, .int 0, .int 0, .long 0, .int 0])) ∧ ∀ E' : am_E, am_MS t E' am_s0 0 → (∀ k, k < t → E' k = E k) → K (.inl none) (t + 121) E'
def rm_X8_init : Room := { frames := 1, cells := 120, slots := 61957, locals := 20 }
theorem rmc_X8_init : rm_X8_init.cells = 120 := rfl
theorem rms_X8_init : rm_X8_init.slots = 61957 := rfl
def bk_X8_init_0 (K : am_P) (G : Nat → am_C) : am_C := o_aload 0 <| o_oinit <| o_aload 0 <| o_pi 144 <| o_newa 0 rm_X8_init.cells rm_X8_init.slots <| o_putf 8 0 (.array .int) <| o_aload 0 <| o_pi 30 <| o_newa 0 rm_X8_init.cells rm_X8_init.slots <| o_putf 8 1 (.array .int) <| o_aload 0 <| o_pi 30 <| o_newa 2 rm_X8_init.cells rm_X8_init.slots <| o_putf 8 2 (.array .char) <| o_aload 0 <| o_pi 30 <| o_newa 2 rm_X8_init.cells rm_X8_init.slots <| o_putf 8 3 (.array .char) <| o_aload 0 <| o_pi 30 <| o_newa 0 rm_X8_init.cells rm_X8_init.slots <| o_putf 8 4 (.array .int) <| o_aload 0 <| o_pi 30 <| o_newa 0 rm_X8_init.cells rm_X8_init.slots <| o_putf 8 5 (.array .int) <| o_aload 0 <| o_pi 30 <| o_pi 5 <| o_mna 7 2 30 5 (5, .inl (fun _ => 0)) rm_X8_init.cells rm_X8_init.slots <| o_putf 8 6 (.array (.array .char)) <| o_aload 0 <| o_pi 30 <| o_pi 5 <| o_mna 8 3 30 5 (5, .inl (fun _ => 0)) rm_X8_init.cells rm_X8_init.slots <| o_putf 8 7 (.array (.array .boolean)) <| o_aload 0 <| o_pi 30 <| o_newa 0 rm_X8_init.cells rm_X8_init.slots <| o_putf 8 8 (.array .int) <| o_aload 0 <| o_pi 8 <| o_pi 3 <| o_mna 9 0 8 3 (3, .inl (fun _ => 0)) rm_X8_init.cells rm_X8_init.slots <| o_putf 8 9 (.array (.array .int)) <| o_aload 0 <| o_pi 8 <| o_newa 2 rm_X8_init.cells rm_X8_init.slots <| o_putf 8 10 (.array .char) <| o_aload 0 <| o_pi 8 <| o_pi 144 <| o_mna 8 3 8 144 (144, .inl (fun _ => 0)) rm_X8_init.cells rm_X8_init.slots <| o_putf 8 11 (.array (.array .boolean)) <| o_aload 0 <| o_pi 13 <| o_newa 3 rm_X8_init.cells rm_X8_init.slots <| o_putf 8 12 (.array .boolean) <| o_aload 0 <| o_pi 30 <| o_pi 2001 <| o_mna 8 3 30 2001 (2001, .inl (fun _ => 0)) rm_X8_init.cells rm_X8_init.slots <| o_putf 8 13 (.array (.array .boolean)) <| o_aload 0 <| o_pi 1 <| o_putf 8 16 .int <| o_aload 0 <| o_pi (-1) <| o_putf 8 19 .int <| o_aload 0 <| o_pl 1 <| o_putf 8 20 .long <| o_pi 0 <| o_istore 1 <| (G 153)
def bk_X8_init_153 (K : am_P) (G : Nat → am_C) : am_C := o_iload 1 <| o_pi 144 <| o_ic_ge (o_pi 0 <| o_istore 1 <| (G 176)) (o_aload 0 <| o_getf 8 0 <| o_iload 1 <| o_pi (-2) <| o_ist 0 .int <| o_iinc 1 1 <| (G 153))
def bk_X8_init_176 (K : am_P) (G : Nat → am_C) : am_C := o_iload 1 <| o_pi 30 <| o_ic_ge (o_vret K) (o_aload 0 <| o_getf 8 2 <| o_iload 1 <| o_pi 45 <| o_ist 2 .char <| o_aload 0 <| o_getf 8 3 <| o_iload 1 <| o_pi 45 <| o_ist 2 .char <| o_iinc 1 1 <| (G 176))
def cl_X8_init (K : am_P) (G : Nat → am_C) : Prop := am_imp (bk_X8_init_0 K G) (G 0) ∧ am_imp (bk_X8_init_153 K G) (G 153) ∧ am_imp (bk_X8_init_176 K G) (G 176)
/-- a cells and b pieces are begun -/
def mi_E (t a b k : Nat) : va_E := if k = 1 then .inl (0, 144, .inl (fun q => if q < a then -2 else 0)) else if k = 3 ∨ k = 4 then .inl (2, 30, .inl (fun q => if q < b then 45 else 0)) else ms_E t am_s0 (fun _ => 0) (fun _ _ => 0) (fun _ _ => false) 0 k
def mi_I (t a b : Nat) (E0 E : am_E) : Prop := (∀ k, k < t → E k = E0 k) ∧ ∀ k, k < 121 → E (t + k) = some (mi_E t a b k)
theorem mi_end {t : Nat} {E0 E : am_E} (h : mi_I t 144 30 E0 E) : am_MT t E am_s0 (fun _ => 0) (fun _ _ => 0) (fun _ _ => false) 0 := by
  refine ⟨s0_iv, fun p _ => ⟨Nat.zero_le _, fun i hi => absurd hi (Nat.not_lt_zero i), fun k _ => ⟨rfl, rfl⟩⟩, fun k hk => ?_⟩
  rw [h.2 k hk]
  unfold mi_E
  by_cases k1 : k = 1
  · subst k1
    rw [if_pos rfl]
    show some (Sum.inl (0, 144, Sum.inl (fun q => if q < 144 then -2 else 0))) = some (Sum.inl (0, 144, Sum.inl (st_f am_s0)))
    rw [s0_f2]
  · rw [if_neg k1]
    by_cases k3 : k = 3 ∨ k = 4
    · rw [if_pos k3]
      have e2 : (fun q => if q < 30 then (45 : Int32) else 0) = fun p => nI (am_s0 2 p 0) := by
        funext q
        show _ = nI (if q < 30 then 45 else 0)
        by_cases h9 : q < 30
        · rw [if_pos h9, if_pos h9]; rfl
        · rw [if_neg h9, if_neg h9]; rfl
      rcases k3 with rfl | rfl
      · show some (Sum.inl (2, 30, Sum.inl (fun q => if q < 30 then (45 : Int32) else 0))) = some (Sum.inl (2, 30, Sum.inl (fun p => nI (am_s0 2 p 0))))
        rw [e2]
      · show some (Sum.inl (2, 30, Sum.inl (fun q => if q < 30 then (45 : Int32) else 0))) = some (Sum.inl (2, 30, Sum.inl (fun p => nI (am_s0 3 p 0))))
        rw [e2]
        rfl
    · rw [if_neg k3]
theorem mi_upd {v : Int32} {i : Nat} : upd (fun q => if q < i then v else 0) i v = fun q => if q < i + 1 then v else 0 := by
  funext k
  unfold upd
  by_cases hk : k = i
  · subst hk
    simp
  · by_cases h9 : k < i
    · simp [hk, h9, show k < i + 1 by omega]
    · simp [hk, h9, show ¬ k < i + 1 by omega]
theorem f_X8_init (K : am_P) (G : Nat → am_C) (hC : cl_X8_init K G) (as : List Value) (n : Nat) (E : am_E) (hS : sp_X8_init as n E K) : (am_sl as).length ≤ 2 ∧ G 0 (am_inl 2 as) [] n E 0 0 := by
  obtain ⟨t, rfl, rfl, h1, hK⟩ := hS
  refine ⟨by simp [am_sl, Value.category], ?_⟩
  have obj : ∀ a b E', mi_I t a b E E' → E' t = some (.inr (8, [.ref (t + 1), .ref (t + 2), .ref (t + 3), .ref (t + 4), .ref (t + 5), .ref (t + 6), .ref (t + 7), .ref (t + 38), .ref (t + 69), .ref (t + 70), .ref (t + 79), .ref (t + 80), .ref (t + 89), .ref (t + 90), .int 0, .int 0, .int 1, .int 0, .int 0, .int (-1), .long 1, .int 0])) := fun a b E' hI => hI.2 0 (by decide)
  have loop2 := am_for (fun i => ∀ (E' : am_E), mi_I t 144 i E E' → G 176 [some (.ref t), some (.int (nI i))] [] (t + 121) E' 120 61957) 30 (by
    intro E' hI
    have hk := hK E' ⟨_, _, _, mi_end hI⟩ hI.1
    apply hC.2.2
    simp only [↓xaa_0, ↓xar_0, ↓xinc_1i, ↓xinc_1a, ↓xinc_1n, ↓xii_1, ↓xisi_1i, ↓xisi_1a, ↓xisi_1n, ↓xpi, ↓xpl, ↓xic, bk_X8_init_0, bk_X8_init_153, bk_X8_init_176, o_pi, o_pl, o_iload, o_aload, o_istore, o_iinc, o_ic_ge, o_if, o_ic, o_getf, o_putf, o_ist, o_newa, o_oinit, o_vret, o_call, am_kc, am_noX, o_mna, am_s1, am_s2, am_kill, am_inl, am_sl, Value.category, List.getElem?_cons_zero, List.getElem?_cons_succ, List.set_cons_zero, List.set_cons_succ, List.length_cons, List.length_nil, List.take_succ_cons, List.take_zero, List.drop_succ_cons, List.drop_zero, List.reverse_cons, List.reverse_nil, List.nil_append, List.cons_append, List.append_nil, List.map_cons, List.map_nil, List.sum_cons, List.sum_nil, List.replicate_succ, List.replicate_zero, Nat.zero_add, Nat.add_zero, Nat.le_refl, Nat.zero_le, ite_true, ite_false, if_true, if_false, true_and, and_true, eq_self, not_true_eq_false, not_false_eq_true, am_nb0, am_nb1, am_ni, am_fi, am_fr, am_fra, am_fz0, am_fz1, am_fl, am_uE, am_vnI, am_uu, am_ltx, ite_not, Classical.not_not, reduceIte, reduceCtorEq, Nat.reduceEqDiff, Nat.reduceAdd, Nat.reduceSub, Nat.reduceMul, Nat.reduceLeDiff, Nat.reduceLT, Int32.reduceLE, Int32.reduceLT, am_10, am_01, am_ite0, am_ite1, ms_boT, ms_boF, rmc_X8_init, rms_X8_init]
    exact hk) (fun i hi hn E' hI => by
    have o := obj _ _ _ hI
    have g3 : E' (t + 3) = some (.inl (2, 30, .inl (fun q => if q < i then 45 else 0))) := hI.2 3 (by decide)
    have g4 : E' (t + 4) = some (.inl (2, 30, .inl (fun q => if q < i then 45 else 0))) := hI.2 4 (by decide)
    have n1 : t ≠ t + 3 := by omega
    have n2 : t + 4 ≠ t + 3 := by omega
    have ev : vp_nar .char 45 = 45 := am_vcn (q := 45) (by decide)
    apply hC.2.2
    simp only [↓xaa_0, ↓xar_0, ↓xinc_1i, ↓xinc_1a, ↓xinc_1n, ↓xii_1, ↓xisi_1i, ↓xisi_1a, ↓xisi_1n, ↓xpi, ↓xpl, ↓xic, bk_X8_init_0, bk_X8_init_153, bk_X8_init_176, o_pi, o_pl, o_iload, o_aload, o_istore, o_iinc, o_ic_ge, o_if, o_ic, o_getf, o_putf, o_ist, o_newa, o_oinit, o_vret, o_call, am_kc, am_noX, o_mna, am_s1, am_s2, am_kill, am_inl, am_sl, Value.category, List.getElem?_cons_zero, List.getElem?_cons_succ, List.set_cons_zero, List.set_cons_succ, List.length_cons, List.length_nil, List.take_succ_cons, List.take_zero, List.drop_succ_cons, List.drop_zero, List.reverse_cons, List.reverse_nil, List.nil_append, List.cons_append, List.append_nil, List.map_cons, List.map_nil, List.sum_cons, List.sum_nil, List.replicate_succ, List.replicate_zero, Nat.zero_add, Nat.add_zero, Nat.le_refl, Nat.zero_le, ite_true, ite_false, if_true, if_false, true_and, and_true, eq_self, not_true_eq_false, not_false_eq_true, am_nb0, am_nb1, am_ni, am_fi, am_fr, am_fra, am_fz0, am_fz1, am_fl, am_uE, am_vnI, am_uu, am_ltx, ite_not, Classical.not_not, reduceIte, reduceCtorEq, Nat.reduceEqDiff, Nat.reduceAdd, Nat.reduceSub, Nat.reduceMul, Nat.reduceLeDiff, Nat.reduceLT, Int32.reduceLE, Int32.reduceLT, am_10, am_01, am_ite0, am_ite1, ms_boT, ms_boF, rmc_X8_init, rms_X8_init, show ((30 : Int32) ≤ nI (i)) = False from am_nge (show i < 30 by omega) (by decide), o, g3, g4, am_uN n1, am_uN n2, am_vi hi (show 30 < 2 ^ 31 by decide), am_cl (show i < 2 ^ 31 by omega), ev, nI_1]
    rw [mi_upd]
    refine hn _ ⟨fun k hk => by rw [am_uN (by omega), am_uN (by omega)]; exact hI.1 k hk, fun k hk => ?_⟩
    by_cases k3 : k = 3
    · subst k3
      rw [am_uN (by omega), am_uE]
      rfl
    · by_cases k4 : k = 4
      · subst k4
        rw [am_uE]
        rfl
      · rw [am_uN (by omega), am_uN (by omega), hI.2 k hk]
        unfold mi_E
        by_cases k1 : k = 1
        · rw [if_pos k1, if_pos k1]
        · rw [if_neg k1, if_neg k1, if_neg (by omega), if_neg (by omega)])
  have loop1 := am_for (fun i => ∀ (E' : am_E), mi_I t i 0 E E' → G 153 [some (.ref t), some (.int (nI i))] [] (t + 121) E' 120 61957) 144 (by
    intro E' hI
    have hl := loop2 0 (by omega) E' hI
    apply hC.2.1
    simp only [↓xaa_0, ↓xar_0, ↓xinc_1i, ↓xinc_1a, ↓xinc_1n, ↓xii_1, ↓xisi_1i, ↓xisi_1a, ↓xisi_1n, ↓xpi, ↓xpl, ↓xic, bk_X8_init_0, bk_X8_init_153, bk_X8_init_176, o_pi, o_pl, o_iload, o_aload, o_istore, o_iinc, o_ic_ge, o_if, o_ic, o_getf, o_putf, o_ist, o_newa, o_oinit, o_vret, o_call, am_kc, am_noX, o_mna, am_s1, am_s2, am_kill, am_inl, am_sl, Value.category, List.getElem?_cons_zero, List.getElem?_cons_succ, List.set_cons_zero, List.set_cons_succ, List.length_cons, List.length_nil, List.take_succ_cons, List.take_zero, List.drop_succ_cons, List.drop_zero, List.reverse_cons, List.reverse_nil, List.nil_append, List.cons_append, List.append_nil, List.map_cons, List.map_nil, List.sum_cons, List.sum_nil, List.replicate_succ, List.replicate_zero, Nat.zero_add, Nat.add_zero, Nat.le_refl, Nat.zero_le, ite_true, ite_false, if_true, if_false, true_and, and_true, eq_self, not_true_eq_false, not_false_eq_true, am_nb0, am_nb1, am_ni, am_fi, am_fr, am_fra, am_fz0, am_fz1, am_fl, am_uE, am_vnI, am_uu, am_ltx, ite_not, Classical.not_not, reduceIte, reduceCtorEq, Nat.reduceEqDiff, Nat.reduceAdd, Nat.reduceSub, Nat.reduceMul, Nat.reduceLeDiff, Nat.reduceLT, Int32.reduceLE, Int32.reduceLT, am_10, am_01, am_ite0, am_ite1, ms_boT, ms_boF, rmc_X8_init, rms_X8_init, show ((144 : Int32) ≤ nI 144) = True by decide]
    exact hl) (fun i hi hn E' hI => by
    have o := obj _ _ _ hI
    have g1 : E' (t + 1) = some (.inl (0, 144, .inl (fun q => if q < i then -2 else 0))) := hI.2 1 (by decide)
    apply hC.2.1
    simp only [↓xaa_0, ↓xar_0, ↓xinc_1i, ↓xinc_1a, ↓xinc_1n, ↓xii_1, ↓xisi_1i, ↓xisi_1a, ↓xisi_1n, ↓xpi, ↓xpl, ↓xic, bk_X8_init_0, bk_X8_init_153, bk_X8_init_176, o_pi, o_pl, o_iload, o_aload, o_istore, o_iinc, o_ic_ge, o_if, o_ic, o_getf, o_putf, o_ist, o_newa, o_oinit, o_vret, o_call, am_kc, am_noX, o_mna, am_s1, am_s2, am_kill, am_inl, am_sl, Value.category, List.getElem?_cons_zero, List.getElem?_cons_succ, List.set_cons_zero, List.set_cons_succ, List.length_cons, List.length_nil, List.take_succ_cons, List.take_zero, List.drop_succ_cons, List.drop_zero, List.reverse_cons, List.reverse_nil, List.nil_append, List.cons_append, List.append_nil, List.map_cons, List.map_nil, List.sum_cons, List.sum_nil, List.replicate_succ, List.replicate_zero, Nat.zero_add, Nat.add_zero, Nat.le_refl, Nat.zero_le, ite_true, ite_false, if_true, if_false, true_and, and_true, eq_self, not_true_eq_false, not_false_eq_true, am_nb0, am_nb1, am_ni, am_fi, am_fr, am_fra, am_fz0, am_fz1, am_fl, am_uE, am_vnI, am_uu, am_ltx, ite_not, Classical.not_not, reduceIte, reduceCtorEq, Nat.reduceEqDiff, Nat.reduceAdd, Nat.reduceSub, Nat.reduceMul, Nat.reduceLeDiff, Nat.reduceLT, Int32.reduceLE, Int32.reduceLT, am_10, am_01, am_ite0, am_ite1, ms_boT, ms_boF, rmc_X8_init, rms_X8_init, show ((144 : Int32) ≤ nI (i)) = False from am_nge (show i < 144 by omega) (by decide), o, g1, am_vi hi (show 144 < 2 ^ 31 by decide), am_cl (show i < 2 ^ 31 by omega), nI_1]
    rw [mi_upd]
    refine hn _ ⟨fun k hk => by rw [am_uN (by omega)]; exact hI.1 k hk, fun k hk => ?_⟩
    by_cases k1 : k = 1
    · subst k1
      rw [am_uE]
      rfl
    · rw [am_uN (by omega), hI.2 k hk]
      unfold mi_E
      rw [if_neg k1, if_neg k1])
  have um1 : ∀ (E9 : am_E) a b z, am_um E9 (t + 7) 30 a b z t = E9 t := fun _ _ _ _ => am_umN (Or.inl (by omega))
  have um2 : ∀ (E9 : am_E) a b z, am_um E9 (t + 38) 30 a b z t = E9 t := fun _ _ _ _ => am_umN (Or.inl (by omega))
  have um3 : ∀ (E9 : am_E) a b z, am_um E9 (t + 70) 8 a b z t = E9 t := fun _ _ _ _ => am_umN (Or.inl (by omega))
  have um4 : ∀ (E9 : am_E) a b z, am_um E9 (t + 80) 8 a b z t = E9 t := fun _ _ _ _ => am_umN (Or.inl (by omega))
  have um5 : ∀ (E9 : am_E) a b z, am_um E9 (t + 90) 30 a b z t = E9 t := fun _ _ _ _ => am_umN (Or.inl (by omega))
  have nI30 : (30 : Int32) = nI 30 := rfl
  have nI5 : (5 : Int32) = nI 5 := rfl
  have nI8 : (8 : Int32) = nI 8 := rfl
  have nI3 : (3 : Int32) = nI 3 := rfl
  have nI144 : (144 : Int32) = nI 144 := rfl
  have nI2001 : (2001 : Int32) = nI 2001 := rfl
  have ct (k : Nat) (h : k < 2 ^ 31) : (nI k).toNatClampNeg = k := nI_clamp h
  apply hC.1
  simp only [↓xaa_0, ↓xar_0, ↓xinc_1i, ↓xinc_1a, ↓xinc_1n, ↓xii_1, ↓xisi_1i, ↓xisi_1a, ↓xisi_1n, ↓xpi, ↓xpl, ↓xic, bk_X8_init_0, bk_X8_init_153, bk_X8_init_176, o_pi, o_pl, o_iload, o_aload, o_istore, o_iinc, o_ic_ge, o_if, o_ic, o_getf, o_putf, o_ist, o_newa, o_oinit, o_vret, o_call, am_kc, am_noX, o_mna, am_s1, am_s2, am_kill, am_inl, am_sl, Value.category, List.getElem?_cons_zero, List.getElem?_cons_succ, List.set_cons_zero, List.set_cons_succ, List.length_cons, List.length_nil, List.take_succ_cons, List.take_zero, List.drop_succ_cons, List.drop_zero, List.reverse_cons, List.reverse_nil, List.nil_append, List.cons_append, List.append_nil, List.map_cons, List.map_nil, List.sum_cons, List.sum_nil, List.replicate_succ, List.replicate_zero, Nat.zero_add, Nat.add_zero, Nat.le_refl, Nat.zero_le, ite_true, ite_false, if_true, if_false, true_and, and_true, eq_self, not_true_eq_false, not_false_eq_true, am_nb0, am_nb1, am_ni, am_fi, am_fr, am_fra, am_fz0, am_fz1, am_fl, am_uE, am_vnI, am_uu, am_ltx, ite_not, Classical.not_not, reduceIte, reduceCtorEq, Nat.reduceEqDiff, Nat.reduceAdd, Nat.reduceSub, Nat.reduceMul, Nat.reduceLeDiff, Nat.reduceLT, Int32.reduceLE, Int32.reduceLT, am_10, am_01, am_ite0, am_ite1, ms_boT, ms_boF, rmc_X8_init, rms_X8_init, h1, am_uA, am_q1, am_q2, Nat.add_assoc, am_clL 144 (by decide), am_clL 30 (by decide), am_clL 8 (by decide), am_clL 13 (by decide), um1, um2, um3, um4, um5]
  refine ⟨rfl, rfl, rfl, rfl, rfl, rfl, rfl, rfl, rfl, rfl, loop1 0 (by omega) _ ⟨fun k hk => ?_, fun k hk => ?_⟩⟩
  · repeat (first | rw [am_uN (by omega)] | rw [am_umN (by omega)])
  · have e0 : ∀ v : Int32, (fun q : Nat => if q < 0 then v else 0) = fun _ => 0 := fun v => by
      funext q
      rw [if_neg (Nat.not_lt_zero q)]
    by_cases a8 : k < 8
    · clear hk
      refine (Nat.lt_succ_iff_lt_or_eq.mp a8).elim (fun a8 => ?_) (fun e => by
        subst e
        repeat (first | rw [am_uN (by omega)] | rw [am_umN (by omega)])
        first | rw [am_uE] | rw [am_umE]
        rfl)
      refine (Nat.lt_succ_iff_lt_or_eq.mp a8).elim (fun a8 => ?_) (fun e => by
        subst e
        repeat (first | rw [am_uN (by omega)] | rw [am_umN (by omega)])
        first | rw [am_uE] | rw [am_umE]
        rfl)
      refine (Nat.lt_succ_iff_lt_or_eq.mp a8).elim (fun a8 => ?_) (fun e => by
        subst e
        repeat (first | rw [am_uN (by omega)] | rw [am_umN (by omega)])
        first | rw [am_uE] | rw [am_umE]
        rfl)
      refine (Nat.lt_succ_iff_lt_or_eq.mp a8).elim (fun a8 => ?_) (fun e => by
        subst e
        repeat (first | rw [am_uN (by omega)] | rw [am_umN (by omega)])
        rw [am_uE]
        show _ = some (Sum.inl (2, 30, Sum.inl (fun q : Nat => if q < 0 then (45 : Int32) else 0)))
        rw [e0]
        rfl)
      refine (Nat.lt_succ_iff_lt_or_eq.mp a8).elim (fun a8 => ?_) (fun e => by
        subst e
        repeat (first | rw [am_uN (by omega)] | rw [am_umN (by omega)])
        rw [am_uE]
        show _ = some (Sum.inl (2, 30, Sum.inl (fun q : Nat => if q < 0 then (45 : Int32) else 0)))
        rw [e0]
        rfl)
      refine (Nat.lt_succ_iff_lt_or_eq.mp a8).elim (fun a8 => ?_) (fun e => by
        subst e
        repeat (first | rw [am_uN (by omega)] | rw [am_umN (by omega)])
        first | rw [am_uE] | rw [am_umE]
        rfl)
      refine (Nat.lt_succ_iff_lt_or_eq.mp a8).elim (fun a8 => ?_) (fun e => by
        subst e
        repeat (first | rw [am_uN (by omega)] | rw [am_umN (by omega)])
        first | rw [am_uE] | rw [am_umE]
        show _ = some (Sum.inl (0, 144, Sum.inl (fun q : Nat => if q < 0 then (-2 : Int32) else 0)))
        rw [e0]
        rfl)
      refine (Nat.lt_succ_iff_lt_or_eq.mp a8).elim (fun a8 => ?_) (fun e => by
        subst e
        show am_u _ _ _ t = _
        repeat (first | rw [am_uN (by omega)] | rw [am_umN (by omega)])
        first | rw [am_uE] | rw [am_umE]
        rfl)
      exact absurd a8 (Nat.not_lt_zero _)
    · by_cases c38 : k < 38
      · unfold mi_E ms_E
        rw [if_neg (by omega), if_neg (by omega), if_neg (by omega), if_neg (by omega), if_neg (by omega), if_neg (by omega), if_neg (by omega), if_neg (by omega), if_neg (by omega), if_neg (by omega), if_pos (by omega)]
        repeat (first | rw [am_uN (by omega)] | rw [am_umN (by omega)])
        rw [am_umR (by omega)]
        rfl
      · by_cases e38 : k = 38
        · subst e38
          repeat (first | rw [am_uN (by omega)] | rw [am_umN (by omega)])
          rw [am_umE]
          rfl
        · by_cases c69 : k < 69
          · unfold mi_E ms_E
            rw [if_neg (by omega), if_neg (by omega), if_neg (by omega), if_neg (by omega), if_neg (by omega), if_neg (by omega), if_neg (by omega), if_neg (by omega), if_neg (by omega), if_neg (by omega), if_neg (by omega), if_neg (by omega), if_pos (by omega)]
            repeat (first | rw [am_uN (by omega)] | rw [am_umN (by omega)])
            rw [am_umR (by omega)]
            rfl
          · by_cases e69 : k = 69
            · subst e69
              repeat (first | rw [am_uN (by omega)] | rw [am_umN (by omega)])
              rw [am_uE]
              rfl
            · by_cases e70 : k = 70
              · subst e70
                repeat (first | rw [am_uN (by omega)] | rw [am_umN (by omega)])
                rw [am_umE]
                rfl
              · by_cases c79 : k < 79
                · unfold mi_E ms_E
                  rw [if_neg (by omega), if_neg (by omega), if_neg (by omega), if_neg (by omega), if_neg (by omega), if_neg (by omega), if_neg (by omega), if_neg (by omega), if_neg (by omega), if_neg (by omega), if_neg (by omega), if_neg (by omega), if_neg (by omega), if_neg (by omega), if_neg (by omega), if_pos (by omega)]
                  repeat (first | rw [am_uN (by omega)] | rw [am_umN (by omega)])
                  rw [am_umR (by omega)]
                  have ez : ms_sh am_s0 (k - 71) = fun _ => 0 := by
                    funext q
                    unfold ms_sh
                    split <;> rfl
                  rw [ez]
                · by_cases e79 : k = 79
                  · subst e79
                    repeat (first | rw [am_uN (by omega)] | rw [am_umN (by omega)])
                    rw [am_uE]
                    show _ = some (Sum.inl (2, 8, Sum.inl (fun q : Nat => if q < 0 then nI (am_s0 12 q 0) else 0)))
                    have e9 : (fun q : Nat => if q < 0 then nI (am_s0 12 q 0) else 0) = fun _ => 0 := by
                      funext q
                      rw [if_neg (Nat.not_lt_zero q)]
                    rw [e9]
                    rfl
                  · by_cases e80 : k = 80
                    · subst e80
                      repeat (first | rw [am_uN (by omega)] | rw [am_umN (by omega)])
                      rw [am_umE]
                      rfl
                    · by_cases c89 : k < 89
                      · unfold mi_E ms_E
                        rw [if_neg (by omega), if_neg (by omega), if_neg (by omega), if_neg (by omega), if_neg (by omega), if_neg (by omega), if_neg (by omega), if_neg (by omega), if_neg (by omega), if_neg (by omega), if_neg (by omega), if_neg (by omega), if_neg (by omega), if_neg (by omega), if_neg (by omega), if_neg (by omega), if_neg (by omega), if_neg (by omega), if_pos (by omega)]
                        repeat (first | rw [am_uN (by omega)] | rw [am_umN (by omega)])
                        rw [am_umR (by omega)]
                        have ez : (fun c => ms_bo (st_u am_s0 (k - 81) (c % 12) (c / 12))) = fun _ => 0 := by
                          funext q
                          rw [show st_u am_s0 (k - 81) (q % 12) (q / 12) = false from decide_eq_false (fun r => absurd r.2.2 (by show ¬ (0 : Nat) = 1; decide))]
                          rfl
                        rw [ez]
                      · by_cases e89 : k = 89
                        · subst e89
                          repeat (first | rw [am_uN (by omega)] | rw [am_umN (by omega)])
                          rw [am_uE]
                          rfl
                        · by_cases e90 : k = 90
                          · subst e90
                            repeat (first | rw [am_uN (by omega)] | rw [am_umN (by omega)])
                            rw [am_umE]
                            rfl
                          · unfold mi_E ms_E
                            rw [if_neg (by omega), if_neg (by omega), if_neg (by omega), if_neg (by omega), if_neg (by omega), if_neg (by omega), if_neg (by omega), if_neg (by omega), if_neg (by omega), if_neg (by omega), if_neg (by omega), if_neg (by omega), if_neg (by omega), if_neg (by omega), if_neg (by omega), if_neg (by omega), if_neg (by omega), if_neg (by omega), if_neg (by omega), if_neg (by omega), if_neg (by omega)]
                            repeat (first | rw [am_uN (by omega)] | rw [am_umN (by omega)])
                            rw [am_umR (by omega)]
                            have ez : (fun y => ms_bo (st_y am_s0 (k - 91) y)) = fun _ => 0 := by
                              funext q
                              rw [show st_y am_s0 (k - 91) q = false from decide_eq_false (fun r => absurd r.2 (by show ¬ (0 : Nat) = 1; decide))]
                              rfl
                            rw [ez]
set_option maxRecDepth 100000 in
set_option maxHeartbeats 4000000 in
theorem sd_X8_init (X : am_X) (K : am_P) (F : am_F X cX8_init yX8_init.cls none (am_ws yX8_init cX8_init 2 none)) (FQ : am_FQ X K rm_X8_init.cells rm_X8_init.slots) (hR : am_Rm X rm_X8_init) (hT : am_noT X) (hn : am_nL X = 2) (hini : am_ini X) : cl_X8_init K (am_G X) := by
  have ts : ∀ w ∈ am_WS, w ∈ am_ws yX8_init cX8_init 2 none := fun w h => List.mem_cons_of_mem _ h
  exact ⟨ms_aload_n F (am_dk (q := (0, .aload_n 0, 1)) dk_X8_init_0 0 rfl) rfl (ms_oinit F hR (by decide) (by decide) (ts _ wd_1017) (ts _ oi_inst) (ts _ oi_code) (am_dk (q := (1, .invokespecial 1, 3)) dk_X8_init_0 1 rfl) (ms_aload_n F (am_dk (q := (4, .aload_n 0, 1)) dk_X8_init_0 2 rfl) rfl (ms_sipush F (am_dk (q := (5, .sipush 144, 3)) dk_X8_init_0 3 rfl) (by decide +kernel) (ms_newa F hR (t := 0) (atype := .int) (by decide) (ts _ wd_44) (am_dk (q := (8, .newarray .int, 2)) dk_X8_init_0 4 rfl) (ms_putfF F (ty := (.array .int)) (ty0 := tyX8) (C := RX8) (T := TX8) (N := 22) (j := 0) (fun w h => ts _ (inw_X8 w h)) rfl (by decide) tyX8_ok nmX8 (by decide +kernel) rfl hini rfl (ts _ wd_1024) (am_dk (q := (10, .putfield 9, 3)) dk_X8_init_0 5 rfl) (ms_aload_n F (am_dk (q := (13, .aload_n 0, 1)) dk_X8_init_0 6 rfl) rfl (ms_bipush F (am_dk (q := (14, .bipush 30, 2)) dk_X8_init_0 7 rfl) (by decide +kernel) (ms_newa F hR (t := 0) (atype := .int) (by decide) (ts _ wd_44) (am_dk (q := (16, .newarray .int, 2)) dk_X8_init_0 8 rfl) (ms_putfF F (ty := (.array .int)) (ty0 := tyX8) (C := RX8) (T := TX8) (N := 22) (j := 1) (fun w h => ts _ (inw_X8 w h)) rfl (by decide) tyX8_ok nmX8 (by decide +kernel) rfl hini rfl (ts _ wd_1025) (am_dk (q := (18, .putfield 13, 3)) dk_X8_init_0 9 rfl) (ms_aload_n F (am_dk (q := (21, .aload_n 0, 1)) dk_X8_init_0 10 rfl) rfl (ms_bipush F (am_dk (q := (22, .bipush 30, 2)) dk_X8_init_0 11 rfl) (by decide +kernel) (ms_newa F hR (t := 2) (atype := .char) (by decide) (ts _ wd_1091) (am_dk (q := (24, .newarray .char, 2)) dk_X8_init_0 12 rfl) (ms_putfF F (ty := (.array .char)) (ty0 := tyX8) (C := RX8) (T := TX8) (N := 22) (j := 2) (fun w h => ts _ (inw_X8 w h)) rfl (by decide) tyX8_ok nmX8 (by decide +kernel) rfl hini rfl (ts _ wd_1026) (am_dk (q := (26, .putfield 16, 3)) dk_X8_init_0 13 rfl) (ms_aload_n F (am_dk (q := (29, .aload_n 0, 1)) dk_X8_init_0 14 rfl) rfl (ms_bipush F (am_dk (q := (30, .bipush 30, 2)) dk_X8_init_0 15 rfl) (by decide +kernel) (ms_newa F hR (t := 2) (atype := .char) (by decide) (ts _ wd_1091) (am_dk (q := (32, .newarray .char, 2)) dk_X8_init_1 0 rfl) (ms_putfF F (ty := (.array .char)) (ty0 := tyX8) (C := RX8) (T := TX8) (N := 22) (j := 3) (fun w h => ts _ (inw_X8 w h)) rfl (by decide) tyX8_ok nmX8 (by decide +kernel) rfl hini rfl (ts _ wd_1027) (am_dk (q := (34, .putfield 20, 3)) dk_X8_init_1 1 rfl) (ms_aload_n F (am_dk (q := (37, .aload_n 0, 1)) dk_X8_init_1 2 rfl) rfl (ms_bipush F (am_dk (q := (38, .bipush 30, 2)) dk_X8_init_1 3 rfl) (by decide +kernel) (ms_newa F hR (t := 0) (atype := .int) (by decide) (ts _ wd_44) (am_dk (q := (40, .newarray .int, 2)) dk_X8_init_1 4 rfl) (ms_putfF F (ty := (.array .int)) (ty0 := tyX8) (C := RX8) (T := TX8) (N := 22) (j := 4) (fun w h => ts _ (inw_X8 w h)) rfl (by decide) tyX8_ok nmX8 (by decide +kernel) rfl hini rfl (ts _ wd_1028) (am_dk (q := (42, .putfield 23, 3)) dk_X8_init_1 5 rfl) (ms_aload_n F (am_dk (q := (45, .aload_n 0, 1)) dk_X8_init_1 6 rfl) rfl (ms_bipush F (am_dk (q := (46, .bipush 30, 2)) dk_X8_init_1 7 rfl) (by decide +kernel) (ms_newa F hR (t := 0) (atype := .int) (by decide) (ts _ wd_44) (am_dk (q := (48, .newarray .int, 2)) dk_X8_init_1 8 rfl) (ms_putfF F (ty := (.array .int)) (ty0 := tyX8) (C := RX8) (T := TX8) (N := 22) (j := 5) (fun w h => ts _ (inw_X8 w h)) rfl (by decide) tyX8_ok nmX8 (by decide +kernel) rfl hini rfl (ts _ wd_1029) (am_dk (q := (50, .putfield 26, 3)) dk_X8_init_1 9 rfl) (ms_aload_n F (am_dk (q := (53, .aload_n 0, 1)) dk_X8_init_1 10 rfl) rfl (ms_bipush F (am_dk (q := (54, .bipush 30, 2)) dk_X8_init_1 11 rfl) (by decide +kernel) (ms_iconst F (am_dk (q := (56, .iconst 5, 1)) dk_X8_init_1 12 rfl) (by decide +kernel) (ms_mna F hR (t := 7) (ti := 2) (N := 30) (M := 5) (ty := .char) (z := (5, .inl (fun _ => 0))) (by simp) rfl (by decide) (by decide) (by rw [mna_char]; exact ts _ wd_1018) (ts _ wd_1091) (am_dk (q := (57, .multianewarray 29 2, 4)) dk_X8_init_1 13 rfl) (ms_putfF F (ty := (.array (.array .char))) (ty0 := tyX8) (C := RX8) (T := TX8) (N := 22) (j := 6) (fun w h => ts _ (inw_X8 w h)) rfl (by decide) tyX8_ok nmX8 (by decide +kernel) rfl hini rfl (ts _ wd_1030) (am_dk (q := (61, .putfield 31, 3)) dk_X8_init_1 14 rfl) (ms_aload_n F (am_dk (q := (64, .aload_n 0, 1)) dk_X8_init_1 15 rfl) rfl (ms_bipush F (am_dk (q := (65, .bipush 30, 2)) dk_X8_init_2 0 rfl) (by decide +kernel) (ms_iconst F (am_dk (q := (67, .iconst 5, 1)) dk_X8_init_2 1 rfl) (by decide +kernel) (ms_mna F hR (t := 8) (ti := 3) (N := 30) (M := 5) (ty := .boolean) (z := (5, .inl (fun _ => 0))) (by simp) rfl (by decide) (by decide) (by rw [mna_boolean]; exact ts _ wd_1020) (ts _ wd_1092) (am_dk (q := (68, .multianewarray 34 2, 4)) dk_X8_init_2 2 rfl) (ms_putfF F (ty := (.array (.array .boolean))) (ty0 := tyX8) (C := RX8) (T := TX8) (N := 22) (j := 7) (fun w h => ts _ (inw_X8 w h)) rfl (by decide) tyX8_ok nmX8 (by decide +kernel) rfl hini rfl (ts _ wd_1031) (am_dk (q := (72, .putfield 36, 3)) dk_X8_init_2 3 rfl) (ms_aload_n F (am_dk (q := (75, .aload_n 0, 1)) dk_X8_init_2 4 rfl) rfl (ms_bipush F (am_dk (q := (76, .bipush 30, 2)) dk_X8_init_2 5 rfl) (by decide +kernel) (ms_newa F hR (t := 0) (atype := .int) (by decide) (ts _ wd_44) (am_dk (q := (78, .newarray .int, 2)) dk_X8_init_2 6 rfl) (ms_putfF F (ty := (.array .int)) (ty0 := tyX8) (C := RX8) (T := TX8) (N := 22) (j := 8) (fun w h => ts _ (inw_X8 w h)) rfl (by decide) tyX8_ok nmX8 (by decide +kernel) rfl hini rfl (ts _ wd_1032) (am_dk (q := (80, .putfield 39, 3)) dk_X8_init_2 7 rfl) (ms_aload_n F (am_dk (q := (83, .aload_n 0, 1)) dk_X8_init_2 8 rfl) rfl (ms_bipush F (am_dk (q := (84, .bipush 8, 2)) dk_X8_init_2 9 rfl) (by decide +kernel) (ms_iconst F (am_dk (q := (86, .iconst 3, 1)) dk_X8_init_2 10 rfl) (by decide +kernel) (ms_mna F hR (t := 9) (ti := 0) (N := 8) (M := 3) (ty := .int) (z := (3, .inl (fun _ => 0))) (by simp) rfl (by decide) (by decide) (by rw [mna_int]; exact ts _ wd_1022) (ts _ wd_44) (am_dk (q := (87, .multianewarray 42 2, 4)) dk_X8_init_2 11 rfl) (ms_putfF F (ty := (.array (.array .int))) (ty0 := tyX8) (C := RX8) (T := TX8) (N := 22) (j := 9) (fun w h => ts _ (inw_X8 w h)) rfl (by decide) tyX8_ok nmX8 (by decide +kernel) rfl hini rfl (ts _ wd_1033) (am_dk (q := (91, .putfield 44, 3)) dk_X8_init_2 12 rfl) (ms_aload_n F (am_dk (q := (94, .aload_n 0, 1)) dk_X8_init_2 13 rfl) rfl (ms_bipush F (am_dk (q := (95, .bipush 8, 2)) dk_X8_init_2 14 rfl) (by decide +kernel) (ms_newa F hR (t := 2) (atype := .char) (by decide) (ts _ wd_1091) (am_dk (q := (97, .newarray .char, 2)) dk_X8_init_2 15 rfl) (ms_putfF F (ty := (.array .char)) (ty0 := tyX8) (C := RX8) (T := TX8) (N := 22) (j := 10) (fun w h => ts _ (inw_X8 w h)) rfl (by decide) tyX8_ok nmX8 (by decide +kernel) rfl hini rfl (ts _ wd_1034) (am_dk (q := (99, .putfield 47, 3)) dk_X8_init_3 0 rfl) (ms_aload_n F (am_dk (q := (102, .aload_n 0, 1)) dk_X8_init_3 1 rfl) rfl (ms_bipush F (am_dk (q := (103, .bipush 8, 2)) dk_X8_init_3 2 rfl) (by decide +kernel) (ms_sipush F (am_dk (q := (105, .sipush 144, 3)) dk_X8_init_3 3 rfl) (by decide +kernel) (ms_mna F hR (t := 8) (ti := 3) (N := 8) (M := 144) (ty := .boolean) (z := (144, .inl (fun _ => 0))) (by simp) rfl (by decide) (by decide) (by rw [mna_boolean]; exact ts _ wd_1020) (ts _ wd_1092) (am_dk (q := (108, .multianewarray 34 2, 4)) dk_X8_init_3 4 rfl) (ms_putfF F (ty := (.array (.array .boolean))) (ty0 := tyX8) (C := RX8) (T := TX8) (N := 22) (j := 11) (fun w h => ts _ (inw_X8 w h)) rfl (by decide) tyX8_ok nmX8 (by decide +kernel) rfl hini rfl (ts _ wd_1035) (am_dk (q := (112, .putfield 50, 3)) dk_X8_init_3 5 rfl) (ms_aload_n F (am_dk (q := (115, .aload_n 0, 1)) dk_X8_init_3 6 rfl) rfl (ms_bipush F (am_dk (q := (116, .bipush 13, 2)) dk_X8_init_3 7 rfl) (by decide +kernel) (ms_newa F hR (t := 3) (atype := .boolean) (by decide) (ts _ wd_1092) (am_dk (q := (118, .newarray .boolean, 2)) dk_X8_init_3 8 rfl) (ms_putfF F (ty := (.array .boolean)) (ty0 := tyX8) (C := RX8) (T := TX8) (N := 22) (j := 12) (fun w h => ts _ (inw_X8 w h)) rfl (by decide) tyX8_ok nmX8 (by decide +kernel) rfl hini rfl (ts _ wd_1036) (am_dk (q := (120, .putfield 53, 3)) dk_X8_init_3 9 rfl) (ms_aload_n F (am_dk (q := (123, .aload_n 0, 1)) dk_X8_init_3 10 rfl) rfl (ms_bipush F (am_dk (q := (124, .bipush 30, 2)) dk_X8_init_3 11 rfl) (by decide +kernel) (ms_sipush F (am_dk (q := (126, .sipush 2001, 3)) dk_X8_init_3 12 rfl) (by decide +kernel) (ms_mna F hR (t := 8) (ti := 3) (N := 30) (M := 2001) (ty := .boolean) (z := (2001, .inl (fun _ => 0))) (by simp) rfl (by decide) (by decide) (by rw [mna_boolean]; exact ts _ wd_1020) (ts _ wd_1092) (am_dk (q := (129, .multianewarray 34 2, 4)) dk_X8_init_3 13 rfl) (ms_putfF F (ty := (.array (.array .boolean))) (ty0 := tyX8) (C := RX8) (T := TX8) (N := 22) (j := 13) (fun w h => ts _ (inw_X8 w h)) rfl (by decide) tyX8_ok nmX8 (by decide +kernel) rfl hini rfl (ts _ wd_1037) (am_dk (q := (133, .putfield 57, 3)) dk_X8_init_3 14 rfl) (ms_aload_n F (am_dk (q := (136, .aload_n 0, 1)) dk_X8_init_3 15 rfl) rfl (ms_iconst F (am_dk (q := (137, .iconst 1, 1)) dk_X8_init_4 0 rfl) (by decide +kernel) (ms_putf F (ty := .int) (ty0 := tyX8) (C := RX8) (T := TX8) (N := 22) (j := 16) (fun w h => ts _ (inw_X8 w h)) rfl (by decide) tyX8_ok nmX8 (by decide +kernel) rfl (ts _ wd_1040) (am_dk (q := (138, .putfield 60, 3)) dk_X8_init_4 1 rfl) (ms_aload_n F (am_dk (q := (141, .aload_n 0, 1)) dk_X8_init_4 2 rfl) rfl (ms_iconst F (am_dk (q := (142, .iconst (-1), 1)) dk_X8_init_4 3 rfl) (by decide +kernel) (ms_putf F (ty := .int) (ty0 := tyX8) (C := RX8) (T := TX8) (N := 22) (j := 19) (fun w h => ts _ (inw_X8 w h)) rfl (by decide) tyX8_ok nmX8 (by decide +kernel) rfl (ts _ wd_1043) (am_dk (q := (143, .putfield 64, 3)) dk_X8_init_4 4 rfl) (ms_aload_n F (am_dk (q := (146, .aload_n 0, 1)) dk_X8_init_4 5 rfl) rfl (ms_lconst F (am_dk (q := (147, .lconst 1, 1)) dk_X8_init_4 6 rfl) (by decide +kernel) (ms_putf F (ty := .long) (ty0 := tyX8) (C := RX8) (T := TX8) (N := 22) (j := 20) (fun w h => ts _ (inw_X8 w h)) rfl (by decide) tyX8_ok nmX8 (by decide +kernel) rfl (ts _ wd_1044) (am_dk (q := (148, .putfield 67, 3)) dk_X8_init_4 7 rfl) (ms_iconst F (am_dk (q := (151, .iconst 0, 1)) dk_X8_init_4 8 rfl) (by decide +kernel) (ms_istore_n F (am_dk (q := (152, .istore_n 1, 1)) dk_X8_init_4 9 rfl) rfl hn (by decide) ((am_id _))))))))))))))))))))))))))))))))))))))))))))))))))))))))))))))))))))))))))),
    ms_iload_n F (am_dk (q := (153, .iload_n 1, 1)) dk_X8_init_4 10 rfl) rfl (ms_sipush F (am_dk (q := (154, .sipush 144, 3)) dk_X8_init_4 11 rfl) (by decide +kernel) (ms_ic_ge F (tgt := 174) (am_dk (q := (157, .if_icmp .ge 17, 3)) dk_X8_init_4 12 rfl) (by decide) (ms_iconst F (am_dk (q := (174, .iconst 0, 1)) dk_X8_init_5 4 rfl) (by decide +kernel) (ms_istore_n F (am_dk (q := (175, .istore_n 1, 1)) dk_X8_init_5 5 rfl) rfl hn (by decide) ((am_id _)))) (ms_aload_n F (am_dk (q := (160, .aload_n 0, 1)) dk_X8_init_4 13 rfl) rfl (ms_getf F (C := RX8) (T := TX8) (N := 22) (j := 0) (fun w h => ts _ (inw_X8 w h)) rfl (by decide) (ts _ wd_1024) (am_dk (q := (161, .getfield 9, 3)) dk_X8_init_4 14 rfl) (ms_iload_n F (am_dk (q := (164, .iload_n 1, 1)) dk_X8_init_4 15 rfl) rfl (ms_bipush F (am_dk (q := (165, .bipush (-2), 2)) dk_X8_init_5 0 rfl) (by decide +kernel) (ms_iastore F (am_dk (q := (167, .iastore, 1)) dk_X8_init_5 1 rfl) (ms_iinc F (am_dk (q := (168, .iinc 1 1, 3)) dk_X8_init_5 2 rfl) (by decide +kernel) hn (by decide) (ms_goto F (tgt := 153) (am_dk (q := (171, .goto (-18), 3)) dk_X8_init_5 3 rfl) (by decide) ((am_id _))))))))))),
    ms_iload_n F (am_dk (q := (176, .iload_n 1, 1)) dk_X8_init_5 6 rfl) rfl (ms_bipush F (am_dk (q := (177, .bipush 30, 2)) dk_X8_init_5 7 rfl) (by decide +kernel) (ms_ic_ge F (tgt := 204) (am_dk (q := (179, .if_icmp .ge 25, 3)) dk_X8_init_5 8 rfl) (by decide) (ms_vret F FQ rfl (am_dk (q := (204, .return_, 1)) dk_X8_init_6 5 rfl)) (ms_aload_n F (am_dk (q := (182, .aload_n 0, 1)) dk_X8_init_5 9 rfl) rfl (ms_getf F (C := RX8) (T := TX8) (N := 22) (j := 2) (fun w h => ts _ (inw_X8 w h)) rfl (by decide) (ts _ wd_1026) (am_dk (q := (183, .getfield 16, 3)) dk_X8_init_5 10 rfl) (ms_iload_n F (am_dk (q := (186, .iload_n 1, 1)) dk_X8_init_5 11 rfl) rfl (ms_bipush F (am_dk (q := (187, .bipush 45, 2)) dk_X8_init_5 12 rfl) (by decide +kernel) (ms_castore F (am_dk (q := (189, .castore, 1)) dk_X8_init_5 13 rfl) (ms_aload_n F (am_dk (q := (190, .aload_n 0, 1)) dk_X8_init_5 14 rfl) rfl (ms_getf F (C := RX8) (T := TX8) (N := 22) (j := 3) (fun w h => ts _ (inw_X8 w h)) rfl (by decide) (ts _ wd_1027) (am_dk (q := (191, .getfield 20, 3)) dk_X8_init_5 15 rfl) (ms_iload_n F (am_dk (q := (194, .iload_n 1, 1)) dk_X8_init_6 0 rfl) rfl (ms_bipush F (am_dk (q := (195, .bipush 45, 2)) dk_X8_init_6 1 rfl) (by decide +kernel) (ms_castore F (am_dk (q := (197, .castore, 1)) dk_X8_init_6 2 rfl) (ms_iinc F (am_dk (q := (198, .iinc 1 1, 3)) dk_X8_init_6 3 rfl) (by decide +kernel) hn (by decide) (ms_goto F (tgt := 176) (am_dk (q := (201, .goto (-25), 3)) dk_X8_init_6 4 rfl) (by decide) ((am_id _))))))))))))))))⟩
theorem ct_X8_init (l : Launch) (htr : l.stackTraces = false) : am_Ct l yX8_init (am_ws yX8_init cX8_init 2 none) rm_X8_init sp_X8_init := am_of htr (by decide) wd_1016 (fun X K F FQ hR hT hn hi as n E hS => f_X8_init K (am_G X) (sd_X8_init X K F FQ hR hT hn (hi rfl)) as n E hS)
def sp_X7_isInside : am_S := fun as n E K => ∃ x y : Int32, as = [.int x, .int y] ∧ K (.inl (some (.int (if (0 ≤ x ∧ ¬ 12 ≤ x) ∧ 0 ≤ y ∧ ¬ 12 ≤ y then 1 else 0)))) n E
def rm_X7_isInside : Room := { frames := 0, cells := 0, slots := 0, locals := 0 }
theorem rmc_X7_isInside : rm_X7_isInside.cells = 0 := rfl
theorem rms_X7_isInside : rm_X7_isInside.slots = 0 := rfl
def bk_X7_isInside_0 (K : am_P) (G : Nat → am_C) : am_C := o_iload 0 <| o_if_lt (o_pi 0 <| o_iret .boolean K) (o_iload 0 <| o_pi 12 <| o_ic_ge (o_pi 0 <| o_iret .boolean K) (o_iload 1 <| o_if_lt (o_pi 0 <| o_iret .boolean K) (o_iload 1 <| o_pi 12 <| o_ic_ge (o_pi 0 <| o_iret .boolean K) (o_pi 1 <| o_iret .boolean K))))
def cl_X7_isInside (K : am_P) (G : Nat → am_C) : Prop := am_imp (bk_X7_isInside_0 K G) (G 0)
theorem f_X7_isInside (K : am_P) (G : Nat → am_C) (hC : cl_X7_isInside K G) (as : List Value) (n : Nat) (E : am_E) (hS : sp_X7_isInside as n E K) : (am_sl as).length ≤ 2 ∧ G 0 (am_inl 2 as) [] n E 0 0 := by
  obtain ⟨x, y, rfl, hK⟩ := hS
  refine ⟨by simp [am_sl, Value.category], ?_⟩
  apply hC
  simp only [↓xii_0, ↓xii_1, ↓xpi, ↓xif, ↓xic, bk_X7_isInside_0, o_pi, o_iload, o_if_lt, o_ic_ge, o_if, o_ic, o_iret, o_call, am_kc, am_noX, am_s1, am_s2, am_kill, am_inl, am_sl, Value.category, List.getElem?_cons_zero, List.getElem?_cons_succ, List.set_cons_zero, List.set_cons_succ, List.length_cons, List.length_nil, List.take_succ_cons, List.take_zero, List.drop_succ_cons, List.drop_zero, List.reverse_cons, List.reverse_nil, List.nil_append, List.cons_append, List.append_nil, List.map_cons, List.map_nil, List.sum_cons, List.sum_nil, List.replicate_succ, List.replicate_zero, Nat.zero_add, Nat.add_zero, Nat.le_refl, Nat.zero_le, ite_true, ite_false, if_true, if_false, true_and, and_true, eq_self, not_true_eq_false, not_false_eq_true, am_nb0, am_nb1, am_ni, am_fi, am_fr, am_fra, am_fz0, am_fz1, am_fl, am_uE, am_vnI, am_uu, am_ltx, ite_not, Classical.not_not, reduceIte, reduceCtorEq, Nat.reduceEqDiff, Nat.reduceAdd, Nat.reduceSub, Nat.reduceMul, Nat.reduceLeDiff, Nat.reduceLT, Int32.reduceLE, Int32.reduceLT, am_10, am_01, am_ite0, am_ite1, ms_boT, ms_boF, rmc_X7_isInside, rms_X7_isInside]
  by_cases h1 : 0 ≤ x <;> by_cases h2 : 12 ≤ x <;> by_cases h3 : 0 ≤ y <;> by_cases h4 : 12 ≤ y <;> simp only [h1, h2, h3, h4, ite_true, ite_false, if_true, if_false, true_and, and_true, and_false, false_and, true_or, or_true, or_false, false_or, not_true_eq_false, not_false_eq_true, ite_not, eq_self, and_self, or_self, am_ltx, reduceCtorEq] at hK ⊢ <;> exact hK
set_option maxRecDepth 100000 in
set_option maxHeartbeats 4000000 in
theorem sd_X7_isInside (X : am_X) (K : am_P) (F : am_F X cX7_isInside yX7_isInside.cls (some .boolean) (am_ws yX7_isInside cX7_isInside 2 (some .boolean))) (FQ : am_FQ X K rm_X7_isInside.cells rm_X7_isInside.slots) (hR : am_Rm X rm_X7_isInside) (hT : am_noT X) (hn : am_nL X = 2) : cl_X7_isInside K (am_G X) := by
  have ts : ∀ w ∈ am_WS, w ∈ am_ws yX7_isInside cX7_isInside 2 (some .boolean) := fun w h => List.mem_cons_of_mem _ h
  exact ms_iload_n F (am_dk (q := (0, .iload_n 0, 1)) dk_X7_isInside_0 0 rfl) rfl (ms_if_lt F (tgt := 24) (am_dk (q := (1, .ifCond .lt 23, 3)) dk_X7_isInside_0 1 rfl) (by decide) (ms_iconst F (am_dk (q := (24, .iconst 0, 1)) dk_X7_isInside_0 12 rfl) (by decide +kernel) (ms_iret F FQ rfl (am_dk (q := (25, .ireturn, 1)) dk_X7_isInside_0 13 rfl))) (ms_iload_n F (am_dk (q := (4, .iload_n 0, 1)) dk_X7_isInside_0 2 rfl) rfl (ms_bipush F (am_dk (q := (5, .bipush 12, 2)) dk_X7_isInside_0 3 rfl) (by decide +kernel) (ms_ic_ge F (tgt := 24) (am_dk (q := (7, .if_icmp .ge 17, 3)) dk_X7_isInside_0 4 rfl) (by decide) (ms_iconst F (am_dk (q := (24, .iconst 0, 1)) dk_X7_isInside_0 12 rfl) (by decide +kernel) (ms_iret F FQ rfl (am_dk (q := (25, .ireturn, 1)) dk_X7_isInside_0 13 rfl))) (ms_iload_n F (am_dk (q := (10, .iload_n 1, 1)) dk_X7_isInside_0 5 rfl) rfl (ms_if_lt F (tgt := 24) (am_dk (q := (11, .ifCond .lt 13, 3)) dk_X7_isInside_0 6 rfl) (by decide) (ms_iconst F (am_dk (q := (24, .iconst 0, 1)) dk_X7_isInside_0 12 rfl) (by decide +kernel) (ms_iret F FQ rfl (am_dk (q := (25, .ireturn, 1)) dk_X7_isInside_0 13 rfl))) (ms_iload_n F (am_dk (q := (14, .iload_n 1, 1)) dk_X7_isInside_0 7 rfl) rfl (ms_bipush F (am_dk (q := (15, .bipush 12, 2)) dk_X7_isInside_0 8 rfl) (by decide +kernel) (ms_ic_ge F (tgt := 24) (am_dk (q := (17, .if_icmp .ge 7, 3)) dk_X7_isInside_0 9 rfl) (by decide) (ms_iconst F (am_dk (q := (24, .iconst 0, 1)) dk_X7_isInside_0 12 rfl) (by decide +kernel) (ms_iret F FQ rfl (am_dk (q := (25, .ireturn, 1)) dk_X7_isInside_0 13 rfl))) (ms_iconst F (am_dk (q := (20, .iconst 1, 1)) dk_X7_isInside_0 10 rfl) (by decide +kernel) (ms_goto F (tgt := 25) (am_dk (q := (21, .goto 4, 3)) dk_X7_isInside_0 11 rfl) (by decide) (ms_iret F FQ rfl (am_dk (q := (25, .ireturn, 1)) dk_X7_isInside_0 13 rfl)))))))))))))
theorem ct_X7_isInside (l : Launch) (htr : l.stackTraces = false) : am_Ct l yX7_isInside (am_ws yX7_isInside cX7_isInside 2 (some .boolean)) rm_X7_isInside sp_X7_isInside := am_of htr (by decide) wd_226 (fun X K F FQ hR hT hn hi as n E hS => f_X7_isInside K (am_G X) (sd_X7_isInside X K F FQ hR hT hn) as n E hS)
def sp_X7_requireCells : am_S := fun as n E K => ∃ l lo r hi : Int32, as = [.int l, .int lo, .int r, .int hi] ∧ (am_rng l lo r hi → K (.inl none) n E) ∧ (¬ am_rng l lo r hi → K (.inr "java/lang/IllegalArgumentException") n E)
def rm_X7_requireCells : Room := { frames := 6, cells := 1, slots := 6, locals := 82 }
theorem rmc_X7_requireCells : rm_X7_requireCells.cells = 1 := rfl
theorem rms_X7_requireCells : rm_X7_requireCells.slots = 6 := rfl
def bk_X7_requireCells_0 (K : am_P) (G : Nat → am_C) : am_C := o_iload 0 <| o_iload 1 <| o_call 2 sp_X7_isInside rm_X7_isInside rm_X7_requireCells (am_noX K) <| o_if_eq (o_throw "java/lang/IllegalArgumentException" rm_X7_requireCells.cells rm_X7_requireCells.slots K) (o_iload 2 <| o_iload 3 <| o_call 2 sp_X7_isInside rm_X7_isInside rm_X7_requireCells (am_noX K) <| o_if_eq (o_throw "java/lang/IllegalArgumentException" rm_X7_requireCells.cells rm_X7_requireCells.slots K) (o_iload 2 <| o_iload 0 <| o_ic_lt (o_throw "java/lang/IllegalArgumentException" rm_X7_requireCells.cells rm_X7_requireCells.slots K) (o_iload 3 <| o_iload 1 <| o_ic_ge (o_vret K) (o_throw "java/lang/IllegalArgumentException" rm_X7_requireCells.cells rm_X7_requireCells.slots K))))
def cl_X7_requireCells (K : am_P) (G : Nat → am_C) : Prop := am_imp (bk_X7_requireCells_0 K G) (G 0)
theorem f_X7_requireCells (K : am_P) (G : Nat → am_C) (hC : cl_X7_requireCells K G) (as : List Value) (n : Nat) (E : am_E) (hS : sp_X7_requireCells as n E K) : (am_sl as).length ≤ 4 ∧ G 0 (am_inl 4 as) [] n E 0 0 := by
  obtain ⟨l, lo, r, hi, rfl, h1, h2⟩ := hS
  refine ⟨by simp [am_sl, Value.category], ?_⟩
  apply hC
  simp only [↓xii_0, ↓xii_1, ↓xii_2, ↓xii_3, ↓xif, ↓xic, bk_X7_requireCells_0, o_iload, o_if_eq, o_ic_lt, o_ic_ge, o_if, o_ic, o_vret, o_throw, o_call, am_kc, am_noX, am_s1, am_s2, am_kill, am_inl, am_sl, Value.category, List.getElem?_cons_zero, List.getElem?_cons_succ, List.set_cons_zero, List.set_cons_succ, List.length_cons, List.length_nil, List.take_succ_cons, List.take_zero, List.drop_succ_cons, List.drop_zero, List.reverse_cons, List.reverse_nil, List.nil_append, List.cons_append, List.append_nil, List.map_cons, List.map_nil, List.sum_cons, List.sum_nil, List.replicate_succ, List.replicate_zero, Nat.zero_add, Nat.add_zero, Nat.le_refl, Nat.zero_le, ite_true, ite_false, if_true, if_false, true_and, and_true, eq_self, not_true_eq_false, not_false_eq_true, am_nb0, am_nb1, am_ni, am_fi, am_fr, am_fra, am_fz0, am_fz1, am_fl, am_uE, am_vnI, am_uu, am_ltx, ite_not, Classical.not_not, reduceIte, reduceCtorEq, Nat.reduceEqDiff, Nat.reduceAdd, Nat.reduceSub, Nat.reduceMul, Nat.reduceLeDiff, Nat.reduceLT, Int32.reduceLE, Int32.reduceLT, am_10, am_01, am_ite0, am_ite1, ms_boT, ms_boF, rmc_X7_isInside, rms_X7_isInside, rmc_X7_requireCells, rms_X7_requireCells]
  refine ⟨l, lo, rfl, ?_⟩
  by_cases a1 : (0 ≤ l ∧ ¬ 12 ≤ l) ∧ 0 ≤ lo ∧ ¬ 12 ≤ lo
  · simp only [↓xii_0, ↓xii_1, ↓xii_2, ↓xii_3, ↓xif, ↓xic, bk_X7_requireCells_0, o_iload, o_if_eq, o_ic_lt, o_ic_ge, o_if, o_ic, o_vret, o_throw, o_call, am_kc, am_noX, am_s1, am_s2, am_kill, am_inl, am_sl, Value.category, List.getElem?_cons_zero, List.getElem?_cons_succ, List.set_cons_zero, List.set_cons_succ, List.length_cons, List.length_nil, List.take_succ_cons, List.take_zero, List.drop_succ_cons, List.drop_zero, List.reverse_cons, List.reverse_nil, List.nil_append, List.cons_append, List.append_nil, List.map_cons, List.map_nil, List.sum_cons, List.sum_nil, List.replicate_succ, List.replicate_zero, Nat.zero_add, Nat.add_zero, Nat.le_refl, Nat.zero_le, ite_true, ite_false, if_true, if_false, true_and, and_true, eq_self, not_true_eq_false, not_false_eq_true, am_nb0, am_nb1, am_ni, am_fi, am_fr, am_fra, am_fz0, am_fz1, am_fl, am_uE, am_vnI, am_uu, am_ltx, ite_not, Classical.not_not, reduceIte, reduceCtorEq, Nat.reduceEqDiff, Nat.reduceAdd, Nat.reduceSub, Nat.reduceMul, Nat.reduceLeDiff, Nat.reduceLT, Int32.reduceLE, Int32.reduceLT, am_10, am_01, am_ite0, am_ite1, ms_boT, ms_boF, rmc_X7_isInside, rms_X7_isInside, rmc_X7_requireCells, rms_X7_requireCells, a1]
    refine ⟨r, hi, rfl, ?_⟩
    by_cases a2 : (0 ≤ r ∧ ¬ 12 ≤ r) ∧ 0 ≤ hi ∧ ¬ 12 ≤ hi
    · by_cases a3 : l ≤ r
      · by_cases a4 : lo ≤ hi
        · simp only [↓xii_0, ↓xii_1, ↓xii_2, ↓xii_3, ↓xif, ↓xic, bk_X7_requireCells_0, o_iload, o_if_eq, o_ic_lt, o_ic_ge, o_if, o_ic, o_vret, o_throw, o_call, am_kc, am_noX, am_s1, am_s2, am_kill, am_inl, am_sl, Value.category, List.getElem?_cons_zero, List.getElem?_cons_succ, List.set_cons_zero, List.set_cons_succ, List.length_cons, List.length_nil, List.take_succ_cons, List.take_zero, List.drop_succ_cons, List.drop_zero, List.reverse_cons, List.reverse_nil, List.nil_append, List.cons_append, List.append_nil, List.map_cons, List.map_nil, List.sum_cons, List.sum_nil, List.replicate_succ, List.replicate_zero, Nat.zero_add, Nat.add_zero, Nat.le_refl, Nat.zero_le, ite_true, ite_false, if_true, if_false, true_and, and_true, eq_self, not_true_eq_false, not_false_eq_true, am_nb0, am_nb1, am_ni, am_fi, am_fr, am_fra, am_fz0, am_fz1, am_fl, am_uE, am_vnI, am_uu, am_ltx, ite_not, Classical.not_not, reduceIte, reduceCtorEq, Nat.reduceEqDiff, Nat.reduceAdd, Nat.reduceSub, Nat.reduceMul, Nat.reduceLeDiff, Nat.reduceLT, Int32.reduceLE, Int32.reduceLT, am_10, am_01, am_ite0, am_ite1, ms_boT, ms_boF, rmc_X7_isInside, rms_X7_isInside, rmc_X7_requireCells, rms_X7_requireCells, a2, a3, a4]
          exact h1 ⟨a1, a2, a3, a4⟩
        · simp only [↓xii_0, ↓xii_1, ↓xii_2, ↓xii_3, ↓xif, ↓xic, bk_X7_requireCells_0, o_iload, o_if_eq, o_ic_lt, o_ic_ge, o_if, o_ic, o_vret, o_throw, o_call, am_kc, am_noX, am_s1, am_s2, am_kill, am_inl, am_sl, Value.category, List.getElem?_cons_zero, List.getElem?_cons_succ, List.set_cons_zero, List.set_cons_succ, List.length_cons, List.length_nil, List.take_succ_cons, List.take_zero, List.drop_succ_cons, List.drop_zero, List.reverse_cons, List.reverse_nil, List.nil_append, List.cons_append, List.append_nil, List.map_cons, List.map_nil, List.sum_cons, List.sum_nil, List.replicate_succ, List.replicate_zero, Nat.zero_add, Nat.add_zero, Nat.le_refl, Nat.zero_le, ite_true, ite_false, if_true, if_false, true_and, and_true, eq_self, not_true_eq_false, not_false_eq_true, am_nb0, am_nb1, am_ni, am_fi, am_fr, am_fra, am_fz0, am_fz1, am_fl, am_uE, am_vnI, am_uu, am_ltx, ite_not, Classical.not_not, reduceIte, reduceCtorEq, Nat.reduceEqDiff, Nat.reduceAdd, Nat.reduceSub, Nat.reduceMul, Nat.reduceLeDiff, Nat.reduceLT, Int32.reduceLE, Int32.reduceLT, am_10, am_01, am_ite0, am_ite1, ms_boT, ms_boF, rmc_X7_isInside, rms_X7_isInside, rmc_X7_requireCells, rms_X7_requireCells, a2, a3, a4]
          exact h2 (fun q => a4 q.2.2.2)
      · simp only [↓xii_0, ↓xii_1, ↓xii_2, ↓xii_3, ↓xif, ↓xic, bk_X7_requireCells_0, o_iload, o_if_eq, o_ic_lt, o_ic_ge, o_if, o_ic, o_vret, o_throw, o_call, am_kc, am_noX, am_s1, am_s2, am_kill, am_inl, am_sl, Value.category, List.getElem?_cons_zero, List.getElem?_cons_succ, List.set_cons_zero, List.set_cons_succ, List.length_cons, List.length_nil, List.take_succ_cons, List.take_zero, List.drop_succ_cons, List.drop_zero, List.reverse_cons, List.reverse_nil, List.nil_append, List.cons_append, List.append_nil, List.map_cons, List.map_nil, List.sum_cons, List.sum_nil, List.replicate_succ, List.replicate_zero, Nat.zero_add, Nat.add_zero, Nat.le_refl, Nat.zero_le, ite_true, ite_false, if_true, if_false, true_and, and_true, eq_self, not_true_eq_false, not_false_eq_true, am_nb0, am_nb1, am_ni, am_fi, am_fr, am_fra, am_fz0, am_fz1, am_fl, am_uE, am_vnI, am_uu, am_ltx, ite_not, Classical.not_not, reduceIte, reduceCtorEq, Nat.reduceEqDiff, Nat.reduceAdd, Nat.reduceSub, Nat.reduceMul, Nat.reduceLeDiff, Nat.reduceLT, Int32.reduceLE, Int32.reduceLT, am_10, am_01, am_ite0, am_ite1, ms_boT, ms_boF, rmc_X7_isInside, rms_X7_isInside, rmc_X7_requireCells, rms_X7_requireCells, a2, a3]
        exact h2 (fun q => a3 q.2.2.1)
    · simp only [↓xii_0, ↓xii_1, ↓xii_2, ↓xii_3, ↓xif, ↓xic, bk_X7_requireCells_0, o_iload, o_if_eq, o_ic_lt, o_ic_ge, o_if, o_ic, o_vret, o_throw, o_call, am_kc, am_noX, am_s1, am_s2, am_kill, am_inl, am_sl, Value.category, List.getElem?_cons_zero, List.getElem?_cons_succ, List.set_cons_zero, List.set_cons_succ, List.length_cons, List.length_nil, List.take_succ_cons, List.take_zero, List.drop_succ_cons, List.drop_zero, List.reverse_cons, List.reverse_nil, List.nil_append, List.cons_append, List.append_nil, List.map_cons, List.map_nil, List.sum_cons, List.sum_nil, List.replicate_succ, List.replicate_zero, Nat.zero_add, Nat.add_zero, Nat.le_refl, Nat.zero_le, ite_true, ite_false, if_true, if_false, true_and, and_true, eq_self, not_true_eq_false, not_false_eq_true, am_nb0, am_nb1, am_ni, am_fi, am_fr, am_fra, am_fz0, am_fz1, am_fl, am_uE, am_vnI, am_uu, am_ltx, ite_not, Classical.not_not, reduceIte, reduceCtorEq, Nat.reduceEqDiff, Nat.reduceAdd, Nat.reduceSub, Nat.reduceMul, Nat.reduceLeDiff, Nat.reduceLT, Int32.reduceLE, Int32.reduceLT, am_10, am_01, am_ite0, am_ite1, ms_boT, ms_boF, rmc_X7_isInside, rms_X7_isInside, rmc_X7_requireCells, rms_X7_requireCells, a2]
      exact h2 (fun q => a2 q.2.1)
  · simp only [↓xii_0, ↓xii_1, ↓xii_2, ↓xii_3, ↓xif, ↓xic, bk_X7_requireCells_0, o_iload, o_if_eq, o_ic_lt, o_ic_ge, o_if, o_ic, o_vret, o_throw, o_call, am_kc, am_noX, am_s1, am_s2, am_kill, am_inl, am_sl, Value.category, List.getElem?_cons_zero, List.getElem?_cons_succ, List.set_cons_zero, List.set_cons_succ, List.length_cons, List.length_nil, List.take_succ_cons, List.take_zero, List.drop_succ_cons, List.drop_zero, List.reverse_cons, List.reverse_nil, List.nil_append, List.cons_append, List.append_nil, List.map_cons, List.map_nil, List.sum_cons, List.sum_nil, List.replicate_succ, List.replicate_zero, Nat.zero_add, Nat.add_zero, Nat.le_refl, Nat.zero_le, ite_true, ite_false, if_true, if_false, true_and, and_true, eq_self, not_true_eq_false, not_false_eq_true, am_nb0, am_nb1, am_ni, am_fi, am_fr, am_fra, am_fz0, am_fz1, am_fl, am_uE, am_vnI, am_uu, am_ltx, ite_not, Classical.not_not, reduceIte, reduceCtorEq, Nat.reduceEqDiff, Nat.reduceAdd, Nat.reduceSub, Nat.reduceMul, Nat.reduceLeDiff, Nat.reduceLT, Int32.reduceLE, Int32.reduceLT, am_10, am_01, am_ite0, am_ite1, ms_boT, ms_boF, rmc_X7_isInside, rms_X7_isInside, rmc_X7_requireCells, rms_X7_requireCells, a1]
    exact h2 (fun q => a1 q.1)
set_option maxRecDepth 100000 in
set_option maxHeartbeats 4000000 in
theorem sd_X7_requireCells (X : am_X) (K : am_P) (F : am_F X cX7_requireCells yX7_requireCells.cls none (am_ws yX7_requireCells cX7_requireCells 4 none)) (FQ : am_FQ X K rm_X7_requireCells.cells rm_X7_requireCells.slots) (hR : am_Rm X rm_X7_requireCells) (hT : am_noT X) (hn : am_nL X = 4) : cl_X7_requireCells K (am_G X) := by
  have ts : ∀ w ∈ am_WS, w ∈ am_ws yX7_requireCells cX7_requireCells 4 none := fun w h => List.mem_cons_of_mem _ h
  exact ms_iload_n F (am_dk (q := (0, .iload_n 0, 1)) dk_X7_requireCells_0 0 rfl) rfl (ms_iload_n F (am_dk (q := (1, .iload_n 1, 1)) dk_X7_requireCells_0 1 rfl) rfl (ms_callS F hR (y := yX7_isInside) (maxL := 2) (rm' := rm_X7_isInside) (na := 2) ct_X7_isInside wd_226 wd_1 wd_401 wd_225 (by decide +kernel) (by decide) (am_dk (q := (2, .invokestatic 420, 3)) dk_X7_requireCells_0 2 rfl) (ms_noX F FQ hT) (ms_if_eq F (tgt := 26) (am_dk (q := (5, .ifCond .eq 21, 3)) dk_X7_requireCells_0 3 rfl) (by decide) (ms_throwW F hR FQ hT (by decide) (by decide) (cls := "java/lang/IllegalArgumentException") (text := "there are no such cells") (n1 := "java/lang/RuntimeException") (n2 := "java/lang/Exception") (ik := 187) (is := 426) (ic := 191) (by decide +kernel) (by decide +kernel) (ts _ wd_402) (ts _ wd_13) (by decide +kernel) at_191 (at_191_g (by decide) (by decide)) (am_dk (q := (26, .new 187, 3)) dk_X7_requireCells_0 14 rfl) (am_dk (q := (29, .dup, 1)) dk_X7_requireCells_0 15 rfl) (am_dk (q := (30, .ldc_w 426, 3)) dk_X7_requireCells_1 0 rfl) (am_dk (q := (33, .invokespecial 191, 3)) dk_X7_requireCells_1 1 rfl) (am_dk (q := (36, .athrow, 1)) dk_X7_requireCells_1 2 rfl)) (ms_iload_n F (am_dk (q := (8, .iload_n 2, 1)) dk_X7_requireCells_0 4 rfl) rfl (ms_iload_n F (am_dk (q := (9, .iload_n 3, 1)) dk_X7_requireCells_0 5 rfl) rfl (ms_callS F hR (y := yX7_isInside) (maxL := 2) (rm' := rm_X7_isInside) (na := 2) ct_X7_isInside wd_226 wd_1 wd_401 wd_225 (by decide +kernel) (by decide) (am_dk (q := (10, .invokestatic 420, 3)) dk_X7_requireCells_0 6 rfl) (ms_noX F FQ hT) (ms_if_eq F (tgt := 26) (am_dk (q := (13, .ifCond .eq 13, 3)) dk_X7_requireCells_0 7 rfl) (by decide) (ms_throwW F hR FQ hT (by decide) (by decide) (cls := "java/lang/IllegalArgumentException") (text := "there are no such cells") (n1 := "java/lang/RuntimeException") (n2 := "java/lang/Exception") (ik := 187) (is := 426) (ic := 191) (by decide +kernel) (by decide +kernel) (ts _ wd_402) (ts _ wd_13) (by decide +kernel) at_191 (at_191_g (by decide) (by decide)) (am_dk (q := (26, .new 187, 3)) dk_X7_requireCells_0 14 rfl) (am_dk (q := (29, .dup, 1)) dk_X7_requireCells_0 15 rfl) (am_dk (q := (30, .ldc_w 426, 3)) dk_X7_requireCells_1 0 rfl) (am_dk (q := (33, .invokespecial 191, 3)) dk_X7_requireCells_1 1 rfl) (am_dk (q := (36, .athrow, 1)) dk_X7_requireCells_1 2 rfl)) (ms_iload_n F (am_dk (q := (16, .iload_n 2, 1)) dk_X7_requireCells_0 8 rfl) rfl (ms_iload_n F (am_dk (q := (17, .iload_n 0, 1)) dk_X7_requireCells_0 9 rfl) rfl (ms_ic_lt F (tgt := 26) (am_dk (q := (18, .if_icmp .lt 8, 3)) dk_X7_requireCells_0 10 rfl) (by decide) (ms_throwW F hR FQ hT (by decide) (by decide) (cls := "java/lang/IllegalArgumentException") (text := "there are no such cells") (n1 := "java/lang/RuntimeException") (n2 := "java/lang/Exception") (ik := 187) (is := 426) (ic := 191) (by decide +kernel) (by decide +kernel) (ts _ wd_402) (ts _ wd_13) (by decide +kernel) at_191 (at_191_g (by decide) (by decide)) (am_dk (q := (26, .new 187, 3)) dk_X7_requireCells_0 14 rfl) (am_dk (q := (29, .dup, 1)) dk_X7_requireCells_0 15 rfl) (am_dk (q := (30, .ldc_w 426, 3)) dk_X7_requireCells_1 0 rfl) (am_dk (q := (33, .invokespecial 191, 3)) dk_X7_requireCells_1 1 rfl) (am_dk (q := (36, .athrow, 1)) dk_X7_requireCells_1 2 rfl)) (ms_iload_n F (am_dk (q := (21, .iload_n 3, 1)) dk_X7_requireCells_0 11 rfl) rfl (ms_iload_n F (am_dk (q := (22, .iload_n 1, 1)) dk_X7_requireCells_0 12 rfl) rfl (ms_ic_ge F (tgt := 37) (am_dk (q := (23, .if_icmp .ge 14, 3)) dk_X7_requireCells_0 13 rfl) (by decide) (ms_vret F FQ rfl (am_dk (q := (37, .return_, 1)) dk_X7_requireCells_1 3 rfl)) (ms_throwW F hR FQ hT (by decide) (by decide) (cls := "java/lang/IllegalArgumentException") (text := "there are no such cells") (n1 := "java/lang/RuntimeException") (n2 := "java/lang/Exception") (ik := 187) (is := 426) (ic := 191) (by decide +kernel) (by decide +kernel) (ts _ wd_402) (ts _ wd_13) (by decide +kernel) at_191 (at_191_g (by decide) (by decide)) (am_dk (q := (26, .new 187, 3)) dk_X7_requireCells_0 14 rfl) (am_dk (q := (29, .dup, 1)) dk_X7_requireCells_0 15 rfl) (am_dk (q := (30, .ldc_w 426, 3)) dk_X7_requireCells_1 0 rfl) (am_dk (q := (33, .invokespecial 191, 3)) dk_X7_requireCells_1 1 rfl) (am_dk (q := (36, .athrow, 1)) dk_X7_requireCells_1 2 rfl)))))))))))))))
theorem ct_X7_requireCells (l : Launch) (htr : l.stackTraces = false) : am_Ct l yX7_requireCells (am_ws yX7_requireCells cX7_requireCells 4 none) rm_X7_requireCells sp_X7_requireCells := am_of htr (by decide) wd_400 (fun X K F FQ hR hT hn hi as n E hS => f_X7_requireCells K (am_G X) (sd_X7_requireCells X K F FQ hR hT hn) as n E hS)
def sp_X5_at : am_S := fun as n E K => ∃ (t c : Nat) (f : Nat → Int32) (x y : Int32), as = [.ref t, .int x, .int y] ∧ am_wl E t c f ∧ K (.inl (some (.int (am_at f x y)))) n E
def rm_X5_at : Room := { frames := 1, cells := 0, slots := 0, locals := 21 }
theorem rmc_X5_at : rm_X5_at.cells = 0 := rfl
theorem rms_X5_at : rm_X5_at.slots = 0 := rfl
def bk_X5_at_0 (K : am_P) (G : Nat → am_C) : am_C := o_iload 1 <| o_iload 2 <| o_call 2 sp_X7_isInside rm_X7_isInside rm_X5_at (am_noX K) <| o_if_eq (o_pi (-2) <| o_iret .int K) (o_aload 0 <| o_getf 5 0 <| o_iload 2 <| o_pi 12 <| o_ib (fun x y => x * y) <| o_iload 1 <| o_ib (fun x y => x + y) <| o_ild 0 <| o_iret .int K)
def cl_X5_at (K : am_P) (G : Nat → am_C) : Prop := am_imp (bk_X5_at_0 K G) (G 0)
theorem f_X5_at (K : am_P) (G : Nat → am_C) (hC : cl_X5_at K G) (as : List Value) (n : Nat) (E : am_E) (hS : sp_X5_at as n E K) : (am_sl as).length ≤ 3 ∧ G 0 (am_inl 3 as) [] n E 0 0 := by
  obtain ⟨t, c, f, x, y, rfl, ⟨h1, h2⟩, hK⟩ := hS
  refine ⟨by simp [am_sl, Value.category], ?_⟩
  apply hC
  simp only [↓xaa_0, ↓xar_0, ↓xii_1, ↓xii_2, ↓xpi, ↓xib, ↓xif, bk_X5_at_0, o_pi, o_iload, o_aload, o_ib, o_if_eq, o_if, o_ic, o_getf, o_ild, o_iret, o_call, am_kc, am_noX, am_s1, am_s2, am_kill, am_inl, am_sl, Value.category, List.getElem?_cons_zero, List.getElem?_cons_succ, List.set_cons_zero, List.set_cons_succ, List.length_cons, List.length_nil, List.take_succ_cons, List.take_zero, List.drop_succ_cons, List.drop_zero, List.reverse_cons, List.reverse_nil, List.nil_append, List.cons_append, List.append_nil, List.map_cons, List.map_nil, List.sum_cons, List.sum_nil, List.replicate_succ, List.replicate_zero, Nat.zero_add, Nat.add_zero, Nat.le_refl, Nat.zero_le, ite_true, ite_false, if_true, if_false, true_and, and_true, eq_self, not_true_eq_false, not_false_eq_true, am_nb0, am_nb1, am_ni, am_fi, am_fr, am_fra, am_fz0, am_fz1, am_fl, am_uE, am_vnI, am_uu, am_ltx, ite_not, Classical.not_not, reduceIte, reduceCtorEq, Nat.reduceEqDiff, Nat.reduceAdd, Nat.reduceSub, Nat.reduceMul, Nat.reduceLeDiff, Nat.reduceLT, Int32.reduceLE, Int32.reduceLT, am_10, am_01, am_ite0, am_ite1, ms_boT, ms_boF, rmc_X5_at, rms_X5_at, rmc_X7_isInside, rms_X7_isInside, h1, h2]
  refine ⟨x, y, rfl, ?_⟩
  simp only [↓xaa_0, ↓xar_0, ↓xii_1, ↓xii_2, ↓xpi, ↓xib, ↓xif, bk_X5_at_0, o_pi, o_iload, o_aload, o_ib, o_if_eq, o_if, o_ic, o_getf, o_ild, o_iret, o_call, am_kc, am_noX, am_s1, am_s2, am_kill, am_inl, am_sl, Value.category, List.getElem?_cons_zero, List.getElem?_cons_succ, List.set_cons_zero, List.set_cons_succ, List.length_cons, List.length_nil, List.take_succ_cons, List.take_zero, List.drop_succ_cons, List.drop_zero, List.reverse_cons, List.reverse_nil, List.nil_append, List.cons_append, List.append_nil, List.map_cons, List.map_nil, List.sum_cons, List.sum_nil, List.replicate_succ, List.replicate_zero, Nat.zero_add, Nat.add_zero, Nat.le_refl, Nat.zero_le, ite_true, ite_false, if_true, if_false, true_and, and_true, eq_self, not_true_eq_false, not_false_eq_true, am_nb0, am_nb1, am_ni, am_fi, am_fr, am_fra, am_fz0, am_fz1, am_fl, am_uE, am_vnI, am_uu, am_ltx, ite_not, Classical.not_not, reduceIte, reduceCtorEq, Nat.reduceEqDiff, Nat.reduceAdd, Nat.reduceSub, Nat.reduceMul, Nat.reduceLeDiff, Nat.reduceLT, Int32.reduceLE, Int32.reduceLT, am_10, am_01, am_ite0, am_ite1, ms_boT, ms_boF, rmc_X5_at, rms_X5_at, rmc_X7_isInside, rms_X7_isInside, h1, h2]
  unfold am_at at hK
  by_cases h : (0 ≤ x ∧ ¬ 12 ≤ x) ∧ 0 ≤ y ∧ ¬ 12 ≤ y
  · obtain ⟨i, j, hi, hj, rfl, rfl⟩ := am_insN h
    rw [if_pos h] at hK
    simp only [h, ite_true, ite_false, if_true, if_false, true_and, and_true, and_false, false_and, true_or, or_true, or_false, false_or, not_true_eq_false, not_false_eq_true, ite_not, eq_self, and_self, or_self, am_ltx, reduceCtorEq]
    refine ⟨?_, hK⟩
    rw [am_idx]
    exact vp_in_nI (by omega) (by decide)
  · rw [if_neg h] at hK
    simp only [h, ite_true, ite_false, if_true, if_false, true_and, and_true, and_false, false_and, true_or, or_true, or_false, false_or, not_true_eq_false, not_false_eq_true, ite_not, eq_self, and_self, or_self, am_ltx, reduceCtorEq]
    exact hK
set_option maxRecDepth 100000 in
set_option maxHeartbeats 4000000 in
theorem sd_X5_at (X : am_X) (K : am_P) (F : am_F X cX5_at yX5_at.cls (some .int) (am_ws yX5_at cX5_at 3 (some .int))) (FQ : am_FQ X K rm_X5_at.cells rm_X5_at.slots) (hR : am_Rm X rm_X5_at) (hT : am_noT X) (hn : am_nL X = 3) : cl_X5_at K (am_G X) := by
  have ts : ∀ w ∈ am_WS, w ∈ am_ws yX5_at cX5_at 3 (some .int) := fun w h => List.mem_cons_of_mem _ h
  exact ms_iload_n F (am_dk (q := (0, .iload_n 1, 1)) dk_X5_at_0 0 rfl) rfl (ms_iload_n F (am_dk (q := (1, .iload_n 2, 1)) dk_X5_at_0 1 rfl) rfl (ms_callSN F hR (y := yX7_isInside) (maxL := 2) (rm' := rm_X7_isInside) (na := 2) ct_X7_isInside wd_226 wd_1 wn_224 wd_225 (by decide +kernel) (by decide) (am_dk (q := (2, .invokestatic 15, 3)) dk_X5_at_0 2 rfl) (ms_noX F FQ hT) (ms_if_eq F (tgt := 22) (am_dk (q := (5, .ifCond .eq 17, 3)) dk_X5_at_0 3 rfl) (by decide) (ms_bipush F (am_dk (q := (22, .bipush (-2), 2)) dk_X5_at_0 13 rfl) (by decide +kernel) (ms_iret F FQ rfl (am_dk (q := (24, .ireturn, 1)) dk_X5_at_0 14 rfl))) (ms_aload_n F (am_dk (q := (8, .aload_n 0, 1)) dk_X5_at_0 4 rfl) rfl (ms_getf F (C := RX5) (T := TX5) (N := 1) (j := 0) (fun w h => ts _ (inw_X5 w h)) rfl (by decide) (ts _ wd_40) (am_dk (q := (9, .getfield 9, 3)) dk_X5_at_0 5 rfl) (ms_iload_n F (am_dk (q := (12, .iload_n 2, 1)) dk_X5_at_0 6 rfl) rfl (ms_bipush F (am_dk (q := (13, .bipush 12, 2)) dk_X5_at_0 7 rfl) (by decide +kernel) (ms_imul F (am_dk (q := (15, .imul, 1)) dk_X5_at_0 8 rfl) (ms_iload_n F (am_dk (q := (16, .iload_n 1, 1)) dk_X5_at_0 9 rfl) rfl (ms_iadd F (am_dk (q := (17, .iadd, 1)) dk_X5_at_0 10 rfl) (ms_iaload F (am_dk (q := (18, .iaload, 1)) dk_X5_at_0 11 rfl) (ms_goto F (tgt := 24) (am_dk (q := (19, .goto 5, 3)) dk_X5_at_0 12 rfl) (by decide) (ms_iret F FQ rfl (am_dk (q := (24, .ireturn, 1)) dk_X5_at_0 14 rfl))))))))))))))
theorem ct_X5_at (l : Launch) (htr : l.stackTraces = false) : am_Ct l yX5_at (am_ws yX5_at cX5_at 3 (some .int)) rm_X5_at sp_X5_at := am_of htr (by decide) wd_223 (fun X K F FQ hR hT hn hi as n E hS => f_X5_at K (am_G X) (sd_X5_at X K F FQ hR hT hn) as n E hS)
