def sp_X1_clear : am_S := fun as n E K => ∃ (t r f : Nat) (R F : Nat → Nat), as = [.ref t] ∧ am_po E t r f R F ∧ (∀ k, 4 ≤ k → R k = 0 ∧ F k = 0) ∧ K (.inl none) n (am_u (am_u E r (am_c4 (fun _ => 0))) f (am_c4 (fun _ => 0)))
def rm_X1_clear : Room := { frames := 0, cells := 0, slots := 0, locals := 0 }
theorem rmc_X1_clear : rm_X1_clear.cells = 0 := rfl
theorem rms_X1_clear : rm_X1_clear.slots = 0 := rfl
def bk_X1_clear_0 (K : am_P) (G : Nat → am_C) : am_C := o_pi 0 <| o_istore 1 <| (G 2)
def bk_X1_clear_2 (K : am_P) (G : Nat → am_C) : am_C := o_iload 1 <| o_pi 4 <| o_ic_ge (o_vret K) (o_aload 0 <| o_getf 1 0 <| o_iload 1 <| o_pi 0 <| o_ist 0 .int <| o_aload 0 <| o_getf 1 1 <| o_iload 1 <| o_pi 0 <| o_ist 0 .int <| o_iinc 1 1 <| (G 2))
def cl_X1_clear (K : am_P) (G : Nat → am_C) : Prop := am_imp (bk_X1_clear_0 K G) (G 0) ∧ am_imp (bk_X1_clear_2 K G) (G 2)
theorem f_X1_clear (K : am_P) (G : Nat → am_C) (hC : cl_X1_clear K G) (as : List Value) (n : Nat) (E : am_E) (hS : sp_X1_clear as n E K) : (am_sl as).length ≤ 2 ∧ G 0 (am_inl 2 as) [] n E 0 0 := by
  obtain ⟨t, r, f, R, F, rfl, ⟨h1, h2, h3, n1, n2, n3, -⟩, hz, hK⟩ := hS
  refine ⟨by simp [am_sl, Value.category], ?_⟩
  have n2' : t ≠ r := Ne.symm n2
  have n3' : t ≠ f := Ne.symm n3
  have n1' : f ≠ r := Ne.symm n1
  have loop := am_for (fun i => G 2 [some (.ref t), some (.int (nI i))] [] n (am_u (am_u E r (.inl (0, 4, .inl (am_pro (fun _ => nI 0) (fun k => nI (R k)) i)))) f (.inl (0, 4, .inl (am_pro (fun _ => nI 0) (fun k => nI (F k)) i)))) 0 0) 4 (by
    apply hC.2
    simp only [↓xaa_0, ↓xar_0, ↓xinc_1i, ↓xinc_1a, ↓xinc_1n, ↓xii_1, ↓xisi_1i, ↓xisi_1a, ↓xisi_1n, ↓xpi, ↓xic, bk_X1_clear_0, bk_X1_clear_2, o_pi, o_iload, o_aload, o_istore, o_iinc, o_ic_ge, o_if, o_ic, o_getf, o_ist, o_vret, o_call, am_kc, am_noX, am_s1, am_s2, am_kill, am_inl, am_sl, Value.category, List.getElem?_cons_zero, List.getElem?_cons_succ, List.set_cons_zero, List.set_cons_succ, List.length_cons, List.length_nil, List.take_succ_cons, List.take_zero, List.drop_succ_cons, List.drop_zero, List.reverse_cons, List.reverse_nil, List.nil_append, List.cons_append, List.append_nil, List.map_cons, List.map_nil, List.sum_cons, List.sum_nil, List.replicate_succ, List.replicate_zero, Nat.zero_add, Nat.add_zero, Nat.le_refl, Nat.zero_le, ite_true, ite_false, if_true, if_false, true_and, and_true, eq_self, not_true_eq_false, not_false_eq_true, am_nb0, am_nb1, am_ni, am_fi, am_fr, am_fra, am_fz0, am_fz1, am_fl, am_uE, am_vnI, am_uu, am_ltx, ite_not, Classical.not_not, reduceIte, reduceCtorEq, Nat.reduceEqDiff, Nat.reduceAdd, Nat.reduceSub, Nat.reduceMul, Nat.reduceLeDiff, Nat.reduceLT, Int32.reduceLE, Int32.reduceLT, am_10, am_01, am_ite0, am_ite1, ms_boT, ms_boF, rmc_X1_clear, rms_X1_clear]
    rw [am_pro_N (fun k hk => by rw [(hz k hk).1]), am_pro_N (fun k hk => by rw [(hz k hk).2])]
    exact hK) (fun i hi hn => by
    apply hC.2
    simp only [↓xaa_0, ↓xar_0, ↓xinc_1i, ↓xinc_1a, ↓xinc_1n, ↓xii_1, ↓xisi_1i, ↓xisi_1a, ↓xisi_1n, ↓xpi, ↓xic, bk_X1_clear_0, bk_X1_clear_2, o_pi, o_iload, o_aload, o_istore, o_iinc, o_ic_ge, o_if, o_ic, o_getf, o_ist, o_vret, o_call, am_kc, am_noX, am_s1, am_s2, am_kill, am_inl, am_sl, Value.category, List.getElem?_cons_zero, List.getElem?_cons_succ, List.set_cons_zero, List.set_cons_succ, List.length_cons, List.length_nil, List.take_succ_cons, List.take_zero, List.drop_succ_cons, List.drop_zero, List.reverse_cons, List.reverse_nil, List.nil_append, List.cons_append, List.append_nil, List.map_cons, List.map_nil, List.sum_cons, List.sum_nil, List.replicate_succ, List.replicate_zero, Nat.zero_add, Nat.add_zero, Nat.le_refl, Nat.zero_le, ite_true, ite_false, if_true, if_false, true_and, and_true, eq_self, not_true_eq_false, not_false_eq_true, am_nb0, am_nb1, am_ni, am_fi, am_fr, am_fra, am_fz0, am_fz1, am_fl, am_uE, am_vnI, am_uu, am_ltx, ite_not, Classical.not_not, reduceIte, reduceCtorEq, Nat.reduceEqDiff, Nat.reduceAdd, Nat.reduceSub, Nat.reduceMul, Nat.reduceLeDiff, Nat.reduceLT, Int32.reduceLE, Int32.reduceLT, am_10, am_01, am_ite0, am_ite1, ms_boT, ms_boF, rmc_X1_clear, rms_X1_clear, am_uN n2', am_uN n3', am_uN n1, am_uN n1', h1, am_uc n1', show ((4 : Int32) ≤ nI i) = False from am_nge hi (by decide), am_vi hi (by decide), am_cl (show i < 2 ^ 31 by omega), nI_1]
    simp only [am_uN n2', am_uN n3', am_uN n1, am_uN n1', h1, am_uE, am_uu, am_vnI, am_pro_s (fun _ => nI 0) _ i (v := 0) rfl]
    first
    | exact hn
    | (rw [am_uc n1', am_uu]; exact hn)
    | (rw [am_uc n1]; simp only [am_uu]; exact hn))
  apply hC.1
  simp only [↓xaa_0, ↓xar_0, ↓xinc_1i, ↓xinc_1a, ↓xinc_1n, ↓xii_1, ↓xisi_1i, ↓xisi_1a, ↓xisi_1n, ↓xpi, ↓xic, bk_X1_clear_0, bk_X1_clear_2, o_pi, o_iload, o_aload, o_istore, o_iinc, o_ic_ge, o_if, o_ic, o_getf, o_ist, o_vret, o_call, am_kc, am_noX, am_s1, am_s2, am_kill, am_inl, am_sl, Value.category, List.getElem?_cons_zero, List.getElem?_cons_succ, List.set_cons_zero, List.set_cons_succ, List.length_cons, List.length_nil, List.take_succ_cons, List.take_zero, List.drop_succ_cons, List.drop_zero, List.reverse_cons, List.reverse_nil, List.nil_append, List.cons_append, List.append_nil, List.map_cons, List.map_nil, List.sum_cons, List.sum_nil, List.replicate_succ, List.replicate_zero, Nat.zero_add, Nat.add_zero, Nat.le_refl, Nat.zero_le, ite_true, ite_false, if_true, if_false, true_and, and_true, eq_self, not_true_eq_false, not_false_eq_true, am_nb0, am_nb1, am_ni, am_fi, am_fr, am_fra, am_fz0, am_fz1, am_fl, am_uE, am_vnI, am_uu, am_ltx, ite_not, Classical.not_not, reduceIte, reduceCtorEq, Nat.reduceEqDiff, Nat.reduceAdd, Nat.reduceSub, Nat.reduceMul, Nat.reduceLeDiff, Nat.reduceLT, Int32.reduceLE, Int32.reduceLT, am_10, am_01, am_ite0, am_ite1, ms_boT, ms_boF, rmc_X1_clear, rms_X1_clear]
  have h9 := loop 0 (by omega)
  rw [am_pro_0, am_pro_0, am_us (a := .inl (0, 4, .inl (fun k => nI (R k)))) h2, am_us (a := .inl (0, 4, .inl (fun k => nI (F k)))) h3] at h9
  exact h9
set_option maxRecDepth 100000 in
set_option maxHeartbeats 4000000 in
theorem sd_X1_clear (X : am_X) (K : am_P) (F : am_F X cX1_clear yX1_clear.cls none (am_ws yX1_clear cX1_clear 2 none)) (FQ : am_FQ X K rm_X1_clear.cells rm_X1_clear.slots) (hR : am_Rm X rm_X1_clear) (hT : am_noT X) (hn : am_nL X = 2) : cl_X1_clear K (am_G X) := by
  have ts : ∀ w ∈ am_WS, w ∈ am_ws yX1_clear cX1_clear 2 none := fun w h => List.mem_cons_of_mem _ h
  exact ⟨ms_iconst F (am_dk (q := (0, .iconst 0, 1)) dk_X1_clear_0 0 rfl) (by decide +kernel) (ms_istore_n F (am_dk (q := (1, .istore_n 1, 1)) dk_X1_clear_0 1 rfl) rfl hn (by decide) ((am_id _))),
    ms_iload_n F (am_dk (q := (2, .iload_n 1, 1)) dk_X1_clear_0 2 rfl) rfl (ms_iconst F (am_dk (q := (3, .iconst 4, 1)) dk_X1_clear_0 3 rfl) (by decide +kernel) (ms_ic_ge F (tgt := 27) (am_dk (q := (4, .if_icmp .ge 23, 3)) dk_X1_clear_0 4 rfl) (by decide) (ms_vret F FQ rfl (am_dk (q := (27, .return_, 1)) dk_X1_clear_1 1 rfl)) (ms_aload_n F (am_dk (q := (7, .aload_n 0, 1)) dk_X1_clear_0 5 rfl) rfl (ms_getf F (C := RX1) (T := TX1) (N := 2) (j := 0) (fun w h => ts _ (inw_X1 w h)) rfl (by decide) (ts _ wd_102) (am_dk (q := (8, .getfield 9, 3)) dk_X1_clear_0 6 rfl) (ms_iload_n F (am_dk (q := (11, .iload_n 1, 1)) dk_X1_clear_0 7 rfl) rfl (ms_iconst F (am_dk (q := (12, .iconst 0, 1)) dk_X1_clear_0 8 rfl) (by decide +kernel) (ms_iastore F (am_dk (q := (13, .iastore, 1)) dk_X1_clear_0 9 rfl) (ms_aload_n F (am_dk (q := (14, .aload_n 0, 1)) dk_X1_clear_0 10 rfl) rfl (ms_getf F (C := RX1) (T := TX1) (N := 2) (j := 1) (fun w h => ts _ (inw_X1 w h)) rfl (by decide) (ts _ wd_103) (am_dk (q := (15, .getfield 13, 3)) dk_X1_clear_0 11 rfl) (ms_iload_n F (am_dk (q := (18, .iload_n 1, 1)) dk_X1_clear_0 12 rfl) rfl (ms_iconst F (am_dk (q := (19, .iconst 0, 1)) dk_X1_clear_0 13 rfl) (by decide +kernel) (ms_iastore F (am_dk (q := (20, .iastore, 1)) dk_X1_clear_0 14 rfl) (ms_iinc F (am_dk (q := (21, .iinc 1 1, 3)) dk_X1_clear_0 15 rfl) (by decide +kernel) hn (by decide) (ms_goto F (tgt := 2) (am_dk (q := (24, .goto (-22), 3)) dk_X1_clear_1 0 rfl) (by decide) ((am_id _))))))))))))))))⟩
theorem ct_X1_clear (l : Launch) (htr : l.stackTraces = false) : am_Ct l yX1_clear (am_ws yX1_clear cX1_clear 2 none) rm_X1_clear sp_X1_clear := am_of htr (by decide) wd_769 (fun X K F FQ hR hT hn hi as n E hS => f_X1_clear K (am_G X) (sd_X1_clear X K F FQ hR hT hn) as n E hS)
def sp_X6_clear : am_S := fun as n E K => ∃ (t w : Nat) (Y : Nat → Bool), as = [.ref t] ∧ t ≠ w ∧ am_ysup Y ∧ am_yo E t w Y ∧ K (.inl none) n (am_u E w (am_ywE (fun _ => false)))
def rm_X6_clear : Room := { frames := 0, cells := 0, slots := 0, locals := 0 }
theorem rmc_X6_clear : rm_X6_clear.cells = 0 := rfl
theorem rms_X6_clear : rm_X6_clear.slots = 0 := rfl
def bk_X6_clear_0 (K : am_P) (G : Nat → am_C) : am_C := o_pi 0 <| o_istore 1 <| (G 2)
def bk_X6_clear_2 (K : am_P) (G : Nat → am_C) : am_C := o_iload 1 <| o_pi 32 <| o_ic_ge (o_vret K) (o_aload 0 <| o_getf 6 0 <| o_iload 1 <| o_pl 0 <| o_lst <| o_iinc 1 1 <| (G 2))
def cl_X6_clear (K : am_P) (G : Nat → am_C) : Prop := am_imp (bk_X6_clear_0 K G) (G 0) ∧ am_imp (bk_X6_clear_2 K G) (G 2)
theorem am_yw_hi {Y : Nat → Bool} (h : am_ysup Y) {k : Nat} (hk : 32 ≤ k) : am_yw Y k = 0 := by
  unfold am_yw
  rw [am_bn_0 (fun i hi => by
    cases hy : Y (64 * k + i) with
    | false => rfl
    | true => have := h _ hy; omega)]
  rfl
theorem am_yw_ext {Y Z : Nat → Bool} {k : Nat} (h : ∀ i, i < 64 → Y (64 * k + i) = Z (64 * k + i)) : am_yw Y k = am_yw Z k := by
  unfold am_yw
  rw [am_bn_cg (b := fun i => Y (64 * k + i)) (c := fun i => Z (64 * k + i)) h]
theorem f_X6_clear (K : am_P) (G : Nat → am_C) (hC : cl_X6_clear K G) (as : List Value) (n : Nat) (E : am_E) (hS : sp_X6_clear as n E K) : (am_sl as).length ≤ 2 ∧ G 0 (am_inl 2 as) [] n E 0 0 := by
  obtain ⟨t, w, Y, rfl, htw, hY, ⟨h1, h2⟩, hK⟩ := hS
  refine ⟨by simp [am_sl, Value.category], ?_⟩
  have loop := am_for (fun i => G 2 [some (.ref t), some (.int (nI i))] [] n (am_u E w (.inl (1, 32, .inr (.inl (fun k => if k < i then 0 else am_yw Y k))))) 0 0) 32 (by
    apply hC.2
    have e : (fun k => if k < 32 then 0 else am_yw Y k) = am_yw (fun _ => false) := by
      funext k
      by_cases hk : k < 32
      · rw [if_pos hk]
        unfold am_yw
        rw [am_bn_0 (fun _ _ => rfl)]
        rfl
      · rw [if_neg hk, am_yw_hi hY (by omega), am_yw_hi (fun _ q => by cases q) (by omega)]
    rw [e]
    simp only [↓xaa_0, ↓xar_0, ↓xinc_1i, ↓xinc_1a, ↓xinc_1n, ↓xii_1, ↓xisi_1i, ↓xisi_1a, ↓xisi_1n, ↓xpi, ↓xpl, ↓xic, bk_X6_clear_0, bk_X6_clear_2, o_pi, o_pl, o_iload, o_aload, o_istore, o_iinc, o_ic_ge, o_if, o_ic, o_getf, o_lst, o_vret, o_call, am_kc, am_noX, am_s1, am_s2, am_kill, am_inl, am_sl, Value.category, List.getElem?_cons_zero, List.getElem?_cons_succ, List.set_cons_zero, List.set_cons_succ, List.length_cons, List.length_nil, List.take_succ_cons, List.take_zero, List.drop_succ_cons, List.drop_zero, List.reverse_cons, List.reverse_nil, List.nil_append, List.cons_append, List.append_nil, List.map_cons, List.map_nil, List.sum_cons, List.sum_nil, List.replicate_succ, List.replicate_zero, Nat.zero_add, Nat.add_zero, Nat.le_refl, Nat.zero_le, ite_true, ite_false, if_true, if_false, true_and, and_true, eq_self, not_true_eq_false, not_false_eq_true, am_nb0, am_nb1, am_ni, am_fi, am_fr, am_fra, am_fz0, am_fz1, am_fl, am_uE, am_vnI, am_uu, am_ltx, ite_not, Classical.not_not, reduceIte, reduceCtorEq, Nat.reduceEqDiff, Nat.reduceAdd, Nat.reduceSub, Nat.reduceMul, Nat.reduceLeDiff, Nat.reduceLT, Int32.reduceLE, Int32.reduceLT, am_10, am_01, am_ite0, am_ite1, ms_boT, ms_boF, rmc_X6_clear, rms_X6_clear, am_uN htw, h1]
    exact hK) (fun i hi hn => by
    apply hC.2
    have e32 : (32 : Int32) = nI 32 := rfl
    have e : vp_updL (fun k => if k < i then 0 else am_yw Y k) i 0 = (fun k => if k < i + 1 then 0 else am_yw Y k) := by
      funext k
      by_cases hk : k = i
      · subst hk
        simp [vp_updL]
      · by_cases h9 : k < i
        · simp [vp_updL, hk, h9, show k < i + 1 by omega]
        · simp [vp_updL, hk, h9, show ¬ k < i + 1 by omega]
    simp only [↓xaa_0, ↓xar_0, ↓xinc_1i, ↓xinc_1a, ↓xinc_1n, ↓xii_1, ↓xisi_1i, ↓xisi_1a, ↓xisi_1n, ↓xpi, ↓xpl, ↓xic, bk_X6_clear_0, bk_X6_clear_2, o_pi, o_pl, o_iload, o_aload, o_istore, o_iinc, o_ic_ge, o_if, o_ic, o_getf, o_lst, o_vret, o_call, am_kc, am_noX, am_s1, am_s2, am_kill, am_inl, am_sl, Value.category, List.getElem?_cons_zero, List.getElem?_cons_succ, List.set_cons_zero, List.set_cons_succ, List.length_cons, List.length_nil, List.take_succ_cons, List.take_zero, List.drop_succ_cons, List.drop_zero, List.reverse_cons, List.reverse_nil, List.nil_append, List.cons_append, List.append_nil, List.map_cons, List.map_nil, List.sum_cons, List.sum_nil, List.replicate_succ, List.replicate_zero, Nat.zero_add, Nat.add_zero, Nat.le_refl, Nat.zero_le, ite_true, ite_false, if_true, if_false, true_and, and_true, eq_self, not_true_eq_false, not_false_eq_true, am_nb0, am_nb1, am_ni, am_fi, am_fr, am_fra, am_fz0, am_fz1, am_fl, am_uE, am_vnI, am_uu, am_ltx, ite_not, Classical.not_not, reduceIte, reduceCtorEq, Nat.reduceEqDiff, Nat.reduceAdd, Nat.reduceSub, Nat.reduceMul, Nat.reduceLeDiff, Nat.reduceLT, Int32.reduceLE, Int32.reduceLT, am_10, am_01, am_ite0, am_ite1, ms_boT, ms_boF, rmc_X6_clear, rms_X6_clear, am_uN htw, h1, e32, am_geN (show 32 < 2 ^ 31 by decide) (show i < 2 ^ 31 by omega), show ¬ 32 ≤ i by omega, am_vi hi (by decide), am_cl (show i < 2 ^ 31 by omega), nI_1, am_uu, e]
    exact hn)
  apply hC.1
  simp only [↓xaa_0, ↓xar_0, ↓xinc_1i, ↓xinc_1a, ↓xinc_1n, ↓xii_1, ↓xisi_1i, ↓xisi_1a, ↓xisi_1n, ↓xpi, ↓xpl, ↓xic, bk_X6_clear_0, bk_X6_clear_2, o_pi, o_pl, o_iload, o_aload, o_istore, o_iinc, o_ic_ge, o_if, o_ic, o_getf, o_lst, o_vret, o_call, am_kc, am_noX, am_s1, am_s2, am_kill, am_inl, am_sl, Value.category, List.getElem?_cons_zero, List.getElem?_cons_succ, List.set_cons_zero, List.set_cons_succ, List.length_cons, List.length_nil, List.take_succ_cons, List.take_zero, List.drop_succ_cons, List.drop_zero, List.reverse_cons, List.reverse_nil, List.nil_append, List.cons_append, List.append_nil, List.map_cons, List.map_nil, List.sum_cons, List.sum_nil, List.replicate_succ, List.replicate_zero, Nat.zero_add, Nat.add_zero, Nat.le_refl, Nat.zero_le, ite_true, ite_false, if_true, if_false, true_and, and_true, eq_self, not_true_eq_false, not_false_eq_true, am_nb0, am_nb1, am_ni, am_fi, am_fr, am_fra, am_fz0, am_fz1, am_fl, am_uE, am_vnI, am_uu, am_ltx, ite_not, Classical.not_not, reduceIte, reduceCtorEq, Nat.reduceEqDiff, Nat.reduceAdd, Nat.reduceSub, Nat.reduceMul, Nat.reduceLeDiff, Nat.reduceLT, Int32.reduceLE, Int32.reduceLT, am_10, am_01, am_ite0, am_ite1, ms_boT, ms_boF, rmc_X6_clear, rms_X6_clear]
  have h0 := loop 0 (by omega)
  have e0 : am_u E w (.inl (1, 32, .inr (.inl (fun k => if k < 0 then 0 else am_yw Y k)))) = E := by
    funext j
    unfold am_u
    by_cases hj : j = w
    · rw [if_pos hj, hj, h2]
      rfl
    · rw [if_neg hj]
  rw [e0] at h0
  exact h0
set_option maxRecDepth 100000 in
set_option maxHeartbeats 4000000 in
theorem sd_X6_clear (X : am_X) (K : am_P) (F : am_F X cX6_clear yX6_clear.cls none (am_ws yX6_clear cX6_clear 2 none)) (FQ : am_FQ X K rm_X6_clear.cells rm_X6_clear.slots) (hR : am_Rm X rm_X6_clear) (hT : am_noT X) (hn : am_nL X = 2) : cl_X6_clear K (am_G X) := by
  have ts : ∀ w ∈ am_WS, w ∈ am_ws yX6_clear cX6_clear 2 none := fun w h => List.mem_cons_of_mem _ h
  exact ⟨ms_iconst F (am_dk (q := (0, .iconst 0, 1)) dk_X6_clear_0 0 rfl) (by decide +kernel) (ms_istore_n F (am_dk (q := (1, .istore_n 1, 1)) dk_X6_clear_0 1 rfl) rfl hn (by decide) ((am_id _))),
    ms_iload_n F (am_dk (q := (2, .iload_n 1, 1)) dk_X6_clear_0 2 rfl) rfl (ms_bipush F (am_dk (q := (3, .bipush 32, 2)) dk_X6_clear_0 3 rfl) (by decide +kernel) (ms_ic_ge F (tgt := 21) (am_dk (q := (5, .if_icmp .ge 16, 3)) dk_X6_clear_0 4 rfl) (by decide) (ms_vret F FQ rfl (am_dk (q := (21, .return_, 1)) dk_X6_clear_0 12 rfl)) (ms_aload_n F (am_dk (q := (8, .aload_n 0, 1)) dk_X6_clear_0 5 rfl) rfl (ms_getf F (C := RX6) (T := TX6) (N := 1) (j := 0) (fun w h => ts _ (inw_X6 w h)) rfl (by decide) (ts _ wd_86) (am_dk (q := (9, .getfield 11, 3)) dk_X6_clear_0 6 rfl) (ms_iload_n F (am_dk (q := (12, .iload_n 1, 1)) dk_X6_clear_0 7 rfl) rfl (ms_lconst F (am_dk (q := (13, .lconst 0, 1)) dk_X6_clear_0 8 rfl) (by decide +kernel) (ms_lastore F (am_dk (q := (14, .lastore, 1)) dk_X6_clear_0 9 rfl) (ms_iinc F (am_dk (q := (15, .iinc 1 1, 3)) dk_X6_clear_0 10 rfl) (by decide +kernel) hn (by decide) (ms_goto F (tgt := 2) (am_dk (q := (18, .goto (-16), 3)) dk_X6_clear_0 11 rfl) (by decide) ((am_id _)))))))))))⟩
theorem ct_X6_clear (l : Launch) (htr : l.stackTraces = false) : am_Ct l yX6_clear (am_ws yX6_clear cX6_clear 2 none) rm_X6_clear sp_X6_clear := am_of htr (by decide) wd_296 (fun X K F FQ hR hT hn hi as n E hS => f_X6_clear K (am_G X) (sd_X6_clear X K F FQ hR hT hn) as n E hS)
def sp_X2_glaze : am_S := fun as n E K => ∃ (t p y r f w : Nat) (wc wk st co yr st2 co2 yr2 : Int32) (R F : Nat → Nat) (Y : Nat → Bool), as = [.ref t, .int st2, .int co2, .int yr2] ∧ am_ch st2 ∧ am_pn0 E t wc wk st co yr p y ∧ am_po E p r f R F ∧ (∀ k, 4 ≤ k → R k = 0 ∧ F k = 0) ∧ am_ysup Y ∧ am_yo E y w Y ∧ K (.inl none) n (am_u (am_u (am_u (am_u E t (.inr (2, [.int wc, .int wk, .int st2, .int co2, .int yr2, .ref p, .ref y]))) r (am_c4 (fun _ => 0))) f (am_c4 (fun _ => 0))) w (am_ywE (fun _ => false)))
def rm_X2_glaze : Room := { frames := 1, cells := 0, slots := 0, locals := 21 }
theorem rmc_X2_glaze : rm_X2_glaze.cells = 0 := rfl
theorem rms_X2_glaze : rm_X2_glaze.slots = 0 := rfl
def bk_X2_glaze_0 (K : am_P) (G : Nat → am_C) : am_C := o_aload 0 <| o_iload 1 <| o_putf 2 2 .char <| o_aload 0 <| o_iload 2 <| o_putf 2 3 .int <| o_aload 0 <| o_iload 3 <| o_putf 2 4 .int <| o_aload 0 <| o_getf 2 5 <| o_callV 1 1 sp_X1_clear rm_X1_clear rm_X2_glaze (am_noX K) <| o_aload 0 <| o_getf 2 6 <| o_callV 6 1 sp_X6_clear rm_X6_clear rm_X2_glaze (am_noX K) <| o_vret K
def cl_X2_glaze (K : am_P) (G : Nat → am_C) : Prop := am_imp (bk_X2_glaze_0 K G) (G 0)
theorem f_X2_glaze (K : am_P) (G : Nat → am_C) (hC : cl_X2_glaze K G) (as : List Value) (n : Nat) (E : am_E) (hS : sp_X2_glaze as n E K) : (am_sl as).length ≤ 4 ∧ G 0 (am_inl 4 as) [] n E 0 0 := by
  obtain ⟨t, p, y, r, f, w, wc, wk, st, co, yr, st2, co2, yr2, R, F, Y, rfl, hc, h1, hpo, hz, hY, hyo, hK⟩ := hS
  refine ⟨by simp [am_sl, Value.category], ?_⟩
  have h1 : E t = _ := h1
  obtain ⟨b1, b2, b3, n1, n2, n3, b4⟩ := id hpo
  obtain ⟨y1, y2⟩ := id hyo
  have b2' : E r = some (.inl (0, 4, .inl (fun k => nI (R k)))) := b2
  have b3' : E f = some (.inl (0, 4, .inl (fun k => nI (F k)))) := b3
  have a1 : p ≠ t := am_ne_oo b1 h1 (by decide)
  have a2 : r ≠ t := Ne.symm (am_ne_oa h1 b2')
  have a3 : f ≠ t := Ne.symm (am_ne_oa h1 b3')
  have a4 : y ≠ t := am_ne_oo y1 h1 (by decide)
  have a5 : w ≠ t := Ne.symm (am_ne_oa h1 y2)
  have a6 : y ≠ r := am_ne_oa y1 b2'
  have a7 : y ≠ f := am_ne_oa y1 b3'
  have a8 : w ≠ r := am_ne_aa y2 b2' (by decide)
  have a9 : w ≠ f := am_ne_aa y2 b3' (by decide)
  have a10 : y ≠ w := am_ne_oa y1 y2
  apply hC
  simp only [↓xaa_0, ↓xar_0, ↓xii_1, ↓xii_2, ↓xii_3, bk_X2_glaze_0, o_iload, o_aload, o_if, o_ic, o_getf, o_putf, o_vret, o_call, o_callV, am_kc, am_noX, am_s1, am_s2, am_kill, am_inl, am_sl, Value.category, List.getElem?_cons_zero, List.getElem?_cons_succ, List.set_cons_zero, List.set_cons_succ, List.length_cons, List.length_nil, List.take_succ_cons, List.take_zero, List.drop_succ_cons, List.drop_zero, List.reverse_cons, List.reverse_nil, List.nil_append, List.cons_append, List.append_nil, List.map_cons, List.map_nil, List.sum_cons, List.sum_nil, List.replicate_succ, List.replicate_zero, Nat.zero_add, Nat.add_zero, Nat.le_refl, Nat.zero_le, ite_true, ite_false, if_true, if_false, true_and, and_true, eq_self, not_true_eq_false, not_false_eq_true, am_nb0, am_nb1, am_ni, am_fi, am_fr, am_fra, am_fz0, am_fz1, am_fl, am_uE, am_vnI, am_uu, am_ltx, ite_not, Classical.not_not, reduceIte, reduceCtorEq, Nat.reduceEqDiff, Nat.reduceAdd, Nat.reduceSub, Nat.reduceMul, Nat.reduceLeDiff, Nat.reduceLT, Int32.reduceLE, Int32.reduceLT, am_10, am_01, am_ite0, am_ite1, ms_boT, ms_boF, rmc_X1_clear, rms_X1_clear, rmc_X2_glaze, rms_X2_glaze, rmc_X6_clear, rms_X6_clear, h1, am_fcx hc, am_ncx hc, am_uN (Ne.symm a1), am_uN a1, b1]
  refine ⟨p, r, f, R, F, rfl, ⟨by rw [am_uN a1]; exact b1, by rw [am_uN a2]; exact b2, by rw [am_uN a3]; exact b3, n1, n2, n3, b4⟩, hz, ?_⟩
  simp only [↓xaa_0, ↓xar_0, ↓xii_1, ↓xii_2, ↓xii_3, bk_X2_glaze_0, o_iload, o_aload, o_if, o_ic, o_getf, o_putf, o_vret, o_call, o_callV, am_kc, am_noX, am_s1, am_s2, am_kill, am_inl, am_sl, Value.category, List.getElem?_cons_zero, List.getElem?_cons_succ, List.set_cons_zero, List.set_cons_succ, List.length_cons, List.length_nil, List.take_succ_cons, List.take_zero, List.drop_succ_cons, List.drop_zero, List.reverse_cons, List.reverse_nil, List.nil_append, List.cons_append, List.append_nil, List.map_cons, List.map_nil, List.sum_cons, List.sum_nil, List.replicate_succ, List.replicate_zero, Nat.zero_add, Nat.add_zero, Nat.le_refl, Nat.zero_le, ite_true, ite_false, if_true, if_false, true_and, and_true, eq_self, not_true_eq_false, not_false_eq_true, am_nb0, am_nb1, am_ni, am_fi, am_fr, am_fra, am_fz0, am_fz1, am_fl, am_uE, am_vnI, am_uu, am_ltx, ite_not, Classical.not_not, reduceIte, reduceCtorEq, Nat.reduceEqDiff, Nat.reduceAdd, Nat.reduceSub, Nat.reduceMul, Nat.reduceLeDiff, Nat.reduceLT, Int32.reduceLE, Int32.reduceLT, am_10, am_01, am_ite0, am_ite1, ms_boT, ms_boF, rmc_X1_clear, rms_X1_clear, rmc_X2_glaze, rms_X2_glaze, rmc_X6_clear, rms_X6_clear, am_uN (Ne.symm a2), am_uN (Ne.symm a3), am_uN a7, am_uN a6, am_uN a4, y1]
  refine ⟨y, w, Y, rfl, a10, hY, ⟨by rw [am_uN a7, am_uN a6, am_uN a4]; exact y1, by rw [am_uN a9, am_uN a8, am_uN a5]; exact y2⟩, ?_⟩
  simp only [↓xaa_0, ↓xar_0, ↓xii_1, ↓xii_2, ↓xii_3, bk_X2_glaze_0, o_iload, o_aload, o_if, o_ic, o_getf, o_putf, o_vret, o_call, o_callV, am_kc, am_noX, am_s1, am_s2, am_kill, am_inl, am_sl, Value.category, List.getElem?_cons_zero, List.getElem?_cons_succ, List.set_cons_zero, List.set_cons_succ, List.length_cons, List.length_nil, List.take_succ_cons, List.take_zero, List.drop_succ_cons, List.drop_zero, List.reverse_cons, List.reverse_nil, List.nil_append, List.cons_append, List.append_nil, List.map_cons, List.map_nil, List.sum_cons, List.sum_nil, List.replicate_succ, List.replicate_zero, Nat.zero_add, Nat.add_zero, Nat.le_refl, Nat.zero_le, ite_true, ite_false, if_true, if_false, true_and, and_true, eq_self, not_true_eq_false, not_false_eq_true, am_nb0, am_nb1, am_ni, am_fi, am_fr, am_fra, am_fz0, am_fz1, am_fl, am_uE, am_vnI, am_uu, am_ltx, ite_not, Classical.not_not, reduceIte, reduceCtorEq, Nat.reduceEqDiff, Nat.reduceAdd, Nat.reduceSub, Nat.reduceMul, Nat.reduceLeDiff, Nat.reduceLT, Int32.reduceLE, Int32.reduceLT, am_10, am_01, am_ite0, am_ite1, ms_boT, ms_boF, rmc_X1_clear, rms_X1_clear, rmc_X2_glaze, rms_X2_glaze, rmc_X6_clear, rms_X6_clear]
  exact hK
set_option maxRecDepth 100000 in
set_option maxHeartbeats 4000000 in
theorem sd_X2_glaze (X : am_X) (K : am_P) (F : am_F X cX2_glaze yX2_glaze.cls none (am_ws yX2_glaze cX2_glaze 4 none)) (FQ : am_FQ X K rm_X2_glaze.cells rm_X2_glaze.slots) (hR : am_Rm X rm_X2_glaze) (hT : am_noT X) (hn : am_nL X = 4) : cl_X2_glaze K (am_G X) := by
  have ts : ∀ w ∈ am_WS, w ∈ am_ws yX2_glaze cX2_glaze 4 none := fun w h => List.mem_cons_of_mem _ h
  exact ms_aload_n F (am_dk (q := (0, .aload_n 0, 1)) dk_X2_glaze_0 0 rfl) rfl (ms_iload_n F (am_dk (q := (1, .iload_n 1, 1)) dk_X2_glaze_0 1 rfl) rfl (ms_putf F (ty := .char) (ty0 := tyX2) (C := RX2) (T := TX2) (N := 7) (j := 2) (fun w h => ts _ (inw_X2 w h)) rfl (by decide) tyX2_ok nmX2 (by decide +kernel) rfl (ts _ wd_115) (am_dk (q := (2, .putfield 19, 3)) dk_X2_glaze_0 2 rfl) (ms_aload_n F (am_dk (q := (5, .aload_n 0, 1)) dk_X2_glaze_0 3 rfl) rfl (ms_iload_n F (am_dk (q := (6, .iload_n 2, 1)) dk_X2_glaze_0 4 rfl) rfl (ms_putf F (ty := .int) (ty0 := tyX2) (C := RX2) (T := TX2) (N := 7) (j := 3) (fun w h => ts _ (inw_X2 w h)) rfl (by decide) tyX2_ok nmX2 (by decide +kernel) rfl (ts _ wd_117) (am_dk (q := (7, .putfield 22, 3)) dk_X2_glaze_0 5 rfl) (ms_aload_n F (am_dk (q := (10, .aload_n 0, 1)) dk_X2_glaze_0 6 rfl) rfl (ms_iload_n F (am_dk (q := (11, .iload_n 3, 1)) dk_X2_glaze_0 7 rfl) rfl (ms_putf F (ty := .int) (ty0 := tyX2) (C := RX2) (T := TX2) (N := 7) (j := 4) (fun w h => ts _ (inw_X2 w h)) rfl (by decide) tyX2_ok nmX2 (by decide +kernel) rfl (ts _ wd_119) (am_dk (q := (12, .putfield 25, 3)) dk_X2_glaze_0 8 rfl) (ms_aload_n F (am_dk (q := (15, .aload_n 0, 1)) dk_X2_glaze_0 9 rfl) rfl (ms_getf F (C := RX2) (T := TX2) (N := 7) (j := 5) (fun w h => ts _ (inw_X2 w h)) rfl (by decide) (ts _ wd_121) (am_dk (q := (16, .getfield 31, 3)) dk_X2_glaze_0 10 rfl) (ms_callV F hR (ci := 1) (r9 := (RX1, TX1, 2)) (y := yX1_clear) (maxL := 2) (rm' := rm_X1_clear) (na := 0) ct_X1_clear wd_769 wd_7 wd_766 wd_767 wd_768 rfl (by decide +kernel) (by decide) (am_dk (q := (19, .invokevirtual 49, 3)) dk_X2_glaze_0 11 rfl) (ms_noX F FQ hT) (ms_aload_n F (am_dk (q := (22, .aload_n 0, 1)) dk_X2_glaze_0 12 rfl) rfl (ms_getf F (C := RX2) (T := TX2) (N := 7) (j := 6) (fun w h => ts _ (inw_X2 w h)) rfl (by decide) (ts _ wd_123) (am_dk (q := (23, .getfield 38, 3)) dk_X2_glaze_0 13 rfl) (ms_callV F hR (ci := 6) (r9 := (RX6, TX6, 1)) (y := yX6_clear) (maxL := 2) (rm' := rm_X6_clear) (na := 0) ct_X6_clear wd_296 wd_5 wd_770 wd_294 wd_295 rfl (by decide +kernel) (by decide) (am_dk (q := (26, .invokevirtual 52, 3)) dk_X2_glaze_0 14 rfl) (ms_noX F FQ hT) (ms_vret F FQ rfl (am_dk (q := (29, .return_, 1)) dk_X2_glaze_0 15 rfl))))))))))))))))
theorem ct_X2_glaze (l : Launch) (htr : l.stackTraces = false) : am_Ct l yX2_glaze (am_ws yX2_glaze cX2_glaze 4 none) rm_X2_glaze sp_X2_glaze := am_of htr (by decide) wd_765 (fun X K F FQ hR hT hn hi as n E hS => f_X2_glaze K (am_G X) (sd_X2_glaze X K F FQ hR hT hn) as n E hS)
