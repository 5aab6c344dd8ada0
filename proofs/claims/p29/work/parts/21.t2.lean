/-! ===== the law's run: a call in any state, in any round ===== -/
abbrev lw_LG (i : Nat) (l6 l7 l8 : Option Value) : am_L := [some (.retAddr 0), some (.ref 0), some (.ref 214), some (.ref 335), some (.ref 336), some (.int (nI i)), l6, l7, l8]
def lw_T (σ : am_St) (E : am_E) : Prop := am_HS 0 E σ ∧ (∃ thr, am_MS 214 E σ thr) ∧ am_iw σ ∧ (∃ g, E 335 = some (.inl (1, 1, .inr (.inl g)))) ∧ ∃ g : Nat → UInt64, E 336 = some (.inl (4, 1, .inr (.inr (.inr (.inl g)))))
def lw_N (G : Nat → am_C) (i q : Nat) : Prop := ∀ (σ : am_St) (n : Nat) (E : am_E) (l6 l7 l8 : Option Value) (ca sl : Nat), 337 ≤ n → lw_T σ E → ca ≤ 337 + 1173 * (q + 1) → sl ≤ 63960 + 14119 * (q + 1) → G 1600 (lw_LG i l6 l7 l8) [] n E ca sl
theorem lw_mt {m : Nat} {E E' : am_E} {σ : am_St} {lm : Nat → Nat} {lk : Nat → Nat → Nat} {lf : Nat → Nat → Bool} {thr : Int32} (h : am_MT m E σ lm lk lf thr) (he : ∀ k, m ≤ k → k < m + 121 → E' k = E k) : am_MT m E' σ lm lk lf thr := ⟨h.1, h.2.1, fun k hk => (he _ (by omega) (by omega)).trans (h.2.2 k hk)⟩
theorem lw_m0 {m : Nat} {E : am_E} {σ : am_St} {lm : Nat → Nat} {lk : Nat → Nat → Nat} {lf : Nat → Nat → Bool} {thr : Int32} (h : am_MT m E σ lm lk lf thr) : ∃ fs, E m = some (.inr (8, fs)) := ⟨_, ms_0 h⟩
theorem lw_h0 {b : Nat} {E : am_E} {σ : am_St} (h : am_HS b E σ) : ∃ fs, E b = some (.inr (7, fs)) := by
  obtain ⟨τ, w, u, h⟩ := h
  exact ⟨_, hs_hall h⟩
theorem lw_hs {b : Nat} {E E' : am_E} {σ : am_St} (h : am_HS b E σ) (he : ∀ k, b ≤ k → k < b + 214 → E' k = E k) : am_HS b E' σ := by
  obtain ⟨τ, w, u, h1, h2, h3, h4⟩ := h
  exact ⟨τ, w, u, h1, h2, h3, fun k hk => by rw [he _ (by omega) (by omega)]; exact h4 k hk⟩
theorem lw_end {σ : am_St} {n : Nat} {E1 E2 : am_E} {thr : Int32} (hn : 337 ≤ n) (hH : am_HS 0 E1 σ) (hM : am_MS 214 E2 σ thr) (hk : am_km 214 n E1 E2) (hw : am_iw σ) (h335 : ∃ g, E1 335 = some (.inl (1, 1, .inr (.inl g)))) (h336 : ∃ g : Nat → UInt64, E1 336 = some (.inl (4, 1, .inr (.inr (.inr (.inl g)))))) : lw_T σ E2 := by
  obtain ⟨g, hg⟩ := h335
  obtain ⟨g2, hg2⟩ := h336
  exact ⟨lw_hs hH (fun k _ h2 => hk k (by omega) (by omega)), ⟨thr, hM⟩, hw, ⟨g, (hk 335 (by omega) (by omega)).trans hg⟩, ⟨g2, (hk 336 (by omega) (by omega)).trans hg2⟩⟩
theorem lw_ix : ∀ (L : List String) (C : String), C ∈ L → am_ix L C < L.length
  | a :: l, C, h => by
    unfold am_ix
    by_cases e : a = C
    · rw [if_pos e]; simp
    · rw [if_neg e]
      have := lw_ix l C ((List.mem_cons.mp h).resolve_left (fun q => e q.symm))
      simpa using this
theorem lw_thne {L : List String} {C : String} (h : C ∈ L) (hL : L.length < 100) : ¬ nI (am_th L (.inr C)) = 0 := by
  have h1 := lw_ix L C h
  exact nI_ne0 (show 0 < am_ix L C + 1 by omega) (show am_ix L C + 1 < _ by omega)
theorem lw_i2c (x : Int32) : ∃ q : Nat, q < 65536 ∧ (x.toUInt32 % 65536).toInt32 = nI q := by
  refine ⟨(x.toUInt32 % 65536).toNat, ?_, ?_⟩
  · rw [UInt32.toNat_mod]
    exact Nat.mod_lt _ (by decide)
  · apply Int32.toBitVec_inj.1
    apply BitVec.eq_of_toNat_eq
    show (x.toUInt32 % 65536).toNat = (BitVec.ofNat 32 (x.toUInt32 % 65536).toNat).toNat
    rw [BitVec.toNat_ofNat, Nat.mod_eq_of_lt (x.toUInt32 % 65536).toNat_lt]
theorem lw_nat (x : Int32) : ∃ a : Nat, a < 2 ^ 32 ∧ x = nI a := by
  refine ⟨x.toUInt32.toNat, x.toUInt32.toNat_lt, ?_⟩
  apply Int32.toBitVec_inj.1
  apply BitVec.eq_of_toNat_eq
  show x.toUInt32.toNat = (BitVec.ofNat 32 x.toUInt32.toNat).toNat
  rw [BitVec.toNat_ofNat, Nat.mod_eq_of_lt x.toUInt32.toNat_lt]
theorem lw_cmp (x : Int64) : lg_cmp x x = 0 := by
  unfold lg_cmp
  simp
theorem iw_pieceAt {σ : am_St} (h : am_iw σ) (x0 x1 : Int32) : am_iwr (q_pieceAt σ x0 x1) := by
  unfold q_pieceAt
  repeat' (first | refine am_iwr_f (fun _ => ?_) (fun _ => ?_) | exact am_iwr_i h | exact am_iwr_x h)
theorem iw_size {σ : am_St} (h : am_iw σ) (x0 : Int32) : am_iwr (q_size σ x0) := by
  unfold q_size am_pc
  repeat' (first | refine am_iwr_f (fun _ => ?_) (fun _ => ?_) | exact am_iwr_i h | exact am_iwr_x h)
theorem iw_corners {σ : am_St} (h : am_iw σ) (x0 : Int32) : am_iwr (q_corners σ x0) := by
  unfold q_corners am_pc
  repeat' (first | refine am_iwr_f (fun _ => ?_) (fun _ => ?_) | exact am_iwr_i h | exact am_iwr_x h)
theorem iw_point {σ : am_St} (h : am_iw σ) (x0 : Int32) : am_iwr (q_point σ x0) := by
  unfold q_point am_pc
  repeat' (first | refine am_iwr_f (fun _ => ?_) (fun _ => ?_) | exact am_iwr_i h | exact am_iwr_x h)
theorem iw_hinders {σ : am_St} (h : am_iw σ) (x0 : Int32) : am_iwr (q_hinders σ x0) := by
  unfold q_hinders am_pc
  repeat' (first | refine am_iwr_f (fun _ => ?_) (fun _ => ?_) | exact am_iwr_i h | exact am_iwr_x h)
theorem iw_free {σ : am_St} (h : am_iw σ) (x0 : Int32) : am_iwr (q_free σ x0) := by
  unfold q_free
  repeat' (first | refine am_iwr_f (fun _ => ?_) (fun _ => ?_) | exact am_iwr_i h | exact am_iwr_x h)
theorem iw_glass {σ : am_St} (h : am_iw σ) (x0 : Int32) : am_iwr (q_glass σ x0) := by
  unfold q_glass am_pc
  repeat' (first | refine am_iwr_f (fun _ => ?_) (fun _ => ?_) | exact am_iwr_i h | exact am_iwr_x h)
theorem iw_colour {σ : am_St} (h : am_iw σ) (x0 : Int32) : am_iwr (q_colour σ x0) := by
  unfold q_colour am_gl
  repeat' (first | refine am_iwr_f (fun _ => ?_) (fun _ => ?_) | exact am_iwr_i h | exact am_iwr_x h)
theorem iw_layers {σ : am_St} (h : am_iw σ) (x0 x1 : Int32) : am_iwr (q_layers σ x0 x1) := by
  unfold q_layers
  repeat' (first | refine am_iwr_f (fun _ => ?_) (fun _ => ?_) | exact am_iwr_i h | exact am_iwr_x h)
theorem iw_looks {σ : am_St} (h : am_iw σ) (x0 x1 x2 : Int32) : am_iwr (q_looks σ x0 x1 x2) := by
  unfold q_looks
  repeat' (first | refine am_iwr_f (fun _ => ?_) (fun _ => ?_) | exact am_iwr_i h | exact am_iwr_x h)
theorem iw_year {σ : am_St} (h : am_iw σ) (x0 : Int32) : am_iwr (q_year σ x0) := by
  unfold q_year am_gl
  repeat' (first | refine am_iwr_f (fun _ => ?_) (fun _ => ?_) | exact am_iwr_i h | exact am_iwr_x h)
theorem iw_fits {σ : am_St} (h : am_iw σ) (x0 : Int32) : am_iwr (q_fits σ x0) := by
  unfold q_fits am_gl
  repeat' (first | refine am_iwr_f (fun _ => ?_) (fun _ => ?_) | exact am_iwr_i h | exact am_iwr_x h)
theorem lw_fv_litShare (σ : am_St) : ∃ x, am_vl (.float FP.fconst0) (q_litShare σ).1 = .float x := by
  unfold q_litShare
  generalize am_on σ = z
  by_cases c : z = 0
  · rw [if_pos c]; exact ⟨_, rfl⟩
  · rw [if_neg c]; exact ⟨_, rfl⟩
theorem lw_fv_meanCells (σ : am_St) : ∃ x, am_vl (.double FP.dconst0) (q_meanCells σ).1 = .double x := by
  unfold q_meanCells
  generalize am_pcs σ = z
  by_cases c : z = 0
  · rw [if_pos c]; exact ⟨_, rfl⟩
  · rw [if_neg c]; exact ⟨_, rfl⟩

set_option maxRecDepth 100000 in
set_option maxHeartbeats 4000000 in
theorem cs_wind {L : Nat} {xs : Nat → Int32} {G : Nat → am_C} {i q : Nat} (hi : i + 6 ≤ L) (hL : L ≤ 3072) (hq5 : q < 512) (h1188 : am_imp (bk_L_law_1188 L xs G) (G 1188)) (hN : lw_N G i q) {σ : am_St} {n : Nat} {E : am_E} {l6 l7 l8 : Option Value} {ca sl : Nat} (hn : 337 ≤ n) (hT : lw_T σ E) (hca : ca ≤ 337 + 1173 * q) (hsl : sl ≤ 63960 + 14119 * q) : G 1188 (lw_LG i l6 l7 l8) [] n E ca sl := by
  obtain ⟨hHS, ⟨thr, lm, lk, lf, hM⟩, hw, ⟨g, hg⟩, g2, hg2⟩ := hT
  have v0 : vp_in (nI (i)) L = True := am_vi (show i < L by omega) (by omega)
  have c0 : (nI (i)).toNatClampNeg = i := am_cl (by omega)
  have v1 : vp_in (nI (i + 1)) L = True := am_vi (show i + 1 < L by omega) (by omega)
  have c1 : (nI (i + 1)).toNatClampNeg = i + 1 := am_cl (by omega)
  have a1 : nI i + 1 = nI (i + 1) := nI_add i 1
  have v2 : vp_in (nI (i + 2)) L = True := am_vi (show i + 2 < L by omega) (by omega)
  have c2 : (nI (i + 2)).toNatClampNeg = i + 2 := am_cl (by omega)
  have a2 : nI i + 2 = nI (i + 2) := nI_add i 2
  have v3 : vp_in (nI (i + 3)) L = True := am_vi (show i + 3 < L by omega) (by omega)
  have c3 : (nI (i + 3)).toNatClampNeg = i + 3 := am_cl (by omega)
  have a3 : nI i + 3 = nI (i + 3) := nI_add i 3
  have v4 : vp_in (nI (i + 4)) L = True := am_vi (show i + 4 < L by omega) (by omega)
  have c4 : (nI (i + 4)).toNatClampNeg = i + 4 := am_cl (by omega)
  have a4 : nI i + 4 = nI (i + 4) := nI_add i 4
  have v5 : vp_in (nI (i + 5)) L = True := am_vi (show i + 5 < L by omega) (by omega)
  have c5 : (nI (i + 5)).toNatClampNeg = i + 5 := am_cl (by omega)
  have a5 : nI i + 5 = nI (i + 5) := nI_add i 5
  have w00 : Int32.toNatClampNeg 0 = 0 := rfl
  have z0 : nI 0 = 0 := rfl
  have w01 : vp_in 0 1 := vp_in_nI (n := 0) (by decide) (by decide)
  obtain ⟨fs0, e0⟩ := lw_h0 hHS
  apply h1188
  unfold bk_L_law_1188
  simp only [o_pi, o_pl, o_pf, o_pd, o_iload, o_lload, o_fload, o_dload, o_aload, o_istore, o_lstore, o_fstore, o_dstore, o_astore, o_iinc, o_ib, o_ibz, o_lb, o_lbz, o_lsh, o_lcmp, o_ineg, o_i2l, o_l2i, o_i2c, o_i2f, o_i2d, o_f2d, o_fdiv, o_ddiv, o_fcmp, o_dcmp, o_dup, o_dup2, o_pop, o_pop2, o_if_eq, o_if_ne, o_if_lt, o_if_ge, o_if_gt, o_if_le, o_ic_eq, o_ic_ne, o_ic_lt, o_ic_ge, o_ic_gt, o_ic_le, o_if, o_ic, o_getf, o_putf, o_ild, o_ist, o_lld, o_lst, o_dld, o_dst, o_ald, o_alen, o_new, o_newa, o_ast, o_oinit, o_iret, o_lret, o_fret, o_dret, o_aret, o_vret, o_throw, o_call, o_callV, am_kc, am_noX, o_im, o_ia, o_gets, o_ldcK, o_getK, o_codK, o_lenK, o_bldK, o_i2b, o_callK, o_mna, o_clone, o_castA, am_s1, am_s2, am_kill, am_inl, am_sl, Value.category, List.getElem?_cons_zero, List.getElem?_cons_succ, List.set_cons_zero, List.set_cons_succ, List.length_cons, List.length_nil, List.take_succ_cons, List.take_zero, List.drop_succ_cons, List.drop_zero, List.reverse_cons, List.reverse_nil, List.nil_append, List.cons_append, List.append_nil, List.map_cons, List.map_nil, List.sum_cons, List.sum_nil, List.replicate_succ, List.replicate_zero, Nat.zero_add, Nat.add_zero, Nat.le_refl, Nat.zero_le, ite_true, ite_false, if_true, if_false, true_and, and_true, eq_self, not_true_eq_false, not_false_eq_true, am_nb0, am_nb1, am_ni, am_fi, am_fr, am_fra, am_fz0, am_fz1, am_fl, am_uE, am_vnI, am_uu, am_ltx, ite_not, Classical.not_not, reduceIte, reduceCtorEq, Nat.reduceEqDiff, Nat.reduceAdd, Nat.reduceSub, Nat.reduceMul, Nat.reduceLeDiff, Nat.reduceLT, Int32.reduceLE, Int32.reduceLT, am_10, am_01, am_ite0, am_ite1, ms_boT, ms_boF, rmc_L_law, rms_L_law, lw_LG, o_slen, o_sld, o_tsw, o_lend, rmc_L_wind, rms_L_wind, rmc_X8_thrown, rms_X8_thrown, rmc_X8_wind, rms_X8_wind, v0, v1, v2, v3, v4, v5, c0, c1, c2, c3, c4, c5, a1, a2, a3, a4, a5, w00, z0, w01, e0]
  refine ⟨by omega, 0, σ, (xs (i + 1)), 335, g, rfl, hHS, Or.inr (by decide), hg, fun E1 g1 hH1 hk1 hout hval => ?_⟩
  have hM1 : am_MT 214 E1 σ lm lk lf thr := lw_mt hM (fun j h1 h2 => hk1 j (Or.inr (by omega)) (by omega))
  have h36 := (hk1 336 (Or.inr (by decide)) (by decide)).trans hg2
  obtain ⟨fs1, e1⟩ := lw_m0 hM1
  show am_kc _ _ _ _ _ _ (.inl (some (.int (nI (am_th L_A (q_wind σ (xs (i + 1))).1))))) n E1
  simp only [o_pi, o_pl, o_pf, o_pd, o_iload, o_lload, o_fload, o_dload, o_aload, o_istore, o_lstore, o_fstore, o_dstore, o_astore, o_iinc, o_ib, o_ibz, o_lb, o_lbz, o_lsh, o_lcmp, o_ineg, o_i2l, o_l2i, o_i2c, o_i2f, o_i2d, o_f2d, o_fdiv, o_ddiv, o_fcmp, o_dcmp, o_dup, o_dup2, o_pop, o_pop2, o_if_eq, o_if_ne, o_if_lt, o_if_ge, o_if_gt, o_if_le, o_ic_eq, o_ic_ne, o_ic_lt, o_ic_ge, o_ic_gt, o_ic_le, o_if, o_ic, o_getf, o_putf, o_ild, o_ist, o_lld, o_lst, o_dld, o_dst, o_ald, o_alen, o_new, o_newa, o_ast, o_oinit, o_iret, o_lret, o_fret, o_dret, o_aret, o_vret, o_throw, o_call, o_callV, am_kc, am_noX, o_im, o_ia, o_gets, o_ldcK, o_getK, o_codK, o_lenK, o_bldK, o_i2b, o_callK, o_mna, o_clone, o_castA, am_s1, am_s2, am_kill, am_inl, am_sl, Value.category, List.getElem?_cons_zero, List.getElem?_cons_succ, List.set_cons_zero, List.set_cons_succ, List.length_cons, List.length_nil, List.take_succ_cons, List.take_zero, List.drop_succ_cons, List.drop_zero, List.reverse_cons, List.reverse_nil, List.nil_append, List.cons_append, List.append_nil, List.map_cons, List.map_nil, List.sum_cons, List.sum_nil, List.replicate_succ, List.replicate_zero, Nat.zero_add, Nat.add_zero, Nat.le_refl, Nat.zero_le, ite_true, ite_false, if_true, if_false, true_and, and_true, eq_self, not_true_eq_false, not_false_eq_true, am_nb0, am_nb1, am_ni, am_fi, am_fr, am_fra, am_fz0, am_fz1, am_fl, am_uE, am_vnI, am_uu, am_ltx, ite_not, Classical.not_not, reduceIte, reduceCtorEq, Nat.reduceEqDiff, Nat.reduceAdd, Nat.reduceSub, Nat.reduceMul, Nat.reduceLeDiff, Nat.reduceLT, Int32.reduceLE, Int32.reduceLT, am_10, am_01, am_ite0, am_ite1, ms_boT, ms_boF, rmc_L_law, rms_L_law, lw_LG, o_slen, o_sld, o_tsw, o_lend, rmc_L_wind, rms_L_wind, rmc_X8_thrown, rms_X8_thrown, rmc_X8_wind, rms_X8_wind, v0, v1, v2, v3, v4, v5, c0, c1, c2, c3, c4, c5, a1, a2, a3, a4, a5, w00, z0, w01, e0, e1]
  refine ⟨by omega, 214, σ, lm, lk, lf, thr, (xs (i + 1)), rfl, by omega, hM1, fun n2 E2 hn2 hM2 hk2 => ?_⟩
  have hok := ok_wind σ (xs (i + 1))
  have hiw := iw_wind hw (xs (i + 1))
  have hM2 : am_MS 214 E2 (q_wind σ (xs (i + 1))).2 (nI (am_th L_A (q_wind σ (xs (i + 1))).1)) := hM2
  have hT2 := lw_end hn hH1 hM2 hk2 hiw ⟨_, hout⟩ ⟨_, h36⟩
  show am_kc _ _ _ _ _ _ (.inl (some (am_vl (.int 0) (q_wind σ (xs (i + 1))).1))) n2 E2
  have e335 : E2 335 = some (.inl (1, 1, .inr (.inl g1))) := (hk2 335 (by omega) (Or.inr (by decide))).trans hout
  have hval : ∀ v, (q_wind σ (xs (i + 1))).1 = .inl (some (.int v)) → g1 0 = v.toInt64 := hval
  generalize (q_wind σ (xs (i + 1))) = rr at hok hT2 hM2 hval ⊢
  obtain ⟨lm2, lk2, lf2, hM3⟩ := hM2
  obtain ⟨fs2, e2⟩ := lw_m0 hM3
  rcases hok with ⟨v, σ2, hv, rfl⟩ | ⟨C, σ2, hC9, rfl⟩
  · have hv9 := hval v rfl
    show am_kc _ _ _ _ _ _ (.inl (some (.int v))) n2 E2
    simp only [o_pi, o_pl, o_pf, o_pd, o_iload, o_lload, o_fload, o_dload, o_aload, o_istore, o_lstore, o_fstore, o_dstore, o_astore, o_iinc, o_ib, o_ibz, o_lb, o_lbz, o_lsh, o_lcmp, o_ineg, o_i2l, o_l2i, o_i2c, o_i2f, o_i2d, o_f2d, o_fdiv, o_ddiv, o_fcmp, o_dcmp, o_dup, o_dup2, o_pop, o_pop2, o_if_eq, o_if_ne, o_if_lt, o_if_ge, o_if_gt, o_if_le, o_ic_eq, o_ic_ne, o_ic_lt, o_ic_ge, o_ic_gt, o_ic_le, o_if, o_ic, o_getf, o_putf, o_ild, o_ist, o_lld, o_lst, o_dld, o_dst, o_ald, o_alen, o_new, o_newa, o_ast, o_oinit, o_iret, o_lret, o_fret, o_dret, o_aret, o_vret, o_throw, o_call, o_callV, am_kc, am_noX, o_im, o_ia, o_gets, o_ldcK, o_getK, o_codK, o_lenK, o_bldK, o_i2b, o_callK, o_mna, o_clone, o_castA, am_s1, am_s2, am_kill, am_inl, am_sl, Value.category, List.getElem?_cons_zero, List.getElem?_cons_succ, List.set_cons_zero, List.set_cons_succ, List.length_cons, List.length_nil, List.take_succ_cons, List.take_zero, List.drop_succ_cons, List.drop_zero, List.reverse_cons, List.reverse_nil, List.nil_append, List.cons_append, List.append_nil, List.map_cons, List.map_nil, List.sum_cons, List.sum_nil, List.replicate_succ, List.replicate_zero, Nat.zero_add, Nat.add_zero, Nat.le_refl, Nat.zero_le, ite_true, ite_false, if_true, if_false, true_and, and_true, eq_self, not_true_eq_false, not_false_eq_true, am_nb0, am_nb1, am_ni, am_fi, am_fr, am_fra, am_fz0, am_fz1, am_fl, am_uE, am_vnI, am_uu, am_ltx, ite_not, Classical.not_not, reduceIte, reduceCtorEq, Nat.reduceEqDiff, Nat.reduceAdd, Nat.reduceSub, Nat.reduceMul, Nat.reduceLeDiff, Nat.reduceLT, Int32.reduceLE, Int32.reduceLT, am_10, am_01, am_ite0, am_ite1, ms_boT, ms_boF, rmc_L_law, rms_L_law, lw_LG, o_slen, o_sld, o_tsw, o_lend, rmc_L_wind, rms_L_wind, rmc_X8_thrown, rms_X8_thrown, rmc_X8_wind, rms_X8_wind, v0, v1, v2, v3, v4, v5, c0, c1, c2, c3, c4, c5, a1, a2, a3, a4, a5, w00, z0, w01, e0, e2]
    refine ⟨by omega, 214, σ2, lm2, lk2, lf2, 0, rfl, by omega, hM3, ?_⟩
    show am_kc _ _ _ _ _ _ (.inl (some (.int 0))) n2 E2
    simp only [o_pi, o_pl, o_pf, o_pd, o_iload, o_lload, o_fload, o_dload, o_aload, o_istore, o_lstore, o_fstore, o_dstore, o_astore, o_iinc, o_ib, o_ibz, o_lb, o_lbz, o_lsh, o_lcmp, o_ineg, o_i2l, o_l2i, o_i2c, o_i2f, o_i2d, o_f2d, o_fdiv, o_ddiv, o_fcmp, o_dcmp, o_dup, o_dup2, o_pop, o_pop2, o_if_eq, o_if_ne, o_if_lt, o_if_ge, o_if_gt, o_if_le, o_ic_eq, o_ic_ne, o_ic_lt, o_ic_ge, o_ic_gt, o_ic_le, o_if, o_ic, o_getf, o_putf, o_ild, o_ist, o_lld, o_lst, o_dld, o_dst, o_ald, o_alen, o_new, o_newa, o_ast, o_oinit, o_iret, o_lret, o_fret, o_dret, o_aret, o_vret, o_throw, o_call, o_callV, am_kc, am_noX, o_im, o_ia, o_gets, o_ldcK, o_getK, o_codK, o_lenK, o_bldK, o_i2b, o_callK, o_mna, o_clone, o_castA, am_s1, am_s2, am_kill, am_inl, am_sl, Value.category, List.getElem?_cons_zero, List.getElem?_cons_succ, List.set_cons_zero, List.set_cons_succ, List.length_cons, List.length_nil, List.take_succ_cons, List.take_zero, List.drop_succ_cons, List.drop_zero, List.reverse_cons, List.reverse_nil, List.nil_append, List.cons_append, List.append_nil, List.map_cons, List.map_nil, List.sum_cons, List.sum_nil, List.replicate_succ, List.replicate_zero, Nat.zero_add, Nat.add_zero, Nat.le_refl, Nat.zero_le, ite_true, ite_false, if_true, if_false, true_and, and_true, eq_self, not_true_eq_false, not_false_eq_true, am_nb0, am_nb1, am_ni, am_fi, am_fr, am_fra, am_fz0, am_fz1, am_fl, am_uE, am_vnI, am_uu, am_ltx, ite_not, Classical.not_not, reduceIte, reduceCtorEq, Nat.reduceEqDiff, Nat.reduceAdd, Nat.reduceSub, Nat.reduceMul, Nat.reduceLeDiff, Nat.reduceLT, Int32.reduceLE, Int32.reduceLT, am_10, am_01, am_ite0, am_ite1, ms_boT, ms_boF, rmc_L_law, rms_L_law, lw_LG, o_slen, o_sld, o_tsw, o_lend, rmc_L_wind, rms_L_wind, rmc_X8_thrown, rms_X8_thrown, rmc_X8_wind, rms_X8_wind, v0, v1, v2, v3, v4, v5, c0, c1, c2, c3, c4, c5, a1, a2, a3, a4, a5, w00, z0, w01, e0, e335, hv9, lw_cmp, am_th, r_i, z0]
    exact hN _ _ _ _ _ _ _ _ (by omega) hT2 (by omega) (by omega)
  · have hne := lw_thne hC9 (by decide)
    have hM3 : am_MT 214 E2 σ2 lm2 lk2 lf2 (nI (am_th L_A (.inr C))) := hM3
    show am_kc _ _ _ _ _ _ (.inl (some (.int 0))) n2 E2
    have hth : am_th L_A (r_x C σ2).1 = am_th L_A (.inr C) := rfl
    rw [hth]
    generalize am_th L_A (.inr C) = tt at hne hM3 ⊢
    simp only [o_pi, o_pl, o_pf, o_pd, o_iload, o_lload, o_fload, o_dload, o_aload, o_istore, o_lstore, o_fstore, o_dstore, o_astore, o_iinc, o_ib, o_ibz, o_lb, o_lbz, o_lsh, o_lcmp, o_ineg, o_i2l, o_l2i, o_i2c, o_i2f, o_i2d, o_f2d, o_fdiv, o_ddiv, o_fcmp, o_dcmp, o_dup, o_dup2, o_pop, o_pop2, o_if_eq, o_if_ne, o_if_lt, o_if_ge, o_if_gt, o_if_le, o_ic_eq, o_ic_ne, o_ic_lt, o_ic_ge, o_ic_gt, o_ic_le, o_if, o_ic, o_getf, o_putf, o_ild, o_ist, o_lld, o_lst, o_dld, o_dst, o_ald, o_alen, o_new, o_newa, o_ast, o_oinit, o_iret, o_lret, o_fret, o_dret, o_aret, o_vret, o_throw, o_call, o_callV, am_kc, am_noX, o_im, o_ia, o_gets, o_ldcK, o_getK, o_codK, o_lenK, o_bldK, o_i2b, o_callK, o_mna, o_clone, o_castA, am_s1, am_s2, am_kill, am_inl, am_sl, Value.category, List.getElem?_cons_zero, List.getElem?_cons_succ, List.set_cons_zero, List.set_cons_succ, List.length_cons, List.length_nil, List.take_succ_cons, List.take_zero, List.drop_succ_cons, List.drop_zero, List.reverse_cons, List.reverse_nil, List.nil_append, List.cons_append, List.append_nil, List.map_cons, List.map_nil, List.sum_cons, List.sum_nil, List.replicate_succ, List.replicate_zero, Nat.zero_add, Nat.add_zero, Nat.le_refl, Nat.zero_le, ite_true, ite_false, if_true, if_false, true_and, and_true, eq_self, not_true_eq_false, not_false_eq_true, am_nb0, am_nb1, am_ni, am_fi, am_fr, am_fra, am_fz0, am_fz1, am_fl, am_uE, am_vnI, am_uu, am_ltx, ite_not, Classical.not_not, reduceIte, reduceCtorEq, Nat.reduceEqDiff, Nat.reduceAdd, Nat.reduceSub, Nat.reduceMul, Nat.reduceLeDiff, Nat.reduceLT, Int32.reduceLE, Int32.reduceLT, am_10, am_01, am_ite0, am_ite1, ms_boT, ms_boF, rmc_L_law, rms_L_law, lw_LG, o_slen, o_sld, o_tsw, o_lend, rmc_L_wind, rms_L_wind, rmc_X8_thrown, rms_X8_thrown, rmc_X8_wind, rms_X8_wind, v0, v1, v2, v3, v4, v5, c0, c1, c2, c3, c4, c5, a1, a2, a3, a4, a5, w00, z0, w01, e0, e2]
    refine ⟨by omega, 214, σ2, lm2, lk2, lf2, nI tt, rfl, by omega, hM3, ?_⟩
    show am_kc _ _ _ _ _ _ (.inl (some (.int (nI tt)))) n2 E2
    simp only [o_pi, o_pl, o_pf, o_pd, o_iload, o_lload, o_fload, o_dload, o_aload, o_istore, o_lstore, o_fstore, o_dstore, o_astore, o_iinc, o_ib, o_ibz, o_lb, o_lbz, o_lsh, o_lcmp, o_ineg, o_i2l, o_l2i, o_i2c, o_i2f, o_i2d, o_f2d, o_fdiv, o_ddiv, o_fcmp, o_dcmp, o_dup, o_dup2, o_pop, o_pop2, o_if_eq, o_if_ne, o_if_lt, o_if_ge, o_if_gt, o_if_le, o_ic_eq, o_ic_ne, o_ic_lt, o_ic_ge, o_ic_gt, o_ic_le, o_if, o_ic, o_getf, o_putf, o_ild, o_ist, o_lld, o_lst, o_dld, o_dst, o_ald, o_alen, o_new, o_newa, o_ast, o_oinit, o_iret, o_lret, o_fret, o_dret, o_aret, o_vret, o_throw, o_call, o_callV, am_kc, am_noX, o_im, o_ia, o_gets, o_ldcK, o_getK, o_codK, o_lenK, o_bldK, o_i2b, o_callK, o_mna, o_clone, o_castA, am_s1, am_s2, am_kill, am_inl, am_sl, Value.category, List.getElem?_cons_zero, List.getElem?_cons_succ, List.set_cons_zero, List.set_cons_succ, List.length_cons, List.length_nil, List.take_succ_cons, List.take_zero, List.drop_succ_cons, List.drop_zero, List.reverse_cons, List.reverse_nil, List.nil_append, List.cons_append, List.append_nil, List.map_cons, List.map_nil, List.sum_cons, List.sum_nil, List.replicate_succ, List.replicate_zero, Nat.zero_add, Nat.add_zero, Nat.le_refl, Nat.zero_le, ite_true, ite_false, if_true, if_false, true_and, and_true, eq_self, not_true_eq_false, not_false_eq_true, am_nb0, am_nb1, am_ni, am_fi, am_fr, am_fra, am_fz0, am_fz1, am_fl, am_uE, am_vnI, am_uu, am_ltx, ite_not, Classical.not_not, reduceIte, reduceCtorEq, Nat.reduceEqDiff, Nat.reduceAdd, Nat.reduceSub, Nat.reduceMul, Nat.reduceLeDiff, Nat.reduceLT, Int32.reduceLE, Int32.reduceLT, am_10, am_01, am_ite0, am_ite1, ms_boT, ms_boF, rmc_L_law, rms_L_law, lw_LG, o_slen, o_sld, o_tsw, o_lend, rmc_L_wind, rms_L_wind, rmc_X8_thrown, rms_X8_thrown, rmc_X8_wind, rms_X8_wind, v0, v1, v2, v3, v4, v5, c0, c1, c2, c3, c4, c5, a1, a2, a3, a4, a5, w00, z0, w01, e0, e335, hne]
    exact hN _ _ _ _ _ _ _ _ (by omega) hT2 (by omega) (by omega)

set_option maxRecDepth 100000 in
set_option maxHeartbeats 4000000 in
theorem cs_lead {L : Nat} {xs : Nat → Int32} {G : Nat → am_C} {i q : Nat} (hi : i + 6 ≤ L) (hL : L ≤ 3072) (hq5 : q < 512) (h580 : am_imp (bk_L_law_580 L xs G) (G 580)) (hN : lw_N G i q) {σ : am_St} {n : Nat} {E : am_E} {l6 l7 l8 : Option Value} {ca sl : Nat} (hn : 337 ≤ n) (hT : lw_T σ E) (hca : ca ≤ 337 + 1173 * q) (hsl : sl ≤ 63960 + 14119 * q) : G 580 (lw_LG i l6 l7 l8) [] n E ca sl := by
  obtain ⟨hHS, ⟨thr, lm, lk, lf, hM⟩, hw, ⟨g, hg⟩, g2, hg2⟩ := hT
  have v0 : vp_in (nI (i)) L = True := am_vi (show i < L by omega) (by omega)
  have c0 : (nI (i)).toNatClampNeg = i := am_cl (by omega)
  have v1 : vp_in (nI (i + 1)) L = True := am_vi (show i + 1 < L by omega) (by omega)
  have c1 : (nI (i + 1)).toNatClampNeg = i + 1 := am_cl (by omega)
  have a1 : nI i + 1 = nI (i + 1) := nI_add i 1
  have v2 : vp_in (nI (i + 2)) L = True := am_vi (show i + 2 < L by omega) (by omega)
  have c2 : (nI (i + 2)).toNatClampNeg = i + 2 := am_cl (by omega)
  have a2 : nI i + 2 = nI (i + 2) := nI_add i 2
  have v3 : vp_in (nI (i + 3)) L = True := am_vi (show i + 3 < L by omega) (by omega)
  have c3 : (nI (i + 3)).toNatClampNeg = i + 3 := am_cl (by omega)
  have a3 : nI i + 3 = nI (i + 3) := nI_add i 3
  have v4 : vp_in (nI (i + 4)) L = True := am_vi (show i + 4 < L by omega) (by omega)
  have c4 : (nI (i + 4)).toNatClampNeg = i + 4 := am_cl (by omega)
  have a4 : nI i + 4 = nI (i + 4) := nI_add i 4
  have v5 : vp_in (nI (i + 5)) L = True := am_vi (show i + 5 < L by omega) (by omega)
  have c5 : (nI (i + 5)).toNatClampNeg = i + 5 := am_cl (by omega)
  have a5 : nI i + 5 = nI (i + 5) := nI_add i 5
  have w00 : Int32.toNatClampNeg 0 = 0 := rfl
  have z0 : nI 0 = 0 := rfl
  have w01 : vp_in 0 1 := vp_in_nI (n := 0) (by decide) (by decide)
  obtain ⟨fs0, e0⟩ := lw_h0 hHS
  apply h580
  unfold bk_L_law_580
  simp only [o_pi, o_pl, o_pf, o_pd, o_iload, o_lload, o_fload, o_dload, o_aload, o_istore, o_lstore, o_fstore, o_dstore, o_astore, o_iinc, o_ib, o_ibz, o_lb, o_lbz, o_lsh, o_lcmp, o_ineg, o_i2l, o_l2i, o_i2c, o_i2f, o_i2d, o_f2d, o_fdiv, o_ddiv, o_fcmp, o_dcmp, o_dup, o_dup2, o_pop, o_pop2, o_if_eq, o_if_ne, o_if_lt, o_if_ge, o_if_gt, o_if_le, o_ic_eq, o_ic_ne, o_ic_lt, o_ic_ge, o_ic_gt, o_ic_le, o_if, o_ic, o_getf, o_putf, o_ild, o_ist, o_lld, o_lst, o_dld, o_dst, o_ald, o_alen, o_new, o_newa, o_ast, o_oinit, o_iret, o_lret, o_fret, o_dret, o_aret, o_vret, o_throw, o_call, o_callV, am_kc, am_noX, o_im, o_ia, o_gets, o_ldcK, o_getK, o_codK, o_lenK, o_bldK, o_i2b, o_callK, o_mna, o_clone, o_castA, am_s1, am_s2, am_kill, am_inl, am_sl, Value.category, List.getElem?_cons_zero, List.getElem?_cons_succ, List.set_cons_zero, List.set_cons_succ, List.length_cons, List.length_nil, List.take_succ_cons, List.take_zero, List.drop_succ_cons, List.drop_zero, List.reverse_cons, List.reverse_nil, List.nil_append, List.cons_append, List.append_nil, List.map_cons, List.map_nil, List.sum_cons, List.sum_nil, List.replicate_succ, List.replicate_zero, Nat.zero_add, Nat.add_zero, Nat.le_refl, Nat.zero_le, ite_true, ite_false, if_true, if_false, true_and, and_true, eq_self, not_true_eq_false, not_false_eq_true, am_nb0, am_nb1, am_ni, am_fi, am_fr, am_fra, am_fz0, am_fz1, am_fl, am_uE, am_vnI, am_uu, am_ltx, ite_not, Classical.not_not, reduceIte, reduceCtorEq, Nat.reduceEqDiff, Nat.reduceAdd, Nat.reduceSub, Nat.reduceMul, Nat.reduceLeDiff, Nat.reduceLT, Int32.reduceLE, Int32.reduceLT, am_10, am_01, am_ite0, am_ite1, ms_boT, ms_boF, rmc_L_law, rms_L_law, lw_LG, o_slen, o_sld, o_tsw, o_lend, rmc_X7_lead, rms_X7_lead, rmc_X8_lead, rms_X8_lead, v0, v1, v2, v3, v4, v5, c0, c1, c2, c3, c4, c5, a1, a2, a3, a4, a5, w00, z0, w01, e0]
  refine ⟨by omega, 0, σ, rfl, hHS, fun E1 hH1 hk1 => ?_⟩
  have hM1 : am_MT 214 E1 σ lm lk lf thr := lw_mt hM (fun j h1 h2 => hk1 j (Or.inr (by omega)))
  have h35 := (hk1 335 (Or.inr (by decide))).trans hg
  have h36 := (hk1 336 (Or.inr (by decide))).trans hg2
  obtain ⟨fs1, e1⟩ := lw_m0 hM1
  obtain ⟨v, hv⟩ : ∃ v, (q_lead σ) = r_i v σ := ⟨_, rfl⟩
  rw [hv] at hH1
  have hH1 : am_HS 0 E1 σ := hH1
  show am_kc _ _ _ _ _ _ (q_lead σ).1 n E1
  rw [hv]
  show am_kc _ _ _ _ _ _ (.inl (some (.int v))) n E1
  simp only [o_pi, o_pl, o_pf, o_pd, o_iload, o_lload, o_fload, o_dload, o_aload, o_istore, o_lstore, o_fstore, o_dstore, o_astore, o_iinc, o_ib, o_ibz, o_lb, o_lbz, o_lsh, o_lcmp, o_ineg, o_i2l, o_l2i, o_i2c, o_i2f, o_i2d, o_f2d, o_fdiv, o_ddiv, o_fcmp, o_dcmp, o_dup, o_dup2, o_pop, o_pop2, o_if_eq, o_if_ne, o_if_lt, o_if_ge, o_if_gt, o_if_le, o_ic_eq, o_ic_ne, o_ic_lt, o_ic_ge, o_ic_gt, o_ic_le, o_if, o_ic, o_getf, o_putf, o_ild, o_ist, o_lld, o_lst, o_dld, o_dst, o_ald, o_alen, o_new, o_newa, o_ast, o_oinit, o_iret, o_lret, o_fret, o_dret, o_aret, o_vret, o_throw, o_call, o_callV, am_kc, am_noX, o_im, o_ia, o_gets, o_ldcK, o_getK, o_codK, o_lenK, o_bldK, o_i2b, o_callK, o_mna, o_clone, o_castA, am_s1, am_s2, am_kill, am_inl, am_sl, Value.category, List.getElem?_cons_zero, List.getElem?_cons_succ, List.set_cons_zero, List.set_cons_succ, List.length_cons, List.length_nil, List.take_succ_cons, List.take_zero, List.drop_succ_cons, List.drop_zero, List.reverse_cons, List.reverse_nil, List.nil_append, List.cons_append, List.append_nil, List.map_cons, List.map_nil, List.sum_cons, List.sum_nil, List.replicate_succ, List.replicate_zero, Nat.zero_add, Nat.add_zero, Nat.le_refl, Nat.zero_le, ite_true, ite_false, if_true, if_false, true_and, and_true, eq_self, not_true_eq_false, not_false_eq_true, am_nb0, am_nb1, am_ni, am_fi, am_fr, am_fra, am_fz0, am_fz1, am_fl, am_uE, am_vnI, am_uu, am_ltx, ite_not, Classical.not_not, reduceIte, reduceCtorEq, Nat.reduceEqDiff, Nat.reduceAdd, Nat.reduceSub, Nat.reduceMul, Nat.reduceLeDiff, Nat.reduceLT, Int32.reduceLE, Int32.reduceLT, am_10, am_01, am_ite0, am_ite1, ms_boT, ms_boF, rmc_L_law, rms_L_law, lw_LG, o_slen, o_sld, o_tsw, o_lend, rmc_X7_lead, rms_X7_lead, rmc_X8_lead, rms_X8_lead, v0, v1, v2, v3, v4, v5, c0, c1, c2, c3, c4, c5, a1, a2, a3, a4, a5, w00, z0, w01, e0, e1]
  refine ⟨by omega, 214, σ, lm, lk, lf, thr, rfl, by omega, hM1, fun n2 E2 hn2 hM2 hk2 => ?_⟩
  rw [hv] at hM2
  have hT2 := lw_end (σ := σ) hn hH1 hM2 hk2 hw ⟨_, h35⟩ ⟨_, h36⟩
  show am_kc _ _ _ _ _ _ (.inl (some (am_vl (.int 0) (q_lead σ).1))) n2 E2
  rw [hv]
  show am_kc _ _ _ _ _ _ (.inl (some (.int v))) n2 E2
  simp only [o_pi, o_pl, o_pf, o_pd, o_iload, o_lload, o_fload, o_dload, o_aload, o_istore, o_lstore, o_fstore, o_dstore, o_astore, o_iinc, o_ib, o_ibz, o_lb, o_lbz, o_lsh, o_lcmp, o_ineg, o_i2l, o_l2i, o_i2c, o_i2f, o_i2d, o_f2d, o_fdiv, o_ddiv, o_fcmp, o_dcmp, o_dup, o_dup2, o_pop, o_pop2, o_if_eq, o_if_ne, o_if_lt, o_if_ge, o_if_gt, o_if_le, o_ic_eq, o_ic_ne, o_ic_lt, o_ic_ge, o_ic_gt, o_ic_le, o_if, o_ic, o_getf, o_putf, o_ild, o_ist, o_lld, o_lst, o_dld, o_dst, o_ald, o_alen, o_new, o_newa, o_ast, o_oinit, o_iret, o_lret, o_fret, o_dret, o_aret, o_vret, o_throw, o_call, o_callV, am_kc, am_noX, o_im, o_ia, o_gets, o_ldcK, o_getK, o_codK, o_lenK, o_bldK, o_i2b, o_callK, o_mna, o_clone, o_castA, am_s1, am_s2, am_kill, am_inl, am_sl, Value.category, List.getElem?_cons_zero, List.getElem?_cons_succ, List.set_cons_zero, List.set_cons_succ, List.length_cons, List.length_nil, List.take_succ_cons, List.take_zero, List.drop_succ_cons, List.drop_zero, List.reverse_cons, List.reverse_nil, List.nil_append, List.cons_append, List.append_nil, List.map_cons, List.map_nil, List.sum_cons, List.sum_nil, List.replicate_succ, List.replicate_zero, Nat.zero_add, Nat.add_zero, Nat.le_refl, Nat.zero_le, ite_true, ite_false, if_true, if_false, true_and, and_true, eq_self, not_true_eq_false, not_false_eq_true, am_nb0, am_nb1, am_ni, am_fi, am_fr, am_fra, am_fz0, am_fz1, am_fl, am_uE, am_vnI, am_uu, am_ltx, ite_not, Classical.not_not, reduceIte, reduceCtorEq, Nat.reduceEqDiff, Nat.reduceAdd, Nat.reduceSub, Nat.reduceMul, Nat.reduceLeDiff, Nat.reduceLT, Int32.reduceLE, Int32.reduceLT, am_10, am_01, am_ite0, am_ite1, ms_boT, ms_boF, rmc_L_law, rms_L_law, lw_LG, o_slen, o_sld, o_tsw, o_lend, rmc_X7_lead, rms_X7_lead, rmc_X8_lead, rms_X8_lead, v0, v1, v2, v3, v4, v5, c0, c1, c2, c3, c4, c5, a1, a2, a3, a4, a5, w00, z0, w01, e0]
  exact hN _ _ _ _ _ _ _ _ (by omega) hT2 (by omega) (by omega)

set_option maxRecDepth 100000 in
set_option maxHeartbeats 4000000 in
theorem cs_open {L : Nat} {xs : Nat → Int32} {G : Nat → am_C} {i q : Nat} (hi : i + 6 ≤ L) (hL : L ≤ 3072) (hq5 : q < 512) (h232 : am_imp (bk_L_law_232 L xs G) (G 232)) (hN : lw_N G i q) {σ : am_St} {n : Nat} {E : am_E} {l6 l7 l8 : Option Value} {ca sl : Nat} (hn : 337 ≤ n) (hT : lw_T σ E) (hca : ca ≤ 337 + 1173 * q) (hsl : sl ≤ 63960 + 14119 * q) : G 232 (lw_LG i l6 l7 l8) [] n E ca sl := by
  obtain ⟨hHS, ⟨thr, lm, lk, lf, hM⟩, hw, ⟨g, hg⟩, g2, hg2⟩ := hT
  have v0 : vp_in (nI (i)) L = True := am_vi (show i < L by omega) (by omega)
  have c0 : (nI (i)).toNatClampNeg = i := am_cl (by omega)
  have v1 : vp_in (nI (i + 1)) L = True := am_vi (show i + 1 < L by omega) (by omega)
  have c1 : (nI (i + 1)).toNatClampNeg = i + 1 := am_cl (by omega)
  have a1 : nI i + 1 = nI (i + 1) := nI_add i 1
  have v2 : vp_in (nI (i + 2)) L = True := am_vi (show i + 2 < L by omega) (by omega)
  have c2 : (nI (i + 2)).toNatClampNeg = i + 2 := am_cl (by omega)
  have a2 : nI i + 2 = nI (i + 2) := nI_add i 2
  have v3 : vp_in (nI (i + 3)) L = True := am_vi (show i + 3 < L by omega) (by omega)
  have c3 : (nI (i + 3)).toNatClampNeg = i + 3 := am_cl (by omega)
  have a3 : nI i + 3 = nI (i + 3) := nI_add i 3
  have v4 : vp_in (nI (i + 4)) L = True := am_vi (show i + 4 < L by omega) (by omega)
  have c4 : (nI (i + 4)).toNatClampNeg = i + 4 := am_cl (by omega)
  have a4 : nI i + 4 = nI (i + 4) := nI_add i 4
  have v5 : vp_in (nI (i + 5)) L = True := am_vi (show i + 5 < L by omega) (by omega)
  have c5 : (nI (i + 5)).toNatClampNeg = i + 5 := am_cl (by omega)
  have a5 : nI i + 5 = nI (i + 5) := nI_add i 5
  have w00 : Int32.toNatClampNeg 0 = 0 := rfl
  have z0 : nI 0 = 0 := rfl
  have w01 : vp_in 0 1 := vp_in_nI (n := 0) (by decide) (by decide)
  obtain ⟨fs0, e0⟩ := lw_h0 hHS
  by_cases hb : xs (i + 5) = 0
  · apply h232
    unfold bk_L_law_232
    simp only [o_pi, o_pl, o_pf, o_pd, o_iload, o_lload, o_fload, o_dload, o_aload, o_istore, o_lstore, o_fstore, o_dstore, o_astore, o_iinc, o_ib, o_ibz, o_lb, o_lbz, o_lsh, o_lcmp, o_ineg, o_i2l, o_l2i, o_i2c, o_i2f, o_i2d, o_f2d, o_fdiv, o_ddiv, o_fcmp, o_dcmp, o_dup, o_dup2, o_pop, o_pop2, o_if_eq, o_if_ne, o_if_lt, o_if_ge, o_if_gt, o_if_le, o_ic_eq, o_ic_ne, o_ic_lt, o_ic_ge, o_ic_gt, o_ic_le, o_if, o_ic, o_getf, o_putf, o_ild, o_ist, o_lld, o_lst, o_dld, o_dst, o_ald, o_alen, o_new, o_newa, o_ast, o_oinit, o_iret, o_lret, o_fret, o_dret, o_aret, o_vret, o_throw, o_call, o_callV, am_kc, am_noX, o_im, o_ia, o_gets, o_ldcK, o_getK, o_codK, o_lenK, o_bldK, o_i2b, o_callK, o_mna, o_clone, o_castA, am_s1, am_s2, am_kill, am_inl, am_sl, Value.category, List.getElem?_cons_zero, List.getElem?_cons_succ, List.set_cons_zero, List.set_cons_succ, List.length_cons, List.length_nil, List.take_succ_cons, List.take_zero, List.drop_succ_cons, List.drop_zero, List.reverse_cons, List.reverse_nil, List.nil_append, List.cons_append, List.append_nil, List.map_cons, List.map_nil, List.sum_cons, List.sum_nil, List.replicate_succ, List.replicate_zero, Nat.zero_add, Nat.add_zero, Nat.le_refl, Nat.zero_le, ite_true, ite_false, if_true, if_false, true_and, and_true, eq_self, not_true_eq_false, not_false_eq_true, am_nb0, am_nb1, am_ni, am_fi, am_fr, am_fra, am_fz0, am_fz1, am_fl, am_uE, am_vnI, am_uu, am_ltx, ite_not, Classical.not_not, reduceIte, reduceCtorEq, Nat.reduceEqDiff, Nat.reduceAdd, Nat.reduceSub, Nat.reduceMul, Nat.reduceLeDiff, Nat.reduceLT, Int32.reduceLE, Int32.reduceLT, am_10, am_01, am_ite0, am_ite1, ms_boT, ms_boF, rmc_L_law, rms_L_law, lw_LG, o_slen, o_sld, o_tsw, o_lend, rmc_L_open, rms_L_open, rmc_X8_open, rms_X8_open, v0, v1, v2, v3, v4, v5, c0, c1, c2, c3, c4, c5, a1, a2, a3, a4, a5, w00, z0, w01, e0, hb]
    refine ⟨by omega, 0, σ, (xs (i + 1)), (xs (i + 2)), (xs (i + 3)), (xs (i + 4)), (false), 335, g, rfl, hHS, Or.inr (by decide), hg, fun E1 g1 hH1 hk1 hout hval => ?_⟩
    have hM1 : am_MT 214 E1 σ lm lk lf thr := lw_mt hM (fun j h1 h2 => hk1 j (Or.inr (by omega)) (by omega))
    have h36 := (hk1 336 (Or.inr (by decide)) (by decide)).trans hg2
    obtain ⟨fs1, e1⟩ := lw_m0 hM1
    show am_kc _ _ _ _ _ _ (.inl (some (.int (nI (am_th L_AU (q_open σ (xs (i + 1)) (xs (i + 2)) (xs (i + 3)) (xs (i + 4)) (false)).1))))) n E1
    simp only [o_pi, o_pl, o_pf, o_pd, o_iload, o_lload, o_fload, o_dload, o_aload, o_istore, o_lstore, o_fstore, o_dstore, o_astore, o_iinc, o_ib, o_ibz, o_lb, o_lbz, o_lsh, o_lcmp, o_ineg, o_i2l, o_l2i, o_i2c, o_i2f, o_i2d, o_f2d, o_fdiv, o_ddiv, o_fcmp, o_dcmp, o_dup, o_dup2, o_pop, o_pop2, o_if_eq, o_if_ne, o_if_lt, o_if_ge, o_if_gt, o_if_le, o_ic_eq, o_ic_ne, o_ic_lt, o_ic_ge, o_ic_gt, o_ic_le, o_if, o_ic, o_getf, o_putf, o_ild, o_ist, o_lld, o_lst, o_dld, o_dst, o_ald, o_alen, o_new, o_newa, o_ast, o_oinit, o_iret, o_lret, o_fret, o_dret, o_aret, o_vret, o_throw, o_call, o_callV, am_kc, am_noX, o_im, o_ia, o_gets, o_ldcK, o_getK, o_codK, o_lenK, o_bldK, o_i2b, o_callK, o_mna, o_clone, o_castA, am_s1, am_s2, am_kill, am_inl, am_sl, Value.category, List.getElem?_cons_zero, List.getElem?_cons_succ, List.set_cons_zero, List.set_cons_succ, List.length_cons, List.length_nil, List.take_succ_cons, List.take_zero, List.drop_succ_cons, List.drop_zero, List.reverse_cons, List.reverse_nil, List.nil_append, List.cons_append, List.append_nil, List.map_cons, List.map_nil, List.sum_cons, List.sum_nil, List.replicate_succ, List.replicate_zero, Nat.zero_add, Nat.add_zero, Nat.le_refl, Nat.zero_le, ite_true, ite_false, if_true, if_false, true_and, and_true, eq_self, not_true_eq_false, not_false_eq_true, am_nb0, am_nb1, am_ni, am_fi, am_fr, am_fra, am_fz0, am_fz1, am_fl, am_uE, am_vnI, am_uu, am_ltx, ite_not, Classical.not_not, reduceIte, reduceCtorEq, Nat.reduceEqDiff, Nat.reduceAdd, Nat.reduceSub, Nat.reduceMul, Nat.reduceLeDiff, Nat.reduceLT, Int32.reduceLE, Int32.reduceLT, am_10, am_01, am_ite0, am_ite1, ms_boT, ms_boF, rmc_L_law, rms_L_law, lw_LG, o_slen, o_sld, o_tsw, o_lend, rmc_L_open, rms_L_open, rmc_X8_open, rms_X8_open, v0, v1, v2, v3, v4, v5, c0, c1, c2, c3, c4, c5, a1, a2, a3, a4, a5, w00, z0, w01, e0, e1, hb]
    refine ⟨by omega, 214, σ, lm, lk, lf, thr, (xs (i + 1)), (xs (i + 2)), (xs (i + 3)), (xs (i + 4)), (false), rfl, by omega, hM1, fun n2 E2 hn2 hM2 hk2 => ?_⟩
    have hok := ok9_open σ (xs (i + 1)) (xs (i + 2)) (xs (i + 3)) (xs (i + 4)) (false)
    have hiw := iw_open hw (xs (i + 1)) (xs (i + 2)) (xs (i + 3)) (xs (i + 4)) (false)
    have hM2 : am_MS 214 E2 (q_open σ (xs (i + 1)) (xs (i + 2)) (xs (i + 3)) (xs (i + 4)) (false)).2 (nI (am_th L_AU (q_open σ (xs (i + 1)) (xs (i + 2)) (xs (i + 3)) (xs (i + 4)) (false)).1)) := hM2
    have hT2 := lw_end hn hH1 hM2 hk2 hiw ⟨_, hout⟩ ⟨_, h36⟩
    show am_kc _ _ _ _ _ _ (.inl (some (am_vl (.int 0) (q_open σ (xs (i + 1)) (xs (i + 2)) (xs (i + 3)) (xs (i + 4)) (false)).1))) n2 E2
    generalize (q_open σ (xs (i + 1)) (xs (i + 2)) (xs (i + 3)) (xs (i + 4)) (false)) = rr at hok hT2 ⊢
    rcases hok with ⟨v, σ2, hv, rfl⟩ | ⟨C, σ2, hC9, rfl⟩
    · show am_kc _ _ _ _ _ _ (.inl (some (.int v))) n2 E2
      simp only [o_pi, o_pl, o_pf, o_pd, o_iload, o_lload, o_fload, o_dload, o_aload, o_istore, o_lstore, o_fstore, o_dstore, o_astore, o_iinc, o_ib, o_ibz, o_lb, o_lbz, o_lsh, o_lcmp, o_ineg, o_i2l, o_l2i, o_i2c, o_i2f, o_i2d, o_f2d, o_fdiv, o_ddiv, o_fcmp, o_dcmp, o_dup, o_dup2, o_pop, o_pop2, o_if_eq, o_if_ne, o_if_lt, o_if_ge, o_if_gt, o_if_le, o_ic_eq, o_ic_ne, o_ic_lt, o_ic_ge, o_ic_gt, o_ic_le, o_if, o_ic, o_getf, o_putf, o_ild, o_ist, o_lld, o_lst, o_dld, o_dst, o_ald, o_alen, o_new, o_newa, o_ast, o_oinit, o_iret, o_lret, o_fret, o_dret, o_aret, o_vret, o_throw, o_call, o_callV, am_kc, am_noX, o_im, o_ia, o_gets, o_ldcK, o_getK, o_codK, o_lenK, o_bldK, o_i2b, o_callK, o_mna, o_clone, o_castA, am_s1, am_s2, am_kill, am_inl, am_sl, Value.category, List.getElem?_cons_zero, List.getElem?_cons_succ, List.set_cons_zero, List.set_cons_succ, List.length_cons, List.length_nil, List.take_succ_cons, List.take_zero, List.drop_succ_cons, List.drop_zero, List.reverse_cons, List.reverse_nil, List.nil_append, List.cons_append, List.append_nil, List.map_cons, List.map_nil, List.sum_cons, List.sum_nil, List.replicate_succ, List.replicate_zero, Nat.zero_add, Nat.add_zero, Nat.le_refl, Nat.zero_le, ite_true, ite_false, if_true, if_false, true_and, and_true, eq_self, not_true_eq_false, not_false_eq_true, am_nb0, am_nb1, am_ni, am_fi, am_fr, am_fra, am_fz0, am_fz1, am_fl, am_uE, am_vnI, am_uu, am_ltx, ite_not, Classical.not_not, reduceIte, reduceCtorEq, Nat.reduceEqDiff, Nat.reduceAdd, Nat.reduceSub, Nat.reduceMul, Nat.reduceLeDiff, Nat.reduceLT, Int32.reduceLE, Int32.reduceLT, am_10, am_01, am_ite0, am_ite1, ms_boT, ms_boF, rmc_L_law, rms_L_law, lw_LG, o_slen, o_sld, o_tsw, o_lend, rmc_L_open, rms_L_open, rmc_X8_open, rms_X8_open, v0, v1, v2, v3, v4, v5, c0, c1, c2, c3, c4, c5, a1, a2, a3, a4, a5, w00, z0, w01, e0]
      exact hN _ _ _ _ _ _ _ _ (by omega) hT2 (by omega) (by omega)
    · show am_kc _ _ _ _ _ _ (.inl (some (.int 0))) n2 E2
      simp only [o_pi, o_pl, o_pf, o_pd, o_iload, o_lload, o_fload, o_dload, o_aload, o_istore, o_lstore, o_fstore, o_dstore, o_astore, o_iinc, o_ib, o_ibz, o_lb, o_lbz, o_lsh, o_lcmp, o_ineg, o_i2l, o_l2i, o_i2c, o_i2f, o_i2d, o_f2d, o_fdiv, o_ddiv, o_fcmp, o_dcmp, o_dup, o_dup2, o_pop, o_pop2, o_if_eq, o_if_ne, o_if_lt, o_if_ge, o_if_gt, o_if_le, o_ic_eq, o_ic_ne, o_ic_lt, o_ic_ge, o_ic_gt, o_ic_le, o_if, o_ic, o_getf, o_putf, o_ild, o_ist, o_lld, o_lst, o_dld, o_dst, o_ald, o_alen, o_new, o_newa, o_ast, o_oinit, o_iret, o_lret, o_fret, o_dret, o_aret, o_vret, o_throw, o_call, o_callV, am_kc, am_noX, o_im, o_ia, o_gets, o_ldcK, o_getK, o_codK, o_lenK, o_bldK, o_i2b, o_callK, o_mna, o_clone, o_castA, am_s1, am_s2, am_kill, am_inl, am_sl, Value.category, List.getElem?_cons_zero, List.getElem?_cons_succ, List.set_cons_zero, List.set_cons_succ, List.length_cons, List.length_nil, List.take_succ_cons, List.take_zero, List.drop_succ_cons, List.drop_zero, List.reverse_cons, List.reverse_nil, List.nil_append, List.cons_append, List.append_nil, List.map_cons, List.map_nil, List.sum_cons, List.sum_nil, List.replicate_succ, List.replicate_zero, Nat.zero_add, Nat.add_zero, Nat.le_refl, Nat.zero_le, ite_true, ite_false, if_true, if_false, true_and, and_true, eq_self, not_true_eq_false, not_false_eq_true, am_nb0, am_nb1, am_ni, am_fi, am_fr, am_fra, am_fz0, am_fz1, am_fl, am_uE, am_vnI, am_uu, am_ltx, ite_not, Classical.not_not, reduceIte, reduceCtorEq, Nat.reduceEqDiff, Nat.reduceAdd, Nat.reduceSub, Nat.reduceMul, Nat.reduceLeDiff, Nat.reduceLT, Int32.reduceLE, Int32.reduceLT, am_10, am_01, am_ite0, am_ite1, ms_boT, ms_boF, rmc_L_law, rms_L_law, lw_LG, o_slen, o_sld, o_tsw, o_lend, rmc_L_open, rms_L_open, rmc_X8_open, rms_X8_open, v0, v1, v2, v3, v4, v5, c0, c1, c2, c3, c4, c5, a1, a2, a3, a4, a5, w00, z0, w01, e0]
      exact hN _ _ _ _ _ _ _ _ (by omega) hT2 (by omega) (by omega)
  · apply h232
    unfold bk_L_law_232
    simp only [o_pi, o_pl, o_pf, o_pd, o_iload, o_lload, o_fload, o_dload, o_aload, o_istore, o_lstore, o_fstore, o_dstore, o_astore, o_iinc, o_ib, o_ibz, o_lb, o_lbz, o_lsh, o_lcmp, o_ineg, o_i2l, o_l2i, o_i2c, o_i2f, o_i2d, o_f2d, o_fdiv, o_ddiv, o_fcmp, o_dcmp, o_dup, o_dup2, o_pop, o_pop2, o_if_eq, o_if_ne, o_if_lt, o_if_ge, o_if_gt, o_if_le, o_ic_eq, o_ic_ne, o_ic_lt, o_ic_ge, o_ic_gt, o_ic_le, o_if, o_ic, o_getf, o_putf, o_ild, o_ist, o_lld, o_lst, o_dld, o_dst, o_ald, o_alen, o_new, o_newa, o_ast, o_oinit, o_iret, o_lret, o_fret, o_dret, o_aret, o_vret, o_throw, o_call, o_callV, am_kc, am_noX, o_im, o_ia, o_gets, o_ldcK, o_getK, o_codK, o_lenK, o_bldK, o_i2b, o_callK, o_mna, o_clone, o_castA, am_s1, am_s2, am_kill, am_inl, am_sl, Value.category, List.getElem?_cons_zero, List.getElem?_cons_succ, List.set_cons_zero, List.set_cons_succ, List.length_cons, List.length_nil, List.take_succ_cons, List.take_zero, List.drop_succ_cons, List.drop_zero, List.reverse_cons, List.reverse_nil, List.nil_append, List.cons_append, List.append_nil, List.map_cons, List.map_nil, List.sum_cons, List.sum_nil, List.replicate_succ, List.replicate_zero, Nat.zero_add, Nat.add_zero, Nat.le_refl, Nat.zero_le, ite_true, ite_false, if_true, if_false, true_and, and_true, eq_self, not_true_eq_false, not_false_eq_true, am_nb0, am_nb1, am_ni, am_fi, am_fr, am_fra, am_fz0, am_fz1, am_fl, am_uE, am_vnI, am_uu, am_ltx, ite_not, Classical.not_not, reduceIte, reduceCtorEq, Nat.reduceEqDiff, Nat.reduceAdd, Nat.reduceSub, Nat.reduceMul, Nat.reduceLeDiff, Nat.reduceLT, Int32.reduceLE, Int32.reduceLT, am_10, am_01, am_ite0, am_ite1, ms_boT, ms_boF, rmc_L_law, rms_L_law, lw_LG, o_slen, o_sld, o_tsw, o_lend, rmc_L_open, rms_L_open, rmc_X8_open, rms_X8_open, v0, v1, v2, v3, v4, v5, c0, c1, c2, c3, c4, c5, a1, a2, a3, a4, a5, w00, z0, w01, e0, hb]
    refine ⟨by omega, 0, σ, (xs (i + 1)), (xs (i + 2)), (xs (i + 3)), (xs (i + 4)), (true), 335, g, rfl, hHS, Or.inr (by decide), hg, fun E1 g1 hH1 hk1 hout hval => ?_⟩
    have hM1 : am_MT 214 E1 σ lm lk lf thr := lw_mt hM (fun j h1 h2 => hk1 j (Or.inr (by omega)) (by omega))
    have h36 := (hk1 336 (Or.inr (by decide)) (by decide)).trans hg2
    obtain ⟨fs1, e1⟩ := lw_m0 hM1
    show am_kc _ _ _ _ _ _ (.inl (some (.int (nI (am_th L_AU (q_open σ (xs (i + 1)) (xs (i + 2)) (xs (i + 3)) (xs (i + 4)) (true)).1))))) n E1
    simp only [o_pi, o_pl, o_pf, o_pd, o_iload, o_lload, o_fload, o_dload, o_aload, o_istore, o_lstore, o_fstore, o_dstore, o_astore, o_iinc, o_ib, o_ibz, o_lb, o_lbz, o_lsh, o_lcmp, o_ineg, o_i2l, o_l2i, o_i2c, o_i2f, o_i2d, o_f2d, o_fdiv, o_ddiv, o_fcmp, o_dcmp, o_dup, o_dup2, o_pop, o_pop2, o_if_eq, o_if_ne, o_if_lt, o_if_ge, o_if_gt, o_if_le, o_ic_eq, o_ic_ne, o_ic_lt, o_ic_ge, o_ic_gt, o_ic_le, o_if, o_ic, o_getf, o_putf, o_ild, o_ist, o_lld, o_lst, o_dld, o_dst, o_ald, o_alen, o_new, o_newa, o_ast, o_oinit, o_iret, o_lret, o_fret, o_dret, o_aret, o_vret, o_throw, o_call, o_callV, am_kc, am_noX, o_im, o_ia, o_gets, o_ldcK, o_getK, o_codK, o_lenK, o_bldK, o_i2b, o_callK, o_mna, o_clone, o_castA, am_s1, am_s2, am_kill, am_inl, am_sl, Value.category, List.getElem?_cons_zero, List.getElem?_cons_succ, List.set_cons_zero, List.set_cons_succ, List.length_cons, List.length_nil, List.take_succ_cons, List.take_zero, List.drop_succ_cons, List.drop_zero, List.reverse_cons, List.reverse_nil, List.nil_append, List.cons_append, List.append_nil, List.map_cons, List.map_nil, List.sum_cons, List.sum_nil, List.replicate_succ, List.replicate_zero, Nat.zero_add, Nat.add_zero, Nat.le_refl, Nat.zero_le, ite_true, ite_false, if_true, if_false, true_and, and_true, eq_self, not_true_eq_false, not_false_eq_true, am_nb0, am_nb1, am_ni, am_fi, am_fr, am_fra, am_fz0, am_fz1, am_fl, am_uE, am_vnI, am_uu, am_ltx, ite_not, Classical.not_not, reduceIte, reduceCtorEq, Nat.reduceEqDiff, Nat.reduceAdd, Nat.reduceSub, Nat.reduceMul, Nat.reduceLeDiff, Nat.reduceLT, Int32.reduceLE, Int32.reduceLT, am_10, am_01, am_ite0, am_ite1, ms_boT, ms_boF, rmc_L_law, rms_L_law, lw_LG, o_slen, o_sld, o_tsw, o_lend, rmc_L_open, rms_L_open, rmc_X8_open, rms_X8_open, v0, v1, v2, v3, v4, v5, c0, c1, c2, c3, c4, c5, a1, a2, a3, a4, a5, w00, z0, w01, e0, e1, hb]
    refine ⟨by omega, 214, σ, lm, lk, lf, thr, (xs (i + 1)), (xs (i + 2)), (xs (i + 3)), (xs (i + 4)), (true), rfl, by omega, hM1, fun n2 E2 hn2 hM2 hk2 => ?_⟩
    have hok := ok9_open σ (xs (i + 1)) (xs (i + 2)) (xs (i + 3)) (xs (i + 4)) (true)
    have hiw := iw_open hw (xs (i + 1)) (xs (i + 2)) (xs (i + 3)) (xs (i + 4)) (true)
    have hM2 : am_MS 214 E2 (q_open σ (xs (i + 1)) (xs (i + 2)) (xs (i + 3)) (xs (i + 4)) (true)).2 (nI (am_th L_AU (q_open σ (xs (i + 1)) (xs (i + 2)) (xs (i + 3)) (xs (i + 4)) (true)).1)) := hM2
    have hT2 := lw_end hn hH1 hM2 hk2 hiw ⟨_, hout⟩ ⟨_, h36⟩
    show am_kc _ _ _ _ _ _ (.inl (some (am_vl (.int 0) (q_open σ (xs (i + 1)) (xs (i + 2)) (xs (i + 3)) (xs (i + 4)) (true)).1))) n2 E2
    generalize (q_open σ (xs (i + 1)) (xs (i + 2)) (xs (i + 3)) (xs (i + 4)) (true)) = rr at hok hT2 ⊢
    rcases hok with ⟨v, σ2, hv, rfl⟩ | ⟨C, σ2, hC9, rfl⟩
    · show am_kc _ _ _ _ _ _ (.inl (some (.int v))) n2 E2
      simp only [o_pi, o_pl, o_pf, o_pd, o_iload, o_lload, o_fload, o_dload, o_aload, o_istore, o_lstore, o_fstore, o_dstore, o_astore, o_iinc, o_ib, o_ibz, o_lb, o_lbz, o_lsh, o_lcmp, o_ineg, o_i2l, o_l2i, o_i2c, o_i2f, o_i2d, o_f2d, o_fdiv, o_ddiv, o_fcmp, o_dcmp, o_dup, o_dup2, o_pop, o_pop2, o_if_eq, o_if_ne, o_if_lt, o_if_ge, o_if_gt, o_if_le, o_ic_eq, o_ic_ne, o_ic_lt, o_ic_ge, o_ic_gt, o_ic_le, o_if, o_ic, o_getf, o_putf, o_ild, o_ist, o_lld, o_lst, o_dld, o_dst, o_ald, o_alen, o_new, o_newa, o_ast, o_oinit, o_iret, o_lret, o_fret, o_dret, o_aret, o_vret, o_throw, o_call, o_callV, am_kc, am_noX, o_im, o_ia, o_gets, o_ldcK, o_getK, o_codK, o_lenK, o_bldK, o_i2b, o_callK, o_mna, o_clone, o_castA, am_s1, am_s2, am_kill, am_inl, am_sl, Value.category, List.getElem?_cons_zero, List.getElem?_cons_succ, List.set_cons_zero, List.set_cons_succ, List.length_cons, List.length_nil, List.take_succ_cons, List.take_zero, List.drop_succ_cons, List.drop_zero, List.reverse_cons, List.reverse_nil, List.nil_append, List.cons_append, List.append_nil, List.map_cons, List.map_nil, List.sum_cons, List.sum_nil, List.replicate_succ, List.replicate_zero, Nat.zero_add, Nat.add_zero, Nat.le_refl, Nat.zero_le, ite_true, ite_false, if_true, if_false, true_and, and_true, eq_self, not_true_eq_false, not_false_eq_true, am_nb0, am_nb1, am_ni, am_fi, am_fr, am_fra, am_fz0, am_fz1, am_fl, am_uE, am_vnI, am_uu, am_ltx, ite_not, Classical.not_not, reduceIte, reduceCtorEq, Nat.reduceEqDiff, Nat.reduceAdd, Nat.reduceSub, Nat.reduceMul, Nat.reduceLeDiff, Nat.reduceLT, Int32.reduceLE, Int32.reduceLT, am_10, am_01, am_ite0, am_ite1, ms_boT, ms_boF, rmc_L_law, rms_L_law, lw_LG, o_slen, o_sld, o_tsw, o_lend, rmc_L_open, rms_L_open, rmc_X8_open, rms_X8_open, v0, v1, v2, v3, v4, v5, c0, c1, c2, c3, c4, c5, a1, a2, a3, a4, a5, w00, z0, w01, e0]
      exact hN _ _ _ _ _ _ _ _ (by omega) hT2 (by omega) (by omega)
    · show am_kc _ _ _ _ _ _ (.inl (some (.int 0))) n2 E2
      simp only [o_pi, o_pl, o_pf, o_pd, o_iload, o_lload, o_fload, o_dload, o_aload, o_istore, o_lstore, o_fstore, o_dstore, o_astore, o_iinc, o_ib, o_ibz, o_lb, o_lbz, o_lsh, o_lcmp, o_ineg, o_i2l, o_l2i, o_i2c, o_i2f, o_i2d, o_f2d, o_fdiv, o_ddiv, o_fcmp, o_dcmp, o_dup, o_dup2, o_pop, o_pop2, o_if_eq, o_if_ne, o_if_lt, o_if_ge, o_if_gt, o_if_le, o_ic_eq, o_ic_ne, o_ic_lt, o_ic_ge, o_ic_gt, o_ic_le, o_if, o_ic, o_getf, o_putf, o_ild, o_ist, o_lld, o_lst, o_dld, o_dst, o_ald, o_alen, o_new, o_newa, o_ast, o_oinit, o_iret, o_lret, o_fret, o_dret, o_aret, o_vret, o_throw, o_call, o_callV, am_kc, am_noX, o_im, o_ia, o_gets, o_ldcK, o_getK, o_codK, o_lenK, o_bldK, o_i2b, o_callK, o_mna, o_clone, o_castA, am_s1, am_s2, am_kill, am_inl, am_sl, Value.category, List.getElem?_cons_zero, List.getElem?_cons_succ, List.set_cons_zero, List.set_cons_succ, List.length_cons, List.length_nil, List.take_succ_cons, List.take_zero, List.drop_succ_cons, List.drop_zero, List.reverse_cons, List.reverse_nil, List.nil_append, List.cons_append, List.append_nil, List.map_cons, List.map_nil, List.sum_cons, List.sum_nil, List.replicate_succ, List.replicate_zero, Nat.zero_add, Nat.add_zero, Nat.le_refl, Nat.zero_le, ite_true, ite_false, if_true, if_false, true_and, and_true, eq_self, not_true_eq_false, not_false_eq_true, am_nb0, am_nb1, am_ni, am_fi, am_fr, am_fra, am_fz0, am_fz1, am_fl, am_uE, am_vnI, am_uu, am_ltx, ite_not, Classical.not_not, reduceIte, reduceCtorEq, Nat.reduceEqDiff, Nat.reduceAdd, Nat.reduceSub, Nat.reduceMul, Nat.reduceLeDiff, Nat.reduceLT, Int32.reduceLE, Int32.reduceLT, am_10, am_01, am_ite0, am_ite1, ms_boT, ms_boF, rmc_L_law, rms_L_law, lw_LG, o_slen, o_sld, o_tsw, o_lend, rmc_L_open, rms_L_open, rmc_X8_open, rms_X8_open, v0, v1, v2, v3, v4, v5, c0, c1, c2, c3, c4, c5, a1, a2, a3, a4, a5, w00, z0, w01, e0]
      exact hN _ _ _ _ _ _ _ _ (by omega) hT2 (by omega) (by omega)

set_option maxRecDepth 100000 in
set_option maxHeartbeats 4000000 in
theorem cs_litShare {L : Nat} {xs : Nat → Int32} {G : Nat → am_C} {i q : Nat} (hi : i + 6 ≤ L) (hL : L ≤ 3072) (hq5 : q < 512) (h1553 : am_imp (bk_L_law_1553 L xs G) (G 1553)) (hN : lw_N G i q) {σ : am_St} {n : Nat} {E : am_E} {l6 l7 l8 : Option Value} {ca sl : Nat} (hn : 337 ≤ n) (hT : lw_T σ E) (hca : ca ≤ 337 + 1173 * q) (hsl : sl ≤ 63960 + 14119 * q) : G 1553 (lw_LG i l6 l7 l8) [] n E ca sl := by
  obtain ⟨hHS, ⟨thr, lm, lk, lf, hM⟩, hw, ⟨g, hg⟩, g2, hg2⟩ := hT
  have v0 : vp_in (nI (i)) L = True := am_vi (show i < L by omega) (by omega)
  have c0 : (nI (i)).toNatClampNeg = i := am_cl (by omega)
  have v1 : vp_in (nI (i + 1)) L = True := am_vi (show i + 1 < L by omega) (by omega)
  have c1 : (nI (i + 1)).toNatClampNeg = i + 1 := am_cl (by omega)
  have a1 : nI i + 1 = nI (i + 1) := nI_add i 1
  have v2 : vp_in (nI (i + 2)) L = True := am_vi (show i + 2 < L by omega) (by omega)
  have c2 : (nI (i + 2)).toNatClampNeg = i + 2 := am_cl (by omega)
  have a2 : nI i + 2 = nI (i + 2) := nI_add i 2
  have v3 : vp_in (nI (i + 3)) L = True := am_vi (show i + 3 < L by omega) (by omega)
  have c3 : (nI (i + 3)).toNatClampNeg = i + 3 := am_cl (by omega)
  have a3 : nI i + 3 = nI (i + 3) := nI_add i 3
  have v4 : vp_in (nI (i + 4)) L = True := am_vi (show i + 4 < L by omega) (by omega)
  have c4 : (nI (i + 4)).toNatClampNeg = i + 4 := am_cl (by omega)
  have a4 : nI i + 4 = nI (i + 4) := nI_add i 4
  have v5 : vp_in (nI (i + 5)) L = True := am_vi (show i + 5 < L by omega) (by omega)
  have c5 : (nI (i + 5)).toNatClampNeg = i + 5 := am_cl (by omega)
  have a5 : nI i + 5 = nI (i + 5) := nI_add i 5
  have w00 : Int32.toNatClampNeg 0 = 0 := rfl
  have z0 : nI 0 = 0 := rfl
  have w01 : vp_in 0 1 := vp_in_nI (n := 0) (by decide) (by decide)
  obtain ⟨fs0, e0⟩ := lw_h0 hHS
  apply h1553
  unfold bk_L_law_1553
  simp only [o_pi, o_pl, o_pf, o_pd, o_iload, o_lload, o_fload, o_dload, o_aload, o_istore, o_lstore, o_fstore, o_dstore, o_astore, o_iinc, o_ib, o_ibz, o_lb, o_lbz, o_lsh, o_lcmp, o_ineg, o_i2l, o_l2i, o_i2c, o_i2f, o_i2d, o_f2d, o_fdiv, o_ddiv, o_fcmp, o_dcmp, o_dup, o_dup2, o_pop, o_pop2, o_if_eq, o_if_ne, o_if_lt, o_if_ge, o_if_gt, o_if_le, o_ic_eq, o_ic_ne, o_ic_lt, o_ic_ge, o_ic_gt, o_ic_le, o_if, o_ic, o_getf, o_putf, o_ild, o_ist, o_lld, o_lst, o_dld, o_dst, o_ald, o_alen, o_new, o_newa, o_ast, o_oinit, o_iret, o_lret, o_fret, o_dret, o_aret, o_vret, o_throw, o_call, o_callV, am_kc, am_noX, o_im, o_ia, o_gets, o_ldcK, o_getK, o_codK, o_lenK, o_bldK, o_i2b, o_callK, o_mna, o_clone, o_castA, am_s1, am_s2, am_kill, am_inl, am_sl, Value.category, List.getElem?_cons_zero, List.getElem?_cons_succ, List.set_cons_zero, List.set_cons_succ, List.length_cons, List.length_nil, List.take_succ_cons, List.take_zero, List.drop_succ_cons, List.drop_zero, List.reverse_cons, List.reverse_nil, List.nil_append, List.cons_append, List.append_nil, List.map_cons, List.map_nil, List.sum_cons, List.sum_nil, List.replicate_succ, List.replicate_zero, Nat.zero_add, Nat.add_zero, Nat.le_refl, Nat.zero_le, ite_true, ite_false, if_true, if_false, true_and, and_true, eq_self, not_true_eq_false, not_false_eq_true, am_nb0, am_nb1, am_ni, am_fi, am_fr, am_fra, am_fz0, am_fz1, am_fl, am_uE, am_vnI, am_uu, am_ltx, ite_not, Classical.not_not, reduceIte, reduceCtorEq, Nat.reduceEqDiff, Nat.reduceAdd, Nat.reduceSub, Nat.reduceMul, Nat.reduceLeDiff, Nat.reduceLT, Int32.reduceLE, Int32.reduceLT, am_10, am_01, am_ite0, am_ite1, ms_boT, ms_boF, rmc_L_law, rms_L_law, lw_LG, o_slen, o_sld, o_tsw, o_lend, rmc_L_litShare, rms_L_litShare, rmc_X8_litShare, rms_X8_litShare, v0, v1, v2, v3, v4, v5, c0, c1, c2, c3, c4, c5, a1, a2, a3, a4, a5, w00, z0, w01, e0]
  refine ⟨by omega, 0, 336, σ, g2, rfl, hHS, Or.inr (by decide), hg2, fun E1 g1 hH1 hk1 hout => ?_⟩
  have hM1 : am_MT 214 E1 σ lm lk lf thr := lw_mt hM (fun j h1 h2 => hk1 j (Or.inr (by omega)) (by omega))
  have h35 := (hk1 335 (Or.inr (by decide)) (by decide)).trans hg
  obtain ⟨fs1, e1⟩ := lw_m0 hM1
  show am_kc _ _ _ _ _ _ (.inl (some (.int (if am_on σ = 0 then 1 else 0)))) n E1
  generalize (if am_on σ = 0 then (1 : Int32) else 0) = v6
  simp only [o_pi, o_pl, o_pf, o_pd, o_iload, o_lload, o_fload, o_dload, o_aload, o_istore, o_lstore, o_fstore, o_dstore, o_astore, o_iinc, o_ib, o_ibz, o_lb, o_lbz, o_lsh, o_lcmp, o_ineg, o_i2l, o_l2i, o_i2c, o_i2f, o_i2d, o_f2d, o_fdiv, o_ddiv, o_fcmp, o_dcmp, o_dup, o_dup2, o_pop, o_pop2, o_if_eq, o_if_ne, o_if_lt, o_if_ge, o_if_gt, o_if_le, o_ic_eq, o_ic_ne, o_ic_lt, o_ic_ge, o_ic_gt, o_ic_le, o_if, o_ic, o_getf, o_putf, o_ild, o_ist, o_lld, o_lst, o_dld, o_dst, o_ald, o_alen, o_new, o_newa, o_ast, o_oinit, o_iret, o_lret, o_fret, o_dret, o_aret, o_vret, o_throw, o_call, o_callV, am_kc, am_noX, o_im, o_ia, o_gets, o_ldcK, o_getK, o_codK, o_lenK, o_bldK, o_i2b, o_callK, o_mna, o_clone, o_castA, am_s1, am_s2, am_kill, am_inl, am_sl, Value.category, List.getElem?_cons_zero, List.getElem?_cons_succ, List.set_cons_zero, List.set_cons_succ, List.length_cons, List.length_nil, List.take_succ_cons, List.take_zero, List.drop_succ_cons, List.drop_zero, List.reverse_cons, List.reverse_nil, List.nil_append, List.cons_append, List.append_nil, List.map_cons, List.map_nil, List.sum_cons, List.sum_nil, List.replicate_succ, List.replicate_zero, Nat.zero_add, Nat.add_zero, Nat.le_refl, Nat.zero_le, ite_true, ite_false, if_true, if_false, true_and, and_true, eq_self, not_true_eq_false, not_false_eq_true, am_nb0, am_nb1, am_ni, am_fi, am_fr, am_fra, am_fz0, am_fz1, am_fl, am_uE, am_vnI, am_uu, am_ltx, ite_not, Classical.not_not, reduceIte, reduceCtorEq, Nat.reduceEqDiff, Nat.reduceAdd, Nat.reduceSub, Nat.reduceMul, Nat.reduceLeDiff, Nat.reduceLT, Int32.reduceLE, Int32.reduceLT, am_10, am_01, am_ite0, am_ite1, ms_boT, ms_boF, rmc_L_law, rms_L_law, lw_LG, o_slen, o_sld, o_tsw, o_lend, rmc_L_litShare, rms_L_litShare, rmc_X8_litShare, rms_X8_litShare, v0, v1, v2, v3, v4, v5, c0, c1, c2, c3, c4, c5, a1, a2, a3, a4, a5, w00, z0, w01, e0, e1]
  refine ⟨by omega, 214, σ, lm, lk, lf, thr, rfl, by omega, hM1, fun n2 E2 hn2 hM2 hk2 => ?_⟩
  rw [q_litShare_2 σ] at hM2
  have hT2 := lw_end hn hH1 hM2 hk2 hw ⟨_, h35⟩ ⟨_, hout⟩
  obtain ⟨x, hx⟩ : ∃ x, am_vl (.float FP.fconst0) (q_litShare σ).1 = .float x := lw_fv_litShare σ
  show am_kc _ _ _ _ _ _ (.inl (some (am_vl (.float FP.fconst0) (q_litShare σ).1))) n2 E2
  rw [hx]
  simp only [o_pi, o_pl, o_pf, o_pd, o_iload, o_lload, o_fload, o_dload, o_aload, o_istore, o_lstore, o_fstore, o_dstore, o_astore, o_iinc, o_ib, o_ibz, o_lb, o_lbz, o_lsh, o_lcmp, o_ineg, o_i2l, o_l2i, o_i2c, o_i2f, o_i2d, o_f2d, o_fdiv, o_ddiv, o_fcmp, o_dcmp, o_dup, o_dup2, o_pop, o_pop2, o_if_eq, o_if_ne, o_if_lt, o_if_ge, o_if_gt, o_if_le, o_ic_eq, o_ic_ne, o_ic_lt, o_ic_ge, o_ic_gt, o_ic_le, o_if, o_ic, o_getf, o_putf, o_ild, o_ist, o_lld, o_lst, o_dld, o_dst, o_ald, o_alen, o_new, o_newa, o_ast, o_oinit, o_iret, o_lret, o_fret, o_dret, o_aret, o_vret, o_throw, o_call, o_callV, am_kc, am_noX, o_im, o_ia, o_gets, o_ldcK, o_getK, o_codK, o_lenK, o_bldK, o_i2b, o_callK, o_mna, o_clone, o_castA, am_s1, am_s2, am_kill, am_inl, am_sl, Value.category, List.getElem?_cons_zero, List.getElem?_cons_succ, List.set_cons_zero, List.set_cons_succ, List.length_cons, List.length_nil, List.take_succ_cons, List.take_zero, List.drop_succ_cons, List.drop_zero, List.reverse_cons, List.reverse_nil, List.nil_append, List.cons_append, List.append_nil, List.map_cons, List.map_nil, List.sum_cons, List.sum_nil, List.replicate_succ, List.replicate_zero, Nat.zero_add, Nat.add_zero, Nat.le_refl, Nat.zero_le, ite_true, ite_false, if_true, if_false, true_and, and_true, eq_self, not_true_eq_false, not_false_eq_true, am_nb0, am_nb1, am_ni, am_fi, am_fr, am_fra, am_fz0, am_fz1, am_fl, am_uE, am_vnI, am_uu, am_ltx, ite_not, Classical.not_not, reduceIte, reduceCtorEq, Nat.reduceEqDiff, Nat.reduceAdd, Nat.reduceSub, Nat.reduceMul, Nat.reduceLeDiff, Nat.reduceLT, Int32.reduceLE, Int32.reduceLT, am_10, am_01, am_ite0, am_ite1, ms_boT, ms_boF, rmc_L_law, rms_L_law, lw_LG, o_slen, o_sld, o_tsw, o_lend, rmc_L_litShare, rms_L_litShare, rmc_X8_litShare, rms_X8_litShare, v0, v1, v2, v3, v4, v5, c0, c1, c2, c3, c4, c5, a1, a2, a3, a4, a5, w00, z0, w01, e0]
  exact hN _ _ _ _ _ _ _ _ (by omega) hT2 (by omega) (by omega)

set_option maxRecDepth 100000 in
set_option maxHeartbeats 4000000 in
theorem cs_checksum {L : Nat} {xs : Nat → Int32} {G : Nat → am_C} {i q : Nat} (hi : i + 6 ≤ L) (hL : L ≤ 3072) (hq5 : q < 512) (h1540 : am_imp (bk_L_law_1540 L xs G) (G 1540)) (hN : lw_N G i q) {σ : am_St} {n : Nat} {E : am_E} {l6 l7 l8 : Option Value} {ca sl : Nat} (hn : 337 ≤ n) (hT : lw_T σ E) (hca : ca ≤ 337 + 1173 * q) (hsl : sl ≤ 63960 + 14119 * q) : G 1540 (lw_LG i l6 l7 l8) [] n E ca sl := by
  obtain ⟨hHS, ⟨thr, lm, lk, lf, hM⟩, hw, ⟨g, hg⟩, g2, hg2⟩ := hT
  have v0 : vp_in (nI (i)) L = True := am_vi (show i < L by omega) (by omega)
  have c0 : (nI (i)).toNatClampNeg = i := am_cl (by omega)
  have v1 : vp_in (nI (i + 1)) L = True := am_vi (show i + 1 < L by omega) (by omega)
  have c1 : (nI (i + 1)).toNatClampNeg = i + 1 := am_cl (by omega)
  have a1 : nI i + 1 = nI (i + 1) := nI_add i 1
  have v2 : vp_in (nI (i + 2)) L = True := am_vi (show i + 2 < L by omega) (by omega)
  have c2 : (nI (i + 2)).toNatClampNeg = i + 2 := am_cl (by omega)
  have a2 : nI i + 2 = nI (i + 2) := nI_add i 2
  have v3 : vp_in (nI (i + 3)) L = True := am_vi (show i + 3 < L by omega) (by omega)
  have c3 : (nI (i + 3)).toNatClampNeg = i + 3 := am_cl (by omega)
  have a3 : nI i + 3 = nI (i + 3) := nI_add i 3
  have v4 : vp_in (nI (i + 4)) L = True := am_vi (show i + 4 < L by omega) (by omega)
  have c4 : (nI (i + 4)).toNatClampNeg = i + 4 := am_cl (by omega)
  have a4 : nI i + 4 = nI (i + 4) := nI_add i 4
  have v5 : vp_in (nI (i + 5)) L = True := am_vi (show i + 5 < L by omega) (by omega)
  have c5 : (nI (i + 5)).toNatClampNeg = i + 5 := am_cl (by omega)
  have a5 : nI i + 5 = nI (i + 5) := nI_add i 5
  have w00 : Int32.toNatClampNeg 0 = 0 := rfl
  have z0 : nI 0 = 0 := rfl
  have w01 : vp_in 0 1 := vp_in_nI (n := 0) (by decide) (by decide)
  obtain ⟨fs0, e0⟩ := lw_h0 hHS
  apply h1540
  unfold bk_L_law_1540
  simp only [o_pi, o_pl, o_pf, o_pd, o_iload, o_lload, o_fload, o_dload, o_aload, o_istore, o_lstore, o_fstore, o_dstore, o_astore, o_iinc, o_ib, o_ibz, o_lb, o_lbz, o_lsh, o_lcmp, o_ineg, o_i2l, o_l2i, o_i2c, o_i2f, o_i2d, o_f2d, o_fdiv, o_ddiv, o_fcmp, o_dcmp, o_dup, o_dup2, o_pop, o_pop2, o_if_eq, o_if_ne, o_if_lt, o_if_ge, o_if_gt, o_if_le, o_ic_eq, o_ic_ne, o_ic_lt, o_ic_ge, o_ic_gt, o_ic_le, o_if, o_ic, o_getf, o_putf, o_ild, o_ist, o_lld, o_lst, o_dld, o_dst, o_ald, o_alen, o_new, o_newa, o_ast, o_oinit, o_iret, o_lret, o_fret, o_dret, o_aret, o_vret, o_throw, o_call, o_callV, am_kc, am_noX, o_im, o_ia, o_gets, o_ldcK, o_getK, o_codK, o_lenK, o_bldK, o_i2b, o_callK, o_mna, o_clone, o_castA, am_s1, am_s2, am_kill, am_inl, am_sl, Value.category, List.getElem?_cons_zero, List.getElem?_cons_succ, List.set_cons_zero, List.set_cons_succ, List.length_cons, List.length_nil, List.take_succ_cons, List.take_zero, List.drop_succ_cons, List.drop_zero, List.reverse_cons, List.reverse_nil, List.nil_append, List.cons_append, List.append_nil, List.map_cons, List.map_nil, List.sum_cons, List.sum_nil, List.replicate_succ, List.replicate_zero, Nat.zero_add, Nat.add_zero, Nat.le_refl, Nat.zero_le, ite_true, ite_false, if_true, if_false, true_and, and_true, eq_self, not_true_eq_false, not_false_eq_true, am_nb0, am_nb1, am_ni, am_fi, am_fr, am_fra, am_fz0, am_fz1, am_fl, am_uE, am_vnI, am_uu, am_ltx, ite_not, Classical.not_not, reduceIte, reduceCtorEq, Nat.reduceEqDiff, Nat.reduceAdd, Nat.reduceSub, Nat.reduceMul, Nat.reduceLeDiff, Nat.reduceLT, Int32.reduceLE, Int32.reduceLT, am_10, am_01, am_ite0, am_ite1, ms_boT, ms_boF, rmc_L_law, rms_L_law, lw_LG, o_slen, o_sld, o_tsw, o_lend, rmc_X7_checksum, rms_X7_checksum, rmc_X8_checksum, rms_X8_checksum, v0, v1, v2, v3, v4, v5, c0, c1, c2, c3, c4, c5, a1, a2, a3, a4, a5, w00, z0, w01, e0]
  refine ⟨by omega, 0, σ, rfl, hHS, fun E1 hH1 hk1 => ?_⟩
  have hM1 : am_MT 214 E1 σ lm lk lf thr := lw_mt hM (fun j h1 h2 => hk1 j (Or.inr (by omega)))
  have h35 := (hk1 335 (Or.inr (by decide))).trans hg
  have h36 := (hk1 336 (Or.inr (by decide))).trans hg2
  obtain ⟨fs1, e1⟩ := lw_m0 hM1
  obtain ⟨v, hv⟩ : ∃ v, (q_checksum σ) = (.inl (some (.long v)), σ) := ⟨_, rfl⟩
  rw [hv] at hH1
  have hH1 : am_HS 0 E1 σ := hH1
  show am_kc _ _ _ _ _ _ (q_checksum σ).1 n E1
  rw [hv]
  show am_kc _ _ _ _ _ _ (.inl (some (.long v))) n E1
  simp only [o_pi, o_pl, o_pf, o_pd, o_iload, o_lload, o_fload, o_dload, o_aload, o_istore, o_lstore, o_fstore, o_dstore, o_astore, o_iinc, o_ib, o_ibz, o_lb, o_lbz, o_lsh, o_lcmp, o_ineg, o_i2l, o_l2i, o_i2c, o_i2f, o_i2d, o_f2d, o_fdiv, o_ddiv, o_fcmp, o_dcmp, o_dup, o_dup2, o_pop, o_pop2, o_if_eq, o_if_ne, o_if_lt, o_if_ge, o_if_gt, o_if_le, o_ic_eq, o_ic_ne, o_ic_lt, o_ic_ge, o_ic_gt, o_ic_le, o_if, o_ic, o_getf, o_putf, o_ild, o_ist, o_lld, o_lst, o_dld, o_dst, o_ald, o_alen, o_new, o_newa, o_ast, o_oinit, o_iret, o_lret, o_fret, o_dret, o_aret, o_vret, o_throw, o_call, o_callV, am_kc, am_noX, o_im, o_ia, o_gets, o_ldcK, o_getK, o_codK, o_lenK, o_bldK, o_i2b, o_callK, o_mna, o_clone, o_castA, am_s1, am_s2, am_kill, am_inl, am_sl, Value.category, List.getElem?_cons_zero, List.getElem?_cons_succ, List.set_cons_zero, List.set_cons_succ, List.length_cons, List.length_nil, List.take_succ_cons, List.take_zero, List.drop_succ_cons, List.drop_zero, List.reverse_cons, List.reverse_nil, List.nil_append, List.cons_append, List.append_nil, List.map_cons, List.map_nil, List.sum_cons, List.sum_nil, List.replicate_succ, List.replicate_zero, Nat.zero_add, Nat.add_zero, Nat.le_refl, Nat.zero_le, ite_true, ite_false, if_true, if_false, true_and, and_true, eq_self, not_true_eq_false, not_false_eq_true, am_nb0, am_nb1, am_ni, am_fi, am_fr, am_fra, am_fz0, am_fz1, am_fl, am_uE, am_vnI, am_uu, am_ltx, ite_not, Classical.not_not, reduceIte, reduceCtorEq, Nat.reduceEqDiff, Nat.reduceAdd, Nat.reduceSub, Nat.reduceMul, Nat.reduceLeDiff, Nat.reduceLT, Int32.reduceLE, Int32.reduceLT, am_10, am_01, am_ite0, am_ite1, ms_boT, ms_boF, rmc_L_law, rms_L_law, lw_LG, o_slen, o_sld, o_tsw, o_lend, rmc_X7_checksum, rms_X7_checksum, rmc_X8_checksum, rms_X8_checksum, v0, v1, v2, v3, v4, v5, c0, c1, c2, c3, c4, c5, a1, a2, a3, a4, a5, w00, z0, w01, e0, e1]
  refine ⟨by omega, 214, σ, lm, lk, lf, thr, rfl, by omega, hM1, fun n2 E2 hn2 hM2 hk2 => ?_⟩
  rw [hv] at hM2
  have hT2 := lw_end (σ := σ) hn hH1 hM2 hk2 hw ⟨_, h35⟩ ⟨_, h36⟩
  show am_kc _ _ _ _ _ _ (.inl (some (am_vl (.long 0) (q_checksum σ).1))) n2 E2
  rw [hv]
  show am_kc _ _ _ _ _ _ (.inl (some (.long v))) n2 E2
  simp only [o_pi, o_pl, o_pf, o_pd, o_iload, o_lload, o_fload, o_dload, o_aload, o_istore, o_lstore, o_fstore, o_dstore, o_astore, o_iinc, o_ib, o_ibz, o_lb, o_lbz, o_lsh, o_lcmp, o_ineg, o_i2l, o_l2i, o_i2c, o_i2f, o_i2d, o_f2d, o_fdiv, o_ddiv, o_fcmp, o_dcmp, o_dup, o_dup2, o_pop, o_pop2, o_if_eq, o_if_ne, o_if_lt, o_if_ge, o_if_gt, o_if_le, o_ic_eq, o_ic_ne, o_ic_lt, o_ic_ge, o_ic_gt, o_ic_le, o_if, o_ic, o_getf, o_putf, o_ild, o_ist, o_lld, o_lst, o_dld, o_dst, o_ald, o_alen, o_new, o_newa, o_ast, o_oinit, o_iret, o_lret, o_fret, o_dret, o_aret, o_vret, o_throw, o_call, o_callV, am_kc, am_noX, o_im, o_ia, o_gets, o_ldcK, o_getK, o_codK, o_lenK, o_bldK, o_i2b, o_callK, o_mna, o_clone, o_castA, am_s1, am_s2, am_kill, am_inl, am_sl, Value.category, List.getElem?_cons_zero, List.getElem?_cons_succ, List.set_cons_zero, List.set_cons_succ, List.length_cons, List.length_nil, List.take_succ_cons, List.take_zero, List.drop_succ_cons, List.drop_zero, List.reverse_cons, List.reverse_nil, List.nil_append, List.cons_append, List.append_nil, List.map_cons, List.map_nil, List.sum_cons, List.sum_nil, List.replicate_succ, List.replicate_zero, Nat.zero_add, Nat.add_zero, Nat.le_refl, Nat.zero_le, ite_true, ite_false, if_true, if_false, true_and, and_true, eq_self, not_true_eq_false, not_false_eq_true, am_nb0, am_nb1, am_ni, am_fi, am_fr, am_fra, am_fz0, am_fz1, am_fl, am_uE, am_vnI, am_uu, am_ltx, ite_not, Classical.not_not, reduceIte, reduceCtorEq, Nat.reduceEqDiff, Nat.reduceAdd, Nat.reduceSub, Nat.reduceMul, Nat.reduceLeDiff, Nat.reduceLT, Int32.reduceLE, Int32.reduceLT, am_10, am_01, am_ite0, am_ite1, ms_boT, ms_boF, rmc_L_law, rms_L_law, lw_LG, o_slen, o_sld, o_tsw, o_lend, rmc_X7_checksum, rms_X7_checksum, rmc_X8_checksum, rms_X8_checksum, v0, v1, v2, v3, v4, v5, c0, c1, c2, c3, c4, c5, a1, a2, a3, a4, a5, w00, z0, w01, e0]
  exact hN _ _ _ _ _ _ _ _ (by omega) hT2 (by omega) (by omega)

set_option maxRecDepth 100000 in
set_option maxHeartbeats 4000000 in
theorem cs_fire {L : Nat} {xs : Nat → Int32} {G : Nat → am_C} {i q : Nat} (hi : i + 6 ≤ L) (hL : L ≤ 3072) (hq5 : q < 512) (h920 : am_imp (bk_L_law_920 L xs G) (G 920)) (hN : lw_N G i q) {σ : am_St} {n : Nat} {E : am_E} {l6 l7 l8 : Option Value} {ca sl : Nat} (hn : 337 ≤ n) (hT : lw_T σ E) (hca : ca ≤ 337 + 1173 * q) (hsl : sl ≤ 63960 + 14119 * q) : G 920 (lw_LG i l6 l7 l8) [] n E ca sl := by
  obtain ⟨hHS, ⟨thr, lm, lk, lf, hM⟩, hw, ⟨g, hg⟩, g2, hg2⟩ := hT
  have v0 : vp_in (nI (i)) L = True := am_vi (show i < L by omega) (by omega)
  have c0 : (nI (i)).toNatClampNeg = i := am_cl (by omega)
  have v1 : vp_in (nI (i + 1)) L = True := am_vi (show i + 1 < L by omega) (by omega)
  have c1 : (nI (i + 1)).toNatClampNeg = i + 1 := am_cl (by omega)
  have a1 : nI i + 1 = nI (i + 1) := nI_add i 1
  have v2 : vp_in (nI (i + 2)) L = True := am_vi (show i + 2 < L by omega) (by omega)
  have c2 : (nI (i + 2)).toNatClampNeg = i + 2 := am_cl (by omega)
  have a2 : nI i + 2 = nI (i + 2) := nI_add i 2
  have v3 : vp_in (nI (i + 3)) L = True := am_vi (show i + 3 < L by omega) (by omega)
  have c3 : (nI (i + 3)).toNatClampNeg = i + 3 := am_cl (by omega)
  have a3 : nI i + 3 = nI (i + 3) := nI_add i 3
  have v4 : vp_in (nI (i + 4)) L = True := am_vi (show i + 4 < L by omega) (by omega)
  have c4 : (nI (i + 4)).toNatClampNeg = i + 4 := am_cl (by omega)
  have a4 : nI i + 4 = nI (i + 4) := nI_add i 4
  have v5 : vp_in (nI (i + 5)) L = True := am_vi (show i + 5 < L by omega) (by omega)
  have c5 : (nI (i + 5)).toNatClampNeg = i + 5 := am_cl (by omega)
  have a5 : nI i + 5 = nI (i + 5) := nI_add i 5
  have w00 : Int32.toNatClampNeg 0 = 0 := rfl
  have z0 : nI 0 = 0 := rfl
  have w01 : vp_in 0 1 := vp_in_nI (n := 0) (by decide) (by decide)
  obtain ⟨fs0, e0⟩ := lw_h0 hHS
  obtain ⟨fa, hfa, hfx⟩ := lw_nat (xs (i + 1))
  apply h920
  unfold bk_L_law_920
  simp only [o_pi, o_pl, o_pf, o_pd, o_iload, o_lload, o_fload, o_dload, o_aload, o_istore, o_lstore, o_fstore, o_dstore, o_astore, o_iinc, o_ib, o_ibz, o_lb, o_lbz, o_lsh, o_lcmp, o_ineg, o_i2l, o_l2i, o_i2c, o_i2f, o_i2d, o_f2d, o_fdiv, o_ddiv, o_fcmp, o_dcmp, o_dup, o_dup2, o_pop, o_pop2, o_if_eq, o_if_ne, o_if_lt, o_if_ge, o_if_gt, o_if_le, o_ic_eq, o_ic_ne, o_ic_lt, o_ic_ge, o_ic_gt, o_ic_le, o_if, o_ic, o_getf, o_putf, o_ild, o_ist, o_lld, o_lst, o_dld, o_dst, o_ald, o_alen, o_new, o_newa, o_ast, o_oinit, o_iret, o_lret, o_fret, o_dret, o_aret, o_vret, o_throw, o_call, o_callV, am_kc, am_noX, o_im, o_ia, o_gets, o_ldcK, o_getK, o_codK, o_lenK, o_bldK, o_i2b, o_callK, o_mna, o_clone, o_castA, am_s1, am_s2, am_kill, am_inl, am_sl, Value.category, List.getElem?_cons_zero, List.getElem?_cons_succ, List.set_cons_zero, List.set_cons_succ, List.length_cons, List.length_nil, List.take_succ_cons, List.take_zero, List.drop_succ_cons, List.drop_zero, List.reverse_cons, List.reverse_nil, List.nil_append, List.cons_append, List.append_nil, List.map_cons, List.map_nil, List.sum_cons, List.sum_nil, List.replicate_succ, List.replicate_zero, Nat.zero_add, Nat.add_zero, Nat.le_refl, Nat.zero_le, ite_true, ite_false, if_true, if_false, true_and, and_true, eq_self, not_true_eq_false, not_false_eq_true, am_nb0, am_nb1, am_ni, am_fi, am_fr, am_fra, am_fz0, am_fz1, am_fl, am_uE, am_vnI, am_uu, am_ltx, ite_not, Classical.not_not, reduceIte, reduceCtorEq, Nat.reduceEqDiff, Nat.reduceAdd, Nat.reduceSub, Nat.reduceMul, Nat.reduceLeDiff, Nat.reduceLT, Int32.reduceLE, Int32.reduceLT, am_10, am_01, am_ite0, am_ite1, ms_boT, ms_boF, rmc_L_law, rms_L_law, lw_LG, o_slen, o_sld, o_tsw, o_lend, rmc_L_fire, rms_L_fire, rmc_X8_fire, rms_X8_fire, v0, v1, v2, v3, v4, v5, c0, c1, c2, c3, c4, c5, a1, a2, a3, a4, a5, w00, z0, w01, e0, hfx]
  refine ⟨by omega, 0, σ, (fa), (xs (i + 2)), 335, g, hfa, hw.2.2, rfl, hHS, Or.inr (by decide), hg, fun E1 g1 hH1 hk1 hout hval => ?_⟩
  have hM1 : am_MT 214 E1 σ lm lk lf thr := lw_mt hM (fun j h1 h2 => hk1 j (Or.inr (by omega)) (by omega))
  have h36 := (hk1 336 (Or.inr (by decide)) (by decide)).trans hg2
  obtain ⟨fs1, e1⟩ := lw_m0 hM1
  show am_kc _ _ _ _ _ _ (.inl (some (.int (nI (am_th L_AU (q_fire σ (fa) (xs (i + 2))).1))))) n E1
  simp only [o_pi, o_pl, o_pf, o_pd, o_iload, o_lload, o_fload, o_dload, o_aload, o_istore, o_lstore, o_fstore, o_dstore, o_astore, o_iinc, o_ib, o_ibz, o_lb, o_lbz, o_lsh, o_lcmp, o_ineg, o_i2l, o_l2i, o_i2c, o_i2f, o_i2d, o_f2d, o_fdiv, o_ddiv, o_fcmp, o_dcmp, o_dup, o_dup2, o_pop, o_pop2, o_if_eq, o_if_ne, o_if_lt, o_if_ge, o_if_gt, o_if_le, o_ic_eq, o_ic_ne, o_ic_lt, o_ic_ge, o_ic_gt, o_ic_le, o_if, o_ic, o_getf, o_putf, o_ild, o_ist, o_lld, o_lst, o_dld, o_dst, o_ald, o_alen, o_new, o_newa, o_ast, o_oinit, o_iret, o_lret, o_fret, o_dret, o_aret, o_vret, o_throw, o_call, o_callV, am_kc, am_noX, o_im, o_ia, o_gets, o_ldcK, o_getK, o_codK, o_lenK, o_bldK, o_i2b, o_callK, o_mna, o_clone, o_castA, am_s1, am_s2, am_kill, am_inl, am_sl, Value.category, List.getElem?_cons_zero, List.getElem?_cons_succ, List.set_cons_zero, List.set_cons_succ, List.length_cons, List.length_nil, List.take_succ_cons, List.take_zero, List.drop_succ_cons, List.drop_zero, List.reverse_cons, List.reverse_nil, List.nil_append, List.cons_append, List.append_nil, List.map_cons, List.map_nil, List.sum_cons, List.sum_nil, List.replicate_succ, List.replicate_zero, Nat.zero_add, Nat.add_zero, Nat.le_refl, Nat.zero_le, ite_true, ite_false, if_true, if_false, true_and, and_true, eq_self, not_true_eq_false, not_false_eq_true, am_nb0, am_nb1, am_ni, am_fi, am_fr, am_fra, am_fz0, am_fz1, am_fl, am_uE, am_vnI, am_uu, am_ltx, ite_not, Classical.not_not, reduceIte, reduceCtorEq, Nat.reduceEqDiff, Nat.reduceAdd, Nat.reduceSub, Nat.reduceMul, Nat.reduceLeDiff, Nat.reduceLT, Int32.reduceLE, Int32.reduceLT, am_10, am_01, am_ite0, am_ite1, ms_boT, ms_boF, rmc_L_law, rms_L_law, lw_LG, o_slen, o_sld, o_tsw, o_lend, rmc_L_fire, rms_L_fire, rmc_X8_fire, rms_X8_fire, v0, v1, v2, v3, v4, v5, c0, c1, c2, c3, c4, c5, a1, a2, a3, a4, a5, w00, z0, w01, e0, e1, hfx]
  refine ⟨by omega, 214, σ, lm, lk, lf, thr, (fa), (xs (i + 2)), rfl, by omega, hM1, hfa, fun n2 E2 hn2 hM2 hk2 => ?_⟩
  have hok := ok9_fire σ (fa) (xs (i + 2))
  have hiw := iw_fire hw (fa) (xs (i + 2))
  have hM2 : am_MS 214 E2 (q_fire σ (fa) (xs (i + 2))).2 (nI (am_th L_AU (q_fire σ (fa) (xs (i + 2))).1)) := hM2
  have hT2 := lw_end hn hH1 hM2 hk2 hiw ⟨_, hout⟩ ⟨_, h36⟩
  show am_kc _ _ _ _ _ _ (.inl (some (am_vl (.int 0) (q_fire σ (fa) (xs (i + 2))).1))) n2 E2
  generalize (q_fire σ (fa) (xs (i + 2))) = rr at hok hT2 ⊢
  rcases hok with ⟨v, σ2, hv, rfl⟩ | ⟨C, σ2, hC9, rfl⟩
  · show am_kc _ _ _ _ _ _ (.inl (some (.int v))) n2 E2
    simp only [o_pi, o_pl, o_pf, o_pd, o_iload, o_lload, o_fload, o_dload, o_aload, o_istore, o_lstore, o_fstore, o_dstore, o_astore, o_iinc, o_ib, o_ibz, o_lb, o_lbz, o_lsh, o_lcmp, o_ineg, o_i2l, o_l2i, o_i2c, o_i2f, o_i2d, o_f2d, o_fdiv, o_ddiv, o_fcmp, o_dcmp, o_dup, o_dup2, o_pop, o_pop2, o_if_eq, o_if_ne, o_if_lt, o_if_ge, o_if_gt, o_if_le, o_ic_eq, o_ic_ne, o_ic_lt, o_ic_ge, o_ic_gt, o_ic_le, o_if, o_ic, o_getf, o_putf, o_ild, o_ist, o_lld, o_lst, o_dld, o_dst, o_ald, o_alen, o_new, o_newa, o_ast, o_oinit, o_iret, o_lret, o_fret, o_dret, o_aret, o_vret, o_throw, o_call, o_callV, am_kc, am_noX, o_im, o_ia, o_gets, o_ldcK, o_getK, o_codK, o_lenK, o_bldK, o_i2b, o_callK, o_mna, o_clone, o_castA, am_s1, am_s2, am_kill, am_inl, am_sl, Value.category, List.getElem?_cons_zero, List.getElem?_cons_succ, List.set_cons_zero, List.set_cons_succ, List.length_cons, List.length_nil, List.take_succ_cons, List.take_zero, List.drop_succ_cons, List.drop_zero, List.reverse_cons, List.reverse_nil, List.nil_append, List.cons_append, List.append_nil, List.map_cons, List.map_nil, List.sum_cons, List.sum_nil, List.replicate_succ, List.replicate_zero, Nat.zero_add, Nat.add_zero, Nat.le_refl, Nat.zero_le, ite_true, ite_false, if_true, if_false, true_and, and_true, eq_self, not_true_eq_false, not_false_eq_true, am_nb0, am_nb1, am_ni, am_fi, am_fr, am_fra, am_fz0, am_fz1, am_fl, am_uE, am_vnI, am_uu, am_ltx, ite_not, Classical.not_not, reduceIte, reduceCtorEq, Nat.reduceEqDiff, Nat.reduceAdd, Nat.reduceSub, Nat.reduceMul, Nat.reduceLeDiff, Nat.reduceLT, Int32.reduceLE, Int32.reduceLT, am_10, am_01, am_ite0, am_ite1, ms_boT, ms_boF, rmc_L_law, rms_L_law, lw_LG, o_slen, o_sld, o_tsw, o_lend, rmc_L_fire, rms_L_fire, rmc_X8_fire, rms_X8_fire, v0, v1, v2, v3, v4, v5, c0, c1, c2, c3, c4, c5, a1, a2, a3, a4, a5, w00, z0, w01, e0]
    exact hN _ _ _ _ _ _ _ _ (by omega) hT2 (by omega) (by omega)
  · show am_kc _ _ _ _ _ _ (.inl (some (.int 0))) n2 E2
    simp only [o_pi, o_pl, o_pf, o_pd, o_iload, o_lload, o_fload, o_dload, o_aload, o_istore, o_lstore, o_fstore, o_dstore, o_astore, o_iinc, o_ib, o_ibz, o_lb, o_lbz, o_lsh, o_lcmp, o_ineg, o_i2l, o_l2i, o_i2c, o_i2f, o_i2d, o_f2d, o_fdiv, o_ddiv, o_fcmp, o_dcmp, o_dup, o_dup2, o_pop, o_pop2, o_if_eq, o_if_ne, o_if_lt, o_if_ge, o_if_gt, o_if_le, o_ic_eq, o_ic_ne, o_ic_lt, o_ic_ge, o_ic_gt, o_ic_le, o_if, o_ic, o_getf, o_putf, o_ild, o_ist, o_lld, o_lst, o_dld, o_dst, o_ald, o_alen, o_new, o_newa, o_ast, o_oinit, o_iret, o_lret, o_fret, o_dret, o_aret, o_vret, o_throw, o_call, o_callV, am_kc, am_noX, o_im, o_ia, o_gets, o_ldcK, o_getK, o_codK, o_lenK, o_bldK, o_i2b, o_callK, o_mna, o_clone, o_castA, am_s1, am_s2, am_kill, am_inl, am_sl, Value.category, List.getElem?_cons_zero, List.getElem?_cons_succ, List.set_cons_zero, List.set_cons_succ, List.length_cons, List.length_nil, List.take_succ_cons, List.take_zero, List.drop_succ_cons, List.drop_zero, List.reverse_cons, List.reverse_nil, List.nil_append, List.cons_append, List.append_nil, List.map_cons, List.map_nil, List.sum_cons, List.sum_nil, List.replicate_succ, List.replicate_zero, Nat.zero_add, Nat.add_zero, Nat.le_refl, Nat.zero_le, ite_true, ite_false, if_true, if_false, true_and, and_true, eq_self, not_true_eq_false, not_false_eq_true, am_nb0, am_nb1, am_ni, am_fi, am_fr, am_fra, am_fz0, am_fz1, am_fl, am_uE, am_vnI, am_uu, am_ltx, ite_not, Classical.not_not, reduceIte, reduceCtorEq, Nat.reduceEqDiff, Nat.reduceAdd, Nat.reduceSub, Nat.reduceMul, Nat.reduceLeDiff, Nat.reduceLT, Int32.reduceLE, Int32.reduceLT, am_10, am_01, am_ite0, am_ite1, ms_boT, ms_boF, rmc_L_law, rms_L_law, lw_LG, o_slen, o_sld, o_tsw, o_lend, rmc_L_fire, rms_L_fire, rmc_X8_fire, rms_X8_fire, v0, v1, v2, v3, v4, v5, c0, c1, c2, c3, c4, c5, a1, a2, a3, a4, a5, w00, z0, w01, e0]
    exact hN _ _ _ _ _ _ _ _ (by omega) hT2 (by omega) (by omega)
