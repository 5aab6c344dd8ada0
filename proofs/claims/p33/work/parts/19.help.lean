/-! ===== helpers for the reference's methods ===== -/
def am_hg (σ : am_St) (v : Int32) : Bool := decide (0 ≤ v) && decide (¬ σ 3 v.toNatClampNeg 0 = 45)
theorem am_hg_n (σ : am_St) {q : Nat} (hq : q < 30) : am_hg σ (nI q) = decide (¬ σ 3 q 0 = 45) := by
  unfold am_hg
  rw [decide_eq_true (am_pcn hq).1, nI_clamp (by omega)]
  rfl
def am_sa (P : Nat → Nat → Bool) : Nat → Int32 := fun k => ms_bo (P (k % 12) (k / 12))
theorem am_sa_hi {P : Nat → Nat → Bool} (h : am_sup P) : ∀ k, 144 ≤ k → am_sa P k = 0 := fun k hk => by
  unfold am_sa
  rw [am_sup_y h (by omega)]
  rfl
theorem am_vb0 : vp_nar .boolean 0 = 0 := rfl
theorem am_vb1 : vp_nar .boolean 1 = 1 := rfl
theorem ms_bo_i (b : Bool) : (if b = true then (1 : Int32) else 0) = ms_bo b := rfl
theorem ms_boT : ms_bo true = 1 := rfl
theorem ms_boF : ms_bo false = 0 := rfl
abbrev L_A : List String := [x_IA]
theorem th_A_1 : am_th L_A (.inr x_IA) = 1 := by decide +kernel
abbrev L_AU : List String := [x_IA, x_UO]
theorem th_AU_1 : am_th L_AU (.inr x_IA) = 1 := by decide +kernel
theorem th_AU_2 : am_th L_AU (.inr x_UO) = 2 := by decide +kernel
abbrev L_OAU : List String := [x_IO, x_IA, x_UO]
theorem th_OAU_1 : am_th L_OAU (.inr x_IO) = 1 := by decide +kernel
theorem th_OAU_2 : am_th L_OAU (.inr x_IA) = 2 := by decide +kernel
theorem th_OAU_3 : am_th L_OAU (.inr x_UO) = 3 := by decide +kernel
abbrev L_O : List String := [x_IO]
theorem th_O_1 : am_th L_O (.inr x_IO) = 1 := by decide +kernel
abbrev L_OU : List String := [x_IO, x_UO]
theorem th_OU_1 : am_th L_OU (.inr x_IO) = 1 := by decide +kernel
theorem th_OU_2 : am_th L_OU (.inr x_UO) = 2 := by decide +kernel
abbrev L_OUS : List String := [x_IO, x_UO, x_IS]
theorem th_OUS_1 : am_th L_OUS (.inr x_IO) = 1 := by decide +kernel
theorem th_OUS_2 : am_th L_OUS (.inr x_UO) = 2 := by decide +kernel
theorem th_OUS_3 : am_th L_OUS (.inr x_IS) = 3 := by decide +kernel
abbrev L_AS : List String := [x_IA, x_IS]
theorem th_AS_1 : am_th L_AS (.inr x_IA) = 1 := by decide +kernel
theorem th_AS_2 : am_th L_AS (.inr x_IS) = 2 := by decide +kernel
abbrev L_ON : List String := [x_IO, x_NE]
theorem th_ON_1 : am_th L_ON (.inr x_IO) = 1 := by decide +kernel
theorem th_ON_2 : am_th L_ON (.inr x_NE) = 2 := by decide +kernel
abbrev L_OAUS : List String := [x_IO, x_IA, x_UO, x_IS]
theorem th_OAUS_1 : am_th L_OAUS (.inr x_IO) = 1 := by decide +kernel
theorem th_OAUS_2 : am_th L_OAUS (.inr x_IA) = 2 := by decide +kernel
theorem th_OAUS_3 : am_th L_OAUS (.inr x_UO) = 3 := by decide +kernel
theorem th_OAUS_4 : am_th L_OAUS (.inr x_IS) = 4 := by decide +kernel
abbrev L_OA : List String := [x_IO, x_IA]
theorem th_OA_1 : am_th L_OA (.inr x_IO) = 1 := by decide +kernel
theorem th_OA_2 : am_th L_OA (.inr x_IA) = 2 := by decide +kernel
abbrev L_N : List String := [x_NE]
theorem th_N_1 : am_th L_N (.inr x_NE) = 1 := by decide +kernel
abbrev L_U : List String := [x_UO]
theorem th_U_1 : am_th L_U (.inr x_UO) = 1 := by decide +kernel
theorem am_mpi_x {m n n' t : Nat} {E E' : am_E} {K : am_P} {d : Value} {L : List String} {C : String} {σ : am_St} {lm : Nat → Nat} {lk : Nat → Nat → Nat} {lf : Nat → Nat → Bool} (hK : am_mpi m n E K d L (r_x C σ)) (ht : am_th L (.inr C) = t) (h : am_MT m E' σ lm lk lf (nI t)) (hn : n ≤ n') (hk : am_km m n E E') : K (.inl (some d)) n' E' :=
  hK n' E' hn (by
    show am_MS m E' σ (nI (am_th L (.inr C)))
    rw [ht]
    exact ⟨lm, lk, lf, h⟩) hk
theorem am_mpi_i {m n n' : Nat} {E E' : am_E} {K : am_P} {d : Value} {L : List String} {v : Int32} {σ : am_St} {lm : Nat → Nat} {lk : Nat → Nat → Nat} {lf : Nat → Nat → Bool} (hK : am_mpi m n E K d L (r_i v σ)) (h : am_MT m E' σ lm lk lf 0) (hn : n ≤ n') (hk : am_km m n E E') : K (.inl (some (.int v))) n' E' := hK n' E' hn ⟨lm, lk, lf, h⟩ hk
theorem am_ly_sum {lk : Nat → Nat} {f : Nat → Bool} : ∀ N, (∀ i, i < N → ∃ k, k < 4 ∧ lk i = am_kl k) → fb_sm (fun k => fb_ct (fun i => decide (lk i = am_kl k) && f i) N) 4 = fb_ct f N := by
  intro N
  induction N with
  | zero => intro _; rfl
  | succ N ih =>
    intro h
    have e := ih (fun i hi => h i (by omega))
    obtain ⟨k, hk, hl⟩ := h N (by omega)
    have es : ∀ g : Nat → Bool, fb_ct g (N + 1) = fb_ct g N + (if g N = true then 1 else 0) := fun _ => rfl
    simp only [fb_sm, es] at e ⊢
    rw [hl]
    generalize fb_ct (fun i => decide (lk i = am_kl 0) && f i) N = z0 at e ⊢
    generalize fb_ct (fun i => decide (lk i = am_kl 1) && f i) N = z1 at e ⊢
    generalize fb_ct (fun i => decide (lk i = am_kl 2) && f i) N = z2 at e ⊢
    generalize fb_ct (fun i => decide (lk i = am_kl 3) && f i) N = z3 at e ⊢
    rcases (show k = 0 ∨ k = 1 ∨ k = 2 ∨ k = 3 by omega) with rfl | rfl | rfl | rfl <;> (simp [am_kl]; omega)
theorem am_ly_r {σ : am_St} {lm : Nat → Nat} {lk : Nat → Nat → Nat} {lf : Nat → Nat → Bool} (h : am_ly σ lm lk lf) {p : Nat} (hp : p < 30) : fb_sm (σ 6 p) 4 = fb_ct (fun i => !lf p i) (lm p) ∧ fb_sm (σ 7 p) 4 = fb_ct (fun i => lf p i) (lm p) := by
  obtain ⟨h1, h2, h3⟩ := h p hp
  constructor
  · rw [← am_ly_sum (lk := lk p) (f := fun i => !lf p i) (lm p) h2]
    exact fb_sm_cong (fun k hk => (h3 k hk).1)
  · rw [← am_ly_sum (lk := lk p) (f := fun i => lf p i) (lm p) h2]
    exact fb_sm_cong (fun k hk => (h3 k hk).2)
theorem s0_shp {p : Nat} (hp : p < 30) : am_shp (st_f am_s0) (nI p) = am_non := by
  funext x y
  unfold am_shp am_non
  refine decide_eq_false (fun q => ?_)
  rw [s0_f (by omega)] at q
  exact am_m2n (show p < 1000 by omega) q.2.2
theorem am_hi_non : am_hi am_non = 101 := by
  unfold am_hi
  exact if_pos (am_sz_0 (fun _ _ => rfl))
theorem am_co_non : nI (am_co am_non) = 0 := by
  have : am_co am_non = 0 := by decide +kernel
  rw [this]; rfl
theorem am_pt_non : nI (am_pt am_non) = 0 := by
  have : am_pt am_non = 0 := by decide +kernel
  rw [this]; rfl
theorem s0_lsd : am_lsd (st_f am_s0) = 0 := by
  unfold am_lsd
  have e : (fun j => fb_sm (fun i => am_lb (am_wa (st_f am_s0) i (j + 1)) (am_wa (st_f am_s0) (i + 1) (j + 1)) + am_lb (am_wa (st_f am_s0) (i + 1) j) (am_wa (st_f am_s0) (i + 1) (j + 1))) 13) = fun _ => 0 := by
    funext j
    have e2 : (fun i => am_lb (am_wa (st_f am_s0) i (j + 1)) (am_wa (st_f am_s0) (i + 1) (j + 1)) + am_lb (am_wa (st_f am_s0) (i + 1) j) (am_wa (st_f am_s0) (i + 1) (j + 1))) = fun _ => 0 := by
      funext i
      simp only [s0_wa]
      rfl
    rw [e2]
    rfl
  rw [e]
  rfl
theorem s0_mts : am_mts (st_f am_s0) = 0 := by
  unfold am_mts
  have e : (fun j => fb_ct (fun i => am_mtp (st_f am_s0) i j) 13) = fun _ => 0 := by
    funext j
    have e2 : (fun i => am_mtp (st_f am_s0) i j) = fun _ => false := by
      funext i
      unfold am_mtp
      simp only [s0_wa]
      rfl
    rw [e2]
    rfl
  rw [e]
  rfl
theorem s0_hp {p : Nat} (hp : p < 30) : am_hp (st_f am_s0) 144 p = false := by
  unfold am_hp
  have h : ∀ n, n ≤ 144 → am_any (fun c => decide (st_f am_s0 c = nI p)) n = false := by
    intro n
    induction n with
    | zero => intro _; rfl
    | succ n ih =>
      intro hn
      rw [am_any_s, ih (by omega), s0_f (show n < 144 by omega), decide_eq_false (fun q => am_m2n (show p < 1000 by omega) q)]
      rfl
  exact h 144 (by omega)
theorem s0_size {σ : am_St} (h : σ = am_s0) {i : Nat} (hi : i < 30) : nI (fb_ct (fun k => decide (st_f σ k = nI i)) 144) = 0 := by
  rw [fb_ct_zero.mpr (fun k hk => decide_eq_false (by rw [h, s0_f hk]; exact fun q => am_m2n (show i < 1000 by omega) q))]
  rfl
theorem am_le9 {x : Int32} : x ≤ 9 ↔ ¬ 10 ≤ x := by
  rw [Int32.le_iff_toInt_le, Int32.le_iff_toInt_le]
  show x.toInt ≤ 9 ↔ ¬ (10 : Int) ≤ x.toInt
  omega
theorem am_vcn {q : Nat} (h : q < 65536) : vp_nar .char (nI q) = nI q := by
  have := (pk_charN h).1
  unfold vp_nar
  first | exact this | (rw [this]) | simp [this]
theorem ms_want {m : Nat} {E : am_E} {σ : am_St} {lm : Nat → Nat} {lk : Nat → Nat → Nat} {lf : Nat → Nat → Bool} {thr : Int32} (h : am_MT m E σ lm lk lf thr) {i c t : Nat} (hi : i < 30) (hc : c < 10) (ht : t = 45 ∨ t = 104 ∨ t = 118) : am_MT m (am_u (am_u E (m + 2) (.inl (0, 30, .inl (upd (fun p => nI (σ 1 p 0)) i (nI c))))) (m + 3) (.inl (2, 30, .inl (upd (fun p => nI (σ 2 p 0)) i (nI t))))) (am_st1 (am_st1 σ 1 i c) 2 i t) lm lk lf thr := by
  have hv := h.1.2.1 i hi
  have h1 : am_MT m (am_u E (m + 2) (.inl (0, 30, .inl (upd (fun p => nI (σ 1 p 0)) i (nI c))))) (am_st1 σ 1 i c) lm lk lf thr := by
    refine ms_u (k0 := 2) h (am_iv_p h.1 (fun q hq => am_st1_q (by omega)) (fun q j hj => am_st1_j hj) ⟨by rw [am_st1_s]; exact hc, hv.2⟩) h.2.1 ?_ (fun k hk hn => ?_)
    · show _ = (Sum.inl (0, 30, .inl (fun p => nI (am_st1 σ 1 i c 1 p 0))) : va_E)
      congr 4
      funext k
      unfold upd
      by_cases e : k = i
      · subst e
        rw [if_pos rfl, am_st1_s]
      · rw [if_neg e, am_st1_j e]
    · unfold ms_E
      rw [if_neg hn, if_neg hn]
      rfl
  refine ms_u (k0 := 3) h1 (am_iv_p h1.1 (fun q hq => am_st1_q (by omega)) (fun q j hj => am_st1_j hj) ⟨by show am_st1 σ 1 i c 1 i 0 < 10; rw [am_st1_s]; exact hc, by rw [am_st1_s]; exact ht, hv.2.2⟩) h1.2.1 ?_ (fun k hk hn => ?_)
  · show _ = (Sum.inl (2, 30, .inl (fun p => nI (am_st1 (am_st1 σ 1 i c) 2 i t 2 p 0))) : va_E)
    congr 4
    funext k
    unfold upd
    by_cases e : k = i
    · subst e
      rw [if_pos rfl, am_st1_s]
    · rw [if_neg e, am_st1_j e]
      rfl
  · unfold ms_E
    rw [if_neg hn, if_neg hn]
    rfl
theorem am_ite {c : Prop} [Decidable c] {α : Type} {a x y : α} (h : ¬ c → x = y) : (if c then a else x) = (if c then a else y) := by
  by_cases hc : c
  · rw [if_pos hc, if_pos hc]
  · rw [if_neg hc, if_neg hc, h hc]
theorem ms_shs {m : Nat} {E : am_E} {σ : am_St} {lm : Nat → Nat} {lk : Nat → Nat → Nat} {lf : Nat → Nat → Bool} (h : am_MT m E σ lm lk lf 0) (hj : σ 15 0 0 < 8) {c w t s : Nat} (hc : c < 10) (hw : w ≤ 12) (ht : t ≤ 12) (hs : s = 104 ∨ s = 118) : am_MT m (am_u (am_u (am_u E (m + 71 + σ 15 0 0) (.inl (0, 3, .inl (upd (upd (upd (ms_sh σ (σ 15 0 0)) 0 (nI c)) 1 (nI w)) 2 (nI t))))) (m + 79) (.inl (2, 8, .inl (upd (fun j => if j < σ 15 0 0 then nI (σ 12 j 0) else 0) (σ 15 0 0) (nI s))))) m (.inr (8, [.ref (m + 1), .ref (m + 2), .ref (m + 3), .ref (m + 4), .ref (m + 5), .ref (m + 6), .ref (m + 7), .ref (m + 38), .ref (m + 69), .ref (m + 70), .ref (m + 79), .ref (m + 80), .ref (m + 89), .ref (m + 90), .int (nI (σ 15 0 0 + 1)), .int (nI (σ 15 7 0)), .int (nI (σ 15 1 0)), .int (nI (σ 15 2 0)), .int (nI (σ 15 3 0)), .int (if σ 15 4 0 = 0 then -1 else nI (σ 15 5 0)), .long (lN (σ 15 6 0)), .int 0]))) (am_shs σ c w t s) lm lk lf 0 := by
  unfold am_shs
  generalize hj0 : σ 15 0 0 = j at hj ⊢
  have e1 : am_st1 (am_st1 (am_st1 (am_st1 (am_st1 σ 9 j c) 10 j w) 11 j t) 12 j s) 15 0 (j + 1) 9 j 0 = c := by rw [am_st1_q (by decide), am_st1_q (by decide), am_st1_q (by decide), am_st1_q (by decide), am_st1_s]
  have e2 : am_st1 (am_st1 (am_st1 (am_st1 (am_st1 σ 9 j c) 10 j w) 11 j t) 12 j s) 15 0 (j + 1) 10 j 0 = w := by rw [am_st1_q (by decide), am_st1_q (by decide), am_st1_q (by decide), am_st1_s]
  have e3 : am_st1 (am_st1 (am_st1 (am_st1 (am_st1 σ 9 j c) 10 j w) 11 j t) 12 j s) 15 0 (j + 1) 11 j 0 = t := by rw [am_st1_q (by decide), am_st1_q (by decide), am_st1_s]
  have e4 : am_st1 (am_st1 (am_st1 (am_st1 (am_st1 σ 9 j c) 10 j w) 11 j t) 12 j s) 15 0 (j + 1) 12 j 0 = s := by rw [am_st1_q (by decide), am_st1_s]
  have e5 : am_st1 (am_st1 (am_st1 (am_st1 (am_st1 σ 9 j c) 10 j w) 11 j t) 12 j s) 15 0 (j + 1) 15 0 0 = j + 1 := am_st1_s
  have q9 : ∀ q, q ≠ 15 → ¬ (9 ≤ q ∧ q ≤ 12) → am_st1 (am_st1 (am_st1 (am_st1 (am_st1 σ 9 j c) 10 j w) 11 j t) 12 j s) 15 0 (j + 1) q = σ q := fun q h15 hq => (am_st1_q h15).trans ((am_st1_q (by omega)).trans ((am_st1_q (by omega)).trans ((am_st1_q (by omega)).trans (am_st1_q (by omega)))))
  have j9 : ∀ q i, q ≠ 15 → i ≠ j → am_st1 (am_st1 (am_st1 (am_st1 (am_st1 σ 9 j c) 10 j w) 11 j t) 12 j s) 15 0 (j + 1) q i = σ q i := fun q i h15 hi => (congrFun (am_st1_q h15) i).trans ((am_st1_j hi).trans ((am_st1_j hi).trans ((am_st1_j hi).trans (am_st1_j hi))))
  have s9 : ∀ i, i ≠ 0 → am_st1 (am_st1 (am_st1 (am_st1 (am_st1 σ 9 j c) 10 j w) 11 j t) 12 j s) 15 0 (j + 1) 15 i 0 = σ 15 i 0 := fun i hi => by rw [am_st1_j hi]; rfl
  have hiv : am_iv (am_st1 (am_st1 (am_st1 (am_st1 (am_st1 σ 9 j c) 10 j w) 11 j t) 12 j s) 15 0 (j + 1)) := by
    refine am_iv_15 (am_iv_s (j := j) h.1 (fun q hq => (am_st1_q (by omega)).trans ((am_st1_q (by omega)).trans ((am_st1_q (by omega)).trans (am_st1_q (by omega))))) (fun q i hi => (am_st1_j hi).trans ((am_st1_j hi).trans ((am_st1_j hi).trans (am_st1_j hi)))) ⟨?_, ?_, ?_, ?_⟩) (fun _ => by omega)
    · exact (congrArg (· < 10) e1).mpr hc
    · exact (congrArg (· ≤ 12) e2).mpr hw
    · exact (congrArg (· ≤ 12) e3).mpr ht
    · rw [show am_st1 (am_st1 (am_st1 (am_st1 σ 9 j c) 10 j w) 11 j t) 12 j s 12 j 0 = s from e4]
      exact hs
  generalize am_st1 (am_st1 (am_st1 (am_st1 (am_st1 σ 9 j c) 10 j w) 11 j t) 12 j s) 15 0 (j + 1) = σ' at e1 e2 e3 e4 e5 q9 j9 s9 hiv ⊢
  refine ⟨hiv, by unfold am_ly; rw [q9 6 (by decide) (by decide), q9 7 (by decide) (by decide)]; exact h.2.1, fun k hk => ?_⟩
  have hE := h.2.2 k hk
  by_cases k0 : k = 0
  · subst k0
    show am_u _ m _ m = some (ms_obj m σ' 0)
    rw [am_uE]
    unfold ms_obj
    rw [e5, s9 7 (by decide), s9 1 (by decide), s9 2 (by decide), s9 3 (by decide), s9 4 (by decide), s9 5 (by decide), s9 6 (by decide)]
  · rw [am_uN (show m + k ≠ m by omega)]
    by_cases k79 : k = 79
    · subst k79
      rw [am_uE]
      show _ = some (Sum.inl (2, 8, Sum.inl (fun i => if i < σ' 15 0 0 then nI (σ' 12 i 0) else 0)))
      congr 5
      funext i
      unfold upd
      rw [e5]
      by_cases hi : i = j
      · subst hi
        rw [if_pos rfl, if_pos (by omega), e4]
      · rw [if_neg hi, j9 12 i (by decide) hi]
        show (if i < j then nI (σ 12 i 0) else 0) = (if i < j + 1 then nI (σ 12 i 0) else 0)
        by_cases hl : i < j
        · rw [if_pos hl, if_pos (by omega)]
        · rw [if_neg hl, if_neg (by omega)]
    · rw [am_uN (show m + k ≠ m + 79 by omega)]
      by_cases k71 : k = 71 + j
      · subst k71
        rw [show m + (71 + j) = m + 71 + j by omega, am_uE]
        unfold ms_E
        rw [if_neg (by omega), if_neg (by omega), if_neg (by omega), if_neg (by omega), if_neg (by omega), if_neg (by omega), if_neg (by omega), if_neg (by omega), if_neg (by omega), if_neg (by omega), if_neg (by omega), if_neg (by omega), if_neg (by omega), if_pos (by omega), show 71 + j - 71 = j by omega]
        congr 5
        funext i
        unfold upd ms_sh
        match i with
        | 0 => rw [e1]; rfl
        | 1 => rw [e2]; rfl
        | 2 => rw [e3]; rfl
        | i + 3 => rfl
      · rw [am_uN (show m + k ≠ m + 71 + j by omega), hE]
        congr 1
        have f1 : st_f σ' = st_f σ := by unfold st_f; rw [q9 0 (by decide) (by decide)]
        have f2 : st_u σ' = st_u σ := by unfold st_u; rw [q9 13 (by decide) (by decide)]
        have f3 : st_y σ' = st_y σ := by unfold st_y; rw [q9 8 (by decide) (by decide)]
        have f4 : st_b σ' = st_b σ := by unfold st_b; rw [q9 14 (by decide) (by decide)]
        unfold ms_E
        rw [if_neg k0, if_neg k0, f1, f2, f3, f4, q9 1 (by decide) (by decide), q9 2 (by decide) (by decide), q9 3 (by decide) (by decide), q9 4 (by decide) (by decide), q9 5 (by decide) (by decide)]
        by_cases kr : 71 ≤ k ∧ k < 79
        · have f5 : ms_sh σ' (k - 71) = ms_sh σ (k - 71) := by
            unfold ms_sh
            rw [j9 9 _ (by decide) (by omega), j9 10 _ (by decide) (by omega), j9 11 _ (by decide) (by omega)]
          rw [f5, if_neg k79, if_neg k79]
        · rw [if_neg k79, if_neg k79]
          by_cases ks : k < 71
          · refine am_ite (fun n0 => ?_)
            refine am_ite (fun n1 => ?_)
            refine am_ite (fun n2 => ?_)
            refine am_ite (fun n3 => ?_)
            refine am_ite (fun n4 => ?_)
            refine am_ite (fun n5 => ?_)
            refine am_ite (fun n6 => ?_)
            refine am_ite (fun n7 => ?_)
            refine am_ite (fun n8 => ?_)
            refine am_ite (fun n9 => ?_)
            refine am_ite (fun n10 => ?_)
            refine am_ite (fun n11 => ?_)
            exact absurd ks (by omega)
          · rw [if_neg (show ¬ k < 79 by omega), if_neg (show ¬ k < 79 by omega)]
/-- the cells while some are opened: j rows and i cells of the next are done -/
def am_opf (v : Bool) (l r lo j i : Nat) : Nat → Int32 := fun k => if v = true ∧ k < 144 ∧ l ≤ k % 12 ∧ k % 12 ≤ r ∧ lo ≤ k / 12 ∧ (k / 12 < lo + j ∨ (k / 12 = lo + j ∧ k % 12 < l + i)) then -1 else if k < 144 then -2 else 0
theorem am_opf_0 {v : Bool} {l r lo : Nat} : am_opf v l r lo 0 0 = st_f am_s0 := by
  funext k
  rw [s0_f2]
  unfold am_opf
  rw [if_neg (by omega)]
theorem am_opf_row {v : Bool} {l r lo j : Nat} (h : l ≤ r) : am_opf v l r lo j (r + 1 - l) = am_opf v l r lo (j + 1) 0 := by
  funext k
  unfold am_opf
  have e : (v = true ∧ k < 144 ∧ l ≤ k % 12 ∧ k % 12 ≤ r ∧ lo ≤ k / 12 ∧ (k / 12 < lo + j ∨ (k / 12 = lo + j ∧ k % 12 < l + (r + 1 - l)))) ↔ (v = true ∧ k < 144 ∧ l ≤ k % 12 ∧ k % 12 ≤ r ∧ lo ≤ k / 12 ∧ (k / 12 < lo + (j + 1) ∨ (k / 12 = lo + (j + 1) ∧ k % 12 < l + 0))) := by
    constructor
    · rintro ⟨h0, h1, h2, h3, h4, h5⟩
      exact ⟨h0, h1, h2, h3, h4, by omega⟩
    · rintro ⟨h0, h1, h2, h3, h4, h5⟩
      exact ⟨h0, h1, h2, h3, h4, by omega⟩
  by_cases hc : (v = true ∧ k < 144 ∧ l ≤ k % 12 ∧ k % 12 ≤ r ∧ lo ≤ k / 12 ∧ (k / 12 < lo + j ∨ (k / 12 = lo + j ∧ k % 12 < l + (r + 1 - l))))
  · rw [if_pos hc, if_pos (e.mp hc)]
  · rw [if_neg hc, if_neg (fun q => hc (e.mpr q))]
theorem am_opf_end {v : Bool} {l r lo hi : Nat} (h1 : l ≤ r) (h2 : r < 12) (h3 : lo ≤ hi) (h4 : hi < 12) : am_opf v l r lo (hi + 1 - lo) 0 = st_f (am_ope l lo r hi v) := by
  funext k
  show _ = am_cv (if v = true ∧ l ≤ k % 12 ∧ k % 12 ≤ r ∧ lo ≤ k / 12 ∧ k / 12 ≤ hi ∧ k < 144 then 1 else if k < 144 then 0 else 2)
  unfold am_opf
  by_cases hc : v = true ∧ l ≤ k % 12 ∧ k % 12 ≤ r ∧ lo ≤ k / 12 ∧ k / 12 ≤ hi ∧ k < 144
  · rw [if_pos hc, if_pos ⟨hc.1, hc.2.2.2.2.2, hc.2.1, hc.2.2.1, hc.2.2.2.1, by omega⟩]
    rfl
  · rw [if_neg hc, if_neg (fun q => hc ⟨q.1, q.2.2.1, q.2.2.2.1, q.2.2.2.2.1, by omega, q.2.1⟩)]
    by_cases h9 : k < 144
    · rw [if_pos h9, if_pos h9]; rfl
    · rw [if_neg h9, if_neg h9]; rfl
theorem am_opf_at {v : Bool} {l r lo j i : Nat} (h1 : l + i < 12) (h2 : lo + j < 12) : am_opf v l r lo j i (12 * (lo + j) + (l + i)) = -2 := by
  unfold am_opf
  rw [if_neg (fun q => by have := q.2.2.2.2.2; omega), if_pos (by omega)]
theorem am_opf_s {l r lo j i : Nat} (hi : i < r + 1 - l) (h1 : l + i < 12) (h2 : lo + j < 12) : upd (am_opf true l r lo j i) (12 * (lo + j) + (l + i)) (-1) = am_opf true l r lo j (i + 1) := by
  funext k
  by_cases hk : k = 12 * (lo + j) + (l + i)
  · subst hk
    simp only [upd, if_true]
    unfold am_opf
    rw [if_pos ⟨rfl, by omega, by omega, by omega, by omega, by omega⟩]
  · simp only [upd, hk, if_false]
    unfold am_opf
    have e : (true = true ∧ k < 144 ∧ l ≤ k % 12 ∧ k % 12 ≤ r ∧ lo ≤ k / 12 ∧ (k / 12 < lo + j ∨ (k / 12 = lo + j ∧ k % 12 < l + i))) ↔ (true = true ∧ k < 144 ∧ l ≤ k % 12 ∧ k % 12 ≤ r ∧ lo ≤ k / 12 ∧ (k / 12 < lo + j ∨ (k / 12 = lo + j ∧ k % 12 < l + (i + 1)))) := by
      constructor
      · rintro ⟨h0, h1, h2, h3, h4, h5⟩
        exact ⟨h0, h1, h2, h3, h4, by omega⟩
      · rintro ⟨h0, h1, h2, h3, h4, h5⟩
        exact ⟨h0, h1, h2, h3, h4, by omega⟩
    by_cases hc : (true = true ∧ k < 144 ∧ l ≤ k % 12 ∧ k % 12 ≤ r ∧ lo ≤ k / 12 ∧ (k / 12 < lo + j ∨ (k / 12 = lo + j ∧ k % 12 < l + i)))
    · rw [if_pos hc, if_pos (e.mp hc)]
    · rw [if_neg hc, if_neg (fun q => hc (e.mpr q))]
def am_ops (v : Bool) (l r lo j i : Nat) : am_St := am_st am_s0 0 (fun k _ => if v = true ∧ k < 144 ∧ l ≤ k % 12 ∧ k % 12 ≤ r ∧ lo ≤ k / 12 ∧ (k / 12 < lo + j ∨ (k / 12 = lo + j ∧ k % 12 < l + i)) then 1 else if k < 144 then 0 else 2)
theorem am_ops_f (v : Bool) (l r lo j i : Nat) : st_f (am_ops v l r lo j i) = am_opf v l r lo j i := by
  funext k
  show am_cv (if v = true ∧ k < 144 ∧ l ≤ k % 12 ∧ k % 12 ≤ r ∧ lo ≤ k / 12 ∧ (k / 12 < lo + j ∨ (k / 12 = lo + j ∧ k % 12 < l + i)) then 1 else if k < 144 then 0 else 2) = _
  unfold am_opf
  by_cases hc : v = true ∧ k < 144 ∧ l ≤ k % 12 ∧ k % 12 ≤ r ∧ lo ≤ k / 12 ∧ (k / 12 < lo + j ∨ (k / 12 = lo + j ∧ k % 12 < l + i))
  · rw [if_pos hc, if_pos hc]; rfl
  · rw [if_neg hc, if_neg hc]
    by_cases h9 : k < 144
    · rw [if_pos h9, if_pos h9]; rfl
    · rw [if_neg h9, if_neg h9]; rfl
theorem ms_cells {m : Nat} {E : am_E} {σ σ' : am_St} {lm : Nat → Nat} {lk : Nat → Nat → Nat} {lf : Nat → Nat → Bool} {thr : Int32} (h : am_MT m E σ lm lk lf thr) (hq : ∀ q, q ≠ 0 → σ' q = σ q) (h0 : ∀ c, c < 144 → σ' 0 c 0 < 32) : am_MT m (am_u E (m + 1) (.inl (0, 144, .inl (st_f σ')))) σ' lm lk lf thr :=
  ms_u (k0 := 1) h (am_iv_0 h.1 hq h0) (by unfold am_ly; rw [hq 6 (by decide), hq 7 (by decide)]; exact h.2.1) rfl (fun k hk hn => by
    have f2 : st_u σ' = st_u σ := by unfold st_u; rw [hq 13 (by decide)]
    have f3 : st_y σ' = st_y σ := by unfold st_y; rw [hq 8 (by decide)]
    have f4 : st_b σ' = st_b σ := by unfold st_b; rw [hq 14 (by decide)]
    have f5 : ms_sh σ' = ms_sh σ := by unfold ms_sh; rw [hq 9 (by decide), hq 10 (by decide), hq 11 (by decide)]
    have f6 : ms_obj m σ' thr = ms_obj m σ thr := by unfold ms_obj; rw [hq 15 (by decide)]
    unfold ms_E
    rw [if_neg hn, if_neg hn, f2, f3, f4, f5, f6, hq 1 (by decide), hq 2 (by decide), hq 3 (by decide), hq 4 (by decide), hq 5 (by decide), hq 12 (by decide), hq 15 (by decide)])
theorem am_ops_32 (v : Bool) (l r lo j i c : Nat) (hc : c < 144) : am_ops v l r lo j i 0 c 0 < 32 := by
  show (if v = true ∧ c < 144 ∧ l ≤ c % 12 ∧ c % 12 ≤ r ∧ lo ≤ c / 12 ∧ (c / 12 < lo + j ∨ (c / 12 = lo + j ∧ c % 12 < l + i)) then 1 else if c < 144 then 0 else 2) < 32
  split
  · decide
  · decide
theorem am_umN {E : am_E} {n N t ti k : Nat} {z : vp_A} (h : k < n ∨ n + N < k) : am_um E n N t ti z k = E k := by
  unfold am_um
  rw [if_neg (by omega), if_neg (by omega)]
theorem am_umE {E : am_E} {n N t ti : Nat} {z : vp_A} : am_um E n N t ti z n = some (.inl (t, N, .inr (.inr (.inr (.inr (fun i => if i < N then some (n + 1 + i) else none)))))) := if_pos rfl
theorem am_umR {E : am_E} {n N t ti k : Nat} {z : vp_A} (h : n < k ∧ k ≤ n + N) : am_um E n N t ti z k = some (.inl (ti, z)) := by
  unfold am_um
  rw [if_neg (by omega), if_pos h]
theorem am_q1 (b k : Nat) : (b = b + (k + 1)) = False := eq_false (by omega)
theorem am_q2 (b k : Nat) : (b + (k + 1) = b) = False := eq_false (by omega)
theorem am_uA {E : am_E} {k j : Nat} {e : va_E} : am_u E k e j = if j = k then some e else E j := rfl
