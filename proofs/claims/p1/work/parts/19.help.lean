/-! ===== helpers for the reference's methods ===== -/
def am_hg (σ : am_St) (v : Int32) : Bool := decide (0 ≤ v) && decide (¬ σ 3 v.toNatClampNeg 0 = 45)
theorem am_hg_n (σ : am_St) {q : Nat} (hq : q < 30) : am_hg σ (nI q) = decide (¬ σ 3 q 0 = 45) := by
  unfold am_hg
  rw [decide_eq_true (am_pcn hq).1, nI_clamp (by omega)]
  rfl
def am_sa (P : Nat → Nat → Bool) : Nat → Int32 := fun k => ms_bo (P (k % 12) (k / 12))
theorem am_sa_hi {P : Nat → Nat → Bool} (h : am_sup P) : ∀ k, 144 ≤ k → am_sa P k = 0 := fun k hk => by
  unfold am_sa
  rw [am_sup_y h (by omega)]
  rfl
theorem am_vb0 : vp_nar .boolean 0 = 0 := rfl
theorem am_vb1 : vp_nar .boolean 1 = 1 := rfl
theorem ms_bo_i (b : Bool) : (if b = true then (1 : Int32) else 0) = ms_bo b := rfl
theorem ms_boT : ms_bo true = 1 := rfl
theorem ms_boF : ms_bo false = 0 := rfl
abbrev L_A : List String := [x_IA]
theorem th_A_1 : am_th L_A (.inr x_IA) = 1 := by decide +kernel
abbrev L_AU : List String := [x_IA, x_UO]
theorem th_AU_1 : am_th L_AU (.inr x_IA) = 1 := by decide +kernel
theorem th_AU_2 : am_th L_AU (.inr x_UO) = 2 := by decide +kernel
abbrev L_OAU : List String := [x_IO, x_IA, x_UO]
theorem th_OAU_1 : am_th L_OAU (.inr x_IO) = 1 := by decide +kernel
theorem th_OAU_2 : am_th L_OAU (.inr x_IA) = 2 := by decide +kernel
theorem th_OAU_3 : am_th L_OAU (.inr x_UO) = 3 := by decide +kernel
abbrev L_O : List String := [x_IO]
theorem th_O_1 : am_th L_O (.inr x_IO) = 1 := by decide +kernel
abbrev L_OU : List String := [x_IO, x_UO]
theorem th_OU_1 : am_th L_OU (.inr x_IO) = 1 := by decide +kernel
theorem th_OU_2 : am_th L_OU (.inr x_UO) = 2 := by decide +kernel
abbrev L_OUS : List String := [x_IO, x_UO, x_IS]
theorem th_OUS_1 : am_th L_OUS (.inr x_IO) = 1 := by decide +kernel
theorem th_OUS_2 : am_th L_OUS (.inr x_UO) = 2 := by decide +kernel
theorem th_OUS_3 : am_th L_OUS (.inr x_IS) = 3 := by decide +kernel
abbrev L_AS : List String := [x_IA, x_IS]
theorem th_AS_1 : am_th L_AS (.inr x_IA) = 1 := by decide +kernel
theorem th_AS_2 : am_th L_AS (.inr x_IS) = 2 := by decide +kernel
abbrev L_ON : List String := [x_IO, x_NE]
theorem th_ON_1 : am_th L_ON (.inr x_IO) = 1 := by decide +kernel
theorem th_ON_2 : am_th L_ON (.inr x_NE) = 2 := by decide +kernel
abbrev L_OAUS : List String := [x_IO, x_IA, x_UO, x_IS]
theorem th_OAUS_1 : am_th L_OAUS (.inr x_IO) = 1 := by decide +kernel
theorem th_OAUS_2 : am_th L_OAUS (.inr x_IA) = 2 := by decide +kernel
theorem th_OAUS_3 : am_th L_OAUS (.inr x_UO) = 3 := by decide +kernel
theorem th_OAUS_4 : am_th L_OAUS (.inr x_IS) = 4 := by decide +kernel
abbrev L_OA : List String := [x_IO, x_IA]
theorem th_OA_1 : am_th L_OA (.inr x_IO) = 1 := by decide +kernel
theorem th_OA_2 : am_th L_OA (.inr x_IA) = 2 := by decide +kernel
abbrev L_N : List String := [x_NE]
theorem th_N_1 : am_th L_N (.inr x_NE) = 1 := by decide +kernel
abbrev L_U : List String := [x_UO]
theorem th_U_1 : am_th L_U (.inr x_UO) = 1 := by decide +kernel
theorem am_mpi_x {m n n' t : Nat} {E E' : am_E} {K : am_P} {d : Value} {L : List String} {C : String} {σ : am_St} {lm : Nat → Nat} {lk : Nat → Nat → Nat} {lf : Nat → Nat → Bool} (hK : am_mpi m n E K d L (r_x C σ)) (ht : am_th L (.inr C) = t) (h : am_MT m E' σ lm lk lf (nI t)) (hn : n ≤ n') (hk : am_km m n E E') : K (.inl (some d)) n' E' :=
  hK n' E' hn (by
    show am_MS m E' σ (nI (am_th L (.inr C)))
    rw [ht]
    exact ⟨lm, lk, lf, h⟩) hk
theorem am_mpi_i {m n n' : Nat} {E E' : am_E} {K : am_P} {d : Value} {L : List String} {v : Int32} {σ : am_St} {lm : Nat → Nat} {lk : Nat → Nat → Nat} {lf : Nat → Nat → Bool} (hK : am_mpi m n E K d L (r_i v σ)) (h : am_MT m E' σ lm lk lf 0) (hn : n ≤ n') (hk : am_km m n E E') : K (.inl (some (.int v))) n' E' := hK n' E' hn ⟨lm, lk, lf, h⟩ hk
theorem am_ly_sum {lk : Nat → Nat} {f : Nat → Bool} : ∀ N, (∀ i, i < N → ∃ k, k < 4 ∧ lk i = am_kl k) → fb_sm (fun k => fb_ct (fun i => decide (lk i = am_kl k) && f i) N) 4 = fb_ct f N := by
  intro N
  induction N with
  | zero => intro _; rfl
  | succ N ih =>
    intro h
    have e := ih (fun i hi => h i (by omega))
    obtain ⟨k, hk, hl⟩ := h N (by omega)
    have es : ∀ g : Nat → Bool, fb_ct g (N + 1) = fb_ct g N + (if g N = true then 1 else 0) := fun _ => rfl
    simp only [fb_sm, es] at e ⊢
    rw [hl]
    generalize fb_ct (fun i => decide (lk i = am_kl 0) && f i) N = z0 at e ⊢
    generalize fb_ct (fun i => decide (lk i = am_kl 1) && f i) N = z1 at e ⊢
    generalize fb_ct (fun i => decide (lk i = am_kl 2) && f i) N = z2 at e ⊢
    generalize fb_ct (fun i => decide (lk i = am_kl 3) && f i) N = z3 at e ⊢
    rcases (show k = 0 ∨ k = 1 ∨ k = 2 ∨ k = 3 by omega) with rfl | rfl | rfl | rfl <;> (simp [am_kl]; omega)
theorem am_ly_r {σ : am_St} {lm : Nat → Nat} {lk : Nat → Nat → Nat} {lf : Nat → Nat → Bool} (h : am_ly σ lm lk lf) {p : Nat} (hp : p < 30) : fb_sm (σ 6 p) 4 = fb_ct (fun i => !lf p i) (lm p) ∧ fb_sm (σ 7 p) 4 = fb_ct (fun i => lf p i) (lm p) := by
  obtain ⟨h1, h2, h3⟩ := h p hp
  constructor
  · rw [← am_ly_sum (lk := lk p) (f := fun i => !lf p i) (lm p) h2]
    exact fb_sm_cong (fun k hk => (h3 k hk).1)
  · rw [← am_ly_sum (lk := lk p) (f := fun i => lf p i) (lm p) h2]
    exact fb_sm_cong (fun k hk => (h3 k hk).2)
theorem s0_shp {p : Nat} (hp : p < 30) : am_shp (st_f am_s0) (nI p) = am_non := by
  funext x y
  unfold am_shp am_non
  refine decide_eq_false (fun q => ?_)
  rw [s0_f (by omega)] at q
  exact am_m2n (show p < 1000 by omega) q.2.2
theorem am_hi_non : am_hi am_non = 101 := by
  unfold am_hi
  exact if_pos (am_sz_0 (fun _ _ => rfl))
theorem am_co_non : nI (am_co am_non) = 0 := by
  have : am_co am_non = 0 := by decide +kernel
  rw [this]; rfl
theorem am_pt_non : nI (am_pt am_non) = 0 := by
  have : am_pt am_non = 0 := by decide +kernel
  rw [this]; rfl
