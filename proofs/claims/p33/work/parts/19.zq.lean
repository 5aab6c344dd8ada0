/-! ===== what holds of every state of a run: glass has cells, bare pieces have no paint, five layers at most ===== -/
theorem am_iw_q {σ σ' : am_St} (h : am_iw σ) (h0 : σ' 0 = σ 0) (h3 : σ' 3 = σ 3) (h6 : σ' 6 = σ 6) (h7 : σ' 7 = σ 7) : am_iw σ' := by
  unfold am_iw
  rw [h0, h3, h6, h7]
  exact h
theorem am_iw_s0 : am_iw am_s0 := ⟨fun p hp _ k => ⟨rfl, rfl⟩, fun p hp q => absurd (s0_st hp) q, fun p => show (0 : Nat) ≤ 5 by decide⟩
theorem am_rga_f {p : Nat → Bool} {a c d f : Nat} (h : am_rga p a c d f = false) {k : Nat} (hk : am_inr a c d f k = true) : p k = false := by
  have hk := of_decide_eq_true hk
  have h1 := am_any_f.mp h (k / 12 - c) (by omega)
  have h2 := am_any_f.mp h1 (k % 12 - a) (by omega)
  rw [show 12 * (c + (k / 12 - c)) + (a + (k % 12 - a)) = k by omega] at h2
  exact h2
theorem am_iw_0 {σ : am_St} (h : am_iw σ) {F : Nat → Nat → Nat} (hF : ∀ c, c < 144 → am_gl1 σ c = true → F c 0 = σ 0 c 0) : am_iw (am_st σ 0 F) := by
  have q : ∀ q, q ≠ 0 → am_st σ 0 F q = σ q := fun q hq => am_st_n _ _ hq
  unfold am_iw
  rw [q 3 (by decide), q 6 (by decide), q 7 (by decide), am_st_s]
  refine ⟨h.1, fun p hp hn => ?_, h.2.2⟩
  obtain ⟨c, hc, e⟩ := h.2.1 p hp hn
  refine ⟨c, hc, ?_⟩
  rw [hF c hc (decide_eq_true ⟨by omega, by rw [e, Nat.add_sub_cancel]; exact hn⟩)]
  exact e
theorem am_iw_3 {σ : am_St} (h : am_iw σ) {p st : Nat} (h1 : ¬ σ 3 p 0 = 45) (h2 : ¬ st = 45) : am_iw (am_st1 σ 3 p st) := by
  have q : ∀ q, q ≠ 3 → am_st1 σ 3 p st q = σ q := fun q hq => am_st1_q hq
  have e : ∀ t, am_st1 σ 3 p st 3 t 0 = 45 ↔ σ 3 t 0 = 45 := fun t => by
    by_cases c : t = p
    · rw [c, am_st1_s]
      exact iff_of_false h2 h1
    · rw [am_st1_j c]
  unfold am_iw
  rw [q 0 (by decide), q 6 (by decide), q 7 (by decide)]
  exact ⟨fun t ht z => h.1 t ht ((e t).mp z), fun t ht z => h.2.1 t ht (fun y => z ((e t).mpr y)), h.2.2⟩
theorem am_iw_glz {σ : am_St} (h : am_iw σ) {p st c : Nat} (hc : ∃ k, k < 144 ∧ σ 0 k 0 = p + 2) (h2 : ¬ st = 45) : am_iw (am_glz σ p st c) := by
  have e0 : am_glz σ p st c 0 = σ 0 := am_glz_q (by omega)
  have et : ∀ q t, t ≠ p → am_glz σ p st c q t = σ q t := fun q t ht => if_neg (fun z => ht z.1)
  have e3 : am_glz σ p st c 3 p 0 = st := by
    show (if p = p ∧ 3 ≤ 3 ∧ 3 ≤ 8 then (fun _ => if (3 : Nat) = 3 then st else if (3 : Nat) = 4 then c else if (3 : Nat) = 5 then σ 15 3 0 else 0) else σ 3 p) 0 = st
    rw [if_pos ⟨rfl, by decide, by decide⟩]
    rfl
  have e6 : am_glz σ p st c 6 p = fun _ => 0 := by
    show (if p = p ∧ 3 ≤ 6 ∧ 6 ≤ 8 then (fun _ => if (6 : Nat) = 3 then st else if (6 : Nat) = 4 then c else if (6 : Nat) = 5 then σ 15 3 0 else 0) else σ 6 p) = _
    rw [if_pos ⟨rfl, by decide, by decide⟩]
    rfl
  have e7 : am_glz σ p st c 7 p = fun _ => 0 := by
    show (if p = p ∧ 3 ≤ 7 ∧ 7 ≤ 8 then (fun _ => if (7 : Nat) = 3 then st else if (7 : Nat) = 4 then c else if (7 : Nat) = 5 then σ 15 3 0 else 0) else σ 7 p) = _
    rw [if_pos ⟨rfl, by decide, by decide⟩]
    rfl
  refine ⟨fun t ht z k => ?_, fun t ht z => ?_, fun t => ?_⟩
  · by_cases e : t = p
    · rw [e, e3] at z
      exact absurd z h2
    · rw [et 3 t e] at z
      rw [et 6 t e, et 7 t e]
      exact h.1 t ht z k
  · rw [e0]
    by_cases e : t = p
    · rw [e]; exact hc
    · rw [et 3 t e] at z
      exact h.2.1 t ht z
  · by_cases e : t = p
    · rw [e, e6, e7]
      decide
    · rw [et 6 t e, et 7 t e]
      exact h.2.2 t
theorem am_iw_67 {σ σ' : am_St} (h : am_iw σ) (hq : ∀ q, q ≠ 6 → q ≠ 7 → σ' q = σ q) (h1 : ∀ p, p < 30 → σ 3 p 0 = 45 → ∀ k, σ' 6 p k = 0 ∧ σ' 7 p k = 0) (h3 : ∀ p, fb_sm (σ' 6 p) 4 + fb_sm (σ' 7 p) 4 ≤ 5) : am_iw σ' := by
  unfold am_iw
  rw [hq 0 (by decide) (by decide), hq 3 (by decide) (by decide)]
  exact ⟨h1, h.2.1, h3⟩
/-! .. by every call -/
def am_iwr (r : am_R) : Prop := am_iw r.2
theorem am_iwr_i {v : Int32} {σ : am_St} (h : am_iw σ) : am_iwr (r_i v σ) := h
theorem am_iwr_x {C : String} {σ : am_St} (h : am_iw σ) : am_iwr (r_x C σ) := h
theorem am_iwr_f {c : Prop} {inst : Decidable c} {r s : am_R} (h1 : c → am_iwr r) (h2 : ¬ c → am_iwr s) : am_iwr (@ite _ c inst r s) := by
  by_cases h : c
  · rw [if_pos h]; exact h1 h
  · rw [if_neg h]; exact h2 h
theorem iw_15 {σ : am_St} (h : am_iw σ) (q i v : Nat) (hq : 9 ≤ q) : am_iw (am_st1 σ q i v) := am_iw_q h (am_st1_q (by omega)) (am_st1_q (by omega)) (am_st1_q (by omega)) (am_st1_q (by omega))
theorem iw_open {σ : am_St} (h : am_iw σ) (l lo r hi : Int32) (v : Bool) : am_iwr (q_open σ l lo r hi v) := by
  unfold q_open
  refine am_iwr_f (fun _ => am_iwr_f (fun _ => am_iwr_x h) (fun c2 => am_iwr_i ?_)) (fun _ => am_iwr_x h)
  unfold am_opn
  refine am_iw_0 h (fun k _ hg => ?_)
  have h9 : am_rga (am_gl1 σ) l.toNatClampNeg lo.toNatClampNeg r.toNatClampNeg hi.toNatClampNeg = false := by
    cases e : am_rga (am_gl1 σ) l.toNatClampNeg lo.toNatClampNeg r.toNatClampNeg hi.toNatClampNeg with
    | false => rfl
    | true => exact absurd (Or.inr e) c2
  refine if_neg (fun z => ?_)
  have := am_rga_f h9 z
  rw [hg] at this
  cases this
theorem iw_lay {σ : am_St} (h : am_iw σ) (p l lo r hi : Int32) : am_iwr (q_lay σ p l lo r hi) := by
  unfold q_lay
  refine am_iwr_f (fun _ => am_iwr_f (fun _ => am_iwr_f (fun _ => am_iwr_x h) (fun c2 => am_iwr_i ?_)) (fun _ => am_iwr_x h)) (fun _ => am_iwr_x h)
  unfold am_lyn
  refine am_iw_0 h (fun k _ hg => ?_)
  have h9 : am_rga (am_gl1 σ) l.toNatClampNeg lo.toNatClampNeg r.toNatClampNeg hi.toNatClampNeg = false := by
    cases e : am_rga (am_gl1 σ) l.toNatClampNeg lo.toNatClampNeg r.toNatClampNeg hi.toNatClampNeg with
    | false => rfl
    | true => exact absurd (Or.inr (Or.inr (Or.inl e))) c2
  refine if_neg (fun z => ?_)
  have := am_rga_f h9 z
  rw [hg] at this
  cases this
theorem iw_split {σ : am_St} (hv : am_iv σ) (h : am_iw σ) (p : Int32) : am_iwr (q_split σ p) := by
  unfold q_split
  refine am_iwr_f (fun c1 => am_iwr_f (fun _ => am_iwr_x h) (fun c2 => am_iwr_f (fun _ => am_iwr_i ?_) (fun _ => am_iwr_x h))) (fun _ => am_iwr_x h)
  obtain ⟨i, hi, rfl⟩ := am_pcb_n c1
  rw [nI_clamp (show i < 2 ^ 31 by omega)] at c2 ⊢
  have c3 : σ 3 i 0 = 45 := Classical.byContradiction fun q => c2 (Or.inr (Or.inl q))
  unfold am_spn
  have h0 := am_iw_0 h (F := fun k _ => if k < 144 ∧ am_pf (am_shp (st_f σ) (nI i)) (am_bb (am_shp (st_f σ) (nI i)) 23).1 (k % 12) (k / 12) = true then am_fst (fun p => !am_hp (st_f σ) 144 p) 30 + 2 else σ 0 k 0) (fun k hk hg => by
    refine if_neg (fun z => ?_)
    have z2 : am_shp (st_f σ) (nI i) (k % 12) (k / 12) = true := by
      have := z.2
      unfold am_pf at this
      rw [Bool.and_eq_true] at this
      exact this.1
    have z3 := (of_decide_eq_true z2).2.2
    rw [show 12 * (k / 12) + k % 12 = k by omega, show st_f σ k = am_cv (σ 0 k 0) from rfl, am_cv_p (hv.1 k hk) hi] at z3
    have hg := (of_decide_eq_true hg).2
    rw [z3, Nat.add_sub_cancel] at hg
    exact hg c3)
  exact am_iw_q h0 rfl rfl rfl rfl
theorem iw_cut {σ : am_St} (hv : am_iv σ) (h : am_iw σ) (s p : Int32) (v : Bool) : am_iwr (q_cut σ s p v) := by
  unfold q_cut
  refine am_iwr_f (fun c1 => ?_) (fun _ => am_iwr_x h)
  obtain ⟨i, hi, rfl⟩ := am_pcb_n c1.2
  rw [nI_clamp (show i < 2 ^ 31 by omega)]
  generalize s.toNatClampNeg = j
  unfold q_cutn
  refine am_iwr_f (fun c2 => ?_) (fun _ => am_iwr_x h)
  have hk : am_iw (am_cut σ j i v) := am_iw_q h rfl rfl rfl rfl
  have hc : ∃ k, k < 144 ∧ am_cut σ j i v 0 k 0 = i + 2 := by
    obtain ⟨x, y, hp⟩ := am_ne_hi c2.2.2
    have hp := of_decide_eq_true hp
    refine ⟨12 * y + x, by omega, ?_⟩
    have := hp.2.2
    rw [show st_f σ (12 * y + x) = am_cv (σ 0 (12 * y + x) 0) from rfl, am_cv_p (hv.1 _ (by omega)) hi] at this
    exact this
  generalize am_cut σ j i v = σ1 at hk hc
  exact am_iwr_f (fun _ => am_iwr_f (fun _ => am_iwr_i hk) (fun _ => am_iwr_i (am_iw_glz hk hc (by decide)))) (fun _ => am_iwr_x h)
theorem iw_paint {σ : am_St} (h : am_iw σ) (p c : Int32) : am_iwr (q_paint σ p c) := by
  unfold q_paint
  refine am_iwr_f (fun _ => am_iwr_f (fun c0 => am_iwr_f (fun c1 => am_iwr_f (fun c2 => am_iwr_i ?_) (fun _ => am_iwr_x h)) (fun _ => am_iwr_x h)) (fun _ => am_iwr_x h)) (fun _ => am_iwr_x h)
  have hk4 : (am_kd c).toNatClampNeg < 4 := by
    rcases am_kd_v c with ⟨k, hk, e⟩ | e
    · rw [e, nI_clamp (by omega)]; exact hk
    · rw [e] at c0; exact absurd c0 (by decide)
  have hkp := am_kept_pnt (σ := σ) (p := p.toNatClampNeg) hk4
  generalize p.toNatClampNeg = i at c1 c2 hkp ⊢
  generalize (am_kd c).toNatClampNeg = k at hkp hk4 ⊢
  have e6 : ∀ t, t ≠ i → am_pnt σ i k 6 t = σ 6 t := fun t ht => by
    funext j
    exact if_neg (fun z => ht z.1)
  have e7 : am_pnt σ i k 7 = σ 7 := rfl
  refine am_iw_67 h (fun q h6 h7 => if_neg h6) (fun t ht z j => ?_) (fun t => ?_)
  · by_cases e : t = i
    · rw [e, c1.2.1] at z
      exact absurd z (by decide)
    · rw [e6 t e, e7]
      exact h.1 t ht z j
  · by_cases e : t = i
    · rw [e]
      have : fb_sm (am_pnt σ i k 6 i) 4 + fb_sm (am_pnt σ i k 7 i) 4 = am_kept σ i + 1 := hkp
      omega
    · rw [e6 t e, e7]
      exact h.2.2 t
theorem iw_fire {σ : am_St} (h : am_iw σ) (a : Nat) (d : Int32) : am_iwr (q_fire σ a d) := by
  unfold q_fire
  refine am_iwr_f (fun _ => am_iwr_f (fun _ => am_iwr_x h) (fun c2 => am_iwr_i ?_)) (fun _ => am_iwr_x h)
  generalize d.toNatClampNeg = e
  have r6 : ∀ t, am_frk σ a e 30 6 t = if t < 30 ∧ a.testBit t = true then am_hR e (σ 6 t) else σ 6 t := fun t => by
    funext k
    show (if t < 30 ∧ a.testBit t = true then am_hR e (σ 6 t) k else σ 6 t k) = _
    split <;> rfl
  have r7 : ∀ t, am_frk σ a e 30 7 t = if t < 30 ∧ a.testBit t = true then am_hF e (σ 6 t) (σ 7 t) else σ 7 t := fun t => by
    funext k
    show (if t < 30 ∧ a.testBit t = true then am_hF e (σ 6 t) (σ 7 t) k else σ 7 t k) = _
    split <;> rfl
  refine am_iw_67 h (fun q h6 h7 => (if_neg h6).trans (if_neg h7)) (fun t ht z j => ?_) (fun t => ?_)
  · have nb : ¬ a.testBit t = true := fun q => c2 (Or.inr (am_any_t.mpr ⟨t, ht, by rw [q, z]; rfl⟩))
    rw [r6, r7, if_neg (fun q => nb q.2), if_neg (fun q => nb q.2)]
    exact h.1 t ht z j
  · rw [r6, r7]
    by_cases c : t < 30 ∧ a.testBit t = true
    · rw [if_pos c, if_pos c, ← fb_sm_add]
      have h9 := h.2.2 t
      rw [← fb_sm_add] at h9
      refine Nat.le_trans (fb_sm_le (fun k _ => ?_)) h9
      unfold am_hR am_hF
      split
      · omega
      · split <;> omega
    · rw [if_neg c, if_neg c]
      exact h.2.2 t
theorem iw_comes {σ : am_St} (h : am_iw σ) : am_iwr (q_comes σ) := by
  unfold q_comes
  refine am_iwr_f (fun c => am_iwr_i (am_iw_3 h (fun q => ?_) (by decide))) (fun _ => am_iwr_x h)
  have := am_fsx_at (fun p => (decide (σ 3 p 0 = 99) && decide (fb_sm (σ 6 p) 4 = 0)) && am_clr σ (fun q => decide (σ 3 q 0 = 108)) p) 30 c
  have q2 : (decide (σ 3 (am_nx σ) 0 = 99) && decide (fb_sm (σ 6 (am_nx σ)) 4 = 0) && am_clr σ (fun q => decide (σ 3 q 0 = 108)) (am_nx σ)) = true := this
  rw [Bool.and_eq_true, Bool.and_eq_true, decide_eq_true_eq] at q2
  have := q2.1.1
  omega
theorem iw_hit {σ : am_St} (h : am_iw σ) (x y : Int32) : am_iwr (q_hit σ x y) := by
  unfold q_hit
  refine am_iwr_f (fun _ => am_iwr_f (fun _ => am_iwr_x h) (fun _ => am_iwr_f (fun c => am_iwr_i (am_iw_3 h (fun q => ?_) (by decide))) (fun _ => am_iwr_i h))) (fun _ => am_iwr_x h)
  rw [c.2] at q
  exact absurd q (by decide)
theorem iw_mend {σ : am_St} (h : am_iw σ) (p : Int32) : am_iwr (q_mend σ p) := by
  unfold q_mend
  refine am_iwr_f (fun _ => am_iwr_f (fun c => am_iwr_i ?_) (fun _ => am_iwr_x h)) (fun _ => am_iwr_x h)
  exact am_iw_q (am_iw_3 h (p := p.toNatClampNeg) (st := 108) (fun q => by rw [c] at q; exact absurd q (by decide)) (by decide)) rfl rfl rfl rfl
theorem iw_stopgap {σ : am_St} (h : am_iw σ) (p s : Int32) : am_iwr (q_stopgap σ p s) := by
  unfold q_stopgap
  refine am_iwr_f (fun c1 => ?_) (fun _ => am_iwr_x h)
  obtain ⟨i, hi, rfl⟩ := am_pcb_n c1.2
  rw [nI_clamp (show i < 2 ^ 31 by omega)]
  refine am_iwr_f (fun c => am_iwr_i ?_) (fun _ => am_iwr_x h)
  unfold am_stg
  generalize am_plc (st_u σ s.toNatClampNeg) (am_ldp σ i false) (σ 10 s.toNatClampNeg 0) (σ 11 s.toNatClampNeg 0) = k
  have h1 : am_iw (am_tks σ s.toNatClampNeg (am_ldp σ i false) k) := am_iw_q h rfl rfl rfl rfl
  have h2 : ∃ c, c < 144 ∧ am_tks σ s.toNatClampNeg (am_ldp σ i false) k 0 c 0 = i + 2 := h.2.1 i hi (fun q => by rw [c.1] at q; exact absurd q (by decide))
  exact iw_15 (am_iw_glz h1 h2 (by decide)) 15 7 _ (by decide)
theorem iw_sheet {σ : am_St} (h : am_iw σ) (c w t s : Int32) : am_iwr (q_sheet σ c w t s) := by
  unfold q_sheet
  exact am_iwr_f (fun _ => am_iwr_f (fun _ => am_iwr_i (am_iw_q h rfl rfl rfl rfl)) (fun _ => am_iwr_x h)) (fun _ => am_iwr_x h)
theorem iw_want {σ : am_St} (h : am_iw σ) (p c k : Int32) : am_iwr (q_want σ p c k) := by
  unfold q_want
  exact am_iwr_f (fun _ => am_iwr_f (fun _ => am_iwr_f (fun _ => am_iwr_i (am_iw_q h rfl rfl rfl rfl)) (fun _ => am_iwr_x h)) (fun _ => am_iwr_x h)) (fun _ => am_iwr_x h)
theorem iw_seed {σ : am_St} (h : am_iw σ) (z : Int32) : am_iwr (q_seed σ z) := by
  unfold q_seed
  exact am_iwr_f (fun _ => am_iwr_i (am_iw_q h rfl rfl rfl rfl)) (fun _ => am_iwr_x h)
theorem iw_bar {σ : am_St} (h : am_iw σ) (r : Int32) (v : Bool) : am_iwr (q_bar σ r v) := by
  unfold q_bar
  exact am_iwr_f (fun _ => am_iwr_i (am_iw_q h rfl rfl rfl rfl)) (fun _ => am_iwr_x h)
theorem iw_profile {σ : am_St} (h : am_iw σ) (p : Int32) : am_iwr (q_profile σ p) := by
  unfold q_profile
  exact am_iwr_f (fun _ => am_iwr_f (fun _ => am_iwr_i (am_iw_q h rfl rfl rfl rfl)) (fun _ => am_iwr_x h)) (fun _ => am_iwr_x h)
theorem iw_wind {σ : am_St} (h : am_iw σ) (w : Int32) : am_iwr (q_wind σ w) := by
  unfold q_wind
  exact am_iwr_f (fun _ => am_iwr_i (am_iw_q h rfl rfl rfl rfl)) (fun _ => am_iwr_x h)
theorem iw_years {σ : am_St} (h : am_iw σ) (y : Int32) : am_iwr (q_years σ y) := by
  unfold q_years
  exact am_iwr_f (fun _ => am_iwr_f (fun _ => am_iwr_i (am_iw_q h rfl rfl rfl rfl)) (fun _ => am_iwr_x h)) (fun _ => am_iwr_x h)
theorem iw_solder {σ : am_St} (h : am_iw σ) : am_iwr (q_solder σ) := by
  unfold q_solder
  exact am_iwr_f (fun _ => am_iwr_x h) (fun _ => am_iwr_i (am_iw_q h rfl rfl rfl rfl))
theorem iw_next {σ : am_St} (h : am_iw σ) : am_iwr (q_next σ) := by
  unfold q_next
  exact am_iwr_f (fun _ => am_iwr_i h) (fun _ => am_iwr_x h)
theorem am_f2dok {x : UInt32} (h : vf_n32 x) : vf_n64 (FP.f2d x) := by
  have h1 : FP.Core.dIsNaN (FP.f2d x) = FP.Core.fIsNaN x := FP.f2d_nan x
  have h2 : FP.Core.fIsNaN x = false := by
    rw [← Bool.not_eq_true, FP.Core.isNaN_bits32]
    unfold vf_n32 at h
    rw [UInt32.le_iff_toNat_le, UInt32.toNat_and, show (0x7fffffff : UInt32).toNat = 2 ^ 31 - 1 from rfl, Nat.and_two_pow_sub_one_eq_mod, show (0x7f800000 : UInt32).toNat = 2139095040 from rfl] at h
    omega
  rw [h2, ← Bool.not_eq_true, FP.Core.isNaN_bits] at h1
  unfold vf_n64
  rw [UInt64.le_iff_toNat_le, UInt64.toNat_and, show (0x7fffffffffffffff : UInt64).toNat = 2 ^ 63 - 1 from rfl, Nat.and_two_pow_sub_one_eq_mod, show (0x7ff0000000000000 : UInt64).toNat = 9218868437227405312 from rfl]
  omega
def o_pop2 (k : am_C) : am_C := fun ls st n E ca sl => match st with
  | v :: r => v.category = 2 ∧ k ls r n E ca sl
  | _ => False
theorem ms_pop2 {X : am_X} {cc : ByteArray} {own : String} {ret : Option FieldType} {Ts : List Cond} (F : am_F X cc own ret Ts) {pc : Nat} {k : am_C} (hd : decode cc pc = .ok (.pop2, 1)) (hk : am_imp k (am_G X (pc + 1))) : am_imp (o_pop2 k) (am_G X pc) := by
  obtain ⟨p, l, e, R, s, m, args, below, meth, c, D, dA, ro, ad0, n0, nL, A, Q⟩ := X
  obtain ⟨hx, hb, hml, hown, hts, hK, hA, hE, htr, hlk, hrt, hWS⟩ := F
  intro ls st n E ca sl h ad H locs L h1 h2 h3 h4 h5 h6 h7 h8 h9 hca hsl
  unfold o_pop2 at h
  split at h
  · exact lv_pop2_2 hx hb hd (by rw [am_tr_cat]; exact h.1) (hk _ _ _ _ _ _ h.2 ad H locs L h1 h2 h3 (am_tl h4) h5 h6 h7 h8 h9 hca hsl)
  · exact h.elim
