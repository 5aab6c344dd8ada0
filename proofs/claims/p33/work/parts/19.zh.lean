/-! ===== general answers of the calls, second part ===== -/
def am_iw (σ : am_St) : Prop := (∀ p, p < 30 → σ 3 p 0 = 45 → ∀ k, σ 6 p k = 0 ∧ σ 7 p k = 0) ∧ (∀ p, p < 30 → ¬ σ 3 p 0 = 45 → ∃ c, c < 144 ∧ σ 0 c 0 = p + 2) ∧ ∀ p, fb_sm (σ 6 p) 4 + fb_sm (σ 7 p) 4 ≤ 5
theorem am_fst_cg {p q : Nat → Bool} : ∀ {n : Nat}, (∀ k, k < n → p k = q k) → am_fst p n = am_fst q n
  | 0, _ => rfl
  | n + 1, h => by
    have e := am_fst_cg (n := n) (fun k hk => h k (by omega))
    show (if am_fst p n < n then am_fst p n else if p n then n else n + 1) = (if am_fst q n < n then am_fst q n else if q n then n else n + 1)
    rw [e, h n (by omega)]
theorem am_any_cg {p q : Nat → Bool} {n : Nat} (h : ∀ k, k < n → p k = q k) : am_any p n = am_any q n := by
  cases e : am_any q n with
  | false => exact am_any_f.mpr (fun k hk => by rw [h k hk]; exact am_any_f.mp e k hk)
  | true =>
    obtain ⟨k, hk, hp⟩ := am_any_t.mp e
    exact am_any_t.mpr ⟨k, hk, by rw [h k hk]; exact hp⟩
theorem am_or0 (a : Nat) : nI a ||| 0 = nI a := by rw [show (0 : Int32) = nI 0 from rfl, am_or, Nat.or_zero]
theorem am_le0 {s : Nat} (h : s < 2 ^ 31) : (nI s ≤ 0) = (s = 0) := propext ⟨fun q => by
  have := (nI_leI (b := 0) h (by decide)).mp q
  omega, fun q => by rw [q]; decide⟩
theorem am_eq0 {s : Nat} (h : s < 2 ^ 31) : (nI s = 0) = (s = 0) := am_eqN (b := 0) h (by decide)
theorem am_nn (s : Nat) : (!decide (0 < s)) = decide (s = 0) := by cases s <;> simp
theorem am_at_v {f : Nat → Int32} (h : am_wok f) (x y : Int32) : am_wv (am_at f x y) := by
  by_cases q : (0 ≤ x ∧ ¬ 12 ≤ x) ∧ 0 ≤ y ∧ ¬ 12 ≤ y
  · obtain ⟨i, j, hi, hj, rfl, rfl⟩ := am_insN q
    rw [am_at_in hi hj]
    exact h _ (by omega)
  · unfold am_at
    rw [if_neg q]
    exact Or.inl rfl
theorem am_e29 {p : Nat} (hp : p < 30) : (0 ≤ nI p ∧ nI p ≤ 29) = True := eq_true (am_pcb_t.mp (am_pcb_i hp))
theorem am_ge0 {p : Nat} (hp : p < 2 ^ 31) : ((0 : Int32) ≤ nI p) = True := eq_true (nI_pos' hp)
theorem am_b31 (b : Nat → Bool) : am_bn b 30 < 2 ^ 31 := Nat.lt_trans (am_bn_lt b 30) (by decide)
theorem am_s4 {g : Nat → Nat} (h : ∀ k, g k ≤ 5) : fb_sm g 4 < 2 ^ 31 := Nat.lt_of_le_of_lt (fb_sm_bound (c := 5) (fun k _ => h k)) (by decide)
theorem am_iv6 {σ : am_St} (h : am_iv σ) (p k : Nat) : σ 6 p k ≤ 5 := (h.2.2.1 p k).1
theorem am_iv7 {σ : am_St} (h : am_iv σ) (p k : Nat) : σ 7 p k ≤ 5 := (h.2.2.1 p k).2.1
theorem am_cv_1 {x : Nat} (hx : x < 32) : (am_cv x = -1) = (x = 1) := by
  apply propext
  constructor
  · intro q
    unfold am_cv at q
    by_cases h0 : x = 0
    · rw [if_pos h0] at q
      exact absurd q (by decide)
    · rw [if_neg h0] at q
      by_cases h1 : x = 1
      · exact h1
      · rw [if_neg h1] at q
        exact absurd q (am_m1 (show x - 2 < 1000 by omega))
  · rintro rfl
    rfl
theorem am_cv_p {x p : Nat} (hx : x < 32) (hp : p < 30) : (am_cv x = nI p) = (x = p + 2) := by
  apply propext
  constructor
  · intro q
    unfold am_cv at q
    by_cases h0 : x = 0
    · rw [if_pos h0] at q
      exact absurd q.symm (am_m2 (show p < 1000 by omega))
    · rw [if_neg h0] at q
      by_cases h1 : x = 1
      · rw [if_pos h1] at q
        exact absurd q.symm (am_m1 (show p < 1000 by omega))
      · rw [if_neg h1] at q
        have := (nI_eq (show x - 2 < 2 ^ 31 by omega) (show p < 2 ^ 31 by omega)).mp q
        omega
  · rintro rfl
    unfold am_cv
    rw [if_neg (by omega), if_neg (by omega)]
    rfl
/-! which pieces can come -/
def am_clr (σ : am_St) (L : Nat → Bool) (p : Nat) : Bool := !am_any (fun q => am_wtb (st_f σ) 144 p q && !(decide (q < 30) && L q)) 31
theorem am_clr_t {σ : am_St} {L : Nat → Bool} {p : Nat} : am_clr σ L p = true ↔ ∀ q, q < 31 → am_wtb (st_f σ) 144 p q = true → q < 30 ∧ L q = true := by
  unfold am_clr
  rw [Bool.not_eq_true', am_any_f]
  constructor
  · intro h q hq hw
    have h9 := h q hq
    rw [hw, Bool.true_and, Bool.not_eq_false', Bool.and_eq_true, decide_eq_true_eq] at h9
    exact h9
  · intro h q hq
    cases hw : am_wtb (st_f σ) 144 p q with
    | false => rfl
    | true =>
      obtain ⟨a, b⟩ := h q hq hw
      rw [decide_eq_true a, b]
      rfl
theorem am_dif_0 {w L : Nat → Bool} : am_dif (am_bn w 31) (am_bn L 30) = 0 ↔ ∀ q, q < 31 → w q = true → q < 30 ∧ L q = true := by
  constructor
  · intro h q hq hw
    have h1 := am_dif_bit (am_bn w 31) (am_bn L 30) q
    rw [h, am_bn_bit, am_bn_bit, hw, decide_eq_true hq, Nat.zero_testBit, Bool.true_and, Bool.true_and] at h1
    have h2 : (decide (q < 30) && L q) = true := by
      cases c : (decide (q < 30) && L q) with
      | true => rfl
      | false => rw [c] at h1; cases h1
    rw [Bool.and_eq_true, decide_eq_true_eq] at h2
    exact h2
  · intro h
    apply Nat.eq_of_testBit_eq
    intro q
    rw [am_dif_bit, am_bn_bit, am_bn_bit, Nat.zero_testBit]
    by_cases hq : q < 31
    · cases hw : w q with
      | false => rw [Bool.and_false, Bool.false_and]
      | true =>
        obtain ⟨a, b⟩ := h q hq hw
        rw [decide_eq_true a, b]
        simp
    · rw [decide_eq_false hq, Bool.false_and, Bool.false_and]
theorem am_clr_d {σ : am_St} {L : Nat → Bool} {p : Nat} : decide (am_dif (am_bn (am_wtb (st_f σ) 144 p) 31) (am_bn L 30) = 0) = am_clr σ L p := by
  cases h : am_clr σ L p with
  | true => exact decide_eq_true (am_dif_0.mpr (am_clr_t.mp h))
  | false => exact decide_eq_false (fun q => by rw [am_clr_t.mpr (am_dif_0.mp q)] at h; cases h)
def am_nx (σ : am_St) : Nat := am_fst (fun p => (decide (σ 3 p 0 = 99) && decide (fb_sm (σ 6 p) 4 = 0)) && am_clr σ (fun q => decide (σ 3 q 0 = 108)) p) 30
def q_next (σ : am_St) : am_R := if am_nx σ < 30 then r_i (nI (am_nx σ)) σ else r_x x_NE σ
def q_comes (σ : am_St) : am_R := if am_nx σ < 30 then r_i (nI (am_nx σ)) (am_st1 σ 3 (am_nx σ) 108) else r_x x_NE σ
def am_ordp (σ : am_St) : Prop := (∀ c, c < 144 → ¬ σ 0 c 0 = 1) ∧ ∀ L : Nat → Bool, (∀ p, p < 30 → am_hp (st_f σ) 144 p = true → am_clr σ L p = true → L p = true) → ∀ p, p < 30 → am_hp (st_f σ) 144 p = true → L p = true
noncomputable def q_isOrderly (σ : am_St) : am_R := r_i (@ite _ (am_ordp σ) (Classical.propDecidable _) 1 0) σ
theorem am_nxe {σ : am_St} : am_fst (fun p => (am_bn (fun i => decide (σ 3 i 0 = 99) && !decide (0 < fb_sm (σ 6 i) 4)) 30).testBit p && decide (am_dif (am_bn (am_wtb (st_f σ) 144 p) 31) (am_bn (fun q => decide (σ 3 q 0 = 108)) 30) = 0)) 30 = am_nx σ := am_fst_cg (fun p hp => by
  rw [am_bn_bit, decide_eq_true hp, Bool.true_and, am_nn, am_clr_d])
def q_solder (σ : am_St) : am_R := if ¬ σ 15 4 0 = 0 ∨ am_any (am_hp (st_f σ) 144) 30 = false ∨ am_any (fun p => am_hp (st_f σ) 144 p && !decide (σ 3 p 0 = 108)) 30 = true ∨ am_any (fun c => decide (σ 0 c 0 = 1)) 144 = true then r_x x_UO σ else r_i (nI (am_mts (st_f σ))) (am_st1 (am_st1 σ 15 4 1) 15 5 (σ 15 3 0))
theorem am_bare {σ : am_St} (h : am_iv σ) : (fb_ct (fun k => decide (st_f σ k = -1)) 144 = 0) = (am_any (fun c => decide (σ 0 c 0 = 1)) 144 = false) := by
  apply propext
  rw [fb_ct_zero, am_any_f]
  constructor
  · intro q k hk
    exact (decide_eq_decide.mpr (iff_of_eq (am_cv_1 (h.1 k hk)))).symm.trans (q k hk)
  · intro q k hk
    exact (decide_eq_decide.mpr (iff_of_eq (am_cv_1 (h.1 k hk)))).trans (q k hk)
theorem am_hp_t {σ : am_St} (h : am_iv σ) {p : Nat} (hp : p < 30) : am_hp (st_f σ) 144 p = true ↔ ∃ c, c < 144 ∧ σ 0 c 0 = p + 2 := by
  unfold am_hp
  rw [am_any_t]
  constructor
  · rintro ⟨c, hc, q⟩
    have q := of_decide_eq_true q
    exact ⟨c, hc, by rwa [show st_f σ c = am_cv (σ 0 c 0) from rfl, am_cv_p (h.1 c hc) hp] at q⟩
  · rintro ⟨c, hc, q⟩
    exact ⟨c, hc, decide_eq_true (by rw [show st_f σ c = am_cv (σ 0 c 0) from rfl, am_cv_p (h.1 c hc) hp]; exact q)⟩
/-! light -/
def am_br (σ : am_St) (v l : Int32) : Int32 := if v = -2 then 0 else if v = -1 ∨ σ 3 v.toNatClampNeg 0 = 45 ∨ σ 3 v.toNatClampNeg 0 = 98 then l else am_max 0 (l * (if σ 4 v.toNatClampNeg 0 = 0 then 100 else 90 - 8 * nI (σ 4 v.toNatClampNeg 0)) / 100 - 10 * nI (fb_sm (σ 7 v.toNatClampNeg) 4))
def am_lv (t : Int32) : Int32 := am_max 0 (100 - 14 * am_abs (t - 12))
def am_lk (o B : Int32) : Int32 := if o + 30 ≤ B then 1 else 0
def am_lks (σ : am_St) (x y l o : Int32) : Int32 := 0 + am_lk o (am_br σ (am_at (st_f σ) (x - 1) y) l) + am_lk o (am_br σ (am_at (st_f σ) (x + 1) y) l) + am_lk o (am_br σ (am_at (st_f σ) x (y - 1)) l) + am_lk o (am_br σ (am_at (st_f σ) x (y + 1)) l)
def q_looks (σ : am_St) (x y t : Int32) : am_R := if am_insb x y = true ∧ 0 ≤ t ∧ t ≤ 23 then r_i (am_max 0 (am_br σ (am_at (st_f σ) x y) (am_lv t) - 5 * am_lks σ x y (am_lv t) (am_br σ (am_at (st_f σ) x y) (am_lv t)))) σ else r_x x_IA σ
/-! years, prices, sums -/
def am_hyr (σ : am_St) (i y : Nat) : Bool := am_any (fun p => decide (¬ σ 3 p 0 = 45) && (decide (σ 5 p 0 = y) || st_y σ p y)) i
def q_hands (σ : am_St) : am_R := r_i (nI (fb_ct (am_hyr σ 30) 2001)) σ
def am_prc (σ : am_St) (p : Nat) : Nat := (if σ 3 p 0 = 45 then 0 else 5) + 2 * fb_sm (σ 7 p) 4
def q_price (σ : am_St) : am_R := r_i (nI (3 * am_lsd (st_f σ) + 7 * σ 15 7 0 + fb_sm (am_prc σ) 30)) σ
def am_cs1 (f : Nat → Int32) : Nat → Int64
  | 0 => 7
  | n + 1 => 31 * am_cs1 f n + (f n).toInt64
def am_cs2 (g h : Nat → Int32) (s : Int64) : Nat → Int64
  | 0 => s
  | n + 1 => 31 * (31 * am_cs2 g h s n + (g n).toInt64) + (h n).toInt64
def q_checksum (σ : am_St) : am_R := (.inl (some (.long (am_cs2 (fun p => nI (σ 3 p 0)) (fun p => nI (fb_sm (σ 7 p) 4)) (am_cs1 (st_f σ) 144) 30))), σ)
def am_on (σ : am_St) : Nat := 144 - fb_ct (fun k => decide (st_f σ k = -2)) 144
def am_cof (σ : am_St) (p : Nat) : Nat := fb_ct (fun k => decide (st_f σ k = nI p)) 144
def am_lit (σ : am_St) (p : Nat) : Nat := if σ 3 p 0 = 45 then 0 else am_cof σ p
def q_litShare (σ : am_St) : am_R := if am_on σ = 0 then r_x x_NE σ else (.inl (some (.float (FP.fdiv (FP.i2f (nI (fb_sm (am_lit σ) 30))) (FP.i2f (nI (am_on σ)))))), σ)
def am_pcs (σ : am_St) : Nat := fb_ct (am_hp (st_f σ) 144) 30
def q_meanCells (σ : am_St) : am_R := if am_pcs σ = 0 then r_x x_NE σ else (.inl (some (.double (FP.ddiv (FP.i2d (nI (am_on σ - fb_ct (fun k => decide (st_f σ k = -1)) 144))) (FP.i2d (nI (am_pcs σ)))))), σ)
noncomputable def am_ftb (σ : am_St) (p o : Nat) : Bool := (decide (¬ o = p) && (decide (σ 3 o 0 = 45 ∨ σ 3 o 0 = 98) && decide (σ 1 o 0 = σ 4 p 0))) && am_eqb (am_mv (am_shp (st_f σ) (nI o))) (am_mv (am_shp (st_f σ) (nI p)))
noncomputable def q_fits (σ : am_St) (p : Int32) : am_R := am_gl σ p (nI (fb_ct (am_ftb σ p.toNatClampNeg) 30))
/-! paint -/
def am_pnt (σ : am_St) (p k : Nat) : am_St := fun q => if q = 6 then (fun t i => if t = p ∧ i = k then σ 6 p k + 1 else σ 6 t i) else σ q
def am_kept (σ : am_St) (p : Nat) : Nat := fb_sm (σ 6 p) 4 + fb_sm (σ 7 p) 4
def q_paint (σ : am_St) (p c : Int32) : am_R := if am_pcb p = true then (if 0 ≤ am_kd c then (if σ 15 4 0 = 0 ∧ σ 3 p.toNatClampNeg 0 = 99 ∧ ¬ (am_kd c = 2 ∧ ¬ σ 6 p.toNatClampNeg 2 + σ 7 p.toNatClampNeg 2 = 0) then (if am_kept σ p.toNatClampNeg < 5 then r_i (nI (am_kept σ p.toNatClampNeg + 1)) (am_pnt σ p.toNatClampNeg (am_kd c).toNatClampNeg) else r_x x_IS σ) else r_x x_UO σ) else r_x x_IA σ) else r_x x_IO σ
def am_frk (σ : am_St) (a d i : Nat) : am_St := fun q => if q = 6 then (fun t k => if t < i ∧ a.testBit t = true then am_hR d (σ 6 t) k else σ 6 t k) else if q = 7 then (fun t k => if t < i ∧ a.testBit t = true then am_hF d (σ 6 t) (σ 7 t) k else σ 7 t k) else σ q
def am_fcn (σ : am_St) (a d p : Nat) : Nat := if a.testBit p = true then fb_sm (am_hN d (σ 6 p)) 4 else 0
def q_fire (σ : am_St) (a : Nat) (d : Int32) : am_R := if a ≠ 0 ∧ fb_ct a.testBit 32 ≤ 6 ∧ a < 2 ^ 30 ∧ 500 ≤ d ∧ d ≤ 700 then (if ¬ σ 15 4 0 = 0 ∨ am_any (fun p => a.testBit p && !decide (σ 3 p 0 = 99)) 30 = true then r_x x_UO σ else r_i (nI (fb_sm (am_fcn σ a d.toNatClampNeg) 30)) (am_frk σ a d.toNatClampNeg 30)) else r_x x_IA σ
/-! cutting -/
def am_glz (σ : am_St) (p st c : Nat) : am_St := fun q t => if t = p ∧ 3 ≤ q ∧ q ≤ 8 then (fun _ => if q = 3 then st else if q = 4 then c else if q = 5 then σ 15 3 0 else 0) else σ q t
noncomputable def am_ldp (σ : am_St) (p : Nat) (v : Bool) : Nat → Nat → Bool := if v = true then am_tn (am_mv (am_shp (st_f σ) (nI p))) else am_mv (am_shp (st_f σ) (nI p))
def am_wnt (σ : am_St) (j p : Nat) (v : Bool) : Prop := nI (σ 9 j 0) = nI (σ 1 p 0) ∧ (nI (σ 2 p 0) = 45 ∨ nI (σ 2 p 0) = am_sko (nI (σ 12 j 0)) v)
def am_zn (z : Nat) : Nat := z * 48271 % 2147483647
noncomputable def am_cut (σ : am_St) (j p : Nat) (v : Bool) : am_St := am_st1 (am_tks σ j (am_ldp σ p v) (am_plc (st_u σ j) (am_ldp σ p v) (σ 10 j 0) (σ 11 j 0))) 15 6 (am_zn (σ 15 6 0))
noncomputable def q_cutn (σ : am_St) (j p : Nat) (v : Bool) : am_R := @ite _ (σ 3 p 0 = 45 ∧ am_wnt σ j p v ∧ am_hi (am_shp (st_f σ) (nI p)) = 45) (Classical.propDecidable _) (if σ 15 4 0 = 0 ∧ am_plc (st_u σ j) (am_ldp σ p v) (σ 10 j 0) (σ 11 j 0) < 144 then (if am_zn (σ 15 6 0) % 100 < 10 * am_co (am_ldp σ p v) then r_i 0 (am_cut σ j p v) else r_i 1 (am_glz (am_cut σ j p v) p 99 (σ 9 j 0))) else r_x x_UO σ) (r_x x_IA σ)
noncomputable def q_cut (σ : am_St) (s p : Int32) (v : Bool) : am_R := if (0 ≤ s ∧ ¬ nI (σ 15 0 0) ≤ s) ∧ am_pcb p = true then q_cutn σ s.toNatClampNeg p.toNatClampNeg v else r_x x_IO σ
noncomputable def am_stg (σ : am_St) (j p : Nat) : am_St := am_st1 (am_glz (am_tks σ j (am_ldp σ p false) (am_plc (st_u σ j) (am_ldp σ p false) (σ 10 j 0) (σ 11 j 0))) p 108 (σ 9 j 0)) 15 7 (σ 15 7 0 + 1)
noncomputable def q_stopgap (σ : am_St) (p s : Int32) : am_R := if (0 ≤ s ∧ ¬ nI (σ 15 0 0) ≤ s) ∧ am_pcb p = true then (if σ 3 p.toNatClampNeg 0 = 98 ∧ σ 15 3 0 - σ 5 p.toNatClampNeg 0 < 100 ∧ am_plc (st_u σ s.toNatClampNeg) (am_ldp σ p.toNatClampNeg false) (σ 10 s.toNatClampNeg 0) (σ 11 s.toNatClampNeg 0) < 144 then r_i (nI (σ 15 7 0 + 1)) (am_stg σ s.toNatClampNeg p.toNatClampNeg) else r_x x_UO σ) else r_x x_IO σ
/-- the glass of a pane changes its state alone -/
theorem hs_st {b : Nat} {E : am_E} {σ : am_St} {τ : Nat → Nat → Nat → Bool} {w : Nat → Int32} {u : Nat → Bool} (h : am_HT b E σ τ w u) {p c : Nat} (hp : p < 30) (hc : c = 45 ∨ c = 99 ∨ c = 108 ∨ c = 98) : am_HT b (am_u E (b + 18 + 6 * p) (.inr (2, [.int (nI (σ 1 p 0)), .int (nI (σ 2 p 0)), .int (nI c), .int (nI (σ 4 p 0)), .int (nI (σ 5 p 0)), .ref (b + 19 + 6 * p), .ref (b + 22 + 6 * p)]))) (am_st1 σ 3 p c) τ w u := by
  have q9 : ∀ q, ¬ (1 ≤ q ∧ q ≤ 5) → am_st1 σ 3 p c q = σ q := fun q hq => am_st1_q (by omega)
  have j9 : ∀ q t, t ≠ p → am_st1 σ 3 p c q t = σ q t := fun q t ht => am_st1_j ht
  have e1 : am_st1 σ 3 p c 1 p 0 = σ 1 p 0 := rfl
  have e2 : am_st1 σ 3 p c 2 p 0 = σ 2 p 0 := rfl
  have e3 : am_st1 σ 3 p c 3 p 0 = c := am_st1_s
  have e4 : am_st1 σ 3 p c 4 p 0 = σ 4 p 0 := rfl
  have e5 : am_st1 σ 3 p c 5 p 0 = σ 5 p 0 := rfl
  have hv := h.1.2.1 p hp
  refine hs_setp h (am_iv_p h.1 q9 j9 (by rw [e1, e2, e3, e4, e5]; exact ⟨hv.1, hv.2.1, hc, hv.2.2.2.1, hv.2.2.2.2⟩)) hp q9 j9 ?_
  show _ = (Sum.inr (2, [Value.int (nI (am_st1 σ 3 p c 1 p 0)), Value.int (nI (am_st1 σ 3 p c 2 p 0)), Value.int (nI (am_st1 σ 3 p c 3 p 0)), Value.int (nI (am_st1 σ 3 p c 4 p 0)), Value.int (nI (am_st1 σ 3 p c 5 p 0)), .ref (b + 19 + 6 * p), .ref (b + 22 + 6 * p)]) : va_E)
  rw [e1, e2, e3, e4, e5]
/-! quotients that are numbers -/
theorem am_fdok {a o : Nat} (ho : o < 2 ^ 31) (h0 : ¬ o = 0) : vf_n32 (FP.fdiv (FP.i2f (nI a)) (FP.i2f (nI o))) := by
  have hz : nI o ≠ 0 := fun q => h0 (by rwa [am_eq0 ho] at q)
  have h1 := FP.Core.i2f_mag (nI a)
  have h2 := FP.Core.i2f_big (FP.Core.int32_ne hz)
  have h3 := FP.Core.fdiv_mag h1 h2.1 h2.2 (by decide) (by decide)
  have h4 : FP.fdiv (FP.i2f (nI a)) (FP.i2f (nI o)) = FP.Core.fdiv (FP.Core.i2f (nI a)) (FP.Core.i2f (nI o)) := rfl
  unfold vf_n32
  rw [h4]
  generalize FP.Core.fdiv (FP.Core.i2f (nI a)) (FP.Core.i2f (nI o)) = r at h3 ⊢
  rw [UInt32.le_iff_toNat_le, UInt32.toNat_and, show (0x7fffffff : UInt32).toNat = 2 ^ 31 - 1 from rfl, Nat.and_two_pow_sub_one_eq_mod, show (0x7f800000 : UInt32).toNat = 255 * 2 ^ 23 from rfl]
  omega
theorem am_ddok {a o : Nat} (ho : o < 2 ^ 31) (h0 : ¬ o = 0) : vf_n64 (FP.ddiv (FP.i2d (nI a)) (FP.i2d (nI o))) := by
  have hz : nI o ≠ 0 := fun q => h0 (by rwa [am_eq0 ho] at q)
  have h1 := FP.Core.i2d_mag (nI a)
  have h2 := FP.Core.i2d_big (FP.Core.int32_ne hz)
  have h3 := FP.Core.ddiv_mag h1 h2.1 h2.2 (by decide) (by decide)
  have h4 : FP.ddiv (FP.i2d (nI a)) (FP.i2d (nI o)) = FP.Core.ddiv (FP.Core.i2d (nI a)) (FP.Core.i2d (nI o)) := rfl
  unfold vf_n64
  rw [h4]
  generalize FP.Core.ddiv (FP.Core.i2d (nI a)) (FP.Core.i2d (nI o)) = r at h3 ⊢
  rw [UInt64.le_iff_toNat_le, UInt64.toNat_and, show (0x7fffffffffffffff : UInt64).toNat = 2 ^ 63 - 1 from rfl, Nat.and_two_pow_sub_one_eq_mod, show (0x7ff0000000000000 : UInt64).toNat = 2047 * 2 ^ 52 from rfl]
  omega
/-! paint -/
theorem am_kd_v (c : Int32) : (∃ k : Nat, k < 4 ∧ am_kd c = nI k) ∨ am_kd c = -1 := by
  unfold am_kd
  split
  · exact Or.inl ⟨0, by decide, rfl⟩
  · split
    · exact Or.inl ⟨1, by decide, rfl⟩
    · split
      · exact Or.inl ⟨2, by decide, rfl⟩
      · split
        · exact Or.inl ⟨3, by decide, rfl⟩
        · exact Or.inr rfl
theorem am_part (g : Nat → Nat) {k N : Nat} (hk : k < N) : g k ≤ fb_sm g N := by
  have := fb_sm_part g hk
  omega
theorem am_iv_67 {σ σ' : am_St} (h : am_iv σ) (hq : ∀ q, q ≠ 6 → q ≠ 7 → σ' q = σ q) (h6 : ∀ p k, σ' 6 p k ≤ 5 ∧ σ' 7 p k ≤ 5 ∧ (4 ≤ k → σ' 6 p k = 0 ∧ σ' 7 p k = 0)) : am_iv σ' := by
  unfold am_iv
  rw [hq 0 (by omega) (by omega), hq 1 (by omega) (by omega), hq 2 (by omega) (by omega), hq 3 (by omega) (by omega), hq 4 (by omega) (by omega), hq 5 (by omega) (by omega), hq 9 (by omega) (by omega), hq 10 (by omega) (by omega), hq 11 (by omega) (by omega), hq 12 (by omega) (by omega), hq 15 (by omega) (by omega)]
  exact ⟨h.1, h.2.1, h6, h.2.2.2⟩
theorem am_iv_pnt {σ : am_St} {p k : Nat} (h : am_iv σ) (hk4 : k < 4) (hk5 : am_kept σ p < 5) : am_iv (am_pnt σ p k) := by
  refine am_iv_67 h (fun q h6 h7 => if_neg h6) (fun t i => ?_)
  show (if t = p ∧ i = k then σ 6 p k + 1 else σ 6 t i) ≤ 5 ∧ σ 7 t i ≤ 5 ∧ (4 ≤ i → (if t = p ∧ i = k then σ 6 p k + 1 else σ 6 t i) = 0 ∧ σ 7 t i = 0)
  have hv := h.2.2.1 t i
  by_cases c : t = p ∧ i = k
  · rw [if_pos c]
    have := am_part (σ 6 p) hk4
    unfold am_kept at hk5
    exact ⟨by omega, hv.2.1, fun q => by omega⟩
  · rw [if_neg c]
    exact hv
theorem am_kept_pnt {σ : am_St} {p k : Nat} (hk : k < 4) : am_kept (am_pnt σ p k) p = am_kept σ p + 1 := by
  have e : am_pnt σ p k 6 p = fun i => if i = k then σ 6 p k + 1 else σ 6 p i := by
    funext i
    show (if p = p ∧ i = k then σ 6 p k + 1 else σ 6 p i) = _
    by_cases hik : i = k
    · rw [if_pos ⟨rfl, hik⟩, if_pos hik]
    · rw [if_neg (fun q => hik q.2), if_neg hik]
  have e7 : am_pnt σ p k 7 p = σ 7 p := rfl
  unfold am_kept
  rw [e, e7]
  have := fb_sm_upd (σ 6 p) (σ 6 p k + 1) hk
  omega
/-! firing -/
theorem am_hR_le (d : Nat) (R : Nat → Nat) (k : Nat) : am_hR d R k ≤ R k := by
  unfold am_hR
  split
  · exact Nat.zero_le _
  · split
    · exact Nat.zero_le _
    · exact Nat.le_refl _
theorem am_hF_le (d : Nat) (R F : Nat → Nat) (k : Nat) : am_hF d R F k ≤ F k + R k := by
  unfold am_hF
  split
  · exact Nat.zero_le _
  · split
    · exact Nat.le_refl _
    · omega
theorem am_k5 {σ : am_St} (h : am_iv σ) {p : Nat} (h5 : am_kept σ p ≤ 5) (k : Nat) : σ 7 p k + σ 6 p k ≤ 5 := by
  by_cases hk : k < 4
  · have a := am_part (σ 6 p) hk
    have b := am_part (σ 7 p) hk
    unfold am_kept at h5
    omega
  · have := (h.2.2.1 p k).2.2 (by omega)
    omega
theorem am_iv_frk {σ : am_St} {a d i : Nat} (h : am_iv σ) (h5 : ∀ p, am_kept σ p ≤ 5) : am_iv (am_frk σ a d i) := by
  refine am_iv_67 h (fun q h6 h7 => (if_neg h6).trans (if_neg h7)) (fun t k => ?_)
  show (if t < i ∧ a.testBit t = true then am_hR d (σ 6 t) k else σ 6 t k) ≤ 5 ∧ (if t < i ∧ a.testBit t = true then am_hF d (σ 6 t) (σ 7 t) k else σ 7 t k) ≤ 5 ∧ (4 ≤ k → (if t < i ∧ a.testBit t = true then am_hR d (σ 6 t) k else σ 6 t k) = 0 ∧ (if t < i ∧ a.testBit t = true then am_hF d (σ 6 t) (σ 7 t) k else σ 7 t k) = 0)
  have hv := h.2.2.1 t k
  have a1 := am_hR_le d (σ 6 t) k
  have a2 := am_hF_le d (σ 6 t) (σ 7 t) k
  have a3 := am_k5 h (h5 t) k
  by_cases c : t < i ∧ a.testBit t = true
  · rw [if_pos c, if_pos c]
    exact ⟨by omega, by omega, fun q => by have := hv.2.2 q; omega⟩
  · rw [if_neg c, if_neg c]
    exact hv
theorem am_frk_0 (σ : am_St) (a d : Nat) : am_frk σ a d 0 = σ := by
  funext q
  unfold am_frk
  by_cases h6 : q = 6
  · subst h6
    rw [if_pos rfl]
    funext t k
    rw [if_neg (fun q => Nat.not_lt_zero _ q.1)]
  · rw [if_neg h6]
    by_cases h7 : q = 7
    · subst h7
      rw [if_pos rfl]
      funext t k
      rw [if_neg (fun q => Nat.not_lt_zero _ q.1)]
    · rw [if_neg h7]
theorem am_frk_k {σ : am_St} {a d i : Nat} (h : a.testBit i = false) : am_frk σ a d (i + 1) = am_frk σ a d i := by
  have e : ∀ t, (t < i + 1 ∧ a.testBit t = true) ↔ (t < i ∧ a.testBit t = true) := fun t => by
    constructor
    · rintro ⟨h1, h2⟩
      refine ⟨?_, h2⟩
      by_cases q : t = i
      · rw [q, h] at h2; cases h2
      · omega
    · rintro ⟨h1, h2⟩
      exact ⟨by omega, h2⟩
  funext q
  unfold am_frk
  simp only [e]
/-- a pane is heated -/
theorem hs_heat {b : Nat} {E : am_E} {σ : am_St} {a d i : Nat} {τ : Nat → Nat → Nat → Bool} {w : Nat → Int32} {u : Nat → Bool} (h5 : ∀ p, am_kept σ p ≤ 5) (h0 : am_iv σ) (h : am_HT b E (am_frk σ a d i) τ w u) (hi : i < 30) (hb : a.testBit i = true) : am_HT b (am_u (am_u E (b + 20 + 6 * i) (am_c4 (am_hR d (σ 6 i)))) (b + 21 + 6 * i) (am_c4 (am_hF d (σ 6 i) (σ 7 i)))) (am_frk σ a d (i + 1)) τ w u := by
  have r6 : ∀ t, am_frk σ a d i 6 t = if t < i ∧ a.testBit t = true then am_hR d (σ 6 t) else σ 6 t := fun t => by
    funext k
    show (if t < i ∧ a.testBit t = true then am_hR d (σ 6 t) k else σ 6 t k) = _
    split <;> rfl
  have s6 : ∀ t, am_frk σ a d (i + 1) 6 t = if t < i + 1 ∧ a.testBit t = true then am_hR d (σ 6 t) else σ 6 t := fun t => by
    funext k
    show (if t < i + 1 ∧ a.testBit t = true then am_hR d (σ 6 t) k else σ 6 t k) = _
    split <;> rfl
  have r7 : ∀ t, am_frk σ a d i 7 t = if t < i ∧ a.testBit t = true then am_hF d (σ 6 t) (σ 7 t) else σ 7 t := fun t => by
    funext k
    show (if t < i ∧ a.testBit t = true then am_hF d (σ 6 t) (σ 7 t) k else σ 7 t k) = _
    split <;> rfl
  have s7 : ∀ t, am_frk σ a d (i + 1) 7 t = if t < i + 1 ∧ a.testBit t = true then am_hF d (σ 6 t) (σ 7 t) else σ 7 t := fun t => by
    funext k
    show (if t < i + 1 ∧ a.testBit t = true then am_hF d (σ 6 t) (σ 7 t) k else σ 7 t k) = _
    split <;> rfl
  have hiv : am_iv (am_frk σ a d (i + 1)) := am_iv_frk h0 h5
  have hne : ∀ t, t ≠ i → ((t < i + 1 ∧ a.testBit t = true) ↔ (t < i ∧ a.testBit t = true)) := fun t ht => ⟨fun q => ⟨by omega, q.2⟩, fun q => ⟨by omega, q.2⟩⟩
  have e6 : am_frk σ a d (i + 1) 6 i = am_hR d (σ 6 i) := by rw [s6, if_pos ⟨Nat.lt_succ_self i, hb⟩]
  have e7 : am_frk σ a d (i + 1) 7 i = am_hF d (σ 6 i) (σ 7 i) := by rw [s7, if_pos ⟨Nat.lt_succ_self i, hb⟩]
  have hq6 : ∀ q, q ≠ 6 → q ≠ 7 → am_frk σ a d (i + 1) q = am_frk σ a d i q := fun q h6 h7 => by
    unfold am_frk
    rw [if_neg h6, if_neg h7, if_neg h6, if_neg h7]
  generalize hσ1 : am_st (am_frk σ a d i) 6 (am_frk σ a d (i + 1) 6) = σ1
  have q1 : ∀ q, q ≠ 6 → σ1 q = am_frk σ a d i q := fun q hq => by rw [← hσ1]; exact am_st_n _ _ hq
  have p1 : σ1 6 = am_frk σ a d (i + 1) 6 := by rw [← hσ1]; exact am_st_s _ _ _
  have i1 : am_iv σ1 := am_iv_67 h.1 (fun q h6 _ => q1 q h6) (fun t k => by
    rw [p1, q1 7 (by decide)]
    exact ⟨(hiv.2.2.1 t k).1, (h.1.2.2.1 t k).2.1, fun q => ⟨((hiv.2.2.1 t k).2.2 q).1, ((h.1.2.2.1 t k).2.2 q).2⟩⟩)
  have hT1 := hs_setc h (σ' := σ1) (p := i) (c := 2) (q0 := 6) i1 hi (Or.inl ⟨rfl, rfl⟩) q1 (fun t ht => by
    rw [p1, s6, r6]
    by_cases c : t < i ∧ a.testBit t = true
    · rw [if_pos c, if_pos ((hne t ht).mpr c)]
    · rw [if_neg c, if_neg (fun q => c ((hne t ht).mp q))])
  have hT2 := hs_setc hT1 (σ' := am_frk σ a d (i + 1)) (p := i) (c := 3) (q0 := 7) hiv hi (Or.inr (Or.inl ⟨rfl, rfl⟩)) (fun q hq => by
    by_cases h6 : q = 6
    · subst h6; exact p1.symm
    · rw [hq6 q h6 hq, q1 q h6]) (fun t ht => by
    rw [q1 7 (by decide), s7, r7]
    by_cases c : t < i ∧ a.testBit t = true
    · rw [if_pos c, if_pos ((hne t ht).mpr c)]
    · rw [if_neg c, if_neg (fun q => c ((hne t ht).mp q))])
  have f1 : hs_pane b σ1 i 2 = am_c4 (am_hR d (σ 6 i)) := by
    show am_c4 (σ1 6 i) = _
    rw [p1, e6]
  have f2 : hs_pane b (am_frk σ a d (i + 1)) i 3 = am_c4 (am_hF d (σ 6 i) (σ 7 i)) := by
    show am_c4 (am_frk σ a d (i + 1) 7 i) = _
    rw [e7]
  rw [f1, f2, show b + (18 + 6 * i + 2) = b + 20 + 6 * i by omega, show b + (18 + 6 * i + 3) = b + 21 + 6 * i by omega] at hT2
  exact hT2
theorem q_litShare_2 (σ : am_St) : (q_litShare σ).2 = σ := by unfold q_litShare; generalize am_on σ = o; split <;> rfl
theorem q_meanCells_2 (σ : am_St) : (q_meanCells σ).2 = σ := by unfold q_meanCells; generalize am_pcs σ = o; split <;> rfl
/-! cutting: places, panes that come new -/
theorem am_lst_ge {p : Nat → Bool} {k : Nat} (hp : p k = true) : ∀ {n : Nat}, k < n → k < am_lst p n
  | 0, h => absurd h (Nat.not_lt_zero _)
  | n + 1, h => by
    cases hn : p n with
    | true => rw [am_lst_t hn]; exact h
    | false =>
      rw [am_lst_f hn]
      refine am_lst_ge hp ?_
      by_cases e : k = n
      · rw [e, hn] at hp; cases hp
      · omega
theorem am_wd_gt {P : Nat → Nat → Bool} (h : am_sup P) {x y : Nat} (hp : P x y = true) : x < am_wd P := am_lst_ge (p := am_cu P) (k := x) (am_any_t.mpr ⟨y, (h x y hp).2, hp⟩) (h x y hp).1
theorem am_ht_gt {P : Nat → Nat → Bool} (h : am_sup P) {x y : Nat} (hp : P x y = true) : y < am_ht P := am_lst_ge (p := am_ru P) (k := y) (am_any_t.mpr ⟨x, (h x y hp).1, hp⟩) (h x y hp).2
theorem am_fst_ub {p : Nat → Bool} {n k : Nat} (hp : p k = true) : am_fst p n ≤ k := by
  by_cases h : k < am_fst p n
  · rw [am_fsx_no p n k h] at hp
    cases hp
  · omega
def am_ne (P : Nat → Nat → Bool) : Prop := ∃ x y, P x y = true
theorem am_ne_mv {P : Nat → Nat → Bool} (h : am_sup P) (hn : am_ne P) : am_ne (am_mv P) := by
  obtain ⟨x, y, hp⟩ := hn
  have h1 : am_lf P ≤ x := am_fst_ub (p := am_cu P) (k := x) (am_any_t.mpr ⟨y, (h x y hp).2, hp⟩)
  have h2 : am_lw P ≤ y := am_fst_ub (p := am_ru P) (k := y) (am_any_t.mpr ⟨x, (h x y hp).1, hp⟩)
  refine ⟨x - am_lf P, y - am_lw P, ?_⟩
  unfold am_mv
  rw [show x - am_lf P + am_lf P = x by omega, show y - am_lw P + am_lw P = y by omega]
  exact hp
theorem am_ne_tn {P : Nat → Nat → Bool} (h : am_sup P) (hn : am_ne P) : am_ne (am_tn P) := by
  obtain ⟨x, y, hp⟩ := hn
  have h1 := am_ht_gt h hp
  refine ⟨am_ht P - 1 - y, x, ?_⟩
  unfold am_tn
  rw [show am_ht P - 1 - (am_ht P - 1 - y) = y by omega, hp, decide_eq_true (by omega)]
  rfl
theorem am_ne_sz {P : Nat → Nat → Bool} (h : ¬ am_sz P = 0) : am_ne P := by
  by_cases q : am_ne P
  · exact q
  · exact absurd (am_sz_0 (fun x y => by
      cases e : P x y with
      | false => rfl
      | true => exact absurd ⟨x, y, e⟩ q)) h
theorem am_ne_hi {P : Nat → Nat → Bool} (h : am_hi P = 45) : am_ne P := am_ne_sz (fun q => by
  unfold am_hi at h
  rw [if_pos q] at h
  exact absurd h (by decide))
theorem am_ldp_sup (σ : am_St) (p : Nat) (v : Bool) : am_sup (am_ldp σ p v) := by
  unfold am_ldp
  have h := am_mv_sup (am_shp_sup (st_f σ) (nI p))
  split
  · exact am_tn_sup h
  · exact h
theorem am_ldp_ne {σ : am_St} {p : Nat} {v : Bool} (hn : am_ne (am_shp (st_f σ) (nI p))) : am_ne (am_ldp σ p v) := by
  unfold am_ldp
  have h := am_mv_sup (am_shp_sup (st_f σ) (nI p))
  have h2 := am_ne_mv (am_shp_sup (st_f σ) (nI p)) hn
  split
  · exact am_ne_tn h h2
  · exact h2
/-- what stands at a free place -/
theorem am_plc_at {U P : Nat → Nat → Bool} {w h : Nat} (hs : am_sup P) (hk : am_plc U P w h < 144) : am_plc U P w h / 12 + am_ht P ≤ h ∧ am_plc U P w h % 12 + am_wd P ≤ w ∧ ∀ x y, P x y = true → x + am_plc U P w h % 12 < w ∧ y + am_plc U P w h / 12 < h := by
  have ha := am_fsx_at (am_plp U P w h) 144 hk
  have e : am_plc U P w h = am_fst (am_plp U P w h) 144 := rfl
  rw [e]
  generalize am_fst (am_plp U P w h) 144 = k at ha
  unfold am_plp at ha
  rw [Bool.and_eq_true, Bool.and_eq_true, decide_eq_true_eq, decide_eq_true_eq] at ha
  refine ⟨ha.1, ha.2.1, fun x y hp => ?_⟩
  have := am_wd_gt hs hp
  have := am_ht_gt hs hp
  omega
theorem am_iv_glz {σ : am_St} {p st c : Nat} (h : am_iv σ) (hp : p < 30) (hst : st = 45 ∨ st = 99 ∨ st = 108 ∨ st = 98) (hc : c < 10) : am_iv (am_glz σ p st c) := by
  have e0 : ∀ q, ¬ (3 ≤ q ∧ q ≤ 8) → am_glz σ p st c q = σ q := fun q hq => by
    funext t
    exact if_neg (fun z => hq z.2)
  have et : ∀ q t, t ≠ p → am_glz σ p st c q t = σ q t := fun q t ht => if_neg (fun z => ht z.1)
  have ep : ∀ q, 3 ≤ q → q ≤ 8 → am_glz σ p st c q p = fun _ => if q = 3 then st else if q = 4 then c else if q = 5 then σ 15 3 0 else 0 := fun q h1 h2 => if_pos ⟨rfl, h1, h2⟩
  unfold am_iv
  rw [e0 0 (by omega), e0 1 (by omega), e0 2 (by omega), e0 9 (by omega), e0 10 (by omega), e0 11 (by omega), e0 12 (by omega), e0 15 (by omega)]
  refine ⟨h.1, fun i hi => ?_, fun i k => ?_, h.2.2.2⟩
  · by_cases e : i = p
    · subst e
      rw [ep 3 (by omega) (by omega), ep 4 (by omega) (by omega), ep 5 (by omega) (by omega)]
      have := h.2.1 i hi
      exact ⟨this.1, this.2.1, hst, hc, Nat.le_refl _⟩
    · rw [et 3 i e, et 4 i e, et 5 i e]
      exact h.2.1 i hi
  · by_cases e : i = p
    · subst e
      rw [ep 6 (by omega) (by omega), ep 7 (by omega) (by omega)]
      exact ⟨Nat.zero_le _, Nat.zero_le _, fun _ => ⟨rfl, rfl⟩⟩
    · rw [et 6 i e, et 7 i e]
      exact h.2.2.1 i k
/-- a pane comes new -/
theorem hs_glz {b : Nat} {E : am_E} {σ : am_St} {τ : Nat → Nat → Nat → Bool} {w : Nat → Int32} {u : Nat → Bool} (h : am_HT b E σ τ w u) {p st c : Nat} (hp : p < 30) (hst : st = 45 ∨ st = 99 ∨ st = 108 ∨ st = 98) (hc : c < 10) : am_HT b (am_u (am_u (am_u (am_u E (b + 18 + 6 * p) (.inr (2, [.int (nI (σ 1 p 0)), .int (nI (σ 2 p 0)), .int (nI st), .int (nI c), .int (nI (σ 15 3 0)), .ref (b + 19 + 6 * p), .ref (b + 22 + 6 * p)]))) (b + 20 + 6 * p) (am_c4 (fun _ => 0))) (b + 21 + 6 * p) (am_c4 (fun _ => 0))) (b + 23 + 6 * p) (am_ywE (fun _ => false))) (am_glz σ p st c) τ w u := by
  have hiv := am_iv_glz h.1 hp hst hc
  have e0 : ∀ q, ¬ (3 ≤ q ∧ q ≤ 8) → am_glz σ p st c q = σ q := fun q hq => by
    funext t
    exact if_neg (fun z => hq z.2)
  have et : ∀ q t, t ≠ p → am_glz σ p st c q t = σ q t := fun q t ht => if_neg (fun z => ht z.1)
  have ep : ∀ q, 3 ≤ q → q ≤ 8 → am_glz σ p st c q p = fun _ => if q = 3 then st else if q = 4 then c else if q = 5 then σ 15 3 0 else 0 := fun q h1 h2 => if_pos ⟨rfl, h1, h2⟩
  generalize am_glz σ p st c = σ' at hiv e0 et ep
  -- the numbers first, then the layers, then the years of leads
  have s1 : ∀ N : Nat, ∀ q, (fun q => if 3 ≤ q ∧ q ≤ N then σ' q else σ q : am_St) q = if 3 ≤ q ∧ q ≤ N then σ' q else σ q := fun _ _ => rfl
  have ivN : ∀ N, 5 ≤ N → am_iv (fun q => if 3 ≤ q ∧ q ≤ N then σ' q else σ q) := fun N hN => by
    unfold am_iv
    simp only [show ¬ (3 ≤ 0 ∧ 0 ≤ N) by omega, show ¬ (3 ≤ 1 ∧ 1 ≤ N) by omega, show ¬ (3 ≤ 2 ∧ 2 ≤ N) by omega, show 3 ≤ 3 ∧ 3 ≤ N by omega, show 3 ≤ 4 ∧ 4 ≤ N by omega, show 3 ≤ 5 ∧ 5 ≤ N by omega, if_false, if_true]
    have g : ∀ q, 9 ≤ q → (if 3 ≤ q ∧ q ≤ N then σ' q else σ q) = σ q := fun q hq => by
      split
      · exact e0 q (by omega)
      · rfl
    simp only [g 9 (by omega), g 10 (by omega), g 11 (by omega), g 12 (by omega), g 15 (by omega)]
    have hv := hiv.2.1
    have i0 := hiv.1
    rw [e0 0 (by omega)] at i0
    rw [e0 1 (by omega), e0 2 (by omega), e0 15 (by omega)] at hv
    refine ⟨i0, hv, fun t k => ?_, h.1.2.2.2⟩
    have a1 := h.1.2.2.1 t k
    have a2 := hiv.2.2.1 t k
    by_cases c6 : 3 ≤ 6 ∧ 6 ≤ N
    · by_cases c7 : 3 ≤ 7 ∧ 7 ≤ N
      · rw [if_pos c6, if_pos c7]; exact a2
      · rw [if_pos c6, if_neg c7]; exact ⟨a2.1, a1.2.1, fun q => ⟨(a2.2.2 q).1, (a1.2.2 q).2⟩⟩
    · rw [if_neg c6, if_neg (show ¬ (3 ≤ 7 ∧ 7 ≤ N) by omega)]; exact a1
  have h1 := hs_setp h (σ' := fun q => if 3 ≤ q ∧ q ≤ 5 then σ' q else σ q) (ivN 5 (by omega)) hp (fun q hq => if_neg (by omega)) (fun q t ht => by
    show (if 3 ≤ q ∧ q ≤ 5 then σ' q else σ q) t = σ q t
    split
    · exact et q t ht
    · rfl) (e := .inr (2, [.int (nI (σ 1 p 0)), .int (nI (σ 2 p 0)), .int (nI st), .int (nI c), .int (nI (σ 15 3 0)), .ref (b + 19 + 6 * p), .ref (b + 22 + 6 * p)])) (by
    show _ = (Sum.inr (2, [Value.int (nI (σ 1 p 0)), Value.int (nI (σ 2 p 0)), Value.int (nI (σ' 3 p 0)), Value.int (nI (σ' 4 p 0)), Value.int (nI (σ' 5 p 0)), .ref (b + 19 + 6 * p), .ref (b + 22 + 6 * p)]) : va_E)
    rw [ep 3 (by omega) (by omega), ep 4 (by omega) (by omega), ep 5 (by omega) (by omega)]
    rfl)
  have stp : ∀ N q0, q0 = N + 1 → 5 ≤ N → N < 8 → (∀ q, q ≠ q0 → (fun q => if 3 ≤ q ∧ q ≤ N + 1 then σ' q else σ q : am_St) q = (fun q => if 3 ≤ q ∧ q ≤ N then σ' q else σ q : am_St) q) ∧ ∀ t, t ≠ p → (fun q => if 3 ≤ q ∧ q ≤ N + 1 then σ' q else σ q : am_St) q0 t = (fun q => if 3 ≤ q ∧ q ≤ N then σ' q else σ q : am_St) q0 t := fun N q0 hq0 hN hN8 => by
    constructor
    · intro q hq
      show (if 3 ≤ q ∧ q ≤ N + 1 then σ' q else σ q) = (if 3 ≤ q ∧ q ≤ N then σ' q else σ q)
      by_cases c : 3 ≤ q ∧ q ≤ N
      · rw [if_pos c, if_pos (by omega)]
      · rw [if_neg c, if_neg (by omega)]
    · intro t ht
      show (if 3 ≤ q0 ∧ q0 ≤ N + 1 then σ' q0 else σ q0) t = (if 3 ≤ q0 ∧ q0 ≤ N then σ' q0 else σ q0) t
      rw [if_pos (by omega), if_neg (by omega)]
      exact et q0 t ht
  have h2 := hs_setc h1 (σ' := fun q => if 3 ≤ q ∧ q ≤ 6 then σ' q else σ q) (p := p) (c := 2) (q0 := 6) (ivN 6 (by omega)) hp (Or.inl ⟨rfl, rfl⟩) (stp 5 6 rfl (by omega) (by omega)).1 (stp 5 6 rfl (by omega) (by omega)).2
  have h3 := hs_setc h2 (σ' := fun q => if 3 ≤ q ∧ q ≤ 7 then σ' q else σ q) (p := p) (c := 3) (q0 := 7) (ivN 7 (by omega)) hp (Or.inr (Or.inl ⟨rfl, rfl⟩)) (stp 6 7 rfl (by omega) (by omega)).1 (stp 6 7 rfl (by omega) (by omega)).2
  have h4 := hs_setc h3 (σ' := fun q => if 3 ≤ q ∧ q ≤ 8 then σ' q else σ q) (p := p) (c := 5) (q0 := 8) (ivN 8 (by omega)) hp (Or.inr (Or.inr ⟨rfl, rfl⟩)) (stp 7 8 rfl (by omega) (by omega)).1 (stp 7 8 rfl (by omega) (by omega)).2
  have es : (fun q => if 3 ≤ q ∧ q ≤ 8 then σ' q else σ q) = σ' := by
    funext q
    split
    · rfl
    · rename_i c9
      exact (e0 q c9).symm
  have f1 : hs_pane b (fun q => if 3 ≤ q ∧ q ≤ 6 then σ' q else σ q) p 2 = am_c4 (fun _ => 0) := by
    show am_c4 (σ' 6 p) = _
    rw [ep 6 (by omega) (by omega)]
    rfl
  have f2 : hs_pane b (fun q => if 3 ≤ q ∧ q ≤ 7 then σ' q else σ q) p 3 = am_c4 (fun _ => 0) := by
    show am_c4 (σ' 7 p) = _
    rw [ep 7 (by omega) (by omega)]
    rfl
  have f3 : hs_pane b (fun q => if 3 ≤ q ∧ q ≤ 8 then σ' q else σ q) p 5 = am_ywE (fun _ => false) := by
    show am_ywE (st_y (fun q => if 3 ≤ q ∧ q ≤ 8 then σ' q else σ q) p) = _
    congr 1
    funext y
    show decide (y ≤ 2000 ∧ σ' 8 p y = 1) = false
    rw [ep 8 (by omega) (by omega)]
    exact decide_eq_false (fun q => absurd q.2 (show ¬ (0 : Nat) = 1 by decide))
  rw [f1, f2, f3, es, show b + (18 + 6 * p + 2) = b + 20 + 6 * p by omega, show b + (18 + 6 * p + 3) = b + 21 + 6 * p by omega, show b + (18 + 6 * p + 5) = b + 23 + 6 * p by omega] at h4
  exact h4
theorem am_zn_I {z : Nat} (h1 : 1 ≤ z) (h2 : z < 2147483647) : ((nI z).toInt64 * 48271 - (nI z).toInt64 * 48271 / 2147483647 * 2147483647).toInt32 = nI (am_zn z) := by
  rw [nI_l (by omega), show (48271 : Int64) = lN 48271 from rfl, show (2147483647 : Int64) = lN 2147483647 from rfl, lN_mul, pk_lRem (by omega) (by omega) (by omega), lN_i]
  rfl
theorem am_zn_b {z : Nat} (h1 : 1 ≤ z) (h2 : z < 2147483647) : 1 ≤ am_zn z ∧ am_zn z < 2147483647 := by
  refine ⟨?_, Nat.mod_lt _ (by decide)⟩
  unfold am_zn
  omega
theorem am_rem100 {z : Nat} (h : z < 2147483647) : nI z - nI z / 100 * 100 = nI (z % 100) := pk_rem (a := z) (d := 100) (by omega) (by decide) (by decide)
theorem am_glz_q {σ : am_St} {p st c q : Nat} (hq : ¬ (3 ≤ q ∧ q ≤ 8)) : am_glz σ p st c q = σ q := funext fun _ => if_neg (fun z => hq z.2)
theorem am_glz_o {b : Nat} {σ : am_St} {p st c m : Nat} {τ : Nat → Nat → Nat → Bool} {w : Nat → Int32} {u : Nat → Bool} : hs_top b (am_st1 (am_glz σ p st c) 15 7 m) τ w u 0 = .inr (7, [.ref (b + 1), .ref (b + 3), .ref (b + 4), .ref (b + 5), .int (nI (σ 15 0 0)), .int (nI (σ 15 8 0)), .int (nI (σ 15 6 0)), .int (nI (σ 15 4 0)), .int (nI (σ 15 5 0)), .int (nI (σ 15 3 0)), .int (nI m), .ref (b + 6), .ref (b + 9), .ref (b + 12), .ref (b + 15), .ref (b + 16)]) := by
  rw [hs_top_0]
  have e : am_st1 (am_glz σ p st c) 15 7 m 15 = am_st1 σ 15 7 m 15 := by
    unfold am_st1
    rw [am_st_s, am_st_s, am_glz_q (by omega)]
  rw [e]
  rfl
/-! ===== the machine: an array's copy, and its cast ===== -/
def o_clone (mc ms : Nat) (k : am_C) : am_C := fun ls st n E ca sl => match st with
  | .ref a :: r => match E a with
    | some (.inl (t, N, .inl f)) => t = 3 ∧ (∀ i, i < N → f i = 0 ∨ f i = 1) ∧ (ca + 1 ≤ mc ∧ sl + N ≤ ms) ∧ (r.map fun v => v.category).sum ≤ 8 ∧ k ls (.ref n :: r) (n + 1) (am_u E n (.inl (3, N, .inl f))) (ca + 1) (sl + N)
    | _ => False
  | _ => False
theorem ms_clone {X : am_X} {cc : ByteArray} {own : String} {ret : Option FieldType} {Ts : List Cond} (F : am_F X cc own ret Ts) {pc : Nat} {k : am_C} {rm : Room} (hR : am_Rm X rm) {index : Nat} (hf : 1 ≤ rm.frames) (hlo : 22 ≤ rm.locals) (hlink : Cond.methodLink own index ⟨"[Z", "clone", "()Ljava/lang/Object;"⟩ ∈ Ts) (hsame : Cond.sameMethod "[Z" "java/lang/Object" "clone" "()Ljava/lang/Object;" ∈ Ts) (hnat : Cond.native ⟨"java/lang/Object", "clone", "()Ljava/lang/Object;"⟩ ∈ Ts) (hinst : Cond.instanceMethod ⟨"java/lang/Object", "clone", "()Ljava/lang/Object;"⟩ ∈ Ts) (hsel : Cond.selects "[Z" ⟨"[Z", "clone", "()Ljava/lang/Object;"⟩ ⟨"java/lang/Object", "clone", "()Ljava/lang/Object;"⟩ ∈ Ts) (hcl : Cond.castable "[Z" "java/lang/Cloneable" ∈ am_NW) (hd : decode cc pc = .ok (.invokevirtual index, 3)) (hk : am_imp k (am_G X (pc + 3))) : am_imp (o_clone rm.cells rm.slots k) (am_G X pc) := by
  obtain ⟨p, l, e, R, s, m, args, below, meth, c, D, dA, ro, ad0, n0, nL, A, Q⟩ := X
  obtain ⟨hx, hb, hml, hown, hts, hK, hA, hE, htr, hlk, hrt, hWS⟩ := F
  intro ls st n E ca sl h ad H locs L h1 h2 h3 h4 h5 h6 h7 h8 h9 hca hsl
  have hR : R = rm := hR
  subst hR
  unfold o_clone at h
  split at h
  · rename_i a r
    split at h
    · rename_i t N f hEa
      obtain ⟨rfl, hbo, ⟨hc1, hs1⟩, hcat, h⟩ := h
      have ha : a < n := am_hd h4
      have haW : (am_w dA ad ro n E)[a]? = some (ad a, .inl (dA 3, N, .inl f)) := am_w_at (dA := dA) (ad := ad) (ro := ro) ha hEa
      have htt : (am_tys dA)[3]? = some (dA 3, .boolean) := rfl
      have hnm : s.vm.findClass "[Z" = some (dA 3) := va_nm_boolean (hK.2 3 _ htt).2
      have h4r : ∀ v ∈ r, am_lt n v := am_tl h4
      have hcat2 : ((r.map (am_tr ad ro)).map fun v => v.category).sum + 14 ≤ R.locals := by
        rw [List.map_map, show ((fun v : Value => v.category) ∘ am_tr ad ro) = fun v : Value => v.category from funext (fun v => am_tr_cat ad ro v)]
        omega
      refine va_clone (x := (N, .inl f)) (q0 := a) (t0 := 3) (ty := .boolean) hx hb (hml.trans h9.1.symm) hown (hts _ hlink) (hts _ hsame) (hts _ hnat) (hts _ hinst) (hts _ hsel) (hE.1 _ hcl) hK h6 h7 h8 hA haW htt hnm ?_ hf hcat2 hc1 hs1 hd (fun q H1 hK1 hP1 hD1 hS1 => ?_)
      · exact va_fit (fun i hi => by
          rcases hbo i hi with e | e
          · show fits .boolean (.int (f i)) = true
            rw [e]; rfl
          · show fits .boolean (.int (f i)) = true
            rw [e]; rfl)
      · have hle : am_le (n + 1) (.inl (3, N, .inl f)) := trivial
        have e1 : am_w dA (am_up ad n q) ro (n + 1) (am_u E n (.inl (3, N, .inl f))) = am_w dA ad ro n E ++ [(q, .inl (dA 3, N, .inl f))] := am_w_push h3
        have g := hk _ _ _ _ _ _ h (am_up ad n q) H1 locs L (fun k hk => by rw [am_up_lt k (by omega)]; exact h1 k hk) (by omega) (am_we_push h3 hle) (am_cs (Nat.lt_succ_self n) (fun v hv => am_lt_mono (Nat.le_succ n) (h4r v hv))) (fun v hv => am_lt_mono (Nat.le_succ n) (h5 v hv)) (by rw [e1]; exact hP1) (by rw [e1]; exact hD1) hS1 (am_has_cg h9 h5 am_up_lt) hc1 hs1
        rw [List.map_cons, am_st_cg h4r am_up_lt] at g
        have e2 : am_tr (am_up ad n q) ro (.ref n) = .ref q := congrArg Value.ref am_up_eq
        rw [e2] at g
        exact g
    · exact h.elim
  · exact h.elim
def o_castA (k : am_C) : am_C := fun ls st n E ca sl => match st with
  | .ref a :: r => match E a with
    | some (.inl (t, x)) => t = 3 ∧ k ls (.ref a :: r) n E ca sl
    | _ => False
  | _ => False
theorem ms_castA {X : am_X} {cc : ByteArray} {own : String} {ret : Option FieldType} {Ts : List Cond} (F : am_F X cc own ret Ts) {pc : Nat} {k : am_C} {index : Nat} (hlink : Cond.classLink own index "[Z" ∈ Ts) (hd : decode cc pc = .ok (.checkcast index, 3)) (hk : am_imp k (am_G X (pc + 3))) : am_imp (o_castA k) (am_G X pc) := by
  obtain ⟨p, l, e, R, s, m, args, below, meth, c, D, dA, ro, ad0, n0, nL, A, Q⟩ := X
  obtain ⟨hx, hb, hml, hown, hts, hK, hA, hE, htr, hlk, hrt, hWS⟩ := F
  intro ls st n E ca sl h ad H locs L h1 h2 h3 h4 h5 h6 h7 h8 h9 hca hsl
  unfold o_castA at h
  split at h
  · rename_i a r
    split at h
    · rename_i t x hEa
      obtain ⟨rfl, h⟩ := h
      have ha : a < n := am_hd h4
      have haW := am_w_at (dA := dA) (ad := ad) (ro := ro) ha hEa
      have htt : (am_tys dA)[3]? = some (dA 3, .boolean) := rfl
      have hnm : s.vm.findClass "[Z" = some (dA 3) := va_nm_boolean (hK.2 3 _ htt).2
      exact va_castA hx hb hown (hts _ hlink) h6 a haW hnm hd (hk _ _ _ _ _ _ h ad H locs L h1 h2 h3 h4 h5 h6 h7 h8 h9 hca hsl)
    · exact h.elim
  · exact h.elim
