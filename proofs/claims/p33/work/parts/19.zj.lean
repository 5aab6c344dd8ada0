/-! ===== the reference writes its rows ===== -/
theorem ms_p3 {m : Nat} {E : am_E} {σ : am_St} {lm : Nat → Nat} {lk : Nat → Nat → Nat} {lf : Nat → Nat → Bool} {thr : Int32} (h : am_MT m E σ lm lk lf thr) {i c : Nat} (hiv : am_iv (am_st1 σ 3 i c)) : am_MT m (am_u E (m + 4) (.inl (2, 30, .inl (upd (fun p => nI (σ 3 p 0)) i (nI c))))) (am_st1 σ 3 i c) lm lk lf thr := by
  refine ms_u (k0 := 4) h hiv h.2.1 ?_ (fun k hk hn => ?_)
  · show _ = (Sum.inl (2, 30, .inl (fun p => nI (am_st1 σ 3 i c 3 p 0))) : va_E)
    congr 4
    funext k
    unfold upd
    by_cases e : k = i
    · subst e
      rw [if_pos rfl, am_st1_s]
    · rw [if_neg e, am_st1_j e]
  · unfold ms_E
    rw [if_neg hn, if_neg hn]
    rfl
theorem ms_p4 {m : Nat} {E : am_E} {σ : am_St} {lm : Nat → Nat} {lk : Nat → Nat → Nat} {lf : Nat → Nat → Bool} {thr : Int32} (h : am_MT m E σ lm lk lf thr) {i c : Nat} (hiv : am_iv (am_st1 σ 4 i c)) : am_MT m (am_u E (m + 5) (.inl (0, 30, .inl (upd (fun p => nI (σ 4 p 0)) i (nI c))))) (am_st1 σ 4 i c) lm lk lf thr := by
  refine ms_u (k0 := 5) h hiv h.2.1 ?_ (fun k hk hn => ?_)
  · show _ = (Sum.inl (0, 30, .inl (fun p => nI (am_st1 σ 4 i c 4 p 0))) : va_E)
    congr 4
    funext k
    unfold upd
    by_cases e : k = i
    · subst e
      rw [if_pos rfl, am_st1_s]
    · rw [if_neg e, am_st1_j e]
  · unfold ms_E
    rw [if_neg hn, if_neg hn]
    rfl
theorem ms_p5 {m : Nat} {E : am_E} {σ : am_St} {lm : Nat → Nat} {lk : Nat → Nat → Nat} {lf : Nat → Nat → Bool} {thr : Int32} (h : am_MT m E σ lm lk lf thr) {i c : Nat} (hiv : am_iv (am_st1 σ 5 i c)) : am_MT m (am_u E (m + 6) (.inl (0, 30, .inl (upd (fun p => nI (σ 5 p 0)) i (nI c))))) (am_st1 σ 5 i c) lm lk lf thr := by
  refine ms_u (k0 := 6) h hiv h.2.1 ?_ (fun k hk hn => ?_)
  · show _ = (Sum.inl (0, 30, .inl (fun p => nI (am_st1 σ 5 i c 5 p 0))) : va_E)
    congr 4
    funext k
    unfold upd
    by_cases e : k = i
    · subst e
      rw [if_pos rfl, am_st1_s]
    · rw [if_neg e, am_st1_j e]
  · unfold ms_E
    rw [if_neg hn, if_neg hn]
    rfl
theorem am_iv_3 {σ : am_St} {p c : Nat} (h : am_iv σ) (hp : p < 30) (hc : c = 45 ∨ c = 99 ∨ c = 108 ∨ c = 98) : am_iv (am_st1 σ 3 p c) := by
  have hv := h.2.1 p hp
  refine am_iv_p h (fun q hq => am_st1_q (by omega)) (fun q t ht => am_st1_j ht) ⟨hv.1, hv.2.1, ?_, hv.2.2.2.1, hv.2.2.2.2⟩
  rw [am_st1_s]
  exact hc
/-- the years of a piece's leads -/
theorem ms_p8 {m : Nat} {E : am_E} {σ σ' : am_St} {lm : Nat → Nat} {lk : Nat → Nat → Nat} {lf : Nat → Nat → Bool} {thr : Int32} (h : am_MT m E σ lm lk lf thr) {i : Nat} (hi : i < 30) (hq : ∀ q, q ≠ 8 → σ' q = σ q) (hj : ∀ t, t ≠ i → σ' 8 t = σ 8 t) {g : Nat → Int32} (hg : g = fun y => ms_bo (st_y σ' i y)) : am_MT m (am_u E (m + 91 + i) (.inl (3, 2001, .inl g))) σ' lm lk lf thr := by
  rw [show m + 91 + i = m + (91 + i) by omega]
  refine ms_u (k0 := 91 + i) h (am_iv_8 h.1 hq) (by unfold am_ly; rw [hq 6 (by decide), hq 7 (by decide)]; exact h.2.1) ?_ (fun k hk hn => ?_)
  · unfold ms_E
    rw [if_neg (by omega), if_neg (by omega), if_neg (by omega), if_neg (by omega), if_neg (by omega), if_neg (by omega), if_neg (by omega), if_neg (by omega), if_neg (by omega), if_neg (by omega), if_neg (by omega), if_neg (by omega), if_neg (by omega), if_neg (by omega), if_neg (by omega), if_neg (by omega), if_neg (by omega), if_neg (by omega), if_neg (by omega), show 91 + i - 91 = i by omega, hg]
  · have f1 : st_f σ' = st_f σ := by unfold st_f; rw [hq 0 (by decide)]
    have f2 : st_u σ' = st_u σ := by unfold st_u; rw [hq 13 (by decide)]
    have f4 : st_b σ' = st_b σ := by unfold st_b; rw [hq 14 (by decide)]
    have f5 : ms_sh σ' = ms_sh σ := by unfold ms_sh; rw [hq 9 (by decide), hq 10 (by decide), hq 11 (by decide)]
    have f6 : ms_obj m σ' thr = ms_obj m σ thr := by unfold ms_obj; rw [hq 15 (by decide)]
    have f7 : 91 ≤ k → st_y σ' (k - 91) = st_y σ (k - 91) := fun h9 => by unfold st_y; rw [hj _ (by omega)]
    unfold ms_E
    rw [f1, f2, f4, f5, f6, hq 1 (by decide), hq 2 (by decide), hq 3 (by decide), hq 4 (by decide), hq 5 (by decide), hq 12 (by decide), hq 15 (by decide)]
    by_cases h9 : 91 ≤ k
    · rw [f7 h9]
    · repeat (first | (refine am_ite (fun _ => ?_)) | rfl)
      exact absurd hk (by omega)
theorem am_sm1 (p : Nat → Bool) : ∀ n, fb_ct p n = fb_sm (fun k => if p k = true then 1 else 0) n
  | 0 => rfl
  | n + 1 => by rw [fb_ct_succ, fb_sm_succ, am_sm1 p n]
theorem am_sm_one {a v : Nat} : ∀ {n : Nat}, fb_sm (fun p => if p = a then v else 0) n = if a < n then v else 0
  | 0 => by rw [if_neg (Nat.not_lt_zero a)]; rfl
  | n + 1 => by
    rw [fb_sm_succ, am_sm_one (n := n)]
    by_cases h : a < n
    · rw [if_pos h, if_neg (by omega), if_pos (by omega), Nat.add_zero]
    · by_cases e : n = a
      · rw [if_neg h, if_pos e, if_pos (by omega)]; omega
      · rw [if_neg h, if_neg e, if_neg (by omega)]
/-- cells counted by their pieces -/
theorem am_ct_pc {σ : am_St} (h : am_iv σ) (w : Nat → Nat) : fb_sm (fun p => if w p = 0 then 0 else fb_ct (fun k => decide (st_f σ k = nI p)) 144) 30 = fb_ct (fun k => decide (2 ≤ σ 0 k 0 ∧ ¬ w (σ 0 k 0 - 2) = 0)) 144 := by
  have e1 : fb_sm (fun p => if w p = 0 then 0 else fb_ct (fun k => decide (st_f σ k = nI p)) 144) 30 = fb_sm (fun p => fb_sm (fun k => if w p = 0 then 0 else if st_f σ k = nI p then 1 else 0) 144) 30 := by
    refine fb_sm_cong (fun p _ => ?_)
    by_cases c : w p = 0
    · rw [if_pos c]
      have : fb_sm (fun k => if w p = 0 then 0 else if st_f σ k = nI p then 1 else 0) 144 = fb_sm (fun _ => 0) 144 := fb_sm_cong (fun k _ => if_pos c)
      rw [this, fb_sm_const]
    · rw [if_neg c, am_sm1]
      refine fb_sm_cong (fun k _ => ?_)
      rw [if_neg c]
      by_cases d : st_f σ k = nI p
      · rw [if_pos d, if_pos (decide_eq_true d)]
      · rw [if_neg d, if_neg (by rw [decide_eq_false d]; decide)]
  rw [e1, am_sm_swap (fun k p => if w p = 0 then 0 else if st_f σ k = nI p then 1 else 0) 144 30, am_sm1]
  refine fb_sm_cong (fun k hk => ?_)
  have hk32 := h.1 k hk
  have e2 : fb_sm (fun p => if w p = 0 then 0 else if st_f σ k = nI p then 1 else 0) 30 = fb_sm (fun p => if p = σ 0 k 0 - 2 then (if 2 ≤ σ 0 k 0 ∧ ¬ w (σ 0 k 0 - 2) = 0 then 1 else 0) else 0) 30 := by
    refine fb_sm_cong (fun p hp => ?_)
    have ecv : (st_f σ k = nI p) = (σ 0 k 0 = p + 2) := am_cv_p hk32 hp
    by_cases c : p = σ 0 k 0 - 2
    · rw [if_pos c]
      by_cases d : 2 ≤ σ 0 k 0
      · by_cases e : w (σ 0 k 0 - 2) = 0
        · rw [if_pos (by rw [c]; exact e), if_neg (fun q => q.2 e)]
        · rw [if_neg (by rw [c]; exact e), if_pos (by rw [ecv]; omega), if_pos ⟨d, e⟩]
      · rw [if_neg (show ¬ (2 ≤ σ 0 k 0 ∧ ¬ w (σ 0 k 0 - 2) = 0) from fun q => d q.1)]
        by_cases e : w p = 0
        · rw [if_pos e]
        · rw [if_neg e, if_neg (by rw [ecv]; omega)]
    · rw [if_neg c]
      by_cases e : w p = 0
      · rw [if_pos e]
      · rw [if_neg e, if_neg (by rw [ecv]; omega)]
  have e3 : (if decide (2 ≤ σ 0 k 0 ∧ ¬ w (σ 0 k 0 - 2) = 0) = true then 1 else 0) = (if 2 ≤ σ 0 k 0 ∧ ¬ w (σ 0 k 0 - 2) = 0 then 1 else 0) := by
    by_cases c : 2 ≤ σ 0 k 0 ∧ ¬ w (σ 0 k 0 - 2) = 0
    · rw [if_pos c, if_pos (decide_eq_true c)]
    · rw [if_neg c, if_neg (by rw [decide_eq_false c]; decide)]
  rw [e2, am_sm_one, if_pos (by omega), e3]
theorem am_lit_gl {σ : am_St} (h : am_iv σ) : fb_sm (am_lit σ) 30 = fb_ct (am_gl1 σ) 144 := by
  have := am_ct_pc h (fun p => if σ 3 p 0 = 45 then 0 else 1)
  have e1 : fb_sm (am_lit σ) 30 = fb_sm (fun p => if (fun p => if σ 3 p 0 = 45 then 0 else 1) p = 0 then 0 else fb_ct (fun k => decide (st_f σ k = nI p)) 144) 30 := by
    refine fb_sm_cong (fun p _ => ?_)
    unfold am_lit am_cof
    by_cases c : σ 3 p 0 = 45
    · simp [c]
    · simp [c]
  rw [e1, this]
  refine fb_ct_cong (fun k _ => ?_)
  unfold am_gl1
  refine decide_eq_decide.mpr ?_
  by_cases c : σ 3 (σ 0 k 0 - 2) 0 = 45
  · simp [c]
  · simp [c]
theorem am_on_ct (σ : am_St) : fb_ct (fun k => !decide (st_f σ k = -2)) 144 = am_on σ := by
  have := fb_ct_not (fun k => decide (st_f σ k = -2)) 144
  unfold am_on
  omega
theorem am_cells {σ : am_St} (h : am_iv σ) : fb_sm (am_cof σ) 30 = am_on σ - fb_ct (fun k => decide (st_f σ k = -1)) 144 := by
  have := am_ct_pc h (fun _ => 1)
  have e1 : fb_sm (am_cof σ) 30 = fb_sm (fun p => if (fun _ : Nat => 1) p = 0 then 0 else fb_ct (fun k => decide (st_f σ k = nI p)) 144) 30 := fb_sm_cong (fun p _ => by simp [am_cof])
  have e2 : fb_ct (fun k => decide (2 ≤ σ 0 k 0 ∧ ¬ (1 : Nat) = 0)) 144 + fb_ct (fun k => decide (st_f σ k = -1)) 144 = fb_ct (fun k => !decide (st_f σ k = -2)) 144 := by
    rw [← fb_ct_or (fun k hk q => ?_)]
    · refine fb_ct_cong (fun k hk => ?_)
      have hk32 := h.1 k hk
      have a1 : (st_f σ k = -1) = (σ 0 k 0 = 1) := am_cv_1 hk32
      have a2 : (st_f σ k = -2) = (σ 0 k 0 = 0) := am_cv_2 _ (by omega)
      rw [Bool.eq_iff_iff]
      simp [a1, a2]
      omega
    · have hk32 := h.1 k hk
      have a1 : (st_f σ k = -1) = (σ 0 k 0 = 1) := am_cv_1 hk32
      have q1 := of_decide_eq_true q.1
      have q2 := of_decide_eq_true q.2
      rw [a1] at q2
      omega
  rw [e1, this]
  have := am_on_ct σ
  omega
/-! looks: the four sides in the reference's order -/
def am_lkq (σ : am_St) (x y l o : Int32) (k : Nat) : Int32 := am_lk o (am_br σ (am_at (st_f σ) (x + am_xf 3 k) (y + am_xf 4 k)) l)
def am_lkd (σ : am_St) (x y l o : Int32) : Nat → Int32
  | 0 => o
  | k + 1 => am_lkd σ x y l o k - 5 * am_lkq σ x y l o k
theorem am_r4 (o a b c d : Int32) : o - 5 * b - 5 * a - 5 * d - 5 * c = o - 5 * (0 + a + b + c + d) := by
  have e : ∀ x y : Int32, x - y = x + -y := Int32.sub_eq_add_neg
  rw [Int32.zero_add, Int32.mul_add, Int32.mul_add, Int32.mul_add]
  simp only [e, Int32.neg_add]
  ac_rfl
theorem am_lkd_4 (σ : am_St) (x y l o : Int32) : am_lkd σ x y l o 4 = o - 5 * am_lks σ x y l o := by
  have x0 : x + am_xf 3 0 = x + 1 := rfl
  have y0 : y + am_xf 4 0 = y := Int32.add_zero y
  have x1 : x + am_xf 3 1 = x - 1 := (Int32.sub_eq_add_neg x 1).symm
  have y1 : y + am_xf 4 1 = y := Int32.add_zero y
  have x2 : x + am_xf 3 2 = x := Int32.add_zero x
  have y2 : y + am_xf 4 2 = y + 1 := rfl
  have x3 : x + am_xf 3 3 = x := Int32.add_zero x
  have y3 : y + am_xf 4 3 = y - 1 := (Int32.sub_eq_add_neg y 1).symm
  show o - 5 * am_lkq σ x y l o 0 - 5 * am_lkq σ x y l o 1 - 5 * am_lkq σ x y l o 2 - 5 * am_lkq σ x y l o 3 = _
  unfold am_lkq am_lks
  rw [x0, y0, x1, y1, x2, y2, x3, y3]
  exact am_r4 _ _ _ _ _
theorem am_szhp (σ : am_St) (p : Nat) : (fb_ct (fun k => decide (st_f σ k = nI p)) 144 = 0) = (am_hp (st_f σ) 144 p = false) := propext (by
  rw [fb_ct_zero]
  unfold am_hp
  rw [am_any_f])
/-! ===== what can come, in the reference ===== -/
def am_okb (L : Nat → Bool) (p : Nat) (w : Int32) : Bool := decide (w = nI p) || (decide (w = -2) || (decide (0 ≤ w) && L w.toNatClampNeg))
def am_ncl (σ : am_St) (L : Nat → Bool) (p k : Nat) : Bool := decide (st_f σ k = nI p) && !(am_okb L p (am_wa (st_f σ) (k % 12) (k / 12 + 1)) && am_okb L p (am_wa (st_f σ) (k % 12 + 1) (k / 12)))
theorem am_okb_r {L : Nat → Bool} {p r : Nat} (hp : p < 30) (hr : r < 30) : am_okb L p (nI r) = (decide (r = p) || L r) := by
  unfold am_okb
  have e1 : (nI r = nI p) = (r = p) := am_eqN (by omega) (by omega)
  have e2 : (nI r = -2) = False := eq_false (am_m2 (by omega))
  rw [am_cl (by omega)]
  simp only [e1, e2, decide_false, Bool.false_or, decide_eq_true (nI_pos' (show r < 2 ^ 31 by omega)), Bool.true_and]
theorem am_okb_1 {L : Nat → Bool} {p : Nat} (hp : p < 30) : am_okb L p (-1) = false := by
  unfold am_okb
  rw [decide_eq_false (fun q => am_m1 (show p < 1000 by omega) q.symm)]
  rfl
theorem am_okb_2 {L : Nat → Bool} {p : Nat} : am_okb L p (-2) = true := by
  unfold am_okb
  rw [decide_eq_true (show (-2 : Int32) = -2 from rfl)]
  simp
theorem am_okb_f {L : Nat → Bool} {p : Nat} (hp : p < 30) {w : Int32} (hw : am_wv w) : am_okb L p w = false ↔ ∃ q, q < 31 ∧ am_btb w p q = true ∧ ¬ (q < 30 ∧ L q = true) := by
  rcases hw with rfl | rfl | ⟨r, hr, rfl⟩
  · rw [am_okb_2]
    constructor
    · intro q; cases q
    · rintro ⟨q, _, h, _⟩
      exact absurd rfl (of_decide_eq_true h).1
  · rw [am_okb_1 hp]
    refine ⟨fun _ => ⟨30, by decide, decide_eq_true ⟨by decide, fun q => am_m1 (show p < 1000 by omega) q.symm, Or.inl ⟨rfl, rfl⟩⟩, fun q => absurd q.1 (by decide)⟩, fun _ => rfl⟩
  · rw [am_okb_r hp hr]
    have e1 : (nI r = nI p) = (r = p) := am_eqN (by omega) (by omega)
    constructor
    · intro h
      rw [Bool.or_eq_false_iff] at h
      have hne := of_decide_eq_false h.1
      refine ⟨r, by omega, decide_eq_true ⟨am_m2 (by omega), by rw [e1]; exact hne, Or.inr ⟨hr, rfl⟩⟩, fun q => ?_⟩
      rw [h.2] at q
      exact absurd q.2 (by decide)
    · rintro ⟨q, hq, h, hn⟩
      have h := of_decide_eq_true h
      rw [e1] at h
      have hqr : q = r := by
        rcases h.2.2 with ⟨a, _⟩ | ⟨a, b⟩
        · exact absurd a (am_m1 (by omega))
        · exact ((nI_eq (by omega) (by omega)).mp b).symm
      rw [hqr] at hn
      rw [decide_eq_false h.2.1]
      cases c : L r with
      | false => rfl
      | true => exact absurd ⟨hr, c⟩ hn
theorem am_clr_c {σ : am_St} (h : am_iv σ) {L : Nat → Bool} {p : Nat} (hp : p < 30) : am_clr σ L p = !am_any (am_ncl σ L p) 144 := by
  have hok := am_wok_iv h
  rw [Bool.eq_iff_iff, am_clr_t, Bool.not_eq_true', am_any_f]
  constructor
  · intro hc k hk
    unfold am_ncl
    by_cases e : st_f σ k = nI p
    · rw [decide_eq_true e, Bool.true_and]
      have w1 := am_wa_v hok (k % 12) (k / 12 + 1)
      have w2 := am_wa_v hok (k % 12 + 1) (k / 12)
      have key : ∀ w q, (w = am_wa (st_f σ) (k % 12) (k / 12 + 1) ∨ w = am_wa (st_f σ) (k % 12 + 1) (k / 12)) → q < 31 → am_btb w p q = true → q < 30 ∧ L q = true := fun w q hw hq hb => by
        refine hc q hq (am_any_t.mpr ⟨k, hk, ?_⟩)
        rw [decide_eq_true e, Bool.true_and]
        rcases hw with rfl | rfl
        · rw [hb, Bool.true_or]
        · rw [hb, Bool.or_true]
      cases c1 : am_okb L p (am_wa (st_f σ) (k % 12) (k / 12 + 1)) with
      | false =>
        obtain ⟨q, hq, hb, hn⟩ := (am_okb_f hp w1).mp c1
        exact absurd (key _ q (Or.inl rfl) hq hb) hn
      | true =>
        cases c2 : am_okb L p (am_wa (st_f σ) (k % 12 + 1) (k / 12)) with
        | false =>
          obtain ⟨q, hq, hb, hn⟩ := (am_okb_f hp w2).mp c2
          exact absurd (key _ q (Or.inr rfl) hq hb) hn
        | true => rfl
    · rw [decide_eq_false e, Bool.false_and]
  · intro hc q hq hw
    obtain ⟨k, hk, hb⟩ := am_any_t.mp hw
    rw [Bool.and_eq_true, Bool.or_eq_true, decide_eq_true_eq] at hb
    have hk9 := hc k hk
    unfold am_ncl at hk9
    rw [decide_eq_true hb.1, Bool.true_and, Bool.not_eq_false', Bool.and_eq_true] at hk9
    by_cases z : q < 30 ∧ L q = true
    · exact z
    · rcases hb.2 with b | b
      · have := (am_okb_f hp (am_wa_v hok (k % 12) (k / 12 + 1))).mpr ⟨q, hq, b, z⟩
        rw [hk9.1] at this
        cases this
      · have := (am_okb_f hp (am_wa_v hok (k % 12 + 1) (k / 12))).mpr ⟨q, hq, b, z⟩
        rw [hk9.2] at this
        cases this
theorem ms_and1 (x : Bool) : ms_bo x &&& 1 = ms_bo x := by cases x <;> decide
theorem ms_and0 (x : Bool) : ms_bo x &&& 0 = ms_bo false := by cases x <;> decide
theorem ms_bo_and (x y : Bool) : ms_bo x &&& ms_bo y = ms_bo (x && y) := by cases x <;> cases y <;> decide
theorem am_clr_mono {σ : am_St} {L C : Nat → Bool} {p : Nat} (h : ∀ q, L q = true → C q = true) (hc : am_clr σ L p = true) : am_clr σ C p = true := am_clr_t.mpr (fun q hq hw => by
  have := am_clr_t.mp hc q hq hw
  exact ⟨this.1, h q this.2⟩)
def am_ld (L : Nat → Bool) : Nat → Int32 := am_pro (fun q => ms_bo (L q)) (fun _ => 0) 30
theorem am_ld_at {L : Nat → Bool} {q : Nat} (hq : q < 30) : am_ld L q = ms_bo (L q) := by
  unfold am_ld am_pro
  rw [if_pos hq]
/-- the lowest of k .. 29 with c, or -1 -/
def am_low9 (c : Nat → Bool) (k : Nat) (x : Int32) : Prop := (∃ i, k ≤ i ∧ i < 30 ∧ c i = true ∧ (∀ j, k ≤ j → j < i → c j = false) ∧ x = nI i) ∨ ((∀ j, k ≤ j → j < 30 → c j = false) ∧ x = -1)
theorem am_low_0 {c : Nat → Bool} {x : Int32} (h : am_low9 c 0 x) : x = if am_fst c 30 < 30 then nI (am_fst c 30) else -1 := by
  rcases h with ⟨i, _, hi, hc, hn, hx⟩ | ⟨hn, hx⟩
  · rw [am_fsx_eq (p := c) (n := 30) (i := i) (by omega) (fun k hk => hn k (by omega) hk) (Or.inr hc), if_pos hi]
    exact hx
  · rw [am_fsx_eq (p := c) (n := 30) (i := 30) (by omega) (fun k hk => hn k (by omega) hk) (Or.inl rfl), if_neg (by decide)]
    exact hx
theorem am_low_s {c : Nat → Bool} {k : Nat} {x : Int32} (hk : k < 30) (h : am_low9 c (k + 1) x) : am_low9 c k (if c k = true then nI k else x) := by
  cases e : c k with
  | true =>
    rw [if_pos rfl]
    exact Or.inl ⟨k, Nat.le_refl _, hk, e, fun j h1 h2 => by omega, rfl⟩
  | false =>
    rw [if_neg (by decide)]
    rcases h with ⟨i, h1, h2, h3, h4, h5⟩ | ⟨h1, h2⟩
    · exact Or.inl ⟨i, by omega, h2, h3, fun j j1 j2 => by
        by_cases q : j = k
        · rw [q]; exact e
        · exact h4 j (by omega) j2, h5⟩
    · exact Or.inr ⟨fun j j1 j2 => by
        by_cases q : j = k
        · rw [q]; exact e
        · exact h1 j (by omega) j2, h2⟩
def am_can (σ : am_St) (p : Nat) : Bool := (decide (σ 3 p 0 = 99) && decide (fb_sm (σ 6 p) 4 = 0)) && am_clr σ (fun q => decide (σ 3 q 0 = 108)) p
theorem am_nx_can (σ : am_St) : am_nx σ = am_fst (am_can σ) 30 := rfl
def am_l9 (i : Nat) : Int32 := if i = 30 then -1 else nI (29 - i)
theorem am_l9_s {i : Nat} (hi : i < 30) : am_l9 i = nI (29 - i) ∧ nI (29 - i) + -1 = am_l9 (i + 1) := by
  refine ⟨if_neg (by omega), ?_⟩
  unfold am_l9
  by_cases c : i = 29
  · rw [if_pos (by omega), c]; rfl
  · rw [if_neg (by omega), show 29 - i = (29 - (i + 1)) + 1 by omega, am_m1i]
theorem am_l9_30 : am_l9 30 = -1 := rfl
theorem am_vbb (c : Bool) : vp_nar .boolean (ms_bo c) = ms_bo c := by cases c <;> rfl
theorem am_ld_0 : am_ld (fun _ => false) = fun _ => 0 := by
  funext q
  unfold am_ld am_pro
  split <;> rfl
theorem am_ld_u {L : Nat → Bool} {p : Nat} {c : Bool} (hp : p < 30) : upd (am_ld L) p (ms_bo c) = am_ld (fun q => if q = p then c else L q) := by
  funext q
  show (if q = p then ms_bo c else (if q < 30 then ms_bo (L q) else 0)) = (if q < 30 then ms_bo (if q = p then c else L q) else 0)
  by_cases e : q = p
  · rw [if_pos e, if_pos (show q < 30 by omega), if_pos e]
  · rw [if_neg e, if_neg e]
def am_clo (σ : am_St) (C : Nat → Bool) : Prop := ∀ p, p < 30 → am_hp (st_f σ) 144 p = true → am_clr σ C p = true → C p = true
def am_oiv (σ : am_St) (L : Nat → Bool) : Prop := (∀ p, L p = true → p < 30 ∧ am_hp (st_f σ) 144 p = true) ∧ ∀ C, am_clo σ C → ∀ p, L p = true → C p = true
theorem am_oiv_s {σ : am_St} {L : Nat → Bool} {k : Nat} (h : am_oiv σ L) (hk : k < 30) (hh : am_hp (st_f σ) 144 k = true) (hc : am_clr σ L k = true) : am_oiv σ (fun q => if q = k then true else L q) := by
  refine ⟨fun p q => ?_, fun C hC p q => ?_⟩
  · by_cases e : p = k
    · rw [e]; exact ⟨hk, hh⟩
    · simp only [e, if_false] at q
      exact h.1 p q
  · by_cases e : p = k
    · rw [e]
      exact hC k hk hh (am_clr_mono (h.2 C hC) hc)
    · simp only [e, if_false] at q
      exact h.2 C hC p q
theorem am_oiv_o {σ : am_St} {L : Nat → Bool} (h : am_oiv σ L) (hc : am_clo σ L) : am_ordp σ ↔ (am_any (fun c => decide (σ 0 c 0 = 1)) 144 = false ∧ am_any (fun p => !L p && am_hp (st_f σ) 144 p) 30 = false) := by
  rw [am_any_f, am_any_f]
  constructor
  · rintro ⟨h1, h2⟩
    refine ⟨fun c hc => decide_eq_false (h1 c hc), fun p hp => ?_⟩
    cases hh : am_hp (st_f σ) 144 p with
    | false => rw [Bool.and_false]
    | true => rw [h2 L hc p hp hh]; rfl
  · rintro ⟨h1, h2⟩
    refine ⟨fun c hc => of_decide_eq_false (h1 c hc), fun C hC p hp hh => ?_⟩
    have := h2 p hp
    rw [hh, Bool.and_true, Bool.not_eq_false'] at this
    exact h.2 C hC p this
