/-! ===== places on a sheet, cell by cell ===== -/
theorem am_ite2 {c : Prop} [Decidable c] {α : Type} {a b x y : α} (h1 : c → a = b) (h2 : ¬ c → x = y) : (if c then a else x) = (if c then b else y) := by
  by_cases hc : c
  · rw [if_pos hc, if_pos hc, h1 hc]
  · rw [if_neg hc, if_neg hc, h2 hc]
def am_fcl (U P : Nat → Nat → Bool) (w h a k : Nat) : Bool := P (k % 12) (k / 12) && !(decide (k % 12 + a % 12 < w) && (decide (k / 12 + a / 12 < h) && !U (k % 12 + a % 12) (k / 12 + a / 12)))
def am_frq (U P : Nat → Nat → Bool) (w h a : Nat) : Bool := !am_any (am_fcl U P w h a) 144
theorem am_lst_top {p : Nat → Bool} {n k : Nat} (hk : k < n) (hp : p k = true) : 0 < am_lst p n ∧ p (am_lst p n - 1) = true := by
  have h1 := am_lst_ge hp hk
  rcases (am_lst_c p n).2 with h | h
  · omega
  · exact ⟨by omega, h⟩
theorem am_frq_plp {U P : Nat → Nat → Bool} {w h a : Nat} (hs : am_sup P) (hn : am_ne P) (hw : w ≤ 12) : am_frq U P w h a = am_plp U P w h a := by
  rw [Bool.eq_iff_iff]
  unfold am_frq am_plp
  rw [Bool.not_eq_true', am_any_f, Bool.and_eq_true, Bool.and_eq_true, decide_eq_true_eq, decide_eq_true_eq]
  constructor
  · intro hf
    have key : ∀ x y, P x y = true → x + a % 12 < w ∧ y + a / 12 < h ∧ U (x + a % 12) (y + a / 12) = false := fun x y hp => by
      have hb := hs x y hp
      have h9 := hf (12 * y + x) (by omega)
      unfold am_fcl at h9
      rw [show (12 * y + x) % 12 = x by omega, show (12 * y + x) / 12 = y by omega, hp, Bool.true_and, Bool.not_eq_false', Bool.and_eq_true, Bool.and_eq_true, decide_eq_true_eq, decide_eq_true_eq, Bool.not_eq_true'] at h9
      exact h9
    clear hf
    obtain ⟨x0, y0, h0⟩ := hn
    have hb0 := hs x0 y0 h0
    obtain ⟨t1, t2⟩ := am_lst_top (p := am_ru P) (n := 12) (k := y0) hb0.2 (am_any_t.mpr ⟨x0, hb0.1, h0⟩)
    obtain ⟨c1, c2⟩ := am_lst_top (p := am_cu P) (n := 12) (k := x0) hb0.1 (am_any_t.mpr ⟨y0, hb0.2, h0⟩)
    obtain ⟨xt, _, ht⟩ := am_any_t.mp t2
    obtain ⟨yt, _, hc⟩ := am_any_t.mp c2
    have k1 := key _ _ ht
    have k2 := key _ _ hc
    refine ⟨?_, ?_, am_fre_t (fun y h1 h2 => ?_)⟩
    · show a / 12 + am_lst (am_ru P) 12 ≤ h
      omega
    · show a % 12 + am_lst (am_cu P) 12 ≤ w
      omega
    · unfold am_tch
      rw [am_any_f]
      intro x hx
      by_cases c : a % 12 ≤ x
      · cases e : P (x - a % 12) (y - a / 12) with
        | false => rw [Bool.and_false, Bool.and_false]
        | true =>
          have := (key _ _ e).2.2
          rw [show x - a % 12 + a % 12 = x by omega, show y - a / 12 + a / 12 = y by omega] at this
          rw [this, Bool.false_and]
      · rw [decide_eq_false c, Bool.false_and, Bool.and_false]
  · rintro ⟨h1, h2, h3⟩ k hk
    have h3 : ∀ y, a / 12 ≤ y → y < h → am_tch U P (a % 12) (a / 12) y = false := @of_decide_eq_true _ (Classical.propDecidable _) h3
    unfold am_fcl
    cases e : P (k % 12) (k / 12) with
    | false => rfl
    | true =>
      have w1 := am_wd_gt hs e
      have w2 := am_ht_gt hs e
      have h9 := am_any_f.mp (h3 (k / 12 + a / 12) (by omega) (by omega)) (k % 12 + a % 12) (by omega)
      rw [decide_eq_true (show a % 12 ≤ k % 12 + a % 12 by omega), show k % 12 + a % 12 - a % 12 = k % 12 by omega, show k / 12 + a / 12 - a / 12 = k / 12 by omega, e, Bool.and_true, Bool.and_true] at h9
      rw [h9, decide_eq_true (show k % 12 + a % 12 < w by omega), decide_eq_true (show k / 12 + a / 12 < h by omega)]
      rfl
theorem am_frq_plc {U P : Nat → Nat → Bool} {w h : Nat} (hs : am_sup P) (hn : am_ne P) (hw : w ≤ 12) : am_fst (am_frq U P w h) 144 = am_plc U P w h := am_fst_cg (fun k _ => am_frq_plp hs hn hw)
/-! a shape is laid on a sheet -/
def am_usr (U P : Nat → Nat → Bool) (a i c : Nat) : Bool := U (c % 12) (c / 12) || (decide (a ≤ c ∧ c - a < i) && P ((c - a) % 12) ((c - a) / 12))
theorem am_usr_0 (U P : Nat → Nat → Bool) (a c : Nat) : am_usr U P a 0 c = U (c % 12) (c / 12) := by
  unfold am_usr
  rw [decide_eq_false (by omega), Bool.false_and, Bool.or_false]
theorem am_usr_s {U P : Nat → Nat → Bool} {a i c : Nat} : am_usr U P a (i + 1) c = if c = i + a ∧ P (i % 12) (i / 12) = true then true else am_usr U P a i c := by
  unfold am_usr
  by_cases e : c = i + a
  · rw [decide_eq_true (show a ≤ c ∧ c - a < i + 1 by omega), decide_eq_false (show ¬ (a ≤ c ∧ c - a < i) by omega), show c - a = i by omega]
    cases hp : P (i % 12) (i / 12) with
    | true => rw [if_pos ⟨e, rfl⟩]; simp
    | false => rw [if_neg (fun q => absurd q.2 (by decide))]; simp
  · rw [if_neg (fun q => e q.1)]
    congr 2
    exact decide_eq_decide.mpr (by omega)
theorem am_usr_N {U P : Nat → Nat → Bool} {a c : Nat} (hf : ∀ x y, P x y = true → x + a % 12 < 12 ∧ y + a / 12 < 12) : am_usr U P a 144 c = am_usd U P (a % 12) (a / 12) (c % 12) (c / 12) := by
  unfold am_usr am_usd
  congr 1
  rw [Bool.eq_iff_iff]
  simp only [Bool.and_eq_true, decide_eq_true_eq]
  constructor
  · rintro ⟨⟨h1, h2⟩, h3⟩
    have h9 := hf _ _ h3
    have e1 : c % 12 - a % 12 = (c - a) % 12 := by omega
    have e2 : c / 12 - a / 12 = (c - a) / 12 := by omega
    rw [e1, e2]
    exact ⟨by omega, by omega, h3⟩
  · rintro ⟨h1, h2, h3⟩
    have h9 := hf _ _ h3
    have e1 : (c - a) % 12 = c % 12 - a % 12 := by omega
    have e2 : (c - a) / 12 = c / 12 - a / 12 := by omega
    rw [e1, e2]
    exact ⟨⟨by omega, by omega⟩, h3⟩
theorem am_usr_u {U P : Nat → Nat → Bool} {a i : Nat} (hp : P (i % 12) (i / 12) = true) : upd (fun c => ms_bo (am_usr U P a i c)) (i + a) 1 = fun c => ms_bo (am_usr U P a (i + 1) c) := by
  funext c
  rw [am_usr_s]
  unfold upd
  by_cases e : c = i + a
  · rw [if_pos e, if_pos ⟨e, hp⟩]; rfl
  · rw [if_neg e, if_neg (fun q => e q.1)]
theorem am_usr_f {U P : Nat → Nat → Bool} {a i : Nat} (hp : P (i % 12) (i / 12) = false) : (fun c => ms_bo (am_usr U P a (i + 1) c)) = fun c => ms_bo (am_usr U P a i c) := by
  funext c
  rw [am_usr_s, if_neg (fun q => by rw [hp] at q; exact absurd q.2 (by decide))]
theorem ms_p13 {m : Nat} {E : am_E} {σ : am_St} {lm : Nat → Nat} {lk : Nat → Nat → Nat} {lf : Nat → Nat → Bool} {thr : Int32} (h : am_MT m E σ lm lk lf thr) {j a : Nat} {P : Nat → Nat → Bool} (hj : j < 8) (hf : ∀ x y, P x y = true → x + a % 12 < 12 ∧ y + a / 12 < 12) : am_MT m (am_u E (m + 81 + j) (.inl (3, 144, .inl (fun c => ms_bo (am_usr (st_u σ j) P a 144 c))))) (am_tks σ j P a) lm lk lf thr := by
  have hq : ∀ q, q ≠ 13 → q ≠ 15 → am_tks σ j P a q = σ q := fun q h1 h2 => (am_st1_q h2).trans (am_st_n _ _ h1)
  have h15 : ∀ i, i ≠ 8 → am_tks σ j P a 15 i = σ 15 i := fun i hi => by
    unfold am_tks
    rw [am_st1_j hi]
    rfl
  have hu : st_u (am_tks σ j P a) j = am_usd (st_u σ j) P (a % 12) (a / 12) := by
    have := am_tku_u (σ := σ) (j := j) hf
    exact this
  have hu2 : ∀ t, t ≠ j → st_u (am_tks σ j P a) t = st_u σ t := fun t ht => by
    funext x y
    show decide (x < 12 ∧ y < 12 ∧ (if t = j then _ else σ 13 t (12 * y + x)) = 1) = _
    rw [if_neg ht]
    rfl
  have hiv : am_iv (am_tks σ j P a) := am_iv_158 (am_iv_13 (σ' := am_tku σ j P a) h.1 (fun q hq => am_st_n _ _ hq)) (fun q hq => am_st1_q hq) (fun i hi => am_st1_j (by omega))
  generalize am_tks σ j P a = σ' at hq h15 hu hu2 hiv ⊢
  rw [show m + 81 + j = m + (81 + j) by omega]
  refine ms_u (k0 := 81 + j) h hiv (by unfold am_ly; rw [hq 6 (by decide) (by decide), hq 7 (by decide) (by decide)]; exact h.2.1) ?_ (fun k hk hn => ?_)
  · unfold ms_E
    rw [if_neg (by omega), if_neg (by omega), if_neg (by omega), if_neg (by omega), if_neg (by omega), if_neg (by omega), if_neg (by omega), if_neg (by omega), if_neg (by omega), if_neg (by omega), if_neg (by omega), if_neg (by omega), if_neg (by omega), if_neg (by omega), if_neg (by omega), if_neg (by omega), if_pos (by omega), show 81 + j - 81 = j by omega, hu]
    congr 4
    funext c
    rw [am_usr_N hf]
  · have f1 : st_f σ' = st_f σ := by unfold st_f; rw [hq 0 (by decide) (by decide)]
    have f3 : st_y σ' = st_y σ := by unfold st_y; rw [hq 8 (by decide) (by decide)]
    have f4 : st_b σ' = st_b σ := by unfold st_b; rw [hq 14 (by decide) (by decide)]
    have f5 : ms_sh σ' = ms_sh σ := by unfold ms_sh; rw [hq 9 (by decide) (by decide), hq 10 (by decide) (by decide), hq 11 (by decide) (by decide)]
    have f6 : ms_obj m σ' thr = ms_obj m σ thr := by unfold ms_obj; rw [h15 0 (by decide), h15 1 (by decide), h15 2 (by decide), h15 3 (by decide), h15 4 (by decide), h15 5 (by decide), h15 6 (by decide), h15 7 (by decide)]
    have f7 : 81 ≤ k → k < 89 → st_u σ' (k - 81) = st_u σ (k - 81) := fun h9 _ => hu2 _ (by omega)
    unfold ms_E
    rw [f1, f3, f4, f5, f6, hq 1 (by decide) (by decide), hq 2 (by decide) (by decide), hq 3 (by decide) (by decide), hq 4 (by decide) (by decide), hq 5 (by decide) (by decide), hq 12 (by decide) (by decide), h15 0 (by decide)]
    repeat' (refine am_ite2 (fun _ => ?_) (fun _ => ?_))
    all_goals first
      | rfl
      | (rw [f7 (by omega) (by omega)])
/-! a piece's glass is new -/
theorem ms_glz {m : Nat} {E : am_E} {σ : am_St} {lm : Nat → Nat} {lk : Nat → Nat → Nat} {lf : Nat → Nat → Bool} {thr : Int32} (h : am_MT m E σ lm lk lf thr) {p st c : Nat} (hp : p < 30) (hst : st = 45 ∨ st = 99 ∨ st = 108 ∨ st = 98) (hc : c < 10) : am_MT m (am_u (am_u (am_u (am_u (am_u E (m + 4) (.inl (2, 30, .inl (upd (fun p => nI (σ 3 p 0)) p (nI st))))) (m + 5) (.inl (0, 30, .inl (upd (fun p => nI (σ 4 p 0)) p (nI c))))) (m + 6) (.inl (0, 30, .inl (upd (fun p => nI (σ 5 p 0)) p (nI (σ 15 3 0)))))) (m + 69) (.inl (0, 30, .inl (upd (fun p => nI (lm p)) p 0)))) (m + 91 + p) (.inl (3, 2001, .inl (am_pro (fun _ => 0) (fun y => ms_bo (st_y σ p y)) 2001)))) (am_glz σ p st c) (fun t => if t = p then 0 else lm t) lk lf thr := by
  have hiv := am_iv_glz h.1 hp hst hc
  have e0 : ∀ q, ¬ (3 ≤ q ∧ q ≤ 8) → am_glz σ p st c q = σ q := fun q hq => am_glz_q hq
  have et : ∀ q t, t ≠ p → am_glz σ p st c q t = σ q t := fun q t ht => if_neg (fun z => ht z.1)
  have ep : ∀ q, 3 ≤ q → q ≤ 8 → am_glz σ p st c q p = fun _ => if q = 3 then st else if q = 4 then c else if q = 5 then σ 15 3 0 else 0 := fun q h1 h2 => if_pos ⟨rfl, h1, h2⟩
  have er : ∀ q, 3 ≤ q → q ≤ 5 → (fun t => nI (am_glz σ p st c q t 0)) = upd (fun t => nI (σ q t 0)) p (nI (if q = 3 then st else if q = 4 then c else σ 15 3 0)) := fun q h1 h2 => by
    funext t
    unfold upd
    by_cases e : t = p
    · rw [if_pos e, e, ep q h1 (by omega)]
      by_cases e3 : q = 3
      · simp [e3]
      · by_cases e4 : q = 4
        · simp [e4]
        · have e5 : q = 5 := by omega
          simp [e5]
    · rw [if_neg e, et q t e]
  generalize am_glz σ p st c = σ' at hiv e0 et ep er ⊢
  refine ⟨hiv, fun t ht => ?_, fun k hk => ?_⟩
  · by_cases e : t = p
    · rw [e, show (fun t => if t = p then 0 else lm t) p = 0 from if_pos rfl, ep 6 (by decide) (by decide), ep 7 (by decide) (by decide)]
      exact ⟨Nat.zero_le _, fun i hi => absurd hi (Nat.not_lt_zero i), fun k _ => ⟨rfl, rfl⟩⟩
    · rw [show (fun t => if t = p then 0 else lm t) t = lm t from if_neg e, et 6 t e, et 7 t e]
      exact h.2.1 t ht
  · by_cases k91 : k = 91 + p
    · rw [show m + k = m + 91 + p by omega, am_uE]
      congr 1
      unfold ms_E
      rw [if_neg (by omega), if_neg (by omega), if_neg (by omega), if_neg (by omega), if_neg (by omega), if_neg (by omega), if_neg (by omega), if_neg (by omega), if_neg (by omega), if_neg (by omega), if_neg (by omega), if_neg (by omega), if_neg (by omega), if_neg (by omega), if_neg (by omega), if_neg (by omega), if_neg (by omega), if_neg (by omega), if_neg (by omega), show k - 91 = p by omega]
      congr 4
      funext y
      have e1 : st_y σ' p y = false := by
        unfold st_y
        rw [ep 8 (by decide) (by decide)]
        exact decide_eq_false (fun q => absurd q.2 (show ¬ (0 : Nat) = 1 by decide))
      rw [e1]
      unfold am_pro
      by_cases hy : y < 2001
      · rw [if_pos hy]; rfl
      · rw [if_neg hy]
        have : st_y σ p y = false := decide_eq_false (fun q => by omega)
        show ms_bo (st_y σ p y) = ms_bo false
        rw [this]
    · rw [am_uN (by omega)]
      by_cases k69 : k = 69
      · rw [k69, am_uE]
        congr 1
        show _ = (Sum.inl (0, 30, .inl (fun t => nI (if t = p then 0 else lm t))) : va_E)
        congr 4
        funext t
        unfold upd
        by_cases e : t = p
        · rw [if_pos e, if_pos e]; rfl
        · rw [if_neg e, if_neg e]
      · rw [am_uN (by omega)]
        by_cases k6 : k = 6
        · rw [k6, am_uE]
          show _ = some (Sum.inl (0, 30, .inl (fun t => nI (σ' 5 t 0))) : va_E)
          rw [er 5 (by decide) (by decide)]
          rfl
        · rw [am_uN (by omega)]
          by_cases k5 : k = 5
          · rw [k5, am_uE]
            show _ = some (Sum.inl (0, 30, .inl (fun t => nI (σ' 4 t 0))) : va_E)
            rw [er 4 (by decide) (by decide)]
            rfl
          · rw [am_uN (by omega)]
            by_cases k4 : k = 4
            · rw [k4, am_uE]
              show _ = some (Sum.inl (2, 30, .inl (fun t => nI (σ' 3 t 0))) : va_E)
              rw [er 3 (by decide) (by decide)]
              rfl
            · rw [am_uN (by omega), h.2.2 k hk]
              congr 1
              have f1 : st_f σ' = st_f σ := by unfold st_f; rw [e0 0 (by decide)]
              have f2 : st_u σ' = st_u σ := by unfold st_u; rw [e0 13 (by decide)]
              have f4 : st_b σ' = st_b σ := by unfold st_b; rw [e0 14 (by decide)]
              have f5 : ms_sh σ' = ms_sh σ := by unfold ms_sh; rw [e0 9 (by decide), e0 10 (by decide), e0 11 (by decide)]
              have f6 : ms_obj m σ' thr = ms_obj m σ thr := by unfold ms_obj; rw [e0 15 (by decide)]
              have f7 : st_y σ' (k - 91) = st_y σ (k - 91) ∨ k < 91 := by
                by_cases q : k < 91
                · exact Or.inr q
                · refine Or.inl ?_
                  unfold st_y
                  rw [et 8 (k - 91) (by omega)]
              unfold ms_E
              rw [f1, f2, f4, f5, f6, e0 1 (by decide), e0 2 (by decide), e0 12 (by decide), e0 15 (by decide)]
              repeat' (refine am_ite2 (fun _ => ?_) (fun _ => ?_))
              all_goals first
                | rfl
                | (exfalso; omega)
                | (rcases f7 with f7 | f7
                   · rw [f7]
                   · exfalso; omega)
/-! the same shape; a stain -/
def am_sam (P Q : Nat → Nat → Bool) (k : Nat) : Bool := !(P (k % 12) (k / 12) == Q (k % 12) (k / 12))
theorem am_sam_N {P Q : Nat → Nat → Bool} (hP : am_sup P) (hQ : am_sup Q) : (!am_any (am_sam P Q) 144) = am_eqb P Q := by
  cases h : am_any (am_sam P Q) 144 with
  | false =>
    refine (am_eqb_t ?_).symm
    have h := am_any_f.mp h
    funext x y
    by_cases hb : x < 12 ∧ y < 12
    · have h9 := h (12 * y + x) (by omega)
      unfold am_sam at h9
      rw [show (12 * y + x) % 12 = x by omega, show (12 * y + x) / 12 = y by omega, Bool.not_eq_false'] at h9
      exact eq_of_beq h9
    · have e1 : P x y = false := by
        cases e : P x y with
        | false => rfl
        | true => exact absurd (hP x y e) hb
      have e2 : Q x y = false := by
        cases e : Q x y with
        | false => rfl
        | true => exact absurd (hQ x y e) hb
      rw [e1, e2]
  | true =>
    refine (am_eqb_f ?_).symm
    obtain ⟨k, hk, h9⟩ := am_any_t.mp h
    intro e
    unfold am_sam at h9
    rw [e] at h9
    simp at h9
theorem am_stn {σ : am_St} {p : Nat} {lm : Nat} {lk : Nat → Nat} {lf : Nat → Bool} (h : ∀ i, i < lm → ∃ k, k < 4 ∧ lk i = am_kl k) (hc : σ 6 p 2 = fb_ct (fun i => decide (lk i = am_kl 2) && !lf i) lm ∧ σ 7 p 2 = fb_ct (fun i => decide (lk i = am_kl 2) && lf i) lm) : am_any (fun i => decide (lk i = 115)) lm = !decide (σ 6 p 2 + σ 7 p 2 = 0) := by
  cases e : am_any (fun i => decide (lk i = 115)) lm with
  | false =>
    have e := am_any_f.mp e
    have z1 : σ 6 p 2 = 0 := by
      rw [hc.1, fb_ct_zero]
      intro k hk
      rw [show am_kl 2 = 115 from rfl, e k hk, Bool.false_and]
    have z2 : σ 7 p 2 = 0 := by
      rw [hc.2, fb_ct_zero]
      intro k hk
      rw [show am_kl 2 = 115 from rfl, e k hk, Bool.false_and]
    rw [decide_eq_true (by omega)]
    rfl
  | true =>
    obtain ⟨k, hk, hp⟩ := am_any_t.mp e
    rw [decide_eq_false]
    · rfl
    · intro z
      have z1 : fb_ct (fun i => decide (lk i = am_kl 2) && !lf i) lm = 0 := by omega
      have z2 : fb_ct (fun i => decide (lk i = am_kl 2) && lf i) lm = 0 := by omega
      have a1 := fb_ct_zero.mp z1 k hk
      have a2 := fb_ct_zero.mp z2 k hk
      rw [show am_kl 2 = 115 from rfl, hp, Bool.true_and] at a1 a2
      rw [a2] at a1
      exact absurd a1 (by decide)
