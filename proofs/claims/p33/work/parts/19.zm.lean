/-! ===== corners stay, when a shape is moved or turned ===== -/
theorem am_dn_e (f : Nat → Bool) (n : Nat) : am_dn f n = (decide (0 < n) && f (n - 1)) := by
  cases n with
  | zero => rfl
  | succ n => rw [decide_eq_true (Nat.succ_pos n), Bool.true_and]; rfl
theorem am_cw_e (P : Nat → Nat → Bool) (j i : Nat) : am_cw P j i = decide (am_b2 (P i j) + am_b2 (decide (0 < i) && P (i - 1) j) + am_b2 (decide (0 < j) && P i (j - 1)) + am_b2 (decide (0 < i) && (decide (0 < j) && P (i - 1) (j - 1))) = 3) := by
  show decide (am_b2 (P i j) + am_b2 (am_dn (fun u => P u j) i) + am_b2 (am_dn (fun v => P i v) j) + am_b2 (am_dn (fun u => am_dn (fun v => P u v) j) i) = 3) = _
  rw [am_dn_e, am_dn_e, am_dn_e, am_dn_e]
theorem am_cw_0 {P : Nat → Nat → Bool} {j i : Nat} (h1 : P i j = false) (h2 : 0 < i → P (i - 1) j = false) (h3 : 0 < j → P i (j - 1) = false) (h4 : 0 < i → 0 < j → P (i - 1) (j - 1) = false) : am_cw P j i = false := by
  rw [am_cw_e, h1]
  by_cases a : 0 < i
  · by_cases b : 0 < j
    · rw [h2 a, h3 b, h4 a b]; simp [am_b2]
    · rw [h2 a, decide_eq_false b]; simp [am_b2]
  · by_cases b : 0 < j
    · rw [h3 b, decide_eq_false a]; simp [am_b2]
    · rw [decide_eq_false a, decide_eq_false b]; simp [am_b2]
theorem am_cut_f {p : Nat → Bool} {a n : Nat} (h : ∀ k, n ≤ k → p k = false) (h0 : ∀ k, k < a → p k = false) : fb_ct (fun k => p (a + k)) n = fb_ct p n := by
  have e1 := fb_ct_split p a n
  have e2 := fb_ct_split p n a
  have z1 : fb_ct p a = 0 := fb_ct_zero.mpr h0
  have z2 : fb_ct (fun k => p (n + k)) a = 0 := fb_ct_zero.mpr (fun k _ => h _ (by omega))
  rw [Nat.add_comm n a] at e2
  omega
theorem am_sm_0 {f : Nat → Nat} : ∀ {n : Nat}, (∀ k, k < n → f k = 0) → fb_sm f n = 0
  | 0, _ => rfl
  | n + 1, h => by rw [fb_sm_succ, am_sm_0 (fun k hk => h k (by omega)), h n (by omega)]
theorem am_cut_s {f : Nat → Nat} {a n : Nat} (h : ∀ k, n ≤ k → f k = 0) (h0 : ∀ k, k < a → f k = 0) : fb_sm (fun k => f (a + k)) n = fb_sm f n := by
  have e1 := fb_sm_split f a n
  have e2 := fb_sm_split f n a
  have z1 : fb_sm f a = 0 := am_sm_0 h0
  have z2 : fb_sm (fun k => f (n + k)) a = 0 := am_sm_0 (fun k _ => h _ (by omega))
  rw [Nat.add_comm n a] at e2
  omega
theorem am_sup_f {P : Nat → Nat → Bool} (h : am_sup P) {x y : Nat} (hb : ¬ (x < 12 ∧ y < 12)) : P x y = false := by
  cases e : P x y with
  | false => rfl
  | true => exact absurd (h x y e) hb
theorem am_co_mv {P : Nat → Nat → Bool} (h : am_sup P) : am_co (am_mv P) = am_co P := by
  rw [← am_co13 h, ← am_co13 (am_mv_sup h)]
  have hl : ∀ x y, x < am_lf P ∨ y < am_lw P → P x y = false := fun x y q => by
    cases e : P x y with
    | false => rfl
    | true =>
      have := am_lf_ub h e
      omega
  have ew : ∀ j i, am_cw (am_mv P) j i = am_cw P (am_lw P + j) (am_lf P + i) := fun j i => by
    rw [am_cw_e, am_cw_e]
    have a1 : am_mv P i j = P (am_lf P + i) (am_lw P + j) := by rw [Nat.add_comm (am_lf P), Nat.add_comm (am_lw P)]; rfl
    have a2 : (decide (0 < i) && am_mv P (i - 1) j) = (decide (0 < am_lf P + i) && P (am_lf P + i - 1) (am_lw P + j)) := by
      by_cases c : 0 < i
      · rw [decide_eq_true c, decide_eq_true (show 0 < am_lf P + i by omega), show am_lf P + i - 1 = i - 1 + am_lf P by omega, Nat.add_comm (am_lw P)]; rfl
      · rw [decide_eq_false c, Bool.false_and]
        by_cases d : 0 < am_lf P + i
        · rw [hl (am_lf P + i - 1) _ (Or.inl (by omega)), Bool.and_false]
        · rw [decide_eq_false d, Bool.false_and]
    have a3 : (decide (0 < j) && am_mv P i (j - 1)) = (decide (0 < am_lw P + j) && P (am_lf P + i) (am_lw P + j - 1)) := by
      by_cases c : 0 < j
      · rw [decide_eq_true c, decide_eq_true (show 0 < am_lw P + j by omega), show am_lw P + j - 1 = j - 1 + am_lw P by omega, Nat.add_comm (am_lf P)]; rfl
      · rw [decide_eq_false c, Bool.false_and]
        by_cases d : 0 < am_lw P + j
        · rw [hl _ (am_lw P + j - 1) (Or.inr (by omega)), Bool.and_false]
        · rw [decide_eq_false d, Bool.false_and]
    have a4 : (decide (0 < i) && (decide (0 < j) && am_mv P (i - 1) (j - 1))) = (decide (0 < am_lf P + i) && (decide (0 < am_lw P + j) && P (am_lf P + i - 1) (am_lw P + j - 1))) := by
      by_cases c : 0 < i ∧ 0 < j
      · rw [decide_eq_true c.1, decide_eq_true c.2, decide_eq_true (show 0 < am_lf P + i by omega), decide_eq_true (show 0 < am_lw P + j by omega), show am_lf P + i - 1 = i - 1 + am_lf P by omega, show am_lw P + j - 1 = j - 1 + am_lw P by omega]; rfl
      · have l : (decide (0 < i) && (decide (0 < j) && am_mv P (i - 1) (j - 1))) = false := by
          by_cases c1 : 0 < i
          · rw [decide_eq_false (show ¬ 0 < j by omega)]; simp
          · rw [decide_eq_false c1, Bool.false_and]
        rw [l]
        by_cases d1 : 0 < am_lf P + i
        · by_cases d2 : 0 < am_lw P + j
          · rw [hl (am_lf P + i - 1) (am_lw P + j - 1) (by omega)]; simp
          · rw [decide_eq_false d2]; simp
        · rw [decide_eq_false d1, Bool.false_and]
    rw [a1, a2, a3, a4]
  have e1 : fb_sm (fun y => fb_ct (am_cw (am_mv P) y) 13) 13 = fb_sm (fun y => fb_ct (am_cw P (am_lw P + y)) 13) 13 := fb_sm_cong (fun y _ => by
    rw [show fb_ct (am_cw (am_mv P) y) 13 = fb_ct (fun i => am_cw P (am_lw P + y) (am_lf P + i)) 13 from fb_ct_cong (fun i _ => ew y i)]
    exact am_cut_f (fun k hk => am_cw_0 (am_sup_f h (by omega)) (fun _ => am_sup_f h (by omega)) (fun _ => am_sup_f h (by omega)) (fun _ _ => am_sup_f h (by omega))) (fun k hk => am_cw_0 (hl _ _ (by omega)) (fun _ => hl _ _ (by omega)) (fun _ => hl _ _ (by omega)) (fun _ _ => hl _ _ (by omega))))
  rw [e1]
  exact am_cut_s (f := fun y => fb_ct (am_cw P y) 13) (fun k hk => fb_ct_zero.mpr (fun i _ => am_cw_0 (am_sup_f h (by omega)) (fun _ => am_sup_f h (by omega)) (fun _ => am_sup_f h (by omega)) (fun _ _ => am_sup_f h (by omega)))) (fun k hk => fb_ct_zero.mpr (fun i _ => am_cw_0 (hl _ _ (by omega)) (fun _ => hl _ _ (by omega)) (fun _ => hl _ _ (by omega)) (fun _ _ => hl _ _ (by omega))))
theorem am_sm_rev (f : Nat → Nat) : ∀ n, fb_sm (fun i => f (n - i)) (n + 1) = fb_sm f (n + 1)
  | 0 => rfl
  | n + 1 => by
    have h := am_sm_rev f n
    have e := fb_sm_split (fun i => f (n + 1 - i)) 1 (n + 1)
    rw [show n + 1 + 1 = 1 + (n + 1) by omega, e, show fb_sm (fun i => f (n + 1 - i)) 1 = f (n + 1) from Nat.zero_add _, show fb_sm (fun k => f (n + 1 - (1 + k))) (n + 1) = fb_sm (fun i => f (n - i)) (n + 1) from fb_sm_cong (fun k _ => by rw [show n + 1 - (1 + k) = n - k by omega]), h, show 1 + (n + 1) = n + 1 + 1 by omega, fb_sm_succ f (n + 1)]
    omega
theorem am_co_tn {Q : Nat → Nat → Bool} (h : am_sup Q) : am_co (am_tn Q) = am_co Q := by
  rw [← am_co13 h, ← am_co13 (am_tn_sup h)]
  have hh := am_ht_le Q
  have ht : ∀ x y, am_ht Q ≤ y → Q x y = false := fun x y q => by
    cases e : Q x y with
    | false => rfl
    | true =>
      have := am_ht_gt h e
      omega
  have hT : ∀ u v, am_tn Q u v = (decide (u < am_ht Q) && Q v (am_ht Q - 1 - u)) := fun _ _ => rfl
  generalize am_ht Q = t at hh ht hT
  have tf : ∀ u v, t ≤ u → am_tn Q u v = false := fun u v q => by rw [hT, decide_eq_false (by omega), Bool.false_and]
  have ew : ∀ j i, i ≤ t → am_cw (am_tn Q) j i = am_cw Q (t - i) j := fun j i hi => by
    have b1 : ∀ v, am_tn Q i v = (decide (0 < t - i) && Q v (t - i - 1)) := fun v => by
      rw [hT]
      by_cases c : i < t
      · rw [decide_eq_true c, decide_eq_true (show 0 < t - i by omega), show t - 1 - i = t - i - 1 by omega]
      · rw [decide_eq_false c, decide_eq_false (show ¬ 0 < t - i by omega), Bool.false_and, Bool.false_and]
    have b2 : ∀ v, (decide (0 < i) && am_tn Q (i - 1) v) = Q v (t - i) := fun v => by
      by_cases c : 0 < i
      · rw [decide_eq_true c, Bool.true_and, hT, decide_eq_true (show i - 1 < t by omega), Bool.true_and, show t - 1 - (i - 1) = t - i by omega]
      · rw [decide_eq_false c, Bool.false_and, ht _ _ (show t ≤ t - i by omega)]
    rw [am_cw_e, am_cw_e, b1, b1, b2]
    have b3 : (decide (0 < i) && (decide (0 < j) && am_tn Q (i - 1) (j - 1))) = (decide (0 < j) && Q (j - 1) (t - i)) := by
      rw [← b2 (j - 1)]
      cases decide (0 < i) <;> cases decide (0 < j) <;> rfl
    rw [b3]
    have b4 : (decide (0 < j) && (decide (0 < t - i) && Q (j - 1) (t - i - 1))) = (decide (0 < j) && (decide (0 < t - i) && Q (j - 1) (t - i - 1))) := rfl
    exact decide_eq_decide.mpr (by omega)
  have er : ∀ y, t < y → fb_ct (am_cw Q y) 13 = 0 := fun y hy => fb_ct_zero.mpr (fun i _ => am_cw_0 (ht _ _ (by omega)) (fun _ => ht _ _ (by omega)) (fun _ => ht _ _ (by omega)) (fun _ _ => ht _ _ (by omega)))
  have e1 : fb_sm (fun y => fb_ct (am_cw (am_tn Q) y) 13) 13 = fb_sm (fun i => fb_ct (fun y => am_cw (am_tn Q) y i) 13) 13 := by
    have := am_sm_swap (fun i y => if am_cw (am_tn Q) y i = true then 1 else 0) 13 13
    rw [show fb_sm (fun y => fb_ct (am_cw (am_tn Q) y) 13) 13 = fb_sm (fun y => fb_sm (fun i => if am_cw (am_tn Q) y i = true then 1 else 0) 13) 13 from fb_sm_cong (fun y _ => am_sm1 _ _), this]
    exact fb_sm_cong (fun i _ => (am_sm1 (fun y => am_cw (am_tn Q) y i) 13).symm)
  have e2 : ∀ i, fb_ct (fun y => am_cw (am_tn Q) y i) 13 = if i < t + 1 then fb_ct (am_cw Q (t - i)) 13 else 0 := fun i => by
    by_cases c : i < t + 1
    · rw [if_pos c]
      exact fb_ct_cong (fun y _ => ew y i (by omega))
    · rw [if_neg c]
      exact fb_ct_zero.mpr (fun y _ => am_cw_0 (tf _ _ (by omega)) (fun _ => tf _ _ (by omega)) (fun _ => tf _ _ (by omega)) (fun _ _ => tf _ _ (by omega)))
  rw [e1, fb_sm_cong (fun i _ => e2 i)]
  obtain ⟨d, hd⟩ : ∃ d, 13 = t + 1 + d := ⟨12 - t, by omega⟩
  have s1 := fb_sm_split (fun i => if i < t + 1 then fb_ct (am_cw Q (t - i)) (t + 1 + d) else 0) (t + 1) d
  have s2 := fb_sm_split (fun y => fb_ct (am_cw Q y) (t + 1 + d)) (t + 1) d
  rw [hd, s1, s2]
  have z1 : fb_sm (fun k => if t + 1 + k < t + 1 then fb_ct (am_cw Q (t - (t + 1 + k))) (t + 1 + d) else 0) d = 0 := am_sm_0 (fun k _ => if_neg (by omega))
  have z2 : fb_sm (fun k => fb_ct (am_cw Q (t + 1 + k)) (t + 1 + d)) d = 0 := am_sm_0 (fun k _ => by rw [← hd]; exact er _ (by omega))
  rw [z1, z2]
  have e3 : fb_sm (fun i => if i < t + 1 then fb_ct (am_cw Q (t - i)) (t + 1 + d) else 0) (t + 1) = fb_sm (fun i => fb_ct (am_cw Q (t - i)) (t + 1 + d)) (t + 1) := fb_sm_cong (fun i hi => if_pos hi)
  rw [e3, am_sm_rev (fun y => fb_ct (am_cw Q y) (t + 1 + d)) t]
theorem am_co_brt {P : Nat → Nat → Bool} (h : am_sup P) (v : Bool) : am_co (am_brt P v) = am_co P := by
  unfold am_brt
  cases v with
  | true =>
    rw [if_pos rfl, am_co_tn (am_mv_sup h), am_co_mv h]
  | false =>
    rw [if_neg (by decide), am_co_mv h]
theorem am_zn_L {z : Nat} (h2 : z < 2147483647) : lN z * 48271 - lN z * 48271 / 2147483647 * 2147483647 = lN (am_zn z) := by
  rw [show (48271 : Int64) = lN 48271 from rfl, show (2147483647 : Int64) = lN 2147483647 from rfl, lN_mul, pk_lRem (by omega) (by omega) (by omega)]
  rfl
theorem am_rem100L {z : Nat} (h : z < 2147483647) : lN z - lN z / 100 * 100 = lN (z % 100) := by
  rw [show (100 : Int64) = lN 100 from rfl, pk_lRem (by omega) (by omega) (by omega)]
theorem am_coL (P : Nat → Nat → Bool) : 10 * (nI (am_co P)).toInt64 = lN (10 * am_co P) := by
  have := am_co_le P
  rw [nI_l (by omega), show (10 : Int64) = lN 10 from rfl, lN_mul]
theorem am_leL {a b : Nat} (ha : a < 2 ^ 62) (hb : b < 2 ^ 62) : lN a ≤ lN b ↔ a ≤ b := by
  rw [Int64.le_iff_toInt_le]
  show (BitVec.ofNat 64 a).toInt ≤ (BitVec.ofNat 64 b).toInt ↔ _
  rw [BitVec.toInt_eq_toNat_cond, BitVec.toInt_eq_toNat_cond, BitVec.toNat_ofNat, BitVec.toNat_ofNat, Nat.mod_eq_of_lt (by omega), Nat.mod_eq_of_lt (by omega), if_pos (by omega), if_pos (by omega)]
  omega
theorem am_cmpL {a b : Nat} (ha : a < 2 ^ 62) (hb : b < 2 ^ 62) : (0 ≤ lg_cmp (lN a) (lN b)) = ¬ (a < b) := propext ((lg_cmp_ge _ _).trans ((am_leL hb ha).trans (by omega)))
theorem am_ne_shp {σ : am_St} (h : am_iv σ) {p c : Nat} (hp : p < 30) (hc : c < 144) (e : σ 0 c 0 = p + 2) : am_ne (am_shp (st_f σ) (nI p)) := by
  refine ⟨c % 12, c / 12, ?_⟩
  refine decide_eq_true ⟨by omega, by omega, ?_⟩
  rw [show 12 * (c / 12) + c % 12 = c by omega, show st_f σ c = am_cv (σ 0 c 0) from rfl, am_cv_p (h.1 c hc) hp]
  exact e
