/-! ===== the second hall: a rectangle of piece 7 ===== -/
def v4_r1 (a c w t : Nat) : am_St := am_opn am_s0 a c (a + w - 1) (c + t - 1) true
def v4_r2 (a c w t : Nat) : am_St := am_lyn (v4_r1 a c w t) 7 a c (a + w - 1) (c + t - 1)
theorem v4_inr {a c w t k : Nat} (hk : k < 144) (w1 : 1 ≤ w) (t1 : 1 ≤ t) : am_inr a c (a + w - 1) (c + t - 1) k = v4_R a c w t (k % 12) (k / 12) := by
  unfold am_inr v4_R v4_I
  rw [Bool.eq_iff_iff]
  simp only [Bool.and_eq_true, decide_eq_true_eq]
  omega
theorem v4_r1c {a c w t k : Nat} (hk : k < 144) (w1 : 1 ≤ w) (t1 : 1 ≤ t) : v4_r1 a c w t 0 k 0 = if v4_R a c w t (k % 12) (k / 12) = true then 1 else 0 := by
  show (if am_inr a c (a + w - 1) (c + t - 1) k = true then am_nw true (if k < 144 then 0 else 2) else (if k < 144 then 0 else 2)) = _
  rw [v4_inr hk w1 t1, if_pos hk]
  rfl
theorem v4_r2c {a c w t k : Nat} (hk : k < 144) (w1 : 1 ≤ w) (t1 : 1 ≤ t) : v4_r2 a c w t 0 k 0 = if v4_R a c w t (k % 12) (k / 12) = true then 9 else 0 := by
  show (if am_inr a c (a + w - 1) (c + t - 1) k = true then (if v4_r1 a c w t 0 k 0 = 0 then 0 else 7 + 2) else v4_r1 a c w t 0 k 0) = _
  rw [v4_inr hk w1 t1, v4_r1c hk w1 t1]
  cases v4_R a c w t (k % 12) (k / 12) <;> rfl
theorem v4_ok1 (a c w t : Nat) : v4_ok (v4_r1 a c w t) := v4_okc v4_ok0 rfl rfl
theorem v4_ok2 (a c w t : Nat) : v4_ok (v4_r2 a c w t) := v4_okc (v4_ok1 a c w t) rfl rfl
/-- shapes by cells' numbers -/
theorem v4_shc {σ : am_St} (hi : am_iv σ) {p : Nat} (hp : p < 30) (x y : Nat) : am_shp (st_f σ) (nI p) x y = decide (x < 12 ∧ y < 12 ∧ σ 0 (12 * y + x) 0 = p + 2) := by
  unfold am_shp
  by_cases h : x < 12 ∧ y < 12
  · have e : (st_f σ (12 * y + x) = nI p) = (σ 0 (12 * y + x) 0 = p + 2) := am_cv_p (hi.1 _ (by omega)) hp
    exact decide_eq_decide.mpr ⟨fun q => ⟨q.1, q.2.1, e.mp q.2.2⟩, fun q => ⟨q.1, q.2.1, e.mpr q.2.2⟩⟩
  · rw [decide_eq_false (fun q => h ⟨q.1, q.2.1⟩), decide_eq_false (fun q => h ⟨q.1, q.2.1⟩)]
theorem v4_r2shp {a c w t : Nat} (hi : am_iv (v4_r2 a c w t)) (hw : a + w ≤ 12) (ht : c + t ≤ 12) (w1 : 1 ≤ w) (t1 : 1 ≤ t) : am_shp (st_f (v4_r2 a c w t)) (nI 7) = v4_R a c w t := by
  funext x y
  rw [v4_shc hi (by decide)]
  by_cases h : x < 12 ∧ y < 12
  · rw [v4_r2c (by omega) w1 t1, show (12 * y + x) % 12 = x by omega, show (12 * y + x) / 12 = y by omega]
    cases v4_R a c w t x y with
    | true => exact decide_eq_true ⟨h.1, h.2, rfl⟩
    | false => exact decide_eq_false (fun q => absurd q.2.2 (by decide))
  · rw [decide_eq_false (fun q => h ⟨q.1, q.2.1⟩)]
    symm
    rw [Bool.eq_false_iff]
    intro q
    have := v4_Rt.mp q
    omega
theorem v4_r2sh0 {a c w t p : Nat} (hi : am_iv (v4_r2 a c w t)) (hp : p < 30) (h7 : p ≠ 7) (w1 : 1 ≤ w) (t1 : 1 ≤ t) (x y : Nat) : am_shp (st_f (v4_r2 a c w t)) (nI p) x y = false := by
  rw [v4_shc hi hp]
  refine decide_eq_false (fun q => ?_)
  have := q.2.2
  rw [v4_r2c (by omega) w1 t1] at this
  split at this <;> omega
theorem v4_r2ocn {a c w t : Nat} (hw : a + w ≤ 12) (ht : c + t ≤ 12) (w1 : 1 ≤ w) (t1 : 1 ≤ t) : am_ocn am_s0 a c (a + w - 1) (c + t - 1) true = w * t := by
  have e : ∀ j, j < t → fb_ct (fun i => am_och am_s0 true (12 * (c + j) + (a + i))) (a + w - 1 + 1 - a) = w := fun j hj => by
    rw [show a + w - 1 + 1 - a = w by omega]
    refine fb_ct_all.mpr (fun i hi => ?_)
    have e0 : am_s0 0 (12 * (c + j) + (a + i)) 0 = 0 := if_pos (by omega)
    refine decide_eq_true (fun q => ?_)
    have q2 := of_decide_eq_true q
    rw [e0] at q2
    omega
  unfold am_ocn
  rw [show c + t - 1 + 1 - c = t by omega, fb_sm_cong (g := fun _ => w) e, fb_sm_const, Nat.mul_comm]
theorem v4_r1rga {a c w t : Nat} (hw : a + w ≤ 12) (ht : c + t ≤ 12) (w1 : 1 ≤ w) (t1 : 1 ≤ t) : am_rga (am_op1 (v4_r1 a c w t)) a c (a + w - 1) (c + t - 1) = true := by
  refine am_any_t.mpr ⟨0, by omega, am_any_t.mpr ⟨0, by omega, ?_⟩⟩
  show decide (1 ≤ v4_r1 a c w t 0 (12 * (c + 0) + (a + 0)) 0) = true
  rw [v4_r1c (by omega) w1 t1, if_pos (v4_Rt.mpr ⟨by omega, by omega⟩)]
  rfl
theorem v4_r2sz {a c w t : Nat} (hi : am_iv (v4_r2 a c w t)) (hw : a + w ≤ 12) (ht : c + t ≤ 12) (w1 : 1 ≤ w) (t1 : 1 ≤ t) : fb_ct (fun k => decide (st_f (v4_r2 a c w t) k = nI 7)) 144 = w * t := by
  rw [← v4_sz2, v4_r2shp hi hw ht w1 t1, v4_szR hw ht, Nat.mul_comm]
/-! its lead -/
theorem v4_r2wa {a c w t : Nat} (hw : a + w ≤ 12) (ht : c + t ≤ 12) (w1 : 1 ≤ w) (t1 : 1 ≤ t) (i j : Nat) : am_wa (st_f (v4_r2 a c w t)) i j = if (v4_I (a + 1) w i && v4_I (c + 1) t j) = true then nI 7 else -2 := by
  unfold am_wa
  by_cases h : 1 ≤ i ∧ i ≤ 12 ∧ 1 ≤ j ∧ j ≤ 12
  · rw [if_pos h]
    show am_cv (v4_r2 a c w t 0 (12 * (j - 1) + (i - 1)) 0) = _
    rw [v4_r2c (by omega) w1 t1, show (12 * (j - 1) + (i - 1)) % 12 = i - 1 by omega, show (12 * (j - 1) + (i - 1)) / 12 = j - 1 by omega]
    have e : v4_R a c w t (i - 1) (j - 1) = (v4_I (a + 1) w i && v4_I (c + 1) t j) := by
      unfold v4_R v4_I
      rw [Bool.eq_iff_iff]
      simp only [Bool.and_eq_true, decide_eq_true_eq]
      omega
    rw [e]
    cases (v4_I (a + 1) w i && v4_I (c + 1) t j) <;> rfl
  · rw [if_neg h, if_neg (fun q => by
      rw [Bool.and_eq_true, v4_It, v4_It] at q
      omega)]
theorem v4_lbb : ∀ p q : Bool, am_lb (if p = true then nI 7 else -2) (if q = true then nI 7 else -2) = if p = q then 0 else 1 := by decide
theorem v4_d1 : ∀ {a w : Nat}, 1 ≤ w → a + w ≤ 12 → fb_ct (fun i => decide (v4_I (a + 1) w i ≠ v4_I (a + 1) w (i + 1))) 13 = 2 := by
  have h : ∀ a, a < 13 → ∀ w, w < 13 → 1 ≤ w → a + w ≤ 12 → fb_ct (fun i => decide (v4_I (a + 1) w i ≠ v4_I (a + 1) w (i + 1))) 13 = 2 := by decide +kernel
  exact fun {a w} q1 q2 => h a (by omega) w (by omega) q1 q2
theorem v4_d2 : ∀ {a w : Nat}, a + w ≤ 12 → fb_ct (fun i => v4_I (a + 1) w (i + 1)) 13 = w := by
  have h : ∀ a, a < 13 → ∀ w, w < 13 → a + w ≤ 12 → fb_ct (fun i => v4_I (a + 1) w (i + 1)) 13 = w := by decide +kernel
  exact fun {a w} q => h a (by omega) w (by omega) q
theorem v4_sm1 (b : Nat → Bool) (n : Nat) : fb_sm (fun i => if b i = true then 1 else 0) n = fb_ct b n := (v4_smI b 1 n).trans (Nat.mul_one _)
theorem v4_r2lsd {a c w t : Nat} (hw : a + w ≤ 12) (ht : c + t ≤ 12) (w1 : 1 ≤ w) (t1 : 1 ≤ t) : am_lsd (st_f (v4_r2 a c w t)) = 2 * w + 2 * t := by
  have n4 : ∀ p q r s : Bool, am_lb (if (p && s) = true then nI 7 else -2) (if (q && s) = true then nI 7 else -2) + am_lb (if (q && r) = true then nI 7 else -2) (if (q && s) = true then nI 7 else -2) = (if (s && decide (p ≠ q)) = true then 1 else 0) + (if (decide (r ≠ s) && q) = true then 1 else 0) := by decide
  have row : ∀ j, fb_sm (fun i => am_lb (am_wa (st_f (v4_r2 a c w t)) i (j + 1)) (am_wa (st_f (v4_r2 a c w t)) (i + 1) (j + 1)) + am_lb (am_wa (st_f (v4_r2 a c w t)) (i + 1) j) (am_wa (st_f (v4_r2 a c w t)) (i + 1) (j + 1))) 13 = (if v4_I (c + 1) t (j + 1) = true then 2 else 0) + (if decide (v4_I (c + 1) t j ≠ v4_I (c + 1) t (j + 1)) = true then w else 0) := fun j => by
    rw [fb_sm_cong (g := fun i => (if (v4_I (c + 1) t (j + 1) && decide (v4_I (a + 1) w i ≠ v4_I (a + 1) w (i + 1))) = true then 1 else 0) + (if (decide (v4_I (c + 1) t j ≠ v4_I (c + 1) t (j + 1)) && v4_I (a + 1) w (i + 1)) = true then 1 else 0)) (fun i _ => by
      rw [v4_r2wa hw ht w1 t1, v4_r2wa hw ht w1 t1, v4_r2wa hw ht w1 t1]
      exact n4 _ _ _ _), fb_sm_add, v4_sm1, v4_sm1]
    congr 1
    · cases v4_I (c + 1) t (j + 1) with
      | true =>
        rw [if_pos rfl, fb_ct_cong (q := fun i => decide (v4_I (a + 1) w i ≠ v4_I (a + 1) w (i + 1))) (fun i _ => Bool.true_and _)]
        exact v4_d1 w1 hw
      | false => exact fb_ct_zero.mpr (fun i _ => Bool.false_and _)
    · cases decide (v4_I (c + 1) t j ≠ v4_I (c + 1) t (j + 1)) with
      | true =>
        rw [if_pos rfl, fb_ct_cong (q := fun i => v4_I (a + 1) w (i + 1)) (fun i _ => Bool.true_and _)]
        exact v4_d2 hw
      | false => exact fb_ct_zero.mpr (fun i _ => Bool.false_and _)
  unfold am_lsd
  rw [fb_sm_cong (g := fun j => (if v4_I (c + 1) t (j + 1) = true then 2 else 0) + (if decide (v4_I (c + 1) t j ≠ v4_I (c + 1) t (j + 1)) = true then w else 0)) (fun j _ => row j), fb_sm_add, v4_smI (fun j => v4_I (c + 1) t (j + 1)) 2, v4_smI (fun j => decide (v4_I (c + 1) t j ≠ v4_I (c + 1) t (j + 1))) w, v4_d2 ht, v4_d1 t1 ht]
  omega
theorem v4_r2mts {a c w t : Nat} (hw : a + w ≤ 12) (ht : c + t ≤ 12) (w1 : 1 ≤ w) (t1 : 1 ≤ t) : am_mts (st_f (v4_r2 a c w t)) = 0 := by
  have n4 : ∀ p q r s : Bool, decide (3 ≤ am_lb (if (p && r) = true then nI 7 else -2) (if (q && r) = true then nI 7 else -2) + am_lb (if (p && s) = true then nI 7 else -2) (if (q && s) = true then nI 7 else -2) + am_lb (if (p && r) = true then nI 7 else -2) (if (p && s) = true then nI 7 else -2) + am_lb (if (q && r) = true then nI 7 else -2) (if (q && s) = true then nI 7 else -2)) = false := by decide
  unfold am_mts
  rw [fb_sm_cong (g := fun _ => 0) (fun j _ => fb_ct_zero.mpr (fun i _ => by
    unfold am_mtp
    rw [v4_r2wa hw ht w1 t1, v4_r2wa hw ht w1 t1, v4_r2wa hw ht w1 t1, v4_r2wa hw ht w1 t1]
    exact n4 _ _ _ _)), fb_sm_const]
/-! split -/
noncomputable def v4_r3 (a c w t : Nat) : am_St := if (v4_bn a c w t 23).1 = 0 then v4_r2 a c w t else am_spn (v4_r2 a c w t) 7
theorem v4_r2hp {a c w t p : Nat} (hi : am_iv (v4_r2 a c w t)) (hp : p < 30) (w1 : 1 ≤ w) (t1 : 1 ≤ t) (h7 : p ≠ 7) : am_hp (st_f (v4_r2 a c w t)) 144 p = false := by
  rw [Bool.eq_false_iff]
  intro q
  obtain ⟨k, hk, e⟩ := (am_hp_t hi hp).mp q
  rw [v4_r2c hk w1 t1] at e
  split at e <;> omega
theorem v4_r2hp7 {a c w t : Nat} (hi : am_iv (v4_r2 a c w t)) (hw : a + w ≤ 12) (ht : c + t ≤ 12) (w1 : 1 ≤ w) (t1 : 1 ≤ t) : am_hp (st_f (v4_r2 a c w t)) 144 7 = true := by
  refine (am_hp_t hi (by decide)).mpr ⟨12 * c + a, by omega, ?_⟩
  rw [v4_r2c (by omega) w1 t1, if_pos (v4_Rt.mpr ⟨by omega, by omega⟩)]
theorem v4_fst0 {a c w t : Nat} (hi : am_iv (v4_r2 a c w t)) (w1 : 1 ≤ w) (t1 : 1 ≤ t) : am_fst (fun p => !am_hp (st_f (v4_r2 a c w t)) 144 p) 30 = 0 := am_fsx_eq (by decide) (fun k hk => absurd hk (Nat.not_lt_zero _)) (Or.inr (by
  show (!am_hp (st_f (v4_r2 a c w t)) 144 0) = true
  rw [v4_r2hp hi (by decide) w1 t1 (by decide)]
  rfl))
theorem v4_qsp {a c w t : Nat} (hi : am_iv (v4_r2 a c w t)) (hw : a + w ≤ 12) (ht : c + t ≤ 12) (w1 : 1 ≤ w) (t1 : 1 ≤ t) : q_split (v4_r2 a c w t) (nI 7) = if (v4_bn a c w t 23).1 = 0 then r_x x_UO (v4_r2 a c w t) else r_i 0 (am_spn (v4_r2 a c w t) 7) := by
  have hg := v4_ok2 a c w t
  unfold q_split
  rw [if_pos (am_pcb_i (by decide)), am_cl (show 7 < 2 ^ 31 by decide), v4_r2shp hi hw ht w1 t1, v4_bbR hw ht w1 t1, v4_fst0 hi w1 t1]
  by_cases h : (v4_bn a c w t 23).1 = 0
  · rw [if_pos (Or.inr (Or.inr h)), if_pos h]
  · rw [if_neg (by
      rintro (h1 | h1 | h1)
      · exact h1 hg.1
      · exact h1 (hg.2.2.2 7 (by decide))
      · exact h h1), if_neg h, if_pos (by decide)]
    rfl
theorem v4_r3c {a c w t k : Nat} (hi : am_iv (v4_r2 a c w t)) (hw : a + w ≤ 12) (ht : c + t ≤ 12) (w1 : 1 ≤ w) (t1 : 1 ≤ t) (hl : ¬ (v4_bn a c w t 23).1 = 0) (hk : k < 144) : v4_r3 a c w t 0 k 0 = if v4_R a c w t (k % 12) (k / 12) = true then (if am_kp (v4_bn a c w t 23).1 (k % 12) (k / 12) = true then 9 else 2) else 0 := by
  unfold v4_r3
  rw [if_neg hl]
  have e : am_spn (v4_r2 a c w t) 7 0 k 0 = (if k < 144 ∧ am_pf (am_shp (st_f (v4_r2 a c w t)) (nI 7)) (am_bb (am_shp (st_f (v4_r2 a c w t)) (nI 7)) 23).1 (k % 12) (k / 12) = true then am_fst (fun p => !am_hp (st_f (v4_r2 a c w t)) 144 p) 30 + 2 else v4_r2 a c w t 0 k 0) := rfl
  rw [e, v4_r2shp hi hw ht w1 t1, v4_bbR hw ht w1 t1, v4_fst0 hi w1 t1, v4_r2c hk w1 t1]
  unfold am_pf
  cases v4_R a c w t (k % 12) (k / 12) with
  | false => rw [if_neg (fun q => absurd q.2 (by simp)), if_neg (by decide), if_neg (by decide)]
  | true =>
    cases am_kp (v4_bn a c w t 23).1 (k % 12) (k / 12) with
    | true => rw [if_neg (fun q => absurd q.2 (by decide)), if_pos rfl, if_pos rfl, if_pos rfl]
    | false => rw [if_pos ⟨hk, by decide⟩, if_pos rfl, if_neg (by decide)]
theorem v4_ok3 (a c w t : Nat) : v4_ok (v4_r3 a c w t) := by
  unfold v4_r3
  split
  · exact v4_ok2 a c w t
  · exact v4_okc (v4_ok2 a c w t) rfl rfl
/-- the shapes behind the split -/
theorem v4_r3sh {a c w t : Nat} (hi2 : am_iv (v4_r2 a c w t)) (hi : am_iv (v4_r3 a c w t)) (hw : a + w ≤ 12) (ht : c + t ≤ 12) (w1 : 1 ≤ w) (t1 : 1 ≤ t) (hl : ¬ (v4_bn a c w t 23).1 = 0) {p : Nat} (hp : p < 30) (x y : Nat) : am_shp (st_f (v4_r3 a c w t)) (nI p) x y = (if p = 7 then am_pn (v4_R a c w t) (v4_bn a c w t 23).1 x y else if p = 0 then am_pf (v4_R a c w t) (v4_bn a c w t 23).1 x y else false) := by
  rw [v4_shc hi hp]
  unfold am_pn am_pf
  by_cases h : x < 12 ∧ y < 12
  · rw [v4_r3c hi2 hw ht w1 t1 hl (show 12 * y + x < 144 by omega), show (12 * y + x) % 12 = x by omega, show (12 * y + x) / 12 = y by omega]
    cases v4_R a c w t x y with
    | false =>
      rw [if_neg (by decide), decide_eq_false (fun q => absurd q.2.2 (by omega))]
      split <;> (try split) <;> rfl
    | true =>
      rw [if_pos rfl]
      cases am_kp (v4_bn a c w t 23).1 x y with
      | true =>
        rw [if_pos rfl]
        by_cases h7 : p = 7
        · rw [if_pos h7]
          exact decide_eq_true ⟨h.1, h.2, by omega⟩
        · rw [if_neg h7, decide_eq_false (fun q => h7 (by have := q.2.2; omega))]
          split <;> rfl
      | false =>
        rw [if_neg (by decide)]
        by_cases h7 : p = 7
        · rw [if_pos h7]
          exact decide_eq_false (fun q => by have := q.2.2; omega)
        · rw [if_neg h7]
          by_cases h0 : p = 0
          · rw [if_pos h0]
            exact decide_eq_true ⟨h.1, h.2, by omega⟩
          · rw [if_neg h0]
            exact decide_eq_false (fun q => h0 (by have := q.2.2; omega))
  · have e : v4_R a c w t x y = false := by
      rw [Bool.eq_false_iff]
      intro q
      have := v4_Rt.mp q
      omega
    rw [e, decide_eq_false (fun q => h ⟨q.1, q.2.1⟩)]
    split <;> (try split) <;> rfl
/-! numbers behind the split -/
theorem v4_ckt {a c w t : Nat} (h : v4_chk a c w t = true) : ((v4_bn a c w t 23).1 = 0 ∧ v4_lw w t 14 = (0, 99)) ∨ (¬ (v4_bn a c w t 23).1 = 0 ∧ ¬ (v4_lw w t 14).2 = 99 ∧ (v4_bn a c w t 23).1 < 24 ∧ (v4_lw w t 14).1 = (if (v4_bn a c w t 23).1 < 12 then (a + w - (v4_bn a c w t 23).1) * t else w * (c + t - ((v4_bn a c w t 23).1 - 12))) ∧ 0 < (v4_lw w t 14).1 ∧ (v4_lw w t 14).1 < w * t ∧ (if (v4_bn a c w t 23).1 < 12 then a < (v4_bn a c w t 23).1 ∧ (v4_bn a c w t 23).1 < a + w else c < (v4_bn a c w t 23).1 - 12 ∧ (v4_bn a c w t 23).1 - 12 < c + t)) := by
  unfold v4_chk at h
  generalize v4_bn a c w t 23 = q at h ⊢
  generalize v4_lw w t 14 = b at h ⊢
  obtain ⟨l, m⟩ := q
  obtain ⟨x, y⟩ := b
  have h : (if l = 0 then decide (x = 0 ∧ y = 99) else decide (y ≠ 99 ∧ l < 24 ∧ x = (if l < 12 then (a + w - l) * t else w * (c + t - (l - 12))) ∧ 0 < x ∧ x < w * t ∧ (if l < 12 then a < l ∧ l < a + w else c < l - 12 ∧ l - 12 < c + t))) = true := h
  by_cases h0 : l = 0
  · rw [if_pos h0] at h
    have h := of_decide_eq_true h
    exact Or.inl ⟨h0, by rw [h.1, h.2]⟩
  · rw [if_neg h0] at h
    have h := of_decide_eq_true h
    exact Or.inr ⟨h0, h.1, h.2.1, h.2.2.1, h.2.2.2.1, h.2.2.2.2.1, h.2.2.2.2.2⟩
theorem v4_szpf {a c w t l : Nat} (hw : a + w ≤ 12) (ht : c + t ≤ 12) (h : if l < 12 then a < l ∧ l < a + w else c < l - 12 ∧ l - 12 < c + t) : am_sz (am_pf (v4_R a c w t) l) = if l < 12 then (a + w - l) * t else w * (c + t - (l - 12)) := by
  by_cases h3 : l < 12
  · rw [if_pos h3] at h ⊢
    rw [v4_pfU h.1 h.2 h3, v4_szR (by omega) ht, Nat.mul_comm]
  · rw [if_neg h3] at h ⊢
    rw [v4_pfL h3 h.1 h.2, v4_szR hw (by omega), Nat.mul_comm]
theorem v4_szpn {a c w t l : Nat} (hw : a + w ≤ 12) (ht : c + t ≤ 12) (h : if l < 12 then a < l ∧ l < a + w else c < l - 12 ∧ l - 12 < c + t) : am_sz (am_pn (v4_R a c w t) l) = w * t - (if l < 12 then (a + w - l) * t else w * (c + t - (l - 12))) := by
  by_cases h3 : l < 12
  · rw [if_pos h3] at h ⊢
    rw [v4_pnU h.1 h.2 h3, v4_szR (by omega) ht, ← Nat.sub_mul, Nat.mul_comm t]
    congr 1
    omega
  · rw [if_neg h3] at h ⊢
    rw [v4_pnL h3 h.1 h.2, v4_szR hw (by omega), ← Nat.mul_sub, Nat.mul_comm]
    congr 1
    omega
theorem v4_shf {a c w t : Nat} (hi2 : am_iv (v4_r2 a c w t)) (hi : am_iv (v4_r3 a c w t)) (hw : a + w ≤ 12) (ht : c + t ≤ 12) (w1 : 1 ≤ w) (t1 : 1 ≤ t) {p : Nat} (hp : p < 30) (h7 : p ≠ 7) (h0 : (v4_bn a c w t 23).1 = 0 ∨ p ≠ 0) (x y : Nat) : am_shp (st_f (v4_r3 a c w t)) (nI p) x y = false := by
  by_cases hl : (v4_bn a c w t 23).1 = 0
  · have e : v4_r3 a c w t = v4_r2 a c w t := by unfold v4_r3; rw [if_pos hl]
    rw [e]
    exact v4_r2sh0 hi2 hp h7 w1 t1 x y
  · rw [v4_r3sh hi2 hi hw ht w1 t1 hl hp, if_neg h7, if_neg (fun q => h0.elim (fun z => hl z) (fun z => z q))]
theorem v4_sz0 {a c w t : Nat} (hi2 : am_iv (v4_r2 a c w t)) (hi : am_iv (v4_r3 a c w t)) (hw : a + w ≤ 12) (ht : c + t ≤ 12) (w1 : 1 ≤ w) (t1 : 1 ≤ t) (hk : v4_chk a c w t = true) : fb_ct (fun k => decide (st_f (v4_r3 a c w t) k = nI 0)) 144 = (v4_lw w t 14).1 ∧ fb_ct (fun k => decide (st_f (v4_r3 a c w t) k = nI 7)) 144 = w * t - (v4_lw w t 14).1 := by
  rw [← v4_sz2, ← v4_sz2]
  rcases v4_ckt hk with ⟨hl, hb⟩ | ⟨hl, -, -, hb, -, -, hin⟩
  · have e : v4_r3 a c w t = v4_r2 a c w t := by unfold v4_r3; rw [if_pos hl]
    rw [hb, e, v4_r2shp hi2 hw ht w1 t1, v4_szR hw ht, am_sz_0 (v4_r2sh0 hi2 (by decide) (by decide) w1 t1)]
    exact ⟨rfl, by rw [Nat.mul_comm]; rfl⟩
  · have e0 : am_shp (st_f (v4_r3 a c w t)) (nI 0) = am_pf (v4_R a c w t) (v4_bn a c w t 23).1 := by
      funext x y
      rw [v4_r3sh hi2 hi hw ht w1 t1 hl (by decide), if_neg (by decide), if_pos rfl]
    have e7 : am_shp (st_f (v4_r3 a c w t)) (nI 7) = am_pn (v4_R a c w t) (v4_bn a c w t 23).1 := by
      funext x y
      rw [v4_r3sh hi2 hi hw ht w1 t1 hl (by decide), if_pos rfl]
    rw [e0, e7, hb]
    exact ⟨v4_szpf hw ht hin, v4_szpn hw ht hin⟩
theorem v4_hpsz {σ : am_St} (p : Nat) : (am_hp (st_f σ) 144 p = false) = (am_sz (am_shp (st_f σ) (nI p)) = 0) := by
  rw [v4_sz2]
  exact (am_szhp σ p).symm
theorem v4_pcs {a c w t : Nat} (hi2 : am_iv (v4_r2 a c w t)) (hi : am_iv (v4_r3 a c w t)) (hw : a + w ≤ 12) (ht : c + t ≤ 12) (w1 : 1 ≤ w) (t1 : 1 ≤ t) (hk : v4_chk a c w t = true) : am_pcs (v4_r3 a c w t) = if (v4_lw w t 14).1 = 0 then 1 else 2 := by
  obtain ⟨z0, z7⟩ := v4_sz0 hi2 hi hw ht w1 t1 hk
  rw [← v4_sz2] at z0 z7
  have hwt : 0 < w * t := Nat.mul_pos w1 t1
  have hb : (v4_lw w t 14).1 < w * t := by
    rcases v4_ckt hk with ⟨-, hb⟩ | ⟨-, -, -, -, -, hb, -⟩
    · rw [hb]; exact hwt
    · exact hb
  have hh7 : am_hp (st_f (v4_r3 a c w t)) 144 7 = true := by
    rw [← Bool.not_eq_false, v4_hpsz, z7]
    omega
  have hh0 : am_hp (st_f (v4_r3 a c w t)) 144 0 = decide (¬ (v4_lw w t 14).1 = 0) := by
    by_cases h : (v4_lw w t 14).1 = 0
    · rw [decide_eq_false (fun q => q h)]
      exact (v4_hpsz 0).mpr (z0.trans h)
    · rw [decide_eq_true h, ← Bool.not_eq_false, v4_hpsz, z0]
      exact h
  have hh : ∀ p, p < 30 → p ≠ 7 → p ≠ 0 → am_hp (st_f (v4_r3 a c w t)) 144 p = false := fun p hp h7 h0 => (v4_hpsz p).mpr (am_sz_0 (v4_shf hi2 hi hw ht w1 t1 hp h7 (Or.inr h0)))
  have e : am_pcs (v4_r3 a c w t) = fb_ct (fun p => decide (p = 7) || (decide (p = 0) && decide (¬ (v4_lw w t 14).1 = 0))) 30 := fb_ct_cong (fun p hp => by
    by_cases h7 : p = 7
    · rw [h7, hh7]; rfl
    · by_cases h0 : p = 0
      · rw [h0, hh0, decide_eq_false (show ¬ 0 = 7 by decide), decide_eq_true (show 0 = 0 from rfl), Bool.false_or, Bool.true_and]
      · rw [hh p hp h7 h0, decide_eq_false h7, decide_eq_false h0]; rfl)
  rw [e]
  by_cases h : (v4_lw w t 14).1 = 0
  · rw [if_pos h, decide_eq_false (fun q => q h)]
    decide
  · rw [if_neg h, decide_eq_true h]
    decide
theorem v4_r3z {a c w t k : Nat} (hi2 : am_iv (v4_r2 a c w t)) (hw : a + w ≤ 12) (ht : c + t ≤ 12) (w1 : 1 ≤ w) (t1 : 1 ≤ t) (hk : k < 144) : (v4_r3 a c w t 0 k 0 = 0 ∧ v4_R a c w t (k % 12) (k / 12) = false) ∨ (2 ≤ v4_r3 a c w t 0 k 0 ∧ v4_R a c w t (k % 12) (k / 12) = true) := by
  by_cases hl : (v4_bn a c w t 23).1 = 0
  · have e : v4_r3 a c w t = v4_r2 a c w t := by unfold v4_r3; rw [if_pos hl]
    rw [e, v4_r2c hk w1 t1]
    cases v4_R a c w t (k % 12) (k / 12) with
    | true => exact Or.inr ⟨by rw [if_pos rfl]; decide, rfl⟩
    | false => exact Or.inl ⟨by rw [if_neg (by decide)], rfl⟩
  · rw [v4_r3c hi2 hw ht w1 t1 hl hk]
    cases v4_R a c w t (k % 12) (k / 12) with
    | true =>
      refine Or.inr ⟨?_, rfl⟩
      rw [if_pos rfl]
      split <;> decide
    | false => exact Or.inl ⟨by rw [if_neg (by decide)], rfl⟩
theorem v4_on {a c w t : Nat} (hi2 : am_iv (v4_r2 a c w t)) (hi : am_iv (v4_r3 a c w t)) (hw : a + w ≤ 12) (ht : c + t ≤ 12) (w1 : 1 ≤ w) (t1 : 1 ≤ t) : am_on (v4_r3 a c w t) - fb_ct (fun k => decide (st_f (v4_r3 a c w t) k = -1)) 144 = w * t := by
  have e1 : fb_ct (fun k => decide (st_f (v4_r3 a c w t) k = -1)) 144 = 0 := fb_ct_zero.mpr (fun k hk => decide_eq_false (fun q => by
    have h1 : (v4_r3 a c w t 0 k 0 = 1) := (am_cv_1 (hi.1 k hk)).mp q
    rcases v4_r3z hi2 hw ht w1 t1 hk with ⟨h, -⟩ | ⟨h, -⟩ <;> omega))
  have e2 : fb_ct (fun k => !decide (st_f (v4_r3 a c w t) k = -2)) 144 = am_sz (v4_R a c w t) := by
    rw [← am_sz2]
    refine fb_ct_cong (fun k hk => ?_)
    have e3 : (st_f (v4_r3 a c w t) k = -2) = (v4_r3 a c w t 0 k 0 = 0) := am_cv_2 _ (Nat.lt_trans (hi.1 k hk) (by decide))
    rcases v4_r3z hi2 hw ht w1 t1 hk with ⟨h, hr⟩ | ⟨h, hr⟩
    · rw [hr, decide_eq_true (e3.mpr h)]; rfl
    · rw [hr, decide_eq_false (fun q => by have := e3.mp q; omega)]; rfl
  have e4 := fb_ct_not (fun k => decide (st_f (v4_r3 a c w t) k = -2)) 144
  have e5 := v4_szR (a := a) (c := c) hw ht
  rw [Nat.mul_comm] at e5
  unfold am_on
  rw [e1]
  omega
/-! the mean of the cells -/
theorem v4_i2 : FP.i2d (nI 1) = FP.dconst1 ∧ FP.i2d (nI 2) = 4611686018427387904 := by decide +kernel
