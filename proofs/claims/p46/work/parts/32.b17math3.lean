/-! ===== rectangles ===== -/
def v4_I (a w x : Nat) : Bool := decide (a ≤ x ∧ x < a + w)
def v4_R (a c w t : Nat) : Nat → Nat → Bool := fun x y => v4_I a w x && v4_I c t y
def v4_p (w t : Nat) : Nat := if w = 1 then t else if t = 1 then w else 0
theorem v4_It {a w x : Nat} : v4_I a w x = true ↔ a ≤ x ∧ x < a + w := decide_eq_true_iff
theorem v4_Rt {a c w t x y : Nat} : v4_R a c w t x y = true ↔ (a ≤ x ∧ x < a + w) ∧ c ≤ y ∧ y < c + t := by
  unfold v4_R
  rw [Bool.and_eq_true, v4_It, v4_It]
theorem v4_Rsup {a c w t : Nat} (hw : a + w ≤ 12) (ht : c + t ≤ 12) : am_sup (v4_R a c w t) := fun x y h => by
  have := v4_Rt.mp h
  omega
/-- a sum over a stretch -/
theorem v4_smI (J : Nat → Bool) (X : Nat) : ∀ n, fb_sm (fun j => if J j = true then X else 0) n = fb_ct J n * X
  | 0 => (Nat.zero_mul X).symm
  | n + 1 => by
    have ih := v4_smI J X n
    rw [fb_sm_succ, fb_ct_succ, ih]
    cases J n with
    | true => rw [if_pos rfl, if_pos rfl, Nat.succ_mul]
    | false => rw [if_neg (by decide), if_neg (by decide), Nat.add_zero, Nat.add_zero]
theorem v4_ctI : ∀ {a w : Nat}, a + w ≤ 12 → fb_ct (v4_I a w) 12 = w := by
  have h : ∀ a, a < 13 → ∀ w, w < 13 → a + w ≤ 12 → fb_ct (v4_I a w) 12 = w := by decide +kernel
  exact fun {a w} q => h a (by omega) w (by omega) q
theorem v4_szR {a c w t : Nat} (hw : a + w ≤ 12) (ht : c + t ≤ 12) : am_sz (v4_R a c w t) = t * w := by
  unfold am_sz
  have e : ∀ y, fb_ct (fun x => v4_R a c w t x y) 12 = if v4_I c t y = true then w else 0 := fun y => by
    unfold v4_R
    cases h : v4_I c t y with
    | true => rw [if_pos rfl, fb_ct_cong (q := v4_I a w) (fun k _ => Bool.and_true _)]; exact v4_ctI hw
    | false => rw [if_neg (by decide)]; exact fb_ct_zero.mpr (fun k _ => Bool.and_false _)
  rw [fb_sm_cong (g := fun y => if v4_I c t y = true then w else 0) (fun y _ => e y), v4_smI, v4_ctI ht]
theorem v4_coR (a c w t : Nat) : am_co (v4_R a c w t) = 0 := by
  have n3 : ∀ p q r s : Bool, decide (am_b2 (p && r) + am_b2 (q && r) + am_b2 (p && s) + am_b2 (q && s) = 3) = false := by decide
  unfold am_co
  have e : ∀ y, fb_ct (fun x => decide (am_b2 (v4_R a c w t x y) + am_b2 (v4_R a c w t (x + 1) y) + am_b2 (v4_R a c w t x (y + 1)) + am_b2 (v4_R a c w t (x + 1) (y + 1)) = 3)) 11 = 0 := fun y => fb_ct_zero.mpr (fun x _ => n3 _ _ _ _)
  rw [fb_sm_cong (g := fun _ => 0) (fun y _ => e y), fb_sm_const]
theorem v4_whR {a c w t : Nat} : am_wh (v4_R a c w t) = true := by
  refine @decide_eq_true _ (Classical.propDecidable _) ?_
  intro Q hQ ⟨x0, y0, h0⟩ hcl
  have hb := v4_Rt.mp (hQ _ _ h0)
  have right : ∀ d, x0 + d < a + w → Q (x0 + d) y0 = true := fun d => by
    induction d with
    | zero => exact fun _ => h0
    | succ d ih => exact fun q => hcl (x0 + d) y0 _ _ (ih (by omega)) (Or.inr ⟨rfl, Or.inr rfl⟩) (v4_Rt.mpr ⟨⟨by omega, by omega⟩, hb.2⟩)
  have left : ∀ d x, x + d = x0 → a ≤ x → Q x y0 = true := fun d => by
    induction d with
    | zero => exact fun x e _ => by rw [show x = x0 by omega]; exact h0
    | succ d ih => exact fun x e q => hcl (x + 1) y0 _ _ (ih (x + 1) (by omega) (by omega)) (Or.inr ⟨rfl, Or.inl rfl⟩) (v4_Rt.mpr ⟨⟨by omega, by omega⟩, hb.2⟩)
  have row : ∀ x, a ≤ x → x < a + w → Q x y0 = true := fun x h1 h2 => by
    by_cases g : x0 ≤ x
    · have := right (x - x0) (by omega)
      rw [show x0 + (x - x0) = x by omega] at this
      exact this
    · exact left (x0 - x) x (by omega) h1
  intro x y h
  have hx := v4_Rt.mp h
  have up : ∀ d, y0 + d < c + t → Q x (y0 + d) = true := fun d => by
    induction d with
    | zero => exact fun _ => row x hx.1.1 hx.1.2
    | succ d ih => exact fun q => hcl x (y0 + d) _ _ (ih (by omega)) (Or.inl ⟨rfl, Or.inr rfl⟩) (v4_Rt.mpr ⟨hx.1, by omega, by omega⟩)
  have down : ∀ d v, v + d = y0 → c ≤ v → Q x v = true := fun d => by
    induction d with
    | zero => exact fun v e _ => by rw [show v = y0 by omega]; exact row x hx.1.1 hx.1.2
    | succ d ih => exact fun v e q => hcl x (v + 1) _ _ (ih (v + 1) (by omega) (by omega)) (Or.inl ⟨rfl, Or.inl rfl⟩) (v4_Rt.mpr ⟨hx.1, by omega, by omega⟩)
  by_cases g : y0 ≤ y
  · have := up (y - y0) (by omega)
    rw [show y0 + (y - y0) = y by omega] at this
    exact this
  · exact down (y0 - y) y (by omega) hx.2.1
theorem v4_lrI : ∀ {a w : Nat}, a + w ≤ 12 → am_lr (v4_I a w) 12 = w := by
  have h : ∀ a, a < 13 → ∀ w, w < 13 → a + w ≤ 12 → am_lr (v4_I a w) 12 = w := by decide +kernel
  exact fun {a w} q => h a (by omega) w (by omega) q
theorem v4_runc {b b' : Nat → Bool} (h : ∀ x, b x = b' x) : ∀ n, am_run b n = am_run b' n
  | 0 => rfl
  | n + 1 => by
    show (if b n = true then am_run b n + 1 else 0) = if b' n = true then am_run b' n + 1 else 0
    rw [h n, v4_runc h n]
theorem v4_lrc {b b' : Nat → Bool} (h : ∀ x, b x = b' x) : ∀ n, am_lr b n = am_lr b' n := fun n => by
  have : b = b' := funext h
  rw [this]
theorem v4_mxge (g : Nat → Nat) {k : Nat} : ∀ {n : Nat}, k < n → g k ≤ am_mx g n
  | 0, h => absurd h (Nat.not_lt_zero _)
  | n + 1, h => by
    show g k ≤ max (am_mx g n) (g n)
    by_cases e : k = n
    · rw [e]; exact Nat.le_max_right _ _
    · exact Nat.le_trans (v4_mxge g (by omega)) (Nat.le_max_left _ _)
theorem v4_nrrR {a c w t y : Nat} : am_lr (am_nrr (v4_R a c w t) y) 12 = if t = 1 ∧ y = c then am_lr (v4_I a w) 12 else 0 := by
  have e : ∀ x, am_nrr (v4_R a c w t) y x = (decide (t = 1 ∧ y = c) && v4_I a w x) := fun x => by
    unfold am_nrr
    have d1 : am_dn (fun j => v4_R a c w t x j) y = (v4_I a w x && decide (c ≤ y - 1 ∧ y - 1 < c + t ∧ y ≠ 0)) := by
      cases y with
      | zero => simp [am_dn]
      | succ y => show v4_R a c w t x y = _; unfold v4_R v4_I; simp
    rw [d1]
    unfold v4_R
    cases v4_I a w x with
    | false => simp
    | true =>
      simp only [Bool.true_and, Bool.and_true]
      rw [Bool.eq_iff_iff]
      simp only [Bool.and_eq_true, Bool.not_eq_true', decide_eq_true_eq, decide_eq_false_iff_not, v4_It]
      unfold v4_I
      simp only [decide_eq_false_iff_not]
      omega
  rw [v4_lrc e]
  by_cases h : t = 1 ∧ y = c
  · rw [if_pos h]
    exact v4_lrc (fun x => by rw [decide_eq_true h, Bool.true_and]) 12
  · rw [if_neg h]
    exact v4_lr0 (fun x => by rw [decide_eq_false h, Bool.false_and]) 12
theorem v4_nrcR {a c w t x : Nat} : am_lr (am_nrc (v4_R a c w t) x) 12 = if w = 1 ∧ x = a then am_lr (v4_I c t) 12 else 0 := by
  have e : ∀ y, am_nrc (v4_R a c w t) x y = (decide (w = 1 ∧ x = a) && v4_I c t y) := fun y => by
    unfold am_nrc
    have d1 : am_dn (fun i => v4_R a c w t i y) x = (v4_I c t y && decide (a ≤ x - 1 ∧ x - 1 < a + w ∧ x ≠ 0)) := by
      cases x with
      | zero => simp [am_dn]
      | succ x => show v4_R a c w t x y = _; unfold v4_R v4_I; simp [Bool.and_comm]
    rw [d1]
    unfold v4_R
    cases v4_I c t y with
    | false => simp
    | true =>
      simp only [Bool.true_and, Bool.and_true]
      rw [Bool.eq_iff_iff]
      simp only [Bool.and_eq_true, Bool.not_eq_true', decide_eq_true_eq, decide_eq_false_iff_not, v4_It]
      unfold v4_I
      simp only [decide_eq_false_iff_not]
      omega
  rw [v4_lrc e]
  by_cases h : w = 1 ∧ x = a
  · rw [if_pos h]
    exact v4_lrc (fun y => by rw [decide_eq_true h, Bool.true_and]) 12
  · rw [if_neg h]
    exact v4_lr0 (fun y => by rw [decide_eq_false h, Bool.false_and]) 12
def v4_g (a c w t l : Nat) : Nat := max (if t = 1 ∧ l = c then w else 0) (if w = 1 ∧ l = a then t else 0)
theorem v4_ptR {a c w t : Nat} (hw : a + w ≤ 12) (ht : c + t ≤ 12) (w1 : 1 ≤ w) (t1 : 1 ≤ t) : am_pt (v4_R a c w t) = v4_p w t := by
  have e : am_pt (v4_R a c w t) = am_mx (v4_g a c w t) 12 := by
    have eg : (fun l => max (am_lr (am_nrr (v4_R a c w t) l) 12) (am_lr (am_nrc (v4_R a c w t) l) 12)) = v4_g a c w t := funext fun l => by
      rw [v4_nrrR, v4_nrcR, v4_lrI hw, v4_lrI ht]
      rfl
    unfold am_pt
    rw [eg]
  have ga : v4_g a c w t a ≤ am_mx (v4_g a c w t) 12 := v4_mxge _ (by omega)
  have gc : v4_g a c w t c ≤ am_mx (v4_g a c w t) 12 := v4_mxge _ (by omega)
  have le : am_mx (v4_g a c w t) 12 ≤ v4_p w t := am_mx_le (fun l => by
    unfold v4_g v4_p
    split <;> split <;> (try split) <;> (try split) <;> omega) 12
  rw [e]
  refine Nat.le_antisymm le ?_
  unfold v4_p
  by_cases h1 : w = 1
  · rw [if_pos h1]
    refine Nat.le_trans ?_ ga
    unfold v4_g
    rw [if_pos (show w = 1 ∧ a = a from ⟨h1, rfl⟩)]
    exact Nat.le_max_right _ _
  · rw [if_neg h1]
    by_cases h2 : t = 1
    · rw [if_pos h2]
      refine Nat.le_trans ?_ gc
      unfold v4_g
      rw [if_pos (show t = 1 ∧ c = c from ⟨h2, rfl⟩)]
      exact Nat.le_max_left _ _
    · rw [if_neg h2]
      exact Nat.zero_le _
theorem v4_hiR {a c w t : Nat} (hw : a + w ≤ 12) (ht : c + t ≤ 12) (w1 : 1 ≤ w) (t1 : 1 ≤ t) : am_hi (v4_R a c w t) = if 4 < v4_p w t then 112 else 45 := by
  unfold am_hi
  rw [v4_szR hw ht, v4_whR, v4_coR, v4_ptR hw ht w1 t1, if_neg (by
    have := Nat.mul_pos t1 w1
    omega), if_neg (by decide), if_neg (by decide)]
theorem v4_hi0 {P : Nat → Nat → Bool} (h : ∀ x y, P x y = false) : am_hi P = 101 := by
  unfold am_hi
  rw [am_sz_0 h, if_pos rfl]
/-! the leads -/
theorem v4_pnU {a c w t l : Nat} (h1 : a < l) (h2 : l < a + w) (h3 : l < 12) : am_pn (v4_R a c w t) l = v4_R a c (l - a) t := by
  funext x y
  unfold am_pn am_kp
  rw [if_pos h3]
  unfold v4_R v4_I
  rw [Bool.eq_iff_iff]
  simp only [Bool.and_eq_true, decide_eq_true_eq]
  omega
theorem v4_pfU {a c w t l : Nat} (h1 : a < l) (h2 : l < a + w) (h3 : l < 12) : am_pf (v4_R a c w t) l = v4_R l c (a + w - l) t := by
  funext x y
  unfold am_pf am_kp
  rw [if_pos h3]
  unfold v4_R v4_I
  rw [Bool.eq_iff_iff]
  simp only [Bool.and_eq_true, Bool.not_eq_true', decide_eq_true_eq, decide_eq_false_iff_not]
  omega
theorem v4_pnL {a c w t l : Nat} (h3 : ¬ l < 12) (h1 : c < l - 12) (h2 : l - 12 < c + t) : am_pn (v4_R a c w t) l = v4_R a c w (l - 12 - c) := by
  funext x y
  unfold am_pn am_kp
  rw [if_neg h3]
  unfold v4_R v4_I
  rw [Bool.eq_iff_iff]
  simp only [Bool.and_eq_true, decide_eq_true_eq]
  omega
theorem v4_pfL {a c w t l : Nat} (h3 : ¬ l < 12) (h1 : c < l - 12) (h2 : l - 12 < c + t) : am_pf (v4_R a c w t) l = v4_R a (l - 12) w (c + t - (l - 12)) := by
  funext x y
  unfold am_pf am_kp
  rw [if_neg h3]
  unfold v4_R v4_I
  rw [Bool.eq_iff_iff]
  simp only [Bool.and_eq_true, Bool.not_eq_true', decide_eq_true_eq, decide_eq_false_iff_not]
  omega
theorem v4_tcU {a c w t l : Nat} (h1 : a < l) (h2 : l < a + w) (h3 : l < 12) (ht : c + t ≤ 12) : am_tc (v4_R a c w t) l = t := by
  unfold am_tc
  rw [if_pos h3]
  refine (fb_ct_cong (q := v4_I c t) (fun y _ => ?_)).trans (v4_ctI ht)
  obtain ⟨m, rfl⟩ : ∃ m, l = m + 1 := ⟨l - 1, by omega⟩
  show (v4_R a c w t m y && v4_R a c w t (m + 1) y) = _
  unfold v4_R v4_I
  rw [Bool.eq_iff_iff]
  simp only [Bool.and_eq_true, decide_eq_true_eq]
  omega
theorem v4_tcL {a c w t l : Nat} (h3 : ¬ l < 12) (h1 : c < l - 12) (h2 : l - 12 < c + t) (hw : a + w ≤ 12) : am_tc (v4_R a c w t) l = w := by
  unfold am_tc
  rw [if_neg h3]
  refine (fb_ct_cong (q := v4_I a w) (fun x _ => ?_)).trans (v4_ctI hw)
  obtain ⟨m, hm⟩ : ∃ m, l - 12 = m + 1 := ⟨l - 13, by omega⟩
  rw [hm]
  show (v4_R a c w t x m && v4_R a c w t x (m + 1)) = _
  unfold v4_R v4_I
  rw [Bool.eq_iff_iff]
  simp only [Bool.and_eq_true, decide_eq_true_eq]
  omega
/-- the best lead of a rectangle, by numbers alone -/
def v4_bst (a c w t n : Nat) : Nat × Nat → Nat × Nat
  | (x, m) => if n + 1 < 12 then (if (a < n + 1 ∧ n + 1 < a + w) ∧ (v4_p (n + 1 - a) t ≤ 4 ∧ v4_p (a + w - (n + 1)) t ≤ 4) ∧ t < m then (n + 1, t) else (x, m)) else (if (c < n + 1 - 12 ∧ n + 1 - 12 < c + t) ∧ (v4_p w (n + 1 - 12 - c) ≤ 4 ∧ v4_p w (c + t - (n + 1 - 12)) ≤ 4) ∧ w < m then (n + 1, w) else (x, m))
def v4_bn (a c w t : Nat) : Nat → Nat × Nat
  | 0 => (0, 13)
  | n + 1 => v4_bst a c w t n (v4_bn a c w t n)
theorem v4_bns (a c w t n : Nat) : v4_bn a c w t (n + 1) = if n + 1 < 12 then (if (a < n + 1 ∧ n + 1 < a + w) ∧ (v4_p (n + 1 - a) t ≤ 4 ∧ v4_p (a + w - (n + 1)) t ≤ 4) ∧ t < (v4_bn a c w t n).2 then (n + 1, t) else v4_bn a c w t n) else (if (c < n + 1 - 12 ∧ n + 1 - 12 < c + t) ∧ (v4_p w (n + 1 - 12 - c) ≤ 4 ∧ v4_p w (c + t - (n + 1 - 12)) ≤ 4) ∧ w < (v4_bn a c w t n).2 then (n + 1, w) else v4_bn a c w t n) := by
  show v4_bst a c w t n (v4_bn a c w t n) = _
  generalize v4_bn a c w t n = b
  cases b
  rfl
theorem v4_h45 {x : Nat} : ((if 4 < x then (112 : Int32) else 45) = 45) ↔ x ≤ 4 := by
  by_cases h : 4 < x
  · rw [if_pos h]
    exact ⟨fun q => absurd q (by decide), fun q => by omega⟩
  · rw [if_neg h]
    exact ⟨fun _ => by omega, fun _ => rfl⟩
theorem v4_bbR {a c w t : Nat} (hw : a + w ≤ 12) (ht : c + t ≤ 12) (w1 : 1 ≤ w) (t1 : 1 ≤ t) : ∀ n, am_bb (v4_R a c w t) n = v4_bn a c w t n
  | 0 => rfl
  | n + 1 => by
    rw [am_bb_s, v4_bbR hw ht w1 t1 n, v4_bns]
    by_cases h3 : n + 1 < 12
    · rw [if_pos h3]
      by_cases hin : a < n + 1 ∧ n + 1 < a + w
      · have g1 := v4_hiR (a := a) (c := c) (w := n + 1 - a) (t := t) (by omega) ht (by omega) t1
        have g2 := v4_hiR (a := n + 1) (c := c) (w := a + w - (n + 1)) (t := t) (by omega) ht (by omega) t1
        rw [v4_pnU hin.1 hin.2 h3, v4_pfU hin.1 hin.2 h3, v4_tcU hin.1 hin.2 h3 ht, g1, g2]
        simp only [v4_h45, hin, true_and, and_assoc]
      · have hx : am_hi (am_pn (v4_R a c w t) (n + 1)) = 101 ∨ am_hi (am_pf (v4_R a c w t) (n + 1)) = 101 := by
          by_cases g : a < n + 1
          · refine Or.inr (v4_hi0 (fun x y => ?_))
            unfold am_pf am_kp v4_R v4_I
            rw [if_pos h3, Bool.eq_false_iff]
            intro q
            simp only [Bool.and_eq_true, Bool.not_eq_true', decide_eq_true_eq, decide_eq_false_iff_not] at q
            omega
          · refine Or.inl (v4_hi0 (fun x y => ?_))
            unfold am_pn am_kp v4_R v4_I
            rw [if_pos h3, Bool.eq_false_iff]
            intro q
            simp only [Bool.and_eq_true, decide_eq_true_eq] at q
            omega
        have hm : ¬ (am_hi (am_pn (v4_R a c w t) (n + 1)) = 45 ∧ am_hi (am_pf (v4_R a c w t) (n + 1)) = 45 ∧ am_tc (v4_R a c w t) (n + 1) < (v4_bn a c w t n).2) := fun q => by
          rcases hx with hx | hx
          · rw [hx] at q
            exact absurd q.1 (by decide)
          · rw [hx] at q
            exact absurd q.2.1 (by decide)
        rw [if_neg hm, if_neg (fun q => hin q.1)]
    · rw [if_neg h3]
      by_cases hin : c < n + 1 - 12 ∧ n + 1 - 12 < c + t
      · have g1 := v4_hiR (a := a) (c := c) (w := w) (t := n + 1 - 12 - c) hw (by omega) w1 (by omega)
        have g2 := v4_hiR (a := a) (c := n + 1 - 12) (w := w) (t := c + t - (n + 1 - 12)) hw (by omega) w1 (by omega)
        rw [v4_pnL h3 hin.1 hin.2, v4_pfL h3 hin.1 hin.2, v4_tcL h3 hin.1 hin.2 hw, g1, g2]
        simp only [v4_h45, hin, true_and, and_assoc]
      · have hx : am_hi (am_pn (v4_R a c w t) (n + 1)) = 101 ∨ am_hi (am_pf (v4_R a c w t) (n + 1)) = 101 := by
          by_cases g : c < n + 1 - 12
          · refine Or.inr (v4_hi0 (fun x y => ?_))
            unfold am_pf am_kp v4_R v4_I
            rw [if_neg h3, Bool.eq_false_iff]
            intro q
            simp only [Bool.and_eq_true, Bool.not_eq_true', decide_eq_true_eq, decide_eq_false_iff_not] at q
            omega
          · refine Or.inl (v4_hi0 (fun x y => ?_))
            unfold am_pn am_kp v4_R v4_I
            rw [if_neg h3, Bool.eq_false_iff]
            intro q
            simp only [Bool.and_eq_true, decide_eq_true_eq] at q
            omega
        have hm : ¬ (am_hi (am_pn (v4_R a c w t) (n + 1)) = 45 ∧ am_hi (am_pf (v4_R a c w t) (n + 1)) = 45 ∧ am_tc (v4_R a c w t) (n + 1) < (v4_bn a c w t n).2) := fun q => by
          rcases hx with hx | hx
          · rw [hx] at q
            exact absurd q.1 (by decide)
          · rw [hx] at q
            exact absurd q.2.1 (by decide)
        rw [if_neg hm, if_neg (fun q => hin q.1)]
theorem v4_bb0 {P : Nat → Nat → Bool} (h : ∀ x y, P x y = false) : ∀ n, am_bb P n = (0, 13)
  | 0 => rfl
  | n + 1 => by
    rw [am_bb_s, v4_bb0 h n, if_neg (fun q => absurd ((v4_hi0 (P := am_pn P (n + 1)) (fun x y => by unfold am_pn; rw [h]; rfl)).symm.trans q.1) (by decide))]
/-! what the law finds -/
def v4_ls (w t k : Nat) : Nat × Nat → Nat × Nat
  | (x, m) => if k < 7 then (if (1 + k % 7 < w ∧ v4_p (1 + k % 7) t ≤ 4) ∧ v4_p (w - (1 + k % 7)) t ≤ 4 ∧ t < m then ((w - (1 + k % 7)) * t, t) else (x, m)) else (if (1 + k % 7 < t ∧ v4_p w (1 + k % 7) ≤ 4) ∧ v4_p w (t - (1 + k % 7)) ≤ 4 ∧ w < m then (w * (t - (1 + k % 7)), w) else (x, m))
def v4_lw (w t : Nat) : Nat → Nat × Nat
  | 0 => (0, 99)
  | n + 1 => v4_ls w t n (v4_lw w t n)
def v4_ckq (a c w t : Nat) : Nat × Nat → Nat × Nat → Bool
  | (l, _), (b, m) => if l = 0 then decide (b = 0 ∧ m = 99) else decide (m ≠ 99 ∧ l < 24 ∧ b = (if l < 12 then (a + w - l) * t else w * (c + t - (l - 12))) ∧ 0 < b ∧ b < w * t ∧ (if l < 12 then a < l ∧ l < a + w else c < l - 12 ∧ l - 12 < c + t))
def v4_chk (a c w t : Nat) : Bool := v4_ckq a c w t (v4_bn a c w t 23) (v4_lw w t 14)
theorem v4_chk0 : (List.range 9).all (fun w => (List.range 9).all (fun t => (List.range 12).all (fun a => (List.range 12).all (fun c => (decide (w = 0) || (decide (t = 0) || (decide (12 ≤ a + w) || (decide (12 ≤ c + t) || v4_chk a c w t)))))))) = true := by decide +kernel
theorem v4_chk_all {a c w t : Nat} (hw : w < 9) (ht : t < 9) (w1 : 1 ≤ w) (t1 : 1 ≤ t) (ha : a + w < 12) (hc : c + t < 12) : v4_chk a c w t = true := by
  have h1 := List.all_eq_true.mp v4_chk0 w (List.mem_range.mpr hw)
  have h2 := List.all_eq_true.mp h1 t (List.mem_range.mpr ht)
  have h3 := List.all_eq_true.mp h2 a (List.mem_range.mpr (by omega))
  have h4 := List.all_eq_true.mp h3 c (List.mem_range.mpr (by omega))
  simp only [Bool.or_eq_true, decide_eq_true_eq] at h4
  rcases h4 with h | h | h | h | h
  · omega
  · omega
  · omega
  · omega
  · exact h
