def v4_Q (f : Nat → Int32) (k i j : Nat) : Bool := decide (am_wa f i j = nI k)
theorem v4_QP {f : Nat → Int32} {k : Nat} (hk : k < 30) (x y : Nat) : v4_Q f k (x + 1) (y + 1) = am_shp f (nI k) x y := by
  unfold v4_Q am_wa am_shp
  by_cases h : x < 12 ∧ y < 12
  · rw [if_pos (by omega), show y + 1 - 1 = y by omega, show x + 1 - 1 = x by omega]
    exact decide_eq_decide.mpr ⟨fun q => ⟨h.1, h.2, q⟩, fun q => q.2.2⟩
  · rw [if_neg (by omega)]
    rw [decide_eq_false (fun e => am_m2 (show k < 1000 by omega) e.symm), decide_eq_false (fun q => h ⟨q.1, q.2.1⟩)]
theorem v4_Q0 {f : Nat → Int32} {k : Nat} (hk : k < 30) (j : Nat) : v4_Q f k 0 j = false := by
  unfold v4_Q am_wa
  rw [if_neg (by omega)]
  exact decide_eq_false (fun e => am_m2 (show k < 1000 by omega) e.symm)
theorem v4_Qy0 {f : Nat → Int32} {k : Nat} (hk : k < 30) (i : Nat) : v4_Q f k i 0 = false := by
  unfold v4_Q am_wa
  rw [if_neg (by omega)]
  exact decide_eq_false (fun e => am_m2 (show k < 1000 by omega) e.symm)
theorem v4_Qd {f : Nat → Int32} {k : Nat} (hk : k < 30) (x : Nat) : ∀ y, v4_Q f k (x + 1) y = am_dn (fun j => am_shp f (nI k) x j) y
  | 0 => v4_Qy0 hk _
  | y + 1 => v4_QP hk x y
theorem v4_Ql {f : Nat → Int32} {k : Nat} (hk : k < 30) (y : Nat) : ∀ x, v4_Q f k x (y + 1) = am_dn (fun i => am_shp f (nI k) i y) x
  | 0 => v4_Q0 hk _
  | x + 1 => v4_QP hk x y
def v4_cr (f : Nat → Int32) (k y x : Nat) : Bool := decide (am_b2 (v4_Q f k x y) + am_b2 (v4_Q f k (x + 1) y) + am_b2 (v4_Q f k x (y + 1)) + am_b2 (v4_Q f k (x + 1) (y + 1)) = 3)
theorem v4_shx {f : Nat → Int32} {v : Int32} (x y : Nat) (h : 12 ≤ x) : am_shp f v x y = false := decide_eq_false (fun q => by omega)
theorem v4_shy {f : Nat → Int32} {v : Int32} (x y : Nat) (h : 12 ≤ y) : am_shp f v x y = false := decide_eq_false (fun q => by omega)
theorem v4_b2le (b : Bool) : am_b2 b ≤ 1 := by cases b <;> decide
theorem v4_c13 {p : Nat → Bool} (h0 : p 0 = false) (h12 : p 12 = false) : fb_ct p 13 = fb_ct (fun k => p (k + 1)) 11 := by
  rw [show 13 = 1 + (11 + 1) from rfl, fb_ct_split p 1 (11 + 1), fb_ct_succ (fun k => p (1 + k)) 11]
  show fb_ct p 1 + (fb_ct (fun k => p (1 + k)) 11 + (if p 12 = true then 1 else 0)) = _
  rw [h12]
  have e1 : fb_ct p 1 = 0 := by
    show 0 + (if p 0 = true then 1 else 0) = 0
    rw [h0]; rfl
  rw [e1, if_neg (by decide), Nat.zero_add, Nat.add_zero]
  exact fb_ct_cong (fun k _ => by rw [Nat.add_comm])
theorem v4_s13 {g : Nat → Nat} (h0 : g 0 = 0) (h12 : g 12 = 0) : fb_sm g 13 = fb_sm (fun k => g (k + 1)) 11 := by
  rw [show 13 = 1 + (11 + 1) from rfl, fb_sm_split g 1 (11 + 1), fb_sm_succ (fun k => g (1 + k)) 11]
  show fb_sm g 1 + (fb_sm (fun k => g (1 + k)) 11 + g 12) = _
  rw [h12]
  have e1 : fb_sm g 1 = 0 := by
    show 0 + g 0 = 0
    rw [h0]
  rw [e1, Nat.zero_add, Nat.add_zero]
  exact fb_sm_cong (fun k _ => by rw [Nat.add_comm])
theorem v4_co {f : Nat → Int32} {k : Nat} (hk : k < 30) : fb_sm (fun y => fb_ct (v4_cr f k y) 13) 13 = am_co (am_shp f (nI k)) := by
  have n3 : ∀ a b c d : Bool, (a = false ∧ b = false) ∨ (a = false ∧ c = false) ∨ (b = false ∧ d = false) ∨ (c = false ∧ d = false) → decide (am_b2 a + am_b2 b + am_b2 c + am_b2 d = 3) = false := by decide
  have cs : ∀ y x, v4_cr f k (y + 1) (x + 1) = decide (am_b2 (am_shp f (nI k) x y) + am_b2 (am_shp f (nI k) (x + 1) y) + am_b2 (am_shp f (nI k) x (y + 1)) + am_b2 (am_shp f (nI k) (x + 1) (y + 1)) = 3) := fun y x => by
    unfold v4_cr
    rw [v4_QP hk, v4_QP hk, v4_QP hk, v4_QP hk]
  have c0 : ∀ x, v4_cr f k 0 x = false := fun x => n3 _ _ _ _ (Or.inl ⟨v4_Qy0 hk _, v4_Qy0 hk _⟩)
  have cx0 : ∀ y, v4_cr f k y 0 = false := fun y => n3 _ _ _ _ (Or.inr (Or.inl ⟨v4_Q0 hk _, v4_Q0 hk _⟩))
  have cx : ∀ y, v4_cr f k y 12 = false := fun y => n3 _ _ _ _ (Or.inr (Or.inr (Or.inl ⟨by
    cases y with
    | zero => exact v4_Qy0 hk _
    | succ y => rw [v4_QP hk]; exact v4_shx _ _ (by omega), by rw [v4_QP hk]; exact v4_shx _ _ (by omega)⟩)))
  have cy : ∀ x, v4_cr f k 12 x = false := fun x => n3 _ _ _ _ (Or.inr (Or.inr (Or.inr ⟨by
    cases x with
    | zero => exact v4_Q0 hk _
    | succ x => rw [v4_QP hk]; exact v4_shy _ _ (by omega), by rw [v4_QP hk]; exact v4_shy _ _ (by omega)⟩)))
  rw [v4_s13 (g := fun y => fb_ct (v4_cr f k y) 13) (fb_ct_zero.mpr (fun x _ => c0 x)) (fb_ct_zero.mpr (fun x _ => cy x))]
  refine fb_sm_cong (fun y _ => ?_)
  rw [v4_c13 (cx0 _) (cx _)]
  exact fb_ct_cong (fun x _ => cs y x)
theorem v4_sz {f : Nat → Int32} {k : Nat} : fb_sm (fun y => fb_ct (fun x => am_shp f (nI k) x y) 13) 13 = fb_ct (fun c => decide (f c = nI k)) 144 := by
  have r : ∀ y, fb_ct (fun x => am_shp f (nI k) x y) 13 = fb_ct (fun x => am_shp f (nI k) x y) 12 := fun y => by
    rw [show 13 = 12 + 1 from rfl, fb_ct_succ, v4_shx 12 y (Nat.le_refl _), if_neg (by decide), Nat.add_zero]
  have e1 : fb_sm (fun y => fb_ct (fun x => am_shp f (nI k) x y) 13) 13 = am_sz (am_shp f (nI k)) := by
    rw [show 13 = 12 + 1 from rfl, fb_sm_succ]
    rw [show fb_ct (fun x => am_shp f (nI k) x 12) (12 + 1) = 0 from fb_ct_zero.mpr (fun x _ => v4_shy x 12 (Nat.le_refl _)), Nat.add_zero]
    exact fb_sm_cong (fun y _ => r y)
  rw [e1, ← am_sz2]
  refine fb_ct_cong (fun c hc => ?_)
  unfold am_shp
  rw [show 12 * (c / 12) + c % 12 = c by omega]
  exact decide_eq_decide.mpr ⟨fun q => q.2.2, fun q => ⟨by omega, by omega, q⟩⟩
theorem v4_lr0 {b : Nat → Bool} (h : ∀ x, b x = false) : ∀ n, am_lr b n = 0
  | 0 => rfl
  | n + 1 => by
    show max (am_lr b n) (if b n = true then am_run b n + 1 else 0) = 0
    rw [v4_lr0 h n, h n]
    rfl
theorem v4_lr13 {b : Nat → Bool} (h : b 12 = false) : am_lr b 13 = am_lr b 12 := by
  show max (am_lr b 12) (if b 12 = true then am_run b 12 + 1 else 0) = _
  rw [h, if_neg (by decide)]
  exact Nat.max_zero _
theorem v4_nrr0 {P : Nat → Nat → Bool} {y x : Nat} (h : P x y = false) : am_nrr P y x = false := by
  unfold am_nrr
  rw [h]; rfl
theorem v4_nrc0 {P : Nat → Nat → Bool} {y x : Nat} (h : P x y = false) : am_nrc P x y = false := by
  unfold am_nrc
  rw [h]; rfl
theorem v4_pt {f : Nat → Int32} {k : Nat} : am_mx (fun l => max (am_lr (am_nrr (am_shp f (nI k)) l) 13) (am_lr (am_nrc (am_shp f (nI k)) l) 13)) 13 = am_pt (am_shp f (nI k)) := by
  have e : (fun l => max (am_lr (am_nrr (am_shp f (nI k)) l) 13) (am_lr (am_nrc (am_shp f (nI k)) l) 13)) = fun l => max (am_lr (am_nrr (am_shp f (nI k)) l) 12) (am_lr (am_nrc (am_shp f (nI k)) l) 12) := funext fun l => by
    rw [v4_lr13 (v4_nrr0 (v4_shx 12 l (Nat.le_refl _))), v4_lr13 (v4_nrc0 (v4_shy l 12 (Nat.le_refl _)))]
  rw [e]
  show max (am_pt (am_shp f (nI k))) (max (am_lr (am_nrr (am_shp f (nI k)) 12) 12) (am_lr (am_nrc (am_shp f (nI k)) 12) 12)) = _
  rw [v4_lr0 (fun x => v4_nrr0 (v4_shy x 12 (Nat.le_refl _))), v4_lr0 (fun y => v4_nrc0 (v4_shx 12 y (Nat.le_refl _)))]
  exact Nat.max_zero _
