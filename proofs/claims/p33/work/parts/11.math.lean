/-! ===== shapes: sets of the 12 by 12 places; a row as bits ===== -/
def am_rw (P : Nat → Nat → Bool) : Nat → Int32 := fun y => nI (am_bn (fun x => P x y) 12)
def am_sup (P : Nat → Nat → Bool) : Prop := ∀ x y, P x y = true → x < 12 ∧ y < 12
def am_non : Nat → Nat → Bool := fun _ _ => false
theorem am_rwb (P : Nat → Nat → Bool) (y : Nat) : am_bn (fun x => P x y) 12 < 2 ^ 31 := Nat.lt_trans (am_bn_lt _ 12) (by decide)
theorem am_rw_hi {P : Nat → Nat → Bool} (h : am_sup P) {y : Nat} (hy : 12 ≤ y) : am_rw P y = 0 := by
  unfold am_rw
  rw [am_bn_0 (fun x _ => by
    cases hp : P x y with
    | false => rfl
    | true => have := h x y hp; omega)]
  rfl
theorem am_sup_x {P : Nat → Nat → Bool} (h : am_sup P) {x y : Nat} (hx : 12 ≤ x) : P x y = false := by
  cases hp : P x y with
  | false => rfl
  | true => have := h x y hp; omega
theorem am_sup_y {P : Nat → Nat → Bool} (h : am_sup P) {x y : Nat} (hy : 12 ≤ y) : P x y = false := by
  cases hp : P x y with
  | false => rfl
  | true => have := h x y hp; omega
theorem am_rw_ext {P Q : Nat → Nat → Bool} {y : Nat} (h : ∀ x, x < 12 → P x y = Q x y) : am_rw P y = am_rw Q y := by
  unfold am_rw
  rw [am_bn_cg (b := fun x => P x y) (c := fun x => Q x y) h]
/-- a row of a shape, by a number that may lie outside -/
def am_ro (P : Nat → Nat → Bool) (y : Int32) : Int32 := if 0 ≤ y ∧ ¬ 12 ≤ y then am_rw P y.toNatClampNeg else 0
theorem am_ro_n {P : Nat → Nat → Bool} (h : am_sup P) {y : Nat} (hy : y < 2 ^ 31) : am_ro P (nI y) = am_rw P y := by
  unfold am_ro
  have e12 : (12 : Int32) = nI 12 := rfl
  have e0 : (0 : Int32) = nI 0 := rfl
  simp only [e12, e0, am_geN (show 0 < 2 ^ 31 by decide) hy, am_geN (show 12 < 2 ^ 31 by decide) hy, nI_clamp hy]
  by_cases h1 : 12 ≤ y
  · rw [if_neg (by omega), am_rw_hi h h1]
    rfl
  · rw [if_pos (by omega)]
theorem am_neg1 {i : Nat} : nI i - 1 = if i = 0 then -1 else nI (i - 1) := by
  by_cases h : i = 0
  · subst h
    rfl
  · rw [if_neg h]
    obtain ⟨j, rfl⟩ : ∃ j, i = j + 1 := ⟨i - 1, by omega⟩
    exact nI_pred j
theorem am_ro_p {P : Nat → Nat → Bool} (h : am_sup P) {y : Nat} (hy : y < 2 ^ 31) : am_ro P (nI y - 1) = if y = 0 then 0 else am_rw P (y - 1) := by
  rw [am_neg1]
  by_cases h0 : y = 0
  · rw [if_pos h0, if_pos h0]
    rfl
  · rw [if_neg h0, if_neg h0, am_ro_n h (by omega)]
def am_so (E : am_E) (t r q : Nat) : Prop := E t = some (.inr (3, [.ref r, .ref q]))
def am_sr (E : am_E) (r : Nat) (P : Nat → Nat → Bool) : Prop := E r = some (.inl (0, 12, .inl (am_rw P)))
def am_rwE (P : Nat → Nat → Bool) : va_E := .inl (0, 12, .inl (am_rw P))
theorem am_upd_rw {P Q : Nat → Nat → Bool} {j : Nat} {v : Int32} (hv : v = am_rw Q j) (h : ∀ x y, x < 12 → y ≠ j → P x y = Q x y) : upd (am_rw P) j v = am_rw Q := by
  funext y
  by_cases hy : y = j
  · subst hy
    simp [upd, hv]
  · simp only [upd, hy, if_false]
    exact am_rw_ext (fun x hx => h x y hx hy)
def am_add (P : Nat → Nat → Bool) (i j : Nat) : Nat → Nat → Bool := fun x y => if x = i ∧ y = j then true else P x y
def am_hs (P : Nat → Nat → Bool) (x y : Int32) : Bool := decide ((0 ≤ x ∧ ¬ 12 ≤ x) ∧ 0 ≤ y ∧ ¬ 12 ≤ y) && P x.toNatClampNeg y.toNatClampNeg
theorem am_hs_n {P : Nat → Nat → Bool} (h : am_sup P) {i j : Nat} (hi : i < 2 ^ 31) (hj : j < 2 ^ 31) : am_hs P (nI i) (nI j) = P i j := by
  unfold am_hs
  have e12 : (12 : Int32) = nI 12 := rfl
  have e0 : (0 : Int32) = nI 0 := rfl
  simp only [e12, e0, am_geN (show 0 < 2 ^ 31 by decide) hi, am_geN (show 12 < 2 ^ 31 by decide) hi, am_geN (show 0 < 2 ^ 31 by decide) hj, am_geN (show 12 < 2 ^ 31 by decide) hj, nI_clamp hi, nI_clamp hj]
  by_cases h1 : 12 ≤ i
  · simp [am_sup_x h h1]
  · by_cases h2 : 12 ≤ j
    · simp [am_sup_y h h2]
    · simp [h1, h2]
theorem am_hs_p {P : Nat → Nat → Bool} (h : am_sup P) {i j : Nat} (hi : i < 2 ^ 31) (hj : j < 2 ^ 31) : am_hs P (nI i - 1) (nI j) = if i = 0 then false else P (i - 1) j := by
  rw [am_neg1]
  by_cases h0 : i = 0
  · rw [if_pos h0, if_pos h0]
    rfl
  · rw [if_neg h0, if_neg h0, am_hs_n h (by omega) hj]
def am_sz (P : Nat → Nat → Bool) : Nat := fb_sm (fun y => fb_ct (fun x => P x y) 12) 12
def am_b2 (b : Bool) : Nat := if b then 1 else 0
def am_co (P : Nat → Nat → Bool) : Nat := fb_sm (fun y => fb_ct (fun x => decide (am_b2 (P x y) + am_b2 (P (x + 1) y) + am_b2 (P x (y + 1)) + am_b2 (P (x + 1) (y + 1)) = 3)) 11) 11
def am_dn (b : Nat → Bool) : Nat → Bool := fun k => match k with
  | 0 => false
  | k + 1 => b k
def am_nrr (P : Nat → Nat → Bool) (y x : Nat) : Bool := P x y && !am_dn (fun j => P x j) y && !P x (y + 1)
def am_nrc (P : Nat → Nat → Bool) (x y : Nat) : Bool := P x y && !am_dn (fun i => P i y) x && !P (x + 1) y
def am_run (b : Nat → Bool) : Nat → Nat
  | 0 => 0
  | n + 1 => if b n then am_run b n + 1 else 0
def am_lr (b : Nat → Bool) : Nat → Nat
  | 0 => 0
  | n + 1 => max (am_lr b n) (am_run b (n + 1))
def am_mx (g : Nat → Nat) : Nat → Nat
  | 0 => 0
  | n + 1 => max (am_mx g n) (g n)
def am_pt (P : Nat → Nat → Bool) : Nat := am_mx (fun l => max (am_lr (am_nrr P l) 12) (am_lr (am_nrc P l) 12)) 12
def am_fst (p : Nat → Bool) : Nat → Nat
  | 0 => 0
  | n + 1 => if am_fst p n < n then am_fst p n else if p n then n else n + 1
def am_lst (p : Nat → Bool) : Nat → Nat
  | 0 => 0
  | n + 1 => if p n then n + 1 else am_lst p n
def am_any (p : Nat → Bool) : Nat → Bool
  | 0 => false
  | n + 1 => am_any p n || p n
def am_cu (P : Nat → Nat → Bool) (x : Nat) : Bool := am_any (fun y => P x y) 12
def am_ru (P : Nat → Nat → Bool) (y : Nat) : Bool := am_any (fun x => P x y) 12
def am_ht (P : Nat → Nat → Bool) : Nat := am_lst (am_ru P) 12
def am_wd (P : Nat → Nat → Bool) : Nat := am_lst (am_cu P) 12
def am_lf (P : Nat → Nat → Bool) : Nat := am_fst (am_cu P) 12
def am_lw (P : Nat → Nat → Bool) : Nat := am_fst (am_ru P) 12
def am_mv (P : Nat → Nat → Bool) : Nat → Nat → Bool := fun x y => P (x + am_lf P) (y + am_lw P)
def am_tn (P : Nat → Nat → Bool) : Nat → Nat → Bool := fun u v => decide (u < am_ht P) && P v (am_ht P - 1 - u)
def am_kp (l x y : Nat) : Bool := if l < 12 then decide (x < l) else decide (y < l - 12)
def am_pn (P : Nat → Nat → Bool) (l : Nat) : Nat → Nat → Bool := fun x y => P x y && am_kp l x y
def am_pf (P : Nat → Nat → Bool) (l : Nat) : Nat → Nat → Bool := fun x y => P x y && !am_kp l x y
def am_tc (P : Nat → Nat → Bool) (l : Nat) : Nat := if l < 12 then fb_ct (fun y => am_dn (fun i => P i y) l && P l y) 12 else fb_ct (fun x => am_dn (fun j => P x j) (l - 12) && P x (l - 12)) 12
/-- beside, over a side -/
def am_nb (x y u v : Nat) : Prop := (x = u ∧ (y = v + 1 ∨ v = y + 1)) ∨ (y = v ∧ (x = u + 1 ∨ u = x + 1))
def am_cls (P Q : Nat → Nat → Bool) : Prop := ∀ x y u v, Q x y = true → am_nb x y u v → P u v = true → Q u v = true
/-- one can go between any two of its places -/
def am_whp (P : Nat → Nat → Bool) : Prop := ∀ Q : Nat → Nat → Bool, (∀ x y, Q x y = true → P x y = true) → (∃ x y, Q x y = true) → am_cls P Q → ∀ x y, P x y = true → Q x y = true
noncomputable def am_wh (P : Nat → Nat → Bool) : Bool := @decide (am_whp P) (Classical.propDecidable _)
noncomputable def am_hi (P : Nat → Nat → Bool) : Int32 := if am_sz P = 0 then 101 else if am_wh P = false then 119 else if 2 < am_co P then 99 else if 4 < am_pt P then 112 else 45
/-- of the leads 1 .. n the best: its number (0: none) and how many touch over it -/
noncomputable def am_bb (P : Nat → Nat → Bool) : Nat → Nat × Nat
  | 0 => (0, 13)
  | n + 1 => if am_hi (am_pn P (n + 1)) = 45 ∧ am_hi (am_pf P (n + 1)) = 45 ∧ am_tc P (n + 1) < (am_bb P n).2 then (n + 1, am_tc P (n + 1)) else am_bb P n
/-! ===== years ===== -/
def am_yw (Y : Nat → Bool) : Nat → Int64 := fun k => lN (am_bn (fun i => Y (64 * k + i)) 64)
def am_ysup (Y : Nat → Bool) : Prop := ∀ y, Y y = true → y ≤ 2000
def am_yo (E : am_E) (t w : Nat) (Y : Nat → Bool) : Prop := E t = some (.inr (6, [.ref w])) ∧ E w = some (.inl (1, 32, .inr (.inl (am_yw Y))))
def am_ywE (Y : Nat → Bool) : va_E := .inl (1, 32, .inr (.inl (am_yw Y)))
/-! ===== paint ===== -/
def am_c4 (R : Nat → Nat) : va_E := .inl (0, 4, .inl (fun k => nI (R k)))
def am_po (E : am_E) (t r f : Nat) (R F : Nat → Nat) : Prop := E t = some (.inr (1, [.ref r, .ref f])) ∧ E r = some (am_c4 R) ∧ E f = some (am_c4 F) ∧ r ≠ f ∧ r ≠ t ∧ f ≠ t ∧ (∀ k, R k ≤ 1000) ∧ ∀ k, F k ≤ 1000
def am_kd (c : Int32) : Int32 := if c = 116 then 0 else if c = 109 then 1 else if c = 115 then 2 else if c = 101 then 3 else -1
def am_Ht (k : Nat) : Nat := [660, 620, 580, 540].getD k 540
def am_lost (d k : Nat) : Prop := am_Ht k + 15 < d
def am_fixd (d k : Nat) : Prop := ¬ am_Ht k + 15 < d ∧ am_Ht k ≤ d + 15
