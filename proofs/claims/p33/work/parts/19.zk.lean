/-! ===== shapes brought to the corner by the reference ===== -/
theorem am_minN {a b : Nat} (ha : a < 2 ^ 31) (hb : b < 2 ^ 31) : am_min (nI a) (nI b) = nI (min a b) := by
  have h1 := nI_ltI ha hb
  have h2 := nI_ltI hb ha
  unfold am_min
  first
    | (by_cases c : a < b
       · rw [if_pos (h1.mpr c)]; congr 1; omega
       · rw [if_neg (fun q => c (h1.mp q))]; congr 1; omega)
    | (by_cases c : b < a
       · rw [if_pos (h2.mpr c)]; congr 1; omega
       · rw [if_neg (fun q => c (h2.mp q))]; congr 1; omega)
def am_mnp (F : Nat → Bool) (g : Nat → Nat) : Nat → Nat
  | 0 => 12
  | n + 1 => if F n = true then min (am_mnp F g n) (g n) else am_mnp F g n
theorem am_mnp_c (F : Nat → Bool) (g : Nat → Nat) : ∀ n, am_mnp F g n ≤ 12 ∧ (∀ j, j < n → F j = true → am_mnp F g n ≤ g j) ∧ (am_mnp F g n = 12 ∨ ∃ j, j < n ∧ F j = true ∧ g j = am_mnp F g n)
  | 0 => ⟨Nat.le_refl _, fun j hj => absurd hj (Nat.not_lt_zero j), Or.inl rfl⟩
  | n + 1 => by
    obtain ⟨h1, h2, h3⟩ := am_mnp_c F g n
    have e : am_mnp F g (n + 1) = if F n = true then min (am_mnp F g n) (g n) else am_mnp F g n := rfl
    rw [e]
    by_cases c : F n = true
    · rw [if_pos c]
      refine ⟨by omega, fun j hj hF => ?_, ?_⟩
      · by_cases q : j = n
        · rw [q]; omega
        · have := h2 j (by omega) hF; omega
      · by_cases q : am_mnp F g n ≤ g n
        · rw [show min (am_mnp F g n) (g n) = am_mnp F g n by omega]
          rcases h3 with h3 | ⟨j, hj, hF, hg⟩
          · exact Or.inl h3
          · exact Or.inr ⟨j, by omega, hF, hg⟩
        · rw [show min (am_mnp F g n) (g n) = g n by omega]
          exact Or.inr ⟨n, by omega, c, rfl⟩
    · rw [if_neg c]
      refine ⟨h1, fun j hj hF => ?_, ?_⟩
      · by_cases q : j = n
        · rw [q] at hF; exact absurd hF c
        · exact h2 j (by omega) hF
      · rcases h3 with h3 | ⟨j, hj, hF, hg⟩
        · exact Or.inl h3
        · exact Or.inr ⟨j, by omega, hF, hg⟩
def am_rt (P : Nat → Nat → Bool) (v : Bool) : Nat → Nat → Bool := fun x y => if v = true then (decide (x < 12) && P y (11 - x)) else P x y
def am_gX (v : Bool) (k : Nat) : Nat := if v = true then 11 - k / 12 else k % 12
def am_gY (v : Bool) (k : Nat) : Nat := if v = true then k % 12 else k / 12
def am_gx (v : Bool) (x y : Nat) : Nat := if v = true then 12 * (11 - x) + y else 12 * y + x
theorem am_XY {v : Bool} {k : Nat} (hk : k < 144) : am_gX v k < 12 ∧ am_gY v k < 12 ∧ am_gx v (am_gX v k) (am_gY v k) = k := by
  unfold am_gX am_gY am_gx
  cases v with
  | true => simp only [if_true]; omega
  | false => simp only [Bool.false_eq_true, if_false]; omega
theorem am_IX {v : Bool} {x y : Nat} (hx : x < 12) (hy : y < 12) : am_gx v x y < 144 ∧ am_gX v (am_gx v x y) = x ∧ am_gY v (am_gx v x y) = y := by
  unfold am_gX am_gY am_gx
  cases v with
  | true => simp only [if_true]; omega
  | false => simp only [Bool.false_eq_true, if_false]; omega
theorem am_rt_at {P : Nat → Nat → Bool} {v : Bool} {k : Nat} (hk : k < 144) : am_rt P v (am_gX v k) (am_gY v k) = P (k % 12) (k / 12) := by
  unfold am_rt am_gX am_gY
  cases v with
  | true =>
    simp only [if_true]
    rw [decide_eq_true (by omega), show 11 - (11 - k / 12) = k / 12 by omega]
    rfl
  | false => simp only [Bool.false_eq_true, if_false]
theorem am_rt_sup {P : Nat → Nat → Bool} (h : am_sup P) (v : Bool) : am_sup (am_rt P v) := fun x y q => by
  unfold am_rt at q
  cases v with
  | true =>
    simp only [if_true] at q
    rw [Bool.and_eq_true, decide_eq_true_eq] at q
    have := h _ _ q.2
    omega
  | false =>
    simp only [Bool.false_eq_true, if_false] at q
    exact h x y q
theorem am_mnp_X {P : Nat → Nat → Bool} (h : am_sup P) (v : Bool) : am_mnp (fun k => P (k % 12) (k / 12)) (am_gX v) 144 = am_lf (am_rt P v) := by
  obtain ⟨h1, h2, h3⟩ := am_mnp_c (fun k => P (k % 12) (k / 12)) (am_gX v) 144
  generalize am_mnp (fun k => P (k % 12) (k / 12)) (am_gX v) 144 = m at h1 h2 h3
  refine (am_fsx_eq h1 (fun x hx => ?_) ?_).symm
  · refine am_any_f.mpr (fun y hy => ?_)
    cases e : am_rt P v x y with
    | false => rfl
    | true =>
      have hb := am_rt_sup h v x y e
      obtain ⟨i1, i2, i3⟩ := am_IX (v := v) hb.1 hb.2
      have := h2 (am_gx v x y) i1 (show P (am_gx v x y % 12) (am_gx v x y / 12) = true by rw [← am_rt_at (P := P) (v := v) i1, i2, i3]; exact e)
      rw [i2] at this
      omega
  · rcases h3 with h3 | ⟨j, hj, hF, hg⟩
    · exact Or.inl h3
    · refine Or.inr (am_any_t.mpr ⟨am_gY v j, (am_XY hj).2.1, ?_⟩)
      rw [← hg, am_rt_at hj]
      exact hF
theorem am_mnp_Y {P : Nat → Nat → Bool} (h : am_sup P) (v : Bool) : am_mnp (fun k => P (k % 12) (k / 12)) (am_gY v) 144 = am_lw (am_rt P v) := by
  obtain ⟨h1, h2, h3⟩ := am_mnp_c (fun k => P (k % 12) (k / 12)) (am_gY v) 144
  generalize am_mnp (fun k => P (k % 12) (k / 12)) (am_gY v) 144 = m at h1 h2 h3
  refine (am_fsx_eq h1 (fun y hy => ?_) ?_).symm
  · refine am_any_f.mpr (fun x hx => ?_)
    cases e : am_rt P v x y with
    | false => rfl
    | true =>
      have hb := am_rt_sup h v x y e
      obtain ⟨i1, i2, i3⟩ := am_IX (v := v) hb.1 hb.2
      have := h2 (am_gx v x y) i1 (show P (am_gx v x y % 12) (am_gx v x y / 12) = true by rw [← am_rt_at (P := P) (v := v) i1, i2, i3]; exact e)
      rw [i3] at this
      omega
  · rcases h3 with h3 | ⟨j, hj, hF, hg⟩
    · exact Or.inl h3
    · refine Or.inr (am_any_t.mpr ⟨am_gX v j, (am_XY hj).1, ?_⟩)
      rw [← hg, am_rt_at hj]
      exact hF
theorem am_lf_ub {Q : Nat → Nat → Bool} (h : am_sup Q) {x y : Nat} (hq : Q x y = true) : am_lf Q ≤ x ∧ am_lw Q ≤ y :=
  ⟨am_fst_ub (p := am_cu Q) (k := x) (am_any_t.mpr ⟨y, (h x y hq).2, hq⟩), am_fst_ub (p := am_ru Q) (k := y) (am_any_t.mpr ⟨x, (h x y hq).1, hq⟩)⟩
def am_brk (P : Nat → Nat → Bool) (v : Bool) (k : Nat) : Nat → Nat → Bool := fun u w => am_mv (am_rt P v) u w && decide (am_gx v (u + am_lf (am_rt P v)) (w + am_lw (am_rt P v)) < k)
theorem am_brk_0 (P : Nat → Nat → Bool) (v : Bool) : am_brk P v 0 = am_non := by
  funext u w
  unfold am_brk
  rw [decide_eq_false (Nat.not_lt_zero _), Bool.and_false]
  rfl
theorem am_brk_N {P : Nat → Nat → Bool} (h : am_sup P) (v : Bool) : am_brk P v 144 = am_mv (am_rt P v) := by
  funext u w
  unfold am_brk
  cases e : am_mv (am_rt P v) u w with
  | false => rfl
  | true =>
    have hb := am_rt_sup h v _ _ e
    rw [decide_eq_true (am_IX hb.1 hb.2).1]
    rfl
theorem am_brk_s {P : Nat → Nat → Bool} (h : am_sup P) (v : Bool) {k : Nat} (hk : k < 144) : am_brk P v (k + 1) = if P (k % 12) (k / 12) = true then am_add (am_brk P v k) (am_gX v k - am_lf (am_rt P v)) (am_gY v k - am_lw (am_rt P v)) else am_brk P v k := by
  have hs := am_rt_sup h v
  have hat := am_rt_at (P := P) (v := v) hk
  obtain ⟨x1, x2, x3⟩ := am_XY (v := v) hk
  have ub : P (k % 12) (k / 12) = true → am_lf (am_rt P v) ≤ am_gX v k ∧ am_lw (am_rt P v) ≤ am_gY v k := fun q => am_lf_ub hs (by rw [hat]; exact q)
  funext u w
  have e1 : ∀ j, am_brk P v j u w = (am_rt P v (u + am_lf (am_rt P v)) (w + am_lw (am_rt P v)) && decide (am_gx v (u + am_lf (am_rt P v)) (w + am_lw (am_rt P v)) < j)) := fun _ => rfl
  have split : am_rt P v (u + am_lf (am_rt P v)) (w + am_lw (am_rt P v)) = true → (am_gx v (u + am_lf (am_rt P v)) (w + am_lw (am_rt P v)) = k ↔ u + am_lf (am_rt P v) = am_gX v k ∧ w + am_lw (am_rt P v) = am_gY v k) := fun q => by
    have hb := hs _ _ q
    obtain ⟨i1, i2, i3⟩ := am_IX (v := v) hb.1 hb.2
    constructor
    · intro z
      rw [z] at i2 i3
      exact ⟨i2.symm, i3.symm⟩
    · rintro ⟨z1, z2⟩
      rw [z1, z2]; exact x3
  by_cases c : P (k % 12) (k / 12) = true
  · rw [if_pos c]
    have ub := ub c
    show am_brk P v (k + 1) u w = (if u = am_gX v k - am_lf (am_rt P v) ∧ w = am_gY v k - am_lw (am_rt P v) then true else am_brk P v k u w)
    rw [e1, e1]
    by_cases d : u = am_gX v k - am_lf (am_rt P v) ∧ w = am_gY v k - am_lw (am_rt P v)
    · rw [if_pos d]
      have d1 : u + am_lf (am_rt P v) = am_gX v k := by omega
      have d2 : w + am_lw (am_rt P v) = am_gY v k := by omega
      rw [d1, d2, hat, c, x3, decide_eq_true (Nat.lt_succ_self k)]
      rfl
    · rw [if_neg d]
      cases q : am_rt P v (u + am_lf (am_rt P v)) (w + am_lw (am_rt P v)) with
      | false => rfl
      | true =>
        have hne : ¬ am_gx v (u + am_lf (am_rt P v)) (w + am_lw (am_rt P v)) = k := fun z => d (by have := (split q).mp z; omega)
        rw [Bool.true_and, Bool.true_and]
        exact decide_eq_decide.mpr (by omega)
  · rw [if_neg c, e1, e1]
    cases q : am_rt P v (u + am_lf (am_rt P v)) (w + am_lw (am_rt P v)) with
    | false => rfl
    | true =>
      have hne : ¬ am_gx v (u + am_lf (am_rt P v)) (w + am_lw (am_rt P v)) = k := fun z => by
        have := (split q).mp z
        rw [this.1, this.2, hat] at q
        exact c q
      rw [Bool.true_and, Bool.true_and]
      exact decide_eq_decide.mpr (by omega)
/-! .. the same as by the class -/
theorem am_lst_eq {p : Nat → Bool} : ∀ {n i : Nat}, i ≤ n → (∀ k, i ≤ k → k < n → p k = false) → (i = 0 ∨ p (i - 1) = true) → am_lst p n = i
  | 0, i, h1, _, _ => by
    have : i = 0 := by omega
    rw [this]; rfl
  | n + 1, i, h1, h2, h3 => by
    by_cases e : i = n + 1
    · rw [e] at h3 ⊢
      rcases h3 with h3 | h3
      · omega
      · exact am_lst_t h3
    · rw [am_lst_f (h2 n (by omega) (by omega))]
      exact am_lst_eq (by omega) (fun k a b => h2 k a (by omega)) h3
theorem am_lst_c (p : Nat → Bool) : ∀ n, (∀ k, am_lst p n ≤ k → k < n → p k = false) ∧ (am_lst p n = 0 ∨ p (am_lst p n - 1) = true)
  | 0 => ⟨fun k _ h => absurd h (Nat.not_lt_zero k), Or.inl rfl⟩
  | n + 1 => by
    obtain ⟨h1, h2⟩ := am_lst_c p n
    cases e : p n with
    | true =>
      rw [am_lst_t e]
      exact ⟨fun k a b => by omega, Or.inr (by rw [Nat.add_sub_cancel]; exact e)⟩
    | false =>
      rw [am_lst_f e]
      refine ⟨fun k a b => ?_, h2⟩
      by_cases q : k = n
      · rw [q]; exact e
      · exact h1 k a (by omega)
theorem am_rt_tn {P : Nat → Nat → Bool} (h : am_sup P) : am_mv (am_rt P true) = am_tn (am_mv P) := by
  have hQ : ∀ x y, am_rt P true x y = (decide (x < 12) && P y (11 - x)) := fun x y => if_pos rfl
  have hs := am_rt_sup h true
  have hM : ∀ x y, am_mv P x y = P (x + am_lf P) (y + am_lw P) := fun _ _ => rfl
  have sM := am_mv_sup h
  by_cases ne : am_ne P
  · obtain ⟨x0, y0, h0⟩ := ne
    have hb0 := h x0 y0 h0
    -- the top row
    obtain ⟨t1, t2⟩ := am_lst_c (am_ru P) 12
    have ht0 : 1 ≤ am_ht P := by have := am_ht_gt h h0; omega
    have htl := am_ht_le P
    have t1 : ∀ k, am_ht P ≤ k → k < 12 → am_ru P k = false := t1
    have t2 : am_ru P (am_ht P - 1) = true := by
      rcases t2 with t2 | t2
      · have t2 : am_ht P = 0 := t2
        omega
      · exact t2
    obtain ⟨xt, hxt, hpt⟩ := am_any_t.mp t2
    have hubt := am_lf_ub h hpt
    have elw : am_lw (am_rt P true) = am_lf P := by
      refine am_fst_cg (fun y hy => ?_)
      show am_ru (am_rt P true) y = am_cu P y
      unfold am_ru am_cu
      cases e : am_any (fun z => P y z) 12 with
      | true =>
        obtain ⟨z, hz, hp⟩ := am_any_t.mp e
        refine am_any_t.mpr ⟨11 - z, by omega, ?_⟩
        rw [hQ, decide_eq_true (by omega), show 11 - (11 - z) = z by omega, hp]
        rfl
      | false =>
        refine am_any_f.mpr (fun x hx => ?_)
        rw [hQ, am_any_f.mp e (11 - x) (by omega), Bool.and_false]
    have elf : am_lf (am_rt P true) = 12 - am_ht P := by
      refine am_fsx_eq (by omega) (fun x hx => ?_) (Or.inr ?_)
      · refine am_any_f.mpr (fun y hy => ?_)
        rw [hQ]
        have := am_any_f.mp (t1 (11 - x) (by omega) (by omega)) y hy
        rw [this, Bool.and_false]
      · refine am_any_t.mpr ⟨xt, hxt, ?_⟩
        rw [hQ, decide_eq_true (by omega), show 11 - (12 - am_ht P) = am_ht P - 1 by omega, hpt]
        rfl
    have eht : am_ht (am_mv P) = am_ht P - am_lw P := by
      refine am_lst_eq (by omega) (fun k k1 k2 => ?_) (Or.inr ?_)
      · refine am_any_f.mpr (fun x hx => ?_)
        rw [hM]
        cases e : P (x + am_lf P) (k + am_lw P) with
        | false => rfl
        | true =>
          have hb := h _ _ e
          have := am_any_f.mp (t1 (k + am_lw P) (by omega) hb.2) (x + am_lf P) hb.1
          rw [e] at this
          cases this
      · refine am_any_t.mpr ⟨xt - am_lf P, by omega, ?_⟩
        rw [hM, show xt - am_lf P + am_lf P = xt by omega, show am_ht P - am_lw P - 1 + am_lw P = am_ht P - 1 by omega]
        exact hpt
    funext u w
    show am_rt P true (u + am_lf (am_rt P true)) (w + am_lw (am_rt P true)) = (decide (u < am_ht (am_mv P)) && am_mv P w (am_ht (am_mv P) - 1 - u))
    rw [elw, elf, eht, hQ, hM]
    by_cases c : u < am_ht P - am_lw P
    · rw [decide_eq_true c, decide_eq_true (show u + (12 - am_ht P) < 12 by omega), show 11 - (u + (12 - am_ht P)) = am_ht P - am_lw P - 1 - u + am_lw P by omega]
    · rw [decide_eq_false c, Bool.false_and]
      by_cases d : u + (12 - am_ht P) < 12
      · rw [decide_eq_true d, Bool.true_and]
        cases e : P (w + am_lf P) (11 - (u + (12 - am_ht P))) with
        | false => rfl
        | true =>
          have := (am_lf_ub h e).2
          omega
      · rw [decide_eq_false d, Bool.false_and]
  · have hz : ∀ x y, P x y = false := fun x y => by
      cases e : P x y with
      | false => rfl
      | true => exact absurd ⟨x, y, e⟩ ne
    funext u w
    show am_rt P true (u + am_lf (am_rt P true)) (w + am_lw (am_rt P true)) = (decide (u < am_ht (am_mv P)) && am_mv P w (am_ht (am_mv P) - 1 - u))
    rw [hQ, hM, hz, hz, Bool.and_false, Bool.and_false]
def am_brt (P : Nat → Nat → Bool) (v : Bool) : Nat → Nat → Bool := if v = true then am_tn (am_mv P) else am_mv P
theorem am_rt_brt {P : Nat → Nat → Bool} (h : am_sup P) (v : Bool) : am_mv (am_rt P v) = am_brt P v := by
  cases v with
  | true => exact am_rt_tn h
  | false => rfl
