/-! ===== shapes as the reference keeps them ===== -/
theorem am_ct2 (F : Nat → Nat → Bool) : ∀ n, fb_ct (fun k => F (k % 12) (k / 12)) (12 * n) = fb_sm (fun y => fb_ct (fun x => F x y) 12) n
  | 0 => rfl
  | n + 1 => by
    rw [show 12 * (n + 1) = 12 * n + 12 by omega, fb_ct_split, am_ct2 F n, fb_sm_succ]
    congr 1
    exact fb_ct_cong (fun k hk => by rw [show (12 * n + k) % 12 = k by omega, show (12 * n + k) / 12 = n by omega])
theorem am_sz2 (P : Nat → Nat → Bool) : fb_ct (fun k => P (k % 12) (k / 12)) 144 = am_sz P := am_ct2 P 12
def am_del (P : Nat → Nat → Bool) (i j : Nat) : Nat → Nat → Bool := fun x y => if x = i ∧ y = j then false else P x y
theorem am_sa_del (P : Nat → Nat → Bool) {i j : Nat} (hi : i < 12) : upd (am_sa P) (12 * j + i) 0 = am_sa (am_del P i j) := by
  funext k
  unfold upd am_sa am_del
  by_cases h : k = 12 * j + i
  · rw [if_pos h, if_pos (by omega)]; rfl
  · rw [if_neg h, if_neg (by omega)]
theorem am_sa_add (P : Nat → Nat → Bool) {i j : Nat} (hi : i < 12) : upd (am_sa P) (12 * j + i) 1 = am_sa (am_add P i j) := by
  funext k
  unfold upd am_sa am_add
  by_cases h : k = 12 * j + i
  · rw [if_pos h, if_pos (by omega)]; rfl
  · rw [if_neg h, if_neg (by omega)]
theorem am_hs_t {P : Nat → Nat → Bool} {x y : Int32} (h : am_hs P x y = true) : ∃ i j, i < 12 ∧ j < 12 ∧ x = nI i ∧ y = nI j ∧ P i j = true := by
  unfold am_hs at h
  rw [Bool.and_eq_true, decide_eq_true_eq] at h
  obtain ⟨i, j, hi, hj, rfl, rfl⟩ := am_insN h.1
  exact ⟨i, j, hi, hj, rfl, rfl, by rw [nI_clamp (by omega), nI_clamp (by omega)] at h; exact h.2⟩
theorem am_hs_i {P : Nat → Nat → Bool} {i j : Nat} (hi : i < 12) (hj : j < 12) : am_hs P (nI i) (nI j) = P i j := by
  unfold am_hs
  rw [decide_eq_true (show (0 ≤ nI i ∧ ¬ 12 ≤ nI i) ∧ 0 ≤ nI j ∧ ¬ 12 ≤ nI j from am_insI hi hj), nI_clamp (by omega), nI_clamp (by omega)]
  rfl
theorem am_hs_e {P : Nat → Nat → Bool} (h : am_sup P) {x y : Int32} {i j : Nat} (hx : x = if i = 0 then -1 else nI (i - 1)) (hy : y = if j = 0 then -1 else nI (j - 1)) (hi : i < 1000) (hj : j < 1000) : am_hs P x y = am_dn (fun u => am_dn (fun v => P u v) j) i := by
  cases i with
  | zero =>
    rw [hx, if_pos rfl]
    show am_hs P (-1) y = false
    unfold am_hs
    rw [decide_eq_false (fun q => absurd q.1.1 (by decide))]
    rfl
  | succ i =>
    rw [if_neg (by omega), Nat.add_sub_cancel] at hx
    cases j with
    | zero =>
      rw [hy, if_pos rfl]
      show am_hs P x (-1) = false
      unfold am_hs
      rw [decide_eq_false (fun q => absurd q.2.1 (by decide))]
      rfl
    | succ j =>
      rw [if_neg (by omega), Nat.add_sub_cancel] at hy
      rw [hx, hy]
      exact am_hs_n h (by omega) (by omega)
theorem am_dx : ∀ k, k < 4 → ∀ i, i < 12 → ∀ u, u < 12 → decide (nI i + am_xf 3 k = nI u) = decide ((k = 0 ∧ u = i + 1) ∨ (k = 1 ∧ i = u + 1) ∨ (2 ≤ k ∧ u = i)) := by decide +kernel
theorem am_dy : ∀ k, k < 4 → ∀ i, i < 12 → ∀ u, u < 12 → decide (nI i + am_xf 4 k = nI u) = decide ((k = 2 ∧ u = i + 1) ∨ (k = 3 ∧ i = u + 1) ∨ (k < 2 ∧ u = i)) := by decide +kernel
theorem am_dx' {k i u : Nat} (hk : k < 4) (hi : i < 12) (hu : u < 12) : nI i + am_xf 3 k = nI u ↔ (k = 0 ∧ u = i + 1) ∨ (k = 1 ∧ i = u + 1) ∨ (2 ≤ k ∧ u = i) := decide_eq_decide.mp (am_dx k hk i hi u hu)
theorem am_dy' {k i u : Nat} (hk : k < 4) (hi : i < 12) (hu : u < 12) : nI i + am_xf 4 k = nI u ↔ (k = 2 ∧ u = i + 1) ∨ (k = 3 ∧ i = u + 1) ∨ (k < 2 ∧ u = i) := decide_eq_decide.mp (am_dy k hk i hi u hu)
/-! ===== a walk over a piece ===== -/
/-- R is what a walk from x, y leaves of P -/
def am_wlk (P : Nat → Nat → Bool) (x y : Int32) (R : Nat → Nat → Bool) : Prop :=
  (∀ u v, R u v = true → P u v = true) ∧ (am_hs P x y = false → R = P) ∧ am_hs R x y = false ∧
  (∀ u v s t, P u v = true → R u v = false → am_nb u v s t → P s t = true → R s t = false) ∧
  ∀ Q : Nat → Nat → Bool, am_cls P Q → am_hs Q x y = true → ∀ u v, P u v = true → R u v = false → Q u v = true
/-- .. after k of the four directions -/
def am_wki (P : Nat → Nat → Bool) (i j k : Nat) (R : Nat → Nat → Bool) : Prop :=
  (∀ u v, R u v = true → P u v = true) ∧ R i j = false ∧
  (∀ u v s t, ¬ (u = i ∧ v = j) → P u v = true → R u v = false → am_nb u v s t → P s t = true → R s t = false) ∧
  (∀ q, q < k → am_hs R (nI i + am_xf 3 q) (nI j + am_xf 4 q) = false) ∧
  ∀ Q : Nat → Nat → Bool, am_cls P Q → Q i j = true → ∀ u v, P u v = true → R u v = false → Q u v = true
theorem am_wlk_f {P : Nat → Nat → Bool} {x y : Int32} (h : am_hs P x y = false) : am_wlk P x y P :=
  ⟨fun _ _ q => q, fun _ => rfl, h, (fun u v s t h1 h2 _ _ => by rw [h1] at h2; cases h2), (fun Q _ _ u v h1 h2 => by rw [h1] at h2; cases h2)⟩
theorem am_wki_0 {P : Nat → Nat → Bool} {i j : Nat} : am_wki P i j 0 (am_del P i j) := by
  have hd : ∀ u v, am_del P i j u v = if u = i ∧ v = j then false else P u v := fun _ _ => rfl
  refine ⟨fun u v q => ?_, by rw [hd, if_pos ⟨rfl, rfl⟩], fun u v s t hn h1 h2 => ?_, fun q hq => absurd hq (Nat.not_lt_zero q), fun Q _ hQ u v h1 h2 => ?_⟩
  · rw [hd] at q
    split at q
    · cases q
    · exact q
  · rw [hd, if_neg hn, h1] at h2
    cases h2
  · rw [hd] at h2
    split at h2
    · rename_i c
      rw [c.1, c.2]; exact hQ
    · rw [h1] at h2; cases h2
theorem am_wki_s {P R S : Nat → Nat → Bool} {i j k : Nat} (hi : i < 12) (hj : j < 12) (hk : k < 4) (h : am_wki P i j k R) (hw : am_wlk R (nI i + am_xf 3 k) (nI j + am_xf 4 k) S) : am_wki P i j (k + 1) S := by
  obtain ⟨a1, a2, a3, a4, a5⟩ := h
  obtain ⟨b1, b2, b3, b4, b5⟩ := hw
  have sub0 : ∀ u v, R u v = false → S u v = false := fun u v q => by
    cases e : S u v with
    | false => rfl
    | true => rw [b1 u v e] at q; cases q
  refine ⟨fun u v q => a1 u v (b1 u v q), sub0 i j a2, fun u v s t hn h1 h2 h3 h4 => ?_, fun q hq => ?_, fun Q hQ hQi u v h1 h2 => ?_⟩
  · cases e : R s t with
    | false => exact sub0 s t e
    | true =>
      cases e2 : R u v with
      | true => exact b4 u v s t e2 h2 h3 e
      | false => rw [a3 u v s t hn h1 e2 h3 h4] at e; cases e
  · by_cases e : q = k
    · rw [e]; exact b3
    · have h9 := a4 q (by omega)
      cases e2 : am_hs S (nI i + am_xf 3 q) (nI j + am_xf 4 q) with
      | false => rfl
      | true =>
        obtain ⟨u, v, hu, hv, e3, e4, e5⟩ := am_hs_t e2
        rw [e3, e4, am_hs_i hu hv, b1 u v e5] at h9
        cases h9
  · cases e : R u v with
    | false => exact a5 Q hQ hQi u v h1 e
    | true =>
      cases e2 : am_hs R (nI i + am_xf 3 k) (nI j + am_xf 4 k) with
      | false =>
        rw [b2 e2, e] at h2
        cases h2
      | true =>
        obtain ⟨s, t, hs, ht, e3, e4, e5⟩ := am_hs_t e2
        refine b5 Q (fun x y u v q1 q2 q3 => hQ x y u v q1 q2 (a1 u v q3)) ?_ u v e h2
        rw [e3, e4, am_hs_i hs ht]
        refine hQ i j s t hQi ?_ (a1 s t e5)
        have d1 := (am_dx' hk hi hs).mp e3
        have d2 := (am_dy' hk hj ht).mp e4
        unfold am_nb
        omega
theorem am_wki_4 {P R : Nat → Nat → Bool} {i j : Nat} (hi : i < 12) (hj : j < 12) (sP : am_sup P) (hp : P i j = true) (h : am_wki P i j 4 R) : am_wlk P (nI i) (nI j) R := by
  obtain ⟨a1, a2, a3, a4, a5⟩ := h
  refine ⟨a1, fun q => ?_, by rw [am_hs_i hi hj]; exact a2, fun u v s t h1 h2 h3 h4 => ?_, fun Q hQ hq u v h1 h2 => a5 Q hQ (by rwa [am_hs_i hi hj] at hq) u v h1 h2⟩
  · rw [am_hs_i hi hj, hp] at q
    cases q
  · by_cases c : u = i ∧ v = j
    · obtain ⟨rfl, rfl⟩ := c
      have hst := sP s t h4
      obtain ⟨q, hq, d1, d2⟩ : ∃ q, q < 4 ∧ nI u + am_xf 3 q = nI s ∧ nI v + am_xf 4 q = nI t := by
        unfold am_nb at h3
        rcases h3 with ⟨e1, e2 | e2⟩ | ⟨e1, e2 | e2⟩
        · exact ⟨3, by decide, (am_dx' (by decide) hi hst.1).mpr (by omega), (am_dy' (by decide) hj hst.2).mpr (by omega)⟩
        · exact ⟨2, by decide, (am_dx' (by decide) hi hst.1).mpr (by omega), (am_dy' (by decide) hj hst.2).mpr (by omega)⟩
        · exact ⟨1, by decide, (am_dx' (by decide) hi hst.1).mpr (by omega), (am_dy' (by decide) hj hst.2).mpr (by omega)⟩
        · exact ⟨0, by decide, (am_dx' (by decide) hi hst.1).mpr (by omega), (am_dy' (by decide) hj hst.2).mpr (by omega)⟩
      have h9 := a4 q hq
      rw [d1, d2, am_hs_i hst.1 hst.2] at h9
      exact h9
    · exact a3 u v s t c h1 h2 h3 h4
theorem am_sup_sub {P R : Nat → Nat → Bool} (hP : am_sup P) (h : ∀ u v, R u v = true → P u v = true) : am_sup R := fun u v q => hP u v (h u v q)
theorem am_sz_f {P : Nat → Nat → Bool} (hP : am_sup P) (h : am_sz P = 0) : ∀ x y, P x y = false := fun x y => by
  cases e : P x y with
  | false => rfl
  | true =>
    have := am_sz_lt (R := am_non) hP (fun _ _ q => by cases q) (fun q => by
      have := congrFun (congrFun q x) y
      rw [e] at this
      cases this)
    omega
theorem am_wlk_wh {P R : Nat → Nat → Bool} {i j : Nat} (hi : i < 12) (hj : j < 12) (sP : am_sup P) (hp : P i j = true) (h : am_wlk P (nI i) (nI j) R) : am_sz R = 0 ↔ am_wh P = true := by
  obtain ⟨a1, a2, a3, a4, a5⟩ := h
  rw [am_hs_i hi hj] at a3
  have sR := am_sup_sub sP a1
  rw [am_wh_t]
  constructor
  · intro hz Q hQP ⟨x0, y0, hQ0⟩ hQc
    have hR := am_sz_f sR hz
    have hij : Q i j = true := by
      cases e : Q i j with
      | true => rfl
      | false =>
        exfalso
        have := a5 (fun x y => P x y && !Q x y) (fun x y u v q1 q2 q3 => by
          rw [Bool.and_eq_true, Bool.not_eq_true'] at q1
          cases e2 : Q u v with
          | false =>
            show (P u v && !Q u v) = true
            rw [q3, e2]; rfl
          | true =>
            rw [hQc u v x y e2 (am_nb_sym q2) q1.1] at q1
            cases q1.2) (by rw [am_hs_i hi hj, hp, e]; rfl) x0 y0 (hQP x0 y0 hQ0) (hR x0 y0)
        rw [hQ0] at this
        simp at this
    exact fun x y hxy => a5 Q hQc (by rw [am_hs_i hi hj]; exact hij) x y hxy (hR x y)
  · intro hw
    have := hw (fun x y => P x y && !R x y) (fun x y q => by
      rw [Bool.and_eq_true] at q
      exact q.1) ⟨i, j, by rw [hp, a3]; rfl⟩ (fun x y u v q1 q2 q3 => by
      rw [Bool.and_eq_true, Bool.not_eq_true'] at q1
      show (P u v && !R u v) = true
      rw [q3, a4 x y u v q1.1 q1.2 q2 q3]
      rfl)
    refine am_sz_0 (fun x y => ?_)
    cases e : R x y with
    | false => rfl
    | true =>
      have h9 := this x y (a1 x y e)
      rw [e] at h9
      simp at h9
/-! ===== corners, points, sides of a shape ===== -/
def am_cw (P : Nat → Nat → Bool) (y x : Nat) : Bool := decide (am_b2 (P x y) + am_b2 (am_dn (fun u => P u y) x) + am_b2 (am_dn (fun v => P x v) y) + am_b2 (am_dn (fun u => am_dn (fun v => P u v) y) x) = 3)
theorem am_b2_le (c : Bool) : am_b2 c ≤ 1 := by cases c <;> decide
theorem am_ct13 {f : Nat → Bool} (h0 : f 0 = false) (h12 : f 12 = false) : fb_ct f 13 = fb_ct (fun k => f (k + 1)) 11 := by
  rw [show 13 = 1 + 12 from rfl, fb_ct_split, show 12 = 11 + 1 from rfl, fb_ct_succ, fb_ct_succ]
  have e : fb_ct f 0 = 0 := rfl
  rw [e, h0, show f (1 + 11) = f 12 from rfl, h12]
  simp only [Bool.false_eq_true, if_false, Nat.zero_add, Nat.add_zero]
  exact fb_ct_cong (fun k _ => by rw [Nat.add_comm])
theorem am_sm13 {f : Nat → Nat} (h0 : f 0 = 0) (h12 : f 12 = 0) : fb_sm f 13 = fb_sm (fun k => f (k + 1)) 11 := by
  rw [show 13 = 1 + 12 from rfl, fb_sm_split, show 12 = 11 + 1 from rfl, fb_sm_succ, fb_sm_succ]
  have e : fb_sm f 0 = 0 := rfl
  rw [e, h0, show f (1 + 11) = f 12 from rfl, h12]
  simp only [Nat.zero_add, Nat.add_zero]
  exact fb_sm_cong (fun k _ => by rw [Nat.add_comm])
theorem am_co13 {P : Nat → Nat → Bool} (hP : am_sup P) : fb_sm (fun y => fb_ct (am_cw P y) 13) 13 = am_co P := by
  have x0 : ∀ y, am_cw P y 0 = false := fun y => by
    refine decide_eq_false (fun q => ?_)
    have a := am_b2_le (P 0 y)
    have b := am_b2_le (am_dn (fun v => P 0 v) y)
    have c : am_b2 (am_dn (fun u => P u y) 0) = 0 := rfl
    have d : am_b2 (am_dn (fun u => am_dn (fun v => P u v) y) 0) = 0 := rfl
    omega
  have f12 : ∀ y, P 12 y = false := fun y => am_sup_x hP (Nat.le_refl _)
  have g12 : ∀ x, P x 12 = false := fun y => am_sup_y hP (Nat.le_refl _)
  have x12 : ∀ y, am_cw P y 12 = false := fun y => by
    refine decide_eq_false (fun q => ?_)
    have a : am_b2 (P 12 y) = 0 := by rw [f12]; rfl
    have b : am_b2 (am_dn (fun v => P 12 v) y) = 0 := by
      cases y with
      | zero => rfl
      | succ y => show am_b2 (P 12 y) = 0; rw [f12]; rfl
    have c := am_b2_le (am_dn (fun u => P u y) 12)
    have d := am_b2_le (am_dn (fun u => am_dn (fun v => P u v) y) 12)
    omega
  have y0 : ∀ x, am_cw P 0 x = false := fun x => by
    refine decide_eq_false (fun q => ?_)
    have a := am_b2_le (P x 0)
    have b := am_b2_le (am_dn (fun u => P u 0) x)
    have c : am_b2 (am_dn (fun v => P x v) 0) = 0 := rfl
    have d : am_b2 (am_dn (fun u => am_dn (fun v => P u v) 0) x) = 0 := by
      cases x <;> rfl
    omega
  have y12 : ∀ x, am_cw P 12 x = false := fun x => by
    refine decide_eq_false (fun q => ?_)
    have a : am_b2 (P x 12) = 0 := by rw [g12]; rfl
    have b : am_b2 (am_dn (fun u => P u 12) x) = 0 := by
      cases x with
      | zero => rfl
      | succ x => show am_b2 (P x 12) = 0; rw [g12]; rfl
    have c := am_b2_le (am_dn (fun v => P x v) 12)
    have d := am_b2_le (am_dn (fun u => am_dn (fun v => P u v) 12) x)
    omega
  have z0 : (fun y => fb_ct (am_cw P y) 13) 0 = 0 := fb_ct_zero.mpr (fun k _ => y0 k)
  have z12 : (fun y => fb_ct (am_cw P y) 13) 12 = 0 := fb_ct_zero.mpr (fun k _ => y12 k)
  rw [am_sm13 z0 z12]
  unfold am_co
  refine fb_sm_cong (fun y _ => ?_)
  rw [am_ct13 (x0 _) (x12 _)]
  refine fb_ct_cong (fun x _ => ?_)
  show decide (am_b2 (P (x + 1) (y + 1)) + am_b2 (P x (y + 1)) + am_b2 (P (x + 1) y) + am_b2 (P x y) = 3) = _
  congr 1
  exact propext (by omega)
theorem am_h00 {P : Nat → Nat → Bool} (h : am_sup P) {i j : Nat} (hi : i < 1000) (hj : j < 1000) : am_hs P (nI i) (nI j) = P i j := am_hs_n h (by omega) (by omega)
theorem am_h10 {P : Nat → Nat → Bool} (h : am_sup P) {i j : Nat} (hi : i < 900) (hj : j < 900) : am_hs P (nI i - 1) (nI j) = am_dn (fun u => P u j) i := am_hs_e (j := j + 1) h am_neg1 (by simp) (by omega) (by omega)
theorem am_h01 {P : Nat → Nat → Bool} (h : am_sup P) {i j : Nat} (hi : i < 900) (hj : j < 900) : am_hs P (nI i) (nI j - 1) = am_dn (fun v => P i v) j := am_hs_e (i := i + 1) h (by simp) am_neg1 (by omega) (by omega)
theorem am_h11 {P : Nat → Nat → Bool} (h : am_sup P) {i j : Nat} (hi : i < 900) (hj : j < 900) : am_hs P (nI i - 1) (nI j - 1) = am_dn (fun u => am_dn (fun v => P u v) j) i := am_hs_e h am_neg1 am_neg1 (by omega) (by omega)
def am_ln (u : Bool) (l : Nat) : Nat := if u = true then l else 12 + l
theorem am_kp_ln {u : Bool} {l x y : Nat} (hl : l ≤ 11) : am_kp (am_ln u l) x y = decide ((if u = true then x else y) < l) := by
  unfold am_kp am_ln
  cases u with
  | true => rw [if_pos rfl, if_pos rfl, if_pos (by omega)]
  | false =>
    simp only [Bool.false_eq_true, if_false]
    rw [if_neg (by omega), show 12 + l - 12 = l by omega]
def am_sd (P : Nat → Nat → Bool) (u : Bool) (l : Nat) (v : Bool) : Nat → Nat → Bool := if v = true then am_pf P (am_ln u l) else am_pn P (am_ln u l)
theorem am_sd_at {P : Nat → Nat → Bool} {u v : Bool} {l x y : Nat} (hl : l ≤ 11) : am_sd P u l v x y = (P x y && (decide (l ≤ (if u = true then x else y)) == v)) := by
  unfold am_sd
  have e := am_kp_ln (u := u) (x := x) (y := y) hl
  generalize (if u = true then x else y) = p at e ⊢
  cases v with
  | true =>
    rw [if_pos rfl]
    show (P x y && !am_kp (am_ln u l) x y) = _
    rw [e]
    by_cases c : p < l
    · rw [decide_eq_true c, decide_eq_false (show ¬ l ≤ p by omega)]; rfl
    · rw [decide_eq_false c, decide_eq_true (show l ≤ p by omega)]; rfl
  | false =>
    rw [if_neg (by decide)]
    show (P x y && am_kp (am_ln u l) x y) = _
    rw [e]
    by_cases c : p < l
    · rw [decide_eq_true c, decide_eq_false (show ¬ l ≤ p by omega)]; rfl
    · rw [decide_eq_false c, decide_eq_true (show l ≤ p by omega)]; rfl
theorem am_sd_sup {P : Nat → Nat → Bool} (h : am_sup P) (u : Bool) (l : Nat) (v : Bool) : am_sup (am_sd P u l v) := by
  unfold am_sd
  split
  · exact am_pf_sup h _
  · exact am_pn_sup h _
theorem am_i03 : ((0 : Int32) = 3) = False := by decide
theorem am_i13 : ((1 : Int32) = 3) = False := by decide
theorem am_i23 : ((2 : Int32) = 3) = False := by decide
theorem am_i43 : ((4 : Int32) = 3) = False := by decide
theorem am_hi_ch (P : Nat → Nat → Bool) : am_ch (am_hi P) := by
  unfold am_hi
  split
  · exact ⟨101, by decide, rfl⟩
  · split
    · exact ⟨119, by decide, rfl⟩
    · split
      · exact ⟨99, by decide, rfl⟩
      · split
        · exact ⟨112, by decide, rfl⟩
        · exact ⟨45, by decide, rfl⟩
/-! ===== the best lead, as the reference looks for it ===== -/
theorem am_bb_2 (P : Nat → Nat → Bool) : ∀ n, (am_bb P n).2 ≤ 13 ∧ ((am_bb P n).1 = 0 → (am_bb P n).2 = 13) ∧ ¬ (am_bb P n).1 = 12
  | 0 => ⟨Nat.le_refl _, fun _ => rfl, show ¬ (0 : Nat) = 12 by decide⟩
  | n + 1 => by
    have ih := am_bb_2 P n
    unfold am_bb
    split
    · rename_i c
      have := am_tc_le P (n + 1)
      refine ⟨by show am_tc P (n + 1) ≤ 13; omega, fun q => absurd q (Nat.succ_ne_zero n), fun q => ?_⟩
      have q : n + 1 = 12 := q
      rw [q] at c
      have e : am_hi (am_pn P 12) = 101 := by
        unfold am_hi
        rw [if_pos (am_sz_0 (fun x y => by
          unfold am_pn am_kp
          rw [if_neg (by decide), decide_eq_false (by omega), Bool.and_false]))]
      rw [e] at c
      exact absurd c.1 (by decide)
    · exact ih
theorem am_bb_12 (P : Nat → Nat → Bool) : am_bb P 12 = am_bb P 11 := by
  have h := (am_bb_2 P 12).2.2
  have e : am_bb P 12 = if am_hi (am_pn P 12) = 45 ∧ am_hi (am_pf P 12) = 45 ∧ am_tc P 12 < (am_bb P 11).2 then (12, am_tc P 12) else am_bb P 11 := rfl
  by_cases c : am_hi (am_pn P 12) = 45 ∧ am_hi (am_pf P 12) = 45 ∧ am_tc P 12 < (am_bb P 11).2
  · rw [if_pos c] at e
    rw [e] at h
    exact absurd rfl h
  · rw [e, if_neg c]
def am_bix (q : Nat) : Nat := if q ≤ 11 then q else q + 1
def am_lq (q : Nat) : Nat := if q < 11 then q + 1 else q + 2
noncomputable def am_bq (P : Nat → Nat → Bool) (q : Nat) : Nat × Nat := am_bb P (am_bix q)
theorem am_bq_s (P : Nat → Nat → Bool) (q : Nat) : am_bq P (q + 1) = if am_hi (am_pn P (am_lq q)) = 45 ∧ am_hi (am_pf P (am_lq q)) = 45 ∧ am_tc P (am_lq q) < (am_bq P q).2 then (am_lq q, am_tc P (am_lq q)) else am_bq P q := by
  unfold am_bq
  by_cases h1 : q < 11
  · have e1 : am_bix (q + 1) = q + 1 := if_pos (by omega)
    have e2 : am_bix q = q := if_pos (by omega)
    have e3 : am_lq q = q + 1 := if_pos h1
    rw [e1, e2, e3]
    rfl
  · have e1 : am_bix (q + 1) = q + 1 + 1 := if_neg (by omega)
    have e3 : am_lq q = q + 2 := if_neg h1
    by_cases h2 : q = 11
    · subst h2
      have e2 : am_bix 11 = 11 := if_pos (by omega)
      rw [e1, e2, e3, ← am_bb_12]
      rfl
    · have e2 : am_bix q = q + 1 := if_neg (by omega)
      rw [e1, e2, e3]
      rfl
theorem am_lq_ln {q : Nat} (hq : q < 22) : am_ln (decide (q < 11)) (1 + q % 11) = am_lq q := by
  unfold am_ln am_lq
  by_cases h : q < 11
  · rw [decide_eq_true h, if_pos rfl, if_pos h, Nat.mod_eq_of_lt h]; omega
  · rw [decide_eq_false h, if_neg (by decide), if_neg h]; omega
def am_bk (r : Nat) : Nat := if r < 12 then r - 1 else r - 2
def am_bI (r : Nat) : Int32 := if r = 0 then -1 else nI (am_bk r)
def am_lI (r : Nat × Nat) : Int32 := if r.1 = 0 then 0 else nI r.2
theorem am_bk_lq {q : Nat} : am_bk (am_lq q) = q := by
  unfold am_bk am_lq
  by_cases h : q < 11
  · rw [if_pos h, if_pos (by omega)]; omega
  · rw [if_neg h, if_neg (by omega)]; omega
theorem am_lq_bk {r : Nat} (h0 : ¬ r = 0) (h12 : ¬ r = 12) : am_lq (am_bk r) = r := by
  unfold am_bk am_lq
  by_cases h : r < 12
  · rw [if_pos h, if_pos (by omega)]; omega
  · rw [if_neg h, if_neg (by omega)]; omega
theorem am_sd_lq {P : Nat → Nat → Bool} {q : Nat} (hq : q < 22) (v : Bool) : am_sd P (decide (q < 11)) (1 + q % 11) v = if v = true then am_pf P (am_lq q) else am_pn P (am_lq q) := by
  unfold am_sd
  rw [am_lq_ln hq]
theorem am_rem11 {q : Nat} (hq : q < 22) : nI q - nI q / 11 * 11 = nI (q % 11) := pk_rem (a := q) (d := 11) (by omega) (by decide) (by decide)
theorem am_1p (z : Nat) : (1 : Int32) + nI z = nI (1 + z) := nI_add 1 z
/-! ===== leads and joints ===== -/
theorem am_sm_swap (F : Nat → Nat → Nat) (N : Nat) : ∀ M, fb_sm (fun j => fb_sm (fun i => F i j) N) M = fb_sm (fun i => fb_sm (fun j => F i j) M) N
  | 0 => by
    show 0 = fb_sm (fun i => 0) N
    rw [fb_sm_const]; omega
  | M + 1 => by
    rw [fb_sm_succ, am_sm_swap F N M, ← fb_sm_add]
    exact fb_sm_cong (fun i _ => rfl)
def am_lbH (f : Nat → Int32) (i j : Nat) : Nat := am_lb (am_wa f i (j + 1)) (am_wa f (i + 1) (j + 1))
def am_lbV (f : Nat → Int32) (i j : Nat) : Nat := am_lb (am_wa f (i + 1) j) (am_wa f (i + 1) (j + 1))
theorem am_wa_o (f : Nat → Int32) {i j : Nat} (h : 13 ≤ i ∨ 13 ≤ j) : am_wa f i j = -2 := by
  unfold am_wa
  rw [if_neg (by omega)]
theorem am_lsd2 (f : Nat → Int32) : fb_sm (fun a => fb_sm (fun b => am_lbH f a b + am_lbV f b a) 12) 13 = am_lsd f := by
  have h12 : ∀ a, am_lbH f a 12 = 0 := fun a => by
    unfold am_lbH
    rw [am_wa_o f (Or.inr (by omega)), am_wa_o f (Or.inr (by omega))]
    rfl
  have v12 : ∀ a, am_lbV f 12 a = 0 := fun a => by
    unfold am_lbV
    rw [am_wa_o f (Or.inl (by omega)), am_wa_o f (Or.inl (by omega))]
    rfl
  have e1 : am_lsd f = fb_sm (fun j => fb_sm (fun i => am_lbH f i j) 13) 13 + fb_sm (fun j => fb_sm (fun i => am_lbV f i j) 13) 13 := by
    rw [← fb_sm_add]
    exact fb_sm_cong (fun j _ => by rw [← fb_sm_add]; rfl)
  rw [e1, am_sm_swap (am_lbH f) 13 13, ← fb_sm_add]
  refine fb_sm_cong (fun a _ => ?_)
  show fb_sm (fun b => am_lbH f a b + am_lbV f b a) 12 = fb_sm (fun j => am_lbH f a j) 13 + fb_sm (fun i => am_lbV f i a) 13
  have q1 : fb_sm (fun j => am_lbH f a j) 13 = fb_sm (fun j => am_lbH f a j) 12 + am_lbH f a 12 := rfl
  have q2 : fb_sm (fun i => am_lbV f i a) 13 = fb_sm (fun i => am_lbV f i a) 12 + am_lbV f 12 a := rfl
  rw [fb_sm_add, q1, q2, h12, v12, Nat.add_zero, Nat.add_zero]
theorem am_lb01 (a b : Int32) : am_lb a b = 0 ∨ am_lb a b = 1 := by
  have := am_lb1 a b
  omega
theorem am_3a : ∀ a, a < 5 → (((3 : Int32) ≤ nI a) = (3 ≤ a)) := fun a ha => am_geN (a := 3) (by decide) (by omega)
/-! ===== ranges of cells in the reference ===== -/
theorem am_wok_iv {σ : am_St} (h : am_iv σ) : am_wok (st_f σ) := fun c hc => by
  have := h.1 c hc
  unfold st_f am_cv
  by_cases h0 : σ 0 c 0 = 0
  · exact Or.inl (if_pos h0)
  · by_cases h1 : σ 0 c 0 = 1
    · exact Or.inr (Or.inl (by rw [if_neg h0, if_pos h1]))
    · exact Or.inr (Or.inr ⟨σ 0 c 0 - 2, by omega, by rw [if_neg h0, if_neg h1]⟩)
theorem ms_bo_or (x y : Bool) : ms_bo x ||| ms_bo y = ms_bo (x || y) := by cases x <;> cases y <;> decide
theorem ms_or1 (x : Bool) : ms_bo x ||| 1 = ms_bo true := by cases x <;> decide
theorem ms_or0 (x : Bool) : ms_bo x ||| 0 = ms_bo x := by cases x <;> decide
theorem am_hg_cv (σ : am_St) {c : Nat} (hc : c < 32) : am_hg σ (am_cv c) = decide (2 ≤ c ∧ ¬ σ 3 (c - 2) 0 = 45) := by
  unfold am_cv
  by_cases h0 : c = 0
  · rw [if_pos h0, decide_eq_false (by omega)]
    rfl
  · rw [if_neg h0]
    by_cases h1 : c = 1
    · rw [if_pos h1, decide_eq_false (by omega)]
      rfl
    · rw [if_neg h1, am_hg_n σ (show c - 2 < 30 by omega)]
      exact decide_eq_decide.mpr ⟨fun q => ⟨by omega, q⟩, fun q => q.2⟩
noncomputable def am_pgs (σ : am_St) (g : Nat → Nat) (a d c j i : Nat) : am_St := am_st σ 0 (fun k _ => @ite _ (am_pgp a d c j i k) (Classical.propDecidable _) (g k) (σ 0 k 0))
theorem am_pgs_f (σ : am_St) (g : Nat → Nat) (a d c j i : Nat) : st_f (am_pgs σ g a d c j i) = am_pgf (fun k => am_cv (g k)) (st_f σ) a d c j i := by
  funext k
  show am_cv (@ite _ (am_pgp a d c j i k) (Classical.propDecidable _) (g k) (σ 0 k 0)) = _
  by_cases q : am_pgp a d c j i k
  · rw [if_pos q, am_pgf_p q]
  · rw [if_neg q, am_pgf_n q]; rfl
theorem am_pgs_n {σ : am_St} {g : Nat → Nat} {a d c j i q : Nat} (hq : q ≠ 0) : am_pgs σ g a d c j i q = σ q := am_st_n _ _ hq
theorem am_pgs_32 {σ : am_St} {g : Nat → Nat} {a d c j i k : Nat} (h : am_iv σ) (hg : ∀ k, k < 144 → g k < 32) (hk : k < 144) : am_pgs σ g a d c j i 0 k 0 < 32 := by
  show @ite _ (am_pgp a d c j i k) (Classical.propDecidable _) (g k) (σ 0 k 0) < 32
  by_cases q : am_pgp a d c j i k
  · rw [if_pos q]; exact hg k hk
  · rw [if_neg q]; exact h.1 k hk
theorem am_upn {σ : am_St} : ((if σ 15 4 0 = 0 then 0 else 1 : Int32)) = ms_bo (decide (¬ σ 15 4 0 = 0)) := by
  by_cases h : σ 15 4 0 = 0
  · rw [if_pos h, decide_eq_false (fun q => q h)]; rfl
  · rw [if_neg h, decide_eq_true h]; rfl
