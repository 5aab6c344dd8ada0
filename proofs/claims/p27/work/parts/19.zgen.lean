/-! ===== for the general calls: shapes brought to a corner, turned, laid on a sheet ===== -/
theorem am_any_f {p : Nat → Bool} : ∀ {n : Nat}, am_any p n = false ↔ ∀ k, k < n → p k = false
  | 0 => ⟨fun _ k hk => absurd hk (Nat.not_lt_zero k), fun _ => rfl⟩
  | n + 1 => by
    have h := am_any_f (p := p) (n := n)
    show (am_any p n || p n) = false ↔ _
    rw [Bool.or_eq_false_iff, h]
    constructor
    · intro q k hk
      by_cases e : k = n
      · rw [e]; exact q.2
      · exact q.1 k (by omega)
    · exact fun q => ⟨fun k hk => q k (by omega), q n (by omega)⟩
theorem am_any_t {p : Nat → Bool} {n : Nat} : am_any p n = true ↔ ∃ k, k < n ∧ p k = true := by
  cases h : am_any p n with
  | false => 
    refine ⟨fun q => (by cases q), fun ⟨k, hk, hp⟩ => ?_⟩
    rw [am_any_f.mp h k hk] at hp
    cases hp
  | true =>
    refine ⟨fun _ => ?_, fun _ => rfl⟩
    by_cases q : ∃ k, k < n ∧ p k = true
    · exact q
    · have : am_any p n = false := am_any_f.mpr (fun k hk => by
        cases hp : p k with
        | false => rfl
        | true => exact absurd ⟨k, hk, hp⟩ q)
      rw [this] at h
      cases h
theorem am_rw_0 (P : Nat → Nat → Bool) (y : Nat) : (am_rw P y = 0) = (am_ru P y = false) := by
  apply propext
  unfold am_ru
  rw [am_any_f]
  unfold am_rw
  constructor
  · intro h
    exact am_bn_eq0.mp ((nI_eq (am_rwb P y) (by decide)).mp h)
  · intro h
    rw [am_bn_0 h]
    rfl
theorem am_lst_le (p : Nat → Bool) : ∀ n, am_lst p n ≤ n
  | 0 => Nat.le_refl _
  | n + 1 => by
    show (if p n then n + 1 else am_lst p n) ≤ n + 1
    have := am_lst_le p n
    split <;> omega
theorem am_lst_f {p : Nat → Bool} {n : Nat} (h : p n = false) : am_lst p (n + 1) = am_lst p n := by
  show (if p n then n + 1 else am_lst p n) = _
  rw [h]; rfl
theorem am_lst_t {p : Nat → Bool} {n : Nat} (h : p n = true) : am_lst p (n + 1) = n + 1 := by
  show (if p n then n + 1 else am_lst p n) = _
  rw [h]; rfl
theorem am_fsx_le (p : Nat → Bool) : ∀ n, am_fst p n ≤ n
  | 0 => Nat.le_refl _
  | n + 1 => by
    have := am_fsx_le p n
    show (if am_fst p n < n then am_fst p n else if p n then n else n + 1) ≤ n + 1
    split
    · omega
    · split <;> omega
theorem am_fsx_no (p : Nat → Bool) : ∀ n k, k < am_fst p n → p k = false
  | 0, k, h => absurd h (Nat.not_lt_zero k)
  | n + 1, k, h => by
    have h9 : k < (if am_fst p n < n then am_fst p n else if p n then n else n + 1) := h
    have hl := am_fsx_le p n
    have ih := am_fsx_no p n k
    by_cases h1 : am_fst p n < n
    · rw [if_pos h1] at h9
      exact ih h9
    · rw [if_neg h1] at h9
      by_cases h2 : p n = true
      · rw [if_pos h2] at h9
        exact ih (by omega)
      · rw [if_neg h2] at h9
        by_cases e : k = n
        · rw [e]
          cases hp : p n with
          | false => rfl
          | true => exact absurd hp h2
        · exact ih (by omega)
theorem am_fsx_at (p : Nat → Bool) : ∀ n, am_fst p n < n → p (am_fst p n) = true
  | 0, h => absurd h (Nat.not_lt_zero _)
  | n + 1, h => by
    have e : am_fst p (n + 1) = (if am_fst p n < n then am_fst p n else if p n then n else n + 1) := rfl
    by_cases h1 : am_fst p n < n
    · rw [e, if_pos h1]
      exact am_fsx_at p n h1
    · rw [e, if_neg h1] at h ⊢
      by_cases h2 : p n = true
      · rw [if_pos h2]; exact h2
      · rw [if_neg h2] at h
        omega
/-- the first with p, found upwards: what a loop has seen -/
theorem am_fsx_eq {p : Nat → Bool} {n i : Nat} (hi : i ≤ n) (h0 : ∀ k, k < i → p k = false) (h1 : i = n ∨ p i = true) : am_fst p n = i := by
  have hl := am_fsx_le p n
  by_cases h : am_fst p n < n
  · have ha := am_fsx_at p n h
    by_cases h2 : am_fst p n < i
    · rw [h0 _ h2] at ha
      cases ha
    · rcases h1 with e | e
      · omega
      · by_cases h3 : i < am_fst p n
        · rw [am_fsx_no p n i h3] at e
          cases e
        · omega
  · rcases h1 with e | e
    · omega
    · by_cases h3 : i < n
      · rw [am_fsx_no p n i (by omega)] at e
        cases e
      · omega
theorem am_bitv {a k : Nat} (ha : a < 2 ^ 31) (hk : k < 32) : ((nI a >>> (nI k &&& 31)) &&& 1) = nI (if a.testBit k then 1 else 0) := by
  rw [am_shr ha hk, show (1 : Int32) = nI 1 by rfl, am_and, am_bit1]
noncomputable def am_eqb (P Q : Nat → Nat → Bool) : Bool := @decide (P = Q) (Classical.propDecidable _)
theorem am_rw_ex {P Q : Nat → Nat → Bool} (hP : am_sup P) (hQ : am_sup Q) (h : ∀ y, y < 12 → am_rw P y = am_rw Q y) : P = Q := by
  funext x y
  by_cases hy : y < 12
  · by_cases hx : x < 12
    · exact am_rw_inj (h y hy) x hx
    · rw [am_sup_x hP (by omega), am_sup_x hQ (by omega)]
  · rw [am_sup_y hP (by omega), am_sup_y hQ (by omega)]
def am_hR (d : Nat) (R : Nat → Nat) (k : Nat) : Nat := if am_Ht k + 15 < d then 0 else if am_Ht k ≤ d + 15 then 0 else R k
def am_hF (d : Nat) (R F : Nat → Nat) (k : Nat) : Nat := if am_Ht k + 15 < d then 0 else if am_Ht k ≤ d + 15 then F k + R k else F k
def am_hN (d : Nat) (R : Nat → Nat) (k : Nat) : Nat := if am_Ht k + 15 < d then 0 else if am_Ht k ≤ d + 15 then R k else 0
def am_prs (M P : Nat → Nat → Bool) (i : Nat) : Nat → Nat → Bool := fun x y => if y < i then M x y else P x y
theorem am_prs_sup {M P : Nat → Nat → Bool} (hM : am_sup M) (hP : am_sup P) (i : Nat) : am_sup (am_prs M P i) := fun x y h => by
  unfold am_prs at h
  by_cases hy : y < i
  · rw [if_pos hy] at h; exact hM x y h
  · rw [if_neg hy] at h; exact hP x y h
theorem am_prs_rw (M P : Nat → Nat → Bool) (i y : Nat) : am_rw (am_prs M P i) y = if y < i then am_rw M y else am_rw P y := by
  unfold am_rw am_prs
  by_cases hy : y < i
  · simp only [hy, if_true]
  · simp only [hy, if_false]
theorem am_prs_s (M P : Nat → Nat → Bool) (i : Nat) {v : Int32} (hv : v = am_rw M i) : upd (am_rw (am_prs M P i)) i v = am_rw (am_prs M P (i + 1)) := by
  funext y
  rw [am_prs_rw]
  by_cases hy : y = i
  · subst hy
    simp [upd, hv]
  · simp only [upd, hy, if_false]
    rw [am_prs_rw]
    by_cases h9 : y < i
    · rw [if_pos h9, if_pos (by omega)]
    · rw [if_neg h9, if_neg (by omega)]
theorem am_prs_0 (M P : Nat → Nat → Bool) : am_prs M P 0 = P := by funext x y; simp [am_prs]
theorem am_prs_N {M P : Nat → Nat → Bool} (hM : am_sup M) (hP : am_sup P) : am_prs M P 12 = M := by
  funext x y
  unfold am_prs
  by_cases hy : y < 12
  · rw [if_pos hy]
  · rw [if_neg hy, am_sup_y hM (by omega), am_sup_y hP (by omega)]
theorem am_mv_sup {P : Nat → Nat → Bool} (h : am_sup P) : am_sup (am_mv P) := fun x y q => by
  have := h _ _ q
  omega
theorem am_bn_shr {b : Nat → Bool} (h : ∀ x, 12 ≤ x → b x = false) (k : Nat) : am_bn b 12 >>> k = am_bn (fun x => b (x + k)) 12 := by
  apply Nat.eq_of_testBit_eq
  intro i
  rw [Nat.testBit_shiftRight, am_bn_bit, am_bn_bit, Nat.add_comm k i]
  by_cases h1 : i + k < 12
  · simp [h1, show i < 12 by omega]
  · rw [h (i + k) (by omega)]
    simp
theorem am_mv_rw {P : Nat → Nat → Bool} (h : am_sup P) (y : Nat) : am_rw P (y + am_lw P) >>> (nI (am_lf P) &&& 31) = am_rw (am_mv P) y := by
  have hl : am_lf P ≤ 12 := am_fsx_le _ 12
  unfold am_rw
  rw [am_shr (am_rwb P _) (by omega), am_bn_shr (fun x hx => am_sup_x h hx)]
  rfl
/-- what is turned so far -/
def am_tnk (P : Nat → Nat → Bool) (h k : Nat) : Nat → Nat → Bool := fun u v => decide (u < h) && P v (h - 1 - u) && decide (12 * (h - 1 - u) + v < k)
theorem am_tnk_0 (P : Nat → Nat → Bool) (h : Nat) : am_tnk P h 0 = am_non := by
  funext u v
  simp [am_tnk, am_non]
theorem am_tnk_N {P : Nat → Nat → Bool} (hP : am_sup P) : am_tnk P (am_ht P) (12 * am_ht P) = am_tn P := by
  funext u v
  unfold am_tnk am_tn
  by_cases hu : u < am_ht P
  · cases hp : P v (am_ht P - 1 - u) with
    | false => simp
    | true =>
      have := hP _ _ hp
      have e : 12 * (am_ht P - 1 - u) + v < 12 * am_ht P := by omega
      simp [e]
  · simp [hu]
theorem am_tnk_s {P : Nat → Nat → Bool} (hP : am_sup P) {h x y : Nat} (hx : x < 12) (hy : y < h) : am_tnk P h (12 * y + x + 1) = if P x y = true then am_add (am_tnk P h (12 * y + x)) (h - 1 - y) x else am_tnk P h (12 * y + x) := by
  funext u v
  have key : am_tnk P h (12 * y + x + 1) u v = if P x y = true ∧ u = h - 1 - y ∧ v = x then true else am_tnk P h (12 * y + x) u v := by
    unfold am_tnk
    by_cases hu : u < h
    · by_cases e : h - 1 - u = y ∧ v = x
      · obtain ⟨e1, rfl⟩ := e
        subst e1
        by_cases hp : P v (h - 1 - u) = true
        · rw [if_pos ⟨hp, by omega, rfl⟩]
          simp [hu, hp]
        · rw [if_neg (fun q => hp q.1)]
          simp [hp]
      · rw [if_neg (fun q => e ⟨by omega, q.2.2⟩)]
        cases hp : P v (h - 1 - u) with
        | false => simp
        | true =>
          have hv := hP _ _ hp
          have e9 : (12 * (h - 1 - u) + v < 12 * y + x + 1) = (12 * (h - 1 - u) + v < 12 * y + x) := propext ⟨fun q => by
            have : ¬ (h - 1 - u = y ∧ v = x) := e
            omega, fun q => by omega⟩
          simp only [e9]
    · rw [if_neg (fun q => hu (by omega))]
      simp [hu]
  rw [key]
  by_cases hp : P x y = true
  · rw [if_pos hp]
    unfold am_add
    simp [hp]
  · rw [if_neg hp, if_neg (fun q => hp q.1)]
theorem am_ht_le (P : Nat → Nat → Bool) : am_ht P ≤ 12 := am_lst_le _ 12
theorem am_wd_le (P : Nat → Nat → Bool) : am_wd P ≤ 12 := am_lst_le _ 12
theorem am_tnk_sup {P : Nat → Nat → Bool} (hP : am_sup P) {h : Nat} (hh : h ≤ 12) (k : Nat) : am_sup (am_tnk P h k) := fun u v q => by
  unfold am_tnk at q
  simp only [Bool.and_eq_true, decide_eq_true_eq] at q
  have := hP _ _ q.1.2
  omega
theorem am_tn_sup {P : Nat → Nat → Bool} (hP : am_sup P) : am_sup (am_tn P) := by
  rw [← am_tnk_N hP]
  exact am_tnk_sup hP (am_ht_le P) _
/-! a shape P laid with its corner at (a, l) on a sheet with U used -/
def am_tch (U P : Nat → Nat → Bool) (a l y : Nat) : Bool := am_any (fun x => U x y && (decide (a ≤ x) && P (x - a) (y - l))) 12
noncomputable def am_fre (U P : Nat → Nat → Bool) (a l h : Nat) : Bool := @decide (∀ y, l ≤ y → y < h → am_tch U P a l y = false) (Classical.propDecidable _)
theorem am_shl_bn (b : Nat → Bool) (a N : Nat) : am_bn b N <<< a = am_bn (fun x => decide (a ≤ x) && b (x - a)) (N + a) := by
  apply Nat.eq_of_testBit_eq
  intro i
  rw [Nat.testBit_shiftLeft, am_bn_bit, am_bn_bit]
  by_cases h : a ≤ i
  · by_cases h2 : i - a < N
    · simp [h, h2, show i < N + a by omega]
    · simp [h, h2, show ¬ i < N + a by omega]
  · simp [h]
theorem am_and_bn2 (b c : Nat → Bool) (n m : Nat) : am_bn b n &&& am_bn c (n + m) = am_bn (fun i => b i && c i) n := by
  apply Nat.eq_of_testBit_eq
  intro i
  rw [Nat.testBit_and, am_bn_bit, am_bn_bit, am_bn_bit]
  by_cases h : i < n
  · simp [h, show i < n + m by omega]
  · simp [h]
theorem am_tch_rw (U P : Nat → Nat → Bool) {a l y : Nat} (ha : a ≤ 12) (hy : l ≤ y) : (am_rw U y &&& am_rw P (y - l) <<< (nI a &&& 31) = 0) = (am_tch U P a l y = false) := by
  apply propext
  unfold am_tch
  rw [am_any_f]
  unfold am_rw
  rw [am_shl _ (by omega), am_and, am_shl_bn, am_and_bn2]
  constructor
  · intro h
    exact am_bn_eq0.mp ((nI_eq (Nat.lt_trans (am_bn_lt _ 12) (by decide)) (by decide)).mp h)
  · intro h
    rw [am_bn_0 h]
    rfl
/-- used after a shape was laid -/
def am_usd (U P : Nat → Nat → Bool) (a l : Nat) : Nat → Nat → Bool := fun x y => U x y || (decide (a ≤ x) && (decide (l ≤ y) && P (x - a) (y - l)))
theorem am_usd_sup {U P : Nat → Nat → Bool} {a l : Nat} (hU : am_sup U) (hf : ∀ x y, P x y = true → x + a < 12 ∧ y + l < 12) : am_sup (am_usd U P a l) := fun x y h => by
  unfold am_usd at h
  simp only [Bool.or_eq_true, Bool.and_eq_true, decide_eq_true_eq] at h
  rcases h with h | ⟨h1, h2, h3⟩
  · exact hU x y h
  · have := hf _ _ h3
    omega
theorem am_usd_rw {U P : Nat → Nat → Bool} {a l y : Nat} (ha : a ≤ 12) (hy : l ≤ y) (hf : ∀ x y, P x y = true → x + a < 12 ∧ y + l < 12) : am_rw U y ||| am_rw P (y - l) <<< (nI a &&& 31) = am_rw (am_usd U P a l) y := by
  unfold am_rw
  rw [am_shl _ (by omega), am_or]
  congr 1
  apply Nat.eq_of_testBit_eq
  intro i
  rw [Nat.testBit_or, am_bn_bit, am_shl_bn, am_bn_bit, am_bn_bit]
  unfold am_usd
  by_cases h : i < 12
  · simp [h, show i < 12 + a by omega, hy]
  · cases hp : P (i - a) (y - l) with
    | false => simp [h, hp]
    | true =>
      have := hf _ _ hp
      by_cases h2 : a ≤ i
      · omega
      · simp [h, h2]
/-- the first place, row by row, at which a shape is free on a sheet w by h; 144: none -/
noncomputable def am_plp (U P : Nat → Nat → Bool) (w h : Nat) (k : Nat) : Bool := decide (k / 12 + am_ht P ≤ h) && (decide (k % 12 + am_wd P ≤ w) && am_fre U P (k % 12) (k / 12) h)
noncomputable def am_plc (U P : Nat → Nat → Bool) (w h : Nat) : Nat := am_fst (am_plp U P w h) 144
theorem am_div12 : ∀ {k : Nat}, k < 144 → nI k / 12 = nI (k / 12) := by
  have : ∀ k, k < 144 → nI k / 12 = nI (k / 12) := by decide +kernel
  exact fun {k} h => this k h
theorem am_dle : ∀ {a b c : Nat}, a ≤ 12 → b ≤ 12 → c ≤ 12 → (nI c ≤ nI a - nI b) = (c + b ≤ a) := by
  have : ∀ a, a < 13 → ∀ b, b < 13 → ∀ c, c < 13 → decide (nI c ≤ nI a - nI b) = decide (c + b ≤ a) := by decide +kernel
  intro a b c ha hb hc
  exact propext (decide_eq_decide.mp (this a (by omega) b (by omega) c (by omega)))
theorem am_htd : ∀ d, d < 701 → ∀ k, k < 4 → (decide (nI d - am_xf 2 k ≤ 15) = decide (¬ am_Ht k + 15 < d)) ∧ (decide (-15 ≤ nI d - am_xf 2 k) = decide (am_Ht k ≤ d + 15)) := by decide +kernel
theorem am_htd1 {d k : Nat} (hd : d ≤ 700) (hk : k < 4) : (nI d - am_xf 2 k ≤ 15) = ¬ am_Ht k + 15 < d := propext (decide_eq_decide.mp (am_htd d (by omega) k hk).1)
theorem am_htd2 {d k : Nat} (hd : d ≤ 700) (hk : k < 4) : (-15 ≤ nI d - am_xf 2 k) = (am_Ht k ≤ d + 15) := propext (decide_eq_decide.mp (am_htd d (by omega) k hk).2)
theorem am_ne_oo {E : am_E} {t r : Nat} {c d : Nat} {a b : List Value} (h1 : E t = some (.inr (c, a))) (h2 : E r = some (.inr (d, b))) (h : c ≠ d) : t ≠ r := by
  intro e
  subst e
  rw [h1] at h2
  cases h2
  exact h rfl
theorem am_ne_aa {E : am_E} {t r : Nat} {c d : Nat} {a b : vp_A} (h1 : E t = some (.inl (c, a))) (h2 : E r = some (.inl (d, b))) (h : c ≠ d) : t ≠ r := by
  intro e
  subst e
  rw [h1] at h2
  cases h2
  exact h rfl
theorem am_pro_same {A B : Nat → Int32} {i : Nat} (h : A i = B i) : am_pro A B (i + 1) = am_pro A B i := by
  funext k
  unfold am_pro
  by_cases e : k = i
  · subst e
    rw [if_pos (Nat.lt_succ_self k), if_neg (Nat.lt_irrefl k), h]
  · by_cases h9 : k < i
    · rw [if_pos h9, if_pos (by omega)]
    · rw [if_neg h9, if_neg (by omega)]
theorem am_eqb_t {P Q : Nat → Nat → Bool} (h : P = Q) : am_eqb P Q = true := @decide_eq_true _ (Classical.propDecidable _) h
theorem am_eqb_f {P Q : Nat → Nat → Bool} (h : ¬ P = Q) : am_eqb P Q = false := @decide_eq_false _ (Classical.propDecidable _) h
theorem am_fre_t {U P : Nat → Nat → Bool} {a l h : Nat} (q : ∀ y, l ≤ y → y < h → am_tch U P a l y = false) : am_fre U P a l h = true := @decide_eq_true _ (Classical.propDecidable _) q
theorem am_fre_f {U P : Nat → Nat → Bool} {a l h : Nat} (q : ¬ ∀ y, l ≤ y → y < h → am_tch U P a l y = false) : am_fre U P a l h = false := @decide_eq_false _ (Classical.propDecidable _) q
theorem am_m1i (i : Nat) : nI (i + 1) + -1 = nI i := (Int32.sub_eq_add_neg _ _).symm.trans (am_kp1 i)
/-! general answers of the calls -/
def am_ci (x y : Int32) : Nat := 12 * y.toNatClampNeg + x.toNatClampNeg
def q_hit (σ : am_St) (x y : Int32) : am_R := if am_insb x y = true then (if σ 15 4 0 = 0 then r_x x_UO σ else if 2 ≤ σ 0 (am_ci x y) 0 ∧ σ 3 (σ 0 (am_ci x y) 0 - 2) 0 = 108 then r_i 1 (am_st1 σ 3 (σ 0 (am_ci x y) 0 - 2) 98) else r_i 0 σ) else r_x x_IA σ
theorem am_at_cv {σ : am_St} {i j : Nat} (hi : i < 12) (hj : j < 12) : am_at (st_f σ) (nI i) (nI j) = am_cv (σ 0 (12 * j + i) 0) := by
  rw [am_at_n (by omega) (by omega)]
  unfold am_wa
  rw [if_pos (by omega), show 12 * (j + 1 - 1) + (i + 1 - 1) = 12 * j + i by omega]
  rfl
def am_gl1 (σ : am_St) (k : Nat) : Bool := decide (2 ≤ σ 0 k 0 ∧ ¬ σ 3 (σ 0 k 0 - 2) 0 = 45)
def am_op1 (σ : am_St) (k : Nat) : Bool := decide (1 ≤ σ 0 k 0)
/-- some place of the range a..d by c..f with p -/
def am_rga (p : Nat → Bool) (a c d f : Nat) : Bool := am_any (fun j => am_any (fun i => p (12 * (c + j) + (a + i))) (d + 1 - a)) (f + 1 - c)
/-! a range of cells, written row by row -/
def am_pgp (a d c j i k : Nat) : Prop := a ≤ k % 12 ∧ k % 12 ≤ d ∧ c ≤ k / 12 ∧ (k / 12 < c + j ∨ (k / 12 = c + j ∧ k % 12 < a + i)) ∧ k < 144
noncomputable def am_pgf (A B : Nat → Int32) (a d c j i : Nat) : Nat → Int32 := fun k => @ite _ (am_pgp a d c j i k) (Classical.propDecidable _) (A k) (B k)
theorem am_pgf_p {A B : Nat → Int32} {a d c j i k : Nat} (h : am_pgp a d c j i k) : am_pgf A B a d c j i k = A k := by unfold am_pgf; rw [if_pos h]
theorem am_pgf_n {A B : Nat → Int32} {a d c j i k : Nat} (h : ¬ am_pgp a d c j i k) : am_pgf A B a d c j i k = B k := by unfold am_pgf; rw [if_neg h]
theorem am_pgf_cg {A B : Nat → Int32} {a d c j i j' i' : Nat} (h : ∀ k, am_pgp a d c j i k ↔ am_pgp a d c j' i' k) : am_pgf A B a d c j i = am_pgf A B a d c j' i' := by
  funext k
  by_cases q : am_pgp a d c j i k
  · rw [am_pgf_p q, am_pgf_p ((h k).mp q)]
  · rw [am_pgf_n q, am_pgf_n (fun r => q ((h k).mpr r))]
theorem am_pgf_0 (A B : Nat → Int32) (a d c : Nat) : am_pgf A B a d c 0 0 = B := by
  funext k
  exact am_pgf_n (fun q => by unfold am_pgp at q; omega)
theorem am_pgf_row {A B : Nat → Int32} {a d c j : Nat} (h : a ≤ d) : am_pgf A B a d c j (d + 1 - a) = am_pgf A B a d c (j + 1) 0 := am_pgf_cg (fun k => by unfold am_pgp; omega)
theorem am_pgf_at {A B : Nat → Int32} {a d c j i : Nat} (hi : a + i < 12) : am_pgf A B a d c j i (12 * (c + j) + (a + i)) = B (12 * (c + j) + (a + i)) := am_pgf_n (fun q => by
  unfold am_pgp at q
  have e1 : (12 * (c + j) + (a + i)) % 12 = a + i := by omega
  have e2 : (12 * (c + j) + (a + i)) / 12 = c + j := by omega
  rw [e1, e2] at q
  omega)
theorem am_pgp_s {a d c j i k : Nat} (hi : a + i ≤ d) (hd : d < 12) (hj : c + j < 12) : am_pgp a d c j (i + 1) k ↔ k = 12 * (c + j) + (a + i) ∨ am_pgp a d c j i k := by
  unfold am_pgp
  constructor
  · intro q
    by_cases e : k = 12 * (c + j) + (a + i)
    · exact Or.inl e
    · exact Or.inr (by omega)
  · intro q
    rcases q with rfl | q
    · have e1 : (12 * (c + j) + (a + i)) % 12 = a + i := by omega
      have e2 : (12 * (c + j) + (a + i)) / 12 = c + j := by omega
      rw [e1, e2]
      omega
    · omega
theorem am_pgf_s {A B : Nat → Int32} {a d c j i : Nat} {v : Int32} (hi : a + i ≤ d) (hd : d < 12) (hj : c + j < 12) (hv : v = A (12 * (c + j) + (a + i))) : upd (am_pgf A B a d c j i) (12 * (c + j) + (a + i)) v = am_pgf A B a d c j (i + 1) := by
  funext k
  by_cases e : k = 12 * (c + j) + (a + i)
  · rw [am_pgf_p ((am_pgp_s hi hd hj).mpr (Or.inl e))]
    simp [upd, e, hv]
  · simp only [upd, e, if_false]
    by_cases q : am_pgp a d c j i k
    · rw [am_pgf_p q, am_pgf_p ((am_pgp_s hi hd hj).mpr (Or.inr q))]
    · rw [am_pgf_n q, am_pgf_n (fun r => ((am_pgp_s hi hd hj).mp r).elim e q)]
theorem am_pgf_same {A B : Nat → Int32} {a d c j i : Nat} (hi : a + i ≤ d) (hd : d < 12) (hj : c + j < 12) (hv : A (12 * (c + j) + (a + i)) = B (12 * (c + j) + (a + i))) : am_pgf A B a d c j (i + 1) = am_pgf A B a d c j i := by
  funext k
  by_cases q : am_pgp a d c j i k
  · rw [am_pgf_p q, am_pgf_p ((am_pgp_s hi hd hj).mpr (Or.inr q))]
  · rw [am_pgf_n q]
    by_cases e : k = 12 * (c + j) + (a + i)
    · rw [am_pgf_p ((am_pgp_s hi hd hj).mpr (Or.inl e)), e, hv]
    · rw [am_pgf_n (fun r => ((am_pgp_s hi hd hj).mp r).elim e q)]
def am_inr (a c d f k : Nat) : Bool := decide (a ≤ k % 12 ∧ k % 12 ≤ d ∧ c ≤ k / 12 ∧ k / 12 ≤ f ∧ k < 144)
theorem am_pgf_end {A B : Nat → Int32} {a d c f : Nat} (hf : c ≤ f) : am_pgf A B a d c (f + 1 - c) 0 = fun k => if am_inr a c d f k = true then A k else B k := by
  funext k
  by_cases q : am_inr a c d f k = true
  · rw [if_pos q]
    have q := of_decide_eq_true q
    exact am_pgf_p (by unfold am_pgp; omega)
  · rw [if_neg q]
    have q : ¬ (a ≤ k % 12 ∧ k % 12 ≤ d ∧ c ≤ k / 12 ∧ k / 12 ≤ f ∧ k < 144) := fun r => q (decide_eq_true r)
    exact am_pgf_n (by unfold am_pgp; omega)
def am_nw (v : Bool) (x : Nat) : Nat := if v = true then (if x = 0 then 1 else x) else 0
def am_opn (σ : am_St) (a c d f : Nat) (v : Bool) : am_St := am_st σ 0 (fun k _ => if am_inr a c d f k = true then am_nw v (σ 0 k 0) else σ 0 k 0)
def am_och (σ : am_St) (v : Bool) (k : Nat) : Bool := decide (¬ am_op1 σ k = v)
def am_ocn (σ : am_St) (a c d f : Nat) (v : Bool) : Nat := fb_sm (fun j => fb_ct (fun i => am_och σ v (12 * (c + j) + (a + i))) (d + 1 - a)) (f + 1 - c)
def q_open (σ : am_St) (l lo r hi : Int32) (v : Bool) : am_R := if am_rngb l lo r hi = true then (if ¬ σ 15 4 0 = 0 ∨ am_rga (am_gl1 σ) l.toNatClampNeg lo.toNatClampNeg r.toNatClampNeg hi.toNatClampNeg = true then r_x x_UO σ else r_i (nI (am_ocn σ l.toNatClampNeg lo.toNatClampNeg r.toNatClampNeg hi.toNatClampNeg v)) (am_opn σ l.toNatClampNeg lo.toNatClampNeg r.toNatClampNeg hi.toNatClampNeg v)) else r_x x_IA σ
def am_lyn (σ : am_St) (p a c d f : Nat) : am_St := am_st σ 0 (fun k _ => if am_inr a c d f k = true then (if σ 0 k 0 = 0 then 0 else p + 2) else σ 0 k 0)
def q_lay (σ : am_St) (p l lo r hi : Int32) : am_R := if am_pcb p = true then (if am_rngb l lo r hi = true then (if ¬ σ 15 4 0 = 0 ∨ ¬ σ 3 p.toNatClampNeg 0 = 45 ∨ am_rga (am_gl1 σ) l.toNatClampNeg lo.toNatClampNeg r.toNatClampNeg hi.toNatClampNeg = true ∨ am_rga (am_op1 σ) l.toNatClampNeg lo.toNatClampNeg r.toNatClampNeg hi.toNatClampNeg = false then r_x x_UO σ else r_i (nI (fb_ct (fun k => decide (st_f (am_lyn σ p.toNatClampNeg l.toNatClampNeg lo.toNatClampNeg r.toNatClampNeg hi.toNatClampNeg) k = p)) 144)) (am_lyn σ p.toNatClampNeg l.toNatClampNeg lo.toNatClampNeg r.toNatClampNeg hi.toNatClampNeg)) else r_x x_IA σ) else r_x x_IO σ
theorem am_cv_2 (x : Nat) (hx : x < 1000) : (am_cv x = -2) = (x = 0) := by
  apply propext
  constructor
  · intro q
    by_cases h0 : x = 0
    · exact h0
    · unfold am_cv at q
      rw [if_neg h0] at q
      by_cases a3 : x = 1
      · rw [if_pos a3] at q
        exact absurd q (by decide)
      · rw [if_neg a3] at q
        exact absurd q (am_m2 (show x - 2 < 1000 by omega))
  · rintro rfl
    rfl
noncomputable def am_spn (σ : am_St) (p : Nat) : am_St := am_st1 (am_st1 (am_st σ 0 (fun k _ => if k < 144 ∧ am_pf (am_shp (st_f σ) (nI p)) (am_bb (am_shp (st_f σ) (nI p)) 23).1 (k % 12) (k / 12) = true then am_fst (fun p => !am_hp (st_f σ) 144 p) 30 + 2 else σ 0 k 0)) 1 (am_fst (fun p => !am_hp (st_f σ) 144 p) 30) (σ 1 p 0)) 2 (am_fst (fun p => !am_hp (st_f σ) 144 p) 30) (σ 2 p 0)
noncomputable def q_split (σ : am_St) (p : Int32) : am_R := if am_pcb p = true then (if ¬ σ 15 4 0 = 0 ∨ ¬ σ 3 p.toNatClampNeg 0 = 45 ∨ (am_bb (am_shp (st_f σ) p) 23).1 = 0 then r_x x_UO σ else if am_fst (fun p => !am_hp (st_f σ) 144 p) 30 < 30 then r_i (nI (am_fst (fun p => !am_hp (st_f σ) 144 p) 30)) (am_spn σ p.toNatClampNeg) else r_x x_IS σ) else r_x x_IO σ
theorem am_bb_le (P : Nat → Nat → Bool) : ∀ n, (am_bb P n).1 ≤ n
  | 0 => Nat.le_refl _
  | n + 1 => by
    have ih := am_bb_le P n
    unfold am_bb
    split
    · exact Nat.le_refl _
    · omega
theorem am_HT_kg {b : Nat} {E E' : am_E} {σ : am_St} {τ : Nat → Nat → Nat → Bool} {w : Nat → Int32} {u : Nat → Bool} (h : am_HT b E σ τ w u) (he : ∀ k, E' (b + k) = E (b + k)) : am_HT b E' σ τ w u := ⟨h.1, h.2.1, h.2.2.1, fun k hk => (he k).trans (h.2.2.2 k hk)⟩
section HSS
variable {b : Nat} {E : am_E} {σ σ' : am_St} {τ : Nat → Nat → Nat → Bool} {w : Nat → Int32} {u : Nat → Bool}
/-- the layers of a pane (c = 2: raw, 3: fixed), its lead years (c = 5) -/
theorem hs_setc (h : am_HT b E σ τ w u) (hi : am_iv σ') {p c q0 : Nat} (hp : p < 30) (hc : (c = 2 ∧ q0 = 6) ∨ (c = 3 ∧ q0 = 7) ∨ (c = 5 ∧ q0 = 8)) (hq : ∀ q, q ≠ q0 → σ' q = σ q) (hj : ∀ t, t ≠ p → σ' q0 t = σ q0 t) : am_HT b (am_u E (b + (18 + 6 * p + c)) (hs_pane b σ' p c)) σ' τ w u := by
  have c6 : c < 6 := by omega
  have hjj : ∀ q t, t ≠ p → σ' q t = σ q t := fun q t ht => by
    by_cases e : q = q0
    · rw [e]; exact hj t ht
    · rw [hq q e]
  refine hs_u (k0 := 18 + 6 * p + c) h hi h.2.1 h.2.2.1 (by
    unfold hsE
    rw [if_neg (by omega), if_pos (by omega), show (18 + 6 * p + c - 18) / 6 = p by omega, show (18 + 6 * p + c - 18) % 6 = c by omega]) (fun k hk hn => ?_)
  unfold hsE
  by_cases h1 : k < 18
  · rw [if_pos h1, if_pos h1]
    by_cases hk0 : k = 0
    · subst hk0
      rw [hs_top_0, hs_top_0, hq 15 (by omega)]
    · exact hs_top_cg (hq 0 (by omega)) (hq 14 (by omega)) (by rw [hq 15 (by omega)]) (by rw [hq 15 (by omega)]) hk0
  · rw [if_neg h1, if_neg h1]
    by_cases h2 : k < 198
    · rw [if_pos h2, if_pos h2]
      by_cases h3 : (k - 18) / 6 = p
      · have h4 : (k - 18) % 6 ≠ c := by omega
        have h5 : (k - 18) % 6 < 6 := by omega
        rw [h3]
        generalize (k - 18) % 6 = d at h4 h5 ⊢
        match d, h5 with
        | 0, _ => show (Sum.inr _ : va_E) = Sum.inr _; rw [hq 1 (by omega), hq 2 (by omega), hq 3 (by omega), hq 4 (by omega), hq 5 (by omega)]
        | 1, _ => rfl
        | 2, _ => show am_c4 (σ' 6 p) = am_c4 (σ 6 p); rw [hq 6 (by omega)]
        | 3, _ => show am_c4 (σ' 7 p) = am_c4 (σ 7 p); rw [hq 7 (by omega)]
        | 4, _ => rfl
        | 5, _ => show am_ywE (st_y σ' p) = am_ywE (st_y σ p); unfold st_y; rw [hq 8 (by omega)]
      · exact hs_pane_cg (fun q a1 a2 => hjj q _ h3) _
    · rw [if_neg h2, if_neg h2]
      exact hs_sheet_cg (fun q a1 a2 => by rw [hq q (by omega)]) _
/-- what is used of a sheet -/
theorem hs_setu (h : am_HT b E σ τ w u) (hi : am_iv σ') {j : Nat} (hp : j < 8) (hq : ∀ q, q ≠ 13 → σ' q = σ q) (hj : ∀ t, t ≠ j → σ' 13 t = σ 13 t) : am_HT b (am_u E (b + (198 + 2 * j + 1)) (am_rwE (st_u σ' j))) σ' τ w u := by
  have hjj : ∀ q t, t ≠ j → σ' q t = σ q t := fun q t ht => by
    by_cases e : q = 13
    · rw [e]; exact hj t ht
    · rw [hq q e]
  refine hs_u (k0 := 198 + 2 * j + 1) h hi h.2.1 h.2.2.1 (by
    unfold hsE
    rw [if_neg (by omega), if_neg (by omega), show (198 + 2 * j + 1 - 198) / 2 = j by omega, show (198 + 2 * j + 1 - 198) % 2 = 1 by omega]
    rfl) (fun k hk hn => ?_)
  unfold hsE
  by_cases h1 : k < 18
  · rw [if_pos h1, if_pos h1]
    by_cases hk0 : k = 0
    · subst hk0
      rw [hs_top_0, hs_top_0, hq 15 (by omega)]
    · exact hs_top_cg (hq 0 (by omega)) (hq 14 (by omega)) (by rw [hq 15 (by omega)]) (by rw [hq 15 (by omega)]) hk0
  · rw [if_neg h1, if_neg h1]
    by_cases h2 : k < 198
    · rw [if_pos h2, if_pos h2]
      exact hs_pane_cg (fun q a1 a2 => by rw [hq q (by omega)]) _
    · rw [if_neg h2, if_neg h2]
      by_cases h3 : (k - 198) / 2 = j
      · have h4 : (k - 198) % 2 = 0 := by omega
        rw [h3, h4]
        show (Sum.inr _ : va_E) = Sum.inr _
        rw [hq 9 (by omega), hq 10 (by omega), hq 11 (by omega), hq 12 (by omega)]
      · exact hs_sheet_cg (fun q a1 a2 => hjj q _ h3) _
end HSS
def q_mend (σ : am_St) (p : Int32) : am_R := if am_pcb p = true then (if σ 3 p.toNatClampNeg 0 = 98 then r_i (nI (σ 15 7 0 + 1)) (am_st1 (am_st (am_st1 σ 3 p.toNatClampNeg 108) 8 (fun t y => if t = p.toNatClampNeg ∧ y = σ 15 3 0 then 1 else σ 8 t y)) 15 7 (σ 15 7 0 + 1)) else r_x x_UO σ) else r_x x_IO σ
theorem am_iv_8 {σ σ' : am_St} (h : am_iv σ) (hq : ∀ q, q ≠ 8 → σ' q = σ q) : am_iv σ' := by
  unfold am_iv
  rw [hq 0 (by omega), hq 1 (by omega), hq 2 (by omega), hq 3 (by omega), hq 4 (by omega), hq 5 (by omega), hq 6 (by omega), hq 7 (by omega), hq 9 (by omega), hq 10 (by omega), hq 11 (by omega), hq 12 (by omega), hq 15 (by omega)]
  exact h
theorem am_iv_157 {σ σ' : am_St} (h : am_iv σ) (hq : ∀ q, q ≠ 15 → σ' q = σ q) (h15 : ∀ i, i < 7 → σ' 15 i 0 = σ 15 i 0) : am_iv σ' := by
  unfold am_iv
  rw [hq 0 (by omega), hq 1 (by omega), hq 2 (by omega), hq 3 (by omega), hq 4 (by omega), hq 5 (by omega), hq 6 (by omega), hq 7 (by omega), hq 9 (by omega), hq 10 (by omega), hq 11 (by omega), hq 12 (by omega), h15 0 (by omega), h15 1 (by omega), h15 2 (by omega), h15 3 (by omega), h15 4 (by omega), h15 5 (by omega), h15 6 (by omega)]
  exact h
def am_tku (σ : am_St) (j : Nat) (P : Nat → Nat → Bool) (k : Nat) : am_St := am_st σ 13 (fun t c => if t = j then (if am_usd (st_u σ j) P (k % 12) (k / 12) (c % 12) (c / 12) = true then 1 else 0) else σ 13 t c)
def am_tks (σ : am_St) (j : Nat) (P : Nat → Nat → Bool) (k : Nat) : am_St := am_st1 (am_tku σ j P k) 15 8 (σ 15 8 0 + am_sz P)
theorem am_tku_u {σ : am_St} {j : Nat} {P : Nat → Nat → Bool} {k : Nat} (hf : ∀ x y, P x y = true → x + k % 12 < 12 ∧ y + k / 12 < 12) : st_u (am_tku σ j P k) j = am_usd (st_u σ j) P (k % 12) (k / 12) := by
  have hs := am_usd_sup (st_u_sup σ j) hf
  funext x y
  show decide (x < 12 ∧ y < 12 ∧ (if j = j then (if am_usd (st_u σ j) P (k % 12) (k / 12) ((12 * y + x) % 12) ((12 * y + x) / 12) = true then 1 else 0) else σ 13 j (12 * y + x)) = 1) = _
  rw [if_pos rfl]
  by_cases hx : x < 12
  · rw [show (12 * y + x) % 12 = x by omega, show (12 * y + x) / 12 = y by omega]
    cases hu : am_usd (st_u σ j) P (k % 12) (k / 12) x y with
    | true =>
      have := hs x y hu
      exact decide_eq_true ⟨hx, this.2, rfl⟩
    | false => exact decide_eq_false (fun q => absurd q.2.2 (by decide))
  · have e := am_sup_x hs (x := x) (y := y) (Nat.le_of_not_lt hx)
    refine Eq.trans ?_ e.symm
    exact decide_eq_false (fun q => hx q.1)
theorem am_iv_13 {σ σ' : am_St} (h : am_iv σ) (hq : ∀ q, q ≠ 13 → σ' q = σ q) : am_iv σ' := by
  unfold am_iv
  rw [hq 0 (by omega), hq 1 (by omega), hq 2 (by omega), hq 3 (by omega), hq 4 (by omega), hq 5 (by omega), hq 6 (by omega), hq 7 (by omega), hq 9 (by omega), hq 10 (by omega), hq 11 (by omega), hq 12 (by omega), hq 15 (by omega)]
  exact h
theorem am_iv_158 {σ σ' : am_St} (h : am_iv σ) (hq : ∀ q, q ≠ 15 → σ' q = σ q) (h15 : ∀ i, i < 7 → σ' 15 i = σ 15 i) : am_iv σ' := am_iv_157 h hq (fun i hi => by rw [h15 i hi])
