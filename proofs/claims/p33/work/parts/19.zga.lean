/-! ===== for the general calls: shapes brought to a corner, turned, laid on a sheet ===== -/
theorem am_any_f {p : Nat → Bool} : ∀ {n : Nat}, am_any p n = false ↔ ∀ k, k < n → p k = false
  | 0 => ⟨fun _ k hk => absurd hk (Nat.not_lt_zero k), fun _ => rfl⟩
  | n + 1 => by
    have h := am_any_f (p := p) (n := n)
    show (am_any p n || p n) = false ↔ _
    rw [Bool.or_eq_false_iff, h]
    constructor
    · intro q k hk
      by_cases e : k = n
      · rw [e]; exact q.2
      · exact q.1 k (by omega)
    · exact fun q => ⟨fun k hk => q k (by omega), q n (by omega)⟩
theorem am_any_t {p : Nat → Bool} {n : Nat} : am_any p n = true ↔ ∃ k, k < n ∧ p k = true := by
  cases h : am_any p n with
  | false => 
    refine ⟨fun q => (by cases q), fun ⟨k, hk, hp⟩ => ?_⟩
    rw [am_any_f.mp h k hk] at hp
    cases hp
  | true =>
    refine ⟨fun _ => ?_, fun _ => rfl⟩
    by_cases q : ∃ k, k < n ∧ p k = true
    · exact q
    · have : am_any p n = false := am_any_f.mpr (fun k hk => by
        cases hp : p k with
        | false => rfl
        | true => exact absurd ⟨k, hk, hp⟩ q)
      rw [this] at h
      cases h
theorem am_rw_0 (P : Nat → Nat → Bool) (y : Nat) : (am_rw P y = 0) = (am_ru P y = false) := by
  apply propext
  unfold am_ru
  rw [am_any_f]
  unfold am_rw
  constructor
  · intro h
    exact am_bn_eq0.mp ((nI_eq (am_rwb P y) (by decide)).mp h)
  · intro h
    rw [am_bn_0 h]
    rfl
theorem am_lst_le (p : Nat → Bool) : ∀ n, am_lst p n ≤ n
  | 0 => Nat.le_refl _
  | n + 1 => by
    show (if p n then n + 1 else am_lst p n) ≤ n + 1
    have := am_lst_le p n
    split <;> omega
theorem am_lst_f {p : Nat → Bool} {n : Nat} (h : p n = false) : am_lst p (n + 1) = am_lst p n := by
  show (if p n then n + 1 else am_lst p n) = _
  rw [h]; rfl
theorem am_lst_t {p : Nat → Bool} {n : Nat} (h : p n = true) : am_lst p (n + 1) = n + 1 := by
  show (if p n then n + 1 else am_lst p n) = _
  rw [h]; rfl
theorem am_fsx_le (p : Nat → Bool) : ∀ n, am_fst p n ≤ n
  | 0 => Nat.le_refl _
  | n + 1 => by
    have := am_fsx_le p n
    show (if am_fst p n < n then am_fst p n else if p n then n else n + 1) ≤ n + 1
    split
    · omega
    · split <;> omega
theorem am_fsx_no (p : Nat → Bool) : ∀ n k, k < am_fst p n → p k = false
  | 0, k, h => absurd h (Nat.not_lt_zero k)
  | n + 1, k, h => by
    have h9 : k < (if am_fst p n < n then am_fst p n else if p n then n else n + 1) := h
    have hl := am_fsx_le p n
    have ih := am_fsx_no p n k
    by_cases h1 : am_fst p n < n
    · rw [if_pos h1] at h9
      exact ih h9
    · rw [if_neg h1] at h9
      by_cases h2 : p n = true
      · rw [if_pos h2] at h9
        exact ih (by omega)
      · rw [if_neg h2] at h9
        by_cases e : k = n
        · rw [e]
          cases hp : p n with
          | false => rfl
          | true => exact absurd hp h2
        · exact ih (by omega)
theorem am_fsx_at (p : Nat → Bool) : ∀ n, am_fst p n < n → p (am_fst p n) = true
  | 0, h => absurd h (Nat.not_lt_zero _)
  | n + 1, h => by
    have e : am_fst p (n + 1) = (if am_fst p n < n then am_fst p n else if p n then n else n + 1) := rfl
    by_cases h1 : am_fst p n < n
    · rw [e, if_pos h1]
      exact am_fsx_at p n h1
    · rw [e, if_neg h1] at h ⊢
      by_cases h2 : p n = true
      · rw [if_pos h2]; exact h2
      · rw [if_neg h2] at h
        omega
/-- the first with p, found upwards: what a loop has seen -/
theorem am_fsx_eq {p : Nat → Bool} {n i : Nat} (hi : i ≤ n) (h0 : ∀ k, k < i → p k = false) (h1 : i = n ∨ p i = true) : am_fst p n = i := by
  have hl := am_fsx_le p n
  by_cases h : am_fst p n < n
  · have ha := am_fsx_at p n h
    by_cases h2 : am_fst p n < i
    · rw [h0 _ h2] at ha
      cases ha
    · rcases h1 with e | e
      · omega
      · by_cases h3 : i < am_fst p n
        · rw [am_fsx_no p n i h3] at e
          cases e
        · omega
  · rcases h1 with e | e
    · omega
    · by_cases h3 : i < n
      · rw [am_fsx_no p n i (by omega)] at e
        cases e
      · omega
theorem am_bitv {a k : Nat} (ha : a < 2 ^ 31) (hk : k < 32) : ((nI a >>> (nI k &&& 31)) &&& 1) = nI (if a.testBit k then 1 else 0) := by
  rw [am_shr ha hk, show (1 : Int32) = nI 1 by rfl, am_and, am_bit1]
noncomputable def am_eqb (P Q : Nat → Nat → Bool) : Bool := @decide (P = Q) (Classical.propDecidable _)
theorem am_rw_ex {P Q : Nat → Nat → Bool} (hP : am_sup P) (hQ : am_sup Q) (h : ∀ y, y < 12 → am_rw P y = am_rw Q y) : P = Q := by
  funext x y
  by_cases hy : y < 12
  · by_cases hx : x < 12
    · exact am_rw_inj (h y hy) x hx
    · rw [am_sup_x hP (by omega), am_sup_x hQ (by omega)]
  · rw [am_sup_y hP (by omega), am_sup_y hQ (by omega)]
def am_hR (d : Nat) (R : Nat → Nat) (k : Nat) : Nat := if am_Ht k + 15 < d then 0 else if am_Ht k ≤ d + 15 then 0 else R k
def am_hF (d : Nat) (R F : Nat → Nat) (k : Nat) : Nat := if am_Ht k + 15 < d then 0 else if am_Ht k ≤ d + 15 then F k + R k else F k
def am_hN (d : Nat) (R : Nat → Nat) (k : Nat) : Nat := if am_Ht k + 15 < d then 0 else if am_Ht k ≤ d + 15 then R k else 0
def am_prs (M P : Nat → Nat → Bool) (i : Nat) : Nat → Nat → Bool := fun x y => if y < i then M x y else P x y
theorem am_prs_sup {M P : Nat → Nat → Bool} (hM : am_sup M) (hP : am_sup P) (i : Nat) : am_sup (am_prs M P i) := fun x y h => by
  unfold am_prs at h
  by_cases hy : y < i
  · rw [if_pos hy] at h; exact hM x y h
  · rw [if_neg hy] at h; exact hP x y h
theorem am_prs_rw (M P : Nat → Nat → Bool) (i y : Nat) : am_rw (am_prs M P i) y = if y < i then am_rw M y else am_rw P y := by
  unfold am_rw am_prs
  by_cases hy : y < i
  · simp only [hy, if_true]
  · simp only [hy, if_false]
theorem am_prs_s (M P : Nat → Nat → Bool) (i : Nat) {v : Int32} (hv : v = am_rw M i) : upd (am_rw (am_prs M P i)) i v = am_rw (am_prs M P (i + 1)) := by
  funext y
  rw [am_prs_rw]
  by_cases hy : y = i
  · subst hy
    simp [upd, hv]
  · simp only [upd, hy, if_false]
    rw [am_prs_rw]
    by_cases h9 : y < i
    · rw [if_pos h9, if_pos (by omega)]
    · rw [if_neg h9, if_neg (by omega)]
theorem am_prs_0 (M P : Nat → Nat → Bool) : am_prs M P 0 = P := by funext x y; simp [am_prs]
theorem am_prs_N {M P : Nat → Nat → Bool} (hM : am_sup M) (hP : am_sup P) : am_prs M P 12 = M := by
  funext x y
  unfold am_prs
  by_cases hy : y < 12
  · rw [if_pos hy]
  · rw [if_neg hy, am_sup_y hM (by omega), am_sup_y hP (by omega)]
theorem am_mv_sup {P : Nat → Nat → Bool} (h : am_sup P) : am_sup (am_mv P) := fun x y q => by
  have := h _ _ q
  omega
theorem am_bn_shr {b : Nat → Bool} (h : ∀ x, 12 ≤ x → b x = false) (k : Nat) : am_bn b 12 >>> k = am_bn (fun x => b (x + k)) 12 := by
  apply Nat.eq_of_testBit_eq
  intro i
  rw [Nat.testBit_shiftRight, am_bn_bit, am_bn_bit, Nat.add_comm k i]
  by_cases h1 : i + k < 12
  · simp [h1, show i < 12 by omega]
  · rw [h (i + k) (by omega)]
    simp
theorem am_mv_rw {P : Nat → Nat → Bool} (h : am_sup P) (y : Nat) : am_rw P (y + am_lw P) >>> (nI (am_lf P) &&& 31) = am_rw (am_mv P) y := by
  have hl : am_lf P ≤ 12 := am_fsx_le _ 12
  unfold am_rw
  rw [am_shr (am_rwb P _) (by omega), am_bn_shr (fun x hx => am_sup_x h hx)]
  rfl
/-- what is turned so far -/
def am_tnk (P : Nat → Nat → Bool) (h k : Nat) : Nat → Nat → Bool := fun u v => decide (u < h) && P v (h - 1 - u) && decide (12 * (h - 1 - u) + v < k)
theorem am_tnk_0 (P : Nat → Nat → Bool) (h : Nat) : am_tnk P h 0 = am_non := by
  funext u v
  simp [am_tnk, am_non]
theorem am_tnk_N {P : Nat → Nat → Bool} (hP : am_sup P) : am_tnk P (am_ht P) (12 * am_ht P) = am_tn P := by
  funext u v
  unfold am_tnk am_tn
  by_cases hu : u < am_ht P
  · cases hp : P v (am_ht P - 1 - u) with
    | false => simp
    | true =>
      have := hP _ _ hp
      have e : 12 * (am_ht P - 1 - u) + v < 12 * am_ht P := by omega
      simp [e]
  · simp [hu]
theorem am_tnk_s {P : Nat → Nat → Bool} (hP : am_sup P) {h x y : Nat} (hx : x < 12) (hy : y < h) : am_tnk P h (12 * y + x + 1) = if P x y = true then am_add (am_tnk P h (12 * y + x)) (h - 1 - y) x else am_tnk P h (12 * y + x) := by
  funext u v
  have key : am_tnk P h (12 * y + x + 1) u v = if P x y = true ∧ u = h - 1 - y ∧ v = x then true else am_tnk P h (12 * y + x) u v := by
    unfold am_tnk
    by_cases hu : u < h
    · by_cases e : h - 1 - u = y ∧ v = x
      · obtain ⟨e1, rfl⟩ := e
        subst e1
        by_cases hp : P v (h - 1 - u) = true
        · rw [if_pos ⟨hp, by omega, rfl⟩]
          simp [hu, hp]
        · rw [if_neg (fun q => hp q.1)]
          simp [hp]
      · rw [if_neg (fun q => e ⟨by omega, q.2.2⟩)]
        cases hp : P v (h - 1 - u) with
        | false => simp
        | true =>
          have hv := hP _ _ hp
          have e9 : (12 * (h - 1 - u) + v < 12 * y + x + 1) = (12 * (h - 1 - u) + v < 12 * y + x) := propext ⟨fun q => by
            have : ¬ (h - 1 - u = y ∧ v = x) := e
            omega, fun q => by omega⟩
          simp only [e9]
    · rw [if_neg (fun q => hu (by omega))]
      simp [hu]
  rw [key]
  by_cases hp : P x y = true
  · rw [if_pos hp]
    unfold am_add
    simp [hp]
  · rw [if_neg hp, if_neg (fun q => hp q.1)]
theorem am_ht_le (P : Nat → Nat → Bool) : am_ht P ≤ 12 := am_lst_le _ 12
theorem am_wd_le (P : Nat → Nat → Bool) : am_wd P ≤ 12 := am_lst_le _ 12
theorem am_tnk_sup {P : Nat → Nat → Bool} (hP : am_sup P) {h : Nat} (hh : h ≤ 12) (k : Nat) : am_sup (am_tnk P h k) := fun u v q => by
  unfold am_tnk at q
  simp only [Bool.and_eq_true, decide_eq_true_eq] at q
  have := hP _ _ q.1.2
  omega
theorem am_tn_sup {P : Nat → Nat → Bool} (hP : am_sup P) : am_sup (am_tn P) := by
  rw [← am_tnk_N hP]
  exact am_tnk_sup hP (am_ht_le P) _
/-! a shape P laid with its corner at (a, l) on a sheet with U used -/
def am_tch (U P : Nat → Nat → Bool) (a l y : Nat) : Bool := am_any (fun x => U x y && (decide (a ≤ x) && P (x - a) (y - l))) 12
noncomputable def am_fre (U P : Nat → Nat → Bool) (a l h : Nat) : Bool := @decide (∀ y, l ≤ y → y < h → am_tch U P a l y = false) (Classical.propDecidable _)
theorem am_shl_bn (b : Nat → Bool) (a N : Nat) : am_bn b N <<< a = am_bn (fun x => decide (a ≤ x) && b (x - a)) (N + a) := by
  apply Nat.eq_of_testBit_eq
  intro i
  rw [Nat.testBit_shiftLeft, am_bn_bit, am_bn_bit]
  by_cases h : a ≤ i
  · by_cases h2 : i - a < N
    · simp [h, h2, show i < N + a by omega]
    · simp [h, h2, show ¬ i < N + a by omega]
  · simp [h]
theorem am_and_bn2 (b c : Nat → Bool) (n m : Nat) : am_bn b n &&& am_bn c (n + m) = am_bn (fun i => b i && c i) n := by
  apply Nat.eq_of_testBit_eq
  intro i
  rw [Nat.testBit_and, am_bn_bit, am_bn_bit, am_bn_bit]
  by_cases h : i < n
  · simp [h, show i < n + m by omega]
  · simp [h]
theorem am_tch_rw (U P : Nat → Nat → Bool) {a l y : Nat} (ha : a ≤ 12) (hy : l ≤ y) : (am_rw U y &&& am_rw P (y - l) <<< (nI a &&& 31) = 0) = (am_tch U P a l y = false) := by
  apply propext
  unfold am_tch
  rw [am_any_f]
  unfold am_rw
  rw [am_shl _ (by omega), am_and, am_shl_bn, am_and_bn2]
  constructor
  · intro h
    exact am_bn_eq0.mp ((nI_eq (Nat.lt_trans (am_bn_lt _ 12) (by decide)) (by decide)).mp h)
  · intro h
    rw [am_bn_0 h]
    rfl
/-- used after a shape was laid -/
def am_usd (U P : Nat → Nat → Bool) (a l : Nat) : Nat → Nat → Bool := fun x y => U x y || (decide (a ≤ x) && (decide (l ≤ y) && P (x - a) (y - l)))
theorem am_usd_sup {U P : Nat → Nat → Bool} {a l : Nat} (hU : am_sup U) (hf : ∀ x y, P x y = true → x + a < 12 ∧ y + l < 12) : am_sup (am_usd U P a l) := fun x y h => by
  unfold am_usd at h
  simp only [Bool.or_eq_true, Bool.and_eq_true, decide_eq_true_eq] at h
  rcases h with h | ⟨h1, h2, h3⟩
  · exact hU x y h
  · have := hf _ _ h3
    omega
theorem am_usd_rw {U P : Nat → Nat → Bool} {a l y : Nat} (ha : a ≤ 12) (hy : l ≤ y) (hf : ∀ x y, P x y = true → x + a < 12 ∧ y + l < 12) : am_rw U y ||| am_rw P (y - l) <<< (nI a &&& 31) = am_rw (am_usd U P a l) y := by
  unfold am_rw
  rw [am_shl _ (by omega), am_or]
  congr 1
  apply Nat.eq_of_testBit_eq
  intro i
  rw [Nat.testBit_or, am_bn_bit, am_shl_bn, am_bn_bit, am_bn_bit]
  unfold am_usd
  by_cases h : i < 12
  · simp [h, show i < 12 + a by omega, hy]
  · cases hp : P (i - a) (y - l) with
    | false => simp [h, hp]
    | true =>
      have := hf _ _ hp
      by_cases h2 : a ≤ i
      · omega
      · simp [h, h2]
/-- the first place, row by row, at which a shape is free on a sheet w by h; 144: none -/
noncomputable def am_plp (U P : Nat → Nat → Bool) (w h : Nat) (k : Nat) : Bool := decide (k / 12 + am_ht P ≤ h) && (decide (k % 12 + am_wd P ≤ w) && am_fre U P (k % 12) (k / 12) h)
noncomputable def am_plc (U P : Nat → Nat → Bool) (w h : Nat) : Nat := am_fst (am_plp U P w h) 144
theorem am_div12 : ∀ {k : Nat}, k < 144 → nI k / 12 = nI (k / 12) := by
  have : ∀ k, k < 144 → nI k / 12 = nI (k / 12) := by decide +kernel
  exact fun {k} h => this k h
theorem am_dle {a b c : Nat} (ha : a ≤ 12) (hb : b ≤ 12) (hc : c ≤ 12) : (nI c ≤ nI a - nI b) = (c + b ≤ a) := by
  rw [Int32.le_iff_toInt_le, pk_sub_toInt (by omega) (by omega), nI_toInt (by omega)]
  exact propext ⟨fun q => by omega, fun q => by omega⟩
theorem am_xf2 : ∀ k, k < 4 → am_xf 2 k = nI (am_Ht k) ∧ am_xf 5 k = nI (am_Ht k) ∧ am_Ht k ≤ 660 := by decide +kernel
theorem am_htd1 {d k : Nat} (hd : d ≤ 700) (hk : k < 4) : (nI d - am_xf 2 k ≤ 15) = ¬ am_Ht k + 15 < d := by
  obtain ⟨e, -, h⟩ := am_xf2 k hk
  have e15 : (15 : Int32).toInt = 15 := by decide
  rw [e, Int32.le_iff_toInt_le, pk_sub_toInt (by omega) (by omega), e15]
  exact propext ⟨fun q => by omega, fun q => by omega⟩
theorem am_htd2 {d k : Nat} (hd : d ≤ 700) (hk : k < 4) : (-15 ≤ nI d - am_xf 2 k) = (am_Ht k ≤ d + 15) := by
  obtain ⟨e, -, h⟩ := am_xf2 k hk
  have e15 : (-15 : Int32).toInt = -15 := by decide
  rw [e, Int32.le_iff_toInt_le, pk_sub_toInt (by omega) (by omega), e15]
  exact propext ⟨fun q => by omega, fun q => by omega⟩
theorem am_ne_oo {E : am_E} {t r : Nat} {c d : Nat} {a b : List Value} (h1 : E t = some (.inr (c, a))) (h2 : E r = some (.inr (d, b))) (h : c ≠ d) : t ≠ r := by
  intro e
  subst e
  rw [h1] at h2
  cases h2
  exact h rfl
theorem am_ne_aa {E : am_E} {t r : Nat} {c d : Nat} {a b : vp_A} (h1 : E t = some (.inl (c, a))) (h2 : E r = some (.inl (d, b))) (h : c ≠ d) : t ≠ r := by
  intro e
  subst e
  rw [h1] at h2
  cases h2
  exact h rfl
theorem am_pro_same {A B : Nat → Int32} {i : Nat} (h : A i = B i) : am_pro A B (i + 1) = am_pro A B i := by
  funext k
  unfold am_pro
  by_cases e : k = i
  · subst e
    rw [if_pos (Nat.lt_succ_self k), if_neg (Nat.lt_irrefl k), h]
  · by_cases h9 : k < i
    · rw [if_pos h9, if_pos (by omega)]
    · rw [if_neg h9, if_neg (by omega)]
theorem am_eqb_t {P Q : Nat → Nat → Bool} (h : P = Q) : am_eqb P Q = true := @decide_eq_true _ (Classical.propDecidable _) h
theorem am_eqb_f {P Q : Nat → Nat → Bool} (h : ¬ P = Q) : am_eqb P Q = false := @decide_eq_false _ (Classical.propDecidable _) h
theorem am_fre_t {U P : Nat → Nat → Bool} {a l h : Nat} (q : ∀ y, l ≤ y → y < h → am_tch U P a l y = false) : am_fre U P a l h = true := @decide_eq_true _ (Classical.propDecidable _) q
theorem am_fre_f {U P : Nat → Nat → Bool} {a l h : Nat} (q : ¬ ∀ y, l ≤ y → y < h → am_tch U P a l y = false) : am_fre U P a l h = false := @decide_eq_false _ (Classical.propDecidable _) q
theorem am_m1i (i : Nat) : nI (i + 1) + -1 = nI i := (Int32.sub_eq_add_neg _ _).symm.trans (am_kp1 i)
/-! general answers of the calls -/
