/-! ===== p46: the plan, the wrappers' answers, the drawn numbers ===== -/
def v4_pl (E : am_E) (f : Nat → Int32) : Prop := E 214 = some (.inl (9, 12, .inr (.inr (.inr (.inr (fun i => if i < 12 then some (215 + i) else none)))))) ∧ ∀ y, y < 12 → ∃ g : Nat → Int32, E (215 + y) = some (.inl (0, 12, .inl g)) ∧ ∀ x, x < 12 → g x = f (12 * y + x)
theorem v4_11 (x : Int32) : (x ≤ 11) = ¬ (12 ≤ x) := by
  have a : (11 : Int32).toInt = 11 := by decide
  have b : (12 : Int32).toInt = 12 := by decide
  rw [Int32.le_iff_toInt_le, Int32.le_iff_toInt_le, a, b]
  exact propext ⟨fun q => by omega, fun q => by omega⟩
theorem v4_bv (v : Int32) : v = nI v.toBitVec.toNat := b_ext fun i hi => by
  rw [bt_nI]
  simp only [hi, decide_true, Bool.true_and]
  rfl
theorem v4_and31 (v : Int32) : ∃ k : Nat, k < 2 ^ 31 ∧ v &&& 2147483647 = nI k := by
  refine ⟨v.toBitVec.toNat &&& 2147483647, Nat.and_lt_two_pow _ (by decide), ?_⟩
  have h := am_and v.toBitVec.toNat 2147483647
  rw [← v4_bv v] at h
  exact h
theorem v4_rem {k m : Nat} (hk : k < 2 ^ 31) (h1 : 1 ≤ m) (h2 : m ≤ 12) : nI k - nI k / nI m * nI m = nI (k % m) := pk_rem hk h1 (by omega)
def v4_lk (C : String) : List (String × Int32) → Int32
  | [] => 0
  | q :: l => if q.1 = C then q.2 else v4_lk C l
def v4_w (l : List (String × Int32)) (o : am_O) : Int32 := match o with
  | .inl (some (.int v)) => v
  | .inl _ => 0
  | .inr C => v4_lk C l
theorem v4_w0 {C : String} {x : Int32} {l : List (String × Int32)} {σ : am_St} : v4_w ((C, x) :: l) (r_x C σ).1 = x := by
  show v4_lk C ((C, x) :: l) = x
  unfold v4_lk
  exact if_pos rfl
theorem v4_w1 {C D : String} {x : Int32} {l : List (String × Int32)} {σ : am_St} (h : D ≠ C) : v4_w ((D, x) :: l) (r_x C σ).1 = v4_w l (r_x C σ).1 := by
  show (if D = C then x else v4_lk C l) = v4_lk C l
  exact if_neg h
theorem v4_wi {l : List (String × Int32)} {v : Int32} {σ : am_St} : v4_w l (r_i v σ).1 = v := rfl
theorem v4_pl_k {E E' : am_E} {f : Nat → Int32} (h : v4_pl E f) (hk : ∀ k, 214 ≤ k → k < 227 → E' k = E k) : v4_pl E' f := by
  refine ⟨(hk 214 (by omega) (by omega)).trans h.1, fun y hy => ?_⟩
  obtain ⟨g, hg, hx⟩ := h.2 y hy
  exact ⟨g, (hk _ (by omega) (by omega)).trans hg, hx⟩
theorem v4_pl_cg {E : am_E} {f f' : Nat → Int32} (h : v4_pl E f) (e : ∀ k, k < 144 → f' k = f k) : v4_pl E f' := by
  refine ⟨h.1, fun y hy => ?_⟩
  obtain ⟨g, hg, hx⟩ := h.2 y hy
  exact ⟨g, hg, fun x q => by rw [hx x q, e _ (by omega)]⟩
theorem v4_pl_u {E : am_E} {f g : Nat → Int32} {x y : Nat} {v : Int32} (h : v4_pl E f) (hx : x < 12) (hy : y < 12) (hg : E (215 + y) = some (.inl (0, 12, .inl g))) : v4_pl (am_u E (215 + y) (.inl (0, 12, .inl (upd g x v)))) (upd f (12 * y + x) v) := by
  refine ⟨by rw [am_uN (by omega)]; exact h.1, fun y' hy' => ?_⟩
  obtain ⟨g', hg', hq⟩ := h.2 y' hy'
  by_cases e : y' = y
  · subst e
    rw [hg] at hg'
    injection hg' with e1
    injection e1 with e2
    injection e2 with e3 e4
    injection e4 with e5 e6
    injection e6 with e7
    subst e7
    refine ⟨upd g x v, am_uE, fun x' hx' => ?_⟩
    unfold upd
    by_cases c : x' = x
    · rw [if_pos c, if_pos (by omega)]
    · rw [if_neg c, if_neg (by omega)]
      exact hq x' hx'
  · refine ⟨g', by rw [am_uN (by omega)]; exact hg', fun x' hx' => ?_⟩
    unfold upd
    rw [if_neg (by omega)]
    exact hq x' hx'
/-- no glass, nothing soldered, no sheet -/
def v4_ok (σ : am_St) : Prop := σ 15 4 0 = 0 ∧ σ 15 0 0 = 0 ∧ σ 15 8 0 = 0 ∧ ∀ p, p < 30 → σ 3 p 0 = 45
theorem v4_ok0 : v4_ok am_s0 := ⟨rfl, rfl, rfl, fun p h => s0_st h⟩
theorem v4_okc {σ σ' : am_St} (h : v4_ok σ) (e3 : σ' 3 = σ 3) (e15 : σ' 15 = σ 15) : v4_ok σ' := by
  unfold v4_ok
  rw [e3, e15]
  exact h
theorem v4_xIOIA : x_IO ≠ x_IA := by decide +kernel
theorem v4_xIOUO : x_IO ≠ x_UO := by decide +kernel
theorem v4_xIAUO : x_IA ≠ x_UO := by decide +kernel
theorem v4_xIOIS : x_IO ≠ x_IS := by decide +kernel
theorem v4_xUOIS : x_UO ≠ x_IS := by decide +kernel
