/-! ===== the state's numbers ===== -/
theorem am_st1_j {σ : am_St} {q i v q' j : Nat} (h : j ≠ i) : am_st1 σ q i v q' j = σ q' j := by
  unfold am_st1 am_st
  by_cases hq : q' = q
  · subst hq
    rw [if_pos rfl]
    funext k
    exact if_neg h
  · rw [if_neg hq]
theorem am_st1_q {σ : am_St} {q i v q' : Nat} (h : q' ≠ q) : am_st1 σ q i v q' = σ q' := if_neg h
theorem am_st1_s {σ : am_St} {q i v k : Nat} : am_st1 σ q i v q i k = v := by
  unfold am_st1
  rw [am_st_s]
  exact if_pos rfl
theorem am_stN {σ : am_St} {p : Nat} (h : am_iv σ) (hp : p < 30) {c : Nat} (hc : c < 2 ^ 31) : (nI (σ 3 p 0) = nI c) = (σ 3 p 0 = c) := by
  have := (h.2.1 p hp).2.2.1
  exact am_eqN (by omega) hc
theorem am_st45 {σ : am_St} {p : Nat} (h : am_iv σ) (hp : p < 30) : (nI (σ 3 p 0) = 45) = (σ 3 p 0 = 45) := am_stN h hp (c := 45) (by decide)
theorem am_st98 {σ : am_St} {p : Nat} (h : am_iv σ) (hp : p < 30) : (nI (σ 3 p 0) = 98) = (σ 3 p 0 = 98) := am_stN h hp (c := 98) (by decide)
theorem am_st99 {σ : am_St} {p : Nat} (h : am_iv σ) (hp : p < 30) : (nI (σ 3 p 0) = 99) = (σ 3 p 0 = 99) := am_stN h hp (c := 99) (by decide)
theorem am_st108 {σ : am_St} {p : Nat} (h : am_iv σ) (hp : p < 30) : (nI (σ 3 p 0) = 108) = (σ 3 p 0 = 108) := am_stN h hp (c := 108) (by decide)
theorem am_up0 {σ : am_St} (h : am_iv σ) : (nI (σ 15 4 0) = 0) = (σ 15 4 0 = 0) := by
  have := h.2.2.2.2.2.2.2.2.2.1
  exact am_eqN (b := 0) (by omega) (by decide)
theorem am_pcn {p : Nat} (h : p < 30) : 0 ≤ nI p ∧ nI p ≤ 29 := am_pcb_t.mp (am_pcb_i h)
theorem am_nat {x : Int32} (h : 0 ≤ x) : ∃ i : Nat, i < 2 ^ 31 ∧ x = nI i := by
  obtain ⟨i, hi, e⟩ := nI_of (x := x) (Int32.not_lt.mpr h)
  exact ⟨i, hi, e⟩
theorem am_nat2 {x : Int32} {a b : Nat} (ha : a < 2 ^ 31) (hb : b < 2 ^ 31) (h : nI a ≤ x ∧ x ≤ nI b) : ∃ i : Nat, a ≤ i ∧ i ≤ b ∧ x = nI i := by
  have h0 : (0 : Int32) ≤ nI a := (nI_leI (a := 0) (by decide) ha).mpr (by omega)
  obtain ⟨i, hi, rfl⟩ := am_nat (Int32.le_trans h0 h.1)
  exact ⟨i, (nI_leI ha hi).mp h.1, (nI_leI hi hb).mp h.2, rfl⟩
theorem am_iv_15 {σ : am_St} {i v : Nat} (h : am_iv σ) (hb : am_iv σ → (i = 0 → v ≤ 8) ∧ (i = 1 → 1 ≤ v ∧ v ≤ 4) ∧ (i = 2 → v ≤ 100) ∧ (i = 3 → v ≤ 2000 ∧ σ 15 3 0 ≤ v) ∧ (i = 4 → v ≤ 1) ∧ (i = 5 → v ≤ σ 15 3 0) ∧ (i = 6 → 1 ≤ v ∧ v < 2147483647)) : am_iv (am_st1 σ 15 i v) := by
  obtain ⟨b0, b1, b2, b3, b4, b5, b6⟩ := hb h
  obtain ⟨a1, a2, a3, a4, a5, a6, a7, a8, a9, a10, a11, a12, a13⟩ := h
  have hs : ∀ j, am_st1 σ 15 i v 15 j 0 = if j = i then v else σ 15 j 0 := fun j => by
    unfold am_st1
    rw [am_st_s]
  refine ⟨a1, fun p hp => ?_, a3, a4, ?_, ?_, ?_, ?_, ?_, ?_, ?_, ?_, ?_⟩
  · obtain ⟨c1, c2, c3, c4, c5⟩ := a2 p hp
    refine ⟨c1, c2, c3, c4, ?_⟩
    show σ 5 p 0 ≤ am_st1 σ 15 i v 15 3 0
    rw [hs]
    by_cases e : 3 = i
    · rw [if_pos e]
      exact Nat.le_trans c5 (b3 e.symm).2
    · rw [if_neg e]
      exact c5
  all_goals (simp only [hs])
  · split <;> omega
  · split <;> omega
  · split <;> omega
  · split <;> omega
  · split <;> omega
  · split <;> omega
  · by_cases e5 : 5 = i
    · have e3 : ¬ 3 = i := by omega
      rw [if_pos e5, if_neg e3]
      exact b5 e5.symm
    · rw [if_neg e5]
      split
      · rename_i e3
        exact Nat.le_trans a11 (b3 e3.symm).2
      · exact a11
  · split <;> omega
  · split <;> omega
theorem am_iv_q {σ : am_St} {q i v : Nat} (h : am_iv σ) (hq : 14 ≤ q) (h15 : q ≠ 15) : am_iv (am_st1 σ q i v) := by
  have e : ∀ q', q' ≠ q → am_st1 σ q i v q' = σ q' := fun q' hn => am_st1_q hn
  unfold am_iv
  simp only [e 0 (by omega), e 1 (by omega), e 2 (by omega), e 3 (by omega), e 4 (by omega), e 5 (by omega), e 6 (by omega), e 7 (by omega), e 9 (by omega), e 10 (by omega), e 11 (by omega), e 12 (by omega), e 15 (by omega)]
  exact h
theorem am_iv_p {σ σ' : am_St} {p : Nat} (h : am_iv σ) (hq : ∀ q, ¬ (1 ≤ q ∧ q ≤ 5) → σ' q = σ q) (hj : ∀ q j, j ≠ p → σ' q j = σ q j) (hp : σ' 1 p 0 < 10 ∧ (σ' 2 p 0 = 45 ∨ σ' 2 p 0 = 104 ∨ σ' 2 p 0 = 118) ∧ (σ' 3 p 0 = 45 ∨ σ' 3 p 0 = 99 ∨ σ' 3 p 0 = 108 ∨ σ' 3 p 0 = 98) ∧ σ' 4 p 0 < 10 ∧ σ' 5 p 0 ≤ σ 15 3 0) : am_iv σ' := by
  unfold am_iv
  rw [hq 0 (by omega), hq 6 (by omega), hq 7 (by omega), hq 9 (by omega), hq 10 (by omega), hq 11 (by omega), hq 12 (by omega), hq 15 (by omega)]
  refine ⟨h.1, fun i hi => ?_, h.2.2⟩
  by_cases e : i = p
  · subst e
    exact hp
  · rw [hj 1 i e, hj 2 i e, hj 3 i e, hj 4 i e, hj 5 i e]
    exact h.2.1 i hi
theorem am_iv_s {σ σ' : am_St} {j : Nat} (h : am_iv σ) (hq : ∀ q, ¬ (9 ≤ q ∧ q ≤ 12) → σ' q = σ q) (hj : ∀ q i, i ≠ j → σ' q i = σ q i) (hp : σ' 9 j 0 < 10 ∧ σ' 10 j 0 ≤ 12 ∧ σ' 11 j 0 ≤ 12 ∧ (σ' 12 j 0 = 104 ∨ σ' 12 j 0 = 118)) : am_iv σ' := by
  unfold am_iv
  rw [hq 0 (by omega), hq 1 (by omega), hq 2 (by omega), hq 3 (by omega), hq 4 (by omega), hq 5 (by omega), hq 6 (by omega), hq 7 (by omega), hq 15 (by omega)]
  refine ⟨h.1, h.2.1, h.2.2.1, fun i hi => ?_, h.2.2.2.2⟩
  by_cases e : i = j
  · subst e
    exact hp
  · rw [hj 9 i e, hj 10 i e, hj 11 i e, hj 12 i e]
    exact h.2.2.2.1 i hi
theorem am_iv_0 {σ σ' : am_St} (h : am_iv σ) (hq : ∀ q, q ≠ 0 → σ' q = σ q) (h0 : ∀ c, c < 144 → σ' 0 c 0 < 32) : am_iv σ' := by
  unfold am_iv
  rw [hq 1 (by omega), hq 2 (by omega), hq 3 (by omega), hq 4 (by omega), hq 5 (by omega), hq 6 (by omega), hq 7 (by omega), hq 9 (by omega), hq 10 (by omega), hq 11 (by omega), hq 12 (by omega), hq 15 (by omega)]
  exact ⟨h0, h.2⟩
theorem am_iv_b {σ : am_St} (h : am_iv σ) : σ 15 0 0 ≤ 8 ∧ 1 ≤ σ 15 1 0 ∧ σ 15 1 0 ≤ 4 ∧ σ 15 2 0 ≤ 100 ∧ σ 15 3 0 ≤ 2000 ∧ σ 15 4 0 ≤ 1 ∧ σ 15 5 0 ≤ σ 15 3 0 ∧ 1 ≤ σ 15 6 0 ∧ σ 15 6 0 < 2147483647 := h.2.2.2.2
theorem am_fst_le (p : Nat → Bool) (n : Nat) : am_fst p n ≤ n := by
  induction n with
  | zero => exact Nat.le_refl _
  | succ n ih =>
    unfold am_fst
    split
    · omega
    · split <;> omega
theorem am_fst_at (p : Nat → Bool) {n m : Nat} (h : am_fst p n < n) (hm : n ≤ m) : am_fst p m = am_fst p n := by
  obtain ⟨d, rfl⟩ : ∃ d, m = n + d := ⟨m - n, by omega⟩
  induction d with
  | zero => rfl
  | succ d ih =>
    have e := ih (by omega)
    show (if am_fst p (n + d) < n + d then am_fst p (n + d) else _) = _
    rw [if_pos (by omega), e]
theorem am_fst_n (p : Nat → Bool) {n : Nat} (h : ¬ am_fst p n < n) : am_fst p (n + 1) = if p n then n else n + 1 := by
  show (if am_fst p n < n then am_fst p n else _) = _
  rw [if_neg h]
theorem am_fst_no {p : Nat → Bool} {n : Nat} (h : ∀ i, i < n → p i = false) : am_fst p n = n := by
  induction n with
  | zero => rfl
  | succ n ih =>
    have e := ih (fun i hi => h i (by omega))
    rw [am_fst_n p (by omega), h n (by omega)]
    rfl
theorem am_rng_n {l lo r hi : Int32} (h : am_rng l lo r hi) : ∃ a c d f : Nat, l = nI a ∧ lo = nI c ∧ r = nI d ∧ hi = nI f ∧ a ≤ d ∧ d < 12 ∧ c ≤ f ∧ f < 12 := by
  obtain ⟨h1, h2, h3, h4⟩ := h
  obtain ⟨a, c, ha, hc, rfl, rfl⟩ := am_insN h1
  obtain ⟨d, f, hd, hf, rfl, rfl⟩ := am_insN h2
  exact ⟨a, c, d, f, rfl, rfl, rfl, rfl, (nI_leI (by omega) (by omega)).mp h3, hd, (nI_leI (by omega) (by omega)).mp h4, hf⟩
