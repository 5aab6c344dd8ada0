def q_mend (σ : am_St) (p : Int32) : am_R := if am_pcb p = true then (if σ 3 p.toNatClampNeg 0 = 98 then r_i (nI (σ 15 7 0 + 1)) (am_st1 (am_st (am_st1 σ 3 p.toNatClampNeg 108) 8 (fun t y => if t = p.toNatClampNeg ∧ y = σ 15 3 0 then 1 else σ 8 t y)) 15 7 (σ 15 7 0 + 1)) else r_x x_UO σ) else r_x x_IO σ
theorem am_iv_8 {σ σ' : am_St} (h : am_iv σ) (hq : ∀ q, q ≠ 8 → σ' q = σ q) : am_iv σ' := by
  unfold am_iv
  rw [hq 0 (by omega), hq 1 (by omega), hq 2 (by omega), hq 3 (by omega), hq 4 (by omega), hq 5 (by omega), hq 6 (by omega), hq 7 (by omega), hq 9 (by omega), hq 10 (by omega), hq 11 (by omega), hq 12 (by omega), hq 15 (by omega)]
  exact h
theorem am_iv_157 {σ σ' : am_St} (h : am_iv σ) (hq : ∀ q, q ≠ 15 → σ' q = σ q) (h15 : ∀ i, i < 7 → σ' 15 i 0 = σ 15 i 0) : am_iv σ' := by
  unfold am_iv
  rw [hq 0 (by omega), hq 1 (by omega), hq 2 (by omega), hq 3 (by omega), hq 4 (by omega), hq 5 (by omega), hq 6 (by omega), hq 7 (by omega), hq 9 (by omega), hq 10 (by omega), hq 11 (by omega), hq 12 (by omega), h15 0 (by omega), h15 1 (by omega), h15 2 (by omega), h15 3 (by omega), h15 4 (by omega), h15 5 (by omega), h15 6 (by omega)]
  exact h
def am_tku (σ : am_St) (j : Nat) (P : Nat → Nat → Bool) (k : Nat) : am_St := am_st σ 13 (fun t c => if t = j then (if am_usd (st_u σ j) P (k % 12) (k / 12) (c % 12) (c / 12) = true then 1 else 0) else σ 13 t c)
def am_tks (σ : am_St) (j : Nat) (P : Nat → Nat → Bool) (k : Nat) : am_St := am_st1 (am_tku σ j P k) 15 8 (σ 15 8 0 + am_sz P)
theorem am_tku_u {σ : am_St} {j : Nat} {P : Nat → Nat → Bool} {k : Nat} (hf : ∀ x y, P x y = true → x + k % 12 < 12 ∧ y + k / 12 < 12) : st_u (am_tku σ j P k) j = am_usd (st_u σ j) P (k % 12) (k / 12) := by
  have hs := am_usd_sup (st_u_sup σ j) hf
  funext x y
  show decide (x < 12 ∧ y < 12 ∧ (if j = j then (if am_usd (st_u σ j) P (k % 12) (k / 12) ((12 * y + x) % 12) ((12 * y + x) / 12) = true then 1 else 0) else σ 13 j (12 * y + x)) = 1) = _
  rw [if_pos rfl]
  by_cases hx : x < 12
  · rw [show (12 * y + x) % 12 = x by omega, show (12 * y + x) / 12 = y by omega]
    cases hu : am_usd (st_u σ j) P (k % 12) (k / 12) x y with
    | true =>
      have := hs x y hu
      exact decide_eq_true ⟨hx, this.2, rfl⟩
    | false => exact decide_eq_false (fun q => absurd q.2.2 (by decide))
  · have e := am_sup_x hs (x := x) (y := y) (Nat.le_of_not_lt hx)
    refine Eq.trans ?_ e.symm
    exact decide_eq_false (fun q => hx q.1)
theorem am_iv_13 {σ σ' : am_St} (h : am_iv σ) (hq : ∀ q, q ≠ 13 → σ' q = σ q) : am_iv σ' := by
  unfold am_iv
  rw [hq 0 (by omega), hq 1 (by omega), hq 2 (by omega), hq 3 (by omega), hq 4 (by omega), hq 5 (by omega), hq 6 (by omega), hq 7 (by omega), hq 9 (by omega), hq 10 (by omega), hq 11 (by omega), hq 12 (by omega), hq 15 (by omega)]
  exact h
theorem am_iv_158 {σ σ' : am_St} (h : am_iv σ) (hq : ∀ q, q ≠ 15 → σ' q = σ q) (h15 : ∀ i, i < 7 → σ' 15 i = σ 15 i) : am_iv σ' := am_iv_157 h hq (fun i hi => by rw [h15 i hi])

