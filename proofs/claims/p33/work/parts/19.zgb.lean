def am_ci (x y : Int32) : Nat := 12 * y.toNatClampNeg + x.toNatClampNeg
def q_hit (σ : am_St) (x y : Int32) : am_R := if am_insb x y = true then (if σ 15 4 0 = 0 then r_x x_UO σ else if 2 ≤ σ 0 (am_ci x y) 0 ∧ σ 3 (σ 0 (am_ci x y) 0 - 2) 0 = 108 then r_i 1 (am_st1 σ 3 (σ 0 (am_ci x y) 0 - 2) 98) else r_i 0 σ) else r_x x_IA σ
theorem am_at_cv {σ : am_St} {i j : Nat} (hi : i < 12) (hj : j < 12) : am_at (st_f σ) (nI i) (nI j) = am_cv (σ 0 (12 * j + i) 0) := by
  rw [am_at_n (by omega) (by omega)]
  unfold am_wa
  rw [if_pos (by omega), show 12 * (j + 1 - 1) + (i + 1 - 1) = 12 * j + i by omega]
  rfl
def am_gl1 (σ : am_St) (k : Nat) : Bool := decide (2 ≤ σ 0 k 0 ∧ ¬ σ 3 (σ 0 k 0 - 2) 0 = 45)
def am_op1 (σ : am_St) (k : Nat) : Bool := decide (1 ≤ σ 0 k 0)
/-- some place of the range a..d by c..f with p -/
def am_rga (p : Nat → Bool) (a c d f : Nat) : Bool := am_any (fun j => am_any (fun i => p (12 * (c + j) + (a + i))) (d + 1 - a)) (f + 1 - c)
/-! a range of cells, written row by row -/
def am_pgp (a d c j i k : Nat) : Prop := a ≤ k % 12 ∧ k % 12 ≤ d ∧ c ≤ k / 12 ∧ (k / 12 < c + j ∨ (k / 12 = c + j ∧ k % 12 < a + i)) ∧ k < 144
