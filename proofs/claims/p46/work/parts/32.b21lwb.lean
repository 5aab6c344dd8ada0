theorem v4_lsq (w t k x m : Nat) : v4_ls w t k (x, m) = if k < 7 then (if (1 + k % 7 < w ∧ v4_p (1 + k % 7) t ≤ 4) ∧ v4_p (w - (1 + k % 7)) t ≤ 4 ∧ t < m then ((w - (1 + k % 7)) * t, t) else (x, m)) else (if (1 + k % 7 < t ∧ v4_p w (1 + k % 7) ≤ 4) ∧ v4_p w (t - (1 + k % 7)) ≤ 4 ∧ w < m then (w * (t - (1 + k % 7)), w) else (x, m)) := rfl
theorem v4_lwb {w t : Nat} (w9 : w < 9) (t9 : t < 9) : ∀ n, (v4_lw w t n).1 ≤ 64 ∧ (v4_lw w t n).2 ≤ 99
  | 0 => ⟨Nat.zero_le _, Nat.le_refl 99⟩
  | n + 1 => by
    have ih := v4_lwb w9 t9 n
    have h1 : ∀ x y : Nat, x ≤ 8 → y ≤ 8 → x * y ≤ 64 := fun x y hx hy => Nat.mul_le_mul hx hy
    show (v4_ls w t n (v4_lw w t n)).1 ≤ 64 ∧ (v4_ls w t n (v4_lw w t n)).2 ≤ 99
    generalize v4_lw w t n = b at ih ⊢
    obtain ⟨x, m⟩ := b
    rw [v4_lsq]
    by_cases h7 : n < 7
    · rw [if_pos h7]
      by_cases hy : (1 + n % 7 < w ∧ v4_p (1 + n % 7) t ≤ 4) ∧ v4_p (w - (1 + n % 7)) t ≤ 4 ∧ t < m
      · rw [if_pos hy]
        exact ⟨h1 (w - (1 + n % 7)) t (by omega) (by omega), show t ≤ 99 by omega⟩
      · rw [if_neg hy]
        exact ih
    · rw [if_neg h7]
      by_cases hy : (1 + n % 7 < t ∧ v4_p w (1 + n % 7) ≤ 4) ∧ v4_p w (t - (1 + n % 7)) ≤ 4 ∧ w < m
      · rw [if_pos hy]
        exact ⟨h1 w (t - (1 + n % 7)) (by omega) (by omega), show w ≤ 99 by omega⟩
      · rw [if_neg hy]
        exact ih
theorem v4_ple {x y : Nat} (hx : x ≤ 20) (hy : y ≤ 20) : v4_p x y ≤ 20 := by
  unfold v4_p
  split <;> (try split) <;> omega
theorem v4_sub0 {x y : Nat} (hx : x ≤ 1000) (hy : y ≤ 1000) (h : x ≤ y) : (nI x - nI y ≤ 0) = True := by
  have e0 : (0 : Int32).toInt = 0 := by decide
  rw [Int32.le_iff_toInt_le, pk_sub_toInt (by omega) (by omega), e0]
  exact eq_true (by omega)
