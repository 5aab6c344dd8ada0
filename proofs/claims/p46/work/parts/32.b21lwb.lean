theorem v4_lwb {w t : Nat} (w9 : w < 9) (t9 : t < 9) : ∀ n, (v4_lw w t n).1 ≤ 64 ∧ (v4_lw w t n).2 ≤ 99
  | 0 => ⟨by decide, by decide⟩
  | n + 1 => by
    have ih := v4_lwb w9 t9 n
    have h1 : ∀ x y : Nat, x ≤ 8 → y ≤ 8 → x * y ≤ 64 := fun x y hx hy => Nat.mul_le_mul hx hy
    show (v4_ls w t n (v4_lw w t n)).1 ≤ 64 ∧ (v4_ls w t n (v4_lw w t n)).2 ≤ 99
    generalize v4_lw w t n = b at ih ⊢
    obtain ⟨x, m⟩ := b
    unfold v4_ls
    split
    · split
      · exact ⟨h1 _ _ (by omega) (by omega), by show t ≤ 99; omega⟩
      · exact ih
    · split
      · exact ⟨h1 _ _ (by omega) (by omega), by show w ≤ 99; omega⟩
      · exact ih
theorem v4_ple {x y : Nat} (hx : x ≤ 20) (hy : y ≤ 20) : v4_p x y ≤ 20 := by
  unfold v4_p
  split <;> (try split) <;> omega
theorem v4_sub0 {x y : Nat} (hx : x ≤ 1000) (hy : y ≤ 1000) (h : x ≤ y) : (nI x - nI y ≤ 0) = True := by
  have e0 : (0 : Int32).toInt = 0 := by decide
  rw [Int32.le_iff_toInt_le, pk_sub_toInt (by omega) (by omega), e0]
  exact eq_true (by omega)
