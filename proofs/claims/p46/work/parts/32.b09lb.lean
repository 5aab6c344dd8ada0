theorem v4_lbc (a b : Int32) : (a = b ∧ am_lb a b = 0) ∨ (¬ a = b ∧ 0 ≤ a ∧ am_lb a b = 1) ∨ (¬ a = b ∧ ¬ 0 ≤ a ∧ 0 ≤ b ∧ am_lb a b = 1) ∨ (¬ a = b ∧ ¬ 0 ≤ a ∧ ¬ 0 ≤ b ∧ am_lb a b = 0) := by
  unfold am_lb
  by_cases h1 : a = b
  · exact Or.inl ⟨h1, if_neg (fun q => q.1 h1)⟩
  · by_cases h2 : 0 ≤ a
    · exact Or.inr (Or.inl ⟨h1, h2, if_pos ⟨h1, Or.inl h2⟩⟩)
    · by_cases h3 : 0 ≤ b
      · exact Or.inr (Or.inr (Or.inl ⟨h1, h2, h3, if_pos ⟨h1, Or.inr h3⟩⟩))
      · exact Or.inr (Or.inr (Or.inr ⟨h1, h2, h3, if_neg (fun q => q.2.elim h2 h3)⟩))
theorem v4_lbz {a b : Int32} {u : Nat} (c : (a = b ∧ u = 0) ∨ (¬ a = b ∧ 0 ≤ a ∧ u = 1) ∨ (¬ a = b ∧ ¬ 0 ≤ a ∧ 0 ≤ b ∧ u = 1) ∨ (¬ a = b ∧ ¬ 0 ≤ a ∧ ¬ 0 ≤ b ∧ u = 0)) : u = 0 ∨ u = 1 := by
  rcases c with ⟨-, h⟩ | ⟨-, -, h⟩ | ⟨-, -, -, h⟩ | ⟨-, -, -, h⟩
  · exact Or.inl h
  · exact Or.inr h
  · exact Or.inr h
  · exact Or.inl h
theorem v4_ins {i j : Nat} (hi : i < 12) (hj : j < 12) : am_insb (nI i) (nI j) = true := by
  have z : ∀ k : Nat, k < 12 → ((0 : Int32) ≤ nI k ∧ ¬ (12 : Int32) ≤ nI k) := fun k hk => ⟨nI_pos' (by omega), of_eq_false (am_nge hk (by decide))⟩
  exact am_insb_t.mpr ⟨z i hi, z j hj⟩
