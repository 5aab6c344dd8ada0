/-! ===== shares and means: what can come ===== -/
theorem q_litShare_c (σ : am_St) : q_litShare σ = r_x x_NE σ ∨ ∃ f : UInt32, q_litShare σ = (.inl (some (.float f)), σ) ∧ vf_n32 f := by
  have key : ∀ z, am_on σ = z → (q_litShare σ = r_x x_NE σ ∨ ∃ f : UInt32, q_litShare σ = (.inl (some (.float f)), σ) ∧ vf_n32 f) := fun z hz => by
    have hz2 : z < 2 ^ 31 := by rw [← hz]; unfold am_on; omega
    unfold q_litShare
    rw [hz]
    by_cases c : z = 0
    · rw [if_pos c]; exact Or.inl rfl
    · rw [if_neg c]; exact Or.inr ⟨_, rfl, am_fdok hz2 c⟩
  exact key _ rfl
theorem q_meanCells_c (σ : am_St) : q_meanCells σ = r_x x_NE σ ∨ ∃ f : UInt64, q_meanCells σ = (.inl (some (.double f)), σ) ∧ vf_n64 f := by
  have key : ∀ z, am_pcs σ = z → (q_meanCells σ = r_x x_NE σ ∨ ∃ f : UInt64, q_meanCells σ = (.inl (some (.double f)), σ) ∧ vf_n64 f) := fun z hz => by
    have hz2 : z < 2 ^ 31 := by
      rw [← hz]
      exact Nat.lt_of_le_of_lt (fb_ct_le _ _) (by decide)
    unfold q_meanCells
    rw [hz]
    by_cases c : z = 0
    · rw [if_pos c]; exact Or.inl rfl
    · rw [if_neg c]; exact Or.inr ⟨_, rfl, am_ddok hz2 c⟩
  exact key _ rfl
theorem am_dcmp {x : UInt64} (h : vf_n64 x) : Op.cmpValue (FP.dcmp x x) .l = 0 := by
  have h1 : FP.Core.dIsNaN x = false := by
    rw [← Bool.not_eq_true, FP.Core.isNaN_bits]
    unfold vf_n64 at h
    rw [UInt64.le_iff_toNat_le, UInt64.toNat_and, show (0x7fffffffffffffff : UInt64).toNat = 2 ^ 63 - 1 from rfl, Nat.and_two_pow_sub_one_eq_mod, show (0x7ff0000000000000 : UInt64).toNat = 9218868437227405312 from rfl] at h
    omega
  have h2 : FP.Core.val64 x ≠ .nan := by
    rw [Ne, ← FP.Core.dIsNaN_iff, h1]
    decide
  rw [show FP.dcmp x x = some .eq from FP.Core.dcmp_self h2]
  rfl
