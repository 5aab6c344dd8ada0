/-! ===== helpers for the reference's methods ===== -/
def am_hg (σ : am_St) (v : Int32) : Bool := decide (0 ≤ v) && decide (¬ σ 3 v.toNatClampNeg 0 = 45)
theorem am_hg_n (σ : am_St) {q : Nat} (hq : q < 30) : am_hg σ (nI q) = decide (¬ σ 3 q 0 = 45) := by
  unfold am_hg
  rw [decide_eq_true (am_pcn hq).1, nI_clamp (by omega)]
  rfl
def am_sa (P : Nat → Nat → Bool) : Nat → Int32 := fun k => ms_bo (P (k % 12) (k / 12))
theorem am_sa_hi {P : Nat → Nat → Bool} (h : am_sup P) : ∀ k, 144 ≤ k → am_sa P k = 0 := fun k hk => by
  unfold am_sa
  rw [am_sup_y h (by omega)]
  rfl
theorem am_vb0 : vp_nar .boolean 0 = 0 := rfl
theorem am_vb1 : vp_nar .boolean 1 = 1 := rfl
theorem ms_bo_i (b : Bool) : (if b = true then (1 : Int32) else 0) = ms_bo b := rfl
