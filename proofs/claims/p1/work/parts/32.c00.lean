/-! ===== the law's run on six numbers: the start, a call, the end ===== -/
theorem rmc_L_law : rm_L_law.cells = 600002 := rfl
theorem rms_L_law : rm_L_law.slots = 7302232 := rfl
abbrev lw_LL (l6 l7 : Option Value) : am_L := [some (.retAddr 0), some (.ref 0), some (.ref 214), some (.ref 335), some (.ref 336), some (.int 0), l6, l7, none]
def lw_F (G : Nat → am_C) : Prop := ∀ (l6 l7 : Option Value) (n : Nat) (E : am_E) (ca sl : Nat), G 2566 (lw_LL l6 l7) [] n E ca sl
def lw_S (E : am_E) : Prop := am_HS 0 E am_s0 ∧ am_MS 214 E am_s0 0 ∧ (∃ g, E 335 = some (.inl (1, 1, .inr (.inl g)))) ∧ ∃ g, E 336 = some (.inl (4, 1, .inr (.inr (.inr (.inl g)))))
theorem lw_mt {m : Nat} {E E' : am_E} {σ : am_St} {lm : Nat → Nat} {lk : Nat → Nat → Nat} {lf : Nat → Nat → Bool} {thr : Int32} (h : am_MT m E σ lm lk lf thr) (he : ∀ k, m ≤ k → k < m + 121 → E' k = E k) : am_MT m E' σ lm lk lf thr := ⟨h.1, h.2.1, fun k hk => (he _ (by omega) (by omega)).trans (h.2.2 k hk)⟩
theorem lw_m0 {m : Nat} {E : am_E} {σ : am_St} {lm : Nat → Nat} {lk : Nat → Nat → Nat} {lf : Nat → Nat → Bool} {thr : Int32} (h : am_MT m E σ lm lk lf thr) : ∃ fs, E m = some (.inr (8, fs)) := ⟨_, ms_0 h⟩
theorem lw_h0 {b : Nat} {E : am_E} {σ : am_St} (h : am_HS b E σ) : ∃ fs, E b = some (.inr (7, fs)) := by
  obtain ⟨τ, w, u, h⟩ := h
  exact ⟨_, hs_hall h⟩
theorem lw_ix : ∀ (L : List String) (C : String), C ∈ L → am_ix L C < L.length
  | a :: l, C, h => by
    unfold am_ix
    by_cases e : a = C
    · rw [if_pos e]; simp
    · rw [if_neg e]
      have := lw_ix l C ((List.mem_cons.mp h).resolve_left (fun q => e q.symm))
      simpa using this
theorem lw_thne {L : List String} {C : String} (h : C ∈ L) (hL : L.length < 100) : ¬ nI (am_th L (.inr C)) = 0 := by
  have h1 := lw_ix L C h
  exact nI_ne0 (show 0 < am_ix L C + 1 by omega) (show am_ix L C + 1 < _ by omega)
theorem lw_i2c (x : Int32) : ∃ q : Nat, q < 65536 ∧ (x.toUInt32 % 65536).toInt32 = nI q := by
  refine ⟨(x.toUInt32 % 65536).toNat, ?_, ?_⟩
  · rw [UInt32.toNat_mod]
    exact Nat.mod_lt _ (by decide)
  · apply Int32.toBitVec_inj.1
    apply BitVec.eq_of_toNat_eq
    show (x.toUInt32 % 65536).toNat = (BitVec.ofNat 32 (x.toUInt32 % 65536).toNat).toNat
    rw [BitVec.toNat_ofNat, Nat.mod_eq_of_lt (x.toUInt32 % 65536).toNat_lt]
theorem lw_nat (x : Int32) : ∃ a : Nat, a < 2 ^ 32 ∧ x = nI a := by
  refine ⟨x.toUInt32.toNat, x.toUInt32.toNat_lt, ?_⟩
  apply Int32.toBitVec_inj.1
  apply BitVec.eq_of_toNat_eq
  show x.toUInt32.toNat = (BitVec.ofNat 32 x.toUInt32.toNat).toNat
  rw [BitVec.toNat_ofNat, Nat.mod_eq_of_lt x.toUInt32.toNat_lt]
theorem lw_cmp (x : Int64) : lg_cmp x x = 0 := by
  unfold lg_cmp
  simp
