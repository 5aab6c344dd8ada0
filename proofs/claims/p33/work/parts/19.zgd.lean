noncomputable def am_spn (σ : am_St) (p : Nat) : am_St := am_st1 (am_st1 (am_st σ 0 (fun k _ => if k < 144 ∧ am_pf (am_shp (st_f σ) (nI p)) (am_bb (am_shp (st_f σ) (nI p)) 23).1 (k % 12) (k / 12) = true then am_fst (fun p => !am_hp (st_f σ) 144 p) 30 + 2 else σ 0 k 0)) 1 (am_fst (fun p => !am_hp (st_f σ) 144 p) 30) (σ 1 p 0)) 2 (am_fst (fun p => !am_hp (st_f σ) 144 p) 30) (σ 2 p 0)
noncomputable def q_split (σ : am_St) (p : Int32) : am_R := if am_pcb p = true then (if ¬ σ 15 4 0 = 0 ∨ ¬ σ 3 p.toNatClampNeg 0 = 45 ∨ (am_bb (am_shp (st_f σ) p) 23).1 = 0 then r_x x_UO σ else if am_fst (fun p => !am_hp (st_f σ) 144 p) 30 < 30 then r_i (nI (am_fst (fun p => !am_hp (st_f σ) 144 p) 30)) (am_spn σ p.toNatClampNeg) else r_x x_IS σ) else r_x x_IO σ
theorem am_bb_s (P : Nat → Nat → Bool) (n : Nat) : am_bb P (n + 1) = if am_hi (am_pn P (n + 1)) = 45 ∧ am_hi (am_pf P (n + 1)) = 45 ∧ am_tc P (n + 1) < (am_bb P n).2 then (n + 1, am_tc P (n + 1)) else am_bb P n := rfl
theorem am_bb_le (P : Nat → Nat → Bool) : ∀ n, (am_bb P n).1 ≤ n
  | 0 => Nat.le_refl 0
  | n + 1 => by
    have ih := am_bb_le P n
    rw [am_bb_s]
    by_cases h : am_hi (am_pn P (n + 1)) = 45 ∧ am_hi (am_pf P (n + 1)) = 45 ∧ am_tc P (n + 1) < (am_bb P n).2
    · rw [if_pos h]
      exact Nat.le_refl (n + 1)
    · rw [if_neg h]
      exact Nat.le_succ_of_le ih
theorem am_HT_kg {b : Nat} {E E' : am_E} {σ : am_St} {τ : Nat → Nat → Nat → Bool} {w : Nat → Int32} {u : Nat → Bool} (h : am_HT b E σ τ w u) (he : ∀ k, E' (b + k) = E (b + k)) : am_HT b E' σ τ w u := ⟨h.1, h.2.1, h.2.2.1, fun k hk => (he k).trans (h.2.2.2 k hk)⟩
