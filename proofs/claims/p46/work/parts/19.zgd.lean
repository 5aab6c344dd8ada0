noncomputable def am_spn (σ : am_St) (p : Nat) : am_St := am_st1 (am_st1 (am_st σ 0 (fun k _ => if k < 144 ∧ am_pf (am_shp (st_f σ) (nI p)) (am_bb (am_shp (st_f σ) (nI p)) 23).1 (k % 12) (k / 12) = true then am_fst (fun p => !am_hp (st_f σ) 144 p) 30 + 2 else σ 0 k 0)) 1 (am_fst (fun p => !am_hp (st_f σ) 144 p) 30) (σ 1 p 0)) 2 (am_fst (fun p => !am_hp (st_f σ) 144 p) 30) (σ 2 p 0)
noncomputable def q_split (σ : am_St) (p : Int32) : am_R := if am_pcb p = true then (if ¬ σ 15 4 0 = 0 ∨ ¬ σ 3 p.toNatClampNeg 0 = 45 ∨ (am_bb (am_shp (st_f σ) p) 23).1 = 0 then r_x x_UO σ else if am_fst (fun p => !am_hp (st_f σ) 144 p) 30 < 30 then r_i (nI (am_fst (fun p => !am_hp (st_f σ) 144 p) 30)) (am_spn σ p.toNatClampNeg) else r_x x_IS σ) else r_x x_IO σ
theorem am_bb_le (P : Nat → Nat → Bool) : ∀ n, (am_bb P n).1 ≤ n
  | 0 => Nat.le_refl _
  | n + 1 => by
    have ih := am_bb_le P n
    unfold am_bb
    split
    · exact Nat.le_refl _
    · omega
theorem am_HT_kg {b : Nat} {E E' : am_E} {σ : am_St} {τ : Nat → Nat → Nat → Bool} {w : Nat → Int32} {u : Nat → Bool} (h : am_HT b E σ τ w u) (he : ∀ k, E' (b + k) = E (b + k)) : am_HT b E' σ τ w u := ⟨h.1, h.2.1, h.2.2.1, fun k hk => (he k).trans (h.2.2.2 k hk)⟩
section HSS
variable {b : Nat} {E : am_E} {σ σ' : am_St} {τ : Nat → Nat → Nat → Bool} {w : Nat → Int32} {u : Nat → Bool}
/-- the layers of a pane (c = 2: raw, 3: fixed), its lead years (c = 5) -/
theorem hs_setc (h : am_HT b E σ τ w u) (hi : am_iv σ') {p c q0 : Nat} (hp : p < 30) (hc : (c = 2 ∧ q0 = 6) ∨ (c = 3 ∧ q0 = 7) ∨ (c = 5 ∧ q0 = 8)) (hq : ∀ q, q ≠ q0 → σ' q = σ q) (hj : ∀ t, t ≠ p → σ' q0 t = σ q0 t) : am_HT b (am_u E (b + (18 + 6 * p + c)) (hs_pane b σ' p c)) σ' τ w u := by
  have c6 : c < 6 := by omega
  have hjj : ∀ q t, t ≠ p → σ' q t = σ q t := fun q t ht => by
    by_cases e : q = q0
    · rw [e]; exact hj t ht
    · rw [hq q e]
  refine hs_u (k0 := 18 + 6 * p + c) h hi h.2.1 h.2.2.1 (by
    unfold hsE
    rw [if_neg (by omega), if_pos (by omega), show (18 + 6 * p + c - 18) / 6 = p by omega, show (18 + 6 * p + c - 18) % 6 = c by omega]) (fun k hk hn => ?_)
  unfold hsE
  by_cases h1 : k < 18
  · rw [if_pos h1, if_pos h1]
    by_cases hk0 : k = 0
    · subst hk0
      rw [hs_top_0, hs_top_0, hq 15 (by omega)]
    · exact hs_top_cg (hq 0 (by omega)) (hq 14 (by omega)) (by rw [hq 15 (by omega)]) (by rw [hq 15 (by omega)]) hk0
  · rw [if_neg h1, if_neg h1]
    by_cases h2 : k < 198
    · rw [if_pos h2, if_pos h2]
      by_cases h3 : (k - 18) / 6 = p
      · have h4 : (k - 18) % 6 ≠ c := by omega
        have h5 : (k - 18) % 6 < 6 := by omega
        rw [h3]
        generalize (k - 18) % 6 = d at h4 h5 ⊢
        match d, h5 with
        | 0, _ => show (Sum.inr _ : va_E) = Sum.inr _; rw [hq 1 (by omega), hq 2 (by omega), hq 3 (by omega), hq 4 (by omega), hq 5 (by omega)]
        | 1, _ => rfl
        | 2, _ => show am_c4 (σ' 6 p) = am_c4 (σ 6 p); rw [hq 6 (by omega)]
        | 3, _ => show am_c4 (σ' 7 p) = am_c4 (σ 7 p); rw [hq 7 (by omega)]
        | 4, _ => rfl
        | 5, _ => show am_ywE (st_y σ' p) = am_ywE (st_y σ p); unfold st_y; rw [hq 8 (by omega)]
      · exact hs_pane_cg (fun q a1 a2 => hjj q _ h3) _
    · rw [if_neg h2, if_neg h2]
      exact hs_sheet_cg (fun q a1 a2 => by rw [hq q (by omega)]) _
/-- what is used of a sheet -/
theorem hs_setu (h : am_HT b E σ τ w u) (hi : am_iv σ') {j : Nat} (hp : j < 8) (hq : ∀ q, q ≠ 13 → σ' q = σ q) (hj : ∀ t, t ≠ j → σ' 13 t = σ 13 t) : am_HT b (am_u E (b + (198 + 2 * j + 1)) (am_rwE (st_u σ' j))) σ' τ w u := by
  have hjj : ∀ q t, t ≠ j → σ' q t = σ q t := fun q t ht => by
    by_cases e : q = 13
    · rw [e]; exact hj t ht
    · rw [hq q e]
  refine hs_u (k0 := 198 + 2 * j + 1) h hi h.2.1 h.2.2.1 (by
    unfold hsE
    rw [if_neg (by omega), if_neg (by omega), show (198 + 2 * j + 1 - 198) / 2 = j by omega, show (198 + 2 * j + 1 - 198) % 2 = 1 by omega]
    rfl) (fun k hk hn => ?_)
  unfold hsE
  by_cases h1 : k < 18
  · rw [if_pos h1, if_pos h1]
    by_cases hk0 : k = 0
    · subst hk0
      rw [hs_top_0, hs_top_0, hq 15 (by omega)]
    · exact hs_top_cg (hq 0 (by omega)) (hq 14 (by omega)) (by rw [hq 15 (by omega)]) (by rw [hq 15 (by omega)]) hk0
  · rw [if_neg h1, if_neg h1]
    by_cases h2 : k < 198
    · rw [if_pos h2, if_pos h2]
      exact hs_pane_cg (fun q a1 a2 => by rw [hq q (by omega)]) _
    · rw [if_neg h2, if_neg h2]
      by_cases h3 : (k - 198) / 2 = j
      · have h4 : (k - 198) % 2 = 0 := by omega
        rw [h3, h4]
        show (Sum.inr _ : va_E) = Sum.inr _
        rw [hq 9 (by omega), hq 10 (by omega), hq 11 (by omega), hq 12 (by omega)]
      · exact hs_sheet_cg (fun q a1 a2 => hjj q _ h3) _
end HSS
def q_mend (σ : am_St) (p : Int32) : am_R := if am_pcb p = true then (if σ 3 p.toNatClampNeg 0 = 98 then r_i (nI (σ 15 7 0 + 1)) (am_st1 (am_st (am_st1 σ 3 p.toNatClampNeg 108) 8 (fun t y => if t = p.toNatClampNeg ∧ y = σ 15 3 0 then 1 else σ 8 t y)) 15 7 (σ 15 7 0 + 1)) else r_x x_UO σ) else r_x x_IO σ
theorem am_iv_8 {σ σ' : am_St} (h : am_iv σ) (hq : ∀ q, q ≠ 8 → σ' q = σ q) : am_iv σ' := by
  unfold am_iv
  rw [hq 0 (by omega), hq 1 (by omega), hq 2 (by omega), hq 3 (by omega), hq 4 (by omega), hq 5 (by omega), hq 6 (by omega), hq 7 (by omega), hq 9 (by omega), hq 10 (by omega), hq 11 (by omega), hq 12 (by omega), hq 15 (by omega)]
  exact h
theorem am_iv_157 {σ σ' : am_St} (h : am_iv σ) (hq : ∀ q, q ≠ 15 → σ' q = σ q) (h15 : ∀ i, i < 7 → σ' 15 i 0 = σ 15 i 0) : am_iv σ' := by
  unfold am_iv
  rw [hq 0 (by omega), hq 1 (by omega), hq 2 (by omega), hq 3 (by omega), hq 4 (by omega), hq 5 (by omega), hq 6 (by omega), hq 7 (by omega), hq 9 (by omega), hq 10 (by omega), hq 11 (by omega), hq 12 (by omega), h15 0 (by omega), h15 1 (by omega), h15 2 (by omega), h15 3 (by omega), h15 4 (by omega), h15 5 (by omega), h15 6 (by omega)]
  exact h
def am_tku (σ : am_St) (j : Nat) (P : Nat → Nat → Bool) (k : Nat) : am_St := am_st σ 13 (fun t c => if t = j then (if am_usd (st_u σ j) P (k % 12) (k / 12) (c % 12) (c / 12) = true then 1 else 0) else σ 13 t c)
def am_tks (σ : am_St) (j : Nat) (P : Nat → Nat → Bool) (k : Nat) : am_St := am_st1 (am_tku σ j P k) 15 8 (σ 15 8 0 + am_sz P)
theorem am_tku_u {σ : am_St} {j : Nat} {P : Nat → Nat → Bool} {k : Nat} (hf : ∀ x y, P x y = true → x + k % 12 < 12 ∧ y + k / 12 < 12) : st_u (am_tku σ j P k) j = am_usd (st_u σ j) P (k % 12) (k / 12) := by
  have hs := am_usd_sup (st_u_sup σ j) hf
  funext x y
  show decide (x < 12 ∧ y < 12 ∧ (if j = j then (if am_usd (st_u σ j) P (k % 12) (k / 12) ((12 * y + x) % 12) ((12 * y + x) / 12) = true then 1 else 0) else σ 13 j (12 * y + x)) = 1) = _
  rw [if_pos rfl]
  by_cases hx : x < 12
  · rw [show (12 * y + x) % 12 = x by omega, show (12 * y + x) / 12 = y by omega]
    cases hu : am_usd (st_u σ j) P (k % 12) (k / 12) x y with
    | true =>
      have := hs x y hu
      exact decide_eq_true ⟨hx, this.2, rfl⟩
    | false => exact decide_eq_false (fun q => absurd q.2.2 (by decide))
  · have e := am_sup_x hs (x := x) (y := y) (Nat.le_of_not_lt hx)
    refine Eq.trans ?_ e.symm
    exact decide_eq_false (fun q => hx q.1)
theorem am_iv_13 {σ σ' : am_St} (h : am_iv σ) (hq : ∀ q, q ≠ 13 → σ' q = σ q) : am_iv σ' := by
  unfold am_iv
  rw [hq 0 (by omega), hq 1 (by omega), hq 2 (by omega), hq 3 (by omega), hq 4 (by omega), hq 5 (by omega), hq 6 (by omega), hq 7 (by omega), hq 9 (by omega), hq 10 (by omega), hq 11 (by omega), hq 12 (by omega), hq 15 (by omega)]
  exact h
theorem am_iv_158 {σ σ' : am_St} (h : am_iv σ) (hq : ∀ q, q ≠ 15 → σ' q = σ q) (h15 : ∀ i, i < 7 → σ' 15 i = σ 15 i) : am_iv σ' := am_iv_157 h hq (fun i hi => by rw [h15 i hi])

