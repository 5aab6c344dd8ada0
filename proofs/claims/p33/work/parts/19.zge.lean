section HSS
variable {b : Nat} {E : am_E} {σ σ' : am_St} {τ : Nat → Nat → Nat → Bool} {w : Nat → Int32} {u : Nat → Bool}
/-- the layers of a pane (c = 2: raw, 3: fixed), its lead years (c = 5) -/
theorem hs_setc (h : am_HT b E σ τ w u) (hi : am_iv σ') {p c q0 : Nat} (hp : p < 30) (hc : (c = 2 ∧ q0 = 6) ∨ (c = 3 ∧ q0 = 7) ∨ (c = 5 ∧ q0 = 8)) (hq : ∀ q, q ≠ q0 → σ' q = σ q) (hj : ∀ t, t ≠ p → σ' q0 t = σ q0 t) : am_HT b (am_u E (b + (18 + 6 * p + c)) (hs_pane b σ' p c)) σ' τ w u := by
  have c6 : c < 6 := by omega
  have hq0 : 6 ≤ q0 ∧ q0 ≤ 8 := by omega
  have hd2 : 2 ≠ c → 6 ≠ q0 := by omega
  have hd3 : 3 ≠ c → 7 ≠ q0 := by omega
  have hd5 : 5 ≠ c → 8 ≠ q0 := by omega
  clear hc
  have hjj : ∀ q t, t ≠ p → σ' q t = σ q t := fun q t ht => by
    by_cases e : q = q0
    · rw [e]; exact hj t ht
    · rw [hq q e]
  refine hs_u (k0 := 18 + 6 * p + c) h hi h.2.1 h.2.2.1 (by
    unfold hsE
    rw [if_neg (by omega), if_pos (by omega), show (18 + 6 * p + c - 18) / 6 = p by omega, show (18 + 6 * p + c - 18) % 6 = c by omega]) (fun k hk hn => ?_)
  unfold hsE
  by_cases h1 : k < 18
  · rw [if_pos h1, if_pos h1]
    by_cases hk0 : k = 0
    · subst hk0
      rw [hs_top_0, hs_top_0, hq 15 (by omega)]
    · exact hs_top_cg (hq 0 (by omega)) (hq 14 (by omega)) (by rw [hq 15 (by omega)]) (by rw [hq 15 (by omega)]) hk0
  · rw [if_neg h1, if_neg h1]
    by_cases h2 : k < 198
    · rw [if_pos h2, if_pos h2]
      by_cases h3 : (k - 18) / 6 = p
      · have h4 : (k - 18) % 6 ≠ c := by omega
        have h5 : (k - 18) % 6 < 6 := by omega
        rw [h3]
        generalize (k - 18) % 6 = d at h4 h5 ⊢
        rcases (show d = 0 ∨ d = 1 ∨ d = 2 ∨ d = 3 ∨ d = 4 ∨ d = 5 by omega) with e | e | e | e | e | e
        · rw [e]
          show (Sum.inr _ : va_E) = Sum.inr _
          rw [hq 1 (by omega), hq 2 (by omega), hq 3 (by omega), hq 4 (by omega), hq 5 (by omega)]
        · rw [e]
          show (Sum.inr (1, [Value.ref (b + 20 + 6 * p), Value.ref (b + 21 + 6 * p)]) : va_E) = Sum.inr (1, [Value.ref (b + 20 + 6 * p), Value.ref (b + 21 + 6 * p)])
          rfl
        · rw [e] at h4 ⊢
          show am_c4 (σ' 6 p) = am_c4 (σ 6 p)
          rw [hq 6 (hd2 h4)]
        · rw [e] at h4 ⊢
          show am_c4 (σ' 7 p) = am_c4 (σ 7 p)
          rw [hq 7 (hd3 h4)]
        · rw [e]
          show (Sum.inr (6, [Value.ref (b + 23 + 6 * p)]) : va_E) = Sum.inr (6, [Value.ref (b + 23 + 6 * p)])
          rfl
        · rw [e] at h4 ⊢
          show am_ywE (st_y σ' p) = am_ywE (st_y σ p)
          unfold st_y
          rw [hq 8 (hd5 h4)]
      · exact hs_pane_cg (fun q a1 a2 => hjj q _ h3) _
    · rw [if_neg h2, if_neg h2]
      exact hs_sheet_cg (fun q a1 a2 => by rw [hq q (by omega)]) _
/-- what is used of a sheet -/
theorem hs_setu (h : am_HT b E σ τ w u) (hi : am_iv σ') {j : Nat} (hp : j < 8) (hq : ∀ q, q ≠ 13 → σ' q = σ q) (hj : ∀ t, t ≠ j → σ' 13 t = σ 13 t) : am_HT b (am_u E (b + (198 + 2 * j + 1)) (am_rwE (st_u σ' j))) σ' τ w u := by
  have hjj : ∀ q t, t ≠ j → σ' q t = σ q t := fun q t ht => by
    by_cases e : q = 13
    · rw [e]; exact hj t ht
    · rw [hq q e]
  refine hs_u (k0 := 198 + 2 * j + 1) h hi h.2.1 h.2.2.1 (by
    unfold hsE
    rw [if_neg (by omega), if_neg (by omega), show (198 + 2 * j + 1 - 198) / 2 = j by omega, show (198 + 2 * j + 1 - 198) % 2 = 1 by omega]
    rfl) (fun k hk hn => ?_)
  unfold hsE
  by_cases h1 : k < 18
  · rw [if_pos h1, if_pos h1]
    by_cases hk0 : k = 0
    · subst hk0
      rw [hs_top_0, hs_top_0, hq 15 (by omega)]
    · exact hs_top_cg (hq 0 (by omega)) (hq 14 (by omega)) (by rw [hq 15 (by omega)]) (by rw [hq 15 (by omega)]) hk0
  · rw [if_neg h1, if_neg h1]
    by_cases h2 : k < 198
    · rw [if_pos h2, if_pos h2]
      exact hs_pane_cg (fun q a1 a2 => by rw [hq q (by omega)]) _
    · rw [if_neg h2, if_neg h2]
      by_cases h3 : (k - 198) / 2 = j
      · have h4 : (k - 198) % 2 = 0 := by omega
        rw [h3, h4]
        show (Sum.inr _ : va_E) = Sum.inr _
        rw [hq 9 (by omega), hq 10 (by omega), hq 11 (by omega), hq 12 (by omega)]
      · exact hs_sheet_cg (fun q a1 a2 => hjj q _ h3) _
end HSS
