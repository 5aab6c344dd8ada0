/-! ===== the state, and how the class keeps it ===== -/
abbrev am_St : Type := Nat → Nat → Nat → Nat
def am_st (σ : am_St) (q : Nat) (f : Nat → Nat → Nat) : am_St := fun k => if k = q then f else σ k
def am_st1 (σ : am_St) (q i : Nat) (v : Nat) : am_St := am_st σ q (fun j k => if j = i then v else σ q j k)
theorem am_st_s (σ : am_St) (q : Nat) (f : Nat → Nat → Nat) : am_st σ q f q = f := if_pos rfl
theorem am_st_n (σ : am_St) {q k : Nat} (f : Nat → Nat → Nat) (h : k ≠ q) : am_st σ q f k = σ k := if_neg h
def am_cv (k : Nat) : Int32 := if k = 0 then -2 else if k = 1 then -1 else nI (k - 2)
def st_f (σ : am_St) : Nat → Int32 := fun k => am_cv (σ 0 k 0)
def st_b (σ : am_St) : Nat → Bool := fun r => decide (σ 14 r 0 = 1)
def st_u (σ : am_St) (j : Nat) : Nat → Nat → Bool := fun x y => decide (x < 12 ∧ y < 12 ∧ σ 13 j (12 * y + x) = 1)
def st_y (σ : am_St) (p : Nat) : Nat → Bool := fun y => decide (y ≤ 2000 ∧ σ 8 p y = 1)
theorem st_u_sup (σ : am_St) (j : Nat) : am_sup (st_u σ j) := fun x y h => by
  have h := of_decide_eq_true h
  exact ⟨h.1, h.2.1⟩
theorem st_y_sup (σ : am_St) (p : Nat) : am_ysup (st_y σ p) := fun y h => (of_decide_eq_true h).1
def am_iv (σ : am_St) : Prop :=
  (∀ c, c < 144 → σ 0 c 0 < 32) ∧
  (∀ p, p < 30 → σ 1 p 0 < 10 ∧ (σ 2 p 0 = 45 ∨ σ 2 p 0 = 104 ∨ σ 2 p 0 = 118) ∧ (σ 3 p 0 = 45 ∨ σ 3 p 0 = 99 ∨ σ 3 p 0 = 108 ∨ σ 3 p 0 = 98) ∧ σ 4 p 0 < 10 ∧ σ 5 p 0 ≤ σ 15 3 0) ∧
  (∀ p k, σ 6 p k ≤ 5 ∧ σ 7 p k ≤ 5 ∧ (4 ≤ k → σ 6 p k = 0 ∧ σ 7 p k = 0)) ∧
  (∀ j, j < 8 → σ 9 j 0 < 10 ∧ σ 10 j 0 ≤ 12 ∧ σ 11 j 0 ≤ 12 ∧ (σ 12 j 0 = 104 ∨ σ 12 j 0 = 118)) ∧
  σ 15 0 0 ≤ 8 ∧ 1 ≤ σ 15 1 0 ∧ σ 15 1 0 ≤ 4 ∧ σ 15 2 0 ≤ 100 ∧ σ 15 3 0 ≤ 2000 ∧ σ 15 4 0 ≤ 1 ∧ σ 15 5 0 ≤ σ 15 3 0 ∧ 1 ≤ σ 15 6 0 ∧ σ 15 6 0 < 2147483647
def hs_pane (b : Nat) (σ : am_St) (i c : Nat) : va_E := match c with
  | 0 => .inr (2, [.int (nI (σ 1 i 0)), .int (nI (σ 2 i 0)), .int (nI (σ 3 i 0)), .int (nI (σ 4 i 0)), .int (nI (σ 5 i 0)), .ref (b + 19 + 6 * i), .ref (b + 22 + 6 * i)])
  | 1 => .inr (1, [.ref (b + 20 + 6 * i), .ref (b + 21 + 6 * i)])
  | 2 => am_c4 (σ 6 i)
  | 3 => am_c4 (σ 7 i)
  | 4 => .inr (6, [.ref (b + 23 + 6 * i)])
  | _ => am_ywE (st_y σ i)
def hs_sheet (b : Nat) (σ : am_St) (j c : Nat) : va_E := match c with
  | 0 => .inr (4, [.int (nI (σ 9 j 0)), .int (nI (σ 10 j 0)), .int (nI (σ 11 j 0)), .int (nI (σ 12 j 0)), .ref (b + 199 + 2 * j)])
  | _ => am_rwE (st_u σ j)
def hs_top (b : Nat) (σ : am_St) (τ : Nat → Nat → Nat → Bool) (w : Nat → Int32) (u : Nat → Bool) (k : Nat) : va_E := match k with
  | 0 => .inr (7, [.ref (b + 1), .ref (b + 3), .ref (b + 4), .ref (b + 5), .int (nI (σ 15 0 0)), .int (nI (σ 15 8 0)), .int (nI (σ 15 6 0)), .int (nI (σ 15 4 0)), .int (nI (σ 15 5 0)), .int (nI (σ 15 3 0)), .int (nI (σ 15 7 0)), .ref (b + 6), .ref (b + 9), .ref (b + 12), .ref (b + 15), .ref (b + 16)])
  | 1 => .inr (5, [.ref (b + 2)])
  | 2 => .inl (0, 144, .inl (st_f σ))
  | 3 => .inl (5, 30, .inr (.inr (.inr (.inr (fun k => if k < 30 then some (b + 18 + 6 * k) else none)))))
  | 4 => .inl (6, 8, .inr (.inr (.inr (.inr (fun k => if k < 8 then some (b + 198 + 2 * k) else none)))))
  | 5 => .inr (0, [.int (nI (am_bn (st_b σ) 12)), .int (nI (σ 15 1 0)), .int (nI (σ 15 2 0))])
  | 6 => .inr (3, [.ref (b + 7), .ref (b + 8)])
  | 7 => am_rwE (τ 0)
  | 8 => am_rwE (τ 1)
  | 9 => .inr (3, [.ref (b + 10), .ref (b + 11)])
  | 10 => am_rwE (τ 2)
  | 11 => am_rwE (τ 3)
  | 12 => .inr (3, [.ref (b + 13), .ref (b + 14)])
  | 13 => am_rwE (τ 4)
  | 14 => am_rwE (τ 5)
  | 15 => .inl (0, 30, .inl w)
  | 16 => .inr (6, [.ref (b + 17)])
  | _ => am_ywE u
def hsE (b : Nat) (σ : am_St) (τ : Nat → Nat → Nat → Bool) (w : Nat → Int32) (u : Nat → Bool) (k : Nat) : va_E :=
  if k < 18 then hs_top b σ τ w u k else if k < 198 then hs_pane b σ ((k - 18) / 6) ((k - 18) % 6) else hs_sheet b σ ((k - 198) / 2) ((k - 198) % 2)
/-- the hall at b, with the state, and with what its rows for use hold -/
def am_HT (b : Nat) (E : am_E) (σ : am_St) (τ : Nat → Nat → Nat → Bool) (w : Nat → Int32) (u : Nat → Bool) : Prop := am_iv σ ∧ (∀ i, am_sup (τ i)) ∧ am_ysup u ∧ ∀ k, k < 214 → E (b + k) = some (hsE b σ τ w u k)
def am_HS (b : Nat) (E : am_E) (σ : am_St) : Prop := ∃ τ w u, am_HT b E σ τ w u
section HSG
variable {b : Nat} {E : am_E} {σ : am_St} {τ : Nat → Nat → Nat → Bool} {w : Nat → Int32} {u : Nat → Bool}
theorem hs_t (h : am_HT b E σ τ w u) (k : Nat) (hk : k < 18) : E (b + k) = some (hs_top b σ τ w u k) := (h.2.2.2 k (by omega)).trans (by unfold hsE; rw [if_pos hk])
theorem hs_p (h : am_HT b E σ τ w u) {i : Nat} (c : Nat) (hi : i < 30) (hc : c < 6) : E (b + (18 + 6 * i + c)) = some (hs_pane b σ i c) := (h.2.2.2 (18 + 6 * i + c) (by omega)).trans (by
  unfold hsE
  rw [if_neg (by omega), if_pos (by omega), show (18 + 6 * i + c - 18) / 6 = i by omega, show (18 + 6 * i + c - 18) % 6 = c by omega])
theorem hs_s (h : am_HT b E σ τ w u) {j : Nat} (c : Nat) (hj : j < 8) (hc : c < 2) : E (b + (198 + 2 * j + c)) = some (hs_sheet b σ j c) := (h.2.2.2 (198 + 2 * j + c) (by omega)).trans (by
  unfold hsE
  rw [if_neg (by omega), if_neg (by omega), show (198 + 2 * j + c - 198) / 2 = j by omega, show (198 + 2 * j + c - 198) % 2 = c by omega])
theorem hs_hall (h : am_HT b E σ τ w u) : E b = some (hs_top b σ τ w u 0) := hs_t h 0 (by decide)
theorem hs_wall (h : am_HT b E σ τ w u) : am_wl E (b + 1) (b + 2) (st_f σ) := ⟨hs_t h 1 (by decide), hs_t h 2 (by decide)⟩
theorem hs_frame (h : am_HT b E σ τ w u) : am_fr0 E (b + 5) (st_b σ) (nI (σ 15 1 0)) (nI (σ 15 2 0)) := hs_t h 5 (by decide)
theorem hs_pane0 (h : am_HT b E σ τ w u) {i : Nat} (hi : i < 30) : am_pn0 E (b + 18 + 6 * i) (nI (σ 1 i 0)) (nI (σ 2 i 0)) (nI (σ 3 i 0)) (nI (σ 4 i 0)) (nI (σ 5 i 0)) (b + 19 + 6 * i) (b + 22 + 6 * i) := by
  have := hs_p h 0 hi (by decide)
  rw [show b + (18 + 6 * i + 0) = b + 18 + 6 * i by omega] at this
  exact this
theorem hs_paint (h : am_HT b E σ τ w u) {i : Nat} (hi : i < 30) : am_po E (b + 19 + 6 * i) (b + 20 + 6 * i) (b + 21 + 6 * i) (σ 6 i) (σ 7 i) := by
  have h1 := hs_p h 1 hi (by decide)
  have h2 := hs_p h 2 hi (by decide)
  have h3 := hs_p h 3 hi (by decide)
  rw [show b + (18 + 6 * i + 1) = b + 19 + 6 * i by omega] at h1
  rw [show b + (18 + 6 * i + 2) = b + 20 + 6 * i by omega] at h2
  rw [show b + (18 + 6 * i + 3) = b + 21 + 6 * i by omega] at h3
  exact ⟨h1, h2, h3, by omega, by omega, by omega, fun k => Nat.le_trans (h.1.2.2.1 i k).1 (by decide), fun k => Nat.le_trans (h.1.2.2.1 i k).2.1 (by decide)⟩
theorem hs_years (h : am_HT b E σ τ w u) {i : Nat} (hi : i < 30) : am_yo E (b + 22 + 6 * i) (b + 23 + 6 * i) (st_y σ i) := by
  have h1 := hs_p h 4 hi (by decide)
  have h2 := hs_p h 5 hi (by decide)
  rw [show b + (18 + 6 * i + 4) = b + 22 + 6 * i by omega] at h1
  rw [show b + (18 + 6 * i + 5) = b + 23 + 6 * i by omega] at h2
  exact ⟨h1, h2⟩
theorem hs_sheet0 (h : am_HT b E σ τ w u) {j : Nat} (hj : j < 8) : am_sh0 E (b + 198 + 2 * j) (nI (σ 9 j 0)) (nI (σ 10 j 0)) (nI (σ 11 j 0)) (nI (σ 12 j 0)) (b + 199 + 2 * j) := by
  have := hs_s h 0 hj (by decide)
  rw [show b + (198 + 2 * j + 0) = b + 198 + 2 * j by omega] at this
  exact this
theorem hs_used (h : am_HT b E σ τ w u) {j : Nat} (hj : j < 8) : am_sr E (b + 199 + 2 * j) (st_u σ j) := by
  have := hs_s h 1 hj (by decide)
  rw [show b + (198 + 2 * j + 1) = b + 199 + 2 * j by omega] at this
  exact this
theorem hs_wok (h : am_HT b E σ τ w u) : am_wok (st_f σ) := fun c hc => by
  have := h.1.1 c hc
  unfold st_f am_cv
  by_cases h0 : σ 0 c 0 = 0
  · exact Or.inl (if_pos h0)
  · by_cases h1 : σ 0 c 0 = 1
    · exact Or.inr (Or.inl (by rw [if_neg h0, if_pos h1]))
    · exact Or.inr (Or.inr ⟨σ 0 c 0 - 2, by omega, by rw [if_neg h0, if_neg h1]⟩)
/-- a cell is written -/
theorem hs_u (h : am_HT b E σ τ w u) {σ' : am_St} {τ' : Nat → Nat → Nat → Bool} {w' : Nat → Int32} {u' : Nat → Bool} {k0 : Nat} {e : va_E} (hi : am_iv σ') (ht : ∀ i, am_sup (τ' i)) (hu : am_ysup u') (he : e = hsE b σ' τ' w' u' k0) (ho : ∀ k, k < 214 → k ≠ k0 → hsE b σ' τ' w' u' k = hsE b σ τ w u k) : am_HT b (am_u E (b + k0) e) σ' τ' w' u' := ⟨hi, ht, hu, fun k hk => by
  by_cases h9 : k = k0
  · subst h9
    rw [am_uE, he]
  · rw [am_uN (by omega), ho k hk h9]
    exact h.2.2.2 k hk⟩
end HSG
