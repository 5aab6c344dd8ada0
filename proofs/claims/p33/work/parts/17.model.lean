/-! ===== how the reference keeps the state ===== -/
def ms_bo (b : Bool) : Int32 := if b = true then 1 else 0
def ms_obj (m : Nat) (σ : am_St) (thr : Int32) : va_E := .inr (8, [.ref (m + 1), .ref (m + 2), .ref (m + 3), .ref (m + 4), .ref (m + 5), .ref (m + 6), .ref (m + 7), .ref (m + 38), .ref (m + 69), .ref (m + 70), .ref (m + 79), .ref (m + 80), .ref (m + 89), .ref (m + 90), .int (nI (σ 15 0 0)), .int (nI (σ 15 7 0)), .int (nI (σ 15 1 0)), .int (nI (σ 15 2 0)), .int (nI (σ 15 3 0)), .int (if σ 15 4 0 = 0 then -1 else nI (σ 15 5 0)), .long (lN (σ 15 6 0)), .int thr])
def ms_out (t N a : Nat) : va_E := .inl (t, N, .inr (.inr (.inr (.inr (fun i => if i < N then some (a + i) else none)))))
def ms_sh (σ : am_St) (j : Nat) : Nat → Int32 := fun i => match i with
  | 0 => nI (σ 9 j 0)
  | 1 => nI (σ 10 j 0)
  | 2 => nI (σ 11 j 0)
  | _ => 0
def ms_E (m : Nat) (σ : am_St) (lm : Nat → Nat) (lk : Nat → Nat → Nat) (lf : Nat → Nat → Bool) (thr : Int32) (k : Nat) : va_E :=
  if k = 0 then ms_obj m σ thr else if k = 1 then .inl (0, 144, .inl (st_f σ)) else if k = 2 then .inl (0, 30, .inl (fun p => nI (σ 1 p 0))) else if k = 3 then .inl (2, 30, .inl (fun p => nI (σ 2 p 0))) else if k = 4 then .inl (2, 30, .inl (fun p => nI (σ 3 p 0))) else if k = 5 then .inl (0, 30, .inl (fun p => nI (σ 4 p 0))) else if k = 6 then .inl (0, 30, .inl (fun p => nI (σ 5 p 0))) else if k = 7 then ms_out 7 30 (m + 8) else if k < 38 then .inl (2, 5, .inl (fun i => nI (lk (k - 8) i))) else if k = 38 then ms_out 8 30 (m + 39) else if k < 69 then .inl (3, 5, .inl (fun i => ms_bo (lf (k - 39) i))) else if k = 69 then .inl (0, 30, .inl (fun p => nI (lm p))) else if k = 70 then ms_out 9 8 (m + 71) else if k < 79 then .inl (0, 3, .inl (ms_sh σ (k - 71))) else if k = 79 then .inl (2, 8, .inl (fun j => if j < σ 15 0 0 then nI (σ 12 j 0) else 0)) else if k = 80 then ms_out 8 8 (m + 81) else if k < 89 then .inl (3, 144, .inl (fun c => ms_bo (st_u σ (k - 81) (c % 12) (c / 12)))) else if k = 89 then .inl (3, 13, .inl (fun r => ms_bo (st_b σ r))) else if k = 90 then ms_out 8 30 (m + 91) else .inl (3, 2001, .inl (fun y => ms_bo (st_y σ (k - 91) y)))
def am_kl (k : Nat) : Nat := match k with
  | 0 => 116
  | 1 => 109
  | 2 => 115
  | _ => 101
/-- the layers in their order, and as the state counts them -/
def am_ly (σ : am_St) (lm : Nat → Nat) (lk : Nat → Nat → Nat) (lf : Nat → Nat → Bool) : Prop := ∀ p, p < 30 → lm p ≤ 5 ∧ (∀ i, i < lm p → ∃ k, k < 4 ∧ lk p i = am_kl k) ∧ ∀ k, k < 4 → σ 6 p k = fb_ct (fun i => decide (lk p i = am_kl k) && !lf p i) (lm p) ∧ σ 7 p k = fb_ct (fun i => decide (lk p i = am_kl k) && lf p i) (lm p)
def am_MT (m : Nat) (E : am_E) (σ : am_St) (lm : Nat → Nat) (lk : Nat → Nat → Nat) (lf : Nat → Nat → Bool) (thr : Int32) : Prop := am_iv σ ∧ am_ly σ lm lk lf ∧ ∀ k, k < 121 → E (m + k) = some (ms_E m σ lm lk lf thr k)
def am_MS (m : Nat) (E : am_E) (σ : am_St) (thr : Int32) : Prop := ∃ lm lk lf, am_MT m E σ lm lk lf thr
def am_ix : List String → String → Nat
  | [], _ => 0
  | a :: l, C => if a = C then 0 else am_ix l C + 1
def am_th (L : List String) (o : am_O) : Nat := match o with
  | .inl _ => 0
  | .inr C => am_ix L C + 1
def am_vl (d : Value) (o : am_O) : Value := match o with
  | .inl (some v) => v
  | _ => d
def am_km (m n : Nat) (E E' : am_E) : Prop := ∀ k, k < n → k < m ∨ m + 121 ≤ k → E' k = E k
def am_mpi (m n : Nat) (E : am_E) (K : am_P) (d : Value) (L : List String) (r : am_R) : Prop := ∀ (n' : Nat) (E' : am_E), n ≤ n' → am_MS m E' r.2 (nI (am_th L r.1)) → am_km m n E E' → K (.inl (some (am_vl d r.1))) n' E'
theorem am_km_r (m n : Nat) (E : am_E) : am_km m n E E := fun _ _ _ => rfl
theorem am_km_t {m n n' : Nat} {E E' E'' : am_E} (h : am_km m n E E') (h2 : am_km m n' E' E'') (hn : n ≤ n') : am_km m n E E'' := fun k hk hk2 => (h2 k (by omega) hk2).trans (h k hk hk2)
theorem am_km_u {m n k : Nat} {E E' : am_E} {e : va_E} (h : am_km m n E E') (h1 : (m ≤ k ∧ k < m + 121) ∨ n ≤ k) : am_km m n E (am_u E' k e) := fun j hj hj2 => by
  rw [am_uN (by omega)]
  exact h j hj hj2
section MSG
variable {m : Nat} {E : am_E} {σ : am_St} {lm : Nat → Nat} {lk : Nat → Nat → Nat} {lf : Nat → Nat → Bool} {thr : Int32}
theorem ms_0 (h : am_MT m E σ lm lk lf thr) : E m = some (ms_obj m σ thr) := h.2.2 0 (by decide)
theorem ms_1 (h : am_MT m E σ lm lk lf thr) : E (m + 1) = some (.inl (0, 144, .inl (st_f σ))) := h.2.2 1 (by decide)
theorem ms_2 (h : am_MT m E σ lm lk lf thr) : E (m + 2) = some (.inl (0, 30, .inl (fun p => nI (σ 1 p 0)))) := h.2.2 2 (by decide)
theorem ms_3 (h : am_MT m E σ lm lk lf thr) : E (m + 3) = some (.inl (2, 30, .inl (fun p => nI (σ 2 p 0)))) := h.2.2 3 (by decide)
theorem ms_4 (h : am_MT m E σ lm lk lf thr) : E (m + 4) = some (.inl (2, 30, .inl (fun p => nI (σ 3 p 0)))) := h.2.2 4 (by decide)
theorem ms_5 (h : am_MT m E σ lm lk lf thr) : E (m + 5) = some (.inl (0, 30, .inl (fun p => nI (σ 4 p 0)))) := h.2.2 5 (by decide)
theorem ms_6 (h : am_MT m E σ lm lk lf thr) : E (m + 6) = some (.inl (0, 30, .inl (fun p => nI (σ 5 p 0)))) := h.2.2 6 (by decide)
theorem ms_7 (h : am_MT m E σ lm lk lf thr) : E (m + 7) = some (ms_out 7 30 (m + 8)) := h.2.2 7 (by decide)
theorem ms_38 (h : am_MT m E σ lm lk lf thr) : E (m + 38) = some (ms_out 8 30 (m + 39)) := h.2.2 38 (by decide)
theorem ms_69 (h : am_MT m E σ lm lk lf thr) : E (m + 69) = some (.inl (0, 30, .inl (fun p => nI (lm p)))) := h.2.2 69 (by decide)
theorem ms_70 (h : am_MT m E σ lm lk lf thr) : E (m + 70) = some (ms_out 9 8 (m + 71)) := h.2.2 70 (by decide)
theorem ms_79 (h : am_MT m E σ lm lk lf thr) : E (m + 79) = some (.inl (2, 8, .inl (fun j => if j < σ 15 0 0 then nI (σ 12 j 0) else 0))) := h.2.2 79 (by decide)
theorem ms_80 (h : am_MT m E σ lm lk lf thr) : E (m + 80) = some (ms_out 8 8 (m + 81)) := h.2.2 80 (by decide)
theorem ms_89 (h : am_MT m E σ lm lk lf thr) : E (m + 89) = some (.inl (3, 13, .inl (fun r => ms_bo (st_b σ r)))) := h.2.2 89 (by decide)
theorem ms_90 (h : am_MT m E σ lm lk lf thr) : E (m + 90) = some (ms_out 8 30 (m + 91)) := h.2.2 90 (by decide)
theorem ms_r8 (h : am_MT m E σ lm lk lf thr) {p : Nat} (hp : p < 30) : E (m + 8 + p) = some (.inl (2, 5, .inl (fun i => nI (lk p i)))) := by
  have := h.2.2 (8 + p) (by omega)
  unfold ms_E at this
  rw [if_neg (by omega), if_neg (by omega), if_neg (by omega), if_neg (by omega), if_neg (by omega), if_neg (by omega), if_neg (by omega), if_neg (by omega), if_pos (by omega), show 8 + p - 8 = p by omega, ← Nat.add_assoc] at this
  exact this
theorem ms_r39 (h : am_MT m E σ lm lk lf thr) {p : Nat} (hp : p < 30) : E (m + 39 + p) = some (.inl (3, 5, .inl (fun i => ms_bo (lf p i)))) := by
  have := h.2.2 (39 + p) (by omega)
  unfold ms_E at this
  rw [if_neg (by omega), if_neg (by omega), if_neg (by omega), if_neg (by omega), if_neg (by omega), if_neg (by omega), if_neg (by omega), if_neg (by omega), if_neg (by omega), if_neg (by omega), if_pos (by omega), show 39 + p - 39 = p by omega, ← Nat.add_assoc] at this
  exact this
theorem ms_r71 (h : am_MT m E σ lm lk lf thr) {j : Nat} (hj : j < 8) : E (m + 71 + j) = some (.inl (0, 3, .inl (ms_sh σ j))) := by
  have := h.2.2 (71 + j) (by omega)
  unfold ms_E at this
  rw [if_neg (by omega), if_neg (by omega), if_neg (by omega), if_neg (by omega), if_neg (by omega), if_neg (by omega), if_neg (by omega), if_neg (by omega), if_neg (by omega), if_neg (by omega), if_neg (by omega), if_neg (by omega), if_neg (by omega), if_pos (by omega), show 71 + j - 71 = j by omega, ← Nat.add_assoc] at this
  exact this
theorem ms_r81 (h : am_MT m E σ lm lk lf thr) {j : Nat} (hj : j < 8) : E (m + 81 + j) = some (.inl (3, 144, .inl (fun c => ms_bo (st_u σ j (c % 12) (c / 12))))) := by
  have := h.2.2 (81 + j) (by omega)
  unfold ms_E at this
  rw [if_neg (by omega), if_neg (by omega), if_neg (by omega), if_neg (by omega), if_neg (by omega), if_neg (by omega), if_neg (by omega), if_neg (by omega), if_neg (by omega), if_neg (by omega), if_neg (by omega), if_neg (by omega), if_neg (by omega), if_neg (by omega), if_neg (by omega), if_neg (by omega), if_pos (by omega), show 81 + j - 81 = j by omega, ← Nat.add_assoc] at this
  exact this
theorem ms_r91 (h : am_MT m E σ lm lk lf thr) {p : Nat} (hp : p < 30) : E (m + 91 + p) = some (.inl (3, 2001, .inl (fun y => ms_bo (st_y σ p y)))) := by
  have := h.2.2 (91 + p) (by omega)
  unfold ms_E at this
  rw [if_neg (by omega), if_neg (by omega), if_neg (by omega), if_neg (by omega), if_neg (by omega), if_neg (by omega), if_neg (by omega), if_neg (by omega), if_neg (by omega), if_neg (by omega), if_neg (by omega), if_neg (by omega), if_neg (by omega), if_neg (by omega), if_neg (by omega), if_neg (by omega), if_neg (by omega), if_neg (by omega), if_neg (by omega), show 91 + p - 91 = p by omega, ← Nat.add_assoc] at this
  exact this
/-- a cell is written -/
theorem ms_u (h : am_MT m E σ lm lk lf thr) {σ' : am_St} {lm' : Nat → Nat} {lk' : Nat → Nat → Nat} {lf' : Nat → Nat → Bool} {thr' : Int32} {k0 : Nat} {e : va_E} (hi : am_iv σ') (hl : am_ly σ' lm' lk' lf') (he : e = ms_E m σ' lm' lk' lf' thr' k0) (ho : ∀ k, k < 121 → k ≠ k0 → ms_E m σ' lm' lk' lf' thr' k = ms_E m σ lm lk lf thr k) : am_MT m (am_u E (m + k0) e) σ' lm' lk' lf' thr' := ⟨hi, hl, fun k hk => by
  by_cases h9 : k = k0
  · subst h9
    rw [am_uE, he]
  · rw [am_uN (by omega), ho k hk h9]
    exact h.2.2 k hk⟩
theorem ms_off (h : am_MT m E σ lm lk lf thr) {k : Nat} {e : va_E} (hk : m + 121 ≤ k) : am_MT m (am_u E k e) σ lm lk lf thr := ⟨h.1, h.2.1, fun j hj => by
  rw [am_uN (by omega)]
  exact h.2.2 j hj⟩
theorem ms_ke {E' : am_E} (h : am_MT m E σ lm lk lf thr) (he : ∀ k, k < 121 → E' (m + k) = E (m + k)) : am_MT m E' σ lm lk lf thr := ⟨h.1, h.2.1, fun j hj => (he j hj).trans (h.2.2 j hj)⟩
/-- which exception, or none, is told -/
theorem ms_thr (h : am_MT m E σ lm lk lf thr) (t : Int32) : am_MT m (am_u E m (ms_obj m σ t)) σ lm lk lf t :=
  ms_u (k0 := 0) h h.1 h.2.1 rfl (fun k hk hn => by unfold ms_E; rw [if_neg hn, if_neg hn])
/-- the object's own numbers -/
theorem ms_set (h : am_MT m E σ lm lk lf thr) {σ' : am_St} {t : Int32} (hi : am_iv σ') (hq : ∀ q, q ≠ 15 → σ' q = σ q) (h0 : σ' 15 0 0 = σ 15 0 0) {e : va_E} (he : e = ms_obj m σ' t) : am_MT m (am_u E m e) σ' lm lk lf t :=
  ms_u (k0 := 0) h hi (by unfold am_ly; rw [hq 6 (by decide), hq 7 (by decide)]; exact h.2.1) he (fun k hk hn => by
    have e1 : st_f σ' = st_f σ := by unfold st_f; rw [hq 0 (by decide)]
    have e2 : st_b σ' = st_b σ := by unfold st_b; rw [hq 14 (by decide)]
    have e3 : st_u σ' = st_u σ := by unfold st_u; rw [hq 13 (by decide)]
    have e4 : st_y σ' = st_y σ := by unfold st_y; rw [hq 8 (by decide)]
    have e5 : ms_sh σ' = ms_sh σ := by unfold ms_sh; rw [hq 9 (by decide), hq 10 (by decide), hq 11 (by decide)]
    unfold ms_E
    rw [if_neg hn, if_neg hn, e1, e2, e3, e4, e5, h0, hq 1 (by decide), hq 2 (by decide), hq 3 (by decide), hq 4 (by decide), hq 5 (by decide), hq 12 (by decide)])
end MSG
