/-! ===== what a call's wrapper in the law answers ===== -/
def am_ok (P : Int32 → Prop) (L : List String) (r : am_R) : Prop := (∃ v σ', P v ∧ r = r_i v σ') ∨ ∃ C σ', C ∈ L ∧ r = r_x C σ'
theorem am_ok_i {P : Int32 → Prop} {L : List String} {v : Int32} {σ : am_St} (h : P v) : am_ok P L (r_i v σ) := Or.inl ⟨v, σ, h, rfl⟩
theorem am_ok_x {P : Int32 → Prop} {L : List String} {C : String} {σ : am_St} (h : C ∈ L) : am_ok P L (r_x C σ) := Or.inr ⟨C, σ, h, rfl⟩
theorem am_ok_f {P : Int32 → Prop} {L : List String} {c : Prop} [Decidable c] {r s : am_R} (h1 : am_ok P L r) (h2 : am_ok P L s) : am_ok P L (if c then r else s) := by
  by_cases h : c
  · rw [if_pos h]; exact h1
  · rw [if_neg h]; exact h2
def am_wr (b o n : Nat) (E : am_E) (K : am_P) (L : List String) (r : am_R) : Prop := ∀ (E' : am_E) (g' : Nat → Int64), am_HS b E' r.2 → (∀ k, (k < b ∨ b + 214 ≤ k) → k ≠ o → E' k = E k) → E' o = some (.inl (1, 1, .inr (.inl g'))) → (∀ v, r.1 = .inl (some (.int v)) → g' 0 = v.toInt64) → K (.inl (some (.int (nI (am_th L r.1))))) n E'
theorem am_HS_off {b o : Nat} {E : am_E} {σ : am_St} {e : va_E} (h : am_HS b E σ) (ho : o < b ∨ b + 214 ≤ o) : am_HS b (am_u E o e) σ := by
  obtain ⟨τ, w, u, h1, h2, h3, h4⟩ := h
  exact ⟨τ, w, u, h1, h2, h3, fun k hk => by rw [am_uN (by omega)]; exact h4 k hk⟩
theorem am_wr_i {b o n : Nat} {E E' : am_E} {K : am_P} {L : List String} {v : Int32} {σ : am_St} {g : Nat → Int64} (hK : am_wr b o n E K L (r_i v σ)) (ho : o < b ∨ b + 214 ≤ o) (hH : am_HS b E' σ) (hk : am_kb b 214 E E') : K (.inl (some (.int 0))) n (am_u E' o (.inl (1, 1, .inr (.inl (vp_updL g 0 v.toInt64))))) :=
  hK _ _ (am_HS_off hH ho) (fun k h1 h2 => by rw [am_uN h2]; exact hk k h1) am_uE (fun v' hv => by cases hv; exact if_pos rfl)
theorem am_wr_x {b o n : Nat} {E E' : am_E} {K : am_P} {L : List String} {C : String} {t : Nat} {σ : am_St} {g : Nat → Int64} (hK : am_wr b o n E K L (r_x C σ)) (ht : am_th L (.inr C) = t) (hE : E' o = some (.inl (1, 1, .inr (.inl g)))) (hH : am_HS b E' σ) (hk : am_kb b 214 E E') : K (.inl (some (.int (nI t)))) n E' := by
  have := hK E' g hH (fun k h1 _ => hk k h1) hE (fun v hv => by cases hv)
  have e : am_th L (r_x C σ).1 = t := ht
  rw [e] at this
  exact this
theorem am_b01 (p : Prop) [Decidable p] : (if p then (1 : Int32) else 0) = 0 ∨ (if p then (1 : Int32) else 0) = 1 := by
  by_cases h : p
  · rw [if_pos h]; exact Or.inr rfl
  · rw [if_neg h]; exact Or.inl rfl
theorem ok_open (l : Int32) (lo : Int32) (r : Int32) (hi : Int32) (v : Bool) : am_ok (fun _ => True) L_AU (z_open l lo r hi v) := by
  unfold z_open
  exact am_ok_f (am_ok_i trivial) (am_ok_x (by simp))
theorem ok_lay (p : Int32) (l : Int32) (lo : Int32) (r : Int32) (hi : Int32) : am_ok (fun _ => True) L_OAU (z_lay p l lo r hi) := by
  unfold z_lay
  exact am_ok_f (am_ok_f (am_ok_x (by simp)) (am_ok_x (by simp))) (am_ok_x (by simp))
theorem ok_pieceAt (σ : am_St) (x : Int32) (y : Int32) : am_ok (fun _ => True) L_A (q_pieceAt σ x y) := by
  unfold q_pieceAt
  exact am_ok_f (am_ok_i trivial) (am_ok_x (by simp))
theorem ok_size (σ : am_St) (p : Int32) : am_ok (fun _ => True) L_O (q_size σ p) := by
  unfold q_size am_pc
  exact am_ok_f (am_ok_i trivial) (am_ok_x (by simp))
theorem ok_corners (σ : am_St) (p : Int32) : am_ok (fun _ => True) L_O (q_corners σ p) := by
  unfold q_corners am_pc
  exact am_ok_f (am_ok_i trivial) (am_ok_x (by simp))
theorem ok_point (σ : am_St) (p : Int32) : am_ok (fun _ => True) L_O (q_point σ p) := by
  unfold q_point am_pc
  exact am_ok_f (am_ok_i trivial) (am_ok_x (by simp))
theorem ok_hinders (σ : am_St) (p : Int32) : am_ok (fun _ => True) L_O (q_hinders σ p) := by
  unfold q_hinders am_pc
  exact am_ok_f (am_ok_i trivial) (am_ok_x (by simp))
theorem ok_split (p : Int32) : am_ok (fun _ => True) L_OUS (z_pc p x_UO) := by
  unfold z_pc
  exact am_ok_f (am_ok_x (by simp)) (am_ok_x (by simp))
theorem ok_sheet (σ : am_St) (c : Int32) (d : Int32) (f : Int32) (t : Int32) : am_ok (fun _ => True) L_AS (q_sheet σ c d f t) := by
  unfold q_sheet
  exact am_ok_f (am_ok_f (am_ok_i trivial) (am_ok_x (by simp))) (am_ok_x (by simp))
theorem ok_free (σ : am_St) (s : Int32) : am_ok (fun _ => True) L_O (q_free σ s) := by
  unfold q_free
  exact am_ok_f (am_ok_i trivial) (am_ok_x (by simp))
theorem ok_want (σ : am_St) (p : Int32) (c : Int32) (t : Int32) : am_ok (fun v => v = 0 ∨ v = 1) L_OAU (q_want σ p c t) := by
  unfold q_want
  exact am_ok_f (am_ok_f (am_ok_f (am_ok_i (am_b01 _)) (am_ok_x (by simp))) (am_ok_x (by simp))) (am_ok_x (by simp))
theorem ok_cut (s : Int32) (p : Int32) (v : Bool) : am_ok (fun v => v = 0 ∨ v = 1) L_OAU (r_x x_IO am_s0) := by
  exact am_ok_x (by simp)
theorem ok_glass (σ : am_St) (p : Int32) : am_ok (fun _ => True) L_O (q_glass σ p) := by
  unfold q_glass am_pc
  exact am_ok_f (am_ok_i trivial) (am_ok_x (by simp))
theorem ok_colour (σ : am_St) (p : Int32) : am_ok (fun _ => True) L_ON (q_colour σ p) := by
  unfold q_colour am_gl
  exact am_ok_f (am_ok_f (am_ok_x (by simp)) (am_ok_i trivial)) (am_ok_x (by simp))
theorem ok_paint (p : Int32) (c : Int32) : am_ok (fun _ => True) L_OAUS (z_paint p c) := by
  unfold z_paint
  exact am_ok_f (am_ok_f (am_ok_x (by simp)) (am_ok_x (by simp))) (am_ok_x (by simp))
theorem ok_fire (a : Nat) (d : Int32) : am_ok (fun _ => True) L_AU (z_fire a d) := by
  unfold z_fire
  exact am_ok_f (am_ok_x (by simp)) (am_ok_x (by simp))
theorem ok_layers (σ : am_St) (p : Int32) (t : Int32) : am_ok (fun _ => True) L_OA (q_layers σ p t) := by
  unfold q_layers
  exact am_ok_f (am_ok_f (am_ok_i trivial) (am_ok_x (by simp))) (am_ok_x (by simp))
theorem ok_seed (σ : am_St) (z : Int32) : am_ok (fun _ => True) L_A (q_seed σ z) := by
  unfold q_seed
  exact am_ok_f (am_ok_i trivial) (am_ok_x (by simp))
theorem ok_next  : am_ok (fun _ => True) L_N (r_x x_NE am_s0) := by
  exact am_ok_x (by simp)
theorem ok_comes  : am_ok (fun _ => True) L_N (r_x x_NE am_s0) := by
  exact am_ok_x (by simp)
theorem ok_solder  : am_ok (fun _ => True) L_U (r_x x_UO am_s0) := by
  exact am_ok_x (by simp)
theorem ok_bar (σ : am_St) (r : Int32) (v : Bool) : am_ok (fun v => v = 0 ∨ v = 1) L_A (q_bar σ r v) := by
  unfold q_bar
  exact am_ok_f (am_ok_i (am_b01 _)) (am_ok_x (by simp))
theorem ok_profile (σ : am_St) (v : Int32) : am_ok (fun _ => True) L_AU (q_profile σ v) := by
  unfold q_profile
  exact am_ok_f (am_ok_f (am_ok_i trivial) (am_ok_x (by simp))) (am_ok_x (by simp))
theorem ok_wind (σ : am_St) (v : Int32) : am_ok (fun _ => True) L_A (q_wind σ v) := by
  unfold q_wind
  exact am_ok_f (am_ok_i trivial) (am_ok_x (by simp))
theorem ok_years (σ : am_St) (v : Int32) : am_ok (fun _ => True) L_AS (q_years σ v) := by
  unfold q_years
  exact am_ok_f (am_ok_f (am_ok_i trivial) (am_ok_x (by simp))) (am_ok_x (by simp))
theorem ok_looks (x : Int32) (y : Int32) (t : Int32) : am_ok (fun _ => True) L_A (z_looks x y t) := by
  unfold z_looks
  exact am_ok_f (am_ok_i trivial) (am_ok_x (by simp))
theorem ok_hit (x : Int32) (y : Int32) : am_ok (fun v => v = 0 ∨ v = 1) L_AU (z_hit x y) := by
  unfold z_hit
  exact am_ok_f (am_ok_x (by simp)) (am_ok_x (by simp))
theorem ok_mend (p : Int32) : am_ok (fun _ => True) L_OU (z_pc p x_UO) := by
  unfold z_pc
  exact am_ok_f (am_ok_x (by simp)) (am_ok_x (by simp))
theorem ok_stopgap (p : Int32) (s : Int32) : am_ok (fun _ => True) L_OU (r_x x_IO am_s0) := by
  exact am_ok_x (by simp)
theorem ok_year (σ : am_St) (p : Int32) : am_ok (fun _ => True) L_ON (q_year σ p) := by
  unfold q_year am_gl
  exact am_ok_f (am_ok_f (am_ok_x (by simp)) (am_ok_i trivial)) (am_ok_x (by simp))
theorem ok_fits (p : Int32) : am_ok (fun _ => True) L_ON (z_pc p x_NE) := by
  unfold z_pc
  exact am_ok_f (am_ok_x (by simp)) (am_ok_x (by simp))
