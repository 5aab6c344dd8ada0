/-! ===== a new hall; how the state's cells change ===== -/
def am_s0 : am_St := fun q k _ => match q with
  | 0 => if k < 144 then 0 else 2
  | 2 => if k < 30 then 45 else 0
  | 3 => if k < 30 then 45 else 0
  | 12 => 104
  | 15 => if k = 1 ∨ k = 6 then 1 else 0
  | _ => 0
theorem s0_iv : am_iv am_s0 := by
  refine ⟨fun c h => ?_, fun p h => ⟨?_, ?_, ?_, ?_, ?_⟩, fun p k => ⟨?_, ?_, fun _ => ⟨rfl, rfl⟩⟩, fun j _ => ⟨?_, ?_, ?_, Or.inl rfl⟩, by decide, by decide, by decide, by decide, by decide, by decide, by decide, by decide, by decide⟩
  · show (if c < 144 then 0 else 2) < 32
    rw [if_pos h]; decide
  · exact (by decide : 0 < 10)
  · exact Or.inl (if_pos h)
  · exact Or.inl (if_pos h)
  · exact (by decide : 0 < 10)
  · exact Nat.zero_le _
  · exact Nat.zero_le _
  · exact Nat.zero_le _
  · exact (by decide : 0 < 10)
  · exact Nat.zero_le _
  · exact Nat.zero_le _
theorem s0_f {k : Nat} (h : k < 144) : st_f am_s0 k = -2 := by
  show am_cv (if k < 144 then 0 else 2) = -2
  rw [if_pos h]; rfl
theorem s0_f2 : st_f am_s0 = fun k => if k < 144 then -2 else 0 := by
  funext k
  show am_cv (if k < 144 then 0 else 2) = _
  by_cases h : k < 144
  · rw [if_pos h, if_pos h]; rfl
  · rw [if_neg h, if_neg h]; rfl
theorem s0_at (x y : Int32) : am_at (st_f am_s0) x y = -2 := by
  unfold am_at
  by_cases h : (0 ≤ x ∧ ¬ 12 ≤ x) ∧ 0 ≤ y ∧ ¬ 12 ≤ y
  · obtain ⟨i, j, hi, hj, rfl, rfl⟩ := am_insN h
    rw [if_pos h, am_idx, nI_clamp (by omega)]
    exact s0_f (by omega)
  · rw [if_neg h]
theorem s0_wa (i j : Nat) : am_wa (st_f am_s0) i j = -2 := by
  unfold am_wa
  split
  · exact s0_f (by omega)
  · rfl
theorem s0_st {p : Nat} (h : p < 30) : am_s0 3 p 0 = 45 := if_pos h
theorem am_m2n {p : Nat} (h : p < 1000) : (-2 : Int32) = nI p → False := fun e => am_m2 h e.symm
def am_rng (l lo r hi : Int32) : Prop := am_ins l lo ∧ am_ins r hi ∧ l ≤ r ∧ lo ≤ hi
def am_insb (x y : Int32) : Bool := decide ((0 ≤ x ∧ ¬ 12 ≤ x) ∧ 0 ≤ y ∧ ¬ 12 ≤ y)
def am_rngb (l lo r hi : Int32) : Bool := am_insb l lo && am_insb r hi && decide (l ≤ r) && decide (lo ≤ hi)
def am_pcb (p : Int32) : Bool := decide (0 ≤ p ∧ p ≤ 29)
theorem am_insb_t {x y : Int32} : am_insb x y = true ↔ am_ins x y := decide_eq_true_iff
theorem am_rngb_t {l lo r hi : Int32} : am_rngb l lo r hi = true ↔ am_rng l lo r hi := by
  unfold am_rngb am_rng
  rw [Bool.and_eq_true, Bool.and_eq_true, Bool.and_eq_true, am_insb_t, am_insb_t, decide_eq_true_iff, decide_eq_true_iff, and_assoc, and_assoc]
theorem am_pcb_t {p : Int32} : am_pcb p = true ↔ (0 ≤ p ∧ p ≤ 29) := decide_eq_true_iff
theorem am_pcb_n {p : Int32} (h : am_pcb p = true) : ∃ i : Nat, i < 30 ∧ p = nI i := by
  obtain ⟨h1, h2⟩ := am_pcb_t.mp h
  obtain ⟨i, hi, rfl⟩ := nI_of (x := p) (Int32.not_lt.mpr h1)
  have := (nI_leI (b := 29) (by omega) (by decide)).mp h2
  exact ⟨i, by omega, rfl⟩
theorem am_pcb_i {i : Nat} (h : i < 30) : am_pcb (nI i) = true := am_pcb_t.mpr ⟨(nI_leI (a := 0) (by decide) (by omega)).mpr (by omega), (nI_leI (b := 29) (by omega) (by decide)).mpr (by omega)⟩
/-- cells from a on, b of them, may change; no other -/
def am_kb (b N : Nat) (E E' : am_E) : Prop := ∀ k, k < b ∨ b + N ≤ k → E' k = E k
theorem am_kb_r (b N : Nat) (E : am_E) : am_kb b N E E := fun _ _ => rfl
theorem am_kb_t {b N : Nat} {E E' E'' : am_E} (h : am_kb b N E E') (h2 : am_kb b N E' E'') : am_kb b N E E'' := fun k hk => (h2 k hk).trans (h k hk)
theorem am_kb_u {b N k : Nat} {E E' : am_E} {e : va_E} (h : am_kb b N E E') (h1 : b ≤ k) (h2 : k < b + N) : am_kb b N E (am_u E' k e) := fun j hj => by
  rw [am_uN (by omega)]
  exact h j hj
theorem am_kb_ke {b N : Nat} {S : List Nat} {E E' : am_E} (h : am_ke S E E') (hS : ∀ k ∈ S, b ≤ k ∧ k < b + N) : am_kb b N E E' := fun k hk => h k (fun q => by have := hS k q; omega)
/-- what a call answers, and the state behind it -/
abbrev am_R : Type := am_O × am_St
def r_i (v : Int32) (σ : am_St) : am_R := (.inl (some (.int v)), σ)
def r_x (C : String) (σ : am_St) : am_R := (.inr C, σ)
abbrev x_IA : String := "java/lang/IllegalArgumentException"
abbrev x_IO : String := "java/lang/IndexOutOfBoundsException"
abbrev x_UO : String := "java/lang/UnsupportedOperationException"
abbrev x_IS : String := "java/lang/IllegalStateException"
abbrev x_NE : String := "java/util/NoSuchElementException"
def am_api (b n : Nat) (E : am_E) (K : am_P) (r : am_R) : Prop := ∀ E' : am_E, am_HS b E' r.2 → am_kb b 214 E E' → K r.1 n E'
/-! which cells speak of what -/
def hs_obj (b : Nat) (g : Nat → Nat → Nat) : va_E := .inr (7, [.ref (b + 1), .ref (b + 3), .ref (b + 4), .ref (b + 5), .int (nI (g 0 0)), .int (nI (g 8 0)), .int (nI (g 6 0)), .int (nI (g 4 0)), .int (nI (g 5 0)), .int (nI (g 3 0)), .int (nI (g 7 0)), .ref (b + 6), .ref (b + 9), .ref (b + 12), .ref (b + 15), .ref (b + 16)])
theorem hs_top_0 (b : Nat) (σ : am_St) (τ : Nat → Nat → Nat → Bool) (w : Nat → Int32) (u : Nat → Bool) : hs_top b σ τ w u 0 = hs_obj b (σ 15) := rfl
section HSC
variable {b : Nat} {E : am_E} {σ σ' : am_St} {τ τ' : Nat → Nat → Nat → Bool} {w w' : Nat → Int32} {u u' : Nat → Bool}
theorem hs_top_cg (h0 : σ' 0 = σ 0) (h14 : σ' 14 = σ 14) (h1 : σ' 15 1 0 = σ 15 1 0) (h2 : σ' 15 2 0 = σ 15 2 0) {k : Nat} (hk : k ≠ 0) : hs_top b σ' τ w u k = hs_top b σ τ w u k := by
  have e1 : st_f σ' = st_f σ := by unfold st_f; rw [h0]
  have e2 : st_b σ' = st_b σ := by unfold st_b; rw [h14]
  unfold hs_top
  split <;> first | rfl | exact absurd rfl hk | rw [e1] | rw [e2, h1, h2]
theorem hs_top_fr (h0 : σ' 0 = σ 0) (h15 : ∀ i, i ≠ 1 → i ≠ 2 → σ' 15 i 0 = σ 15 i 0) {k : Nat} (hk : k ≠ 5) : hs_top b σ' τ w u k = hs_top b σ τ w u k := by
  have e1 : st_f σ' = st_f σ := by unfold st_f; rw [h0]
  unfold hs_top
  split <;> first | rfl | exact absurd rfl hk | rw [e1] | rw [h15 0 (by decide) (by decide), h15 3 (by decide) (by decide), h15 4 (by decide) (by decide), h15 5 (by decide) (by decide), h15 6 (by decide) (by decide), h15 7 (by decide) (by decide), h15 8 (by decide) (by decide)]
theorem hs_top_wl (h14 : σ' 14 = σ 14) (h15 : σ' 15 = σ 15) {k : Nat} (hk : k ≠ 2) : hs_top b σ' τ w u k = hs_top b σ τ w u k := by
  have e2 : st_b σ' = st_b σ := by unfold st_b; rw [h14]
  unfold hs_top
  split <;> first | rfl | exact absurd rfl hk | rw [e2, h15] | rw [h15]
theorem hs_top_tau (i : Nat) {k : Nat} (hk : k ≠ 7 + i + i / 2) (hτ : ∀ j, j ≠ i → τ' j = τ j) : hs_top b σ τ' w u k = hs_top b σ τ w u k := by
  unfold hs_top
  split <;> first | rfl | (rw [hτ]; omega)
theorem hs_top_w {k : Nat} (hk : k ≠ 15) : hs_top b σ τ w' u k = hs_top b σ τ w u k := by
  unfold hs_top
  split <;> first | rfl | exact absurd rfl hk
theorem am_n17 {k : Nat} (h0 : k = 0 → False) (h1 : k = 1 → False) (h2 : k = 2 → False) (h3 : k = 3 → False) (h4 : k = 4 → False) (h5 : k = 5 → False) (h6 : k = 6 → False) (h7 : k = 7 → False) (h8 : k = 8 → False) (h9 : k = 9 → False) (h10 : k = 10 → False) (h11 : k = 11 → False) (h12 : k = 12 → False) (h13 : k = 13 → False) (h14 : k = 14 → False) (h15 : k = 15 → False) (h16 : k = 16 → False) : ¬ k < 17 := fun h => by
  refine (Nat.lt_succ_iff_lt_or_eq.mp h).elim (fun h => ?_) h16
  refine (Nat.lt_succ_iff_lt_or_eq.mp h).elim (fun h => ?_) h15
  refine (Nat.lt_succ_iff_lt_or_eq.mp h).elim (fun h => ?_) h14
  refine (Nat.lt_succ_iff_lt_or_eq.mp h).elim (fun h => ?_) h13
  refine (Nat.lt_succ_iff_lt_or_eq.mp h).elim (fun h => ?_) h12
  refine (Nat.lt_succ_iff_lt_or_eq.mp h).elim (fun h => ?_) h11
  refine (Nat.lt_succ_iff_lt_or_eq.mp h).elim (fun h => ?_) h10
  refine (Nat.lt_succ_iff_lt_or_eq.mp h).elim (fun h => ?_) h9
  refine (Nat.lt_succ_iff_lt_or_eq.mp h).elim (fun h => ?_) h8
  refine (Nat.lt_succ_iff_lt_or_eq.mp h).elim (fun h => ?_) h7
  refine (Nat.lt_succ_iff_lt_or_eq.mp h).elim (fun h => ?_) h6
  refine (Nat.lt_succ_iff_lt_or_eq.mp h).elim (fun h => ?_) h5
  refine (Nat.lt_succ_iff_lt_or_eq.mp h).elim (fun h => ?_) h4
  refine (Nat.lt_succ_iff_lt_or_eq.mp h).elim (fun h => ?_) h3
  refine (Nat.lt_succ_iff_lt_or_eq.mp h).elim (fun h => ?_) h2
  refine (Nat.lt_succ_iff_lt_or_eq.mp h).elim (fun h => ?_) h1
  refine (Nat.lt_succ_iff_lt_or_eq.mp h).elim (fun h => ?_) h0
  exact absurd h (Nat.not_lt_zero _)
theorem hs_top_u {k : Nat} (hk : k ≠ 17) (hk2 : k < 18) : hs_top b σ τ w u' k = hs_top b σ τ w u k := by
  have hk3 : k < 17 := by omega
  clear hk hk2
  unfold hs_top
  split <;> first | rfl | (rename_i h0 h1 h2 h3 h4 h5 h6 h7 h8 h9 h10 h11 h12 h13 h14 h15 h16; exact absurd hk3 (am_n17 h0 h1 h2 h3 h4 h5 h6 h7 h8 h9 h10 h11 h12 h13 h14 h15 h16))
theorem hs_pane_cg {i : Nat} (h : ∀ q, 1 ≤ q → q ≤ 8 → σ' q i = σ q i) (c : Nat) : hs_pane b σ' i c = hs_pane b σ i c := by
  have e8 : st_y σ' i = st_y σ i := by unfold st_y; rw [h 8 (by decide) (by decide)]
  unfold hs_pane
  rw [h 1 (by decide) (by decide), h 2 (by decide) (by decide), h 3 (by decide) (by decide), h 4 (by decide) (by decide), h 5 (by decide) (by decide), h 6 (by decide) (by decide), h 7 (by decide) (by decide), e8]
theorem hs_pane_0 {i c : Nat} (h : ∀ q, 6 ≤ q → q ≤ 8 → σ' q i = σ q i) (hc : c ≠ 0) : hs_pane b σ' i c = hs_pane b σ i c := by
  have e8 : st_y σ' i = st_y σ i := by unfold st_y; rw [h 8 (by decide) (by decide)]
  unfold hs_pane
  split <;> first | rfl | exact absurd rfl hc | rw [h 6 (by decide) (by decide)] | rw [h 7 (by decide) (by decide)] | rw [e8]
theorem hs_sheet_cg {j : Nat} (h : ∀ q, 9 ≤ q → q ≤ 13 → σ' q j = σ q j) (c : Nat) : hs_sheet b σ' j c = hs_sheet b σ j c := by
  have e13 : st_u σ' j = st_u σ j := by unfold st_u; rw [h 13 (by decide) (by decide)]
  unfold hs_sheet
  rw [h 9 (by decide) (by decide), h 10 (by decide) (by decide), h 11 (by decide) (by decide), h 12 (by decide) (by decide), e13]
theorem hs_sheet_0 {j c : Nat} (h : σ' 13 j = σ 13 j) (hc : c ≠ 0) : hs_sheet b σ' j c = hs_sheet b σ j c := by
  have e13 : st_u σ' j = st_u σ j := by unfold st_u; rw [h]
  unfold hs_sheet
  split <;> first | exact absurd rfl hc | rw [e13]
theorem hsE_top {k0 : Nat} (hk0 : k0 < 18) (ht : ∀ k, k < 18 → k ≠ k0 → hs_top b σ' τ' w' u' k = hs_top b σ τ w u k) (h : ∀ q, 1 ≤ q → q ≤ 13 → σ' q = σ q) : ∀ k, k < 214 → k ≠ k0 → hsE b σ' τ' w' u' k = hsE b σ τ w u k := fun k hk hn => by
  unfold hsE
  by_cases h1 : k < 18
  · rw [if_pos h1, if_pos h1]
    exact ht k h1 hn
  · rw [if_neg h1, if_neg h1]
    rw [hs_pane_cg (fun q a1 a2 => by rw [h q a1 (by omega)]), hs_sheet_cg (fun q a1 a2 => by rw [h q (by omega) a2])]
/-- the hall's own numbers -/
theorem hs_set (h : am_HT b E σ τ w u) (hi : am_iv σ') (hq : ∀ q, q ≠ 15 → σ' q = σ q) (h1 : σ' 15 1 0 = σ 15 1 0) (h2 : σ' 15 2 0 = σ 15 2 0) {e : va_E} (he : e = hs_top b σ' τ w u 0) : am_HT b (am_u E b e) σ' τ w u :=
  hs_u (k0 := 0) h hi h.2.1 h.2.2.1 (he.trans (by unfold hsE; rw [if_pos (by decide)])) (hsE_top (by decide) (fun k _ hk => hs_top_cg (hq 0 (by decide)) (hq 14 (by decide)) h1 h2 hk) (fun q a1 a2 => hq q (by omega)))
theorem hs_setf (h : am_HT b E σ τ w u) (hi : am_iv σ') (hq : ∀ q, q ≠ 14 → q ≠ 15 → σ' q = σ q) (h15 : ∀ i, i ≠ 1 → i ≠ 2 → σ' 15 i 0 = σ 15 i 0) {e : va_E} (he : e = hs_top b σ' τ w u 5) : am_HT b (am_u E (b + 5) e) σ' τ w u :=
  hs_u (k0 := 5) h hi h.2.1 h.2.2.1 (he.trans (by unfold hsE; rw [if_pos (by decide)])) (hsE_top (by decide) (fun k _ hk => hs_top_fr (hq 0 (by decide) (by decide)) h15 hk) (fun q a1 a2 => hq q (by omega) (by omega)))
theorem hs_setw (h : am_HT b E σ τ w u) (hi : am_iv σ') (hq : ∀ q, q ≠ 0 → σ' q = σ q) {e : va_E} (he : e = .inl (0, 144, .inl (st_f σ'))) : am_HT b (am_u E (b + 2) e) σ' τ w u :=
  hs_u (k0 := 2) h hi h.2.1 h.2.2.1 (he.trans (by unfold hsE; rw [if_pos (by decide)]; rfl)) (hsE_top (by decide) (fun k _ hk => hs_top_wl (hq 14 (by decide)) (hq 15 (by decide)) hk) (fun q a1 a2 => hq q (by omega)))
theorem hs_tau (h : am_HT b E σ τ w u) {i : Nat} (hi : i < 6) {P : Nat → Nat → Bool} (hP : am_sup P) : am_HT b (am_u E (b + (7 + i + i / 2)) (am_rwE P)) σ (fun j => if j = i then P else τ j) w u :=
  hs_u (k0 := 7 + i + i / 2) h h.1 (fun j => by by_cases hj : j = i <;> simp [hj, hP, h.2.1]) h.2.2.1 (by
    unfold hsE
    rw [if_pos (by omega)]
    rcases (show i = 0 ∨ i = 1 ∨ i = 2 ∨ i = 3 ∨ i = 4 ∨ i = 5 by omega) with rfl | rfl | rfl | rfl | rfl | rfl <;> rfl) (hsE_top (by omega) (fun k _ hk => hs_top_tau i hk (fun j hj => if_neg hj)) (fun q _ _ => rfl))
theorem hs_waits (h : am_HT b E σ τ w u) {g : Nat → Int32} : am_HT b (am_u E (b + 15) (.inl (0, 30, .inl g))) σ τ g u :=
  hs_u (k0 := 15) h h.1 h.2.1 h.2.2.1 (by unfold hsE; rw [if_pos (by decide)]; rfl) (hsE_top (by decide) (fun k _ hk => hs_top_w hk) (fun q _ _ => rfl))
theorem hs_unl (h : am_HT b E σ τ w u) {Y : Nat → Bool} (hY : am_ysup Y) : am_HT b (am_u E (b + 17) (am_ywE Y)) σ τ w Y :=
  hs_u (k0 := 17) h h.1 h.2.1 hY (by unfold hsE; rw [if_pos (by decide)]; rfl) (hsE_top (by decide) (fun k h1 hk => hs_top_u hk h1) (fun q _ _ => rfl))
/-- a pane's own numbers -/
theorem hs_setp (h : am_HT b E σ τ w u) (hi : am_iv σ') {p : Nat} (hp : p < 30) (hq : ∀ q, ¬ (1 ≤ q ∧ q ≤ 5) → σ' q = σ q) (hj : ∀ q j, j ≠ p → σ' q j = σ q j) {e : va_E} (he : e = hs_pane b σ' p 0) : am_HT b (am_u E (b + 18 + 6 * p) e) σ' τ w u := by
  have := hs_u (k0 := 18 + 6 * p) (e := e) h hi h.2.1 h.2.2.1 (he.trans (by
    unfold hsE
    rw [if_neg (by omega), if_pos (by omega), show (18 + 6 * p - 18) / 6 = p by omega, show (18 + 6 * p - 18) % 6 = 0 by omega])) (fun k hk hn => by
    unfold hsE
    by_cases h1 : k < 18
    · rw [if_pos h1, if_pos h1]
      by_cases hk0 : k = 0
      · subst hk0
        rw [hs_top_0, hs_top_0, hq 15 (by omega)]
      · exact hs_top_cg (hq 0 (by omega)) (hq 14 (by omega)) (by rw [hq 15 (by omega)]) (by rw [hq 15 (by omega)]) hk0
    · rw [if_neg h1, if_neg h1]
      by_cases h2 : k < 198
      · rw [if_pos h2, if_pos h2]
        by_cases h3 : (k - 18) / 6 = p
        · exact hs_pane_0 (fun q a1 a2 => by rw [hq q (by omega)]) (by omega)
        · exact hs_pane_cg (fun q a1 a2 => hj q _ h3) _
      · rw [if_neg h2, if_neg h2]
        exact hs_sheet_cg (fun q a1 a2 => by rw [hq q (by omega)]) _)
  rw [show b + (18 + 6 * p) = b + 18 + 6 * p by omega] at this
  exact this
/-- a sheet's own numbers -/
theorem hs_sets (h : am_HT b E σ τ w u) (hi : am_iv σ') {j : Nat} (hp : j < 8) (hq : ∀ q, ¬ (9 ≤ q ∧ q ≤ 12) → σ' q = σ q) (hj : ∀ q i, i ≠ j → σ' q i = σ q i) {e : va_E} (he : e = hs_sheet b σ' j 0) : am_HT b (am_u E (b + 198 + 2 * j) e) σ' τ w u := by
  have := hs_u (k0 := 198 + 2 * j) (e := e) h hi h.2.1 h.2.2.1 (he.trans (by
    unfold hsE
    rw [if_neg (by omega), if_neg (by omega), show (198 + 2 * j - 198) / 2 = j by omega, show (198 + 2 * j - 198) % 2 = 0 by omega])) (fun k hk hn => by
    unfold hsE
    by_cases h1 : k < 18
    · rw [if_pos h1, if_pos h1]
      by_cases hk0 : k = 0
      · subst hk0
        rw [hs_top_0, hs_top_0, hq 15 (by omega)]
      · exact hs_top_cg (hq 0 (by omega)) (hq 14 (by omega)) (by rw [hq 15 (by omega)]) (by rw [hq 15 (by omega)]) hk0
    · rw [if_neg h1, if_neg h1]
      by_cases h2 : k < 198
      · rw [if_pos h2, if_pos h2]
        exact hs_pane_cg (fun q a1 a2 => by rw [hq q (by omega)]) _
      · rw [if_neg h2, if_neg h2]
        by_cases h3 : (k - 198) / 2 = j
        · rw [h3]
          exact hs_sheet_0 (by rw [hq 13 (by omega)]) (by omega)
        · exact hs_sheet_cg (fun q a1 a2 => hj q _ h3) _)
  rw [show b + (198 + 2 * j) = b + 198 + 2 * j by omega] at this
  exact this
theorem hs_panes (h : am_HT b E σ τ w u) : E (b + 3) = some (.inl (5, 30, .inr (.inr (.inr (.inr (fun k => if k < 30 then some (b + 18 + 6 * k) else none)))))) := hs_t h 3 (by decide)
theorem hs_sheets (h : am_HT b E σ τ w u) : E (b + 4) = some (.inl (6, 8, .inr (.inr (.inr (.inr (fun k => if k < 8 then some (b + 198 + 2 * k) else none)))))) := hs_t h 4 (by decide)
theorem hs_shape (h : am_HT b E σ τ w u) : am_so E (b + 6) (b + 7) (b + 8) := hs_t h 6 (by decide)
theorem hs_near (h : am_HT b E σ τ w u) : am_so E (b + 9) (b + 10) (b + 11) := hs_t h 9 (by decide)
theorem hs_far (h : am_HT b E σ τ w u) : am_so E (b + 12) (b + 13) (b + 14) := hs_t h 12 (by decide)
theorem hs_row (h : am_HT b E σ τ w u) {i : Nat} (hi : i < 6) : am_sr E (b + (7 + i + i / 2)) (τ i) := by
  have := hs_t h (7 + i + i / 2) (by omega)
  rcases (show i = 0 ∨ i = 1 ∨ i = 2 ∨ i = 3 ∨ i = 4 ∨ i = 5 by omega) with rfl | rfl | rfl | rfl | rfl | rfl <;> exact this
theorem hs_wts (h : am_HT b E σ τ w u) : E (b + 15) = some (.inl (0, 30, .inl w)) := hs_t h 15 (by decide)
theorem hs_unlike (h : am_HT b E σ τ w u) : am_yo E (b + 16) (b + 17) u := ⟨hs_t h 16 (by decide), hs_t h 17 (by decide)⟩
theorem am_ch_st (h : am_iv σ) {p : Nat} (hp : p < 30) : am_ch (nI (σ 3 p 0)) := by
  rcases (h.2.1 p hp).2.2.1 with e | e | e | e <;> (rw [e]; exact ⟨_, by decide, rfl⟩)
theorem am_ch_wk (h : am_iv σ) {p : Nat} (hp : p < 30) : am_ch (nI (σ 2 p 0)) := by
  rcases (h.2.1 p hp).2.1 with e | e | e <;> (rw [e]; exact ⟨_, by decide, rfl⟩)
end HSC
