theorem rmc_L_law : rm_L_law.cells = 601024 := rfl
theorem rms_L_law : rm_L_law.slots = 7293034 := rfl
/-! ===== the law's run: a call in any state, in any round ===== -/
abbrev lw_LG (i : Nat) (l6 l7 l8 : Option Value) : am_L := [some (.retAddr 0), some (.ref 0), some (.ref 214), some (.ref 335), some (.ref 336), some (.int (nI i)), l6, l7, l8]
def lw_T (σ : am_St) (E : am_E) : Prop := am_HS 0 E σ ∧ (∃ thr, am_MS 214 E σ thr) ∧ am_iw σ ∧ (∃ g, E 335 = some (.inl (1, 1, .inr (.inl g)))) ∧ ∃ g : Nat → UInt64, E 336 = some (.inl (4, 1, .inr (.inr (.inr (.inl g)))))
def lw_N (G : Nat → am_C) (i q : Nat) : Prop := ∀ (σ : am_St) (n : Nat) (E : am_E) (l6 l7 l8 : Option Value) (ca sl : Nat), 337 ≤ n → lw_T σ E → ca ≤ 337 + 1173 * (q + 1) → sl ≤ 63960 + 14119 * (q + 1) → G 1600 (lw_LG i l6 l7 l8) [] n E ca sl
theorem lw_mt {m : Nat} {E E' : am_E} {σ : am_St} {lm : Nat → Nat} {lk : Nat → Nat → Nat} {lf : Nat → Nat → Bool} {thr : Int32} (h : am_MT m E σ lm lk lf thr) (he : ∀ k, m ≤ k → k < m + 121 → E' k = E k) : am_MT m E' σ lm lk lf thr := ⟨h.1, h.2.1, fun k hk => (he _ (by omega) (by omega)).trans (h.2.2 k hk)⟩
theorem lw_m0 {m : Nat} {E : am_E} {σ : am_St} {lm : Nat → Nat} {lk : Nat → Nat → Nat} {lf : Nat → Nat → Bool} {thr : Int32} (h : am_MT m E σ lm lk lf thr) : ∃ fs, E m = some (.inr (8, fs)) := ⟨_, ms_0 h⟩
theorem lw_h0 {b : Nat} {E : am_E} {σ : am_St} (h : am_HS b E σ) : ∃ fs, E b = some (.inr (7, fs)) := by
  obtain ⟨τ, w, u, h⟩ := h
  exact ⟨_, hs_hall h⟩
theorem lw_hs {b : Nat} {E E' : am_E} {σ : am_St} (h : am_HS b E σ) (he : ∀ k, b ≤ k → k < b + 214 → E' k = E k) : am_HS b E' σ := by
  obtain ⟨τ, w, u, h1, h2, h3, h4⟩ := h
  exact ⟨τ, w, u, h1, h2, h3, fun k hk => by rw [he _ (by omega) (by omega)]; exact h4 k hk⟩
theorem lw_end {σ : am_St} {n : Nat} {E1 E2 : am_E} {thr : Int32} (hn : 337 ≤ n) (hH : am_HS 0 E1 σ) (hM : am_MS 214 E2 σ thr) (hk : am_km 214 n E1 E2) (hw : am_iw σ) (h335 : ∃ g, E1 335 = some (.inl (1, 1, .inr (.inl g)))) (h336 : ∃ g : Nat → UInt64, E1 336 = some (.inl (4, 1, .inr (.inr (.inr (.inl g)))))) : lw_T σ E2 := by
  obtain ⟨g, hg⟩ := h335
  obtain ⟨g2, hg2⟩ := h336
  exact ⟨lw_hs hH (fun k _ h2 => hk k (by omega) (by omega)), ⟨thr, hM⟩, hw, ⟨g, (hk 335 (by omega) (by omega)).trans hg⟩, ⟨g2, (hk 336 (by omega) (by omega)).trans hg2⟩⟩
theorem lw_ix : ∀ (L : List String) (C : String), C ∈ L → am_ix L C < L.length
  | a :: l, C, h => by
    unfold am_ix
    by_cases e : a = C
    · rw [if_pos e]; simp
    · rw [if_neg e]
      have := lw_ix l C ((List.mem_cons.mp h).resolve_left (fun q => e q.symm))
      simpa using this
theorem lw_thne {L : List String} {C : String} (h : C ∈ L) (hL : L.length < 100) : ¬ nI (am_th L (.inr C)) = 0 := by
  have h1 := lw_ix L C h
  exact nI_ne0 (show 0 < am_ix L C + 1 by omega) (show am_ix L C + 1 < _ by omega)
theorem lw_i2c (x : Int32) : ∃ q : Nat, q < 65536 ∧ (x.toUInt32 % 65536).toInt32 = nI q := by
  refine ⟨(x.toUInt32 % 65536).toNat, ?_, ?_⟩
  · rw [UInt32.toNat_mod]
    exact Nat.mod_lt _ (by decide)
  · apply Int32.toBitVec_inj.1
    apply BitVec.eq_of_toNat_eq
    show (x.toUInt32 % 65536).toNat = (BitVec.ofNat 32 (x.toUInt32 % 65536).toNat).toNat
    rw [BitVec.toNat_ofNat, Nat.mod_eq_of_lt (x.toUInt32 % 65536).toNat_lt]
theorem lw_nat (x : Int32) : ∃ a : Nat, a < 2 ^ 32 ∧ x = nI a := by
  refine ⟨x.toUInt32.toNat, x.toUInt32.toNat_lt, ?_⟩
  apply Int32.toBitVec_inj.1
  apply BitVec.eq_of_toNat_eq
  show x.toUInt32.toNat = (BitVec.ofNat 32 x.toUInt32.toNat).toNat
  rw [BitVec.toNat_ofNat, Nat.mod_eq_of_lt x.toUInt32.toNat_lt]
theorem lw_cmp (x : Int64) : lg_cmp x x = 0 := by
  unfold lg_cmp
  simp
theorem iw_pieceAt {σ : am_St} (h : am_iw σ) (x0 x1 : Int32) : am_iwr (q_pieceAt σ x0 x1) := by
  unfold q_pieceAt
  repeat' (first | refine am_iwr_f (fun _ => ?_) (fun _ => ?_) | exact am_iwr_i h | exact am_iwr_x h)
theorem iw_size {σ : am_St} (h : am_iw σ) (x0 : Int32) : am_iwr (q_size σ x0) := by
  unfold q_size am_pc
  repeat' (first | refine am_iwr_f (fun _ => ?_) (fun _ => ?_) | exact am_iwr_i h | exact am_iwr_x h)
theorem iw_corners {σ : am_St} (h : am_iw σ) (x0 : Int32) : am_iwr (q_corners σ x0) := by
  unfold q_corners am_pc
  repeat' (first | refine am_iwr_f (fun _ => ?_) (fun _ => ?_) | exact am_iwr_i h | exact am_iwr_x h)
theorem iw_point {σ : am_St} (h : am_iw σ) (x0 : Int32) : am_iwr (q_point σ x0) := by
  unfold q_point am_pc
  repeat' (first | refine am_iwr_f (fun _ => ?_) (fun _ => ?_) | exact am_iwr_i h | exact am_iwr_x h)
theorem iw_hinders {σ : am_St} (h : am_iw σ) (x0 : Int32) : am_iwr (q_hinders σ x0) := by
  unfold q_hinders am_pc
  repeat' (first | refine am_iwr_f (fun _ => ?_) (fun _ => ?_) | exact am_iwr_i h | exact am_iwr_x h)
theorem iw_free {σ : am_St} (h : am_iw σ) (x0 : Int32) : am_iwr (q_free σ x0) := by
  unfold q_free
  repeat' (first | refine am_iwr_f (fun _ => ?_) (fun _ => ?_) | exact am_iwr_i h | exact am_iwr_x h)
theorem iw_glass {σ : am_St} (h : am_iw σ) (x0 : Int32) : am_iwr (q_glass σ x0) := by
  unfold q_glass am_pc
  repeat' (first | refine am_iwr_f (fun _ => ?_) (fun _ => ?_) | exact am_iwr_i h | exact am_iwr_x h)
theorem iw_colour {σ : am_St} (h : am_iw σ) (x0 : Int32) : am_iwr (q_colour σ x0) := by
  unfold q_colour am_gl
  repeat' (first | refine am_iwr_f (fun _ => ?_) (fun _ => ?_) | exact am_iwr_i h | exact am_iwr_x h)
theorem iw_layers {σ : am_St} (h : am_iw σ) (x0 x1 : Int32) : am_iwr (q_layers σ x0 x1) := by
  unfold q_layers
  repeat' (first | refine am_iwr_f (fun _ => ?_) (fun _ => ?_) | exact am_iwr_i h | exact am_iwr_x h)
theorem iw_looks {σ : am_St} (h : am_iw σ) (x0 x1 x2 : Int32) : am_iwr (q_looks σ x0 x1 x2) := by
  unfold q_looks
  repeat' (first | refine am_iwr_f (fun _ => ?_) (fun _ => ?_) | exact am_iwr_i h | exact am_iwr_x h)
theorem iw_year {σ : am_St} (h : am_iw σ) (x0 : Int32) : am_iwr (q_year σ x0) := by
  unfold q_year am_gl
  repeat' (first | refine am_iwr_f (fun _ => ?_) (fun _ => ?_) | exact am_iwr_i h | exact am_iwr_x h)
theorem iw_fits {σ : am_St} (h : am_iw σ) (x0 : Int32) : am_iwr (q_fits σ x0) := by
  unfold q_fits am_gl
  repeat' (first | refine am_iwr_f (fun _ => ?_) (fun _ => ?_) | exact am_iwr_i h | exact am_iwr_x h)
theorem lw_fv_litShare (σ : am_St) : ∃ x, am_vl (.float FP.fconst0) (q_litShare σ).1 = .float x := by
  unfold q_litShare
  generalize am_on σ = z
  by_cases c : z = 0
  · rw [if_pos c]; exact ⟨_, rfl⟩
  · rw [if_neg c]; exact ⟨_, rfl⟩
theorem lw_fv_meanCells (σ : am_St) : ∃ x, am_vl (.double FP.dconst0) (q_meanCells σ).1 = .double x := by
  unfold q_meanCells
  generalize am_pcs σ = z
  by_cases c : z = 0
  · rw [if_pos c]; exact ⟨_, rfl⟩
  · rw [if_neg c]; exact ⟨_, rfl⟩
