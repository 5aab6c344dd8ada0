/-! ===== rows for walks over the abstract machine ===== -/
theorem am_nb0 : narrow .boolean (.int 0) = .int 0 := rfl
theorem am_nb1 : narrow .boolean (.int 1) = .int 1 := rfl
theorem am_ni (x : Int32) : narrow .int (.int x) = .int x := rfl
theorem am_nz {p : Prop} [Decidable p] : narrow .boolean (.int (if p then 1 else 0)) = .int (if p then 1 else 0) := by split <;> rfl
theorem am_fi (x : Int32) : am_fit .int (.int x) = True := eq_true (fun _ _ => ⟨rfl, rfl⟩)
theorem am_fr (a : Nat) (C : String) : am_fit (.object C) (.ref a) = True := eq_true (fun _ _ => ⟨rfl, rfl⟩)
theorem am_fra (a : Nat) (t : FieldType) : am_fit (.array t) (.ref a) = True := eq_true (fun _ _ => ⟨rfl, rfl⟩)
theorem am_fz0 : am_fit .boolean (.int 0) = True := eq_true (fun _ _ => ⟨rfl, rfl⟩)
theorem am_fz1 : am_fit .boolean (.int 1) = True := eq_true (fun _ _ => ⟨rfl, rfl⟩)
theorem am_fl (x : Int64) : am_fit .long (.long x) = True := eq_true (fun _ _ => ⟨rfl, rfl⟩)
theorem am_fc {q : Nat} (h : q < 65536) : am_fit .char (.int (nI q)) = True := eq_true (fun _ _ => pk_charN h)
theorem am_vi {i N : Nat} (h : i < N) (hN : N < 2 ^ 31) : vp_in (nI i) N = True := eq_true (vp_in_nI h hN)
theorem am_cl {i : Nat} (h : i < 2 ^ 31) : (nI i).toNatClampNeg = i := nI_clamp h
theorem am_uE {E : am_E} {k : Nat} {e : va_E} : am_u E k e k = some e := if_pos rfl
theorem am_uN {E : am_E} {k j : Nat} {e : va_E} (h : j ≠ k) : am_u E k e j = E j := if_neg h
theorem am_vnI (x : Int32) : vp_nar .int x = x := rfl
theorem am_lit0 : (0 : Int32) = nI 0 := rfl
/-- a loop that counts up to N -/
theorem am_for (P : Nat → Prop) (N : Nat) (hN : P N) (hs : ∀ i, i < N → P (i + 1) → P i) : ∀ i, i ≤ N → P i := by
  intro i hi
  obtain ⟨d, hd⟩ : ∃ d, N = i + d := ⟨N - i, by omega⟩
  induction d generalizing i with
  | zero =>
    have : i = N := by omega
    rw [this]
    exact hN
  | succ d ih => exact hs i (by omega) (ih (i + 1) (by omega) (by omega))
theorem am_geN {a b : Nat} (ha : a < 2 ^ 31) (hb : b < 2 ^ 31) : (nI a ≤ nI b) = (a ≤ b) := propext (nI_leI ha hb)
theorem am_ltN {a b : Nat} (ha : a < 2 ^ 31) (hb : b < 2 ^ 31) : (nI a < nI b) = (a < b) := propext (nI_ltI ha hb)
theorem am_eqN {a b : Nat} (ha : a < 2 ^ 31) (hb : b < 2 ^ 31) : (nI a = nI b) = (a = b) := propext (nI_eq ha hb)
theorem am_ltx (a b : Int32) : (a < b) = ¬ (b ≤ a) := propext Int32.not_le.symm
