/-! ===== rows for walks over the abstract machine ===== -/
theorem am_nb0 : narrow .boolean (.int 0) = .int 0 := rfl
theorem am_nb1 : narrow .boolean (.int 1) = .int 1 := rfl
theorem am_ni (x : Int32) : narrow .int (.int x) = .int x := rfl
theorem am_nz {p : Prop} [Decidable p] : narrow .boolean (.int (if p then 1 else 0)) = .int (if p then 1 else 0) := by split <;> rfl
theorem am_fi (x : Int32) : am_fit .int (.int x) = True := eq_true (fun _ _ => ⟨rfl, rfl⟩)
theorem am_fr (a : Nat) (C : String) : am_fit (.object C) (.ref a) = True := eq_true (fun _ _ => ⟨rfl, rfl⟩)
theorem am_fra (a : Nat) (t : FieldType) : am_fit (.array t) (.ref a) = True := eq_true (fun _ _ => ⟨rfl, rfl⟩)
theorem am_fz0 : am_fit .boolean (.int 0) = True := eq_true (fun _ _ => ⟨rfl, rfl⟩)
theorem am_fz1 : am_fit .boolean (.int 1) = True := eq_true (fun _ _ => ⟨rfl, rfl⟩)
theorem am_fl (x : Int64) : am_fit .long (.long x) = True := eq_true (fun _ _ => ⟨rfl, rfl⟩)
theorem am_fc {q : Nat} (h : q < 65536) : am_fit .char (.int (nI q)) = True := eq_true (fun _ _ => pk_charN h)
theorem am_vi {i N : Nat} (h : i < N) (hN : N < 2 ^ 31) : vp_in (nI i) N = True := eq_true (vp_in_nI h hN)
theorem am_cl {i : Nat} (h : i < 2 ^ 31) : (nI i).toNatClampNeg = i := nI_clamp h
theorem am_uE {E : am_E} {k : Nat} {e : va_E} : am_u E k e k = some e := if_pos rfl
theorem am_uN {E : am_E} {k j : Nat} {e : va_E} (h : j ≠ k) : am_u E k e j = E j := if_neg h
theorem am_vnI (x : Int32) : vp_nar .int x = x := rfl
theorem am_lit0 : (0 : Int32) = nI 0 := rfl
/-- a loop that counts up to N -/
theorem am_for (P : Nat → Prop) (N : Nat) (hN : P N) (hs : ∀ i, i < N → P (i + 1) → P i) : ∀ i, i ≤ N → P i := by
  intro i hi
  obtain ⟨d, hd⟩ : ∃ d, N = i + d := ⟨N - i, by omega⟩
  induction d generalizing i with
  | zero =>
    have : i = N := by omega
    rw [this]
    exact hN
  | succ d ih => exact hs i (by omega) (ih (i + 1) (by omega) (by omega))
theorem am_geN {a b : Nat} (ha : a < 2 ^ 31) (hb : b < 2 ^ 31) : (nI a ≤ nI b) = (a ≤ b) := propext (nI_leI ha hb)
theorem am_ltN {a b : Nat} (ha : a < 2 ^ 31) (hb : b < 2 ^ 31) : (nI a < nI b) = (a < b) := propext (nI_ltI ha hb)
theorem am_eqN {a b : Nat} (ha : a < 2 ^ 31) (hb : b < 2 ^ 31) : (nI a = nI b) = (a = b) := propext (nI_eq ha hb)
theorem am_ltx (a b : Int32) : (a < b) = ¬ (b ≤ a) := propext Int32.not_le.symm
theorem am_10 : ((1 : Int32) = 0) = False := by decide
theorem am_01 : ((0 : Int32) = 1) = False := by decide
theorem am_ite0 (p : Prop) [Decidable p] : ((if p then (1 : Int32) else 0) = 0) = ¬ p := by
  by_cases h : p <;> simp [h]
theorem am_ite1 (p : Prop) [Decidable p] : ((if p then (1 : Int32) else 0) = 1) = p := by
  by_cases h : p <;> simp [h]
/-! ===== bits ===== -/
def am_bn (b : Nat → Bool) : Nat → Nat
  | 0 => 0
  | n + 1 => am_bn b n ||| (if b n then 2 ^ n else 0)
theorem am_bn_lt (b : Nat → Bool) (n : Nat) : am_bn b n < 2 ^ n := by
  induction n with
  | zero => simp [am_bn]
  | succ n ih =>
    have h1 : am_bn b n < 2 ^ (n + 1) := Nat.lt_trans ih (Nat.pow_lt_pow_right (by decide) (Nat.lt_succ_self n))
    have h2 : (if b n then 2 ^ n else 0) < 2 ^ (n + 1) := by
      split
      · exact Nat.pow_lt_pow_right (by decide) (Nat.lt_succ_self n)
      · exact Nat.two_pow_pos _
    exact Nat.or_lt_two_pow h1 h2
theorem am_bn_bit (b : Nat → Bool) (n i : Nat) : (am_bn b n).testBit i = (decide (i < n) && b i) := by
  induction n with
  | zero => simp [am_bn]
  | succ n ih =>
    simp only [am_bn, Nat.testBit_or, ih]
    by_cases hb : b n = true
    · simp only [hb, if_true, Nat.testBit_two_pow]
      by_cases hi : i = n
      · subst hi
        simp [hb]
      · have h1 : ¬ n = i := fun q => hi q.symm
        have h2 : (i < n + 1) = (i < n) := propext ⟨fun q => by omega, fun q => by omega⟩
        simp [h1, h2]
    · have hb : b n = false := by simpa using hb
      simp only [hb]
      by_cases hi : i = n
      · subst hi
        simp [hb]
      · have h2 : (i < n + 1) = (i < n) := propext ⟨fun q => by omega, fun q => by omega⟩
        simp [h2]
theorem am_bn_cg {b c : Nat → Bool} {n : Nat} (h : ∀ i, i < n → b i = c i) : am_bn b n = am_bn c n := by
  apply Nat.eq_of_testBit_eq
  intro i
  rw [am_bn_bit, am_bn_bit]
  by_cases hi : i < n
  · simp [hi, h i hi]
  · simp [hi]
theorem am_bn_of {a n : Nat} (h : a < 2 ^ n) : am_bn a.testBit n = a := by
  apply Nat.eq_of_testBit_eq
  intro i
  rw [am_bn_bit]
  by_cases hi : i < n
  · simp [hi]
  · simp [hi, Nat.testBit_lt_two_pow (Nat.lt_of_lt_of_le h (Nat.pow_le_pow_right (by decide) (Nat.not_lt.mp hi)))]
theorem am_bn_0 {b : Nat → Bool} {n : Nat} (h : ∀ i, i < n → b i = false) : am_bn b n = 0 := by
  apply Nat.eq_of_testBit_eq
  intro i
  rw [am_bn_bit]
  by_cases hi : i < n
  · simp [hi, h i hi]
  · simp [hi]
theorem am_bn_eq0 {b : Nat → Bool} {n : Nat} : am_bn b n = 0 ↔ ∀ i, i < n → b i = false := by
  refine ⟨fun h i hi => ?_, am_bn_0⟩
  have h1 := am_bn_bit b n i
  rw [h] at h1
  simpa [hi] using h1.symm
/-! ===== Int32 by its bits: bt x i ===== -/
def bt (x : Int32) (i : Nat) : Bool := x.toBitVec.getLsbD i
theorem b_ext {x y : Int32} (h : ∀ i, i < 32 → bt x i = bt y i) : x = y := Int32.toBitVec_inj.mp (BitVec.eq_of_getLsbD_eq (fun i hi => h i hi))
theorem b_or (x y : Int32) (i : Nat) : bt (x ||| y) i = (bt x i || bt y i) := by unfold bt; rw [Int32.toBitVec_or, BitVec.getLsbD_or]
theorem b_and (x y : Int32) (i : Nat) : bt (x &&& y) i = (bt x i && bt y i) := by unfold bt; rw [Int32.toBitVec_and, BitVec.getLsbD_and]
theorem b_xor (x y : Int32) (i : Nat) : bt (x ^^^ y) i = (bt x i ^^ bt y i) := by unfold bt; rw [Int32.toBitVec_xor, BitVec.getLsbD_xor]
theorem b_big {x : Int32} {i : Nat} (h : 32 ≤ i) : bt x i = false := BitVec.getLsbD_of_ge _ _ h
theorem b_255 (i : Nat) : bt 255 i = decide (i < 8) := by
  rcases Nat.lt_or_ge i 32 with h | h
  · exact (by decide +kernel : ∀ i, i < 32 → bt 255 i = decide (i < 8)) i h
  · rw [b_big h, decide_eq_false (by omega)]
theorem b_65535 (i : Nat) : bt 65535 i = decide (i < 16) := by
  rcases Nat.lt_or_ge i 32 with h | h
  · exact (by decide +kernel : ∀ i, i < 32 → bt 65535 i = decide (i < 16)) i h
  · rw [b_big h, decide_eq_false (by omega)]
theorem b_m1 : ∀ i, i < 32 → bt (-1) i = true := by decide +kernel
theorem b_0 (i : Nat) : bt 0 i = false := BitVec.getLsbD_zero
theorem s_l : ∀ n, n < 32 → ((nI n &&& 31).toBitVec.smod 32).toNat = n := by decide +kernel
theorem s_u : ∀ n, n < 32 → (((nI n).toUInt32 &&& Int32.toUInt32 31).toBitVec % 32).toNat = n := by decide +kernel
theorem b_shl (n : Nat) (hn : n < 32) (x : Int32) {i : Nat} (hi : i < 32) : bt (x <<< (nI n &&& 31)) i = (decide (n ≤ i) && bt x (i - n)) := by
  unfold bt
  rw [Int32.toBitVec_shiftLeft]
  show (x.toBitVec <<< ((nI n &&& 31).toBitVec.smod 32).toNat).getLsbD i = _
  rw [s_l n hn, BitVec.getLsbD_shiftLeft]
  rcases Nat.lt_or_ge i n with h | h
  · simp [h, Nat.not_le.mpr h]
  · simp [hi, h, Nat.not_lt.mpr h]
theorem b_ushr (n : Nat) (hn : n < 32) (x : Int32) (i : Nat) : bt ((x.toUInt32 >>> ((nI n).toUInt32 &&& Int32.toUInt32 31)).toInt32) i = bt x (n + i) := by
  show (x.toUInt32 >>> ((nI n).toUInt32 &&& Int32.toUInt32 31)).toBitVec.getLsbD i = x.toUInt32.toBitVec.getLsbD (n + i)
  rw [UInt32.toBitVec_shiftRight]
  show (x.toUInt32.toBitVec >>> (((nI n).toUInt32 &&& Int32.toUInt32 31).toBitVec % 32).toNat).getLsbD i = _
  rw [s_u n hn, BitVec.getLsbD_ushiftRight]
theorem b_sshr (n : Nat) (hn : n < 32) (x : Int32) {i : Nat} (hi : i < 32) : bt (x >>> (nI n &&& 31)) i = if n + i < 32 then bt x (n + i) else bt x 31 := by
  unfold bt
  rw [Int32.toBitVec_shiftRight]
  show (x.toBitVec.sshiftRight ((nI n &&& 31).toBitVec.smod 32).toNat).getLsbD i = _
  rw [s_l n hn, BitVec.getLsbD_sshiftRight, BitVec.msb_eq_getLsbD_last]
  simp [hi]
theorem b_shl8 (x : Int32) {i : Nat} (hi : i < 32) : bt (x <<< ((8 : Int32) &&& 31)) i = (decide (8 ≤ i) && bt x (i - 8)) := b_shl 8 (by omega) x hi
/-! ===== end of the pasted family ===== -/
theorem bt_nI (n i : Nat) : bt (nI n) i = (decide (i < 32) && n.testBit i) := by
  show (BitVec.ofNat 32 n).getLsbD i = _
  rw [BitVec.getLsbD_ofNat]
theorem am_and (a b : Nat) : nI a &&& nI b = nI (a &&& b) := b_ext fun i hi => by
  rw [b_and, bt_nI, bt_nI, bt_nI, Nat.testBit_and]; simp [hi]
theorem am_or (a b : Nat) : nI a ||| nI b = nI (a ||| b) := b_ext fun i hi => by
  rw [b_or, bt_nI, bt_nI, bt_nI, Nat.testBit_or]; simp [hi]
theorem am_shl (a : Nat) {k : Nat} (hk : k < 32) : nI a <<< (nI k &&& 31) = nI (a <<< k) := b_ext fun i hi => by
  rw [b_shl k hk _ hi, bt_nI, bt_nI, Nat.testBit_shiftLeft]
  by_cases h : k ≤ i
  · simp [h, hi, show i - k < 32 by omega]
  · simp [h]
theorem am_shr {a k : Nat} (ha : a < 2 ^ 31) (hk : k < 32) : nI a >>> (nI k &&& 31) = nI (a >>> k) := b_ext fun i hi => by
  rw [b_sshr k hk _ hi, bt_nI, bt_nI, bt_nI, Nat.testBit_shiftRight]
  by_cases h : k + i < 32
  · simp [h, hi]
  · have h1 : a.testBit 31 = false := Nat.testBit_lt_two_pow ha
    have h2 : a.testBit (k + i) = false := Nat.testBit_lt_two_pow (Nat.lt_of_lt_of_le ha (Nat.pow_le_pow_right (by decide) (by omega)))
    simp [h, hi, h1, h2]
def am_dif (a b : Nat) : Nat := a ^^^ (a &&& b)
theorem am_dif_bit (a b i : Nat) : (am_dif a b).testBit i = (a.testBit i && !b.testBit i) := by
  unfold am_dif
  rw [Nat.testBit_xor, Nat.testBit_and]
  cases a.testBit i <;> cases b.testBit i <;> rfl
theorem am_andn (a b : Nat) : nI a &&& (nI b ^^^ (-1)) = nI (am_dif a b) := b_ext fun i hi => by
  rw [b_and, b_xor, b_m1 i hi, bt_nI, bt_nI, bt_nI, am_dif_bit]
  simp [hi]
theorem am_bit1 (a k : Nat) : (a >>> k) &&& 1 = if a.testBit k then 1 else 0 := by
  rw [Nat.and_one_is_mod, Nat.testBit_eq_decide_div_mod_eq, Nat.shiftRight_eq_div_pow]
  rcases Nat.mod_two_eq_zero_or_one (a / 2 ^ k) with h | h <;> simp [h]
theorem am_bitI {a k : Nat} (ha : a < 2 ^ 31) (hk : k < 32) : ((nI a >>> (nI k &&& 31)) &&& 1 = 1) = (a.testBit k = true) := by
  rw [am_shr ha hk, show (1 : Int32) = nI 1 from rfl, am_and, am_bit1]
  by_cases h : a.testBit k = true
  · simp [h]
  · simp only [h]
    simp
    decide
theorem am_uu {E : am_E} {k : Nat} {a b : va_E} : am_u (am_u E k a) k b = am_u E k b := by
  funext j
  unfold am_u
  split <;> rfl
/-! ===== the wall ===== -/
def am_ins (x y : Int32) : Prop := (0 ≤ x ∧ ¬ 12 ≤ x) ∧ 0 ≤ y ∧ ¬ 12 ≤ y
theorem am_insN {x y : Int32} (h : am_ins x y) : ∃ i j : Nat, i < 12 ∧ j < 12 ∧ x = nI i ∧ y = nI j := by
  obtain ⟨⟨h1, h2⟩, h3, h4⟩ := h
  obtain ⟨i, hi, rfl⟩ := nI_of (x := x) (Int32.not_lt.mpr h1)
  obtain ⟨j, hj, rfl⟩ := nI_of (x := y) (Int32.not_lt.mpr h3)
  have e12 : (12 : Int32) = nI 12 := rfl
  rw [e12, am_geN (by omega) (by omega)] at h2 h4
  exact ⟨i, j, by omega, by omega, rfl, rfl⟩
theorem am_insI {i j : Nat} (hi : i < 12) (hj : j < 12) : am_ins (nI i) (nI j) := by
  have e12 : (12 : Int32) = nI 12 := rfl
  have e0 : (0 : Int32) = nI 0 := rfl
  unfold am_ins
  rw [e12, e0, am_geN (by omega) (by omega), am_geN (by omega) (by omega), am_geN (by omega) (by omega), am_geN (by omega) (by omega)]
  omega
theorem am_idx (i j : Nat) : nI j * 12 + nI i = nI (12 * j + i) := by
  have e12 : (12 : Int32) = nI 12 := rfl
  rw [e12, pk_mul, nI_add]
  congr 1
  omega
def am_at (f : Nat → Int32) (x y : Int32) : Int32 := if (0 ≤ x ∧ ¬ 12 ≤ x) ∧ 0 ≤ y ∧ ¬ 12 ≤ y then f (y * 12 + x).toNatClampNeg else -2
theorem am_at_in {f : Nat → Int32} {i j : Nat} (hi : i < 12) (hj : j < 12) : am_at f (nI i) (nI j) = f (12 * j + i) := by
  unfold am_at
  rw [if_pos (show (0 ≤ nI i ∧ ¬ 12 ≤ nI i) ∧ 0 ≤ nI j ∧ ¬ 12 ≤ nI j from am_insI hi hj), am_idx, nI_clamp (by omega)]
theorem am_uc {E : am_E} {k j : Nat} {a b : va_E} (h : k ≠ j) : am_u (am_u E k a) j b = am_u (am_u E j b) k a := by
  funext i
  unfold am_u
  by_cases h1 : i = j
  · subst h1
    simp [Ne.symm h]
  · by_cases h2 : i = k <;> simp [h1, h2, h]
theorem am_us {E : am_E} {k : Nat} {a : va_E} (h : E k = some a) : am_u E k a = E := by
  funext i
  unfold am_u
  by_cases h1 : i = k
  · rw [if_pos h1, h1, h]
  · rw [if_neg h1]
def am_ch (x : Int32) : Prop := ∃ q : Nat, q < 65536 ∧ x = nI q
theorem am_fcx {x : Int32} (h : am_ch x) : am_fit .char (.int x) = True := by
  obtain ⟨q, hq, rfl⟩ := h
  exact am_fc hq
theorem am_ncx {x : Int32} (h : am_ch x) : narrow .char (.int x) = .int x := by
  obtain ⟨q, hq, rfl⟩ := h
  exact (pk_charN hq).1
theorem am_c45 : am_ch 45 := ⟨45, by decide, rfl⟩
theorem am_c104 : am_ch 104 := ⟨104, by decide, rfl⟩
theorem am_c118 : am_ch 118 := ⟨118, by decide, rfl⟩
theorem am_c99 : am_ch 99 := ⟨99, by decide, rfl⟩
theorem am_c108 : am_ch 108 := ⟨108, by decide, rfl⟩
theorem am_c98 : am_ch 98 := ⟨98, by decide, rfl⟩
theorem am_clL (k : Nat) (h : k < 2 ^ 31) : (OfNat.ofNat k : Int32).toNatClampNeg = k := nI_clamp h
