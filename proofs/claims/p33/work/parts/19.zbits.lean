/-! ===== the count of bits of a long ===== -/
theorem am_lushr {a : Nat} (ha : a < 2 ^ 64) (y : UInt64) (k : Nat) (hy : y.toNat % 64 = k) : ((lN a).toUInt64 >>> y).toInt64 = lN (a >>> k) := by
  apply Int64.toBitVec_inj.1
  apply BitVec.eq_of_toNat_eq
  show ((lN a).toUInt64 >>> y).toNat = (BitVec.ofNat 64 (a >>> k)).toNat
  rw [UInt64.toNat_shiftRight, hy, BitVec.toNat_ofNat]
  have e : (lN a).toUInt64.toNat = a := by
    show (BitVec.ofNat 64 a).toNat = a
    rw [BitVec.toNat_ofNat, Nat.mod_eq_of_lt ha]
  rw [e, Nat.mod_eq_of_lt (Nat.lt_of_le_of_lt (Nat.shiftRight_le _ _) ha)]
theorem am_lN_add (a b : Nat) : lN a + lN b = lN (a + b) := (Int64.ofNat_add a b).symm
theorem am_subL {a b : Nat} (h : b ≤ a) : lN a - lN b = lN (a - b) := by
  have e : lN (a - b) + lN b = lN a := by rw [am_lN_add, Nat.sub_add_cancel h]
  rw [← e, Int64.add_sub_cancel]
theorem am_l2iN (a : Nat) : (lN a).toInt32 = nI a := by
  apply Int32.toBitVec_inj.1
  show BitVec.signExtend 32 (BitVec.ofNat 64 a) = BitVec.ofNat 32 a
  apply BitVec.eq_of_getLsbD_eq
  intro i hi
  rw [BitVec.getLsbD_signExtend, BitVec.getLsbD_ofNat, BitVec.getLsbD_ofNat, if_pos (show i < 64 by omega)]
  simp only [hi, show i < 64 by omega, decide_true, Bool.true_and]
theorem am_bc8s (x1 x2 x3 x4 x5 x6 x7 x8 : Nat) (h1 : x1 < 9) (h2 : x2 < 9) (h3 : x3 < 9) (h4 : x4 < 9) (h5 : x5 < 9) (h6 : x6 < 9) (h7 : x7 < 9) (h8 : x8 < 9) : ∃ t u v s : Nat, s = x1 + 256 * (x2 + 256 * (x3 + 256 * (x4 + 256 * (x5 + 256 * (x6 + 256 * (x7 + 256 * x8)))))) ∧ t = s + s / 256 ∧ u = t + t / 65536 ∧ v = u + u / 4294967296 ∧ t < 2 ^ 64 ∧ u < 2 ^ 64 ∧ v < 2 ^ 64 ∧ v % 128 = x1 + x2 + x3 + x4 + x5 + x6 + x7 + x8 := by
  have d1 : (x1 + 256 * (x2 + 256 * (x3 + 256 * (x4 + 256 * (x5 + 256 * (x6 + 256 * (x7 + 256 * x8))))))) / 256 = x2 + 256 * (x3 + 256 * (x4 + 256 * (x5 + 256 * (x6 + 256 * (x7 + 256 * x8))))) := by omega
  have d2 : ∀ y1 y2 q : Nat, y1 < 17 → y2 < 17 → (y1 + 256 * (y2 + 256 * q)) / 65536 = q := by intro y1 y2 q a b; omega
  have d4 : ∀ z1 z2 z3 z4 q : Nat, z1 < 33 → z2 < 33 → z3 < 33 → z4 < 33 → (z1 + 256 * (z2 + 256 * (z3 + 256 * (z4 + 256 * q)))) / 4294967296 = q := by intro z1 z2 z3 z4 q a b c d; omega
  refine ⟨_, _, _, _, rfl, rfl, rfl, rfl, ?_⟩
  rw [d1]
  rw [show x1 + 256 * (x2 + 256 * (x3 + 256 * (x4 + 256 * (x5 + 256 * (x6 + 256 * (x7 + 256 * x8)))))) + (x2 + 256 * (x3 + 256 * (x4 + 256 * (x5 + 256 * (x6 + 256 * (x7 + 256 * x8)))))) = (x1 + x2) + 256 * ((x2 + x3) + 256 * ((x3 + x4) + 256 * ((x4 + x5) + 256 * ((x5 + x6) + 256 * ((x6 + x7) + 256 * ((x7 + x8) + 256 * x8)))))) by omega]
  rw [d2 _ _ _ (by omega) (by omega)]
  rw [show (x1 + x2) + 256 * ((x2 + x3) + 256 * ((x3 + x4) + 256 * ((x4 + x5) + 256 * ((x5 + x6) + 256 * ((x6 + x7) + 256 * ((x7 + x8) + 256 * x8)))))) + ((x3 + x4) + 256 * ((x4 + x5) + 256 * ((x5 + x6) + 256 * ((x6 + x7) + 256 * ((x7 + x8) + 256 * x8))))) = (x1 + x2 + x3 + x4) + 256 * ((x2 + x3 + x4 + x5) + 256 * ((x3 + x4 + x5 + x6) + 256 * ((x4 + x5 + x6 + x7) + 256 * ((x5 + x6 + x7 + x8) + 256 * ((x6 + x7 + x8) + 256 * ((x7 + x8) + 256 * x8)))))) by omega]
  rw [d4 _ _ _ _ _ (by omega) (by omega) (by omega) (by omega)]
  clear d1 d2 d4
  refine ⟨by omega, by omega, by omega, ?_⟩
  omega
theorem am_sm8 (x1 x2 x3 x4 x5 x6 x7 x8 : Nat) (p1 : x1 < 9) (p2 : x2 < 9) (p3 : x3 < 9) (p4 : x4 < 9) (p5 : x5 < 9) (p6 : x6 < 9) (p7 : x7 < 9) (p8 : x8 < 9) : x1 + x2 + x3 + x4 + x5 + x6 + x7 + x8 = 0 + (x1 + 256 * (x2 + 256 * (x3 + 256 * (x4 + 256 * (x5 + 256 * (x6 + 256 * (x7 + 256 * x8))))))) / 256 ^ 0 % 256 + (x1 + 256 * (x2 + 256 * (x3 + 256 * (x4 + 256 * (x5 + 256 * (x6 + 256 * (x7 + 256 * x8))))))) / 256 ^ 1 % 256 + (x1 + 256 * (x2 + 256 * (x3 + 256 * (x4 + 256 * (x5 + 256 * (x6 + 256 * (x7 + 256 * x8))))))) / 256 ^ 2 % 256 + (x1 + 256 * (x2 + 256 * (x3 + 256 * (x4 + 256 * (x5 + 256 * (x6 + 256 * (x7 + 256 * x8))))))) / 256 ^ 3 % 256 + (x1 + 256 * (x2 + 256 * (x3 + 256 * (x4 + 256 * (x5 + 256 * (x6 + 256 * (x7 + 256 * x8))))))) / 256 ^ 4 % 256 + (x1 + 256 * (x2 + 256 * (x3 + 256 * (x4 + 256 * (x5 + 256 * (x6 + 256 * (x7 + 256 * x8))))))) / 256 ^ 5 % 256 + (x1 + 256 * (x2 + 256 * (x3 + 256 * (x4 + 256 * (x5 + 256 * (x6 + 256 * (x7 + 256 * x8))))))) / 256 ^ 6 % 256 + (x1 + 256 * (x2 + 256 * (x3 + 256 * (x4 + 256 * (x5 + 256 * (x6 + 256 * (x7 + 256 * x8))))))) / 256 ^ 7 % 256 := by
  have g : ∀ x q : Nat, x < 9 → (x + 256 * q) % 256 = x := by intro x q _; omega
  have d : ∀ x q : Nat, x < 9 → (x + 256 * q) / 256 = q := by intro x q _; omega
  have dd : ∀ (x q i : Nat), x < 9 → (x + 256 * q) / 256 ^ (i + 1) = q / 256 ^ i := by
    intro x q i hx
    rw [Nat.pow_succ, Nat.mul_comm (256 ^ i) 256, ← Nat.div_div_eq_div_mul, d x q hx]
  rw [dd _ _ 6 p1, dd _ _ 5 p1, dd _ _ 4 p1, dd _ _ 3 p1, dd _ _ 2 p1, dd _ _ 1 p1, dd _ _ 0 p1]
  rw [dd _ _ 5 p2, dd _ _ 4 p2, dd _ _ 3 p2, dd _ _ 2 p2, dd _ _ 1 p2, dd _ _ 0 p2]
  rw [dd _ _ 4 p3, dd _ _ 3 p3, dd _ _ 2 p3, dd _ _ 1 p3, dd _ _ 0 p3]
  rw [dd _ _ 3 p4, dd _ _ 2 p4, dd _ _ 1 p4, dd _ _ 0 p4]
  rw [dd _ _ 2 p5, dd _ _ 1 p5, dd _ _ 0 p5]
  rw [dd _ _ 1 p6, dd _ _ 0 p6]
  rw [dd _ _ 0 p7]
  simp only [Nat.pow_zero, Nat.div_one]
  rw [g _ _ p1, g _ _ p2, g _ _ p3, g _ _ p4, g _ _ p5, g _ _ p6, g _ _ p7]
  omega
theorem am_bc8 (a : Nat) (h : a < 2 ^ 64) : ∃ s1 s2 s3 t u v : Nat, s1 = a - ((a >>> 1) &&& 6148914691236517205) ∧ (a >>> 1) &&& 6148914691236517205 ≤ a ∧ s1 < 2 ^ 64 ∧ s2 = (s1 &&& 3689348814741910323) + ((s1 >>> 2) &&& 3689348814741910323) ∧ s2 < 2 ^ 64 ∧ s3 = (s2 + s2 >>> 4) &&& 1085102592571150095 ∧ s3 < 2 ^ 64 ∧ t = s3 + s3 >>> 8 ∧ u = t + t >>> 16 ∧ v = u + u >>> 32 ∧ t < 2 ^ 64 ∧ u < 2 ^ 64 ∧ v &&& 127 = fb_ct a.testBit 64 := by
  obtain ⟨h1, h2⟩ := am_chain 8 a h
  have e1 : am_f1 a (am_mk 85 8) = a - ((a >>> 1) &&& 6148914691236517205) := by
    unfold am_f1; rw [Nat.shiftRight_eq_div_pow]; rfl
  have hl : (a >>> 1) &&& 6148914691236517205 ≤ a := Nat.le_trans Nat.and_le_left (Nat.shiftRight_le _ _)
  rw [e1] at h1 h2
  have e2 : am_f2 (a - ((a >>> 1) &&& 6148914691236517205)) (am_mk 51 8) = ((a - ((a >>> 1) &&& 6148914691236517205)) &&& 3689348814741910323) + (((a - ((a >>> 1) &&& 6148914691236517205)) >>> 2) &&& 3689348814741910323) := by
    unfold am_f2; rw [Nat.shiftRight_eq_div_pow (a - _) 2]; rfl
  rw [e2] at h1 h2
  generalize hs1 : a - ((a >>> 1) &&& 6148914691236517205) = s1 at h1 h2 e2
  have b1 : s1 < 2 ^ 64 := by omega
  generalize hs2 : (s1 &&& 3689348814741910323) + ((s1 >>> 2) &&& 3689348814741910323) = s2 at h1 h2 e2
  have k1 : s1 &&& 3689348814741910323 ≤ 3689348814741910323 := Nat.and_le_right
  have k2 : (s1 >>> 2) &&& 3689348814741910323 ≤ 3689348814741910323 := Nat.and_le_right
  have b2 : s2 < 2 ^ 64 := by omega
  have e3 : am_f3 s2 (am_mk 15 8) = (s2 + s2 >>> 4) &&& 1085102592571150095 := by
    unfold am_f3; rw [Nat.shiftRight_eq_div_pow]; rfl
  rw [e3] at h2
  have k3 : (s2 + s2 >>> 4) &&& 1085102592571150095 ≤ 1085102592571150095 := Nat.and_le_right
  have hc := am_by_ct 8 a
  have q : ∀ k x, am_by x (k + 1) = am_p8 (x % 256) + 256 * am_by (x / 256) k := fun _ _ => rfl
  have p : ∀ x, am_p8 (x % 256) < 9 := fun x => (am_ch1 (x % 256) (by omega)).2.2.2.2
  have eb := h2
  rw [q, q, q, q, q, q, q, q] at eb
  obtain ⟨t, u, v, s, hs, ht, hu, hv, t9, u9, v9, e9⟩ := am_bc8s _ _ _ _ _ _ _ _ (p a) (p (a / 256)) (p (a / 256 / 256)) (p (a / 256 / 256 / 256)) (p (a / 256 / 256 / 256 / 256)) (p (a / 256 / 256 / 256 / 256 / 256)) (p (a / 256 / 256 / 256 / 256 / 256 / 256)) (p (a / 256 / 256 / 256 / 256 / 256 / 256 / 256))
  have e0 : (s2 + s2 >>> 4) &&& 1085102592571150095 = s := eb.trans hs.symm
  refine ⟨s1, s2, s, t, u, v, rfl, hl, b1, hs2.symm, b2, e0.symm, by omega, ?_, ?_, ?_, t9, u9, ?_⟩
  · rw [ht, Nat.shiftRight_eq_div_pow]
  · rw [hu, Nat.shiftRight_eq_div_pow]
  · rw [hv, Nat.shiftRight_eq_div_pow]
  · rw [show (127 : Nat) = 2 ^ 7 - 1 by rfl, Nat.and_two_pow_sub_one_eq_mod]
    rw [← hc, e0.symm.trans h2 |> fun z => z.symm, show v % 2 ^ 7 = v % 128 from rfl, e9]
    have b : ∀ i, fb_sm (fun i => s / 256 ^ i % 256) 8 = fb_sm (fun i => s / 256 ^ i % 256) i → True := fun _ _ => trivial
    simp only [fb_sm]
    rw [hs]
    exact am_sm8 _ _ _ _ _ _ _ _ (p a) (p (a / 256)) (p (a / 256 / 256)) (p (a / 256 / 256 / 256)) (p (a / 256 / 256 / 256 / 256)) (p (a / 256 / 256 / 256 / 256 / 256)) (p (a / 256 / 256 / 256 / 256 / 256 / 256)) (p (a / 256 / 256 / 256 / 256 / 256 / 256 / 256))
theorem am_bc8k (a : Nat) (h : a < 2 ^ 64) {P : Prop} (k : ∀ s1 s2 s3 t u v : Nat, s1 = a - ((a >>> 1) &&& 6148914691236517205) → (a >>> 1) &&& 6148914691236517205 ≤ a → s1 < 2 ^ 64 → s2 = (s1 &&& 3689348814741910323) + ((s1 >>> 2) &&& 3689348814741910323) → s2 < 2 ^ 64 → s3 = (s2 + s2 >>> 4) &&& 1085102592571150095 → s3 < 2 ^ 64 → t = s3 + s3 >>> 8 → u = t + t >>> 16 → v = u + u >>> 32 → t < 2 ^ 64 → u < 2 ^ 64 → v &&& 127 = fb_ct a.testBit 64 → P) : P :=
  match am_bc8 a h with
  | ⟨s1, s2, s3, t, u, v, e1, l1, b1, e2, b2, e3, b3, e4, e5, e6, b4, b5, e7⟩ => k s1 s2 s3 t u v e1 l1 b1 e2 b2 e3 b3 e4 e5 e6 b4 b5 e7
