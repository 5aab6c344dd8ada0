/-! ===== helpers for the methods ===== -/
theorem am_nge {i N : Nat} (h : i < N) (hN : N < 2 ^ 31) : (nI N ≤ nI i) = False := eq_false (fun q => by
  have := (nI_leI hN (by omega)).mp q
  omega)
theorem am_nle {i N : Nat} (h : i ≤ N) (hN : N < 2 ^ 31) : (nI i ≤ nI N) = True := eq_true ((nI_leI (by omega) hN).mpr h)
theorem am_for2 (Ho : Nat → Prop) (Hi : Nat → Nat → Prop) (N M : Nat) (h1 : Ho N) (h2 : ∀ j, j < N → Hi j 0 → Ho j) (h3 : ∀ j, j < N → Ho (j + 1) → Hi j M) (h4 : ∀ j, j < N → ∀ i, i < M → Hi j (i + 1) → Hi j i) : Ho 0 :=
  am_for Ho N h1 (fun j hj hn => h2 j hj (am_for (Hi j) M (h3 j hj hn) (h4 j hj) 0 (Nat.zero_le _))) 0 (Nat.zero_le _)
theorem am_maxN {a b : Nat} (ha : a < 2 ^ 31) (hb : b < 2 ^ 31) : am_max (nI a) (nI b) = nI (max a b) := by
  unfold am_max
  by_cases h : a < b
  · rw [if_pos ((nI_ltI ha hb).mpr h), Nat.max_eq_right (by omega)]
  · rw [if_neg (fun q => h ((nI_ltI ha hb).mp q)), Nat.max_eq_left (by omega)]
theorem am_subN {a b : Nat} (h : b ≤ a) : nI a - nI b = nI (a - b) := by
  have e : nI (a - b) + nI b = nI a := by rw [nI_add, Nat.sub_add_cancel h]
  rw [← e, Int32.add_sub_cancel]
theorem am_mulN (a b : Nat) : nI a * nI b = nI (a * b) := (Int32.ofNat_mul a b).symm
theorem am_setb {b : Nat → Bool} {r N : Nat} (hr : r < N) : am_bn b N ||| (1 <<< r) = am_bn (fun i => if i = r then true else b i) N := by
  apply Nat.eq_of_testBit_eq
  intro i
  rw [Nat.testBit_or, am_bn_bit, am_bn_bit, Nat.one_shiftLeft, Nat.testBit_two_pow]
  by_cases h : i = r
  · subst h
    simp [hr]
  · simp [h, Ne.symm h]
theorem am_clrb {b : Nat → Bool} {r N : Nat} (hr : r < N) : am_dif (am_bn b N) (1 <<< r) = am_bn (fun i => if i = r then false else b i) N := by
  apply Nat.eq_of_testBit_eq
  intro i
  rw [am_dif_bit, am_bn_bit, am_bn_bit, Nat.one_shiftLeft, Nat.testBit_two_pow]
  by_cases h : i = r
  · subst h
    simp
  · simp [h, Ne.symm h]
theorem am_1s {k : Nat} (hk : k < 32) : (1 : Int32) <<< (nI k &&& 31) = nI (1 <<< k) := am_shl 1 hk
theorem am_orL (a b : Nat) : lN a ||| lN b = lN (a ||| b) := fb_orL a b
theorem am_shlL : ∀ k, k < 64 → (1 : Int64) <<< ((nI k).toInt64 &&& 63) = lN (1 <<< k) := by decide +kernel
/-! arrays in progress -/
def am_pro {α : Type} (A B : Nat → α) (i : Nat) : Nat → α := fun k => if k < i then A k else B k
theorem am_pro_0 {α : Type} (A B : Nat → α) : am_pro A B 0 = B := by funext k; simp [am_pro]
theorem am_pro_at {α : Type} (A B : Nat → α) (i : Nat) : am_pro A B i i = B i := by simp [am_pro]
theorem am_pro_s (A B : Nat → Int32) (i : Nat) {v : Int32} (hv : v = A i) : upd (am_pro A B i) i v = am_pro A B (i + 1) := by
  funext k
  by_cases hk : k = i
  · subst hk; simp [upd, am_pro, hv]
  · by_cases h9 : k < i
    · simp [upd, am_pro, hk, h9, show k < i + 1 by omega]
    · simp [upd, am_pro, hk, h9, show ¬ k < i + 1 by omega]
theorem am_pro_sL (A B : Nat → Int64) (i : Nat) {v : Int64} (hv : v = A i) : vp_updL (am_pro A B i) i v = am_pro A B (i + 1) := by
  funext k
  by_cases hk : k = i
  · subst hk; simp [vp_updL, am_pro, hv]
  · by_cases h9 : k < i
    · simp [vp_updL, am_pro, hk, h9, show k < i + 1 by omega]
    · simp [vp_updL, am_pro, hk, h9, show ¬ k < i + 1 by omega]
theorem am_pro_N {α : Type} {A B : Nat → α} {N : Nat} (h : ∀ k, N ≤ k → A k = B k) : am_pro A B N = A := by
  funext k
  by_cases hk : k < N
  · simp [am_pro, hk]
  · simp [am_pro, hk, h k (by omega)]
/-! panes, sheets -/
def am_pn0 (E : am_E) (t : Nat) (wc wk st co yr : Int32) (p y : Nat) : Prop := E t = some (.inr (2, [.int wc, .int wk, .int st, .int co, .int yr, .ref p, .ref y]))
def am_sh0 (E : am_E) (t : Nat) (co w h sk : Int32) (u : Nat) : Prop := E t = some (.inr (4, [.int co, .int w, .int h, .int sk, .ref u]))
def am_sko (sk : Int32) (tu : Bool) : Int32 := if tu = true then (if sk = 104 then 118 else 104) else sk
/-! the wall, one off: (i, j) is the cell left of and below -/
def am_wa (f : Nat → Int32) (i j : Nat) : Int32 := if 1 ≤ i ∧ i ≤ 12 ∧ 1 ≤ j ∧ j ≤ 12 then f (12 * (j - 1) + (i - 1)) else -2
theorem am_at_wa {f : Nat → Int32} {x y : Int32} {i j : Nat} (hx : x = if i = 0 then -1 else nI (i - 1)) (hy : y = if j = 0 then -1 else nI (j - 1)) (hi : i < 2 ^ 31) (hj : j < 2 ^ 31) : am_at f x y = am_wa f i j := by
  unfold am_at am_wa
  by_cases h0 : i = 0
  · subst h0
    rw [if_pos rfl] at hx
    subst hx
    rw [if_neg (fun q => absurd q.1.1 (by decide)), if_neg (fun q => absurd q.1 (by decide))]
  · by_cases h1 : j = 0
    · subst h1
      rw [if_pos rfl] at hy
      subst hy
      rw [if_neg (fun q => absurd q.2.1 (by decide)), if_neg (fun q => absurd q.2.2.1 (by decide))]
    · rw [if_neg h0] at hx
      rw [if_neg h1] at hy
      subst hx hy
      have e12 : (12 : Int32) = nI 12 := rfl
      have e0 : (0 : Int32) = nI 0 := rfl
      simp only [e12, e0, am_geN (show 0 < 2 ^ 31 by decide) (show i - 1 < 2 ^ 31 by omega), am_geN (show 12 < 2 ^ 31 by decide) (show i - 1 < 2 ^ 31 by omega), am_geN (show 0 < 2 ^ 31 by decide) (show j - 1 < 2 ^ 31 by omega), am_geN (show 12 < 2 ^ 31 by decide) (show j - 1 < 2 ^ 31 by omega)]
      by_cases h2 : i ≤ 12 ∧ j ≤ 12
      · rw [if_pos (by omega), if_pos (by omega)]
        rw [show nI (j - 1) * nI 12 + nI (i - 1) = nI (12 * (j - 1) + (i - 1)) from am_idx (i - 1) (j - 1), nI_clamp (by omega)]
      · rw [if_neg (by omega), if_neg (by omega)]
theorem am_at_n {f : Nat → Int32} {i j : Nat} (hi : i < 1000) (hj : j < 1000) : am_at f (nI i) (nI j) = am_wa f (i + 1) (j + 1) := am_at_wa (by simp) (by simp) (by omega) (by omega)
theorem am_at_l {f : Nat → Int32} {i j : Nat} (hi : i < 1000) (hj : j < 1000) : am_at f (nI i - 1) (nI j) = am_wa f i (j + 1) := am_at_wa am_neg1 (by simp) (by omega) (by omega)
theorem am_at_d {f : Nat → Int32} {i j : Nat} (hi : i < 1000) (hj : j < 1000) : am_at f (nI i) (nI j - 1) = am_wa f (i + 1) j := am_at_wa (by simp) am_neg1 (by omega) (by omega)
theorem am_at_ld {f : Nat → Int32} {i j : Nat} (hi : i < 1000) (hj : j < 1000) : am_at f (nI i - 1) (nI j - 1) = am_wa f i j := am_at_wa am_neg1 am_neg1 (by omega) (by omega)
def am_lb (a b : Int32) : Nat := if ¬ a = b ∧ (0 ≤ a ∨ 0 ≤ b) then 1 else 0
def am_lsd (f : Nat → Int32) : Nat := fb_sm (fun j => fb_sm (fun i => am_lb (am_wa f i (j + 1)) (am_wa f (i + 1) (j + 1)) + am_lb (am_wa f (i + 1) j) (am_wa f (i + 1) (j + 1))) 13) 13
def am_mtp (f : Nat → Int32) (i j : Nat) : Bool := decide (3 ≤ am_lb (am_wa f i j) (am_wa f (i + 1) j) + am_lb (am_wa f i (j + 1)) (am_wa f (i + 1) (j + 1)) + am_lb (am_wa f i j) (am_wa f i (j + 1)) + am_lb (am_wa f (i + 1) j) (am_wa f (i + 1) (j + 1)))
def am_mts (f : Nat → Int32) : Nat := fb_sm (fun j => fb_ct (fun i => am_mtp f i j) 13) 13
theorem am_lb1 (a b : Int32) : am_lb a b ≤ 1 := by unfold am_lb; split <;> decide
/-! ===== the count of bits, as the JDK has it: byte by byte ===== -/
def am_f1 (x m : Nat) : Nat := x - ((x / 2) &&& m)
def am_f2 (x m : Nat) : Nat := (x &&& m) + ((x / 4) &&& m)
def am_f3 (x m : Nat) : Nat := (x + x / 16) &&& m
theorem am_and256 {a m : Nat} (b n : Nat) (ha : a < 256) (hm : m < 256) : (a + 256 * b) &&& (m + 256 * n) = (a &&& m) + 256 * (b &&& n) := by
  have h9 : a &&& m < 2 ^ 8 := Nat.and_lt_two_pow a hm
  apply Nat.eq_of_testBit_eq
  intro i
  rw [Nat.add_comm a, Nat.add_comm m, Nat.add_comm (a &&& m), Nat.testBit_and]
  rw [Nat.testBit_two_pow_mul_add (i := 8) b ha, Nat.testBit_two_pow_mul_add (i := 8) n hm, Nat.testBit_two_pow_mul_add (i := 8) (b &&& n) h9]
  by_cases h : i < 8
  · simp [h]
  · simp [h]
theorem am_f1s (a b M : Nat) (ha : a < 256) : am_f1 (a + 256 * b) (85 + 256 * M) = am_f1 a 85 + 256 * am_f1 b M := by
  unfold am_f1
  have e : (a + 256 * b) / 2 = (a / 2 + 128 * (b % 2)) + 256 * (b / 2) := by omega
  rw [e, am_and256 _ _ (by omega) (by decide)]
  have e2 : ∀ a, a < 256 → ∀ c, c < 2 → (a / 2 + 128 * c) &&& 85 = (a / 2) &&& 85 := by decide +kernel
  rw [e2 a ha _ (by omega)]
  have h1 : (a / 2) &&& 85 ≤ a / 2 := Nat.and_le_left
  have h2 : (b / 2) &&& M ≤ b / 2 := Nat.and_le_left
  omega
theorem am_f2s (a b M : Nat) (ha : a < 256) : am_f2 (a + 256 * b) (51 + 256 * M) = am_f2 a 51 + 256 * am_f2 b M := by
  unfold am_f2
  have e : (a + 256 * b) / 4 = (a / 4 + 64 * (b % 4)) + 256 * (b / 4) := by omega
  rw [e, am_and256 b M ha (by decide), am_and256 (b / 4) M (by omega) (by decide)]
  have e2 : ∀ a, a < 256 → ∀ c, c < 4 → (a / 4 + 64 * c) &&& 51 = (a / 4) &&& 51 := by decide +kernel
  rw [e2 a ha _ (by omega)]
  omega
theorem am_f3s (a b M : Nat) (ha : a < 80) (hb : b % 16 < 5) : am_f3 (a + 256 * b) (15 + 256 * M) = am_f3 a 15 + 256 * am_f3 b M := by
  unfold am_f3
  have e : (a + 256 * b) + (a + 256 * b) / 16 = (a + a / 16 + 16 * (b % 16)) + 256 * (b + b / 16) := by omega
  rw [e, am_and256 _ _ (by omega) (by decide)]
  have e2 : ∀ a, a < 80 → ∀ c, c < 5 → (a + a / 16 + 16 * c) &&& 15 = (a + a / 16) &&& 15 := by decide +kernel
  rw [e2 a ha _ hb]
def am_p8 (a : Nat) : Nat := fb_ct a.testBit 8
theorem am_ch1 : ∀ a, a < 256 → am_f1 a 85 < 256 ∧ am_f2 (am_f1 a 85) 51 < 80 ∧ am_f2 (am_f1 a 85) 51 % 16 < 5 ∧ am_f3 (am_f2 (am_f1 a 85) 51) 15 = am_p8 a ∧ am_p8 a < 9 := by decide +kernel
/-- M masks of k bytes -/
def am_mk (c : Nat) : Nat → Nat
  | 0 => 0
  | k + 1 => c + 256 * am_mk c k
def am_by (a : Nat) : Nat → Nat
  | 0 => 0
  | k + 1 => am_p8 (a % 256) + 256 * am_by (a / 256) k
theorem am_chain : ∀ k a, a < 256 ^ k → am_f2 (am_f1 a (am_mk 85 k)) (am_mk 51 k) % 16 < 5 ∧ am_f3 (am_f2 (am_f1 a (am_mk 85 k)) (am_mk 51 k)) (am_mk 15 k) = am_by a k := by
  intro k
  induction k with
  | zero =>
    intro a ha
    have : a = 0 := by simpa using ha
    subst this
    decide
  | succ k ih =>
    intro a ha
    obtain ⟨i1, i2⟩ := ih (a / 256) (by rw [Nat.pow_succ] at ha; omega)
    have ea : a = a % 256 + 256 * (a / 256) := by omega
    obtain ⟨c1, c2, c3, c4, -⟩ := am_ch1 (a % 256) (by omega)
    have e1 : am_f1 a (am_mk 85 (k + 1)) = am_f1 (a % 256) 85 + 256 * am_f1 (a / 256) (am_mk 85 k) := by
      conv => lhs; rw [ea]
      exact am_f1s _ _ _ (by omega)
    have e2 : am_f2 (am_f1 a (am_mk 85 (k + 1))) (am_mk 51 (k + 1)) = am_f2 (am_f1 (a % 256) 85) 51 + 256 * am_f2 (am_f1 (a / 256) (am_mk 85 k)) (am_mk 51 k) := by
      rw [e1]
      exact am_f2s _ _ _ c1
    refine ⟨by rw [e2]; omega, ?_⟩
    rw [e2]
    show am_f3 _ (15 + 256 * am_mk 15 k) = _
    rw [am_f3s _ _ _ c2 i1, c4, i2]
    rfl
theorem am_by_ct : ∀ k a, fb_sm (fun i => am_by a k / 256 ^ i % 256) k = fb_ct a.testBit (8 * k) := by
  intro k
  induction k with
  | zero => intro a; rfl
  | succ k ih =>
    intro a
    have h8 : am_p8 (a % 256) < 9 := (am_ch1 (a % 256) (by omega)).2.2.2.2
    rw [show k + 1 = 1 + k by omega, fb_sm_split, show 8 * (1 + k) = 8 + 8 * k by omega, fb_ct_split]
    rw [show 1 + k = k + 1 by omega]
    have e0 : fb_sm (fun i => am_by a (k + 1) / 256 ^ i % 256) 1 = fb_ct a.testBit 8 := by
      show 0 + (am_p8 (a % 256) + 256 * am_by (a / 256) k) / 256 ^ 0 % 256 = _
      have : am_p8 (a % 256) = fb_ct a.testBit 8 := fb_ct_cong (fun i hi => by
        rw [show (256 : Nat) = 2 ^ 8 by rfl, Nat.testBit_mod_two_pow]; simp [hi])
      omega
    have e1 : fb_sm (fun i => am_by a (k + 1) / 256 ^ (1 + i) % 256) k = fb_sm (fun i => am_by (a / 256) k / 256 ^ i % 256) k := fb_sm_cong (fun i hi => by
      show (am_p8 (a % 256) + 256 * am_by (a / 256) k) / 256 ^ (1 + i) % 256 = _
      rw [Nat.pow_add, ← Nat.div_div_eq_div_mul]
      rw [show (am_p8 (a % 256) + 256 * am_by (a / 256) k) / 256 ^ 1 = am_by (a / 256) k by omega])
    rw [e0, e1, ih (a / 256)]
    congr 1
    apply fb_ct_cong
    intro i hi
    rw [show (256 : Nat) = 2 ^ 8 by rfl, Nat.testBit_div_two_pow, Nat.add_comm]
theorem am_bc4 (a : Nat) (h : a < 2 ^ 32) : ∃ s1 s2 s3 : Nat, s1 = a - ((a >>> 1) &&& 1431655765) ∧ (a >>> 1) &&& 1431655765 ≤ a ∧ s1 < 2 ^ 32 ∧ s2 = (s1 &&& 858993459) + ((s1 >>> 2) &&& 858993459) ∧ s2 < 2 ^ 32 ∧ s3 = (s2 + s2 >>> 4) &&& 252645135 ∧ s3 < 2 ^ 32 ∧ s3 + s3 >>> 8 < 2 ^ 32 ∧ s2 + s2 >>> 4 < 2 ^ 32 ∧ (s3 + s3 >>> 8 + (s3 + s3 >>> 8) >>> 16) &&& 63 = fb_ct a.testBit 32 := by
  obtain ⟨h1, h2⟩ := am_chain 4 a h
  have e1 : am_f1 a (am_mk 85 4) = a - ((a >>> 1) &&& 1431655765) := by
    unfold am_f1; rw [Nat.shiftRight_eq_div_pow]; rfl
  have hl : (a >>> 1) &&& 1431655765 ≤ a := Nat.le_trans Nat.and_le_left (Nat.shiftRight_le _ _)
  rw [e1] at h1 h2
  have e2 : am_f2 (a - ((a >>> 1) &&& 1431655765)) (am_mk 51 4) = ((a - ((a >>> 1) &&& 1431655765)) &&& 858993459) + (((a - ((a >>> 1) &&& 1431655765)) >>> 2) &&& 858993459) := by
    unfold am_f2; rw [Nat.shiftRight_eq_div_pow (a - _) 2]; rfl
  rw [e2] at h1 h2
  generalize hs1 : a - ((a >>> 1) &&& 1431655765) = s1 at h1 h2 e2
  have b1 : s1 < 2 ^ 32 := by omega
  generalize hs2 : (s1 &&& 858993459) + ((s1 >>> 2) &&& 858993459) = s2 at h1 h2 e2
  have k1 : s1 &&& 858993459 ≤ 858993459 := Nat.and_le_right
  have k2 : (s1 >>> 2) &&& 858993459 ≤ 858993459 := Nat.and_le_right
  have b2 : s2 ≤ 1717986918 := by omega
  have e3 : am_f3 s2 (am_mk 15 4) = (s2 + s2 >>> 4) &&& 252645135 := by
    unfold am_f3; rw [Nat.shiftRight_eq_div_pow]; rfl
  rw [e3] at h2
  have k3 : (s2 + s2 >>> 4) &&& 252645135 ≤ 252645135 := Nat.and_le_right
  refine ⟨s1, s2, (s2 + s2 >>> 4) &&& 252645135, rfl, hl, b1, hs2.symm, by omega, rfl, by omega, ?_, ?_, ?_⟩
  · rw [Nat.shiftRight_eq_div_pow ((s2 + s2 >>> 4) &&& 252645135) 8]; omega
  · rw [Nat.shiftRight_eq_div_pow s2 4]; omega
  · rw [h2]
    have hc := am_by_ct 4 a
    have q : ∀ k x, am_by x (k + 1) = am_p8 (x % 256) + 256 * am_by (x / 256) k := fun _ _ => rfl
    have p1 := (am_ch1 (a % 256) (by omega)).2.2.2.2
    have p2 := (am_ch1 (a / 256 % 256) (by omega)).2.2.2.2
    have p3 := (am_ch1 (a / 256 / 256 % 256) (by omega)).2.2.2.2
    have p4 := (am_ch1 (a / 256 / 256 / 256 % 256) (by omega)).2.2.2.2
    have eb : am_by a 4 = am_p8 (a % 256) + 256 * (am_p8 (a / 256 % 256) + 256 * (am_p8 (a / 256 / 256 % 256) + 256 * am_p8 (a / 256 / 256 / 256 % 256))) := by
      rw [q, q, q, q]
      show _ + 256 * (_ + 256 * (_ + 256 * (_ + 256 * 0))) = _
      rfl
    rw [← hc]
    simp only [fb_sm]
    rw [eb]
    generalize am_p8 (a % 256) = x1 at *
    generalize am_p8 (a / 256 % 256) = x2 at *
    generalize am_p8 (a / 256 / 256 % 256) = x3 at *
    generalize am_p8 (a / 256 / 256 / 256 % 256) = x4 at *
    rw [show (63 : Nat) = 2 ^ 6 - 1 by rfl, Nat.and_two_pow_sub_one_eq_mod, Nat.shiftRight_eq_div_pow, Nat.shiftRight_eq_div_pow]
    simp only [Nat.reducePow, Nat.div_one]
    have d1 : (x1 + 256 * (x2 + 256 * (x3 + 256 * x4))) / 256 = x2 + 256 * (x3 + 256 * x4) := by omega
    have d2 : (x1 + 256 * (x2 + 256 * (x3 + 256 * x4))) / 65536 = x3 + 256 * x4 := by omega
    have d3 : (x1 + 256 * (x2 + 256 * (x3 + 256 * x4))) / 16777216 = x4 := by omega
    have d4 : (x1 + 256 * (x2 + 256 * (x3 + 256 * x4)) + (x2 + 256 * (x3 + 256 * x4))) / 65536 = x3 + x4 + 256 * x4 := by clear hc h1 h2 e2 e3; omega
    have r1 : (x1 + 256 * (x2 + 256 * (x3 + 256 * x4))) % 256 = x1 := by omega
    have r2 : (x2 + 256 * (x3 + 256 * x4)) % 256 = x2 := by omega
    have r3 : (x3 + 256 * x4) % 256 = x3 := by omega
    have r4 : x4 % 256 = x4 := by omega
    rw [d1, d2, d3, d4, r1, r2, r3, r4]
    clear hc d1 d2 d3 d4 r1 r2 r3 r4 eb
    omega
theorem am_ushr {a k : Nat} (ha : a < 2 ^ 32) (hk : k < 32) : ((nI a).toUInt32 >>> ((nI k).toUInt32 &&& Int32.toUInt32 31)).toInt32 = nI (a >>> k) := b_ext fun i hi => by
  rw [b_ushr k hk, bt_nI, bt_nI, Nat.testBit_shiftRight]
  by_cases h : k + i < 32
  · simp [h, hi]
  · simp only [h, decide_false, Bool.false_and, hi, decide_true, Bool.true_and]
    exact (Nat.testBit_lt_two_pow (Nat.lt_of_lt_of_le ha (Nat.pow_le_pow_right (by decide) (by omega)))).symm
theorem am_ct_big {a m n : Nat} (ha : a < 2 ^ m) (h : m ≤ n) : fb_ct a.testBit n = fb_ct a.testBit m := by
  obtain ⟨d, rfl⟩ := Nat.exists_eq_add_of_le h
  rw [fb_ct_split, (fb_ct_zero (p := fun k => a.testBit (m + k))).mpr (fun k _ => Nat.testBit_lt_two_pow (Nat.lt_of_lt_of_le ha (Nat.pow_le_pow_right (by decide) (by omega)))), Nat.add_zero]
theorem am_ct_bn (b : Nat → Bool) {m n : Nat} (h : m ≤ n) : fb_ct (am_bn b m).testBit n = fb_ct b m := by
  rw [am_ct_big (am_bn_lt b m) h]
  exact fb_ct_cong (fun i hi => by rw [am_bn_bit]; simp [hi])
/-! ===== bars ===== -/
def am_gp (b : Nat → Bool) : Nat → Nat × Nat
  | 0 => (0, 0)
  | n + 1 => if n + 1 = 12 ∨ b (n + 1) = true then (n + 1, max (am_gp b n).2 (n + 1 - (am_gp b n).1)) else am_gp b n
theorem am_gp_le (b : Nat → Bool) : ∀ n, (am_gp b n).1 ≤ n ∧ (am_gp b n).2 ≤ n := by
  intro n
  induction n with
  | zero => exact ⟨Nat.le_refl _, Nat.le_refl _⟩
  | succ n ih =>
    unfold am_gp
    split
    · exact ⟨Nat.le_refl _, by show max _ _ ≤ _; omega⟩
    · exact ⟨by omega, by omega⟩
def am_brn (b : Nat → Bool) (wd pf : Nat) (n : Nat) : Nat := wd * (am_gp b n).2 * (am_gp b n).2 / (4 * pf)
theorem am_sq {w a b : Nat} (h : a ≤ b) : w * a * a ≤ w * b * b := Nat.mul_le_mul (Nat.mul_le_mul_left _ h) h
theorem am_brn_le {b : Nat → Bool} {wd pf n : Nat} (hw : wd ≤ 100) (hn : n ≤ 12) : am_brn b wd pf n ≤ 14400 := by
  have h := (am_gp_le b n).2
  have h1 : wd * (am_gp b n).2 * (am_gp b n).2 ≤ 100 * 12 * 12 := Nat.mul_le_mul (Nat.mul_le_mul hw (by omega)) (by omega)
  exact Nat.le_trans (Nat.div_le_self _ _) (by omega)
/-! shapes out of walls -/
def am_shk (f : Nat → Int32) (v : Int32) (k : Nat) : Nat → Nat → Bool := fun x y => decide (x < 12 ∧ y < 12 ∧ 12 * y + x < k ∧ f (12 * y + x) = v)
def am_shp (f : Nat → Int32) (v : Int32) : Nat → Nat → Bool := fun x y => decide (x < 12 ∧ y < 12 ∧ f (12 * y + x) = v)
theorem am_shk_sup (f : Nat → Int32) (v : Int32) (k : Nat) : am_sup (am_shk f v k) := fun x y h => by
  have h := of_decide_eq_true h
  exact ⟨h.1, h.2.1⟩
theorem am_shp_sup (f : Nat → Int32) (v : Int32) : am_sup (am_shp f v) := fun x y h => by
  have h := of_decide_eq_true h
  exact ⟨h.1, h.2.1⟩
theorem am_shk_144 (f : Nat → Int32) (v : Int32) : am_shk f v 144 = am_shp f v := by
  funext x y
  unfold am_shk am_shp
  apply decide_eq_decide.mpr
  constructor
  · rintro ⟨a, b, c, d⟩; exact ⟨a, b, d⟩
  · rintro ⟨a, b, d⟩; exact ⟨a, b, by omega, d⟩
theorem am_shk_0 (f : Nat → Int32) (v : Int32) : am_shk f v 0 = am_non := by
  funext x y
  unfold am_shk am_non
  exact decide_eq_false (fun h => absurd h.2.2.1 (by omega))
theorem am_shk_s (f : Nat → Int32) (v : Int32) {i j : Nat} (hi : i < 12) (hj : j < 12) : am_shk f v (12 * j + i + 1) = if f (12 * j + i) = v then am_add (am_shk f v (12 * j + i)) i j else am_shk f v (12 * j + i) := by
  funext x y
  by_cases h9 : f (12 * j + i) = v
  · rw [if_pos h9]
    unfold am_add am_shk
    by_cases h : x = i ∧ y = j
    · obtain ⟨rfl, rfl⟩ := h
      rw [if_pos ⟨rfl, rfl⟩]
      exact decide_eq_true ⟨hi, hj, by omega, h9⟩
    · rw [if_neg h]
      apply decide_eq_decide.mpr
      constructor
      · rintro ⟨a, b, c, d⟩; exact ⟨a, b, by omega, d⟩
      · rintro ⟨a, b, c, d⟩; exact ⟨a, b, by omega, d⟩
  · rw [if_neg h9]
    unfold am_shk
    apply decide_eq_decide.mpr
    constructor
    · rintro ⟨a, b, c, d⟩
      refine ⟨a, b, ?_, d⟩
      rcases Nat.lt_succ_iff_lt_or_eq.mp c with c | c
      · exact c
      · exact absurd (by rw [← c]; exact d) h9
    · rintro ⟨a, b, c, d⟩; exact ⟨a, b, by omega, d⟩
def am_wok (f : Nat → Int32) : Prop := ∀ c, c < 144 → f c = -2 ∨ f c = -1 ∨ ∃ p : Nat, p < 30 ∧ f c = nI p
def am_hp (f : Nat → Int32) (k p : Nat) : Bool := am_any (fun c => decide (f c = nI p)) k
/-! what a piece waits for -/
def am_btb (w : Int32) (p b : Nat) : Bool := decide (¬ w = -2 ∧ ¬ w = nI p ∧ ((w = -1 ∧ b = 30) ∨ (b < 30 ∧ w = nI b)))
def am_wtb (f : Nat → Int32) (k p b : Nat) : Bool := am_any (fun c => decide (f c = nI p) && (am_btb (am_wa f (c % 12) (c / 12 + 1)) p b || am_btb (am_wa f (c % 12 + 1) (c / 12)) p b)) k
theorem am_rw_non (i : Nat) : am_rw am_non i = 0 := by
  unfold am_rw am_non
  rw [am_bn_0 (fun _ _ => rfl)]
  rfl
theorem am_non_sup : am_sup am_non := fun _ _ h => by cases h
theorem am_kp1 (i : Nat) : nI (i + 1) - 1 = nI i := nI_pred i
theorem am_ro_s {P : Nat → Nat → Bool} (h : am_sup P) {y : Nat} (hy : y < 1000) : am_ro P (nI y + 1) = am_rw P (y + 1) := by
  rw [nI_1, am_ro_n h (by omega)]
theorem am_dn_rw (P : Nat → Nat → Bool) (y : Nat) : (if y = 0 then (0 : Int32) else am_rw P (y - 1)) = nI (am_bn (fun x => am_dn (fun j => P x j) y) 12) := by
  cases y with
  | zero =>
    rw [if_pos rfl, show (fun x => am_dn (fun j => P x j) 0) = fun _ => false from rfl, am_bn_0 (fun _ _ => rfl)]
    rfl
  | succ k => rfl
theorem am_dif_bn (b c : Nat → Bool) (n : Nat) : am_dif (am_bn b n) (am_bn c n) = am_bn (fun i => b i && !c i) n := by
  apply Nat.eq_of_testBit_eq
  intro i
  rw [am_dif_bit, am_bn_bit, am_bn_bit, am_bn_bit]
  by_cases h : i < n <;> simp [h]
theorem am_and_bn (b c : Nat → Bool) (n : Nat) : am_bn b n &&& am_bn c n = am_bn (fun i => b i && c i) n := by
  apply Nat.eq_of_testBit_eq
  intro i
  rw [Nat.testBit_and, am_bn_bit, am_bn_bit, am_bn_bit]
  by_cases h : i < n <;> simp [h]
theorem am_or_bn (b c : Nat → Bool) (n : Nat) : am_bn b n ||| am_bn c n = am_bn (fun i => b i || c i) n := by
  apply Nat.eq_of_testBit_eq
  intro i
  rw [Nat.testBit_or, am_bn_bit, am_bn_bit, am_bn_bit]
  by_cases h : i < n <;> simp [h]
/-- a bit more -/
theorem am_bn_s (b : Nat → Bool) (n i N : Nat) (hi : i < N) (hn : n = i) : am_bn (fun x => decide (x < n) && b x) N ||| (if b i then 1 <<< i else 0) = am_bn (fun x => decide (x < i + 1) && b x) N := by
  subst hn
  apply Nat.eq_of_testBit_eq
  intro x
  rw [Nat.testBit_or, am_bn_bit, am_bn_bit]
  by_cases hb : b n = true
  · rw [if_pos hb, Nat.one_shiftLeft, Nat.testBit_two_pow]
    by_cases hx : n = x
    · subst hx; simp [hi, hb]
    · have e : decide (x < n + 1) = decide (x < n) := decide_eq_decide.mpr ⟨fun h => by omega, fun h => by omega⟩
      simp [hx, e]
  · rw [if_neg hb, Nat.zero_testBit, Bool.or_false]
    by_cases hx : x = n
    · subst hx; simp [hb]
    · have e : decide (x < n + 1) = decide (x < n) := decide_eq_decide.mpr ⟨fun h => by omega, fun h => by omega⟩
      simp [e]
theorem am_bn_lt0 (b : Nat → Bool) (N : Nat) : am_bn (fun x => decide (x < 0) && b x) N = 0 := am_bn_0 (fun i _ => by simp)
theorem am_bn_ltN (b : Nat → Bool) (N : Nat) : am_bn (fun x => decide (x < N) && b x) N = am_bn b N := am_bn_cg (fun i hi => by simp [hi])
theorem am_run_le (b : Nat → Bool) : ∀ n, am_run b n ≤ n := by
  intro n
  induction n with
  | zero => exact Nat.le_refl _
  | succ n ih => unfold am_run; split <;> omega
theorem am_lr_le (b : Nat → Bool) : ∀ n, am_lr b n ≤ n := by
  intro n
  induction n with
  | zero => exact Nat.le_refl _
  | succ n ih =>
    have := am_run_le b (n + 1)
    show max (am_lr b n) (am_run b (n + 1)) ≤ n + 1
    omega
theorem am_mx_le {g : Nat → Nat} {c : Nat} (h : ∀ k, g k ≤ c) : ∀ n, am_mx g n ≤ c := by
  intro n
  induction n with
  | zero => exact Nat.zero_le _
  | succ n ih =>
    have := h n
    show max (am_mx g n) (g n) ≤ c
    omega
/-- the four cells around a point, as bits -/
def am_4 (P : Nat → Nat → Bool) (x y : Nat) : Nat → Bool := fun k => match k with
  | 0 => P x y
  | 1 => P (x + 1) y
  | 2 => P x (y + 1)
  | 3 => P (x + 1) (y + 1)
  | _ => false
theorem am_4_ct (P : Nat → Nat → Bool) (x y : Nat) : fb_ct (am_4 P x y) 4 = am_b2 (P x y) + am_b2 (P (x + 1) y) + am_b2 (P x (y + 1)) + am_b2 (P (x + 1) (y + 1)) := by
  show 0 + am_b2 (P x y) + am_b2 (P (x + 1) y) + am_b2 (P x (y + 1)) + am_b2 (P (x + 1) (y + 1)) = _
  rw [Nat.zero_add]
theorem am_4_bn (P : Nat → Nat → Bool) {x y : Nat} (hx : x < 11) : (((am_bn (fun i => P i y) 12) >>> x) &&& 3) ||| ((((am_bn (fun i => P i (y + 1)) 12) >>> x) &&& 3) <<< 2) = am_bn (am_4 P x y) 4 := by
  apply Nat.eq_of_testBit_eq
  intro i
  rw [Nat.testBit_or, Nat.testBit_shiftLeft, show (3 : Nat) = 2 ^ 2 - 1 by rfl, Nat.and_two_pow_sub_one_eq_mod, Nat.and_two_pow_sub_one_eq_mod, Nat.testBit_mod_two_pow, Nat.testBit_mod_two_pow, Nat.testBit_shiftRight, Nat.testBit_shiftRight, am_bn_bit, am_bn_bit, am_bn_bit]
  have h0 : x < 12 := by omega
  have h1 : x + 1 < 12 := by omega
  rcases i with _ | _ | _ | _ | i
  · simp [am_4, h0]
  · simp [am_4, h1]
  · simp [am_4, h0]
  · simp [am_4, h1]
  · simp [show ¬ i + 1 + 1 + 1 + 1 < 2 by omega, show ¬ i + 2 < 2 by omega, show ¬ i + 1 + 1 + 1 + 1 < 4 by omega]
