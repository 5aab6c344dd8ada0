/-! ===== helpers for the methods ===== -/
theorem am_nge {i N : Nat} (h : i < N) (hN : N < 2 ^ 31) : (nI N ≤ nI i) = False := eq_false (fun q => by
  have := (nI_leI hN (by omega)).mp q
  omega)
theorem am_nle {i N : Nat} (h : i ≤ N) (hN : N < 2 ^ 31) : (nI i ≤ nI N) = True := eq_true ((nI_leI (by omega) hN).mpr h)
theorem am_for2 (Ho : Nat → Prop) (Hi : Nat → Nat → Prop) (N M : Nat) (h1 : Ho N) (h2 : ∀ j, j < N → Hi j 0 → Ho j) (h3 : ∀ j, j < N → Ho (j + 1) → Hi j M) (h4 : ∀ j, j < N → ∀ i, i < M → Hi j (i + 1) → Hi j i) : Ho 0 :=
  am_for Ho N h1 (fun j hj hn => h2 j hj (am_for (Hi j) M (h3 j hj hn) (h4 j hj) 0 (Nat.zero_le _))) 0 (Nat.zero_le _)
theorem am_maxN {a b : Nat} (ha : a < 2 ^ 31) (hb : b < 2 ^ 31) : am_max (nI a) (nI b) = nI (max a b) := by
  unfold am_max
  by_cases h : a < b
  · rw [if_pos ((nI_ltI ha hb).mpr h), Nat.max_eq_right (by omega)]
  · rw [if_neg (fun q => h ((nI_ltI ha hb).mp q)), Nat.max_eq_left (by omega)]
theorem am_subN {a b : Nat} (h : b ≤ a) : nI a - nI b = nI (a - b) := by
  have e : nI (a - b) + nI b = nI a := by rw [nI_add, Nat.sub_add_cancel h]
  rw [← e, Int32.add_sub_cancel]
theorem am_mulN (a b : Nat) : nI a * nI b = nI (a * b) := (Int32.ofNat_mul a b).symm
theorem am_setb {b : Nat → Bool} {r N : Nat} (hr : r < N) : am_bn b N ||| (1 <<< r) = am_bn (fun i => if i = r then true else b i) N := by
  apply Nat.eq_of_testBit_eq
  intro i
  rw [Nat.testBit_or, am_bn_bit, am_bn_bit, Nat.one_shiftLeft, Nat.testBit_two_pow]
  by_cases h : i = r
  · subst h
    simp [hr]
  · simp [h, Ne.symm h]
theorem am_clrb {b : Nat → Bool} {r N : Nat} (hr : r < N) : am_dif (am_bn b N) (1 <<< r) = am_bn (fun i => if i = r then false else b i) N := by
  apply Nat.eq_of_testBit_eq
  intro i
  rw [am_dif_bit, am_bn_bit, am_bn_bit, Nat.one_shiftLeft, Nat.testBit_two_pow]
  by_cases h : i = r
  · subst h
    simp
  · simp [h, Ne.symm h]
theorem am_1s {k : Nat} (hk : k < 32) : (1 : Int32) <<< (nI k &&& 31) = nI (1 <<< k) := am_shl 1 hk
theorem am_orL (a b : Nat) : lN a ||| lN b = lN (a ||| b) := fb_orL a b
theorem am_shlL : ∀ k, k < 64 → (1 : Int64) <<< ((nI k).toInt64 &&& 63) = lN (1 <<< k) := by decide +kernel
/-! arrays in progress -/
def am_pro {α : Type} (A B : Nat → α) (i : Nat) : Nat → α := fun k => if k < i then A k else B k
theorem am_pro_0 {α : Type} (A B : Nat → α) : am_pro A B 0 = B := by funext k; simp [am_pro]
theorem am_pro_at {α : Type} (A B : Nat → α) (i : Nat) : am_pro A B i i = B i := by simp [am_pro]
theorem am_pro_s (A B : Nat → Int32) (i : Nat) {v : Int32} (hv : v = A i) : upd (am_pro A B i) i v = am_pro A B (i + 1) := by
  funext k
  by_cases hk : k = i
  · subst hk; simp [upd, am_pro, hv]
  · by_cases h9 : k < i
    · simp [upd, am_pro, hk, h9, show k < i + 1 by omega]
    · simp [upd, am_pro, hk, h9, show ¬ k < i + 1 by omega]
theorem am_pro_sL (A B : Nat → Int64) (i : Nat) {v : Int64} (hv : v = A i) : vp_updL (am_pro A B i) i v = am_pro A B (i + 1) := by
  funext k
  by_cases hk : k = i
  · subst hk; simp [vp_updL, am_pro, hv]
  · by_cases h9 : k < i
    · simp [vp_updL, am_pro, hk, h9, show k < i + 1 by omega]
    · simp [vp_updL, am_pro, hk, h9, show ¬ k < i + 1 by omega]
theorem am_pro_N {α : Type} {A B : Nat → α} {N : Nat} (h : ∀ k, N ≤ k → A k = B k) : am_pro A B N = A := by
  funext k
  by_cases hk : k < N
  · simp [am_pro, hk]
  · simp [am_pro, hk, h k (by omega)]
/-! panes, sheets -/
def am_pn0 (E : am_E) (t : Nat) (wc wk st co yr : Int32) (p y : Nat) : Prop := E t = some (.inr (2, [.int wc, .int wk, .int st, .int co, .int yr, .ref p, .ref y]))
def am_sh0 (E : am_E) (t : Nat) (co w h sk : Int32) (u : Nat) : Prop := E t = some (.inr (4, [.int co, .int w, .int h, .int sk, .ref u]))
def am_sko (sk : Int32) (tu : Bool) : Int32 := if tu = true then (if sk = 104 then 118 else 104) else sk
/-! the wall, one off: (i, j) is the cell left of and below -/
def am_wa (f : Nat → Int32) (i j : Nat) : Int32 := if 1 ≤ i ∧ i ≤ 12 ∧ 1 ≤ j ∧ j ≤ 12 then f (12 * (j - 1) + (i - 1)) else -2
theorem am_at_wa {f : Nat → Int32} {x y : Int32} {i j : Nat} (hx : x = if i = 0 then -1 else nI (i - 1)) (hy : y = if j = 0 then -1 else nI (j - 1)) (hi : i < 2 ^ 31) (hj : j < 2 ^ 31) : am_at f x y = am_wa f i j := by
  unfold am_at am_wa
  by_cases h0 : i = 0
  · subst h0
    rw [if_pos rfl] at hx
    subst hx
    rw [if_neg (fun q => absurd q.1.1 (by decide)), if_neg (fun q => absurd q.1 (by decide))]
  · by_cases h1 : j = 0
    · subst h1
      rw [if_pos rfl] at hy
      subst hy
      rw [if_neg (fun q => absurd q.2.1 (by decide)), if_neg (fun q => absurd q.2.2.1 (by decide))]
    · rw [if_neg h0] at hx
      rw [if_neg h1] at hy
      subst hx hy
      have e12 : (12 : Int32) = nI 12 := rfl
      have e0 : (0 : Int32) = nI 0 := rfl
      simp only [e12, e0, am_geN (show 0 < 2 ^ 31 by decide) (show i - 1 < 2 ^ 31 by omega), am_geN (show 12 < 2 ^ 31 by decide) (show i - 1 < 2 ^ 31 by omega), am_geN (show 0 < 2 ^ 31 by decide) (show j - 1 < 2 ^ 31 by omega), am_geN (show 12 < 2 ^ 31 by decide) (show j - 1 < 2 ^ 31 by omega)]
      by_cases h2 : i ≤ 12 ∧ j ≤ 12
      · rw [if_pos (by omega), if_pos (by omega)]
        rw [show nI (j - 1) * nI 12 + nI (i - 1) = nI (12 * (j - 1) + (i - 1)) from am_idx (i - 1) (j - 1), nI_clamp (by omega)]
      · rw [if_neg (by omega), if_neg (by omega)]
theorem am_at_n {f : Nat → Int32} {i j : Nat} (hi : i < 1000) (hj : j < 1000) : am_at f (nI i) (nI j) = am_wa f (i + 1) (j + 1) := am_at_wa (by simp) (by simp) (by omega) (by omega)
theorem am_at_l {f : Nat → Int32} {i j : Nat} (hi : i < 1000) (hj : j < 1000) : am_at f (nI i - 1) (nI j) = am_wa f i (j + 1) := am_at_wa am_neg1 (by simp) (by omega) (by omega)
theorem am_at_d {f : Nat → Int32} {i j : Nat} (hi : i < 1000) (hj : j < 1000) : am_at f (nI i) (nI j - 1) = am_wa f (i + 1) j := am_at_wa (by simp) am_neg1 (by omega) (by omega)
theorem am_at_ld {f : Nat → Int32} {i j : Nat} (hi : i < 1000) (hj : j < 1000) : am_at f (nI i - 1) (nI j - 1) = am_wa f i j := am_at_wa am_neg1 am_neg1 (by omega) (by omega)
def am_lb (a b : Int32) : Nat := if ¬ a = b ∧ (0 ≤ a ∨ 0 ≤ b) then 1 else 0
def am_lsd (f : Nat → Int32) : Nat := fb_sm (fun j => fb_sm (fun i => am_lb (am_wa f i (j + 1)) (am_wa f (i + 1) (j + 1)) + am_lb (am_wa f (i + 1) j) (am_wa f (i + 1) (j + 1))) 13) 13
def am_mtp (f : Nat → Int32) (i j : Nat) : Bool := decide (3 ≤ am_lb (am_wa f i j) (am_wa f (i + 1) j) + am_lb (am_wa f i (j + 1)) (am_wa f (i + 1) (j + 1)) + am_lb (am_wa f i j) (am_wa f i (j + 1)) + am_lb (am_wa f (i + 1) j) (am_wa f (i + 1) (j + 1)))
def am_mts (f : Nat → Int32) : Nat := fb_sm (fun j => fb_ct (fun i => am_mtp f i j) 13) 13
theorem am_lb1 (a b : Int32) : am_lb a b ≤ 1 := by unfold am_lb; split <;> decide
/-! ===== the count of bits, as the JDK has it: byte by byte ===== -/
def am_f1 (x m : Nat) : Nat := x - ((x / 2) &&& m)
def am_f2 (x m : Nat) : Nat := (x &&& m) + ((x / 4) &&& m)
def am_f3 (x m : Nat) : Nat := (x + x / 16) &&& m
theorem am_and256 {a m : Nat} (b n : Nat) (ha : a < 256) (hm : m < 256) : (a + 256 * b) &&& (m + 256 * n) = (a &&& m) + 256 * (b &&& n) := by
  have h9 : a &&& m < 2 ^ 8 := Nat.and_lt_two_pow a hm
  apply Nat.eq_of_testBit_eq
  intro i
  rw [Nat.add_comm a, Nat.add_comm m, Nat.add_comm (a &&& m), Nat.testBit_and]
  rw [Nat.testBit_two_pow_mul_add (i := 8) b ha, Nat.testBit_two_pow_mul_add (i := 8) n hm, Nat.testBit_two_pow_mul_add (i := 8) (b &&& n) h9]
  by_cases h : i < 8
  · simp [h]
  · simp [h]
theorem am_f1s (a b M : Nat) (ha : a < 256) : am_f1 (a + 256 * b) (85 + 256 * M) = am_f1 a 85 + 256 * am_f1 b M := by
  unfold am_f1
  have e : (a + 256 * b) / 2 = (a / 2 + 128 * (b % 2)) + 256 * (b / 2) := by omega
  rw [e, am_and256 _ _ (by omega) (by decide)]
  have e2 : ∀ a, a < 256 → ∀ c, c < 2 → (a / 2 + 128 * c) &&& 85 = (a / 2) &&& 85 := by decide +kernel
  rw [e2 a ha _ (by omega)]
  have h1 : (a / 2) &&& 85 ≤ a / 2 := Nat.and_le_left
  have h2 : (b / 2) &&& M ≤ b / 2 := Nat.and_le_left
  omega
theorem am_f2s (a b M : Nat) (ha : a < 256) : am_f2 (a + 256 * b) (51 + 256 * M) = am_f2 a 51 + 256 * am_f2 b M := by
  unfold am_f2
  have e : (a + 256 * b) / 4 = (a / 4 + 64 * (b % 4)) + 256 * (b / 4) := by omega
  rw [e, am_and256 b M ha (by decide), am_and256 (b / 4) M (by omega) (by decide)]
  have e2 : ∀ a, a < 256 → ∀ c, c < 4 → (a / 4 + 64 * c) &&& 51 = (a / 4) &&& 51 := by decide +kernel
  rw [e2 a ha _ (by omega)]
  omega
theorem am_f3s (a b M : Nat) (ha : a < 80) (hb : b % 16 < 5) : am_f3 (a + 256 * b) (15 + 256 * M) = am_f3 a 15 + 256 * am_f3 b M := by
  unfold am_f3
  have e : (a + 256 * b) + (a + 256 * b) / 16 = (a + a / 16 + 16 * (b % 16)) + 256 * (b + b / 16) := by omega
  rw [e, am_and256 _ _ (by omega) (by decide)]
  have e2 : ∀ a, a < 80 → ∀ c, c < 5 → (a + a / 16 + 16 * c) &&& 15 = (a + a / 16) &&& 15 := by decide +kernel
  rw [e2 a ha _ hb]
def am_p8 (a : Nat) : Nat := fb_ct a.testBit 8
theorem am_ch1 : ∀ a, a < 256 → am_f1 a 85 < 256 ∧ am_f2 (am_f1 a 85) 51 < 80 ∧ am_f2 (am_f1 a 85) 51 % 16 < 5 ∧ am_f3 (am_f2 (am_f1 a 85) 51) 15 = am_p8 a ∧ am_p8 a < 9 := by decide +kernel
/-- M masks of k bytes -/
def am_mk (c : Nat) : Nat → Nat
  | 0 => 0
  | k + 1 => c + 256 * am_mk c k
def am_by (a : Nat) : Nat → Nat
  | 0 => 0
  | k + 1 => am_p8 (a % 256) + 256 * am_by (a / 256) k
theorem am_chain : ∀ k a, a < 256 ^ k → am_f2 (am_f1 a (am_mk 85 k)) (am_mk 51 k) % 16 < 5 ∧ am_f3 (am_f2 (am_f1 a (am_mk 85 k)) (am_mk 51 k)) (am_mk 15 k) = am_by a k := by
  intro k
  induction k with
  | zero =>
    intro a ha
    have : a = 0 := by simpa using ha
    subst this
    decide
  | succ k ih =>
    intro a ha
    obtain ⟨i1, i2⟩ := ih (a / 256) (by rw [Nat.pow_succ] at ha; omega)
    have ea : a = a % 256 + 256 * (a / 256) := by omega
    obtain ⟨c1, c2, c3, c4, -⟩ := am_ch1 (a % 256) (by omega)
    have e1 : am_f1 a (am_mk 85 (k + 1)) = am_f1 (a % 256) 85 + 256 * am_f1 (a / 256) (am_mk 85 k) := by
      conv => lhs; rw [ea]
      exact am_f1s _ _ _ (by omega)
    have e2 : am_f2 (am_f1 a (am_mk 85 (k + 1))) (am_mk 51 (k + 1)) = am_f2 (am_f1 (a % 256) 85) 51 + 256 * am_f2 (am_f1 (a / 256) (am_mk 85 k)) (am_mk 51 k) := by
      rw [e1]
      exact am_f2s _ _ _ c1
    refine ⟨by rw [e2]; omega, ?_⟩
    rw [e2]
    show am_f3 _ (15 + 256 * am_mk 15 k) = _
    rw [am_f3s _ _ _ c2 i1, c4, i2]
    rfl
theorem am_by_ct : ∀ k a, fb_sm (fun i => am_by a k / 256 ^ i % 256) k = fb_ct a.testBit (8 * k) := by
  intro k
  induction k with
  | zero => intro a; rfl
  | succ k ih =>
    intro a
    have h8 : am_p8 (a % 256) < 9 := (am_ch1 (a % 256) (by omega)).2.2.2.2
    rw [show k + 1 = 1 + k by omega, fb_sm_split, show 8 * (1 + k) = 8 + 8 * k by omega, fb_ct_split]
    rw [show 1 + k = k + 1 by omega]
    have e0 : fb_sm (fun i => am_by a (k + 1) / 256 ^ i % 256) 1 = fb_ct a.testBit 8 := by
      show 0 + (am_p8 (a % 256) + 256 * am_by (a / 256) k) / 256 ^ 0 % 256 = _
      have : am_p8 (a % 256) = fb_ct a.testBit 8 := fb_ct_cong (fun i hi => by
        rw [show (256 : Nat) = 2 ^ 8 by rfl, Nat.testBit_mod_two_pow]; simp [hi])
      omega
    have e1 : fb_sm (fun i => am_by a (k + 1) / 256 ^ (1 + i) % 256) k = fb_sm (fun i => am_by (a / 256) k / 256 ^ i % 256) k := fb_sm_cong (fun i hi => by
      show (am_p8 (a % 256) + 256 * am_by (a / 256) k) / 256 ^ (1 + i) % 256 = _
      rw [Nat.pow_add, ← Nat.div_div_eq_div_mul]
      rw [show (am_p8 (a % 256) + 256 * am_by (a / 256) k) / 256 ^ 1 = am_by (a / 256) k by omega])
    rw [e0, e1, ih (a / 256)]
    congr 1
    apply fb_ct_cong
    intro i hi
    rw [show (256 : Nat) = 2 ^ 8 by rfl, Nat.testBit_div_two_pow, Nat.add_comm]
theorem am_bc4 (a : Nat) (h : a < 2 ^ 32) : ∃ s1 s2 s3 : Nat, s1 = a - ((a >>> 1) &&& 1431655765) ∧ (a >>> 1) &&& 1431655765 ≤ a ∧ s1 < 2 ^ 32 ∧ s2 = (s1 &&& 858993459) + ((s1 >>> 2) &&& 858993459) ∧ s2 < 2 ^ 32 ∧ s3 = (s2 + s2 >>> 4) &&& 252645135 ∧ s3 < 2 ^ 32 ∧ s3 + s3 >>> 8 < 2 ^ 32 ∧ s2 + s2 >>> 4 < 2 ^ 32 ∧ (s3 + s3 >>> 8 + (s3 + s3 >>> 8) >>> 16) &&& 63 = fb_ct a.testBit 32 := by
  obtain ⟨h1, h2⟩ := am_chain 4 a h
  have e1 : am_f1 a (am_mk 85 4) = a - ((a >>> 1) &&& 1431655765) := by
    unfold am_f1; rw [Nat.shiftRight_eq_div_pow]; rfl
  have hl : (a >>> 1) &&& 1431655765 ≤ a := Nat.le_trans Nat.and_le_left (Nat.shiftRight_le _ _)
  rw [e1] at h1 h2
  have e2 : am_f2 (a - ((a >>> 1) &&& 1431655765)) (am_mk 51 4) = ((a - ((a >>> 1) &&& 1431655765)) &&& 858993459) + (((a - ((a >>> 1) &&& 1431655765)) >>> 2) &&& 858993459) := by
    unfold am_f2; rw [Nat.shiftRight_eq_div_pow (a - _) 2]; rfl
  rw [e2] at h1 h2
  generalize hs1 : a - ((a >>> 1) &&& 1431655765) = s1 at h1 h2 e2
  have b1 : s1 < 2 ^ 32 := by omega
  generalize hs2 : (s1 &&& 858993459) + ((s1 >>> 2) &&& 858993459) = s2 at h1 h2 e2
  have k1 : s1 &&& 858993459 ≤ 858993459 := Nat.and_le_right
  have k2 : (s1 >>> 2) &&& 858993459 ≤ 858993459 := Nat.and_le_right
  have b2 : s2 ≤ 1717986918 := by omega
  have e3 : am_f3 s2 (am_mk 15 4) = (s2 + s2 >>> 4) &&& 252645135 := by
    unfold am_f3; rw [Nat.shiftRight_eq_div_pow]; rfl
  rw [e3] at h2
  have k3 : (s2 + s2 >>> 4) &&& 252645135 ≤ 252645135 := Nat.and_le_right
  refine ⟨s1, s2, (s2 + s2 >>> 4) &&& 252645135, rfl, hl, b1, hs2.symm, by omega, rfl, by omega, ?_, ?_, ?_⟩
  · rw [Nat.shiftRight_eq_div_pow ((s2 + s2 >>> 4) &&& 252645135) 8]; omega
  · rw [Nat.shiftRight_eq_div_pow s2 4]; omega
  · rw [h2]
    have hc := am_by_ct 4 a
    have q : ∀ k x, am_by x (k + 1) = am_p8 (x % 256) + 256 * am_by (x / 256) k := fun _ _ => rfl
    have p1 := (am_ch1 (a % 256) (by omega)).2.2.2.2
    have p2 := (am_ch1 (a / 256 % 256) (by omega)).2.2.2.2
    have p3 := (am_ch1 (a / 256 / 256 % 256) (by omega)).2.2.2.2
    have p4 := (am_ch1 (a / 256 / 256 / 256 % 256) (by omega)).2.2.2.2
    have eb : am_by a 4 = am_p8 (a % 256) + 256 * (am_p8 (a / 256 % 256) + 256 * (am_p8 (a / 256 / 256 % 256) + 256 * am_p8 (a / 256 / 256 / 256 % 256))) := by
      rw [q, q, q, q]
      show _ + 256 * (_ + 256 * (_ + 256 * (_ + 256 * 0))) = _
      rfl
    rw [← hc]
    simp only [fb_sm]
    rw [eb]
    generalize am_p8 (a % 256) = x1 at *
    generalize am_p8 (a / 256 % 256) = x2 at *
    generalize am_p8 (a / 256 / 256 % 256) = x3 at *
    generalize am_p8 (a / 256 / 256 / 256 % 256) = x4 at *
    rw [show (63 : Nat) = 2 ^ 6 - 1 by rfl, Nat.and_two_pow_sub_one_eq_mod, Nat.shiftRight_eq_div_pow, Nat.shiftRight_eq_div_pow]
    simp only [Nat.reducePow, Nat.div_one]
    have d1 : (x1 + 256 * (x2 + 256 * (x3 + 256 * x4))) / 256 = x2 + 256 * (x3 + 256 * x4) := by omega
    have d2 : (x1 + 256 * (x2 + 256 * (x3 + 256 * x4))) / 65536 = x3 + 256 * x4 := by omega
    have d3 : (x1 + 256 * (x2 + 256 * (x3 + 256 * x4))) / 16777216 = x4 := by omega
    have d4 : (x1 + 256 * (x2 + 256 * (x3 + 256 * x4)) + (x2 + 256 * (x3 + 256 * x4))) / 65536 = x3 + x4 + 256 * x4 := by clear hc h1 h2 e2 e3; omega
    have r1 : (x1 + 256 * (x2 + 256 * (x3 + 256 * x4))) % 256 = x1 := by omega
    have r2 : (x2 + 256 * (x3 + 256 * x4)) % 256 = x2 := by omega
    have r3 : (x3 + 256 * x4) % 256 = x3 := by omega
    have r4 : x4 % 256 = x4 := by omega
    rw [d1, d2, d3, d4, r1, r2, r3, r4]
    clear hc d1 d2 d3 d4 r1 r2 r3 r4 eb
    omega
theorem am_ushr {a k : Nat} (ha : a < 2 ^ 32) (hk : k < 32) : ((nI a).toUInt32 >>> ((nI k).toUInt32 &&& Int32.toUInt32 31)).toInt32 = nI (a >>> k) := b_ext fun i hi => by
  rw [b_ushr k hk, bt_nI, bt_nI, Nat.testBit_shiftRight]
  by_cases h : k + i < 32
  · simp [h, hi]
  · simp only [h, decide_false, Bool.false_and, hi, decide_true, Bool.true_and]
    exact (Nat.testBit_lt_two_pow (Nat.lt_of_lt_of_le ha (Nat.pow_le_pow_right (by decide) (by omega)))).symm
theorem am_ct_big {a m n : Nat} (ha : a < 2 ^ m) (h : m ≤ n) : fb_ct a.testBit n = fb_ct a.testBit m := by
  obtain ⟨d, rfl⟩ := Nat.exists_eq_add_of_le h
  rw [fb_ct_split, (fb_ct_zero (p := fun k => a.testBit (m + k))).mpr (fun k _ => Nat.testBit_lt_two_pow (Nat.lt_of_lt_of_le ha (Nat.pow_le_pow_right (by decide) (by omega)))), Nat.add_zero]
theorem am_ct_bn (b : Nat → Bool) {m n : Nat} (h : m ≤ n) : fb_ct (am_bn b m).testBit n = fb_ct b m := by
  rw [am_ct_big (am_bn_lt b m) h]
  exact fb_ct_cong (fun i hi => by rw [am_bn_bit]; simp [hi])
/-! ===== bars ===== -/
def am_gp (b : Nat → Bool) : Nat → Nat × Nat
  | 0 => (0, 0)
  | n + 1 => if n + 1 = 12 ∨ b (n + 1) = true then (n + 1, max (am_gp b n).2 (n + 1 - (am_gp b n).1)) else am_gp b n
theorem am_gp_le (b : Nat → Bool) : ∀ n, (am_gp b n).1 ≤ n ∧ (am_gp b n).2 ≤ n := by
  intro n
  induction n with
  | zero => exact ⟨Nat.le_refl _, Nat.le_refl _⟩
  | succ n ih =>
    unfold am_gp
    split
    · exact ⟨Nat.le_refl _, by show max _ _ ≤ _; omega⟩
    · exact ⟨by omega, by omega⟩
def am_brn (b : Nat → Bool) (wd pf : Nat) (n : Nat) : Nat := wd * (am_gp b n).2 * (am_gp b n).2 / (4 * pf)
theorem am_sq {w a b : Nat} (h : a ≤ b) : w * a * a ≤ w * b * b := Nat.mul_le_mul (Nat.mul_le_mul_left _ h) h
theorem am_brn_le {b : Nat → Bool} {wd pf n : Nat} (hw : wd ≤ 100) (hn : n ≤ 12) : am_brn b wd pf n ≤ 14400 := by
  have h := (am_gp_le b n).2
  have h1 : wd * (am_gp b n).2 * (am_gp b n).2 ≤ 100 * 12 * 12 := Nat.mul_le_mul (Nat.mul_le_mul hw (by omega)) (by omega)
  exact Nat.le_trans (Nat.div_le_self _ _) (by omega)
/-! shapes out of walls -/
def am_shk (f : Nat → Int32) (v : Int32) (k : Nat) : Nat → Nat → Bool := fun x y => decide (x < 12 ∧ y < 12 ∧ 12 * y + x < k ∧ f (12 * y + x) = v)
def am_shp (f : Nat → Int32) (v : Int32) : Nat → Nat → Bool := fun x y => decide (x < 12 ∧ y < 12 ∧ f (12 * y + x) = v)
theorem am_shk_sup (f : Nat → Int32) (v : Int32) (k : Nat) : am_sup (am_shk f v k) := fun x y h => by
  have h := of_decide_eq_true h
  exact ⟨h.1, h.2.1⟩
theorem am_shp_sup (f : Nat → Int32) (v : Int32) : am_sup (am_shp f v) := fun x y h => by
  have h := of_decide_eq_true h
  exact ⟨h.1, h.2.1⟩
theorem am_shk_144 (f : Nat → Int32) (v : Int32) : am_shk f v 144 = am_shp f v := by
  funext x y
  unfold am_shk am_shp
  apply decide_eq_decide.mpr
  constructor
  · rintro ⟨a, b, c, d⟩; exact ⟨a, b, d⟩
  · rintro ⟨a, b, d⟩; exact ⟨a, b, by omega, d⟩
theorem am_shk_0 (f : Nat → Int32) (v : Int32) : am_shk f v 0 = am_non := by
  funext x y
  unfold am_shk am_non
  exact decide_eq_false (fun h => absurd h.2.2.1 (by omega))
theorem am_shk_s (f : Nat → Int32) (v : Int32) {i j : Nat} (hi : i < 12) (hj : j < 12) : am_shk f v (12 * j + i + 1) = if f (12 * j + i) = v then am_add (am_shk f v (12 * j + i)) i j else am_shk f v (12 * j + i) := by
  funext x y
  by_cases h9 : f (12 * j + i) = v
  · rw [if_pos h9]
    unfold am_add am_shk
    by_cases h : x = i ∧ y = j
    · obtain ⟨rfl, rfl⟩ := h
      rw [if_pos ⟨rfl, rfl⟩]
      exact decide_eq_true ⟨hi, hj, by omega, h9⟩
    · rw [if_neg h]
      apply decide_eq_decide.mpr
      constructor
      · rintro ⟨a, b, c, d⟩; exact ⟨a, b, by omega, d⟩
      · rintro ⟨a, b, c, d⟩; exact ⟨a, b, by omega, d⟩
  · rw [if_neg h9]
    unfold am_shk
    apply decide_eq_decide.mpr
    constructor
    · rintro ⟨a, b, c, d⟩
      refine ⟨a, b, ?_, d⟩
      rcases Nat.lt_succ_iff_lt_or_eq.mp c with c | c
      · exact c
      · exact absurd (by rw [← c]; exact d) h9
    · rintro ⟨a, b, c, d⟩; exact ⟨a, b, by omega, d⟩
def am_wok (f : Nat → Int32) : Prop := ∀ c, c < 144 → f c = -2 ∨ f c = -1 ∨ ∃ p : Nat, p < 30 ∧ f c = nI p
def am_hp (f : Nat → Int32) (k p : Nat) : Bool := am_any (fun c => decide (f c = nI p)) k
/-! what a piece waits for -/
def am_btb (w : Int32) (p b : Nat) : Bool := decide (¬ w = -2 ∧ ¬ w = nI p ∧ ((w = -1 ∧ b = 30) ∨ (b < 30 ∧ w = nI b)))
def am_wtb (f : Nat → Int32) (k p b : Nat) : Bool := am_any (fun c => decide (f c = nI p) && (am_btb (am_wa f (c % 12) (c / 12 + 1)) p b || am_btb (am_wa f (c % 12 + 1) (c / 12)) p b)) k
theorem am_rw_non (i : Nat) : am_rw am_non i = 0 := by
  unfold am_rw am_non
  rw [am_bn_0 (fun _ _ => rfl)]
  rfl
theorem am_non_sup : am_sup am_non := fun _ _ h => by cases h
theorem am_kp1 (i : Nat) : nI (i + 1) - 1 = nI i := nI_pred i
theorem am_ro_s {P : Nat → Nat → Bool} (h : am_sup P) {y : Nat} (hy : y < 1000) : am_ro P (nI y + 1) = am_rw P (y + 1) := by
  rw [nI_1, am_ro_n h (by omega)]
theorem am_dn_rw (P : Nat → Nat → Bool) (y : Nat) : (if y = 0 then (0 : Int32) else am_rw P (y - 1)) = nI (am_bn (fun x => am_dn (fun j => P x j) y) 12) := by
  cases y with
  | zero =>
    rw [if_pos rfl, show (fun x => am_dn (fun j => P x j) 0) = fun _ => false from rfl, am_bn_0 (fun _ _ => rfl)]
    rfl
  | succ k => rfl
theorem am_dif_bn (b c : Nat → Bool) (n : Nat) : am_dif (am_bn b n) (am_bn c n) = am_bn (fun i => b i && !c i) n := by
  apply Nat.eq_of_testBit_eq
  intro i
  rw [am_dif_bit, am_bn_bit, am_bn_bit, am_bn_bit]
  by_cases h : i < n <;> simp [h]
theorem am_and_bn (b c : Nat → Bool) (n : Nat) : am_bn b n &&& am_bn c n = am_bn (fun i => b i && c i) n := by
  apply Nat.eq_of_testBit_eq
  intro i
  rw [Nat.testBit_and, am_bn_bit, am_bn_bit, am_bn_bit]
  by_cases h : i < n <;> simp [h]
theorem am_or_bn (b c : Nat → Bool) (n : Nat) : am_bn b n ||| am_bn c n = am_bn (fun i => b i || c i) n := by
  apply Nat.eq_of_testBit_eq
  intro i
  rw [Nat.testBit_or, am_bn_bit, am_bn_bit, am_bn_bit]
  by_cases h : i < n <;> simp [h]
/-- a bit more -/
theorem am_bn_s (b : Nat → Bool) (n i N : Nat) (hi : i < N) (hn : n = i) : am_bn (fun x => decide (x < n) && b x) N ||| (if b i then 1 <<< i else 0) = am_bn (fun x => decide (x < i + 1) && b x) N := by
  subst hn
  apply Nat.eq_of_testBit_eq
  intro x
  rw [Nat.testBit_or, am_bn_bit, am_bn_bit]
  by_cases hb : b n = true
  · rw [if_pos hb, Nat.one_shiftLeft, Nat.testBit_two_pow]
    by_cases hx : n = x
    · subst hx; simp [hi, hb]
    · have e : decide (x < n + 1) = decide (x < n) := decide_eq_decide.mpr ⟨fun h => by omega, fun h => by omega⟩
      simp [hx, e]
  · rw [if_neg hb, Nat.zero_testBit, Bool.or_false]
    by_cases hx : x = n
    · subst hx; simp [hb]
    · have e : decide (x < n + 1) = decide (x < n) := decide_eq_decide.mpr ⟨fun h => by omega, fun h => by omega⟩
      simp [e]
theorem am_bn_lt0 (b : Nat → Bool) (N : Nat) : am_bn (fun x => decide (x < 0) && b x) N = 0 := am_bn_0 (fun i _ => by simp)
theorem am_bn_ltN (b : Nat → Bool) (N : Nat) : am_bn (fun x => decide (x < N) && b x) N = am_bn b N := am_bn_cg (fun i hi => by simp [hi])
theorem am_run_le (b : Nat → Bool) : ∀ n, am_run b n ≤ n := by
  intro n
  induction n with
  | zero => exact Nat.le_refl _
  | succ n ih => unfold am_run; split <;> omega
theorem am_lr_le (b : Nat → Bool) : ∀ n, am_lr b n ≤ n := by
  intro n
  induction n with
  | zero => exact Nat.le_refl _
  | succ n ih =>
    have := am_run_le b (n + 1)
    show max (am_lr b n) (am_run b (n + 1)) ≤ n + 1
    omega
theorem am_mx_le {g : Nat → Nat} {c : Nat} (h : ∀ k, g k ≤ c) : ∀ n, am_mx g n ≤ c := by
  intro n
  induction n with
  | zero => exact Nat.zero_le _
  | succ n ih =>
    have := h n
    show max (am_mx g n) (g n) ≤ c
    omega
/-- the four cells around a point, as bits -/
def am_4 (P : Nat → Nat → Bool) (x y : Nat) : Nat → Bool := fun k => match k with
  | 0 => P x y
  | 1 => P (x + 1) y
  | 2 => P x (y + 1)
  | 3 => P (x + 1) (y + 1)
  | _ => false
theorem am_4_ct (P : Nat → Nat → Bool) (x y : Nat) : fb_ct (am_4 P x y) 4 = am_b2 (P x y) + am_b2 (P (x + 1) y) + am_b2 (P x (y + 1)) + am_b2 (P (x + 1) (y + 1)) := by
  show 0 + am_b2 (P x y) + am_b2 (P (x + 1) y) + am_b2 (P x (y + 1)) + am_b2 (P (x + 1) (y + 1)) = _
  rw [Nat.zero_add]
theorem am_4_bn (P : Nat → Nat → Bool) {x y : Nat} (hx : x < 11) : (((am_bn (fun i => P i y) 12) >>> x) &&& 3) ||| ((((am_bn (fun i => P i (y + 1)) 12) >>> x) &&& 3) <<< 2) = am_bn (am_4 P x y) 4 := by
  apply Nat.eq_of_testBit_eq
  intro i
  rw [Nat.testBit_or, Nat.testBit_shiftLeft, show (3 : Nat) = 2 ^ 2 - 1 by rfl, Nat.and_two_pow_sub_one_eq_mod, Nat.and_two_pow_sub_one_eq_mod, Nat.testBit_mod_two_pow, Nat.testBit_mod_two_pow, Nat.testBit_shiftRight, Nat.testBit_shiftRight, am_bn_bit, am_bn_bit, am_bn_bit]
  have h0 : x < 12 := by omega
  have h1 : x + 1 < 12 := by omega
  rcases i with _ | _ | _ | _ | i
  · simp [am_4, h0]
  · simp [am_4, h1]
  · simp [am_4, h0]
  · simp [am_4, h1]
  · simp [show ¬ i + 1 + 1 + 1 + 1 < 2 by omega, show ¬ i + 2 < 2 by omega, show ¬ i + 1 + 1 + 1 + 1 < 4 by omega]
/-! ===== whole: growing ===== -/
theorem am_ct_lt {p q : Nat → Bool} {n k : Nat} (h : ∀ i, i < n → p i = true → q i = true) (hk : k < n) (hq : q k = true) (hp : p k = false) : fb_ct p n < fb_ct q n := by
  have e : fb_ct q n = fb_ct p n + fb_ct (fun i => q i && !p i) n := by
    rw [← fb_ct_or (fun i _ => by cases p i <;> simp)]
    exact fb_ct_cong (fun i hi => by
      cases hpi : p i with
      | true => simp [h i hi hpi]
      | false => simp)
  have : 0 < fb_ct (fun i => q i && !p i) n := fb_ct_pos.mpr ⟨k, hk, by simp [hq, hp]⟩
  omega
theorem am_sm_lt {f g : Nat → Nat} {n k : Nat} (h : ∀ i, i < n → f i ≤ g i) (hk : k < n) (hl : f k < g k) : fb_sm f n < fb_sm g n := by
  have h1 := fb_sm_split f (k + 1) (n - (k + 1))
  have h2 := fb_sm_split g (k + 1) (n - (k + 1))
  rw [show k + 1 + (n - (k + 1)) = n by omega] at h1 h2
  have h3 : fb_sm f k ≤ fb_sm g k := fb_sm_le (fun i hi => h i (by omega))
  have h4 : fb_sm (fun i => f (k + 1 + i)) (n - (k + 1)) ≤ fb_sm (fun i => g (k + 1 + i)) (n - (k + 1)) := fb_sm_le (fun i hi => h _ (by omega))
  rw [h1, h2, fb_sm_succ, fb_sm_succ]
  omega
theorem am_sz_lt {R S : Nat → Nat → Bool} (hs : am_sup S) (h : ∀ x y, R x y = true → S x y = true) (hn : ¬ S = R) : am_sz R < am_sz S := by
  have hx : ∃ x y, S x y = true ∧ R x y = false := by
    apply Classical.byContradiction
    intro hc
    apply hn
    funext x y
    cases h1 : S x y with
    | true => cases h2 : R x y with
      | true => rfl
      | false => exact absurd ⟨x, y, h1, h2⟩ hc
    | false => cases h2 : R x y with
      | true => have := h x y h2; rw [h1] at this; exact this
      | false => rfl
  obtain ⟨x, y, h1, h2⟩ := hx
  obtain ⟨hx, hy⟩ := hs x y h1
  exact am_sm_lt (fun j _ => fb_ct_sub (fun i _ q => h i j q)) hy (am_ct_lt (fun i _ q => h i y q) hx h1 h2)
theorem am_sz_le (P : Nat → Nat → Bool) : am_sz P ≤ 144 := Nat.le_trans (fb_sm_bound (c := 12) (fun k _ => fb_ct_le _ 12)) (by decide)
theorem am_sz_0 {P : Nat → Nat → Bool} (h : ∀ x y, P x y = false) : am_sz P = 0 := by
  unfold am_sz
  have : ∀ n, fb_sm (fun y => fb_ct (fun x => P x y) 12) n = 0 := by
    intro n
    induction n with
    | zero => rfl
    | succ n ih => rw [fb_sm_succ, ih, fb_ct_zero.mpr (fun x _ => h x n)]
  exact this 12
theorem am_bn_inj {b c : Nat → Bool} {n : Nat} (h : am_bn b n = am_bn c n) : ∀ i, i < n → b i = c i := by
  intro i hi
  have := congrArg (fun a => a.testBit i) h
  simp only [am_bn_bit, hi, decide_true, Bool.true_and] at this
  exact this
theorem am_rw_inj {P Q : Nat → Nat → Bool} {y : Nat} (h : am_rw P y = am_rw Q y) : ∀ x, x < 12 → P x y = Q x y := by
  have h := (nI_eq (am_rwb P y) (am_rwb Q y)).mp h
  exact am_bn_inj h
def am_setr (R : Nat → Nat → Bool) (i : Nat) (b : Nat → Bool) : Nat → Nat → Bool := fun x y => if y = i then b x else R x y
def am_nr (P R : Nat → Nat → Bool) (i : Nat) : Nat → Bool := fun x => P x i && (R x i || am_dn (fun k => R k i) x || R (x + 1) i || am_dn (fun j => R x j) i || R x (i + 1))
def am_gi (P R S : Nat → Nat → Bool) (i : Nat) : Prop := (∀ x y, R x y = true → S x y = true) ∧ (∀ x y, S x y = true → P x y = true) ∧ (∀ Q, am_cls P Q → (∀ x y, R x y = true → Q x y = true) → ∀ x y, S x y = true → Q x y = true) ∧ (S = R → ∀ x y, y < i → P x y = true → ∀ u v, am_nb u v x y → R u v = true → R x y = true)
theorem am_gi_0 {P R : Nat → Nat → Bool} (h : ∀ x y, R x y = true → P x y = true) : am_gi P R R 0 := ⟨fun _ _ q => q, h, fun _ _ q => q, fun _ _ _ q => by omega⟩
theorem am_nr_mem {P S : Nat → Nat → Bool} {i x : Nat} (h : am_nr P S i x = true) : P x i = true ∧ (S x i = true ∨ ∃ u v, am_nb u v x i ∧ S u v = true) := by
  unfold am_nr at h
  simp only [Bool.and_eq_true, Bool.or_eq_true] at h
  obtain ⟨h1, h2⟩ := h
  refine ⟨h1, ?_⟩
  rcases h2 with (((h2 | h2) | h2) | h2) | h2
  · exact Or.inl h2
  · cases x with
    | zero => cases h2
    | succ k => exact Or.inr ⟨k, i, Or.inr ⟨rfl, Or.inr rfl⟩, h2⟩
  · exact Or.inr ⟨x + 1, i, Or.inr ⟨rfl, Or.inl rfl⟩, h2⟩
  · cases i with
    | zero => cases h2
    | succ k => exact Or.inr ⟨x, k, Or.inl ⟨rfl, Or.inr rfl⟩, h2⟩
  · exact Or.inr ⟨x, i + 1, Or.inl ⟨rfl, Or.inl rfl⟩, h2⟩
theorem am_nr_in {P S : Nat → Nat → Bool} {i x u v : Nat} (h1 : P x i = true) (h2 : am_nb u v x i) (h3 : S u v = true) : am_nr P S i x = true := by
  unfold am_nr
  simp only [Bool.and_eq_true, Bool.or_eq_true]
  refine ⟨h1, ?_⟩
  rcases h2 with ⟨rfl, rfl | rfl⟩ | ⟨rfl, rfl | rfl⟩
  · exact Or.inr h3
  · exact Or.inl (Or.inr h3)
  · exact Or.inl (Or.inl (Or.inr h3))
  · exact Or.inl (Or.inl (Or.inl (Or.inr h3)))
theorem am_gi_s {P R S : Nat → Nat → Bool} {i : Nat} (h : am_gi P R S i) : am_gi P R (am_setr S i (am_nr P S i)) (i + 1) ∧ ∀ x y, S x y = true → am_setr S i (am_nr P S i) x y = true := by
  obtain ⟨h1, h2, h3, h4⟩ := h
  have hm : ∀ x y, S x y = true → am_setr S i (am_nr P S i) x y = true := fun x y q => by
    unfold am_setr
    by_cases hy : y = i
    · subst hy
      rw [if_pos rfl]
      unfold am_nr
      simp [h2 x y q, q]
    · rw [if_neg hy]; exact q
  refine ⟨⟨fun x y q => hm x y (h1 x y q), ?_, ?_, ?_⟩, hm⟩
  · intro x y q
    unfold am_setr at q
    by_cases hy : y = i
    · subst hy
      rw [if_pos rfl] at q
      exact (am_nr_mem q).1
    · rw [if_neg hy] at q; exact h2 x y q
  · intro Q hQ hR x y q
    unfold am_setr at q
    by_cases hy : y = i
    · subst hy
      rw [if_pos rfl] at q
      obtain ⟨a1, a2 | ⟨u, v, a2, a3⟩⟩ := am_nr_mem q
      · exact h3 Q hQ hR x y a2
      · exact hQ u v x y (h3 Q hQ hR u v a3) a2 a1
    · rw [if_neg hy] at q; exact h3 Q hQ hR x y q
  · intro he x y hy hP u v hn hR
    have hS : S = R := by
      funext a b
      cases hs : S a b with
      | true => rw [← he]; exact (hm a b hs).symm
      | false => cases hr : R a b with
        | true => have := h1 a b hr; rw [hs] at this; cases this
        | false => rfl
    by_cases hyi : y = i
    · subst hyi
      have := am_nr_in (P := P) (S := S) hP hn (by rw [hS]; exact hR)
      rw [← he]
      unfold am_setr
      rw [if_pos rfl]
      exact this
    · exact h4 hS x y (by omega) hP u v hn hR
theorem am_nrw {P S : Nat → Nat → Bool} (hS : am_sup S) (i : Nat) : am_rw P i &&& (am_rw S i ||| am_rw S i <<< ((1 : Int32) &&& 31) ||| am_rw S i >>> ((1 : Int32) &&& 31) ||| nI (am_bn (fun x => am_dn (fun j => S x j) i) 12) ||| am_rw S (i + 1)) = am_rw (am_setr S i (am_nr P S i)) i := by
  unfold am_rw
  have a1 : nI (am_bn (fun x => S x i) 12) <<< ((1 : Int32) &&& 31) = nI (am_bn (fun x => S x i) 12 <<< 1) := am_shl _ (k := 1) (by decide)
  have a2 : nI (am_bn (fun x => S x i) 12) >>> ((1 : Int32) &&& 31) = nI (am_bn (fun x => S x i) 12 >>> 1) := am_shr (k := 1) (am_rwb S i) (by decide)
  rw [a1, a2, am_or, am_or, am_or, am_or, am_and]
  congr 1
  apply Nat.eq_of_testBit_eq
  intro x
  have e : (fun x => am_setr S i (am_nr P S i) x i) = am_nr P S i := by funext x; exact if_pos rfl
  rw [e]
  simp only [Nat.testBit_and, Nat.testBit_or, Nat.testBit_shiftLeft, Nat.testBit_shiftRight, am_bn_bit]
  by_cases hx : x < 12
  · unfold am_nr
    have e1 : (decide (x ≥ 1) && (decide (x - 1 < 12) && S (x - 1) i)) = am_dn (fun k => S k i) x := by
      cases x with
      | zero => rfl
      | succ k => simp [am_dn, show k < 12 by omega]
    have e2 : (decide (1 + x < 12) && S (1 + x) i) = S (x + 1) i := by
      rw [Nat.add_comm 1 x]
      by_cases h : x + 1 < 12
      · simp [h]
      · simp [h, am_sup_x hS (show 12 ≤ x + 1 by omega)]
    rw [e1, e2]
    simp [hx]
  · simp [hx]
def am_sg (i j : Nat) : Nat → Nat → Bool := fun x y => decide (x = i ∧ y = j)
theorem am_low1 : ∀ n a : Nat, a < 2 ^ n → a ≠ 0 → ∃ x, x < n ∧ a.testBit x = true ∧ ∀ j, j < x → a.testBit j = false := by
  intro n
  induction n with
  | zero => intro a ha h0; exact absurd (Nat.lt_one_iff.mp ha) h0
  | succ n ih =>
    intro a ha h0
    by_cases hb : a.testBit 0 = true
    · exact ⟨0, by omega, hb, fun j hj => absurd hj (Nat.not_lt_zero j)⟩
    · have he : a % 2 = 0 := by
        rw [Nat.testBit_zero] at hb
        have := of_decide_eq_false (Bool.eq_false_iff.mpr hb)
        omega
      obtain ⟨x, h1, h2, h3⟩ := ih (a / 2) (by rw [Nat.pow_succ] at ha; omega) (by omega)
      refine ⟨x + 1, by omega, by rw [Nat.testBit_succ]; exact h2, fun j hj => ?_⟩
      cases j with
      | zero => exact Bool.eq_false_iff.mpr hb
      | succ j => rw [Nat.testBit_succ]; exact h3 j (by omega)
theorem am_lowb (a x : Nat) (hx : x < 32) (h1 : a.testBit x = true) (h2 : ∀ j, j < x → a.testBit j = false) : nI a &&& -(nI a) = nI (1 <<< x) := b_ext fun i hi => by
  have e1 : bt (nI a) i = a.testBit i := by
    show (BitVec.ofNat 32 a).getLsbD i = _
    rw [BitVec.getLsbD_ofNat, decide_eq_true hi, Bool.true_and]
  have e3 : bt (nI (1 <<< x)) i = decide (i = x) := by
    show (BitVec.ofNat 32 (1 <<< x)).getLsbD i = _
    rw [BitVec.getLsbD_ofNat, decide_eq_true hi, Bool.true_and, Nat.one_shiftLeft, Nat.testBit_two_pow]
    exact decide_eq_decide.mpr ⟨Eq.symm, Eq.symm⟩
  rw [b_and, e1, e3]
  by_cases h : i = x
  · subst h
    have e2 : bt (-(nI a)) i = a.testBit i := by
      show (-(BitVec.ofNat 32 a)).getLsbD i = _
      rw [BitVec.getLsbD_neg, decide_eq_true hi, Bool.true_and, decide_eq_false (fun ⟨j, hj, hb⟩ => by rw [BitVec.getLsbD_ofNat, h2 j hj, Bool.and_false] at hb; cases hb), Bool.xor_false, BitVec.getLsbD_ofNat, decide_eq_true hi, Bool.true_and]
    rw [e2, h1, decide_eq_true rfl]
    rfl
  · rw [decide_eq_false h]
    by_cases hl : i < x
    · rw [h2 i hl]; rfl
    · have e2 : bt (-(nI a)) i = !a.testBit i := by
        show (-(BitVec.ofNat 32 a)).getLsbD i = _
        rw [BitVec.getLsbD_neg, decide_eq_true hi, Bool.true_and, decide_eq_true ⟨x, by omega, by rw [BitVec.getLsbD_ofNat, decide_eq_true hx, h1]; rfl⟩, Bool.xor_true, BitVec.getLsbD_ofNat, decide_eq_true hi, Bool.true_and]
      rw [e2]
      cases a.testBit i <;> rfl
theorem am_low (a : Nat) (ha : a < 4096) (h : a ≠ 0) : ∃ x, x < 12 ∧ a.testBit x = true ∧ nI a &&& -(nI a) = nI (1 <<< x) := by
  obtain ⟨x, h1, h2, h3⟩ := am_low1 12 a ha h
  exact ⟨x, h1, h2, am_lowb a x (by omega) h2 h3⟩
theorem am_rw_sg {i j : Nat} (hi : i < 12) (y : Nat) : am_rw (am_sg i j) y = if y = j then nI (1 <<< i) else 0 := by
  unfold am_rw am_sg
  by_cases h : y = j
  · rw [if_pos h]
    congr 1
    apply Nat.eq_of_testBit_eq
    intro x
    rw [am_bn_bit, Nat.one_shiftLeft, Nat.testBit_two_pow]
    by_cases hx : x = i
    · subst hx; simp [hi, h]
    · simp [hx, Ne.symm hx]
  · rw [if_neg h, am_bn_0 (fun x _ => decide_eq_false (fun q => h q.2))]
    rfl
theorem am_nb_sym {x y u v : Nat} (h : am_nb x y u v) : am_nb u v x y := by
  unfold am_nb at *
  omega
theorem am_wh_iff {P R : Nat → Nat → Bool} (h2 : ∀ x y, R x y = true → P x y = true) (hc : am_cls P R) (h0 : (∀ x y, P x y = false) ∨ ∃ x0 y0, R x0 y0 = true ∧ ∀ Q, am_cls P Q → Q x0 y0 = true → ∀ x y, R x y = true → Q x y = true) : am_whp P ↔ R = P := by
  rcases h0 with h0 | ⟨x0, y0, r0, hm⟩
  · constructor
    · intro _
      funext x y
      rw [h0]
      cases hr : R x y with
      | true => have := h2 x y hr; rw [h0] at this; cases this
      | false => rfl
    · intro _ Q hq ⟨x, y, q⟩
      have := hq x y q
      rw [h0] at this
      cases this
  · constructor
    · intro hw
      funext x y
      cases hp : P x y with
      | true => exact hw R h2 ⟨x0, y0, r0⟩ hc x y hp
      | false => cases hr : R x y with
        | true => have := h2 x y hr; rw [hp] at this; cases this
        | false => rfl
    · intro he Q hq ⟨a, b, qab⟩ hcl x y hp
      have q0 : Q x0 y0 = true := by
        cases hq0 : Q x0 y0 with
        | true => rfl
        | false =>
          exfalso
          have hcl2 : am_cls P (fun x y => P x y && !Q x y) := by
            intro x y u v h9 hn hpu
            simp only [Bool.and_eq_true, Bool.not_eq_true'] at h9 ⊢
            refine ⟨hpu, ?_⟩
            cases hqu : Q u v with
            | false => rfl
            | true =>
              have := hcl u v x y hqu (am_nb_sym hn) h9.1
              rw [h9.2] at this
              cases this
          have hx0 : P x0 y0 = true := h2 x0 y0 r0
          have := hm _ hcl2 (by simp [hx0, hq0]) a b (by rw [he]; exact hq a b qab)
          simp [qab] at this
      have := hm Q hcl q0 x y (by rw [he]; exact hp)
      exact this
theorem am_wh_t {P : Nat → Nat → Bool} : am_wh P = true ↔ am_whp P := by
  unfold am_wh
  exact @decide_eq_true_iff _ (Classical.propDecidable _)
theorem am_ne_oa {E : am_E} {t r : Nat} {a b} (h1 : E t = some (.inr a)) (h2 : E r = some (.inl b)) : t ≠ r := by
  rintro rfl
  rw [h1] at h2
  cases h2
/-! ===== frames ===== -/
def am_ke (S : List Nat) (E E' : am_E) : Prop := ∀ k, k ∉ S → E' k = E k
theorem am_ke_r (S : List Nat) (E : am_E) : am_ke S E E := fun _ _ => rfl
theorem am_ke_t {S : List Nat} {E E' E'' : am_E} (h : am_ke S E E') (h2 : am_ke S E' E'') : am_ke S E E'' := fun k hk => (h2 k hk).trans (h k hk)
theorem am_ke_u {S : List Nat} {E E' : am_E} {k : Nat} {e : va_E} (h : am_ke S E E') (hk : k ∈ S) : am_ke S E (am_u E' k e) := fun j hj => by
  have : j ≠ k := fun q => hj (q ▸ hk)
  rw [am_uN this]
  exact h j hj
/-! leads -/
theorem am_bnlow (b : Nat → Bool) (l N : Nat) : am_bn b N &&& (1 <<< l - 1) = am_bn (fun i => b i && decide (i < l)) N := by
  apply Nat.eq_of_testBit_eq
  intro i
  rw [Nat.one_shiftLeft, Nat.and_two_pow_sub_one_eq_mod, Nat.testBit_mod_two_pow, am_bn_bit, am_bn_bit]
  by_cases h1 : i < N <;> by_cases h2 : i < l <;> simp [h1, h2]
theorem am_pn_row (P : Nat → Nat → Bool) (l y : Nat) : am_rw (am_pn P l) y = if l < 12 then nI (am_bn (fun x => P x y) 12 &&& (1 <<< l - 1)) else if y < l - 12 then am_rw P y else 0 := by
  unfold am_rw am_pn am_kp
  by_cases h : l < 12
  · simp only [h, if_true]
    rw [am_bnlow]
  · simp only [h, if_false]
    by_cases h2 : y < l - 12
    · simp [h2]
    · simp only [h2, decide_false, Bool.and_false, if_false]
      rw [am_bn_0 (fun _ _ => rfl)]
      rfl
theorem am_pf_row (P : Nat → Nat → Bool) (l y : Nat) : am_rw P y &&& (am_rw (am_pn P l) y ^^^ (-1)) = am_rw (am_pf P l) y := by
  unfold am_rw
  rw [am_andn, am_dif_bn]
  congr 1
  apply am_bn_cg
  intro x _
  unfold am_pn am_pf
  cases P x y <;> simp
theorem am_pn_sup {P : Nat → Nat → Bool} (h : am_sup P) (l : Nat) : am_sup (am_pn P l) := fun x y q => by
  unfold am_pn at q
  rw [Bool.and_eq_true] at q
  exact h x y q.1
theorem am_pf_sup {P : Nat → Nat → Bool} (h : am_sup P) (l : Nat) : am_sup (am_pf P l) := fun x y q => by
  unfold am_pf at q
  rw [Bool.and_eq_true] at q
  exact h x y q.1
theorem am_tc_le (P : Nat → Nat → Bool) (l : Nat) : am_tc P l ≤ 12 := by
  unfold am_tc
  split <;> exact fb_ct_le _ _
noncomputable def am_bl (P : Nat → Nat → Bool) : Int32 := if (am_bb P 23).1 = 0 then -1 else nI (am_bb P 23).1
theorem am_pt_le (P : Nat → Nat → Bool) : am_pt P ≤ 12 := by
  unfold am_pt
  exact am_mx_le (fun k => by
    have a := am_lr_le (am_nrr P k) 12
    have b := am_lr_le (am_nrc P k) 12
    omega) 12
theorem am_co_le (P : Nat → Nat → Bool) : am_co P ≤ 121 := by
  unfold am_co
  exact Nat.le_trans (fb_sm_bound (c := 11) (fun k _ => fb_ct_le _ _)) (by decide)
/-! waits -/
def am_wv (w : Int32) : Prop := w = -2 ∨ w = -1 ∨ ∃ q : Nat, q < 30 ∧ w = nI q
theorem am_wa_v {f : Nat → Int32} (h : am_wok f) (i j : Nat) : am_wv (am_wa f i j) := by
  unfold am_wa
  split
  · exact h _ (by omega)
  · exact Or.inl rfl
theorem am_m2 {q : Nat} (h : q < 1000) : ¬ nI q = -2 := fun e => by
  have := (nI_leI (a := 0) (b := q) (by decide) (by omega)).mpr (by omega)
  rw [e] at this
  exact absurd this (by decide)
theorem am_m1 {q : Nat} (h : q < 1000) : ¬ nI q = -1 := fun e => by
  have := (nI_leI (a := 0) (b := q) (by decide) (by omega)).mpr (by omega)
  rw [e] at this
  exact absurd this (by decide)
theorem am_btb_0 {w : Int32} {p : Nat} (h : w = -2 ∨ w = nI p) : am_bn (am_btb w p) 31 = 0 := am_bn_0 (fun i _ => decide_eq_false (fun q => by
  rcases h with h | h
  · exact q.1 h
  · exact q.2.1 h))
theorem am_btb_1 {p : Nat} (hp : p < 1000) : am_bn (am_btb (-1) p) 31 = 1073741824 := by
  apply Nat.eq_of_testBit_eq
  intro i
  rw [am_bn_bit, show (1073741824 : Nat) = 2 ^ 30 by rfl, Nat.testBit_two_pow]
  unfold am_btb
  have h1 : ¬ (-1 : Int32) = nI p := fun q => am_m1 hp q.symm
  have h2 : ∀ b, b < 1000 → ¬ (-1 : Int32) = nI b := fun b hb q => am_m1 hb q.symm
  by_cases hi : i = 30
  · subst hi
    simp [h1]
  · have : ¬ (i < 30 ∧ (-1 : Int32) = nI i) := fun q => h2 i (by omega) q.2
    simp [hi, this, Ne.symm hi]
theorem am_btb_q {p q : Nat} (hp : p < 1000) (hq : q < 30) (h : ¬ nI q = nI p) : am_bn (am_btb (nI q) p) 31 = 1 <<< q := by
  apply Nat.eq_of_testBit_eq
  intro i
  rw [am_bn_bit, Nat.one_shiftLeft, Nat.testBit_two_pow]
  unfold am_btb
  have h1 := am_m1 (show q < 1000 by omega)
  have h2 := am_m2 (show q < 1000 by omega)
  by_cases hi : q = i
  · subst hi
    simp [h, h1, h2, hq, show q < 31 by omega]
  · have : ¬ (i < 30 ∧ nI q = nI i) := fun x => hi ((nI_eq (by omega) (by omega)).mp x.2)
    simp [h1, this, hi]
theorem am_any_s (p : Nat → Bool) (n : Nat) : am_any p (n + 1) = (am_any p n || p n) := rfl
def am_put (f : Nat → Int32) (P : Nat → Nat → Bool) (v : Int32) : Nat → Int32 := fun k => if k < 144 ∧ P (k % 12) (k / 12) = true then v else f k
theorem am_pro_k {α : Type} (A B : Nat → α) (i : Nat) (h : A i = B i) : am_pro A B (i + 1) = am_pro A B i := by
  funext k
  unfold am_pro
  by_cases hk : k = i
  · subst hk; simp [h]
  · by_cases h9 : k < i
    · simp [h9, show k < i + 1 by omega]
    · simp [h9, show ¬ k < i + 1 by omega]
def am_wl (E : am_E) (t c : Nat) (f : Nat → Int32) : Prop := E t = some (.inr (5, [.ref c])) ∧ E c = some (.inl (0, 144, .inl f))
def am_fr0 (E : am_E) (t : Nat) (b : Nat → Bool) (pf wd : Int32) : Prop := E t = some (.inr (0, [.int (nI (am_bn b 12)), .int pf, .int wd]))
