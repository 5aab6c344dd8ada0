/-! ===== layers in the fire, in their order ===== -/
def am_r0 (K0 : Nat → Nat) (F0 : Nat → Bool) (i k : Nat) : Nat := fb_ct (fun t => decide (K0 t = am_kl k) && !F0 t) i
def am_r1 (K0 : Nat → Nat) (F0 : Nat → Bool) (i k : Nat) : Nat := fb_ct (fun t => decide (K0 t = am_kl k) && F0 t) i
def am_fin (d : Nat) (K0 : Nat → Nat) (F0 : Nat → Bool) (i j : Nat) (kk : Nat → Nat) (ff : Nat → Bool) (cnt : Nat) : Prop := j ≤ i ∧ (∀ t, i ≤ t → kk t = K0 t ∧ ff t = F0 t) ∧ (∀ t, t < j → ∃ k, k < 4 ∧ kk t = am_kl k) ∧ (∀ k, k < 4 → fb_ct (fun t => decide (kk t = am_kl k) && !ff t) j = am_hR d (am_r0 K0 F0 i) k ∧ fb_ct (fun t => decide (kk t = am_kl k) && ff t) j = am_hF d (am_r0 K0 F0 i) (am_r1 K0 F0 i) k) ∧ cnt = fb_sm (am_hN d (am_r0 K0 F0 i)) 4
theorem am_fin_0 (d : Nat) (K0 : Nat → Nat) (F0 : Nat → Bool) : am_fin d K0 F0 0 0 K0 F0 0 := by
  refine ⟨Nat.le_refl _, fun t _ => ⟨rfl, rfl⟩, fun t h => absurd h (Nat.not_lt_zero t), fun k _ => ?_, ?_⟩
  · have e0 : am_r0 K0 F0 0 k = 0 := rfl
    have e1 : am_r1 K0 F0 0 k = 0 := rfl
    unfold am_hR am_hF
    rw [e0, e1]
    constructor
    · show 0 = _
      split
      · rfl
      · split <;> rfl
    · show 0 = _
      split
      · rfl
      · split <;> rfl
  · have e : ∀ k, am_hN d (am_r0 K0 F0 0) k = 0 := fun k => by
      unfold am_hN
      have e0 : am_r0 K0 F0 0 k = 0 := rfl
      rw [e0]
      split
      · rfl
      · split <;> rfl
    rw [fb_sm_cong (fun k _ => e k), fb_sm_const]
theorem am_r0_s {K0 : Nat → Nat} {F0 : Nat → Bool} {i k k' : Nat} (hk : k < 4) (hk' : k' < 4) (e : K0 i = am_kl k) : am_r0 K0 F0 (i + 1) k' = am_r0 K0 F0 i k' + if k = k' ∧ F0 i = false then 1 else 0 := by
  show fb_ct _ (i + 1) = _
  rw [fb_ct_succ]
  congr 1
  simp only [e, am_kl_j hk hk']
  by_cases c : k = k'
  · cases F0 i <;> simp [c]
  · simp [c]
theorem am_r1_s {K0 : Nat → Nat} {F0 : Nat → Bool} {i k k' : Nat} (hk : k < 4) (hk' : k' < 4) (e : K0 i = am_kl k) : am_r1 K0 F0 (i + 1) k' = am_r1 K0 F0 i k' + if k = k' ∧ F0 i = true then 1 else 0 := by
  show fb_ct _ (i + 1) = _
  rw [fb_ct_succ]
  congr 1
  simp only [e, am_kl_j hk hk']
  by_cases c : k = k'
  · cases F0 i <;> simp [c]
  · simp [c]
theorem am_hN_s {d : Nat} {K0 : Nat → Nat} {F0 : Nat → Bool} {i k : Nat} (hk : k < 4) (e : K0 i = am_kl k) : fb_sm (am_hN d (am_r0 K0 F0 (i + 1))) 4 = fb_sm (am_hN d (am_r0 K0 F0 i)) 4 + if (¬ am_Ht k + 15 < d ∧ am_Ht k ≤ d + 15) ∧ F0 i = false then 1 else 0 := by
  have key : ∀ k', k' < 4 → am_hN d (am_r0 K0 F0 (i + 1)) k' = am_hN d (am_r0 K0 F0 i) k' + if k = k' then (if (¬ am_Ht k + 15 < d ∧ am_Ht k ≤ d + 15) ∧ F0 i = false then 1 else 0) else 0 := fun k' hk' => by
    unfold am_hN
    rw [am_r0_s hk hk' e]
    by_cases c : k = k'
    · rw [if_pos c, ← c]
      by_cases c1 : am_Ht k + 15 < d
      · simp [c1]
      · by_cases c2 : am_Ht k ≤ d + 15
        · simp [c1, c2]
        · simp [c1, c2]
    · simp [c]
  have e4 : ∀ f : Nat → Nat, fb_sm f 4 = f 0 + f 1 + f 2 + f 3 := fun f => by
    show 0 + f 0 + f 1 + f 2 + f 3 = _
    omega
  rw [e4, e4, key 0 (by decide), key 1 (by decide), key 2 (by decide), key 3 (by decide)]
  generalize (if (¬ am_Ht k + 15 < d ∧ am_Ht k ≤ d + 15) ∧ F0 i = false then 1 else 0) = z
  have hk9 : k = 0 ∨ k = 1 ∨ k = 2 ∨ k = 3 := by omega
  rcases hk9 with rfl | rfl | rfl | rfl <;> simp <;> omega
/-- a layer is lost -/
theorem am_fin_l {d : Nat} {K0 : Nat → Nat} {F0 : Nat → Bool} {i j cnt k : Nat} {kk : Nat → Nat} {ff : Nat → Bool} (h : am_fin d K0 F0 i j kk ff cnt) (hk : k < 4) (e : K0 i = am_kl k) (c : am_Ht k + 15 < d) : am_fin d K0 F0 (i + 1) j kk ff cnt := by
  obtain ⟨h1, h2, h3, h4, h5⟩ := h
  refine ⟨by omega, fun t ht => h2 t (by omega), h3, fun k' hk' => ?_, ?_⟩
  · rw [(h4 k' hk').1, (h4 k' hk').2]
    unfold am_hR am_hF
    rw [am_r0_s hk hk' e, am_r1_s hk hk' e]
    by_cases q : k = k'
    · rw [← q, if_pos c, if_pos c, if_pos c, if_pos c]
      exact ⟨rfl, rfl⟩
    · simp [q]
  · rw [am_hN_s hk e, if_neg (fun q => q.1.1 c), h5]
    rfl
/-- .. or is kept -/
theorem am_fin_k {d : Nat} {K0 : Nat → Nat} {F0 : Nat → Bool} {i j cnt k : Nat} {kk : Nat → Nat} {ff : Nat → Bool} (h : am_fin d K0 F0 i j kk ff cnt) (hk : k < 4) (e : K0 i = am_kl k) (c : ¬ am_Ht k + 15 < d) {b : Bool} (hb : b = (F0 i || decide (am_Ht k ≤ d + 15))) : am_fin d K0 F0 (i + 1) (j + 1) (fun t => if t = j then am_kl k else kk t) (fun t => if t = j then b else ff t) (cnt + if b = true ∧ F0 i = false then 1 else 0) := by
  obtain ⟨h1, h2, h3, h4, h5⟩ := h
  refine ⟨by omega, fun t ht => ?_, fun t ht => ?_, fun k' hk' => ?_, ?_⟩
  · simp only [show ¬ t = j by omega, if_false]
    exact h2 t (by omega)
  · by_cases q : t = j
    · exact ⟨k, hk, if_pos q⟩
    · obtain ⟨k2, a, a2⟩ := h3 t (by omega)
      exact ⟨k2, a, (if_neg q).trans a2⟩
  · have c1 : fb_ct (fun t => decide ((if t = j then am_kl k else kk t) = am_kl k') && !(if t = j then b else ff t)) (j + 1) = am_hR d (am_r0 K0 F0 i) k' + if k = k' ∧ b = false then 1 else 0 := by
      rw [fb_ct_succ, ← (h4 k' hk').1]
      congr 1
      · exact fb_ct_cong (fun t ht => by rw [if_neg (show ¬ t = j by omega), if_neg (show ¬ t = j by omega)])
      · simp only [if_true, am_kl_j hk hk']
        by_cases q : k = k'
        · cases b <;> simp [q]
        · simp [q]
    have c2 : fb_ct (fun t => decide ((if t = j then am_kl k else kk t) = am_kl k') && (if t = j then b else ff t)) (j + 1) = am_hF d (am_r0 K0 F0 i) (am_r1 K0 F0 i) k' + if k = k' ∧ b = true then 1 else 0 := by
      rw [fb_ct_succ, ← (h4 k' hk').2]
      congr 1
      · exact fb_ct_cong (fun t ht => by rw [if_neg (show ¬ t = j by omega), if_neg (show ¬ t = j by omega)])
      · simp only [if_true, am_kl_j hk hk']
        by_cases q : k = k'
        · cases b <;> simp [q]
        · simp [q]
    rw [c1, c2]
    unfold am_hR am_hF
    rw [am_r0_s hk hk' e, am_r1_s hk hk' e, hb]
    by_cases q : k = k'
    · rw [← q]
      by_cases f : am_Ht k ≤ d + 15
      · cases F0 i <;> simp [c, f] <;> omega
      · cases F0 i <;> simp [c, f]
    · simp [q]
  · rw [am_hN_s hk e, h5, hb]
    congr 1
    by_cases f : am_Ht k ≤ d + 15
    · cases F0 i <;> simp [c, f]
    · cases F0 i <;> simp [c, f]
theorem am_hts1 {d k : Nat} (hd : d ≤ 700) (hk : k < 4) : (am_xf 5 k < nI d - 15) = (am_Ht k + 15 < d) := by
  obtain ⟨-, e, h⟩ := am_xf2 k hk
  rw [e, show (15 : Int32) = nI 15 from rfl, Int32.lt_iff_toInt_lt, pk_sub_toInt (by omega) (by omega), nI_toInt (by omega)]
  exact propext ⟨fun q => by omega, fun q => by omega⟩
theorem am_hts2 {d k : Nat} (hd : d ≤ 700) (hk : k < 4) : (am_abs (am_xf 5 k - nI d) ≤ 15) = (¬ am_Ht k + 15 < d ∧ am_Ht k ≤ d + 15) := by
  obtain ⟨-, e, h⟩ := am_xf2 k hk
  have e15 : (15 : Int32).toInt = 15 := by decide
  have e0 : (0 : Int32).toInt = 0 := by decide
  have hx := pk_sub_toInt (a := am_Ht k) (b := d) (by omega) (by omega)
  rw [e]
  unfold am_abs
  by_cases c : (0 : Int32) ≤ nI (am_Ht k) - nI d
  · rw [if_pos c]
    rw [Int32.le_iff_toInt_le, hx, e0] at c
    rw [Int32.le_iff_toInt_le, hx, e15]
    exact propext ⟨fun q => by omega, fun q => by omega⟩
  · rw [if_neg c]
    rw [Int32.le_iff_toInt_le, hx, e0] at c
    rw [Int32.le_iff_toInt_le, fb_subI (by rw [e0, hx]; omega) (by rw [e0, hx]; omega), e0, hx, e15]
    exact propext ⟨fun q => by omega, fun q => by omega⟩
/-- the layers of one piece in the fire -/
def am_frs (σ : am_St) (p d : Nat) : am_St := fun q => if q = 6 then (fun t k => if t = p then am_hR d (σ 6 t) k else σ 6 t k) else if q = 7 then (fun t k => if t = p then am_hF d (σ 6 t) (σ 7 t) k else σ 7 t k) else σ q
theorem am_frk_s {σ : am_St} {a d i : Nat} (h : a.testBit i = true) : am_frs (am_frk σ a d i) i d = am_frk σ a d (i + 1) := by
  funext q t k
  unfold am_frs am_frk
  by_cases c6 : q = 6
  · simp only [c6, if_true]
    by_cases c : t = i
    · simp [c, h]
    · simp only [c, if_false]
      by_cases e : t < i
      · simp [e, show t < i + 1 by omega]
      · simp [e, show ¬ t < i + 1 by omega]
  · by_cases c7 : q = 7
    · simp only [c7, if_true, if_false, show ¬ (7 : Nat) = 6 by decide]
      by_cases c : t = i
      · simp [c, h]
      · simp only [c, if_false]
        by_cases e : t < i
        · simp [e, show t < i + 1 by omega]
        · simp [e, show ¬ t < i + 1 by omega]
    · simp only [c6, c7, if_false]
theorem am_iv_frk9 {σ : am_St} {a d i : Nat} (h : am_iv σ) (h5 : ∀ p, p < 30 → am_kept σ p ≤ 5) (hi : i ≤ 30) : am_iv (am_frk σ a d i) := by
  refine am_iv_67 h (fun q h6 h7 => (if_neg h6).trans (if_neg h7)) (fun t k => ?_)
  show (if t < i ∧ a.testBit t = true then am_hR d (σ 6 t) k else σ 6 t k) ≤ 5 ∧ (if t < i ∧ a.testBit t = true then am_hF d (σ 6 t) (σ 7 t) k else σ 7 t k) ≤ 5 ∧ (4 ≤ k → (if t < i ∧ a.testBit t = true then am_hR d (σ 6 t) k else σ 6 t k) = 0 ∧ (if t < i ∧ a.testBit t = true then am_hF d (σ 6 t) (σ 7 t) k else σ 7 t k) = 0)
  have hv := h.2.2.1 t k
  have a1 := am_hR_le d (σ 6 t) k
  have a2 := am_hF_le d (σ 6 t) (σ 7 t) k
  by_cases c : t < i ∧ a.testBit t = true
  · have a3 := am_k5 h (h5 t (by omega)) k
    rw [if_pos c, if_pos c]
    exact ⟨by omega, by omega, fun q => by have := hv.2.2 q; omega⟩
  · rw [if_neg c, if_neg c]
    exact hv
