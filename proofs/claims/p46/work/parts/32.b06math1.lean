theorem v4_rng {a c d f : Nat} (x1 : a ≤ d) (x2 : d < 12) (x3 : c ≤ f) (x4 : f < 12) : am_rngb (nI a) (nI c) (nI d) (nI f) = true := by
  have z : ∀ k : Nat, k < 12 → ((0 : Int32) ≤ nI k ∧ ¬ (12 : Int32) ≤ nI k) := fun k hk => ⟨nI_pos' (by omega), of_eq_false (am_nge hk (by decide))⟩
  exact am_rngb_t.mpr ⟨⟨z a (by omega), z c (by omega)⟩, ⟨z d x2, z f x4⟩, (nI_leI (by omega) (by omega)).mpr x1, (nI_leI (by omega) (by omega)).mpr x3⟩
theorem v4_ng {σ : am_St} (hi : am_iv σ) (hg : v4_ok σ) {a c d f : Nat} (x2 : d < 12) (x4 : f < 12) : am_rga (am_gl1 σ) a c d f = false := by
  unfold am_rga
  refine am_any_f.mpr (fun j hj => am_any_f.mpr (fun i hi2 => decide_eq_false (fun q => q.2 (hg.2.2.2 _ ?_))))
  have := hi.1 (12 * (c + j) + (a + i)) (by omega)
  omega
theorem v4_qopen {σ : am_St} (hi : am_iv σ) (hg : v4_ok σ) {a c d f : Nat} (x1 : a ≤ d) (x2 : d < 12) (x3 : c ≤ f) (x4 : f < 12) (v : Bool) : q_open σ (nI a) (nI c) (nI d) (nI f) v = r_i (nI (am_ocn σ a c d f v)) (am_opn σ a c d f v) := by
  unfold q_open
  rw [if_pos (v4_rng x1 x2 x3 x4), am_cl (show a < 2 ^ 31 by omega), am_cl (show c < 2 ^ 31 by omega), am_cl (show d < 2 ^ 31 by omega), am_cl (show f < 2 ^ 31 by omega), if_neg (by
    rintro (h | h)
    · exact h hg.1
    · rw [v4_ng hi hg x2 x4] at h
      cases h)]
theorem v4_ct0 (b : Nat → Bool) : ∀ n, fb_ct b n = 0 ↔ am_any b n = false
  | 0 => ⟨fun _ => rfl, fun _ => rfl⟩
  | n + 1 => by
    have ih := v4_ct0 b n
    show fb_ct b n + (if b n = true then 1 else 0) = 0 ↔ (am_any b n || b n) = false
    cases hb : b n with
    | true => simp
    | false => simpa using ih
theorem v4_sm0 {g : Nat → Nat} {b : Nat → Bool} (h : ∀ j, g j = 0 ↔ b j = false) : ∀ n, fb_sm g n = 0 ↔ am_any b n = false
  | 0 => ⟨fun _ => rfl, fun _ => rfl⟩
  | n + 1 => by
    have ih := v4_sm0 h n
    have hn := h n
    show fb_sm g n + g n = 0 ↔ (am_any b n || b n) = false
    rw [Bool.or_eq_false_iff, ← ih, ← hn]
    omega
theorem v4_s0 (W : Nat → Bool) (a c d f : Nat) : v4_s W a c d (f + 1 - c) = 0 ↔ am_rga W a c d f = false := v4_sm0 (fun j => v4_ct0 _ _) _
theorem v4_pop {σ : am_St} {a c d f k9 p : Nat} (x3 : c ≤ f) (h : k9 < 2) : am_pgf (v4_nv σ k9 p) (st_f σ) a d c (f + 1 - c) 0 = st_f (am_opn σ a c d f (decide (k9 = 0))) := by
  rw [am_pgf_end x3]
  funext k
  show _ = am_cv (if am_inr a c d f k = true then am_nw (decide (k9 = 0)) (σ 0 k 0) else σ 0 k 0)
  by_cases q : am_inr a c d f k = true
  · rw [if_pos q, if_pos q]
    unfold v4_nv
    rw [if_pos h]
  · rw [if_neg q, if_neg q]; rfl
theorem v4_ply {σ : am_St} {a c d f k9 p : Nat} (x3 : c ≤ f) (h : ¬ k9 < 2) : am_pgf (v4_nv σ k9 p) (st_f σ) a d c (f + 1 - c) 0 = st_f (am_lyn σ p a c d f) := by
  rw [am_pgf_end x3]
  funext k
  show _ = am_cv (if am_inr a c d f k = true then (if σ 0 k 0 = 0 then 0 else p + 2) else σ 0 k 0)
  by_cases q : am_inr a c d f k = true
  · rw [if_pos q, if_pos q]
    unfold v4_nv
    rw [if_neg h]
  · rw [if_neg q, if_neg q]; rfl
theorem v4_cop {σ : am_St} {a c d f k9 : Nat} (h : k9 < 2) : v4_s (v4_ch σ k9) a c d (f + 1 - c) = am_ocn σ a c d f (decide (k9 = 0)) := by
  have e : v4_ch σ k9 = am_och σ (decide (k9 = 0)) := funext fun k => if_pos h
  rw [e]
  rfl
theorem v4_lyn0 {σ : am_St} {a c d f p : Nat} (h : am_rga (am_op1 σ) a c d f = false) : st_f (am_lyn σ p a c d f) = st_f σ := by
  funext k
  show am_cv (if am_inr a c d f k = true then (if σ 0 k 0 = 0 then 0 else p + 2) else σ 0 k 0) = am_cv (σ 0 k 0)
  by_cases q : am_inr a c d f k = true
  · rw [if_pos q]
    have q2 := of_decide_eq_true q
    have h1 := am_any_f.mp (am_any_f.mp h (k / 12 - c) (by omega)) (k % 12 - a) (by omega)
    have e : 12 * (c + (k / 12 - c)) + (a + (k % 12 - a)) = k := by omega
    rw [e] at h1
    have h2 := of_decide_eq_false h1
    have h0 : σ 0 k 0 = 0 := by omega
    rw [if_pos h0, h0]
  · rw [if_neg q]
theorem v4_pcb {p : Nat} (h : p < 30) : am_pcb (nI p) = true := am_pcb_i h
theorem v4_qlay1 {σ : am_St} (hi : am_iv σ) (hg : v4_ok σ) {p a c d f : Nat} (hp : p < 30) (x1 : a ≤ d) (x2 : d < 12) (x3 : c ≤ f) (x4 : f < 12) (h : am_rga (am_op1 σ) a c d f = true) : q_lay σ (nI p) (nI a) (nI c) (nI d) (nI f) = r_i (nI (fb_ct (fun k => decide (st_f (am_lyn σ p a c d f) k = nI p)) 144)) (am_lyn σ p a c d f) := by
  unfold q_lay
  rw [if_pos (v4_pcb hp), if_pos (v4_rng x1 x2 x3 x4), am_cl (show p < 2 ^ 31 by omega), am_cl (show a < 2 ^ 31 by omega), am_cl (show c < 2 ^ 31 by omega), am_cl (show d < 2 ^ 31 by omega), am_cl (show f < 2 ^ 31 by omega), if_neg (by
    rintro (h1 | h1 | h1 | h1)
    · exact h1 hg.1
    · exact h1 (hg.2.2.2 p hp)
    · rw [v4_ng hi hg x2 x4] at h1
      cases h1
    · rw [h] at h1
      cases h1)]
theorem v4_qlay0 {σ : am_St} {p a c d f : Nat} (hp : p < 30) (x1 : a ≤ d) (x2 : d < 12) (x3 : c ≤ f) (x4 : f < 12) (h : am_rga (am_op1 σ) a c d f = false) : q_lay σ (nI p) (nI a) (nI c) (nI d) (nI f) = r_x x_UO σ := by
  unfold q_lay
  rw [if_pos (v4_pcb hp), if_pos (v4_rng x1 x2 x3 x4), am_cl (show p < 2 ^ 31 by omega), am_cl (show a < 2 ^ 31 by omega), am_cl (show c < 2 ^ 31 by omega), am_cl (show d < 2 ^ 31 by omega), am_cl (show f < 2 ^ 31 by omega), if_pos (Or.inr (Or.inr (Or.inr h)))]
