/-! ===== the layers of a piece are new ===== -/
theorem ms_lay {m : Nat} {E E' : am_E} {σ σ' : am_St} {lm : Nat → Nat} {lk : Nat → Nat → Nat} {lf : Nat → Nat → Bool} {thr : Int32} (h : am_MT m E σ lm lk lf thr) {p l : Nat} {kk : Nat → Nat} {ff : Nat → Bool} (hp : p < 30) (hiv : am_iv σ') (hq : ∀ q, q ≠ 6 → q ≠ 7 → σ' q = σ q) (hj : ∀ t, t ≠ p → σ' 6 t = σ 6 t ∧ σ' 7 t = σ 7 t) (hl : l ≤ 5 ∧ (∀ i, i < l → ∃ k, k < 4 ∧ kk i = am_kl k) ∧ ∀ k, k < 4 → σ' 6 p k = fb_ct (fun i => decide (kk i = am_kl k) && !ff i) l ∧ σ' 7 p k = fb_ct (fun i => decide (kk i = am_kl k) && ff i) l) (e1 : E' (m + 8 + p) = some (.inl (2, 5, .inl (fun i => nI (kk i))))) (e2 : E' (m + 39 + p) = some (.inl (3, 5, .inl (fun i => ms_bo (ff i))))) (e3 : E' (m + 69) = some (.inl (0, 30, .inl (upd (fun t => nI (lm t)) p (nI l))))) (eo : ∀ k, k < 121 → k ≠ 8 + p → k ≠ 39 + p → k ≠ 69 → E' (m + k) = E (m + k)) : am_MT m E' σ' (fun t => if t = p then l else lm t) (fun t => if t = p then kk else lk t) (fun t => if t = p then ff else lf t) thr := by
  refine ⟨hiv, fun t ht => ?_, fun k hk => ?_⟩
  · by_cases e : t = p
    · simp only [e, if_true]
      exact hl
    · simp only [e, if_false]
      rw [(hj t e).1, (hj t e).2]
      exact h.2.1 t ht
  · have f1 : st_f σ' = st_f σ := by unfold st_f; rw [hq 0 (by decide) (by decide)]
    have f2 : st_u σ' = st_u σ := by unfold st_u; rw [hq 13 (by decide) (by decide)]
    have f3 : st_y σ' = st_y σ := by unfold st_y; rw [hq 8 (by decide) (by decide)]
    have f4 : st_b σ' = st_b σ := by unfold st_b; rw [hq 14 (by decide) (by decide)]
    have f5 : ms_sh σ' = ms_sh σ := by unfold ms_sh; rw [hq 9 (by decide) (by decide), hq 10 (by decide) (by decide), hq 11 (by decide) (by decide)]
    have f6 : ms_obj m σ' thr = ms_obj m σ thr := by unfold ms_obj; rw [hq 15 (by decide) (by decide)]
    by_cases k8 : k = 8 + p
    · rw [show m + k = m + 8 + p by omega, e1]
      congr 1
      unfold ms_E
      rw [if_neg (by omega), if_neg (by omega), if_neg (by omega), if_neg (by omega), if_neg (by omega), if_neg (by omega), if_neg (by omega), if_neg (by omega), if_pos (by omega)]
      simp only [show k - 8 = p by omega, if_true]
    · by_cases k39 : k = 39 + p
      · rw [show m + k = m + 39 + p by omega, e2]
        congr 1
        unfold ms_E
        rw [if_neg (by omega), if_neg (by omega), if_neg (by omega), if_neg (by omega), if_neg (by omega), if_neg (by omega), if_neg (by omega), if_neg (by omega), if_neg (by omega), if_neg (by omega), if_pos (by omega)]
        simp only [show k - 39 = p by omega, if_true]
      · by_cases k69 : k = 69
        · rw [k69, e3]
          congr 1
          show _ = (Sum.inl (0, 30, .inl (fun t => nI (if t = p then l else lm t))) : va_E)
          congr 4
          funext t
          unfold upd
          by_cases e : t = p
          · rw [if_pos e, if_pos e]
          · rw [if_neg e, if_neg e]
        · rw [eo k hk k8 k39 k69, h.2.2 k hk]
          congr 1
          have g8 : 8 ≤ k → (if k - 8 = p then kk else lk (k - 8)) = lk (k - 8) := fun _ => if_neg (by omega)
          have g39 : 39 ≤ k → (if k - 39 = p then ff else lf (k - 39)) = lf (k - 39) := fun _ => if_neg (by omega)
          unfold ms_E
          rw [f1, f2, f3, f4, f5, f6, hq 1 (by decide) (by decide), hq 2 (by decide) (by decide), hq 3 (by decide) (by decide), hq 4 (by decide) (by decide), hq 5 (by decide) (by decide), hq 12 (by decide) (by decide), hq 15 (by decide) (by decide)]
          repeat' (refine am_ite2 (fun _ => ?_) (fun _ => ?_))
          all_goals first
            | rfl
            | (exfalso; omega)
            | (simp only [g39 (by omega)])
            | (simp only [g8 (by omega)])
theorem am_kd_kl {c k : Nat} (hc : c < 65536) (hk : k < 4) (h : am_kd (nI c) = nI k) : c = am_kl k := by
  have e : ∀ v : Nat, v < 65536 → (nI c = nI v) = (c = v) := fun v hv => am_eqN (by omega) (by omega)
  unfold am_kd at h
  by_cases c1 : nI c = (116 : Int32)
  · rw [if_pos c1] at h
    have : (0 : Int32) = nI k := h
    have := (nI_eq (a := 0) (by decide) (show k < 2 ^ 31 by omega)).mp this
    rw [← this]
    exact (e 116 (by decide)).mp c1
  · rw [if_neg c1] at h
    by_cases c2 : nI c = (109 : Int32)
    · rw [if_pos c2] at h
      have : nI 1 = nI k := h
      have := (nI_eq (by decide) (show k < 2 ^ 31 by omega)).mp this
      rw [← this]
      exact (e 109 (by decide)).mp c2
    · rw [if_neg c2] at h
      by_cases c3 : nI c = (115 : Int32)
      · rw [if_pos c3] at h
        have : nI 2 = nI k := h
        have := (nI_eq (by decide) (show k < 2 ^ 31 by omega)).mp this
        rw [← this]
        exact (e 115 (by decide)).mp c3
      · rw [if_neg c3] at h
        by_cases c4 : nI c = (101 : Int32)
        · rw [if_pos c4] at h
          have : nI 3 = nI k := h
          have := (nI_eq (by decide) (show k < 2 ^ 31 by omega)).mp this
          rw [← this]
          exact (e 101 (by decide)).mp c4
        · rw [if_neg c4] at h
          exact absurd h.symm (am_m1 (show k < 1000 by omega))
theorem am_kl_c {k : Nat} (hk : k < 4) : am_kl k < 65536 ∧ am_kd (nI (am_kl k)) = nI k := by
  have : ∀ k, k < 4 → am_kl k < 65536 ∧ am_kd (nI (am_kl k)) = nI k := by decide
  exact this k hk
theorem am_kl_j {k k' : Nat} (hk : k < 4) (hk' : k' < 4) : (am_kl k = am_kl k') = (k = k') := by
  have : ∀ k, k < 4 → ∀ k', k' < 4 → decide (am_kl k = am_kl k') = decide (k = k') := by decide
  exact propext (decide_eq_decide.mp (this k hk k' hk'))
/-- a layer more -/
theorem am_ly_1 {σ : am_St} {lm : Nat → Nat} {lk : Nat → Nat → Nat} {lf : Nat → Nat → Bool} (h : am_ly σ lm lk lf) {p k : Nat} (hp : p < 30) (hk : k < 4) (h5 : lm p < 5) : lm p + 1 ≤ 5 ∧ (∀ i, i < lm p + 1 → ∃ k', k' < 4 ∧ (if i = lm p then am_kl k else lk p i) = am_kl k') ∧ ∀ k', k' < 4 → am_pnt σ p k 6 p k' = fb_ct (fun i => decide ((if i = lm p then am_kl k else lk p i) = am_kl k') && !(if i = lm p then false else lf p i)) (lm p + 1) ∧ am_pnt σ p k 7 p k' = fb_ct (fun i => decide ((if i = lm p then am_kl k else lk p i) = am_kl k') && (if i = lm p then false else lf p i)) (lm p + 1) := by
  obtain ⟨l5, lkl, lct⟩ := h p hp
  refine ⟨by omega, fun i hi => ?_, fun k' hk' => ?_⟩
  · by_cases e : i = lm p
    · exact ⟨k, hk, if_pos e⟩
    · rw [if_neg e]
      exact lkl i (by omega)
  · have e1 : am_pnt σ p k 6 p k' = if k' = k then σ 6 p k + 1 else σ 6 p k' := by
      show (if p = p ∧ k' = k then σ 6 p k + 1 else σ 6 p k') = _
      by_cases c : k' = k
      · rw [if_pos ⟨rfl, c⟩, if_pos c]
      · rw [if_neg (fun q => c q.2), if_neg c]
    have e2 : am_pnt σ p k 7 p k' = σ 7 p k' := rfl
    rw [e1, e2, fb_ct_succ, fb_ct_succ, (lct k' hk').2]
    have c1 : fb_ct (fun i => decide ((if i = lm p then am_kl k else lk p i) = am_kl k') && !(if i = lm p then false else lf p i)) (lm p) = σ 6 p k' := by
      rw [(lct k' hk').1]
      exact fb_ct_cong (fun i hi => by rw [if_neg (show ¬ i = lm p by omega), if_neg (show ¬ i = lm p by omega)])
    have c2 : fb_ct (fun i => decide ((if i = lm p then am_kl k else lk p i) = am_kl k') && (if i = lm p then false else lf p i)) (lm p) = fb_ct (fun i => decide (lk p i = am_kl k') && lf p i) (lm p) := fb_ct_cong (fun i hi => by rw [if_neg (show ¬ i = lm p by omega), if_neg (show ¬ i = lm p by omega)])
    rw [c1, c2]
    simp only [if_true, am_kl_j hk hk', Bool.and_false, Bool.not_false, Bool.and_true]
    refine ⟨?_, rfl⟩
    by_cases c : k' = k
    · rw [if_pos c, if_pos (decide_eq_true c.symm), c]
    · rw [if_neg c, if_neg (by rw [decide_eq_false (fun q => c q.symm)]; decide)]
      rfl
theorem am_kept_l {σ : am_St} {lm : Nat → Nat} {lk : Nat → Nat → Nat} {lf : Nat → Nat → Bool} (h : am_ly σ lm lk lf) {p : Nat} (hp : p < 30) : am_kept σ p = lm p := by
  have h1 := am_ly_r h hp
  have h2 : fb_ct (fun i => lf p i) (lm p) + fb_ct (fun i => !lf p i) (lm p) = lm p := fb_ct_not (lf p) (lm p)
  unfold am_kept
  rw [h1.1, h1.2]
  omega
