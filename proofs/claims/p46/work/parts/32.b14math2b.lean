theorem v4_sz2 {f : Nat → Int32} {k : Nat} : am_sz (am_shp f (nI k)) = fb_ct (fun c => decide (f c = nI k)) 144 := by
  rw [← am_sz2]
  refine fb_ct_cong (fun c hc => ?_)
  unfold am_shp
  rw [show 12 * (c / 12) + c % 12 = c by omega]
  exact decide_eq_decide.mpr ⟨fun q => q.2.2, fun q => ⟨by omega, by omega, q⟩⟩
theorem v4_pc {σ : am_St} {k : Nat} {v : Int32} (hk : k < 30) : am_pc σ (nI k) v = r_i v σ := by
  unfold am_pc
  rw [if_pos (am_pcb_i hk)]
theorem v4_ptle (P : Nat → Nat → Bool) (j : Nat) : am_mx (fun l => max (am_lr (am_nrr P l) 13) (am_lr (am_nrc P l) 13)) j ≤ 13 := am_mx_le (fun k => by
  have a := am_lr_le (am_nrr P k) 13
  have b := am_lr_le (am_nrc P k) 13
  omega) j
