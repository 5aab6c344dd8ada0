/-! ===== what a call can answer, in general ===== -/
theorem am_ok_f9 {P : Int32 → Prop} {L : List String} {c : Prop} {inst : Decidable c} {r s : am_R} (h1 : am_ok P L r) (h2 : am_ok P L s) : am_ok P L (@ite _ c inst r s) := by
  by_cases h : c
  · rw [if_pos h]; exact h1
  · rw [if_neg h]; exact h2
theorem ok9_open (σ : am_St) (l : Int32) (lo : Int32) (r : Int32) (hi : Int32) (v : Bool) : am_ok (fun _ => True) L_AU (q_open σ l lo r hi v) := by
  unfold q_open
  repeat' (first | refine am_ok_f9 ?_ ?_ | exact am_ok_i trivial | exact am_ok_x (by simp))
theorem ok9_lay (σ : am_St) (p : Int32) (l : Int32) (lo : Int32) (r : Int32) (hi : Int32) : am_ok (fun _ => True) L_OAU (q_lay σ p l lo r hi) := by
  unfold q_lay
  repeat' (first | refine am_ok_f9 ?_ ?_ | exact am_ok_i trivial | exact am_ok_x (by simp))
theorem ok9_split (σ : am_St) (p : Int32) : am_ok (fun _ => True) L_OUS (q_split σ p) := by
  unfold q_split am_spn
  repeat' (first | refine am_ok_f9 ?_ ?_ | exact am_ok_i trivial | exact am_ok_x (by simp))
theorem ok9_cut (σ : am_St) (s : Int32) (p : Int32) (v : Bool) : am_ok (fun v => v = 0 ∨ v = 1) L_OAU (q_cut σ s p v) := by
  unfold q_cut q_cutn
  repeat' (first | refine am_ok_f9 ?_ ?_ | exact am_ok_i (Or.inl rfl) | exact am_ok_i (Or.inr rfl) | exact am_ok_x (by simp))
theorem ok9_paint (σ : am_St) (p : Int32) (c : Int32) : am_ok (fun _ => True) L_OAUS (q_paint σ p c) := by
  unfold q_paint
  repeat' (first | refine am_ok_f9 ?_ ?_ | exact am_ok_i trivial | exact am_ok_x (by simp))
theorem ok9_fire (σ : am_St) (a : Nat) (d : Int32) : am_ok (fun _ => True) L_AU (q_fire σ a d) := by
  unfold q_fire
  repeat' (first | refine am_ok_f9 ?_ ?_ | exact am_ok_i trivial | exact am_ok_x (by simp))
theorem ok9_next (σ : am_St)  : am_ok (fun _ => True) L_N (q_next σ) := by
  unfold q_next
  repeat' (first | refine am_ok_f9 ?_ ?_ | exact am_ok_i trivial | exact am_ok_x (by simp))
theorem ok9_comes (σ : am_St)  : am_ok (fun _ => True) L_N (q_comes σ) := by
  unfold q_comes
  repeat' (first | refine am_ok_f9 ?_ ?_ | exact am_ok_i trivial | exact am_ok_x (by simp))
theorem ok9_solder (σ : am_St)  : am_ok (fun _ => True) L_U (q_solder σ) := by
  unfold q_solder
  repeat' (first | refine am_ok_f9 ?_ ?_ | exact am_ok_i trivial | exact am_ok_x (by simp))
theorem ok9_looks (σ : am_St) (x : Int32) (y : Int32) (t : Int32) : am_ok (fun _ => True) L_A (q_looks σ x y t) := by
  unfold q_looks
  repeat' (first | refine am_ok_f9 ?_ ?_ | exact am_ok_i trivial | exact am_ok_x (by simp))
theorem ok9_hit (σ : am_St) (x : Int32) (y : Int32) : am_ok (fun v => v = 0 ∨ v = 1) L_AU (q_hit σ x y) := by
  unfold q_hit
  repeat' (first | refine am_ok_f9 ?_ ?_ | exact am_ok_i (Or.inl rfl) | exact am_ok_i (Or.inr rfl) | exact am_ok_x (by simp))
theorem ok9_mend (σ : am_St) (p : Int32) : am_ok (fun _ => True) L_OU (q_mend σ p) := by
  unfold q_mend
  repeat' (first | refine am_ok_f9 ?_ ?_ | exact am_ok_i trivial | exact am_ok_x (by simp))
theorem ok9_stopgap (σ : am_St) (p : Int32) (s : Int32) : am_ok (fun _ => True) L_OU (q_stopgap σ p s) := by
  unfold q_stopgap
  repeat' (first | refine am_ok_f9 ?_ ?_ | exact am_ok_i trivial | exact am_ok_x (by simp))
theorem ok9_fits (σ : am_St) (p : Int32) : am_ok (fun _ => True) L_ON (q_fits σ p) := by
  unfold q_fits am_gl
  repeat' (first | refine am_ok_f9 ?_ ?_ | exact am_ok_i trivial | exact am_ok_x (by simp))
