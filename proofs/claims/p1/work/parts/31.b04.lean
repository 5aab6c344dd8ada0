def bk_L_law_2566 (L : Nat) (xs : Nat → Int32) (G : Nat → am_C) : am_C := o_iinc 5 6 <| (G 28)
set_option maxRecDepth 100000 in
set_option maxHeartbeats 4000000 in
theorem sd_L_law_2566 {X : am_X} {b L : Nat} {xs : Nat → Int32} (F : am_F X code R_law ret lw_tbl) (FL : am_FL X b) (hS : am_SX X L xs) (hR : am_Rm X rm_L_law) (hn : am_nL X = 9) : am_imp (bk_L_law_2566 L xs (am_G X)) (am_G X 2566) := by
  have ts : ∀ w ∈ am_WS, w ∈ lw_tbl := fun w h => (List.mem_filter.mp h).1
  exact ms_iinc F (am_dk (q := (2566, .iinc 5 6, 3)) dk_L_law_25 11 rfl) (by decide +kernel) hn (by decide) (ms_goto F (tgt := 28) (am_dk (q := (2569, .goto (-2541), 3)) dk_L_law_25 12 rfl) (by decide) ((am_id _)))
