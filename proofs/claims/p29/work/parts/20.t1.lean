def sp_X7_init : am_S := fun as n E K => ∃ (t : Nat), as = [.ref t] ∧ n = t + 1 ∧ E t = some (.inr (7, [.null, .null, .null, .null, .int 0, .int 0, .int 0, .int 0, .int 0, .int 0, .int 0, .null, .null, .null, .null, .null])) ∧ ∀ E' : am_E, am_HS t E' am_s0 → (∀ k, k < t → E' k = E k) → K (.inl none) (t + 214) E'
def rm_X7_init : Room := { frames := 3, cells := 213, slots := 1963, locals := 60 }
theorem rmc_X7_init : rm_X7_init.cells = 213 := rfl
theorem rms_X7_init : rm_X7_init.slots = 1963 := rfl
def sp_X8_init : am_S := fun as n E K => ∃ (t : Nat), as = [.ref t] ∧ n = t + 1 ∧ E t = some (.inr (8, [.null, .null, .null, .null, .null, .null, .null, .null, .null, .null, .null, .null, .null, .null, .int 0, .int 0, .int 0, .int 0, .int 0, .int 0, .long 0, .int 0])) ∧ ∀ E' : am_E, am_MS t E' am_s0 0 → (∀ k, k < t → E' k = E k) → K (.inl none) (t + 121) E'
def rm_X8_init : Room := { frames := 1, cells := 120, slots := 61957, locals := 20 }
theorem rmc_X8_init : rm_X8_init.cells = 120 := rfl
theorem rms_X8_init : rm_X8_init.slots = 61957 := rfl
def sp_L_open : am_S := fun as n E K => ∃ (b : Nat) (σ : am_St) (l : Int32) (lo : Int32) (r : Int32) (hi : Int32) (v : Bool) (o : Nat) (g : Nat → Int64), as = [.ref b, .int l, .int lo, .int r, .int hi, .int (if v = true then 1 else 0), .ref o] ∧ am_HS b E σ ∧ (o < b ∨ b + 214 ≤ o) ∧ E o = some (.inl (1, 1, .inr (.inl g))) ∧ am_wr b o n E K L_AU (q_open σ l lo r hi v)
def rm_L_open : Room := { frames := 8, cells := 2, slots := 12, locals := 134 }
theorem rmc_L_open : rm_L_open.cells = 2 := rfl
theorem rms_L_open : rm_L_open.slots = 12 := rfl
def sp_X8_open : am_S := fun as n E K => ∃ (m : Nat) (σ : am_St) (lm : Nat → Nat) (lk : Nat → Nat → Nat) (lf : Nat → Nat → Bool) (thr : Int32) (l : Int32) (lo : Int32) (r : Int32) (hi : Int32) (v : Bool), as = [.ref m, .int l, .int lo, .int r, .int hi, .int (if v = true then 1 else 0)] ∧ m + 121 ≤ n ∧ am_MT m E σ lm lk lf thr ∧ am_mpi m n E K (.int 0) L_AU (q_open σ l lo r hi v)
def rm_X8_open : Room := { frames := 3, cells := 0, slots := 0, locals := 66 }
theorem rmc_X8_open : rm_X8_open.cells = 0 := rfl
theorem rms_X8_open : rm_X8_open.slots = 0 := rfl
def sp_L_lay : am_S := fun as n E K => ∃ (b : Nat) (σ : am_St) (p : Int32) (l : Int32) (lo : Int32) (r : Int32) (hi : Int32) (o : Nat) (g : Nat → Int64), as = [.ref b, .int p, .int l, .int lo, .int r, .int hi, .ref o] ∧ am_HS b E σ ∧ (o < b ∨ b + 214 ≤ o) ∧ E o = some (.inl (1, 1, .inr (.inl g))) ∧ am_wr b o n E K L_OAU (q_lay σ p l lo r hi)
def rm_L_lay : Room := { frames := 8, cells := 3, slots := 18, locals := 132 }
theorem rmc_L_lay : rm_L_lay.cells = 3 := rfl
theorem rms_L_lay : rm_L_lay.slots = 18 := rfl
def sp_X8_lay : am_S := fun as n E K => ∃ (m : Nat) (σ : am_St) (lm : Nat → Nat) (lk : Nat → Nat → Nat) (lf : Nat → Nat → Bool) (thr : Int32) (p : Int32) (l : Int32) (lo : Int32) (r : Int32) (hi : Int32), as = [.ref m, .int p, .int l, .int lo, .int r, .int hi] ∧ m + 121 ≤ n ∧ am_MT m E σ lm lk lf thr ∧ am_mpi m n E K (.int 0) L_OAU (q_lay σ p l lo r hi)
def rm_X8_lay : Room := { frames := 3, cells := 0, slots := 0, locals := 66 }
theorem rmc_X8_lay : rm_X8_lay.cells = 0 := rfl
theorem rms_X8_lay : rm_X8_lay.slots = 0 := rfl
def sp_L_pieceAt : am_S := fun as n E K => ∃ (b : Nat) (σ : am_St) (x : Int32) (y : Int32) (o : Nat) (g : Nat → Int64), as = [.ref b, .int x, .int y, .ref o] ∧ am_HS b E σ ∧ (o < b ∨ b + 214 ≤ o) ∧ E o = some (.inl (1, 1, .inr (.inl g))) ∧ am_wr b o n E K L_A (q_pieceAt σ x y)
def rm_L_pieceAt : Room := { frames := 8, cells := 1, slots := 6, locals := 125 }
theorem rmc_L_pieceAt : rm_L_pieceAt.cells = 1 := rfl
theorem rms_L_pieceAt : rm_L_pieceAt.slots = 6 := rfl
def sp_X8_pieceAt : am_S := fun as n E K => ∃ (m : Nat) (σ : am_St) (lm : Nat → Nat) (lk : Nat → Nat → Nat) (lf : Nat → Nat → Bool) (thr : Int32) (x : Int32) (y : Int32), as = [.ref m, .int x, .int y] ∧ m + 121 ≤ n ∧ am_MT m E σ lm lk lf thr ∧ am_mpi m n E K (.int 0) L_A (q_pieceAt σ x y)
def rm_X8_pieceAt : Room := { frames := 3, cells := 0, slots := 0, locals := 65 }
theorem rmc_X8_pieceAt : rm_X8_pieceAt.cells = 0 := rfl
theorem rms_X8_pieceAt : rm_X8_pieceAt.slots = 0 := rfl
def sp_L_size : am_S := fun as n E K => ∃ (b : Nat) (σ : am_St) (p : Int32) (o : Nat) (g : Nat → Int64), as = [.ref b, .int p, .ref o] ∧ am_HS b E σ ∧ (o < b ∨ b + 214 ≤ o) ∧ E o = some (.inl (1, 1, .inr (.inl g))) ∧ am_wr b o n E K L_O (q_size σ p)
def rm_L_size : Room := { frames := 8, cells := 1, slots := 6, locals := 123 }
theorem rmc_L_size : rm_L_size.cells = 1 := rfl
theorem rms_L_size : rm_L_size.slots = 6 := rfl
def sp_X8_size : am_S := fun as n E K => ∃ (m : Nat) (σ : am_St) (lm : Nat → Nat) (lk : Nat → Nat → Nat) (lf : Nat → Nat → Bool) (thr : Int32) (p : Int32), as = [.ref m, .int p] ∧ m + 121 ≤ n ∧ am_MT m E σ lm lk lf thr ∧ am_mpi m n E K (.int 0) L_O (q_size σ p)
def rm_X8_size : Room := { frames := 2, cells := 0, slots := 0, locals := 42 }
theorem rmc_X8_size : rm_X8_size.cells = 0 := rfl
theorem rms_X8_size : rm_X8_size.slots = 0 := rfl
def sp_L_corners : am_S := fun as n E K => ∃ (b : Nat) (σ : am_St) (p : Int32) (o : Nat) (g : Nat → Int64), as = [.ref b, .int p, .ref o] ∧ am_HS b E σ ∧ (o < b ∨ b + 214 ≤ o) ∧ E o = some (.inl (1, 1, .inr (.inl g))) ∧ am_wr b o n E K L_O (q_corners σ p)
def rm_L_corners : Room := { frames := 8, cells := 1, slots := 6, locals := 123 }
theorem rmc_L_corners : rm_L_corners.cells = 1 := rfl
theorem rms_L_corners : rm_L_corners.slots = 6 := rfl
def sp_X8_corners : am_S := fun as n E K => ∃ (m : Nat) (σ : am_St) (lm : Nat → Nat) (lk : Nat → Nat → Nat) (lf : Nat → Nat → Bool) (thr : Int32) (p : Int32), as = [.ref m, .int p] ∧ m + 121 ≤ n ∧ am_MT m E σ lm lk lf thr ∧ am_mpi m n E K (.int 0) L_O (q_corners σ p)
def rm_X8_corners : Room := { frames := 4, cells := 1, slots := 144, locals := 89 }
theorem rmc_X8_corners : rm_X8_corners.cells = 1 := rfl
theorem rms_X8_corners : rm_X8_corners.slots = 144 := rfl
def sp_L_point : am_S := fun as n E K => ∃ (b : Nat) (σ : am_St) (p : Int32) (o : Nat) (g : Nat → Int64), as = [.ref b, .int p, .ref o] ∧ am_HS b E σ ∧ (o < b ∨ b + 214 ≤ o) ∧ E o = some (.inl (1, 1, .inr (.inl g))) ∧ am_wr b o n E K L_O (q_point σ p)
def rm_L_point : Room := { frames := 8, cells := 1, slots := 6, locals := 123 }
theorem rmc_L_point : rm_L_point.cells = 1 := rfl
theorem rms_L_point : rm_L_point.slots = 6 := rfl
def sp_X8_point : am_S := fun as n E K => ∃ (m : Nat) (σ : am_St) (lm : Nat → Nat) (lk : Nat → Nat → Nat) (lf : Nat → Nat → Bool) (thr : Int32) (p : Int32), as = [.ref m, .int p] ∧ m + 121 ≤ n ∧ am_MT m E σ lm lk lf thr ∧ am_mpi m n E K (.int 0) L_O (q_point σ p)
def rm_X8_point : Room := { frames := 4, cells := 1, slots := 144, locals := 92 }
theorem rmc_X8_point : rm_X8_point.cells = 1 := rfl
theorem rms_X8_point : rm_X8_point.slots = 144 := rfl
def sp_L_hinders : am_S := fun as n E K => ∃ (b : Nat) (σ : am_St) (p : Int32) (o : Nat) (g : Nat → Int64), as = [.ref b, .int p, .ref o] ∧ am_HS b E σ ∧ (o < b ∨ b + 214 ≤ o) ∧ E o = some (.inl (1, 1, .inr (.inl g))) ∧ am_wr b o n E K L_O (q_hinders σ p)
def rm_L_hinders : Room := { frames := 8, cells := 1, slots := 6, locals := 129 }
theorem rmc_L_hinders : rm_L_hinders.cells = 1 := rfl
theorem rms_L_hinders : rm_L_hinders.slots = 6 := rfl
def sp_X8_hinders : am_S := fun as n E K => ∃ (m : Nat) (σ : am_St) (lm : Nat → Nat) (lk : Nat → Nat → Nat) (lf : Nat → Nat → Bool) (thr : Int32) (p : Int32), as = [.ref m, .int p] ∧ m + 121 ≤ n ∧ am_MT m E σ lm lk lf thr ∧ am_mpi m n E K (.int 32) L_O (q_hinders σ p)
def rm_X8_hinders : Room := { frames := 151, cells := 2, slots := 288, locals := 3447 }
theorem rmc_X8_hinders : rm_X8_hinders.cells = 2 := rfl
theorem rms_X8_hinders : rm_X8_hinders.slots = 288 := rfl
def sp_L_split : am_S := fun as n E K => ∃ (b : Nat) (σ : am_St) (p : Int32) (o : Nat) (g : Nat → Int64), as = [.ref b, .int p, .ref o] ∧ am_HS b E σ ∧ (o < b ∨ b + 214 ≤ o) ∧ E o = some (.inl (1, 1, .inr (.inl g))) ∧ am_wr b o n E K L_OUS (q_split σ p)
def rm_L_split : Room := { frames := 8, cells := 2, slots := 12, locals := 156 }
theorem rmc_L_split : rm_L_split.cells = 2 := rfl
theorem rms_L_split : rm_L_split.slots = 12 := rfl
def sp_X8_split : am_S := fun as n E K => ∃ (m : Nat) (σ : am_St) (lm : Nat → Nat) (lk : Nat → Nat → Nat) (lf : Nat → Nat → Bool) (thr : Int32) (p : Int32), as = [.ref m, .int p] ∧ m + 121 ≤ n ∧ am_MT m E σ lm lk lf thr ∧ am_mpi m n E K (.int 0) L_OUS (q_split σ p)
def rm_X8_split : Room := { frames := 151, cells := 91, slots := 13104, locals := 3447 }
theorem rmc_X8_split : rm_X8_split.cells = 91 := rfl
theorem rms_X8_split : rm_X8_split.slots = 13104 := rfl
def sp_X7_lead : am_S := fun as n E K => ∃ (b : Nat) (σ : am_St), as = [.ref b] ∧ am_HS b E σ ∧ am_api b n E K (q_lead σ)
def rm_X7_lead : Room := { frames := 3, cells := 0, slots := 0, locals := 66 }
theorem rmc_X7_lead : rm_X7_lead.cells = 0 := rfl
theorem rms_X7_lead : rm_X7_lead.slots = 0 := rfl
def sp_X8_lead : am_S := fun as n E K => ∃ (m : Nat) (σ : am_St) (lm : Nat → Nat) (lk : Nat → Nat → Nat) (lf : Nat → Nat → Bool) (thr : Int32), as = [.ref m] ∧ m + 121 ≤ n ∧ am_MT m E σ lm lk lf thr ∧ am_mpi m n E K (.int 0) L_N (q_lead σ)
def rm_X8_lead : Room := { frames := 5, cells := 0, slots := 0, locals := 114 }
theorem rmc_X8_lead : rm_X8_lead.cells = 0 := rfl
theorem rms_X8_lead : rm_X8_lead.slots = 0 := rfl
def sp_X7_joints : am_S := fun as n E K => ∃ (b : Nat) (σ : am_St), as = [.ref b] ∧ am_HS b E σ ∧ am_api b n E K (q_joints σ)
def rm_X7_joints : Room := { frames := 3, cells := 0, slots := 0, locals := 67 }
theorem rmc_X7_joints : rm_X7_joints.cells = 0 := rfl
theorem rms_X7_joints : rm_X7_joints.slots = 0 := rfl
def sp_X8_joints : am_S := fun as n E K => ∃ (m : Nat) (σ : am_St) (lm : Nat → Nat) (lk : Nat → Nat → Nat) (lf : Nat → Nat → Bool) (thr : Int32), as = [.ref m] ∧ m + 121 ≤ n ∧ am_MT m E σ lm lk lf thr ∧ am_mpi m n E K (.int 0) L_N (q_joints σ)
def rm_X8_joints : Room := { frames := 5, cells := 0, slots := 0, locals := 115 }
theorem rmc_X8_joints : rm_X8_joints.cells = 0 := rfl
theorem rms_X8_joints : rm_X8_joints.slots = 0 := rfl
def sp_L_sheet : am_S := fun as n E K => ∃ (b : Nat) (σ : am_St) (c : Int32) (d : Int32) (f : Int32) (t : Int32) (o : Nat) (g : Nat → Int64), as = [.ref b, .int c, .int d, .int f, .int t, .ref o] ∧ am_HS b E σ ∧ (o < b ∨ b + 214 ≤ o) ∧ E o = some (.inl (1, 1, .inr (.inl g))) ∧ am_wr b o n E K L_AS (q_sheet σ c d f t)
def rm_L_sheet : Room := { frames := 7, cells := 1, slots := 6, locals := 106 }
theorem rmc_L_sheet : rm_L_sheet.cells = 1 := rfl
theorem rms_L_sheet : rm_L_sheet.slots = 6 := rfl
def sp_X8_sheet : am_S := fun as n E K => ∃ (m : Nat) (σ : am_St) (lm : Nat → Nat) (lk : Nat → Nat → Nat) (lf : Nat → Nat → Bool) (thr : Int32) (c : Int32) (d : Int32) (f : Int32) (t : Int32), as = [.ref m, .int c, .int d, .int f, .int t] ∧ m + 121 ≤ n ∧ am_MT m E σ lm lk lf thr ∧ am_mpi m n E K (.int 0) L_AS (q_sheet σ c d f t)
def rm_X8_sheet : Room := { frames := 1, cells := 0, slots := 0, locals := 22 }
theorem rmc_X8_sheet : rm_X8_sheet.cells = 0 := rfl
theorem rms_X8_sheet : rm_X8_sheet.slots = 0 := rfl
def sp_L_free : am_S := fun as n E K => ∃ (b : Nat) (σ : am_St) (s : Int32) (o : Nat) (g : Nat → Int64), as = [.ref b, .int s, .ref o] ∧ am_HS b E σ ∧ (o < b ∨ b + 214 ≤ o) ∧ E o = some (.inl (1, 1, .inr (.inl g))) ∧ am_wr b o n E K L_O (q_free σ s)
def rm_L_free : Room := { frames := 8, cells := 1, slots := 6, locals := 124 }
theorem rmc_L_free : rm_L_free.cells = 1 := rfl
theorem rms_L_free : rm_L_free.slots = 6 := rfl
def sp_X8_free : am_S := fun as n E K => ∃ (m : Nat) (σ : am_St) (lm : Nat → Nat) (lk : Nat → Nat → Nat) (lf : Nat → Nat → Bool) (thr : Int32) (s : Int32), as = [.ref m, .int s] ∧ m + 121 ≤ n ∧ am_MT m E σ lm lk lf thr ∧ am_mpi m n E K (.int 0) L_O (q_free σ s)
def rm_X8_free : Room := { frames := 2, cells := 0, slots := 0, locals := 43 }
theorem rmc_X8_free : rm_X8_free.cells = 0 := rfl
theorem rms_X8_free : rm_X8_free.slots = 0 := rfl
def sp_L_want : am_S := fun as n E K => ∃ (b : Nat) (σ : am_St) (p : Int32) (c : Int32) (t : Int32) (o : Nat) (g : Nat → Int64), as = [.ref b, .int p, .int c, .int t, .ref o] ∧ am_HS b E σ ∧ (o < b ∨ b + 214 ≤ o) ∧ E o = some (.inl (1, 1, .inr (.inl g))) ∧ am_wr b o n E K L_OAU (q_want σ p c t)
def rm_L_want : Room := { frames := 8, cells := 2, slots := 12, locals := 127 }
theorem rmc_L_want : rm_L_want.cells = 2 := rfl
theorem rms_L_want : rm_L_want.slots = 12 := rfl
def sp_X8_want : am_S := fun as n E K => ∃ (m : Nat) (σ : am_St) (lm : Nat → Nat) (lk : Nat → Nat → Nat) (lf : Nat → Nat → Bool) (thr : Int32) (p : Int32) (c : Int32) (t : Int32), as = [.ref m, .int p, .int c, .int t] ∧ m + 121 ≤ n ∧ am_MT m E σ lm lk lf thr ∧ am_mpi m n E K (.int 0) L_OAU (q_want σ p c t)
def rm_X8_want : Room := { frames := 2, cells := 0, slots := 0, locals := 42 }
theorem rmc_X8_want : rm_X8_want.cells = 0 := rfl
theorem rms_X8_want : rm_X8_want.slots = 0 := rfl
def sp_L_cut : am_S := fun as n E K => ∃ (b : Nat) (σ : am_St) (s : Int32) (p : Int32) (v : Bool) (o : Nat) (g : Nat → Int64), as = [.ref b, .int s, .int p, .int (if v = true then 1 else 0), .ref o] ∧ am_HS b E σ ∧ (o < b ∨ b + 214 ≤ o) ∧ E o = some (.inl (1, 1, .inr (.inl g))) ∧ am_wr b o n E K L_OAU (q_cut σ s p v)
def rm_L_cut : Room := { frames := 8, cells := 3, slots := 18, locals := 135 }
theorem rmc_L_cut : rm_L_cut.cells = 3 := rfl
theorem rms_L_cut : rm_L_cut.slots = 18 := rfl
def sp_X8_cut : am_S := fun as n E K => ∃ (m : Nat) (σ : am_St) (lm : Nat → Nat) (lk : Nat → Nat → Nat) (lf : Nat → Nat → Bool) (thr : Int32) (s : Int32) (p : Int32) (v : Bool), as = [.ref m, .int s, .int p, .int (if v = true then 1 else 0)] ∧ m + 121 ≤ n ∧ am_MT m E σ lm lk lf thr ∧ am_mpi m n E K (.int 0) L_OAU (q_cut σ s p v)
def rm_X8_cut : Room := { frames := 151, cells := 3, slots := 432, locals := 3447 }
theorem rmc_X8_cut : rm_X8_cut.cells = 3 := rfl
theorem rms_X8_cut : rm_X8_cut.slots = 432 := rfl
def sp_L_glass : am_S := fun as n E K => ∃ (b : Nat) (σ : am_St) (p : Int32) (o : Nat) (g : Nat → Int64), as = [.ref b, .int p, .ref o] ∧ am_HS b E σ ∧ (o < b ∨ b + 214 ≤ o) ∧ E o = some (.inl (1, 1, .inr (.inl g))) ∧ am_wr b o n E K L_O (q_glass σ p)
def rm_L_glass : Room := { frames := 8, cells := 1, slots := 6, locals := 123 }
theorem rmc_L_glass : rm_L_glass.cells = 1 := rfl
theorem rms_L_glass : rm_L_glass.slots = 6 := rfl
def sp_X8_glass : am_S := fun as n E K => ∃ (m : Nat) (σ : am_St) (lm : Nat → Nat) (lk : Nat → Nat → Nat) (lf : Nat → Nat → Bool) (thr : Int32) (p : Int32), as = [.ref m, .int p] ∧ m + 121 ≤ n ∧ am_MT m E σ lm lk lf thr ∧ am_mpi m n E K (.int 32) L_O (q_glass σ p)
def rm_X8_glass : Room := { frames := 2, cells := 0, slots := 0, locals := 42 }
theorem rmc_X8_glass : rm_X8_glass.cells = 0 := rfl
theorem rms_X8_glass : rm_X8_glass.slots = 0 := rfl
def sp_L_colour : am_S := fun as n E K => ∃ (b : Nat) (σ : am_St) (p : Int32) (o : Nat) (g : Nat → Int64), as = [.ref b, .int p, .ref o] ∧ am_HS b E σ ∧ (o < b ∨ b + 214 ≤ o) ∧ E o = some (.inl (1, 1, .inr (.inl g))) ∧ am_wr b o n E K L_ON (q_colour σ p)
def rm_L_colour : Room := { frames := 8, cells := 2, slots := 12, locals := 124 }
theorem rmc_L_colour : rm_L_colour.cells = 2 := rfl
theorem rms_L_colour : rm_L_colour.slots = 12 := rfl
def sp_X8_colour : am_S := fun as n E K => ∃ (m : Nat) (σ : am_St) (lm : Nat → Nat) (lk : Nat → Nat → Nat) (lf : Nat → Nat → Bool) (thr : Int32) (p : Int32), as = [.ref m, .int p] ∧ m + 121 ≤ n ∧ am_MT m E σ lm lk lf thr ∧ am_mpi m n E K (.int 0) L_ON (q_colour σ p)
def rm_X8_colour : Room := { frames := 2, cells := 0, slots := 0, locals := 42 }
theorem rmc_X8_colour : rm_X8_colour.cells = 0 := rfl
theorem rms_X8_colour : rm_X8_colour.slots = 0 := rfl
def sp_L_paint : am_S := fun as n E K => ∃ (b : Nat) (σ : am_St) (p : Int32) (c : Int32) (o : Nat) (g : Nat → Int64), as = [.ref b, .int p, .int c, .ref o] ∧ am_HS b E σ ∧ (o < b ∨ b + 214 ≤ o) ∧ E o = some (.inl (1, 1, .inr (.inl g))) ∧ am_wr b o n E K L_OAUS (q_paint σ p c)
def rm_L_paint : Room := { frames := 8, cells := 2, slots := 12, locals := 126 }
theorem rmc_L_paint : rm_L_paint.cells = 2 := rfl
theorem rms_L_paint : rm_L_paint.slots = 12 := rfl
def sp_X8_paint : am_S := fun as n E K => ∃ (m : Nat) (σ : am_St) (lm : Nat → Nat) (lk : Nat → Nat → Nat) (lf : Nat → Nat → Bool) (thr : Int32) (p : Int32) (c : Nat), as = [.ref m, .int p, .int (nI c)] ∧ m + 121 ≤ n ∧ am_MT m E σ lm lk lf thr ∧ c < 65536 ∧ am_mpi m n E K (.int 0) L_OAUS (q_paint σ p (nI c))
def rm_X8_paint : Room := { frames := 4, cells := 0, slots := 0, locals := 106 }
theorem rmc_X8_paint : rm_X8_paint.cells = 0 := rfl
theorem rms_X8_paint : rm_X8_paint.slots = 0 := rfl
def sp_L_fire : am_S := fun as n E K => ∃ (b : Nat) (σ : am_St) (a : Nat) (d : Int32) (o : Nat) (g : Nat → Int64), a < 2 ^ 32 ∧ (∀ p, am_kept σ p ≤ 5) ∧ as = [.ref b, .int (nI a), .int d, .ref o] ∧ am_HS b E σ ∧ (o < b ∨ b + 214 ≤ o) ∧ E o = some (.inl (1, 1, .inr (.inl g))) ∧ am_wr b o n E K L_AU (q_fire σ a d)
def rm_L_fire : Room := { frames := 7, cells := 1, slots := 6, locals := 106 }
theorem rmc_L_fire : rm_L_fire.cells = 1 := rfl
theorem rms_L_fire : rm_L_fire.slots = 6 := rfl
def sp_X8_fire : am_S := fun as n E K => ∃ (m : Nat) (σ : am_St) (lm : Nat → Nat) (lk : Nat → Nat → Nat) (lf : Nat → Nat → Bool) (thr : Int32) (a : Nat) (d : Int32), as = [.ref m, .int (nI a), .int d] ∧ m + 121 ≤ n ∧ am_MT m E σ lm lk lf thr ∧ a < 2 ^ 32 ∧ am_mpi m n E K (.int 0) L_AU (q_fire σ a d)
def rm_X8_fire : Room := { frames := 5, cells := 0, slots := 0, locals := 135 }
theorem rmc_X8_fire : rm_X8_fire.cells = 0 := rfl
theorem rms_X8_fire : rm_X8_fire.slots = 0 := rfl
def sp_L_layers : am_S := fun as n E K => ∃ (b : Nat) (σ : am_St) (p : Int32) (t : Int32) (o : Nat) (g : Nat → Int64), as = [.ref b, .int p, .int t, .ref o] ∧ am_HS b E σ ∧ (o < b ∨ b + 214 ≤ o) ∧ E o = some (.inl (1, 1, .inr (.inl g))) ∧ am_wr b o n E K L_OA (q_layers σ p t)
def rm_L_layers : Room := { frames := 8, cells := 2, slots := 12, locals := 125 }
theorem rmc_L_layers : rm_L_layers.cells = 2 := rfl
theorem rms_L_layers : rm_L_layers.slots = 12 := rfl
def sp_X8_layers : am_S := fun as n E K => ∃ (m : Nat) (σ : am_St) (lm : Nat → Nat) (lk : Nat → Nat → Nat) (lf : Nat → Nat → Bool) (thr : Int32) (p : Int32) (t : Int32), as = [.ref m, .int p, .int t] ∧ m + 121 ≤ n ∧ am_MT m E σ lm lk lf thr ∧ am_mpi m n E K (.int 0) L_OA (q_layers σ p t)
def rm_X8_layers : Room := { frames := 2, cells := 0, slots := 0, locals := 42 }
theorem rmc_X8_layers : rm_X8_layers.cells = 0 := rfl
theorem rms_X8_layers : rm_X8_layers.slots = 0 := rfl
def sp_L_seed : am_S := fun as n E K => ∃ (b : Nat) (σ : am_St) (z : Int32) (o : Nat) (g : Nat → Int64), as = [.ref b, .int z, .ref o] ∧ am_HS b E σ ∧ (o < b ∨ b + 214 ≤ o) ∧ E o = some (.inl (1, 1, .inr (.inl g))) ∧ am_wr b o n E K L_A (q_seed σ z)
def rm_L_seed : Room := { frames := 7, cells := 1, slots := 6, locals := 104 }
theorem rmc_L_seed : rm_L_seed.cells = 1 := rfl
theorem rms_L_seed : rm_L_seed.slots = 6 := rfl
def sp_X8_seed : am_S := fun as n E K => ∃ (m : Nat) (σ : am_St) (lm : Nat → Nat) (lk : Nat → Nat → Nat) (lf : Nat → Nat → Bool) (thr : Int32) (z : Int32), as = [.ref m, .int z] ∧ m + 121 ≤ n ∧ am_MT m E σ lm lk lf thr ∧ am_mpi m n E K (.int 0) L_A (q_seed σ z)
def rm_X8_seed : Room := { frames := 1, cells := 0, slots := 0, locals := 22 }
theorem rmc_X8_seed : rm_X8_seed.cells = 0 := rfl
theorem rms_X8_seed : rm_X8_seed.slots = 0 := rfl
def sp_X7_isOrderly : am_S := fun as n E K => ∃ (b : Nat) (σ : am_St), as = [.ref b] ∧ am_HS b E σ ∧ am_api b n E K (q_isOrderly σ)
def rm_X7_isOrderly : Room := { frames := 3, cells := 0, slots := 0, locals := 67 }
theorem rmc_X7_isOrderly : rm_X7_isOrderly.cells = 0 := rfl
theorem rms_X7_isOrderly : rm_X7_isOrderly.slots = 0 := rfl
def sp_X8_isOrderly : am_S := fun as n E K => ∃ (m : Nat) (σ : am_St) (lm : Nat → Nat) (lk : Nat → Nat → Nat) (lf : Nat → Nat → Bool) (thr : Int32), as = [.ref m] ∧ m + 121 ≤ n ∧ am_MT m E σ lm lk lf thr ∧ am_mpi m n E K (.int 0) L_N (q_isOrderly σ)
def rm_X8_isOrderly : Room := { frames := 4, cells := 1, slots := 30, locals := 93 }
theorem rmc_X8_isOrderly : rm_X8_isOrderly.cells = 1 := rfl
theorem rms_X8_isOrderly : rm_X8_isOrderly.slots = 30 := rfl
def sp_L_next : am_S := fun as n E K => ∃ (b : Nat) (σ : am_St)  (o : Nat) (g : Nat → Int64), as = [.ref b, .ref o] ∧ am_HS b E σ ∧ (o < b ∨ b + 214 ≤ o) ∧ E o = some (.inl (1, 1, .inr (.inl g))) ∧ am_wr b o n E K L_N (q_next σ)
def rm_L_next : Room := { frames := 8, cells := 1, slots := 6, locals := 124 }
theorem rmc_L_next : rm_L_next.cells = 1 := rfl
theorem rms_L_next : rm_L_next.slots = 6 := rfl
def sp_X8_next : am_S := fun as n E K => ∃ (m : Nat) (σ : am_St) (lm : Nat → Nat) (lk : Nat → Nat → Nat) (lf : Nat → Nat → Bool) (thr : Int32), as = [.ref m] ∧ m + 121 ≤ n ∧ am_MT m E σ lm lk lf thr ∧ am_mpi m n E K (.int 0) L_N (q_next σ)
def rm_X8_next : Room := { frames := 5, cells := 2, slots := 60, locals := 117 }
theorem rmc_X8_next : rm_X8_next.cells = 2 := rfl
theorem rms_X8_next : rm_X8_next.slots = 60 := rfl
def sp_L_comes : am_S := fun as n E K => ∃ (b : Nat) (σ : am_St)  (o : Nat) (g : Nat → Int64), as = [.ref b, .ref o] ∧ am_HS b E σ ∧ (o < b ∨ b + 214 ≤ o) ∧ E o = some (.inl (1, 1, .inr (.inl g))) ∧ am_wr b o n E K L_N (q_comes σ)
def rm_L_comes : Room := { frames := 8, cells := 1, slots := 6, locals := 125 }
theorem rmc_L_comes : rm_L_comes.cells = 1 := rfl
theorem rms_L_comes : rm_L_comes.slots = 6 := rfl
def sp_X8_comes : am_S := fun as n E K => ∃ (m : Nat) (σ : am_St) (lm : Nat → Nat) (lk : Nat → Nat → Nat) (lf : Nat → Nat → Bool) (thr : Int32), as = [.ref m] ∧ m + 121 ≤ n ∧ am_MT m E σ lm lk lf thr ∧ am_mpi m n E K (.int 0) L_N (q_comes σ)
def rm_X8_comes : Room := { frames := 5, cells := 1, slots := 30, locals := 117 }
theorem rmc_X8_comes : rm_X8_comes.cells = 1 := rfl
theorem rms_X8_comes : rm_X8_comes.slots = 30 := rfl
def sp_L_solder : am_S := fun as n E K => ∃ (b : Nat) (σ : am_St)  (o : Nat) (g : Nat → Int64), am_iw σ ∧ as = [.ref b, .ref o] ∧ am_HS b E σ ∧ (o < b ∨ b + 214 ≤ o) ∧ E o = some (.inl (1, 1, .inr (.inl g))) ∧ am_wr b o n E K L_U (q_solder σ)
def rm_L_solder : Room := { frames := 7, cells := 1, slots := 6, locals := 103 }
theorem rmc_L_solder : rm_L_solder.cells = 1 := rfl
theorem rms_L_solder : rm_L_solder.slots = 6 := rfl
def sp_X8_solder : am_S := fun as n E K => ∃ (m : Nat) (σ : am_St) (lm : Nat → Nat) (lk : Nat → Nat → Nat) (lf : Nat → Nat → Bool) (thr : Int32), as = [.ref m] ∧ m + 121 ≤ n ∧ am_MT m E σ lm lk lf thr ∧ am_mpi m n E K (.int 0) L_U (q_solder σ)
def rm_X8_solder : Room := { frames := 5, cells := 0, slots := 0, locals := 115 }
theorem rmc_X8_solder : rm_X8_solder.cells = 0 := rfl
theorem rms_X8_solder : rm_X8_solder.slots = 0 := rfl
def sp_X7_isUp : am_S := fun as n E K => ∃ (b : Nat) (σ : am_St), as = [.ref b] ∧ am_HS b E σ ∧ am_api b n E K (q_isUp σ)
def rm_X7_isUp : Room := { frames := 0, cells := 0, slots := 0, locals := 0 }
theorem rmc_X7_isUp : rm_X7_isUp.cells = 0 := rfl
theorem rms_X7_isUp : rm_X7_isUp.slots = 0 := rfl
def sp_X8_isUp : am_S := fun as n E K => ∃ (m : Nat) (σ : am_St) (lm : Nat → Nat) (lk : Nat → Nat → Nat) (lf : Nat → Nat → Bool) (thr : Int32), as = [.ref m] ∧ m + 121 ≤ n ∧ am_MT m E σ lm lk lf thr ∧ am_mpi m n E K (.int 0) L_N (q_isUp σ)
def rm_X8_isUp : Room := { frames := 1, cells := 0, slots := 0, locals := 20 }
theorem rmc_X8_isUp : rm_X8_isUp.cells = 0 := rfl
theorem rms_X8_isUp : rm_X8_isUp.slots = 0 := rfl
def sp_L_bar : am_S := fun as n E K => ∃ (b : Nat) (σ : am_St) (r : Int32) (v : Bool) (o : Nat) (g : Nat → Int64), as = [.ref b, .int r, .int (if v = true then 1 else 0), .ref o] ∧ am_HS b E σ ∧ (o < b ∨ b + 214 ≤ o) ∧ E o = some (.inl (1, 1, .inr (.inl g))) ∧ am_wr b o n E K L_A (q_bar σ r v)
def rm_L_bar : Room := { frames := 7, cells := 1, slots := 6, locals := 105 }
theorem rmc_L_bar : rm_L_bar.cells = 1 := rfl
theorem rms_L_bar : rm_L_bar.slots = 6 := rfl
def sp_X8_bar : am_S := fun as n E K => ∃ (m : Nat) (σ : am_St) (lm : Nat → Nat) (lk : Nat → Nat → Nat) (lf : Nat → Nat → Bool) (thr : Int32) (r : Int32) (v : Bool), as = [.ref m, .int r, .int (if v = true then 1 else 0)] ∧ m + 121 ≤ n ∧ am_MT m E σ lm lk lf thr ∧ am_mpi m n E K (.int 0) L_A (q_bar σ r v)
def rm_X8_bar : Room := { frames := 1, cells := 0, slots := 0, locals := 22 }
theorem rmc_X8_bar : rm_X8_bar.cells = 0 := rfl
theorem rms_X8_bar : rm_X8_bar.slots = 0 := rfl
def sp_L_profile : am_S := fun as n E K => ∃ (b : Nat) (σ : am_St) (v : Int32) (o : Nat) (g : Nat → Int64), as = [.ref b, .int v, .ref o] ∧ am_HS b E σ ∧ (o < b ∨ b + 214 ≤ o) ∧ E o = some (.inl (1, 1, .inr (.inl g))) ∧ am_wr b o n E K L_AU (q_profile σ v)
def rm_L_profile : Room := { frames := 7, cells := 1, slots := 6, locals := 104 }
theorem rmc_L_profile : rm_L_profile.cells = 1 := rfl
theorem rms_L_profile : rm_L_profile.slots = 6 := rfl
def sp_X8_profile : am_S := fun as n E K => ∃ (m : Nat) (σ : am_St) (lm : Nat → Nat) (lk : Nat → Nat → Nat) (lf : Nat → Nat → Bool) (thr : Int32) (v : Int32), as = [.ref m, .int v] ∧ m + 121 ≤ n ∧ am_MT m E σ lm lk lf thr ∧ am_mpi m n E K (.int 0) L_AU (q_profile σ v)
def rm_X8_profile : Room := { frames := 1, cells := 0, slots := 0, locals := 22 }
theorem rmc_X8_profile : rm_X8_profile.cells = 0 := rfl
theorem rms_X8_profile : rm_X8_profile.slots = 0 := rfl
def sp_L_wind : am_S := fun as n E K => ∃ (b : Nat) (σ : am_St) (v : Int32) (o : Nat) (g : Nat → Int64), as = [.ref b, .int v, .ref o] ∧ am_HS b E σ ∧ (o < b ∨ b + 214 ≤ o) ∧ E o = some (.inl (1, 1, .inr (.inl g))) ∧ am_wr b o n E K L_A (q_wind σ v)
def rm_L_wind : Room := { frames := 7, cells := 1, slots := 6, locals := 104 }
theorem rmc_L_wind : rm_L_wind.cells = 1 := rfl
theorem rms_L_wind : rm_L_wind.slots = 6 := rfl
def sp_X8_wind : am_S := fun as n E K => ∃ (m : Nat) (σ : am_St) (lm : Nat → Nat) (lk : Nat → Nat → Nat) (lf : Nat → Nat → Bool) (thr : Int32) (v : Int32), as = [.ref m, .int v] ∧ m + 121 ≤ n ∧ am_MT m E σ lm lk lf thr ∧ am_mpi m n E K (.int 0) L_A (q_wind σ v)
def rm_X8_wind : Room := { frames := 1, cells := 0, slots := 0, locals := 22 }
theorem rmc_X8_wind : rm_X8_wind.cells = 0 := rfl
theorem rms_X8_wind : rm_X8_wind.slots = 0 := rfl
def sp_X8_thrown : am_S := fun as n E K => ∃ (m : Nat) (σ : am_St) (lm : Nat → Nat) (lk : Nat → Nat → Nat) (lf : Nat → Nat → Bool) (thr : Int32), as = [.ref m] ∧ m + 121 ≤ n ∧ am_MT m E σ lm lk lf thr ∧ K (.inl (some (.int thr))) n E
def rm_X8_thrown : Room := { frames := 0, cells := 0, slots := 0, locals := 0 }
theorem rmc_X8_thrown : rm_X8_thrown.cells = 0 := rfl
theorem rms_X8_thrown : rm_X8_thrown.slots = 0 := rfl
def sp_X7_bears : am_S := fun as n E K => ∃ (b : Nat) (σ : am_St), as = [.ref b] ∧ am_HS b E σ ∧ am_api b n E K (q_bears σ)
def rm_X7_bears : Room := { frames := 2, cells := 0, slots := 0, locals := 46 }
theorem rmc_X7_bears : rm_X7_bears.cells = 0 := rfl
theorem rms_X7_bears : rm_X7_bears.slots = 0 := rfl
def sp_X8_bears : am_S := fun as n E K => ∃ (m : Nat) (σ : am_St) (lm : Nat → Nat) (lk : Nat → Nat → Nat) (lf : Nat → Nat → Bool) (thr : Int32), as = [.ref m] ∧ m + 121 ≤ n ∧ am_MT m E σ lm lk lf thr ∧ am_mpi m n E K (.int 0) L_N (q_bears σ)
def rm_X8_bears : Room := { frames := 2, cells := 0, slots := 0, locals := 44 }
theorem rmc_X8_bears : rm_X8_bears.cells = 0 := rfl
theorem rms_X8_bears : rm_X8_bears.slots = 0 := rfl
def sp_X7_stands : am_S := fun as n E K => ∃ (b : Nat) (σ : am_St), as = [.ref b] ∧ am_HS b E σ ∧ am_api b n E K (q_stands σ)
def rm_X7_stands : Room := { frames := 2, cells := 0, slots := 0, locals := 46 }
theorem rmc_X7_stands : rm_X7_stands.cells = 0 := rfl
theorem rms_X7_stands : rm_X7_stands.slots = 0 := rfl
def sp_X8_stands : am_S := fun as n E K => ∃ (m : Nat) (σ : am_St) (lm : Nat → Nat) (lk : Nat → Nat → Nat) (lf : Nat → Nat → Bool) (thr : Int32), as = [.ref m] ∧ m + 121 ≤ n ∧ am_MT m E σ lm lk lf thr ∧ am_mpi m n E K (.int 0) L_N (q_stands σ)
def rm_X8_stands : Room := { frames := 2, cells := 0, slots := 0, locals := 44 }
theorem rmc_X8_stands : rm_X8_stands.cells = 0 := rfl
theorem rms_X8_stands : rm_X8_stands.slots = 0 := rfl
def sp_L_years : am_S := fun as n E K => ∃ (b : Nat) (σ : am_St) (v : Int32) (o : Nat) (g : Nat → Int64), as = [.ref b, .int v, .ref o] ∧ am_HS b E σ ∧ (o < b ∨ b + 214 ≤ o) ∧ E o = some (.inl (1, 1, .inr (.inl g))) ∧ am_wr b o n E K L_AS (q_years σ v)
def rm_L_years : Room := { frames := 7, cells := 1, slots := 6, locals := 103 }
theorem rmc_L_years : rm_L_years.cells = 1 := rfl
theorem rms_L_years : rm_L_years.slots = 6 := rfl
def sp_X8_years : am_S := fun as n E K => ∃ (m : Nat) (σ : am_St) (lm : Nat → Nat) (lk : Nat → Nat → Nat) (lf : Nat → Nat → Bool) (thr : Int32) (v : Int32), as = [.ref m, .int v] ∧ m + 121 ≤ n ∧ am_MT m E σ lm lk lf thr ∧ am_mpi m n E K (.int 0) L_AS (q_years σ v)
def rm_X8_years : Room := { frames := 1, cells := 0, slots := 0, locals := 22 }
theorem rmc_X8_years : rm_X8_years.cells = 0 := rfl
theorem rms_X8_years : rm_X8_years.slots = 0 := rfl
def sp_L_looks : am_S := fun as n E K => ∃ (b : Nat) (σ : am_St) (x : Int32) (y : Int32) (t : Int32) (o : Nat) (g : Nat → Int64), as = [.ref b, .int x, .int y, .int t, .ref o] ∧ am_HS b E σ ∧ (o < b ∨ b + 214 ≤ o) ∧ E o = some (.inl (1, 1, .inr (.inl g))) ∧ am_wr b o n E K L_A (q_looks σ x y t)
def rm_L_looks : Room := { frames := 8, cells := 2, slots := 12, locals := 129 }
theorem rmc_L_looks : rm_L_looks.cells = 2 := rfl
theorem rms_L_looks : rm_L_looks.slots = 12 := rfl
def sp_X8_looks : am_S := fun as n E K => ∃ (m : Nat) (σ : am_St) (lm : Nat → Nat) (lk : Nat → Nat → Nat) (lf : Nat → Nat → Bool) (thr : Int32) (x : Int32) (y : Int32) (t : Int32), as = [.ref m, .int x, .int y, .int t] ∧ m + 121 ≤ n ∧ am_MT m E σ lm lk lf thr ∧ am_mpi m n E K (.int 0) L_A (q_looks σ x y t)
def rm_X8_looks : Room := { frames := 4, cells := 0, slots := 0, locals := 90 }
theorem rmc_X8_looks : rm_X8_looks.cells = 0 := rfl
theorem rms_X8_looks : rm_X8_looks.slots = 0 := rfl
def sp_L_hit : am_S := fun as n E K => ∃ (b : Nat) (σ : am_St) (x : Int32) (y : Int32) (o : Nat) (g : Nat → Int64), as = [.ref b, .int x, .int y, .ref o] ∧ am_HS b E σ ∧ (o < b ∨ b + 214 ≤ o) ∧ E o = some (.inl (1, 1, .inr (.inl g))) ∧ am_wr b o n E K L_AU (q_hit σ x y)
def rm_L_hit : Room := { frames := 8, cells := 2, slots := 12, locals := 126 }
theorem rmc_L_hit : rm_L_hit.cells = 2 := rfl
theorem rms_L_hit : rm_L_hit.slots = 12 := rfl
def sp_X8_hit : am_S := fun as n E K => ∃ (m : Nat) (σ : am_St) (lm : Nat → Nat) (lk : Nat → Nat → Nat) (lf : Nat → Nat → Bool) (thr : Int32) (x : Int32) (y : Int32), as = [.ref m, .int x, .int y] ∧ m + 121 ≤ n ∧ am_MT m E σ lm lk lf thr ∧ am_mpi m n E K (.int 0) L_AU (q_hit σ x y)
def rm_X8_hit : Room := { frames := 3, cells := 0, slots := 0, locals := 65 }
theorem rmc_X8_hit : rm_X8_hit.cells = 0 := rfl
theorem rms_X8_hit : rm_X8_hit.slots = 0 := rfl
def sp_L_mend : am_S := fun as n E K => ∃ (b : Nat) (σ : am_St) (p : Int32) (o : Nat) (g : Nat → Int64), as = [.ref b, .int p, .ref o] ∧ am_HS b E σ ∧ (o < b ∨ b + 214 ≤ o) ∧ E o = some (.inl (1, 1, .inr (.inl g))) ∧ am_wr b o n E K L_OU (q_mend σ p)
def rm_L_mend : Room := { frames := 8, cells := 2, slots := 12, locals := 124 }
theorem rmc_L_mend : rm_L_mend.cells = 2 := rfl
theorem rms_L_mend : rm_L_mend.slots = 12 := rfl
def sp_X8_mend : am_S := fun as n E K => ∃ (m : Nat) (σ : am_St) (lm : Nat → Nat) (lk : Nat → Nat → Nat) (lf : Nat → Nat → Bool) (thr : Int32) (p : Int32), as = [.ref m, .int p] ∧ m + 121 ≤ n ∧ am_MT m E σ lm lk lf thr ∧ am_mpi m n E K (.int 0) L_OU (q_mend σ p)
def rm_X8_mend : Room := { frames := 2, cells := 0, slots := 0, locals := 42 }
theorem rmc_X8_mend : rm_X8_mend.cells = 0 := rfl
theorem rms_X8_mend : rm_X8_mend.slots = 0 := rfl
def sp_L_stopgap : am_S := fun as n E K => ∃ (b : Nat) (σ : am_St) (p : Int32) (s : Int32) (o : Nat) (g : Nat → Int64), am_iw σ ∧ as = [.ref b, .int p, .int s, .ref o] ∧ am_HS b E σ ∧ (o < b ∨ b + 214 ≤ o) ∧ E o = some (.inl (1, 1, .inr (.inl g))) ∧ am_wr b o n E K L_OU (q_stopgap σ p s)
def rm_L_stopgap : Room := { frames := 8, cells := 3, slots := 18, locals := 128 }
theorem rmc_L_stopgap : rm_L_stopgap.cells = 3 := rfl
theorem rms_L_stopgap : rm_L_stopgap.slots = 18 := rfl
def sp_X8_stopgap : am_S := fun as n E K => ∃ (m : Nat) (σ : am_St) (lm : Nat → Nat) (lk : Nat → Nat → Nat) (lf : Nat → Nat → Bool) (thr : Int32) (p : Int32) (s : Int32), as = [.ref m, .int p, .int s] ∧ m + 121 ≤ n ∧ am_MT m E σ lm lk lf thr ∧ am_iw σ ∧ am_mpi m n E K (.int 0) L_OU (q_stopgap σ p s)
def rm_X8_stopgap : Room := { frames := 2, cells := 2, slots := 288, locals := 50 }
theorem rmc_X8_stopgap : rm_X8_stopgap.cells = 2 := rfl
theorem rms_X8_stopgap : rm_X8_stopgap.slots = 288 := rfl
def sp_L_year : am_S := fun as n E K => ∃ (b : Nat) (σ : am_St) (p : Int32) (o : Nat) (g : Nat → Int64), as = [.ref b, .int p, .ref o] ∧ am_HS b E σ ∧ (o < b ∨ b + 214 ≤ o) ∧ E o = some (.inl (1, 1, .inr (.inl g))) ∧ am_wr b o n E K L_ON (q_year σ p)
def rm_L_year : Room := { frames := 8, cells := 2, slots := 12, locals := 124 }
theorem rmc_L_year : rm_L_year.cells = 2 := rfl
theorem rms_L_year : rm_L_year.slots = 12 := rfl
def sp_X8_year : am_S := fun as n E K => ∃ (m : Nat) (σ : am_St) (lm : Nat → Nat) (lk : Nat → Nat → Nat) (lf : Nat → Nat → Bool) (thr : Int32) (p : Int32), as = [.ref m, .int p] ∧ m + 121 ≤ n ∧ am_MT m E σ lm lk lf thr ∧ am_mpi m n E K (.int 0) L_ON (q_year σ p)
def rm_X8_year : Room := { frames := 2, cells := 0, slots := 0, locals := 42 }
theorem rmc_X8_year : rm_X8_year.cells = 0 := rfl
theorem rms_X8_year : rm_X8_year.slots = 0 := rfl
def sp_X7_hands : am_S := fun as n E K => ∃ (b : Nat) (σ : am_St), as = [.ref b] ∧ am_HS b E σ ∧ am_api b n E K (q_hands σ)
def rm_X7_hands : Room := { frames := 2, cells := 0, slots := 0, locals := 43 }
theorem rmc_X7_hands : rm_X7_hands.cells = 0 := rfl
theorem rms_X7_hands : rm_X7_hands.slots = 0 := rfl
def sp_X8_hands : am_S := fun as n E K => ∃ (m : Nat) (σ : am_St) (lm : Nat → Nat) (lk : Nat → Nat → Nat) (lf : Nat → Nat → Bool) (thr : Int32), as = [.ref m] ∧ m + 121 ≤ n ∧ am_MT m E σ lm lk lf thr ∧ am_mpi m n E K (.int 0) L_N (q_hands σ)
def rm_X8_hands : Room := { frames := 1, cells := 0, slots := 0, locals := 21 }
theorem rmc_X8_hands : rm_X8_hands.cells = 0 := rfl
theorem rms_X8_hands : rm_X8_hands.slots = 0 := rfl
def sp_L_fits : am_S := fun as n E K => ∃ (b : Nat) (σ : am_St) (p : Int32) (o : Nat) (g : Nat → Int64), as = [.ref b, .int p, .ref o] ∧ am_HS b E σ ∧ (o < b ∨ b + 214 ≤ o) ∧ E o = some (.inl (1, 1, .inr (.inl g))) ∧ am_wr b o n E K L_ON (q_fits σ p)
def rm_L_fits : Room := { frames := 8, cells := 2, slots := 12, locals := 127 }
theorem rmc_L_fits : rm_L_fits.cells = 2 := rfl
theorem rms_L_fits : rm_L_fits.slots = 12 := rfl
def sp_X8_fits : am_S := fun as n E K => ∃ (m : Nat) (σ : am_St) (lm : Nat → Nat) (lk : Nat → Nat → Nat) (lf : Nat → Nat → Bool) (thr : Int32) (p : Int32), as = [.ref m, .int p] ∧ m + 121 ≤ n ∧ am_MT m E σ lm lk lf thr ∧ am_iw σ ∧ am_mpi m n E K (.int 0) L_ON (q_fits σ p)
def rm_X8_fits : Room := { frames := 2, cells := 62, slots := 8928, locals := 48 }
theorem rmc_X8_fits : rm_X8_fits.cells = 62 := rfl
theorem rms_X8_fits : rm_X8_fits.slots = 8928 := rfl
def sp_X7_price : am_S := fun as n E K => ∃ (b : Nat) (σ : am_St), as = [.ref b] ∧ am_HS b E σ ∧ am_api b n E K (q_price σ)
def rm_X7_price : Room := { frames := 3, cells := 0, slots := 0, locals := 66 }
theorem rmc_X7_price : rm_X7_price.cells = 0 := rfl
theorem rms_X7_price : rm_X7_price.slots = 0 := rfl
def sp_X8_price : am_S := fun as n E K => ∃ (m : Nat) (σ : am_St) (lm : Nat → Nat) (lk : Nat → Nat → Nat) (lf : Nat → Nat → Bool) (thr : Int32), am_iw σ ∧ as = [.ref m] ∧ m + 121 ≤ n ∧ am_MT m E σ lm lk lf thr ∧ am_mpi m n E K (.int 0) L_N (q_price σ)
def rm_X8_price : Room := { frames := 5, cells := 0, slots := 0, locals := 114 }
theorem rmc_X8_price : rm_X8_price.cells = 0 := rfl
theorem rms_X8_price : rm_X8_price.slots = 0 := rfl
def sp_X7_checksum : am_S := fun as n E K => ∃ (b : Nat) (σ : am_St), as = [.ref b] ∧ am_HS b E σ ∧ am_api b n E K (q_checksum σ)
def rm_X7_checksum : Room := { frames := 2, cells := 0, slots := 0, locals := 43 }
theorem rmc_X7_checksum : rm_X7_checksum.cells = 0 := rfl
theorem rms_X7_checksum : rm_X7_checksum.slots = 0 := rfl
def sp_X8_checksum : am_S := fun as n E K => ∃ (m : Nat) (σ : am_St) (lm : Nat → Nat) (lk : Nat → Nat → Nat) (lf : Nat → Nat → Bool) (thr : Int32), as = [.ref m] ∧ m + 121 ≤ n ∧ am_MT m E σ lm lk lf thr ∧ am_mpi m n E K (.long 0) L_N (q_checksum σ)
def rm_X8_checksum : Room := { frames := 1, cells := 0, slots := 0, locals := 24 }
theorem rmc_X8_checksum : rm_X8_checksum.cells = 0 := rfl
theorem rms_X8_checksum : rm_X8_checksum.slots = 0 := rfl
def sp_L_litShare : am_S := fun as n E K => ∃ (b o : Nat) (σ : am_St) (g : Nat → UInt64), as = [.ref b, .ref o] ∧ am_HS b E σ ∧ (o < b ∨ b + 214 ≤ o) ∧ E o = some (.inl (4, 1, .inr (.inr (.inr (.inl g))))) ∧ ∀ (E' : am_E) (g' : Nat → UInt64), am_HS b E' σ → (∀ k, (k < b ∨ b + 214 ≤ k) → k ≠ o → E' k = E k) → E' o = some (.inl (4, 1, .inr (.inr (.inr (.inl g'))))) → K (.inl (some (.int (if am_on σ = 0 then 1 else 0)))) n E'
def rm_L_litShare : Room := { frames := 7, cells := 1, slots := 6, locals := 105 }
theorem rmc_L_litShare : rm_L_litShare.cells = 1 := rfl
theorem rms_L_litShare : rm_L_litShare.slots = 6 := rfl
def sp_X8_litShare : am_S := fun as n E K => ∃ (m : Nat) (σ : am_St) (lm : Nat → Nat) (lk : Nat → Nat → Nat) (lf : Nat → Nat → Bool) (thr : Int32), as = [.ref m] ∧ m + 121 ≤ n ∧ am_MT m E σ lm lk lf thr ∧ am_mpi m n E K (.float FP.fconst0) L_N (q_litShare σ)
def rm_X8_litShare : Room := { frames := 1, cells := 0, slots := 0, locals := 22 }
theorem rmc_X8_litShare : rm_X8_litShare.cells = 0 := rfl
theorem rms_X8_litShare : rm_X8_litShare.slots = 0 := rfl
def sp_L_meanCells : am_S := fun as n E K => ∃ (b o : Nat) (σ : am_St) (g : Nat → UInt64), as = [.ref b, .ref o] ∧ am_HS b E σ ∧ (o < b ∨ b + 214 ≤ o) ∧ E o = some (.inl (4, 1, .inr (.inr (.inr (.inl g))))) ∧ ∀ (E' : am_E) (g' : Nat → UInt64), am_HS b E' σ → (∀ k, (k < b ∨ b + 214 ≤ k) → k ≠ o → E' k = E k) → E' o = some (.inl (4, 1, .inr (.inr (.inr (.inl g'))))) → K (.inl (some (.int (if am_pcs σ = 0 then 1 else 0)))) n E'
def rm_L_meanCells : Room := { frames := 7, cells := 1, slots := 6, locals := 104 }
theorem rmc_L_meanCells : rm_L_meanCells.cells = 1 := rfl
theorem rms_L_meanCells : rm_L_meanCells.slots = 6 := rfl
def sp_X8_meanCells : am_S := fun as n E K => ∃ (m : Nat) (σ : am_St) (lm : Nat → Nat) (lk : Nat → Nat → Nat) (lf : Nat → Nat → Bool) (thr : Int32), as = [.ref m] ∧ m + 121 ≤ n ∧ am_MT m E σ lm lk lf thr ∧ am_mpi m n E K (.double FP.dconst0) L_N (q_meanCells σ)
def rm_X8_meanCells : Room := { frames := 1, cells := 0, slots := 0, locals := 26 }
theorem rmc_X8_meanCells : rm_X8_meanCells.cells = 0 := rfl
theorem rms_X8_meanCells : rm_X8_meanCells.slots = 0 := rfl
def sp_X7_isSound : am_S := fun as n E K => ∃ (b : Nat) (σ : am_St), as = [.ref b] ∧ am_HS b E σ ∧ ∀ (c : Bool) (E' : am_E), am_HS b E' σ → am_kb b 214 E E' → K (.inl (some (.int (if c = true then 1 else 0)))) n E'
def rm_X7_isSound : Room := { frames := 4, cells := 0, slots := 0, locals := 88 }
theorem rmc_X7_isSound : rm_X7_isSound.cells = 0 := rfl
theorem rms_X7_isSound : rm_X7_isSound.slots = 0 := rfl
def sp_X8_isSound : am_S := fun as n E K => ∃ (m : Nat) (σ : am_St) (lm : Nat → Nat) (lk : Nat → Nat → Nat) (lf : Nat → Nat → Bool) (thr : Int32), as = [.ref m] ∧ m + 121 ≤ n ∧ am_MT m E σ lm lk lf thr ∧ am_mpi m n E K (.int 0) L_N (r_i 1 σ)
def rm_X8_isSound : Room := { frames := 0, cells := 0, slots := 0, locals := 0 }
theorem rmc_X8_isSound : rm_X8_isSound.cells = 0 := rfl
theorem rms_X8_isSound : rm_X8_isSound.slots = 0 := rfl
def room_T : Room := { frames := 2048, cells := 601024, slots := 7293034, locals := 84000 }
abbrev rm_L_law : Room := room_T
theorem rmc_L_law : rm_L_law.cells = 601024 := rfl
theorem rms_L_law : rm_L_law.slots = 7293034 := rfl
def o_lend : am_C := fun ls st n E ca sl => st = [.int 1]
set_option maxRecDepth 100000
def bk_L_law_0 (L : Nat) (xs : Nat → Int32) (G : Nat → am_C) : am_C := o_new 7 [.null, .null, .null, .null, .int 0, .int 0, .int 0, .int 0, .int 0, .int 0, .int 0, .null, .null, .null, .null, .null] rm_L_law.cells rm_L_law.slots <| o_dup <| o_callV 7 1 sp_X7_init rm_X7_init rm_L_law (fun _ _ _ _ _ _ => False) <| o_astore 1 <| o_new 8 [.null, .null, .null, .null, .null, .null, .null, .null, .null, .null, .null, .null, .null, .null, .int 0, .int 0, .int 0, .int 0, .int 0, .int 0, .long 0, .int 0] rm_L_law.cells rm_L_law.slots <| o_dup <| o_callV 8 1 sp_X8_init rm_X8_init rm_L_law (fun _ _ _ _ _ _ => False) <| o_astore 2 <| o_pi 1 <| o_newa 1 rm_L_law.cells rm_L_law.slots <| o_astore 3 <| o_pi 1 <| o_newa 4 rm_L_law.cells rm_L_law.slots <| o_astore 4 <| o_pi 0 <| o_istore 5 <| (G 28)
def bk_L_law_28 (L : Nat) (xs : Nat → Int32) (G : Nat → am_C) : am_C := o_iload 5 <| o_aload 0 <| o_slen L <| o_pi 6 <| o_ib (fun x y => x - y) <| o_ic_gt (o_pi 1 <| o_lend) (o_aload 0 <| o_iload 5 <| o_sld L xs <| o_pi 63 <| o_ib (fun x y => x &&& y) <| o_tsw 1600 [232, 324, 400, 440, 468, 496, 524, 552, 580, 593, 606, 672, 700, 754, 822, 850, 878, 920, 960, 1002, 1030, 1043, 1059, 1075, 1091, 1104, 1160, 1188, 1244, 1257, 1270, 1298, 1350, 1390, 1418, 1458, 1486, 1499, 1527, 1540, 1553, 1570, 1587] G)
def bk_L_law_232 (L : Nat) (xs : Nat → Int32) (G : Nat → am_C) : am_C := o_aload 1 <| o_aload 0 <| o_iload 5 <| o_pi 1 <| o_ib (fun x y => x + y) <| o_sld L xs <| o_aload 0 <| o_iload 5 <| o_pi 2 <| o_ib (fun x y => x + y) <| o_sld L xs <| o_aload 0 <| o_iload 5 <| o_pi 3 <| o_ib (fun x y => x + y) <| o_sld L xs <| o_aload 0 <| o_iload 5 <| o_pi 4 <| o_ib (fun x y => x + y) <| o_sld L xs <| o_aload 0 <| o_iload 5 <| o_pi 5 <| o_ib (fun x y => x + y) <| o_sld L xs <| o_if_eq (o_pi 0 <| o_aload 3 <| o_call 7 sp_L_open rm_L_open rm_L_law (fun _ _ _ _ _ _ => False) <| o_istore 6 <| o_aload 2 <| o_aload 0 <| o_iload 5 <| o_pi 1 <| o_ib (fun x y => x + y) <| o_sld L xs <| o_aload 0 <| o_iload 5 <| o_pi 2 <| o_ib (fun x y => x + y) <| o_sld L xs <| o_aload 0 <| o_iload 5 <| o_pi 3 <| o_ib (fun x y => x + y) <| o_sld L xs <| o_aload 0 <| o_iload 5 <| o_pi 4 <| o_ib (fun x y => x + y) <| o_sld L xs <| o_aload 0 <| o_iload 5 <| o_pi 5 <| o_ib (fun x y => x + y) <| o_sld L xs <| o_if_eq (o_pi 0 <| o_callV 8 6 sp_X8_open rm_X8_open rm_L_law (fun _ _ _ _ _ _ => False) <| o_istore 7 <| (G 1600)) (o_pi 1 <| o_callV 8 6 sp_X8_open rm_X8_open rm_L_law (fun _ _ _ _ _ _ => False) <| o_istore 7 <| (G 1600))) (o_pi 1 <| o_aload 3 <| o_call 7 sp_L_open rm_L_open rm_L_law (fun _ _ _ _ _ _ => False) <| o_istore 6 <| o_aload 2 <| o_aload 0 <| o_iload 5 <| o_pi 1 <| o_ib (fun x y => x + y) <| o_sld L xs <| o_aload 0 <| o_iload 5 <| o_pi 2 <| o_ib (fun x y => x + y) <| o_sld L xs <| o_aload 0 <| o_iload 5 <| o_pi 3 <| o_ib (fun x y => x + y) <| o_sld L xs <| o_aload 0 <| o_iload 5 <| o_pi 4 <| o_ib (fun x y => x + y) <| o_sld L xs <| o_aload 0 <| o_iload 5 <| o_pi 5 <| o_ib (fun x y => x + y) <| o_sld L xs <| o_if_eq (o_pi 0 <| o_callV 8 6 sp_X8_open rm_X8_open rm_L_law (fun _ _ _ _ _ _ => False) <| o_istore 7 <| (G 1600)) (o_pi 1 <| o_callV 8 6 sp_X8_open rm_X8_open rm_L_law (fun _ _ _ _ _ _ => False) <| o_istore 7 <| (G 1600)))
def bk_L_law_324 (L : Nat) (xs : Nat → Int32) (G : Nat → am_C) : am_C := o_aload 1 <| o_aload 0 <| o_iload 5 <| o_pi 1 <| o_ib (fun x y => x + y) <| o_sld L xs <| o_aload 0 <| o_iload 5 <| o_pi 2 <| o_ib (fun x y => x + y) <| o_sld L xs <| o_aload 0 <| o_iload 5 <| o_pi 3 <| o_ib (fun x y => x + y) <| o_sld L xs <| o_aload 0 <| o_iload 5 <| o_pi 4 <| o_ib (fun x y => x + y) <| o_sld L xs <| o_aload 0 <| o_iload 5 <| o_pi 5 <| o_ib (fun x y => x + y) <| o_sld L xs <| o_aload 3 <| o_call 7 sp_L_lay rm_L_lay rm_L_law (fun _ _ _ _ _ _ => False) <| o_istore 6 <| o_aload 2 <| o_aload 0 <| o_iload 5 <| o_pi 1 <| o_ib (fun x y => x + y) <| o_sld L xs <| o_aload 0 <| o_iload 5 <| o_pi 2 <| o_ib (fun x y => x + y) <| o_sld L xs <| o_aload 0 <| o_iload 5 <| o_pi 3 <| o_ib (fun x y => x + y) <| o_sld L xs <| o_aload 0 <| o_iload 5 <| o_pi 4 <| o_ib (fun x y => x + y) <| o_sld L xs <| o_aload 0 <| o_iload 5 <| o_pi 5 <| o_ib (fun x y => x + y) <| o_sld L xs <| o_callV 8 6 sp_X8_lay rm_X8_lay rm_L_law (fun _ _ _ _ _ _ => False) <| o_istore 7 <| (G 1600)
def bk_L_law_400 (L : Nat) (xs : Nat → Int32) (G : Nat → am_C) : am_C := o_aload 1 <| o_aload 0 <| o_iload 5 <| o_pi 1 <| o_ib (fun x y => x + y) <| o_sld L xs <| o_aload 0 <| o_iload 5 <| o_pi 2 <| o_ib (fun x y => x + y) <| o_sld L xs <| o_aload 3 <| o_call 4 sp_L_pieceAt rm_L_pieceAt rm_L_law (fun _ _ _ _ _ _ => False) <| o_istore 6 <| o_aload 2 <| o_aload 0 <| o_iload 5 <| o_pi 1 <| o_ib (fun x y => x + y) <| o_sld L xs <| o_aload 0 <| o_iload 5 <| o_pi 2 <| o_ib (fun x y => x + y) <| o_sld L xs <| o_callV 8 3 sp_X8_pieceAt rm_X8_pieceAt rm_L_law (fun _ _ _ _ _ _ => False) <| o_istore 7 <| (G 1600)
def bk_L_law_440 (L : Nat) (xs : Nat → Int32) (G : Nat → am_C) : am_C := o_aload 1 <| o_aload 0 <| o_iload 5 <| o_pi 1 <| o_ib (fun x y => x + y) <| o_sld L xs <| o_aload 3 <| o_call 3 sp_L_size rm_L_size rm_L_law (fun _ _ _ _ _ _ => False) <| o_istore 6 <| o_aload 2 <| o_aload 0 <| o_iload 5 <| o_pi 1 <| o_ib (fun x y => x + y) <| o_sld L xs <| o_callV 8 2 sp_X8_size rm_X8_size rm_L_law (fun _ _ _ _ _ _ => False) <| o_istore 7 <| (G 1600)
def bk_L_law_468 (L : Nat) (xs : Nat → Int32) (G : Nat → am_C) : am_C := o_aload 1 <| o_aload 0 <| o_iload 5 <| o_pi 1 <| o_ib (fun x y => x + y) <| o_sld L xs <| o_aload 3 <| o_call 3 sp_L_corners rm_L_corners rm_L_law (fun _ _ _ _ _ _ => False) <| o_istore 6 <| o_aload 2 <| o_aload 0 <| o_iload 5 <| o_pi 1 <| o_ib (fun x y => x + y) <| o_sld L xs <| o_callV 8 2 sp_X8_corners rm_X8_corners rm_L_law (fun _ _ _ _ _ _ => False) <| o_istore 7 <| (G 1600)
def bk_L_law_496 (L : Nat) (xs : Nat → Int32) (G : Nat → am_C) : am_C := o_aload 1 <| o_aload 0 <| o_iload 5 <| o_pi 1 <| o_ib (fun x y => x + y) <| o_sld L xs <| o_aload 3 <| o_call 3 sp_L_point rm_L_point rm_L_law (fun _ _ _ _ _ _ => False) <| o_istore 6 <| o_aload 2 <| o_aload 0 <| o_iload 5 <| o_pi 1 <| o_ib (fun x y => x + y) <| o_sld L xs <| o_callV 8 2 sp_X8_point rm_X8_point rm_L_law (fun _ _ _ _ _ _ => False) <| o_istore 7 <| (G 1600)
def bk_L_law_524 (L : Nat) (xs : Nat → Int32) (G : Nat → am_C) : am_C := o_aload 1 <| o_aload 0 <| o_iload 5 <| o_pi 1 <| o_ib (fun x y => x + y) <| o_sld L xs <| o_aload 3 <| o_call 3 sp_L_hinders rm_L_hinders rm_L_law (fun _ _ _ _ _ _ => False) <| o_istore 6 <| o_aload 2 <| o_aload 0 <| o_iload 5 <| o_pi 1 <| o_ib (fun x y => x + y) <| o_sld L xs <| o_callV 8 2 sp_X8_hinders rm_X8_hinders rm_L_law (fun _ _ _ _ _ _ => False) <| o_istore 7 <| (G 1600)
def bk_L_law_552 (L : Nat) (xs : Nat → Int32) (G : Nat → am_C) : am_C := o_aload 1 <| o_aload 0 <| o_iload 5 <| o_pi 1 <| o_ib (fun x y => x + y) <| o_sld L xs <| o_aload 3 <| o_call 3 sp_L_split rm_L_split rm_L_law (fun _ _ _ _ _ _ => False) <| o_istore 6 <| o_aload 2 <| o_aload 0 <| o_iload 5 <| o_pi 1 <| o_ib (fun x y => x + y) <| o_sld L xs <| o_callV 8 2 sp_X8_split rm_X8_split rm_L_law (fun _ _ _ _ _ _ => False) <| o_istore 7 <| (G 1600)
def bk_L_law_580 (L : Nat) (xs : Nat → Int32) (G : Nat → am_C) : am_C := o_aload 1 <| o_callV 7 1 sp_X7_lead rm_X7_lead rm_L_law (fun _ _ _ _ _ _ => False) <| o_pop <| o_aload 2 <| o_callV 8 1 sp_X8_lead rm_X8_lead rm_L_law (fun _ _ _ _ _ _ => False) <| o_pop <| (G 1600)
def bk_L_law_593 (L : Nat) (xs : Nat → Int32) (G : Nat → am_C) : am_C := o_aload 1 <| o_callV 7 1 sp_X7_joints rm_X7_joints rm_L_law (fun _ _ _ _ _ _ => False) <| o_pop <| o_aload 2 <| o_callV 8 1 sp_X8_joints rm_X8_joints rm_L_law (fun _ _ _ _ _ _ => False) <| o_pop <| (G 1600)
def bk_L_law_606 (L : Nat) (xs : Nat → Int32) (G : Nat → am_C) : am_C := o_aload 1 <| o_aload 0 <| o_iload 5 <| o_pi 1 <| o_ib (fun x y => x + y) <| o_sld L xs <| o_aload 0 <| o_iload 5 <| o_pi 2 <| o_ib (fun x y => x + y) <| o_sld L xs <| o_aload 0 <| o_iload 5 <| o_pi 3 <| o_ib (fun x y => x + y) <| o_sld L xs <| o_aload 0 <| o_iload 5 <| o_pi 4 <| o_ib (fun x y => x + y) <| o_sld L xs <| o_i2c <| o_aload 3 <| o_call 6 sp_L_sheet rm_L_sheet rm_L_law (fun _ _ _ _ _ _ => False) <| o_istore 6 <| o_aload 2 <| o_aload 0 <| o_iload 5 <| o_pi 1 <| o_ib (fun x y => x + y) <| o_sld L xs <| o_aload 0 <| o_iload 5 <| o_pi 2 <| o_ib (fun x y => x + y) <| o_sld L xs <| o_aload 0 <| o_iload 5 <| o_pi 3 <| o_ib (fun x y => x + y) <| o_sld L xs <| o_aload 0 <| o_iload 5 <| o_pi 4 <| o_ib (fun x y => x + y) <| o_sld L xs <| o_i2c <| o_callV 8 5 sp_X8_sheet rm_X8_sheet rm_L_law (fun _ _ _ _ _ _ => False) <| o_istore 7 <| (G 1600)
def bk_L_law_672 (L : Nat) (xs : Nat → Int32) (G : Nat → am_C) : am_C := o_aload 1 <| o_aload 0 <| o_iload 5 <| o_pi 1 <| o_ib (fun x y => x + y) <| o_sld L xs <| o_aload 3 <| o_call 3 sp_L_free rm_L_free rm_L_law (fun _ _ _ _ _ _ => False) <| o_istore 6 <| o_aload 2 <| o_aload 0 <| o_iload 5 <| o_pi 1 <| o_ib (fun x y => x + y) <| o_sld L xs <| o_callV 8 2 sp_X8_free rm_X8_free rm_L_law (fun _ _ _ _ _ _ => False) <| o_istore 7 <| (G 1600)
def bk_L_law_700 (L : Nat) (xs : Nat → Int32) (G : Nat → am_C) : am_C := o_aload 1 <| o_aload 0 <| o_iload 5 <| o_pi 1 <| o_ib (fun x y => x + y) <| o_sld L xs <| o_aload 0 <| o_iload 5 <| o_pi 2 <| o_ib (fun x y => x + y) <| o_sld L xs <| o_aload 0 <| o_iload 5 <| o_pi 3 <| o_ib (fun x y => x + y) <| o_sld L xs <| o_i2c <| o_aload 3 <| o_call 5 sp_L_want rm_L_want rm_L_law (fun _ _ _ _ _ _ => False) <| o_istore 6 <| o_aload 2 <| o_aload 0 <| o_iload 5 <| o_pi 1 <| o_ib (fun x y => x + y) <| o_sld L xs <| o_aload 0 <| o_iload 5 <| o_pi 2 <| o_ib (fun x y => x + y) <| o_sld L xs <| o_aload 0 <| o_iload 5 <| o_pi 3 <| o_ib (fun x y => x + y) <| o_sld L xs <| o_i2c <| o_callV 8 4 sp_X8_want rm_X8_want rm_L_law (fun _ _ _ _ _ _ => False) <| o_istore 7 <| (G 1600)
def bk_L_law_754 (L : Nat) (xs : Nat → Int32) (G : Nat → am_C) : am_C := o_aload 1 <| o_aload 0 <| o_iload 5 <| o_pi 1 <| o_ib (fun x y => x + y) <| o_sld L xs <| o_aload 0 <| o_iload 5 <| o_pi 2 <| o_ib (fun x y => x + y) <| o_sld L xs <| o_aload 0 <| o_iload 5 <| o_pi 3 <| o_ib (fun x y => x + y) <| o_sld L xs <| o_if_eq (o_pi 0 <| o_aload 3 <| o_call 5 sp_L_cut rm_L_cut rm_L_law (fun _ _ _ _ _ _ => False) <| o_istore 6 <| o_aload 2 <| o_aload 0 <| o_iload 5 <| o_pi 1 <| o_ib (fun x y => x + y) <| o_sld L xs <| o_aload 0 <| o_iload 5 <| o_pi 2 <| o_ib (fun x y => x + y) <| o_sld L xs <| o_aload 0 <| o_iload 5 <| o_pi 3 <| o_ib (fun x y => x + y) <| o_sld L xs <| o_if_eq (o_pi 0 <| o_callV 8 4 sp_X8_cut rm_X8_cut rm_L_law (fun _ _ _ _ _ _ => False) <| o_istore 7 <| (G 1600)) (o_pi 1 <| o_callV 8 4 sp_X8_cut rm_X8_cut rm_L_law (fun _ _ _ _ _ _ => False) <| o_istore 7 <| (G 1600))) (o_pi 1 <| o_aload 3 <| o_call 5 sp_L_cut rm_L_cut rm_L_law (fun _ _ _ _ _ _ => False) <| o_istore 6 <| o_aload 2 <| o_aload 0 <| o_iload 5 <| o_pi 1 <| o_ib (fun x y => x + y) <| o_sld L xs <| o_aload 0 <| o_iload 5 <| o_pi 2 <| o_ib (fun x y => x + y) <| o_sld L xs <| o_aload 0 <| o_iload 5 <| o_pi 3 <| o_ib (fun x y => x + y) <| o_sld L xs <| o_if_eq (o_pi 0 <| o_callV 8 4 sp_X8_cut rm_X8_cut rm_L_law (fun _ _ _ _ _ _ => False) <| o_istore 7 <| (G 1600)) (o_pi 1 <| o_callV 8 4 sp_X8_cut rm_X8_cut rm_L_law (fun _ _ _ _ _ _ => False) <| o_istore 7 <| (G 1600)))
def bk_L_law_822 (L : Nat) (xs : Nat → Int32) (G : Nat → am_C) : am_C := o_aload 1 <| o_aload 0 <| o_iload 5 <| o_pi 1 <| o_ib (fun x y => x + y) <| o_sld L xs <| o_aload 3 <| o_call 3 sp_L_glass rm_L_glass rm_L_law (fun _ _ _ _ _ _ => False) <| o_istore 6 <| o_aload 2 <| o_aload 0 <| o_iload 5 <| o_pi 1 <| o_ib (fun x y => x + y) <| o_sld L xs <| o_callV 8 2 sp_X8_glass rm_X8_glass rm_L_law (fun _ _ _ _ _ _ => False) <| o_istore 7 <| (G 1600)
def bk_L_law_850 (L : Nat) (xs : Nat → Int32) (G : Nat → am_C) : am_C := o_aload 1 <| o_aload 0 <| o_iload 5 <| o_pi 1 <| o_ib (fun x y => x + y) <| o_sld L xs <| o_aload 3 <| o_call 3 sp_L_colour rm_L_colour rm_L_law (fun _ _ _ _ _ _ => False) <| o_istore 6 <| o_aload 2 <| o_aload 0 <| o_iload 5 <| o_pi 1 <| o_ib (fun x y => x + y) <| o_sld L xs <| o_callV 8 2 sp_X8_colour rm_X8_colour rm_L_law (fun _ _ _ _ _ _ => False) <| o_istore 7 <| (G 1600)
def bk_L_law_878 (L : Nat) (xs : Nat → Int32) (G : Nat → am_C) : am_C := o_aload 1 <| o_aload 0 <| o_iload 5 <| o_pi 1 <| o_ib (fun x y => x + y) <| o_sld L xs <| o_aload 0 <| o_iload 5 <| o_pi 2 <| o_ib (fun x y => x + y) <| o_sld L xs <| o_i2c <| o_aload 3 <| o_call 4 sp_L_paint rm_L_paint rm_L_law (fun _ _ _ _ _ _ => False) <| o_istore 6 <| o_aload 2 <| o_aload 0 <| o_iload 5 <| o_pi 1 <| o_ib (fun x y => x + y) <| o_sld L xs <| o_aload 0 <| o_iload 5 <| o_pi 2 <| o_ib (fun x y => x + y) <| o_sld L xs <| o_i2c <| o_callV 8 3 sp_X8_paint rm_X8_paint rm_L_law (fun _ _ _ _ _ _ => False) <| o_istore 7 <| (G 1600)
def bk_L_law_920 (L : Nat) (xs : Nat → Int32) (G : Nat → am_C) : am_C := o_aload 1 <| o_aload 0 <| o_iload 5 <| o_pi 1 <| o_ib (fun x y => x + y) <| o_sld L xs <| o_aload 0 <| o_iload 5 <| o_pi 2 <| o_ib (fun x y => x + y) <| o_sld L xs <| o_aload 3 <| o_call 4 sp_L_fire rm_L_fire rm_L_law (fun _ _ _ _ _ _ => False) <| o_istore 6 <| o_aload 2 <| o_aload 0 <| o_iload 5 <| o_pi 1 <| o_ib (fun x y => x + y) <| o_sld L xs <| o_aload 0 <| o_iload 5 <| o_pi 2 <| o_ib (fun x y => x + y) <| o_sld L xs <| o_callV 8 3 sp_X8_fire rm_X8_fire rm_L_law (fun _ _ _ _ _ _ => False) <| o_istore 7 <| (G 1600)
def bk_L_law_960 (L : Nat) (xs : Nat → Int32) (G : Nat → am_C) : am_C := o_aload 1 <| o_aload 0 <| o_iload 5 <| o_pi 1 <| o_ib (fun x y => x + y) <| o_sld L xs <| o_aload 0 <| o_iload 5 <| o_pi 2 <| o_ib (fun x y => x + y) <| o_sld L xs <| o_i2c <| o_aload 3 <| o_call 4 sp_L_layers rm_L_layers rm_L_law (fun _ _ _ _ _ _ => False) <| o_istore 6 <| o_aload 2 <| o_aload 0 <| o_iload 5 <| o_pi 1 <| o_ib (fun x y => x + y) <| o_sld L xs <| o_aload 0 <| o_iload 5 <| o_pi 2 <| o_ib (fun x y => x + y) <| o_sld L xs <| o_i2c <| o_callV 8 3 sp_X8_layers rm_X8_layers rm_L_law (fun _ _ _ _ _ _ => False) <| o_istore 7 <| (G 1600)
def bk_L_law_1002 (L : Nat) (xs : Nat → Int32) (G : Nat → am_C) : am_C := o_aload 1 <| o_aload 0 <| o_iload 5 <| o_pi 1 <| o_ib (fun x y => x + y) <| o_sld L xs <| o_aload 3 <| o_call 3 sp_L_seed rm_L_seed rm_L_law (fun _ _ _ _ _ _ => False) <| o_istore 6 <| o_aload 2 <| o_aload 0 <| o_iload 5 <| o_pi 1 <| o_ib (fun x y => x + y) <| o_sld L xs <| o_callV 8 2 sp_X8_seed rm_X8_seed rm_L_law (fun _ _ _ _ _ _ => False) <| o_istore 7 <| (G 1600)
def bk_L_law_1030 (L : Nat) (xs : Nat → Int32) (G : Nat → am_C) : am_C := o_aload 1 <| o_callV 7 1 sp_X7_isOrderly rm_X7_isOrderly rm_L_law (fun _ _ _ _ _ _ => False) <| o_pop <| o_aload 2 <| o_callV 8 1 sp_X8_isOrderly rm_X8_isOrderly rm_L_law (fun _ _ _ _ _ _ => False) <| o_pop <| (G 1600)
def bk_L_law_1043 (L : Nat) (xs : Nat → Int32) (G : Nat → am_C) : am_C := o_aload 1 <| o_aload 3 <| o_call 2 sp_L_next rm_L_next rm_L_law (fun _ _ _ _ _ _ => False) <| o_istore 6 <| o_aload 2 <| o_callV 8 1 sp_X8_next rm_X8_next rm_L_law (fun _ _ _ _ _ _ => False) <| o_istore 7 <| (G 1600)
def bk_L_law_1059 (L : Nat) (xs : Nat → Int32) (G : Nat → am_C) : am_C := o_aload 1 <| o_aload 3 <| o_call 2 sp_L_comes rm_L_comes rm_L_law (fun _ _ _ _ _ _ => False) <| o_istore 6 <| o_aload 2 <| o_callV 8 1 sp_X8_comes rm_X8_comes rm_L_law (fun _ _ _ _ _ _ => False) <| o_istore 7 <| (G 1600)
def bk_L_law_1075 (L : Nat) (xs : Nat → Int32) (G : Nat → am_C) : am_C := o_aload 1 <| o_aload 3 <| o_call 2 sp_L_solder rm_L_solder rm_L_law (fun _ _ _ _ _ _ => False) <| o_istore 6 <| o_aload 2 <| o_callV 8 1 sp_X8_solder rm_X8_solder rm_L_law (fun _ _ _ _ _ _ => False) <| o_istore 7 <| (G 1600)
def bk_L_law_1091 (L : Nat) (xs : Nat → Int32) (G : Nat → am_C) : am_C := o_aload 1 <| o_callV 7 1 sp_X7_isUp rm_X7_isUp rm_L_law (fun _ _ _ _ _ _ => False) <| o_pop <| o_aload 2 <| o_callV 8 1 sp_X8_isUp rm_X8_isUp rm_L_law (fun _ _ _ _ _ _ => False) <| o_pop <| (G 1600)
def bk_L_law_1104 (L : Nat) (xs : Nat → Int32) (G : Nat → am_C) : am_C := o_aload 1 <| o_aload 0 <| o_iload 5 <| o_pi 1 <| o_ib (fun x y => x + y) <| o_sld L xs <| o_aload 0 <| o_iload 5 <| o_pi 2 <| o_ib (fun x y => x + y) <| o_sld L xs <| o_if_eq (o_pi 0 <| o_aload 3 <| o_call 4 sp_L_bar rm_L_bar rm_L_law (fun _ _ _ _ _ _ => False) <| o_istore 6 <| o_aload 2 <| o_aload 0 <| o_iload 5 <| o_pi 1 <| o_ib (fun x y => x + y) <| o_sld L xs <| o_aload 0 <| o_iload 5 <| o_pi 2 <| o_ib (fun x y => x + y) <| o_sld L xs <| o_if_eq (o_pi 0 <| o_callV 8 3 sp_X8_bar rm_X8_bar rm_L_law (fun _ _ _ _ _ _ => False) <| o_istore 7 <| (G 1600)) (o_pi 1 <| o_callV 8 3 sp_X8_bar rm_X8_bar rm_L_law (fun _ _ _ _ _ _ => False) <| o_istore 7 <| (G 1600))) (o_pi 1 <| o_aload 3 <| o_call 4 sp_L_bar rm_L_bar rm_L_law (fun _ _ _ _ _ _ => False) <| o_istore 6 <| o_aload 2 <| o_aload 0 <| o_iload 5 <| o_pi 1 <| o_ib (fun x y => x + y) <| o_sld L xs <| o_aload 0 <| o_iload 5 <| o_pi 2 <| o_ib (fun x y => x + y) <| o_sld L xs <| o_if_eq (o_pi 0 <| o_callV 8 3 sp_X8_bar rm_X8_bar rm_L_law (fun _ _ _ _ _ _ => False) <| o_istore 7 <| (G 1600)) (o_pi 1 <| o_callV 8 3 sp_X8_bar rm_X8_bar rm_L_law (fun _ _ _ _ _ _ => False) <| o_istore 7 <| (G 1600)))
def bk_L_law_1160 (L : Nat) (xs : Nat → Int32) (G : Nat → am_C) : am_C := o_aload 1 <| o_aload 0 <| o_iload 5 <| o_pi 1 <| o_ib (fun x y => x + y) <| o_sld L xs <| o_aload 3 <| o_call 3 sp_L_profile rm_L_profile rm_L_law (fun _ _ _ _ _ _ => False) <| o_istore 6 <| o_aload 2 <| o_aload 0 <| o_iload 5 <| o_pi 1 <| o_ib (fun x y => x + y) <| o_sld L xs <| o_callV 8 2 sp_X8_profile rm_X8_profile rm_L_law (fun _ _ _ _ _ _ => False) <| o_istore 7 <| (G 1600)
def bk_L_law_1188 (L : Nat) (xs : Nat → Int32) (G : Nat → am_C) : am_C := o_aload 1 <| o_aload 0 <| o_iload 5 <| o_pi 1 <| o_ib (fun x y => x + y) <| o_sld L xs <| o_aload 3 <| o_call 3 sp_L_wind rm_L_wind rm_L_law (fun _ _ _ _ _ _ => False) <| o_istore 6 <| o_aload 2 <| o_aload 0 <| o_iload 5 <| o_pi 1 <| o_ib (fun x y => x + y) <| o_sld L xs <| o_callV 8 2 sp_X8_wind rm_X8_wind rm_L_law (fun _ _ _ _ _ _ => False) <| o_istore 7 <| o_aload 2 <| o_callV 8 1 sp_X8_thrown rm_X8_thrown rm_L_law (fun _ _ _ _ _ _ => False) <| o_iload 6 <| o_ic_eq (o_iload 6 <| o_if_ne ((G 1600)) (o_aload 3 <| o_pi 0 <| o_lld <| o_iload 7 <| o_i2l <| o_lcmp <| o_if_eq ((G 1600)) (o_pi 0 <| o_lend))) (o_pi 0 <| o_lend)
def bk_L_law_1244 (L : Nat) (xs : Nat → Int32) (G : Nat → am_C) : am_C := o_aload 1 <| o_callV 7 1 sp_X7_bears rm_X7_bears rm_L_law (fun _ _ _ _ _ _ => False) <| o_pop <| o_aload 2 <| o_callV 8 1 sp_X8_bears rm_X8_bears rm_L_law (fun _ _ _ _ _ _ => False) <| o_pop <| (G 1600)
def bk_L_law_1257 (L : Nat) (xs : Nat → Int32) (G : Nat → am_C) : am_C := o_aload 1 <| o_callV 7 1 sp_X7_stands rm_X7_stands rm_L_law (fun _ _ _ _ _ _ => False) <| o_pop <| o_aload 2 <| o_callV 8 1 sp_X8_stands rm_X8_stands rm_L_law (fun _ _ _ _ _ _ => False) <| o_pop <| (G 1600)
def bk_L_law_1270 (L : Nat) (xs : Nat → Int32) (G : Nat → am_C) : am_C := o_aload 1 <| o_aload 0 <| o_iload 5 <| o_pi 1 <| o_ib (fun x y => x + y) <| o_sld L xs <| o_aload 3 <| o_call 3 sp_L_years rm_L_years rm_L_law (fun _ _ _ _ _ _ => False) <| o_istore 6 <| o_aload 2 <| o_aload 0 <| o_iload 5 <| o_pi 1 <| o_ib (fun x y => x + y) <| o_sld L xs <| o_callV 8 2 sp_X8_years rm_X8_years rm_L_law (fun _ _ _ _ _ _ => False) <| o_istore 7 <| (G 1600)
def bk_L_law_1298 (L : Nat) (xs : Nat → Int32) (G : Nat → am_C) : am_C := o_aload 1 <| o_aload 0 <| o_iload 5 <| o_pi 1 <| o_ib (fun x y => x + y) <| o_sld L xs <| o_aload 0 <| o_iload 5 <| o_pi 2 <| o_ib (fun x y => x + y) <| o_sld L xs <| o_aload 0 <| o_iload 5 <| o_pi 3 <| o_ib (fun x y => x + y) <| o_sld L xs <| o_aload 3 <| o_call 5 sp_L_looks rm_L_looks rm_L_law (fun _ _ _ _ _ _ => False) <| o_istore 6 <| o_aload 2 <| o_aload 0 <| o_iload 5 <| o_pi 1 <| o_ib (fun x y => x + y) <| o_sld L xs <| o_aload 0 <| o_iload 5 <| o_pi 2 <| o_ib (fun x y => x + y) <| o_sld L xs <| o_aload 0 <| o_iload 5 <| o_pi 3 <| o_ib (fun x y => x + y) <| o_sld L xs <| o_callV 8 4 sp_X8_looks rm_X8_looks rm_L_law (fun _ _ _ _ _ _ => False) <| o_istore 7 <| (G 1600)
def bk_L_law_1350 (L : Nat) (xs : Nat → Int32) (G : Nat → am_C) : am_C := o_aload 1 <| o_aload 0 <| o_iload 5 <| o_pi 1 <| o_ib (fun x y => x + y) <| o_sld L xs <| o_aload 0 <| o_iload 5 <| o_pi 2 <| o_ib (fun x y => x + y) <| o_sld L xs <| o_aload 3 <| o_call 4 sp_L_hit rm_L_hit rm_L_law (fun _ _ _ _ _ _ => False) <| o_istore 6 <| o_aload 2 <| o_aload 0 <| o_iload 5 <| o_pi 1 <| o_ib (fun x y => x + y) <| o_sld L xs <| o_aload 0 <| o_iload 5 <| o_pi 2 <| o_ib (fun x y => x + y) <| o_sld L xs <| o_callV 8 3 sp_X8_hit rm_X8_hit rm_L_law (fun _ _ _ _ _ _ => False) <| o_istore 7 <| (G 1600)
def bk_L_law_1390 (L : Nat) (xs : Nat → Int32) (G : Nat → am_C) : am_C := o_aload 1 <| o_aload 0 <| o_iload 5 <| o_pi 1 <| o_ib (fun x y => x + y) <| o_sld L xs <| o_aload 3 <| o_call 3 sp_L_mend rm_L_mend rm_L_law (fun _ _ _ _ _ _ => False) <| o_istore 6 <| o_aload 2 <| o_aload 0 <| o_iload 5 <| o_pi 1 <| o_ib (fun x y => x + y) <| o_sld L xs <| o_callV 8 2 sp_X8_mend rm_X8_mend rm_L_law (fun _ _ _ _ _ _ => False) <| o_istore 7 <| (G 1600)
def bk_L_law_1418 (L : Nat) (xs : Nat → Int32) (G : Nat → am_C) : am_C := o_aload 1 <| o_aload 0 <| o_iload 5 <| o_pi 1 <| o_ib (fun x y => x + y) <| o_sld L xs <| o_aload 0 <| o_iload 5 <| o_pi 2 <| o_ib (fun x y => x + y) <| o_sld L xs <| o_aload 3 <| o_call 4 sp_L_stopgap rm_L_stopgap rm_L_law (fun _ _ _ _ _ _ => False) <| o_istore 6 <| o_aload 2 <| o_aload 0 <| o_iload 5 <| o_pi 1 <| o_ib (fun x y => x + y) <| o_sld L xs <| o_aload 0 <| o_iload 5 <| o_pi 2 <| o_ib (fun x y => x + y) <| o_sld L xs <| o_callV 8 3 sp_X8_stopgap rm_X8_stopgap rm_L_law (fun _ _ _ _ _ _ => False) <| o_istore 7 <| (G 1600)
def bk_L_law_1458 (L : Nat) (xs : Nat → Int32) (G : Nat → am_C) : am_C := o_aload 1 <| o_aload 0 <| o_iload 5 <| o_pi 1 <| o_ib (fun x y => x + y) <| o_sld L xs <| o_aload 3 <| o_call 3 sp_L_year rm_L_year rm_L_law (fun _ _ _ _ _ _ => False) <| o_istore 6 <| o_aload 2 <| o_aload 0 <| o_iload 5 <| o_pi 1 <| o_ib (fun x y => x + y) <| o_sld L xs <| o_callV 8 2 sp_X8_year rm_X8_year rm_L_law (fun _ _ _ _ _ _ => False) <| o_istore 7 <| (G 1600)
def bk_L_law_1486 (L : Nat) (xs : Nat → Int32) (G : Nat → am_C) : am_C := o_aload 1 <| o_callV 7 1 sp_X7_hands rm_X7_hands rm_L_law (fun _ _ _ _ _ _ => False) <| o_pop <| o_aload 2 <| o_callV 8 1 sp_X8_hands rm_X8_hands rm_L_law (fun _ _ _ _ _ _ => False) <| o_pop <| (G 1600)
def bk_L_law_1499 (L : Nat) (xs : Nat → Int32) (G : Nat → am_C) : am_C := o_aload 1 <| o_aload 0 <| o_iload 5 <| o_pi 1 <| o_ib (fun x y => x + y) <| o_sld L xs <| o_aload 3 <| o_call 3 sp_L_fits rm_L_fits rm_L_law (fun _ _ _ _ _ _ => False) <| o_istore 6 <| o_aload 2 <| o_aload 0 <| o_iload 5 <| o_pi 1 <| o_ib (fun x y => x + y) <| o_sld L xs <| o_callV 8 2 sp_X8_fits rm_X8_fits rm_L_law (fun _ _ _ _ _ _ => False) <| o_istore 7 <| (G 1600)
def bk_L_law_1527 (L : Nat) (xs : Nat → Int32) (G : Nat → am_C) : am_C := o_aload 1 <| o_callV 7 1 sp_X7_price rm_X7_price rm_L_law (fun _ _ _ _ _ _ => False) <| o_pop <| o_aload 2 <| o_callV 8 1 sp_X8_price rm_X8_price rm_L_law (fun _ _ _ _ _ _ => False) <| o_pop <| (G 1600)
def bk_L_law_1540 (L : Nat) (xs : Nat → Int32) (G : Nat → am_C) : am_C := o_aload 1 <| o_callV 7 1 sp_X7_checksum rm_X7_checksum rm_L_law (fun _ _ _ _ _ _ => False) <| o_pop2 <| o_aload 2 <| o_callV 8 1 sp_X8_checksum rm_X8_checksum rm_L_law (fun _ _ _ _ _ _ => False) <| o_pop2 <| (G 1600)
def bk_L_law_1553 (L : Nat) (xs : Nat → Int32) (G : Nat → am_C) : am_C := o_aload 1 <| o_aload 4 <| o_call 2 sp_L_litShare rm_L_litShare rm_L_law (fun _ _ _ _ _ _ => False) <| o_istore 6 <| o_aload 2 <| o_callV 8 1 sp_X8_litShare rm_X8_litShare rm_L_law (fun _ _ _ _ _ _ => False) <| o_fstore 7 <| (G 1600)
def bk_L_law_1570 (L : Nat) (xs : Nat → Int32) (G : Nat → am_C) : am_C := o_aload 1 <| o_aload 4 <| o_call 2 sp_L_meanCells rm_L_meanCells rm_L_law (fun _ _ _ _ _ _ => False) <| o_istore 6 <| o_aload 2 <| o_callV 8 1 sp_X8_meanCells rm_X8_meanCells rm_L_law (fun _ _ _ _ _ _ => False) <| o_dstore 7 <| (G 1600)
def bk_L_law_1587 (L : Nat) (xs : Nat → Int32) (G : Nat → am_C) : am_C := o_aload 1 <| o_callV 7 1 sp_X7_isSound rm_X7_isSound rm_L_law (fun _ _ _ _ _ _ => False) <| o_pop <| o_aload 2 <| o_callV 8 1 sp_X8_isSound rm_X8_isSound rm_L_law (fun _ _ _ _ _ _ => False) <| o_pop <| (G 1600)
def bk_L_law_1600 (L : Nat) (xs : Nat → Int32) (G : Nat → am_C) : am_C := o_iinc 5 6 <| (G 28)
