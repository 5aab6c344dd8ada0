def sp_X5_init : am_S := fun as n E K => ∃ (t : Nat), as = [.ref t] ∧ t < n ∧ E t = some (.inr (5, [.null])) ∧ K (.inl none) (n + 1) (am_u (am_u E n (.inl (0, 144, .inl (fun k => if k < 144 then -2 else 0)))) t (.inr (5, [.ref n])))
def rm_X5_init : Room := { frames := 1, cells := 1, slots := 144, locals := 20 }
theorem rmc_X5_init : rm_X5_init.cells = 1 := rfl
theorem rms_X5_init : rm_X5_init.slots = 144 := rfl
theorem ct_X5_init (l : Launch) (htr : l.stackTraces = false) : am_Ct l yX5_init (am_ws yX5_init cX5_init 2 none) rm_X5_init sp_X5_init := sorry
def sp_X0_init : am_S := fun as n E K => ∃ (t : Nat) (a b c : Value), as = [.ref t] ∧ E t = some (.inr (0, [a, b, c])) ∧ K (.inl none) n (am_u E t (.inr (0, [.int 0, .int 1, .int 0])))
def rm_X0_init : Room := { frames := 1, cells := 0, slots := 0, locals := 20 }
theorem rmc_X0_init : rm_X0_init.cells = 0 := rfl
theorem rms_X0_init : rm_X0_init.slots = 0 := rfl
theorem ct_X0_init (l : Launch) (htr : l.stackTraces = false) : am_Ct l yX0_init (am_ws yX0_init cX0_init 1 none) rm_X0_init sp_X0_init := sorry
def sp_X3_init : am_S := fun as n E K => ∃ (t : Nat), as = [.ref t] ∧ t < n ∧ E t = some (.inr (3, [.null, .null])) ∧ K (.inl none) (n + 2) (am_u (am_u (am_u E n (.inl (0, am_z 0 12))) (n + 1) (.inl (0, am_z 0 12))) t (.inr (3, [.ref n, .ref (n + 1)])))
def rm_X3_init : Room := { frames := 1, cells := 2, slots := 24, locals := 20 }
theorem rmc_X3_init : rm_X3_init.cells = 2 := rfl
theorem rms_X3_init : rm_X3_init.slots = 24 := rfl
theorem ct_X3_init (l : Launch) (htr : l.stackTraces = false) : am_Ct l yX3_init (am_ws yX3_init cX3_init 1 none) rm_X3_init sp_X3_init := sorry
def sp_X6_init : am_S := fun as n E K => ∃ (t : Nat), as = [.ref t] ∧ t < n ∧ E t = some (.inr (6, [.null])) ∧ K (.inl none) (n + 1) (am_u (am_u E n (.inl (1, am_z 1 32))) t (.inr (6, [.ref n])))
def rm_X6_init : Room := { frames := 1, cells := 1, slots := 32, locals := 20 }
theorem rmc_X6_init : rm_X6_init.cells = 1 := rfl
theorem rms_X6_init : rm_X6_init.slots = 32 := rfl
theorem ct_X6_init (l : Launch) (htr : l.stackTraces = false) : am_Ct l yX6_init (am_ws yX6_init cX6_init 1 none) rm_X6_init sp_X6_init := sorry
def sp_X1_init : am_S := fun as n E K => ∃ (t : Nat), as = [.ref t] ∧ t < n ∧ E t = some (.inr (1, [.null, .null])) ∧ K (.inl none) (n + 2) (am_u (am_u (am_u E n (.inl (0, am_z 0 4))) (n + 1) (.inl (0, am_z 0 4))) t (.inr (1, [.ref n, .ref (n + 1)])))
def rm_X1_init : Room := { frames := 1, cells := 2, slots := 8, locals := 20 }
theorem rmc_X1_init : rm_X1_init.cells = 2 := rfl
theorem rms_X1_init : rm_X1_init.slots = 8 := rfl
theorem ct_X1_init (l : Launch) (htr : l.stackTraces = false) : am_Ct l yX1_init (am_ws yX1_init cX1_init 1 none) rm_X1_init sp_X1_init := sorry
def sp_X2_init : am_S := fun as n E K => ∃ (t : Nat), as = [.ref t] ∧ t < n ∧ E t = some (.inr (2, [.int 0, .int 0, .int 0, .int 0, .int 0, .null, .null])) ∧
  K (.inl none) (n + 5) (am_u (am_u (am_u (am_u (am_u (am_u E n (.inr (1, [.ref (n + 1), .ref (n + 2)]))) (n + 1) (.inl (0, am_z 0 4))) (n + 2) (.inl (0, am_z 0 4))) (n + 3) (.inr (6, [.ref (n + 4)]))) (n + 4) (.inl (1, am_z 1 32))) t (.inr (2, [.int 0, .int 45, .int 45, .int 0, .int 0, .ref n, .ref (n + 3)])))
def rm_X2_init : Room := { frames := 2, cells := 5, slots := 43, locals := 40 }
theorem rmc_X2_init : rm_X2_init.cells = 5 := rfl
theorem rms_X2_init : rm_X2_init.slots = 43 := rfl
theorem ct_X2_init (l : Launch) (htr : l.stackTraces = false) : am_Ct l yX2_init (am_ws yX2_init cX2_init 1 none) rm_X2_init sp_X2_init := sorry
def sp_X4_init : am_S := fun as n E K => ∃ (t : Nat), as = [.ref t] ∧ t < n ∧ E t = some (.inr (4, [.int 0, .int 0, .int 0, .int 0, .null])) ∧ K (.inl none) (n + 1) (am_u (am_u E n (.inl (0, am_z 0 12))) t (.inr (4, [.int 0, .int 0, .int 0, .int 104, .ref n])))
def rm_X4_init : Room := { frames := 1, cells := 1, slots := 12, locals := 20 }
theorem rmc_X4_init : rm_X4_init.cells = 1 := rfl
theorem rms_X4_init : rm_X4_init.slots = 12 := rfl
theorem ct_X4_init (l : Launch) (htr : l.stackTraces = false) : am_Ct l yX4_init (am_ws yX4_init cX4_init 1 none) rm_X4_init sp_X4_init := sorry
def sp_X7_init : am_S := fun as n E K => ∃ (t : Nat), as = [.ref t] ∧ n = t + 1 ∧ E t = some (.inr (7, [.null, .null, .null, .null, .int 0, .int 0, .int 0, .int 0, .int 0, .int 0, .int 0, .null, .null, .null, .null, .null])) ∧ ∀ E' : am_E, am_HS t E' am_s0 → (∀ k, k < t → E' k = E k) → K (.inl none) (t + 214) E'
def rm_X7_init : Room := { frames := 3, cells := 213, slots := 1963, locals := 60 }
theorem rmc_X7_init : rm_X7_init.cells = 213 := rfl
theorem rms_X7_init : rm_X7_init.slots = 1963 := rfl
theorem ct_X7_init (l : Launch) (htr : l.stackTraces = false) : am_Ct l yX7_init (am_ws yX7_init cX7_init 2 none) rm_X7_init sp_X7_init := sorry
def sp_X7_isInside : am_S := fun as n E K => ∃ x y : Int32, as = [.int x, .int y] ∧ K (.inl (some (.int (if (0 ≤ x ∧ ¬ 12 ≤ x) ∧ 0 ≤ y ∧ ¬ 12 ≤ y then 1 else 0)))) n E
def rm_X7_isInside : Room := { frames := 0, cells := 0, slots := 0, locals := 0 }
theorem rmc_X7_isInside : rm_X7_isInside.cells = 0 := rfl
theorem rms_X7_isInside : rm_X7_isInside.slots = 0 := rfl
theorem ct_X7_isInside (l : Launch) (htr : l.stackTraces = false) : am_Ct l yX7_isInside (am_ws yX7_isInside cX7_isInside 2 (some .boolean)) rm_X7_isInside sp_X7_isInside := sorry
def sp_X7_requireCells : am_S := fun as n E K => ∃ l lo r hi : Int32, as = [.int l, .int lo, .int r, .int hi] ∧ (am_rng l lo r hi → K (.inl none) n E) ∧ (¬ am_rng l lo r hi → K (.inr "java/lang/IllegalArgumentException") n E)
def rm_X7_requireCells : Room := { frames := 6, cells := 1, slots := 6, locals := 82 }
theorem rmc_X7_requireCells : rm_X7_requireCells.cells = 1 := rfl
theorem rms_X7_requireCells : rm_X7_requireCells.slots = 6 := rfl
theorem ct_X7_requireCells (l : Launch) (htr : l.stackTraces = false) : am_Ct l yX7_requireCells (am_ws yX7_requireCells cX7_requireCells 4 none) rm_X7_requireCells sp_X7_requireCells := sorry
def sp_X5_at : am_S := fun as n E K => ∃ (t c : Nat) (f : Nat → Int32) (x y : Int32), as = [.ref t, .int x, .int y] ∧ am_wl E t c f ∧ K (.inl (some (.int (am_at f x y)))) n E
def rm_X5_at : Room := { frames := 1, cells := 0, slots := 0, locals := 21 }
theorem rmc_X5_at : rm_X5_at.cells = 0 := rfl
theorem rms_X5_at : rm_X5_at.slots = 0 := rfl
theorem ct_X5_at (l : Launch) (htr : l.stackTraces = false) : am_Ct l yX5_at (am_ws yX5_at cX5_at 3 (some .int)) rm_X5_at sp_X5_at := sorry
def sp_X7_isWithin : am_S := fun as n E K => ∃ x lo hi : Int32, as = [.int x, .int lo, .int hi] ∧ K (.inl (some (.int (if lo ≤ x ∧ x ≤ hi then 1 else 0)))) n E
def rm_X7_isWithin : Room := { frames := 0, cells := 0, slots := 0, locals := 0 }
theorem rmc_X7_isWithin : rm_X7_isWithin.cells = 0 := rfl
theorem rms_X7_isWithin : rm_X7_isWithin.slots = 0 := rfl
theorem ct_X7_isWithin (l : Launch) (htr : l.stackTraces = false) : am_Ct l yX7_isWithin (am_ws yX7_isWithin cX7_isWithin 3 (some .boolean)) rm_X7_isWithin sp_X7_isWithin := sorry
def sp_X7_isPiece : am_S := fun as n E K => ∃ x : Int32, as = [.int x] ∧ K (.inl (some (.int (if 0 ≤ x ∧ x ≤ 29 then 1 else 0)))) n E
def rm_X7_isPiece : Room := { frames := 1, cells := 0, slots := 0, locals := 22 }
theorem rmc_X7_isPiece : rm_X7_isPiece.cells = 0 := rfl
theorem rms_X7_isPiece : rm_X7_isPiece.slots = 0 := rfl
theorem ct_X7_isPiece (l : Launch) (htr : l.stackTraces = false) : am_Ct l yX7_isPiece (am_ws yX7_isPiece cX7_isPiece 1 (some .boolean)) rm_X7_isPiece sp_X7_isPiece := sorry
def sp_X2_hasGlass : am_S := fun as n E K => ∃ (t p y : Nat) (wc wk st co yr : Int32), as = [.ref t] ∧ am_pn0 E t wc wk st co yr p y ∧ K (.inl (some (.int (if st = 45 then 0 else 1)))) n E
def rm_X2_hasGlass : Room := { frames := 0, cells := 0, slots := 0, locals := 0 }
theorem rmc_X2_hasGlass : rm_X2_hasGlass.cells = 0 := rfl
theorem rms_X2_hasGlass : rm_X2_hasGlass.slots = 0 := rfl
theorem ct_X2_hasGlass (l : Launch) (htr : l.stackTraces = false) : am_Ct l yX2_hasGlass (am_ws yX2_hasGlass cX2_hasGlass 1 (some .boolean)) rm_X2_hasGlass sp_X2_hasGlass := sorry
def sp_X7_isGlassWithin : am_S := fun as n E K => ∃ (b l lo r hi : Nat) (σ : am_St), as = [.ref b, .int (nI l), .int (nI lo), .int (nI r), .int (nI hi)] ∧ l ≤ r ∧ r < 12 ∧ lo ≤ hi ∧ hi < 12 ∧ am_HS b E σ ∧ K (.inl (some (.int (if am_rga (am_gl1 σ) l lo r hi = true then 1 else 0)))) n E
def rm_X7_isGlassWithin : Room := { frames := 2, cells := 0, slots := 0, locals := 43 }
theorem rmc_X7_isGlassWithin : rm_X7_isGlassWithin.cells = 0 := rfl
theorem rms_X7_isGlassWithin : rm_X7_isGlassWithin.slots = 0 := rfl
theorem ct_X7_isGlassWithin (l : Launch) (htr : l.stackTraces = false) : am_Ct l yX7_isGlassWithin (am_ws yX7_isGlassWithin cX7_isGlassWithin 8 (some .boolean)) rm_X7_isGlassWithin sp_X7_isGlassWithin := sorry
def sp_X5_put : am_S := fun as n E K => ∃ (t c i j : Nat) (f : Nat → Int32) (v : Int32), as = [.ref t, .int (nI i), .int (nI j), .int v] ∧ i < 12 ∧ j < 12 ∧ am_wl E t c f ∧ K (.inl none) n (am_u E c (.inl (0, 144, .inl (upd f (12 * j + i) v))))
def rm_X5_put : Room := { frames := 1, cells := 0, slots := 0, locals := 21 }
theorem rmc_X5_put : rm_X5_put.cells = 0 := rfl
theorem rms_X5_put : rm_X5_put.slots = 0 := rfl
theorem ct_X5_put (l : Launch) (htr : l.stackTraces = false) : am_Ct l yX5_put (am_ws yX5_put cX5_put 4 none) rm_X5_put sp_X5_put := sorry
def sp_X7_open : am_S := fun as n E K => ∃ (b : Nat) (σ : am_St) (l : Int32) (lo : Int32) (r : Int32) (hi : Int32) (v : Bool), as = [.ref b, .int l, .int lo, .int r, .int hi, .int (if v = true then 1 else 0)] ∧ am_HS b E σ ∧ am_api b n E K (q_open σ l lo r hi v)
def rm_X7_open : Room := { frames := 7, cells := 2, slots := 12, locals := 105 }
theorem rmc_X7_open : rm_X7_open.cells = 2 := rfl
theorem rms_X7_open : rm_X7_open.slots = 12 := rfl
theorem ct_X7_open (l : Launch) (htr : l.stackTraces = false) : am_Ct l yX7_open (am_ws yX7_open cX7_open 10 (some .int)) rm_X7_open sp_X7_open := sorry
def sp_L_open : am_S := fun as n E K => ∃ (b : Nat) (σ : am_St) (l lo r hi : Int32) (v : Bool), as = [.ref b, .int l, .int lo, .int r, .int hi, .int (if v = true then 1 else 0)] ∧ am_HS b E σ ∧ ∀ E', am_HS b E' (q_open σ l lo r hi v).2 → am_kb b 214 E E' → K (.inl (some (.int (v4_w [(x_IA, (-900001 : Int32)), (x_UO, (-900002 : Int32))] (q_open σ l lo r hi v).1)))) n E'
def rm_L_open : Room := { frames := 8, cells := 2, slots := 12, locals := 134 }
theorem rmc_L_open : rm_L_open.cells = 2 := rfl
theorem rms_L_open : rm_L_open.slots = 12 := rfl
theorem ct_L_open (l : Launch) (htr : l.stackTraces = false) : am_Ct l yL_open (am_wsT yL_open cL_open 7 (some .int) [(0, 11, 12, 15), (0, 11, 17, 18)]) rm_L_open sp_L_open := sorry
def sp_X7_requirePiece : am_S := fun as n E K => ∃ x : Int32, as = [.int x] ∧ (0 ≤ x ∧ x ≤ 29 → K (.inl none) n E) ∧ (¬ (0 ≤ x ∧ x ≤ 29) → K (.inr "java/lang/IndexOutOfBoundsException") n E)
def rm_X7_requirePiece : Room := { frames := 6, cells := 1, slots := 6, locals := 82 }
theorem rmc_X7_requirePiece : rm_X7_requirePiece.cells = 1 := rfl
theorem rms_X7_requirePiece : rm_X7_requirePiece.slots = 6 := rfl
theorem ct_X7_requirePiece (l : Launch) (htr : l.stackTraces = false) : am_Ct l yX7_requirePiece (am_ws yX7_requirePiece cX7_requirePiece 1 none) rm_X7_requirePiece sp_X7_requirePiece := sorry
def sp_X7_isOpenWithin : am_S := fun as n E K => ∃ (b l lo r hi : Nat) (σ : am_St), as = [.ref b, .int (nI l), .int (nI lo), .int (nI r), .int (nI hi)] ∧ l ≤ r ∧ r < 12 ∧ lo ≤ hi ∧ hi < 12 ∧ am_HS b E σ ∧ K (.inl (some (.int (if am_rga (am_op1 σ) l lo r hi = true then 1 else 0)))) n E
def rm_X7_isOpenWithin : Room := { frames := 2, cells := 0, slots := 0, locals := 43 }
theorem rmc_X7_isOpenWithin : rm_X7_isOpenWithin.cells = 0 := rfl
theorem rms_X7_isOpenWithin : rm_X7_isOpenWithin.slots = 0 := rfl
theorem ct_X7_isOpenWithin (l : Launch) (htr : l.stackTraces = false) : am_Ct l yX7_isOpenWithin (am_ws yX7_isOpenWithin cX7_isOpenWithin 7 (some .boolean)) rm_X7_isOpenWithin sp_X7_isOpenWithin := sorry
def sp_X5_cellsOf : am_S := fun as n E K => ∃ (t c : Nat) (f : Nat → Int32) (v : Int32), as = [.ref t, .int v] ∧ am_wl E t c f ∧ K (.inl (some (.int (nI (fb_ct (fun k => decide (f k = v)) 144))))) n E
def rm_X5_cellsOf : Room := { frames := 0, cells := 0, slots := 0, locals := 0 }
theorem rmc_X5_cellsOf : rm_X5_cellsOf.cells = 0 := rfl
theorem rms_X5_cellsOf : rm_X5_cellsOf.slots = 0 := rfl
theorem ct_X5_cellsOf (l : Launch) (htr : l.stackTraces = false) : am_Ct l yX5_cellsOf (am_ws yX5_cellsOf cX5_cellsOf 4 (some .int)) rm_X5_cellsOf sp_X5_cellsOf := sorry
def sp_X7_lay : am_S := fun as n E K => ∃ (b : Nat) (σ : am_St) (p : Int32) (l : Int32) (lo : Int32) (r : Int32) (hi : Int32), as = [.ref b, .int p, .int l, .int lo, .int r, .int hi] ∧ am_HS b E σ ∧ am_api b n E K (q_lay σ p l lo r hi)
def rm_X7_lay : Room := { frames := 7, cells := 3, slots := 18, locals := 105 }
theorem rmc_X7_lay : rm_X7_lay.cells = 3 := rfl
theorem rms_X7_lay : rm_X7_lay.slots = 18 := rfl
theorem ct_X7_lay (l : Launch) (htr : l.stackTraces = false) : am_Ct l yX7_lay (am_ws yX7_lay cX7_lay 8 (some .int)) rm_X7_lay sp_X7_lay := sorry
def sp_L_lay : am_S := fun as n E K => ∃ (b : Nat) (σ : am_St) (p l lo r hi : Int32), as = [.ref b, .int p, .int l, .int lo, .int r, .int hi] ∧ am_HS b E σ ∧ ∀ E', am_HS b E' (q_lay σ p l lo r hi).2 → am_kb b 214 E E' → K (.inl (some (.int (v4_w [(x_IO, (-900001 : Int32)), (x_IA, (-900002 : Int32)), (x_UO, (-900003 : Int32))] (q_lay σ p l lo r hi).1)))) n E'
def rm_L_lay : Room := { frames := 8, cells := 3, slots := 18, locals := 132 }
theorem rmc_L_lay : rm_L_lay.cells = 3 := rfl
theorem rms_L_lay : rm_L_lay.slots = 18 := rfl
theorem ct_L_lay (l : Launch) (htr : l.stackTraces = false) : am_Ct l yL_lay (am_wsT yL_lay cL_lay 7 (some .int) [(0, 11, 12, 25), (0, 11, 17, 15), (0, 11, 22, 18)]) rm_L_lay sp_L_lay := sorry
def sp_X7_requireCell : am_S := fun as n E K => ∃ x y : Int32, as = [.int x, .int y] ∧ (am_ins x y → K (.inl none) n E) ∧ (¬ am_ins x y → K (.inr "java/lang/IllegalArgumentException") n E)
def rm_X7_requireCell : Room := { frames := 6, cells := 1, slots := 6, locals := 82 }
theorem rmc_X7_requireCell : rm_X7_requireCell.cells = 1 := rfl
theorem rms_X7_requireCell : rm_X7_requireCell.slots = 6 := rfl
theorem ct_X7_requireCell (l : Launch) (htr : l.stackTraces = false) : am_Ct l yX7_requireCell (am_ws yX7_requireCell cX7_requireCell 2 none) rm_X7_requireCell sp_X7_requireCell := sorry
def sp_X7_pieceAt : am_S := fun as n E K => ∃ (b : Nat) (σ : am_St) (x : Int32) (y : Int32), as = [.ref b, .int x, .int y] ∧ am_HS b E σ ∧ am_api b n E K (q_pieceAt σ x y)
def rm_X7_pieceAt : Room := { frames := 7, cells := 1, slots := 6, locals := 103 }
theorem rmc_X7_pieceAt : rm_X7_pieceAt.cells = 1 := rfl
theorem rms_X7_pieceAt : rm_X7_pieceAt.slots = 6 := rfl
theorem ct_X7_pieceAt (l : Launch) (htr : l.stackTraces = false) : am_Ct l yX7_pieceAt (am_ws yX7_pieceAt cX7_pieceAt 3 (some .int)) rm_X7_pieceAt sp_X7_pieceAt := sorry
def sp_L_pieceAt : am_S := fun as n E K => ∃ (b : Nat) (σ : am_St) (x y : Int32), as = [.ref b, .int x, .int y] ∧ am_HS b E σ ∧ ∀ E', am_HS b E' (q_pieceAt σ x y).2 → am_kb b 214 E E' → K (.inl (some (.int (v4_w [(x_IA, (-900001 : Int32))] (q_pieceAt σ x y).1)))) n E'
def rm_L_pieceAt : Room := { frames := 8, cells := 1, slots := 6, locals := 125 }
theorem rmc_L_pieceAt : rm_L_pieceAt.cells = 1 := rfl
theorem rms_L_pieceAt : rm_L_pieceAt.slots = 6 := rfl
theorem ct_L_pieceAt (l : Launch) (htr : l.stackTraces = false) : am_Ct l yL_pieceAt (am_wsT yL_pieceAt cL_pieceAt 4 (some .int) [(0, 6, 7, 15)]) rm_L_pieceAt sp_L_pieceAt := sorry
def sp_X7_size : am_S := fun as n E K => ∃ (b : Nat) (σ : am_St) (p : Int32), as = [.ref b, .int p] ∧ am_HS b E σ ∧ am_api b n E K (q_size σ p)
def rm_X7_size : Room := { frames := 7, cells := 1, slots := 6, locals := 102 }
theorem rmc_X7_size : rm_X7_size.cells = 1 := rfl
theorem rms_X7_size : rm_X7_size.slots = 6 := rfl
theorem ct_X7_size (l : Launch) (htr : l.stackTraces = false) : am_Ct l yX7_size (am_ws yX7_size cX7_size 2 (some .int)) rm_X7_size sp_X7_size := sorry
def sp_L_size : am_S := fun as n E K => ∃ (b : Nat) (σ : am_St) (p : Int32), as = [.ref b, .int p] ∧ am_HS b E σ ∧ ∀ E', am_HS b E' (q_size σ p).2 → am_kb b 214 E E' → K (.inl (some (.int (v4_w [(x_IO, (-900001 : Int32))] (q_size σ p).1)))) n E'
def rm_L_size : Room := { frames := 8, cells := 1, slots := 6, locals := 123 }
theorem rmc_L_size : rm_L_size.cells = 1 := rfl
theorem rms_L_size : rm_L_size.slots = 6 := rfl
theorem ct_L_size (l : Launch) (htr : l.stackTraces = false) : am_Ct l yL_size (am_wsT yL_size cL_size 3 (some .int) [(0, 5, 6, 25)]) rm_L_size sp_L_size := sorry
def sp_L_cell : am_S := fun as n E K => ∃ i : Nat, as = [.retAddr 0, .int (nI i)] ∧ i ≤ 200 ∧ ∀ v : Int32, K (.inl (some (.int v))) n E
def rm_L_cell : Room := { frames := 0, cells := 0, slots := 0, locals := 0 }
theorem rmc_L_cell : rm_L_cell.cells = 0 := rfl
theorem rms_L_cell : rm_L_cell.slots = 0 := rfl
def bk_L_cell_0 (L : Nat) (xs : Nat → Int32) (K : am_P) (G : Nat → am_C) : am_C := o_pi 69069 <| o_iload 1 <| o_aload 0 <| o_slT L <| o_ic_ge ((G 14)) ((G 8))
def bk_L_cell_8 (L : Nat) (xs : Nat → Int32) (K : am_P) (G : Nat → am_C) : am_C := o_aload 0 <| o_iload 1 <| o_sdT L xs <| (G 15)
def bk_L_cell_14 (L : Nat) (xs : Nat → Int32) (K : am_P) (G : Nat → am_C) : am_C := o_pi 0 <| (G 15)
def bk_L_cell_15 (L : Nat) (xs : Nat → Int32) (K : am_P) (G : Nat → am_C) : am_C := o_pi 1009 <| o_iload 1 <| o_ib (fun x y => x * y) <| o_ib (fun x y => x + y) <| o_ib (fun x y => x * y) <| o_pi 12345 <| o_ib (fun x y => x + y) <| o_istore 2 <| o_iload 2 <| o_iload 2 <| o_pi 13 <| o_ib (fun x y => (x.toUInt32 >>> (y.toUInt32 &&& Int32.toUInt32 31)).toInt32) <| o_ib (fun x y => x ^^^ y) <| o_pi 1103515245 <| o_ib (fun x y => x * y) <| o_istore 2 <| o_iload 2 <| o_iload 2 <| o_pi 16 <| o_ib (fun x y => (x.toUInt32 >>> (y.toUInt32 &&& Int32.toUInt32 31)).toInt32) <| o_ib (fun x y => x ^^^ y) <| o_iret .int K
def cl_L_cell (K : am_P) (G : Nat → am_C) : Prop := ∃ (L : Nat) (xs : Nat → Int32), L ≤ 260 ∧ am_imp (bk_L_cell_0 L xs K G) (G 0) ∧ am_imp (bk_L_cell_8 L xs K G) (G 8) ∧ am_imp (bk_L_cell_14 L xs K G) (G 14) ∧ am_imp (bk_L_cell_15 L xs K G) (G 15)
theorem f_L_cell (K : am_P) (G : Nat → am_C) (hC : cl_L_cell K G) (as : List Value) (n : Nat) (E : am_E) (hS : sp_L_cell as n E K) : (am_sl as).length ≤ 3 ∧ G 0 (am_inl 3 as) [] n E 0 0 := by
  obtain ⟨i, rfl, hi, hK⟩ := hS
  obtain ⟨L, xs, hL, hC⟩ := hC
  refine ⟨by simp [am_sl, Value.category], ?_⟩
  have h15 : ∀ v : Int32, G 15 [some (.retAddr 0), some (.int (nI i)), none] [.int v, .int 69069] n E 0 0 := by
    intro v
    apply hC.2.2.2
    simp only [bk_L_cell_0, bk_L_cell_8, bk_L_cell_14, bk_L_cell_15, o_pi, o_iload, o_aload, o_istore, o_ib, o_ic_ge, o_if, o_ic, o_iret, o_call, am_kc, am_noX, am_s1, am_s2, am_kill, am_inl, am_sl, Value.category, List.getElem?_cons_zero, List.getElem?_cons_succ, List.set_cons_zero, List.set_cons_succ, List.length_cons, List.length_nil, List.take_succ_cons, List.take_zero, List.drop_succ_cons, List.drop_zero, List.reverse_cons, List.reverse_nil, List.nil_append, List.cons_append, List.append_nil, List.map_cons, List.map_nil, List.sum_cons, List.sum_nil, List.replicate_succ, List.replicate_zero, Nat.zero_add, Nat.add_zero, Nat.le_refl, Nat.zero_le, ite_true, ite_false, if_true, if_false, true_and, and_true, eq_self, not_true_eq_false, not_false_eq_true, am_nb0, am_nb1, am_ni, am_fi, am_fr, am_fra, am_fz0, am_fz1, am_fl, am_uE, am_vnI, am_uu, am_ltx, ite_not, Classical.not_not, reduceIte, reduceCtorEq, Nat.reduceEqDiff, Nat.reduceAdd, Nat.reduceSub, Nat.reduceMul, Nat.reduceLeDiff, Nat.reduceLT, Int32.reduceLE, Int32.reduceLT, am_10, am_01, am_ite0, am_ite1, ms_boT, ms_boF, rmc_L_cell, rms_L_cell]
    exact hK _
  have e1 : (nI L ≤ nI i) = (L ≤ i) := am_geN (by omega) (by omega)
  apply hC.1
  by_cases h : L ≤ i
  · have e2 : (nI L ≤ nI i) = True := e1.trans (eq_true h)
    simp only [bk_L_cell_0, bk_L_cell_8, bk_L_cell_14, bk_L_cell_15, o_pi, o_iload, o_aload, o_istore, o_ib, o_ic_ge, o_if, o_ic, o_iret, o_call, am_kc, am_noX, am_s1, am_s2, am_kill, am_inl, am_sl, Value.category, List.getElem?_cons_zero, List.getElem?_cons_succ, List.set_cons_zero, List.set_cons_succ, List.length_cons, List.length_nil, List.take_succ_cons, List.take_zero, List.drop_succ_cons, List.drop_zero, List.reverse_cons, List.reverse_nil, List.nil_append, List.cons_append, List.append_nil, List.map_cons, List.map_nil, List.sum_cons, List.sum_nil, List.replicate_succ, List.replicate_zero, Nat.zero_add, Nat.add_zero, Nat.le_refl, Nat.zero_le, ite_true, ite_false, if_true, if_false, true_and, and_true, eq_self, not_true_eq_false, not_false_eq_true, am_nb0, am_nb1, am_ni, am_fi, am_fr, am_fra, am_fz0, am_fz1, am_fl, am_uE, am_vnI, am_uu, am_ltx, ite_not, Classical.not_not, reduceIte, reduceCtorEq, Nat.reduceEqDiff, Nat.reduceAdd, Nat.reduceSub, Nat.reduceMul, Nat.reduceLeDiff, Nat.reduceLT, Int32.reduceLE, Int32.reduceLT, am_10, am_01, am_ite0, am_ite1, ms_boT, ms_boF, rmc_L_cell, rms_L_cell, o_slT, e2]
    apply hC.2.2.1
    simp only [bk_L_cell_0, bk_L_cell_8, bk_L_cell_14, bk_L_cell_15, o_pi, o_iload, o_aload, o_istore, o_ib, o_ic_ge, o_if, o_ic, o_iret, o_call, am_kc, am_noX, am_s1, am_s2, am_kill, am_inl, am_sl, Value.category, List.getElem?_cons_zero, List.getElem?_cons_succ, List.set_cons_zero, List.set_cons_succ, List.length_cons, List.length_nil, List.take_succ_cons, List.take_zero, List.drop_succ_cons, List.drop_zero, List.reverse_cons, List.reverse_nil, List.nil_append, List.cons_append, List.append_nil, List.map_cons, List.map_nil, List.sum_cons, List.sum_nil, List.replicate_succ, List.replicate_zero, Nat.zero_add, Nat.add_zero, Nat.le_refl, Nat.zero_le, ite_true, ite_false, if_true, if_false, true_and, and_true, eq_self, not_true_eq_false, not_false_eq_true, am_nb0, am_nb1, am_ni, am_fi, am_fr, am_fra, am_fz0, am_fz1, am_fl, am_uE, am_vnI, am_uu, am_ltx, ite_not, Classical.not_not, reduceIte, reduceCtorEq, Nat.reduceEqDiff, Nat.reduceAdd, Nat.reduceSub, Nat.reduceMul, Nat.reduceLeDiff, Nat.reduceLT, Int32.reduceLE, Int32.reduceLT, am_10, am_01, am_ite0, am_ite1, ms_boT, ms_boF, rmc_L_cell, rms_L_cell]
    exact h15 _
  · have e2 : (nI L ≤ nI i) = False := e1.trans (eq_false h)
    simp only [bk_L_cell_0, bk_L_cell_8, bk_L_cell_14, bk_L_cell_15, o_pi, o_iload, o_aload, o_istore, o_ib, o_ic_ge, o_if, o_ic, o_iret, o_call, am_kc, am_noX, am_s1, am_s2, am_kill, am_inl, am_sl, Value.category, List.getElem?_cons_zero, List.getElem?_cons_succ, List.set_cons_zero, List.set_cons_succ, List.length_cons, List.length_nil, List.take_succ_cons, List.take_zero, List.drop_succ_cons, List.drop_zero, List.reverse_cons, List.reverse_nil, List.nil_append, List.cons_append, List.append_nil, List.map_cons, List.map_nil, List.sum_cons, List.sum_nil, List.replicate_succ, List.replicate_zero, Nat.zero_add, Nat.add_zero, Nat.le_refl, Nat.zero_le, ite_true, ite_false, if_true, if_false, true_and, and_true, eq_self, not_true_eq_false, not_false_eq_true, am_nb0, am_nb1, am_ni, am_fi, am_fr, am_fra, am_fz0, am_fz1, am_fl, am_uE, am_vnI, am_uu, am_ltx, ite_not, Classical.not_not, reduceIte, reduceCtorEq, Nat.reduceEqDiff, Nat.reduceAdd, Nat.reduceSub, Nat.reduceMul, Nat.reduceLeDiff, Nat.reduceLT, Int32.reduceLE, Int32.reduceLT, am_10, am_01, am_ite0, am_ite1, ms_boT, ms_boF, rmc_L_cell, rms_L_cell, o_slT, e2]
    apply hC.2.1
    simp only [bk_L_cell_0, bk_L_cell_8, bk_L_cell_14, bk_L_cell_15, o_pi, o_iload, o_aload, o_istore, o_ib, o_ic_ge, o_if, o_ic, o_iret, o_call, am_kc, am_noX, am_s1, am_s2, am_kill, am_inl, am_sl, Value.category, List.getElem?_cons_zero, List.getElem?_cons_succ, List.set_cons_zero, List.set_cons_succ, List.length_cons, List.length_nil, List.take_succ_cons, List.take_zero, List.drop_succ_cons, List.drop_zero, List.reverse_cons, List.reverse_nil, List.nil_append, List.cons_append, List.append_nil, List.map_cons, List.map_nil, List.sum_cons, List.sum_nil, List.replicate_succ, List.replicate_zero, Nat.zero_add, Nat.add_zero, Nat.le_refl, Nat.zero_le, ite_true, ite_false, if_true, if_false, true_and, and_true, eq_self, not_true_eq_false, not_false_eq_true, am_nb0, am_nb1, am_ni, am_fi, am_fr, am_fra, am_fz0, am_fz1, am_fl, am_uE, am_vnI, am_uu, am_ltx, ite_not, Classical.not_not, reduceIte, reduceCtorEq, Nat.reduceEqDiff, Nat.reduceAdd, Nat.reduceSub, Nat.reduceMul, Nat.reduceLeDiff, Nat.reduceLT, Int32.reduceLE, Int32.reduceLT, am_10, am_01, am_ite0, am_ite1, ms_boT, ms_boF, rmc_L_cell, rms_L_cell, o_sdT, am_vi (show i < L by omega) (show L < 2 ^ 31 by omega), am_cl (show i < 2 ^ 31 by omega)]
    exact h15 _
set_option maxRecDepth 100000 in
set_option maxHeartbeats 4000000 in
theorem sd_L_cell (X : am_X) (K : am_P) (F : am_F X cL_cell yL_cell.cls (some .int) (am_ws yL_cell cL_cell 3 (some .int))) (FQ : am_FQ X K rm_L_cell.cells rm_L_cell.slots) (hR : am_Rm X rm_L_cell) (hT : am_noT X) (hn : am_nL X = 3) : cl_L_cell K (am_G X) := by
  have ts : ∀ w ∈ am_WS, w ∈ am_ws yL_cell cL_cell 3 (some .int) := fun w h => List.mem_cons_of_mem _ h
  obtain ⟨L, xs, hL, hS⟩ := am_STF F
  exact ⟨L, xs, hL, ⟨ms_ldc F (ts _ wd_599) (am_dk (q := (0, .ldc 7, 2)) dk_L_cell_0 0 rfl) (ms_iload_n F (am_dk (q := (2, .iload_n 1, 1)) dk_L_cell_0 1 rfl) rfl (ms_aload_n F (am_dk (q := (3, .aload_n 0, 1)) dk_L_cell_0 2 rfl) rfl (ms_slT F hS (am_dk (q := (4, .arraylength, 1)) dk_L_cell_0 3 rfl) (ms_ic_ge F (tgt := 14) (am_dk (q := (5, .if_icmp .ge 9, 3)) dk_L_cell_0 4 rfl) (by decide) ((am_id _)) ((am_id _)))))),
    ms_aload_n F (am_dk (q := (8, .aload_n 0, 1)) dk_L_cell_0 5 rfl) rfl (ms_iload_n F (am_dk (q := (9, .iload_n 1, 1)) dk_L_cell_0 6 rfl) rfl (ms_sdT F hS (am_dk (q := (10, .iaload, 1)) dk_L_cell_0 7 rfl) (ms_goto F (tgt := 15) (am_dk (q := (11, .goto 4, 3)) dk_L_cell_0 8 rfl) (by decide) ((am_id _))))),
    ms_iconst F (am_dk (q := (14, .iconst 0, 1)) dk_L_cell_0 9 rfl) (by decide +kernel) ((am_id _)),
    ms_sipush F (am_dk (q := (15, .sipush 1009, 3)) dk_L_cell_0 10 rfl) (by decide +kernel) (ms_iload_n F (am_dk (q := (18, .iload_n 1, 1)) dk_L_cell_0 11 rfl) rfl (ms_imul F (am_dk (q := (19, .imul, 1)) dk_L_cell_0 12 rfl) (ms_iadd F (am_dk (q := (20, .iadd, 1)) dk_L_cell_0 13 rfl) (ms_imul F (am_dk (q := (21, .imul, 1)) dk_L_cell_0 14 rfl) (ms_sipush F (am_dk (q := (22, .sipush 12345, 3)) dk_L_cell_0 15 rfl) (by decide +kernel) (ms_iadd F (am_dk (q := (25, .iadd, 1)) dk_L_cell_0 16 rfl) (ms_istore_n F (am_dk (q := (26, .istore_n 2, 1)) dk_L_cell_0 17 rfl) rfl hn (by decide) (ms_iload_n F (am_dk (q := (27, .iload_n 2, 1)) dk_L_cell_0 18 rfl) rfl (ms_iload_n F (am_dk (q := (28, .iload_n 2, 1)) dk_L_cell_0 19 rfl) rfl (ms_bipush F (am_dk (q := (29, .bipush 13, 2)) dk_L_cell_0 20 rfl) (by decide +kernel) (ms_iushr F (am_dk (q := (31, .iushr, 1)) dk_L_cell_0 21 rfl) (ms_ixor F (am_dk (q := (32, .ixor, 1)) dk_L_cell_0 22 rfl) (ms_ldc F (ts _ wd_600) (am_dk (q := (33, .ldc 8, 2)) dk_L_cell_0 23 rfl) (ms_imul F (am_dk (q := (35, .imul, 1)) dk_L_cell_0 24 rfl) (ms_istore_n F (am_dk (q := (36, .istore_n 2, 1)) dk_L_cell_0 25 rfl) rfl hn (by decide) (ms_iload_n F (am_dk (q := (37, .iload_n 2, 1)) dk_L_cell_0 26 rfl) rfl (ms_iload_n F (am_dk (q := (38, .iload_n 2, 1)) dk_L_cell_0 27 rfl) rfl (ms_bipush F (am_dk (q := (39, .bipush 16, 2)) dk_L_cell_0 28 rfl) (by decide +kernel) (ms_iushr F (am_dk (q := (41, .iushr, 1)) dk_L_cell_0 29 rfl) (ms_ixor F (am_dk (q := (42, .ixor, 1)) dk_L_cell_0 30 rfl) (ms_iret F FQ rfl (am_dk (q := (43, .ireturn, 1)) dk_L_cell_0 31 rfl))))))))))))))))))))))⟩⟩
theorem ct_L_cell (l : Launch) (htr : l.stackTraces = false) : am_Ct l yL_cell (am_ws yL_cell cL_cell 3 (some .int)) rm_L_cell sp_L_cell := am_of htr (by decide) wd_598 (fun X K F FQ hR hT hn hi as n E hS => f_L_cell K (am_G X) (sd_L_cell X K F FQ hR hT hn) as n E hS)
def sp_L_in : am_S := fun as n E K => ∃ i m : Nat, as = [.retAddr 0, .int (nI i), .int (nI m)] ∧ i ≤ 200 ∧ 1 ≤ m ∧ m ≤ 12 ∧ ∀ v : Nat, v < m → K (.inl (some (.int (nI v)))) n E
def rm_L_in : Room := { frames := 1, cells := 0, slots := 0, locals := 22 }
theorem rmc_L_in : rm_L_in.cells = 0 := rfl
theorem rms_L_in : rm_L_in.slots = 0 := rfl
theorem ct_L_in (l : Launch) (htr : l.stackTraces = false) : am_Ct l yL_in (am_ws yL_in cL_in 3 (some .int)) rm_L_in sp_L_in := sorry
def sp_L_at : am_S := fun as n E K => ∃ (f : Nat → Int32) (x y : Int32), as = [.ref 214, .int x, .int y] ∧ v4_pl E f ∧ K (.inl (some (.int (am_at f x y)))) n E
def rm_L_at : Room := { frames := 0, cells := 0, slots := 0, locals := 0 }
theorem rmc_L_at : rm_L_at.cells = 0 := rfl
theorem rms_L_at : rm_L_at.slots = 0 := rfl
theorem ct_L_at (l : Launch) (htr : l.stackTraces = false) : am_Ct l yL_at (am_ws yL_at cL_at 3 (some .int)) rm_L_at sp_L_at := sorry
def sp_X5_leadBetween : am_S := fun as n E K => ∃ a b : Int32, as = [.int a, .int b] ∧ K (.inl (some (.int (nI (am_lb a b))))) n E
def rm_X5_leadBetween : Room := { frames := 0, cells := 0, slots := 0, locals := 0 }
theorem rmc_X5_leadBetween : rm_X5_leadBetween.cells = 0 := rfl
theorem rms_X5_leadBetween : rm_X5_leadBetween.slots = 0 := rfl
theorem ct_X5_leadBetween (l : Launch) (htr : l.stackTraces = false) : am_Ct l yX5_leadBetween (am_ws yX5_leadBetween cX5_leadBetween 2 (some .int)) rm_X5_leadBetween sp_X5_leadBetween := sorry
def sp_X5_leadedSides : am_S := fun as n E K => ∃ (t c : Nat) (f : Nat → Int32), as = [.ref t] ∧ am_wl E t c f ∧ K (.inl (some (.int (nI (am_lsd f))))) n E
def rm_X5_leadedSides : Room := { frames := 2, cells := 0, slots := 0, locals := 43 }
theorem rmc_X5_leadedSides : rm_X5_leadedSides.cells = 0 := rfl
theorem rms_X5_leadedSides : rm_X5_leadedSides.slots = 0 := rfl
theorem ct_X5_leadedSides (l : Launch) (htr : l.stackTraces = false) : am_Ct l yX5_leadedSides (am_ws yX5_leadedSides cX5_leadedSides 4 (some .int)) rm_X5_leadedSides sp_X5_leadedSides := sorry
def sp_X7_lead : am_S := fun as n E K => ∃ (b : Nat) (σ : am_St), as = [.ref b] ∧ am_HS b E σ ∧ am_api b n E K (q_lead σ)
def rm_X7_lead : Room := { frames := 3, cells := 0, slots := 0, locals := 66 }
theorem rmc_X7_lead : rm_X7_lead.cells = 0 := rfl
theorem rms_X7_lead : rm_X7_lead.slots = 0 := rfl
theorem ct_X7_lead (l : Launch) (htr : l.stackTraces = false) : am_Ct l yX7_lead (am_ws yX7_lead cX7_lead 1 (some .int)) rm_X7_lead sp_X7_lead := sorry
def sp_X5_meetingPoints : am_S := fun as n E K => ∃ (t c : Nat) (f : Nat → Int32), as = [.ref t] ∧ am_wl E t c f ∧ K (.inl (some (.int (nI (am_mts f))))) n E
def rm_X5_meetingPoints : Room := { frames := 2, cells := 0, slots := 0, locals := 43 }
theorem rmc_X5_meetingPoints : rm_X5_meetingPoints.cells = 0 := rfl
theorem rms_X5_meetingPoints : rm_X5_meetingPoints.slots = 0 := rfl
theorem ct_X5_meetingPoints (l : Launch) (htr : l.stackTraces = false) : am_Ct l yX5_meetingPoints (am_ws yX5_meetingPoints cX5_meetingPoints 5 (some .int)) rm_X5_meetingPoints sp_X5_meetingPoints := sorry
def sp_X7_joints : am_S := fun as n E K => ∃ (b : Nat) (σ : am_St), as = [.ref b] ∧ am_HS b E σ ∧ am_api b n E K (q_joints σ)
def rm_X7_joints : Room := { frames := 3, cells := 0, slots := 0, locals := 67 }
theorem rmc_X7_joints : rm_X7_joints.cells = 0 := rfl
theorem rms_X7_joints : rm_X7_joints.slots = 0 := rfl
theorem ct_X7_joints (l : Launch) (htr : l.stackTraces = false) : am_Ct l yX7_joints (am_ws yX7_joints cX7_joints 1 (some .int)) rm_X7_joints sp_X7_joints := sorry
def sp_X3_clear : am_S := fun as n E K => ∃ (t r q : Nat) (P : Nat → Nat → Bool), as = [.ref t] ∧ t ≠ r ∧ am_sup P ∧ am_so E t r q ∧ am_sr E r P ∧ K (.inl none) n (am_u E r (am_rwE am_non))
def rm_X3_clear : Room := { frames := 0, cells := 0, slots := 0, locals := 0 }
theorem rmc_X3_clear : rm_X3_clear.cells = 0 := rfl
theorem rms_X3_clear : rm_X3_clear.slots = 0 := rfl
theorem ct_X3_clear (l : Launch) (htr : l.stackTraces = false) : am_Ct l yX3_clear (am_ws yX3_clear cX3_clear 2 none) rm_X3_clear sp_X3_clear := sorry
def sp_X3_add : am_S := fun as n E K => ∃ (t r q i j : Nat) (P : Nat → Nat → Bool), as = [.ref t, .int (nI i), .int (nI j)] ∧ i < 12 ∧ j < 12 ∧ am_so E t r q ∧ am_sr E r P ∧ K (.inl none) n (am_u E r (am_rwE (am_add P i j)))
def rm_X3_add : Room := { frames := 1, cells := 0, slots := 0, locals := 21 }
theorem rmc_X3_add : rm_X3_add.cells = 0 := rfl
theorem rms_X3_add : rm_X3_add.slots = 0 := rfl
theorem ct_X3_add (l : Launch) (htr : l.stackTraces = false) : am_Ct l yX3_add (am_ws yX3_add cX3_add 3 none) rm_X3_add sp_X3_add := sorry
def sp_X5_shapeInto : am_S := fun as n E K => ∃ (t c : Nat) (f : Nat → Int32) (v : Int32) (tS r q : Nat) (P : Nat → Nat → Bool), as = [.ref t, .int v, .ref tS] ∧ c ≠ r ∧ am_sup P ∧ am_wl E t c f ∧ am_so E tS r q ∧ am_sr E r P ∧ K (.inl none) n (am_u E r (am_rwE (am_shp f v)))
def rm_X5_shapeInto : Room := { frames := 2, cells := 0, slots := 0, locals := 43 }
theorem rmc_X5_shapeInto : rm_X5_shapeInto.cells = 0 := rfl
theorem rms_X5_shapeInto : rm_X5_shapeInto.slots = 0 := rfl
theorem ct_X5_shapeInto (l : Launch) (htr : l.stackTraces = false) : am_Ct l yX5_shapeInto (am_ws yX5_shapeInto cX5_shapeInto 5 none) rm_X5_shapeInto sp_X5_shapeInto := sorry
def sp_J6_bitCount_0f7a4 : am_S := fun as n E K => ∃ a : Nat, a < 2 ^ 32 ∧ as = [.int (nI a)] ∧ K (.inl (some (.int (nI (fb_ct a.testBit 32))))) n E
def rm_J6_bitCount_0f7a4 : Room := { frames := 0, cells := 0, slots := 0, locals := 0 }
theorem rmc_J6_bitCount_0f7a4 : rm_J6_bitCount_0f7a4.cells = 0 := rfl
theorem rms_J6_bitCount_0f7a4 : rm_J6_bitCount_0f7a4.slots = 0 := rfl
theorem ct_J6_bitCount_0f7a4 (l : Launch) (htr : l.stackTraces = false) : am_Ct l yJ6_bitCount_0f7a4 (am_ws yJ6_bitCount_0f7a4 cJ6_bitCount_0f7a4 1 (some .int)) rm_J6_bitCount_0f7a4 sp_J6_bitCount_0f7a4 := sorry
def sp_X3_innerCorners : am_S := fun as n E K => ∃ (t r q : Nat) (P : Nat → Nat → Bool), as = [.ref t] ∧ am_so E t r q ∧ am_sr E r P ∧ K (.inl (some (.int (nI (am_co P))))) n E
def rm_X3_innerCorners : Room := { frames := 1, cells := 0, slots := 0, locals := 20 }
theorem rmc_X3_innerCorners : rm_X3_innerCorners.cells = 0 := rfl
theorem rms_X3_innerCorners : rm_X3_innerCorners.slots = 0 := rfl
theorem ct_X3_innerCorners (l : Launch) (htr : l.stackTraces = false) : am_Ct l yX3_innerCorners (am_ws yX3_innerCorners cX3_innerCorners 5 (some .int)) rm_X3_innerCorners sp_X3_innerCorners := sorry
def sp_X7_corners : am_S := fun as n E K => ∃ (b : Nat) (σ : am_St) (p : Int32), as = [.ref b, .int p] ∧ am_HS b E σ ∧ am_api b n E K (q_corners σ p)
def rm_X7_corners : Room := { frames := 7, cells := 1, slots := 6, locals := 102 }
theorem rmc_X7_corners : rm_X7_corners.cells = 1 := rfl
theorem rms_X7_corners : rm_X7_corners.slots = 6 := rfl
theorem ct_X7_corners (l : Launch) (htr : l.stackTraces = false) : am_Ct l yX7_corners (am_ws yX7_corners cX7_corners 2 (some .int)) rm_X7_corners sp_X7_corners := sorry
def sp_L_corners : am_S := fun as n E K => ∃ (b : Nat) (σ : am_St) (p : Int32), as = [.ref b, .int p] ∧ am_HS b E σ ∧ ∀ E', am_HS b E' (q_corners σ p).2 → am_kb b 214 E E' → K (.inl (some (.int (v4_w [(x_IO, (-900001 : Int32))] (q_corners σ p).1)))) n E'
def rm_L_corners : Room := { frames := 8, cells := 1, slots := 6, locals := 123 }
theorem rmc_L_corners : rm_L_corners.cells = 1 := rfl
theorem rms_L_corners : rm_L_corners.slots = 6 := rfl
theorem ct_L_corners (l : Launch) (htr : l.stackTraces = false) : am_Ct l yL_corners (am_wsT yL_corners cL_corners 3 (some .int) [(0, 5, 6, 25)]) rm_L_corners sp_L_corners := sorry
def sp_X3_row : am_S := fun as n E K => ∃ (t r q : Nat) (y : Int32) (P : Nat → Nat → Bool), as = [.ref t, .int y] ∧ am_so E t r q ∧ am_sr E r P ∧ K (.inl (some (.int (am_ro P y)))) n E
def rm_X3_row : Room := { frames := 0, cells := 0, slots := 0, locals := 0 }
theorem rmc_X3_row : rm_X3_row.cells = 0 := rfl
theorem rms_X3_row : rm_X3_row.slots = 0 := rfl
theorem ct_X3_row (l : Launch) (htr : l.stackTraces = false) : am_Ct l yX3_row (am_ws yX3_row cX3_row 2 (some .int)) rm_X3_row sp_X3_row := sorry
def sp_X3_narrowInRow : am_S := fun as n E K => ∃ (t r q y : Nat) (P : Nat → Nat → Bool), as = [.ref t, .int (nI y)] ∧ y < 12 ∧ am_sup P ∧ am_so E t r q ∧ am_sr E r P ∧ K (.inl (some (.int (nI (am_bn (am_nrr P y) 12))))) n E
def rm_X3_narrowInRow : Room := { frames := 1, cells := 0, slots := 0, locals := 21 }
theorem rmc_X3_narrowInRow : rm_X3_narrowInRow.cells = 0 := rfl
theorem rms_X3_narrowInRow : rm_X3_narrowInRow.slots = 0 := rfl
theorem ct_X3_narrowInRow (l : Launch) (htr : l.stackTraces = false) : am_Ct l yX3_narrowInRow (am_ws yX3_narrowInRow cX3_narrowInRow 2 (some .int)) rm_X3_narrowInRow sp_X3_narrowInRow := sorry
def sp_X3_longestRun : am_S := fun as n E K => ∃ (b : Nat → Bool), as = [.int (nI (am_bn b 12))] ∧ K (.inl (some (.int (nI (am_lr b 12))))) n E
def rm_X3_longestRun : Room := { frames := 1, cells := 0, slots := 0, locals := 21 }
theorem rmc_X3_longestRun : rm_X3_longestRun.cells = 0 := rfl
theorem rms_X3_longestRun : rm_X3_longestRun.slots = 0 := rfl
theorem ct_X3_longestRun (l : Launch) (htr : l.stackTraces = false) : am_Ct l yX3_longestRun (am_ws yX3_longestRun cX3_longestRun 4 (some .int)) rm_X3_longestRun sp_X3_longestRun := sorry
def sp_X3_has : am_S := fun as n E K => ∃ (t r q : Nat) (x y : Int32) (P : Nat → Nat → Bool), as = [.ref t, .int x, .int y] ∧ am_so E t r q ∧ am_sr E r P ∧ K (.inl (some (.int (if am_hs P x y = true then 1 else 0)))) n E
def rm_X3_has : Room := { frames := 1, cells := 0, slots := 0, locals := 21 }
theorem rmc_X3_has : rm_X3_has.cells = 0 := rfl
theorem rms_X3_has : rm_X3_has.slots = 0 := rfl
theorem ct_X3_has (l : Launch) (htr : l.stackTraces = false) : am_Ct l yX3_has (am_ws yX3_has cX3_has 3 (some .boolean)) rm_X3_has sp_X3_has := sorry
def sp_X3_narrowInColumn : am_S := fun as n E K => ∃ (t r q x : Nat) (P : Nat → Nat → Bool), as = [.ref t, .int (nI x)] ∧ x < 12 ∧ am_sup P ∧ am_so E t r q ∧ am_sr E r P ∧ K (.inl (some (.int (nI (am_bn (am_nrc P x) 12))))) n E
def rm_X3_narrowInColumn : Room := { frames := 2, cells := 0, slots := 0, locals := 43 }
theorem rmc_X3_narrowInColumn : rm_X3_narrowInColumn.cells = 0 := rfl
theorem rms_X3_narrowInColumn : rm_X3_narrowInColumn.slots = 0 := rfl
theorem ct_X3_narrowInColumn (l : Launch) (htr : l.stackTraces = false) : am_Ct l yX3_narrowInColumn (am_ws yX3_narrowInColumn cX3_narrowInColumn 4 (some .int)) rm_X3_narrowInColumn sp_X3_narrowInColumn := sorry
def sp_X3_longestNarrow : am_S := fun as n E K => ∃ (t r q : Nat) (P : Nat → Nat → Bool), as = [.ref t] ∧ am_sup P ∧ am_so E t r q ∧ am_sr E r P ∧ K (.inl (some (.int (nI (am_pt P))))) n E
def rm_X3_longestNarrow : Room := { frames := 3, cells := 0, slots := 0, locals := 66 }
theorem rmc_X3_longestNarrow : rm_X3_longestNarrow.cells = 0 := rfl
theorem rms_X3_longestNarrow : rm_X3_longestNarrow.slots = 0 := rfl
theorem ct_X3_longestNarrow (l : Launch) (htr : l.stackTraces = false) : am_Ct l yX3_longestNarrow (am_ws yX3_longestNarrow cX3_longestNarrow 3 (some .int)) rm_X3_longestNarrow sp_X3_longestNarrow := sorry
def sp_X7_point : am_S := fun as n E K => ∃ (b : Nat) (σ : am_St) (p : Int32), as = [.ref b, .int p] ∧ am_HS b E σ ∧ am_api b n E K (q_point σ p)
def rm_X7_point : Room := { frames := 7, cells := 1, slots := 6, locals := 102 }
theorem rmc_X7_point : rm_X7_point.cells = 1 := rfl
theorem rms_X7_point : rm_X7_point.slots = 6 := rfl
theorem ct_X7_point (l : Launch) (htr : l.stackTraces = false) : am_Ct l yX7_point (am_ws yX7_point cX7_point 2 (some .int)) rm_X7_point sp_X7_point := sorry
def sp_L_point : am_S := fun as n E K => ∃ (b : Nat) (σ : am_St) (p : Int32), as = [.ref b, .int p] ∧ am_HS b E σ ∧ ∀ E', am_HS b E' (q_point σ p).2 → am_kb b 214 E E' → K (.inl (some (.int (v4_w [(x_IO, (-900001 : Int32))] (q_point σ p).1)))) n E'
def rm_L_point : Room := { frames := 8, cells := 1, slots := 6, locals := 123 }
theorem rmc_L_point : rm_L_point.cells = 1 := rfl
theorem rms_L_point : rm_L_point.slots = 6 := rfl
theorem ct_L_point (l : Launch) (htr : l.stackTraces = false) : am_Ct l yL_point (am_wsT yL_point cL_point 3 (some .int) [(0, 5, 6, 25)]) rm_L_point sp_L_point := sorry
def sp_X3_cellCount : am_S := fun as n E K => ∃ (t r q : Nat) (P : Nat → Nat → Bool), as = [.ref t] ∧ am_so E t r q ∧ am_sr E r P ∧ K (.inl (some (.int (nI (am_sz P))))) n E
def rm_X3_cellCount : Room := { frames := 1, cells := 0, slots := 0, locals := 20 }
theorem rmc_X3_cellCount : rm_X3_cellCount.cells = 0 := rfl
theorem rms_X3_cellCount : rm_X3_cellCount.slots = 0 := rfl
theorem ct_X3_cellCount (l : Launch) (htr : l.stackTraces = false) : am_Ct l yX3_cellCount (am_ws yX3_cellCount cX3_cellCount 3 (some .int)) rm_X3_cellCount sp_X3_cellCount := sorry
def sp_X3_grow : am_S := fun as n E K => ∃ (t r q : Nat) (P R : Nat → Nat → Bool), as = [.ref t] ∧ r ≠ q ∧ am_sup P ∧ (∀ x y, R x y = true → P x y = true) ∧ am_so E t r q ∧ am_sr E r P ∧ am_sr E q R ∧ ∀ (S : Nat → Nat → Bool) (g : Int32), am_gi P R S 12 → (g = 0 ∧ S = R ∨ g = 1 ∧ ¬ S = R) → K (.inl (some (.int g))) n (am_u E q (am_rwE S))
def rm_X3_grow : Room := { frames := 0, cells := 0, slots := 0, locals := 0 }
theorem rmc_X3_grow : rm_X3_grow.cells = 0 := rfl
theorem rms_X3_grow : rm_X3_grow.slots = 0 := rfl
theorem ct_X3_grow (l : Launch) (htr : l.stackTraces = false) : am_Ct l yX3_grow (am_ws yX3_grow cX3_grow 6 (some .boolean)) rm_X3_grow sp_X3_grow := sorry
def sp_X3_isWhole : am_S := fun as n E K => ∃ (t r q : Nat) (P Q : Nat → Nat → Bool), as = [.ref t] ∧ r ≠ q ∧ am_sup P ∧ am_sup Q ∧ am_so E t r q ∧ am_sr E r P ∧ am_sr E q Q ∧ ∀ (S : Nat → Nat → Bool), am_sup S → K (.inl (some (.int (if am_wh P = true then 1 else 0)))) n (am_u E q (am_rwE S))
def rm_X3_isWhole : Room := { frames := 1, cells := 0, slots := 0, locals := 25 }
theorem rmc_X3_isWhole : rm_X3_isWhole.cells = 0 := rfl
theorem rms_X3_isWhole : rm_X3_isWhole.slots = 0 := rfl
theorem ct_X3_isWhole (l : Launch) (htr : l.stackTraces = false) : am_Ct l yX3_isWhole (am_ws yX3_isWhole cX3_isWhole 4 (some .boolean)) rm_X3_isWhole sp_X3_isWhole := sorry
def sp_X3_hindrance : am_S := fun as n E K => ∃ (t r q : Nat) (P Q : Nat → Nat → Bool), as = [.ref t] ∧ r ≠ q ∧ am_sup P ∧ am_sup Q ∧ am_so E t r q ∧ am_sr E r P ∧ am_sr E q Q ∧ ∀ (S : Nat → Nat → Bool), am_sup S → K (.inl (some (.int (am_hi P)))) n (am_u E q (am_rwE S))
def rm_X3_hindrance : Room := { frames := 4, cells := 0, slots := 0, locals := 88 }
theorem rmc_X3_hindrance : rm_X3_hindrance.cells = 0 := rfl
theorem rms_X3_hindrance : rm_X3_hindrance.slots = 0 := rfl
theorem ct_X3_hindrance (l : Launch) (htr : l.stackTraces = false) : am_Ct l yX3_hindrance (am_ws yX3_hindrance cX3_hindrance 1 (some .char)) rm_X3_hindrance sp_X3_hindrance := sorry
def sp_X7_hinders : am_S := fun as n E K => ∃ (b : Nat) (σ : am_St) (p : Int32), as = [.ref b, .int p] ∧ am_HS b E σ ∧ am_api b n E K (q_hinders σ p)
def rm_X7_hinders : Room := { frames := 7, cells := 1, slots := 6, locals := 108 }
theorem rmc_X7_hinders : rm_X7_hinders.cells = 1 := rfl
theorem rms_X7_hinders : rm_X7_hinders.slots = 6 := rfl
theorem ct_X7_hinders (l : Launch) (htr : l.stackTraces = false) : am_Ct l yX7_hinders (am_ws yX7_hinders cX7_hinders 2 (some .char)) rm_X7_hinders sp_X7_hinders := sorry
def sp_L_hinders : am_S := fun as n E K => ∃ (b : Nat) (σ : am_St) (p : Int32), as = [.ref b, .int p] ∧ am_HS b E σ ∧ ∀ E', am_HS b E' (q_hinders σ p).2 → am_kb b 214 E E' → K (.inl (some (.int (v4_w [(x_IO, (-900001 : Int32))] (q_hinders σ p).1)))) n E'
def rm_L_hinders : Room := { frames := 8, cells := 1, slots := 6, locals := 129 }
theorem rmc_L_hinders : rm_L_hinders.cells = 1 := rfl
theorem rms_L_hinders : rm_L_hinders.slots = 6 := rfl
theorem ct_L_hinders (l : Launch) (htr : l.stackTraces = false) : am_Ct l yL_hinders (am_wsT yL_hinders cL_hinders 3 (some .int) [(0, 5, 6, 25)]) rm_L_hinders sp_L_hinders := sorry
def sp_X3_partBy : am_S := fun as n E K => ∃ (t r q tn rn qn tf rf qf l : Nat) (P N F : Nat → Nat → Bool), as = [.ref t, .int (nI l), .ref tn, .ref tf] ∧ 1 ≤ l ∧ l < 24 ∧ r ≠ rn ∧ r ≠ rf ∧ rn ≠ rf ∧ am_sup P ∧ am_sup N ∧ am_sup F ∧ am_so E t r q ∧ am_sr E r P ∧ am_so E tn rn qn ∧ am_sr E rn N ∧ am_so E tf rf qf ∧ am_sr E rf F ∧ K (.inl none) n (am_u (am_u E rn (am_rwE (am_pn P l))) rf (am_rwE (am_pf P l)))
def rm_X3_partBy : Room := { frames := 0, cells := 0, slots := 0, locals := 0 }
theorem rmc_X3_partBy : rm_X3_partBy.cells = 0 := rfl
theorem rms_X3_partBy : rm_X3_partBy.slots = 0 := rfl
theorem ct_X3_partBy (l : Launch) (htr : l.stackTraces = false) : am_Ct l yX3_partBy (am_ws yX3_partBy cX3_partBy 6 none) rm_X3_partBy sp_X3_partBy := sorry
def sp_X3_touchesOver : am_S := fun as n E K => ∃ (t r q l : Nat) (P : Nat → Nat → Bool), as = [.ref t, .int (nI l)] ∧ 1 ≤ l ∧ l < 24 ∧ am_sup P ∧ am_so E t r q ∧ am_sr E r P ∧ K (.inl (some (.int (nI (am_tc P l))))) n E
def rm_X3_touchesOver : Room := { frames := 2, cells := 0, slots := 0, locals := 43 }
theorem rmc_X3_touchesOver : rm_X3_touchesOver.cells = 0 := rfl
theorem rms_X3_touchesOver : rm_X3_touchesOver.slots = 0 := rfl
theorem ct_X3_touchesOver (l : Launch) (htr : l.stackTraces = false) : am_Ct l yX3_touchesOver (am_ws yX3_touchesOver cX3_touchesOver 4 (some .int)) rm_X3_touchesOver sp_X3_touchesOver := sorry
def sp_X3_bestLead : am_S := fun as n E K => ∃ (t r q tn rn qn tf rf qf : Nat) (P N F Qn Qf : Nat → Nat → Bool), as = [.ref t, .ref tn, .ref tf] ∧ (r ≠ rn ∧ r ≠ rf ∧ r ≠ qn ∧ r ≠ qf ∧ rn ≠ rf ∧ rn ≠ qn ∧ rn ≠ qf ∧ rf ≠ qn ∧ rf ≠ qf ∧ qn ≠ qf) ∧ am_sup P ∧ am_sup N ∧ am_sup F ∧ am_sup Qn ∧ am_sup Qf ∧ am_so E t r q ∧ am_sr E r P ∧ am_so E tn rn qn ∧ am_sr E rn N ∧ am_sr E qn Qn ∧ am_so E tf rf qf ∧ am_sr E rf F ∧ am_sr E qf Qf ∧
  ∀ (E' : am_E) (N F Qn Qf : Nat → Nat → Bool), am_ke [rn, rf, qn, qf] E E' → am_sup N → am_sup F → am_sup Qn → am_sup Qf → am_sr E' rn N → am_sr E' rf F → am_sr E' qn Qn → am_sr E' qf Qf → K (.inl (some (.int (am_bl P)))) n E'
def rm_X3_bestLead : Room := { frames := 5, cells := 0, slots := 0, locals := 108 }
theorem rmc_X3_bestLead : rm_X3_bestLead.cells = 0 := rfl
theorem rms_X3_bestLead : rm_X3_bestLead.slots = 0 := rfl
theorem ct_X3_bestLead (l : Launch) (htr : l.stackTraces = false) : am_Ct l yX3_bestLead (am_ws yX3_bestLead cX3_bestLead 6 (some .int)) rm_X3_bestLead sp_X3_bestLead := sorry
def sp_X5_piecesWithCells : am_S := fun as n E K => ∃ (t c : Nat) (f : Nat → Int32), as = [.ref t] ∧ am_wok f ∧ am_wl E t c f ∧ K (.inl (some (.int (nI (am_bn (am_hp f 144) 30))))) n E
def rm_X5_piecesWithCells : Room := { frames := 0, cells := 0, slots := 0, locals := 0 }
theorem rmc_X5_piecesWithCells : rm_X5_piecesWithCells.cells = 0 := rfl
theorem rms_X5_piecesWithCells : rm_X5_piecesWithCells.slots = 0 := rfl
theorem ct_X5_piecesWithCells (l : Launch) (htr : l.stackTraces = false) : am_Ct l yX5_piecesWithCells (am_ws yX5_piecesWithCells cX5_piecesWithCells 3 (some .int)) rm_X5_piecesWithCells sp_X5_piecesWithCells := sorry
def sp_X7_lowestWithoutCells : am_S := fun as n E K => ∃ (b : Nat) (σ : am_St), as = [.ref b] ∧ am_HS b E σ ∧ K (.inl (some (.int (if am_fst (fun p => !am_hp (st_f σ) 144 p) 30 < 30 then nI (am_fst (fun p => !am_hp (st_f σ) 144 p) 30) else -1)))) n E
def rm_X7_lowestWithoutCells : Room := { frames := 1, cells := 0, slots := 0, locals := 22 }
theorem rmc_X7_lowestWithoutCells : rm_X7_lowestWithoutCells.cells = 0 := rfl
theorem rms_X7_lowestWithoutCells : rm_X7_lowestWithoutCells.slots = 0 := rfl
theorem ct_X7_lowestWithoutCells (l : Launch) (htr : l.stackTraces = false) : am_Ct l yX7_lowestWithoutCells (am_ws yX7_lowestWithoutCells cX7_lowestWithoutCells 3 (some .int)) rm_X7_lowestWithoutCells sp_X7_lowestWithoutCells := sorry
def sp_X5_putShape : am_S := fun as n E K => ∃ (t c : Nat) (f : Nat → Int32) (v : Int32) (tS r q : Nat) (P : Nat → Nat → Bool), as = [.ref t, .ref tS, .int v] ∧ c ≠ r ∧ am_sup P ∧ am_wl E t c f ∧ am_so E tS r q ∧ am_sr E r P ∧ K (.inl none) n (am_u E c (.inl (0, 144, .inl (am_put f P v))))
def rm_X5_putShape : Room := { frames := 2, cells := 0, slots := 0, locals := 44 }
theorem rmc_X5_putShape : rm_X5_putShape.cells = 0 := rfl
theorem rms_X5_putShape : rm_X5_putShape.slots = 0 := rfl
theorem ct_X5_putShape (l : Launch) (htr : l.stackTraces = false) : am_Ct l yX5_putShape (am_ws yX5_putShape cX5_putShape 5 none) rm_X5_putShape sp_X5_putShape := sorry
def sp_X2_wantLike : am_S := fun as n E K => ∃ (t p y : Nat) (wc wk st co yr : Int32) (t' p' y' : Nat) (wc' wk' st' co' yr' : Int32), as = [.ref t, .ref t'] ∧ am_pn0 E t wc wk st co yr p y ∧ am_pn0 E t' wc' wk' st' co' yr' p' y' ∧ am_ch wk' ∧ K (.inl none) n (am_u E t (.inr (2, [.int wc', .int wk', .int st, .int co, .int yr, .ref p, .ref y])))
def rm_X2_wantLike : Room := { frames := 0, cells := 0, slots := 0, locals := 0 }
theorem rmc_X2_wantLike : rm_X2_wantLike.cells = 0 := rfl
theorem rms_X2_wantLike : rm_X2_wantLike.slots = 0 := rfl
theorem ct_X2_wantLike (l : Launch) (htr : l.stackTraces = false) : am_Ct l yX2_wantLike (am_ws yX2_wantLike cX2_wantLike 2 none) rm_X2_wantLike sp_X2_wantLike := sorry
def sp_X7_split : am_S := fun as n E K => ∃ (b : Nat) (σ : am_St) (p : Int32), as = [.ref b, .int p] ∧ am_HS b E σ ∧ am_api b n E K (q_split σ p)
def rm_X7_split : Room := { frames := 7, cells := 2, slots := 12, locals := 133 }
theorem rmc_X7_split : rm_X7_split.cells = 2 := rfl
theorem rms_X7_split : rm_X7_split.slots = 12 := rfl
theorem ct_X7_split (l : Launch) (htr : l.stackTraces = false) : am_Ct l yX7_split (am_ws yX7_split cX7_split 4 (some .int)) rm_X7_split sp_X7_split := sorry
def sp_L_split : am_S := fun as n E K => ∃ (b : Nat) (σ : am_St) (p : Int32), as = [.ref b, .int p] ∧ am_HS b E σ ∧ ∀ E', am_HS b E' (q_split σ p).2 → am_kb b 214 E E' → K (.inl (some (.int (v4_w [(x_IO, (-900001 : Int32)), (x_UO, (-900002 : Int32)), (x_IS, (-900003 : Int32))] (q_split σ p).1)))) n E'
def rm_L_split : Room := { frames := 8, cells := 2, slots := 12, locals := 156 }
theorem rmc_L_split : rm_L_split.cells = 2 := rfl
theorem rms_L_split : rm_L_split.slots = 12 := rfl
theorem ct_L_split (l : Launch) (htr : l.stackTraces = false) : am_Ct l yL_split (am_wsT yL_split cL_split 3 (some .int) [(0, 5, 6, 25), (0, 5, 10, 18), (0, 5, 14, 49)]) rm_L_split sp_L_split := sorry
def sp_X7_meanCells : am_S := fun as n E K => ∃ (b : Nat) (σ : am_St), as = [.ref b] ∧ am_HS b E σ ∧ am_api b n E K (q_meanCells σ)
def rm_X7_meanCells : Room := { frames := 6, cells := 1, slots := 6, locals := 82 }
theorem rmc_X7_meanCells : rm_X7_meanCells.cells = 1 := rfl
theorem rms_X7_meanCells : rm_X7_meanCells.slots = 6 := rfl
theorem ct_X7_meanCells (l : Launch) (htr : l.stackTraces = false) : am_Ct l yX7_meanCells (am_ws yX7_meanCells cX7_meanCells 3 (some .double)) rm_X7_meanCells sp_X7_meanCells := sorry
def sp_X4_usedCells : am_S := fun as n E K => ∃ (t u : Nat) (co w h sk : Int32) (U : Nat → Nat → Bool), as = [.ref t] ∧ am_sh0 E t co w h sk u ∧ am_sr E u U ∧ K (.inl (some (.int (nI (am_sz U))))) n E
def rm_X4_usedCells : Room := { frames := 1, cells := 0, slots := 0, locals := 20 }
theorem rmc_X4_usedCells : rm_X4_usedCells.cells = 0 := rfl
theorem rms_X4_usedCells : rm_X4_usedCells.slots = 0 := rfl
theorem ct_X4_usedCells (l : Launch) (htr : l.stackTraces = false) : am_Ct l yX4_usedCells (am_ws yX4_usedCells cX4_usedCells 3 (some .int)) rm_X4_usedCells sp_X4_usedCells := sorry
def sp_X5_bitOf : am_S := fun as n E K => ∃ (w : Int32) (p : Nat), as = [.int w, .int (nI p)] ∧ p < 30 ∧ am_wv w ∧ K (.inl (some (.int (nI (am_bn (am_btb w p) 31))))) n E
def rm_X5_bitOf : Room := { frames := 0, cells := 0, slots := 0, locals := 0 }
theorem rmc_X5_bitOf : rm_X5_bitOf.cells = 0 := rfl
theorem rms_X5_bitOf : rm_X5_bitOf.slots = 0 := rfl
theorem ct_X5_bitOf (l : Launch) (htr : l.stackTraces = false) : am_Ct l yX5_bitOf (am_ws yX5_bitOf cX5_bitOf 2 (some .int)) rm_X5_bitOf sp_X5_bitOf := sorry
def sp_X5_waitsInto : am_S := fun as n E K => ∃ (t c a : Nat) (f g : Nat → Int32), as = [.ref t, .ref a] ∧ c ≠ a ∧ am_wok f ∧ am_wl E t c f ∧ E a = some (.inl (0, 30, .inl g)) ∧ ∀ g' : Nat → Int32, (∀ p, p < 30 → g' p = nI (am_bn (am_wtb f 144 p) 31)) → K (.inl none) n (am_u E a (.inl (0, 30, .inl g')))
def rm_X5_waitsInto : Room := { frames := 2, cells := 0, slots := 0, locals := 43 }
theorem rmc_X5_waitsInto : rm_X5_waitsInto.cells = 0 := rfl
theorem rms_X5_waitsInto : rm_X5_waitsInto.slots = 0 := rfl
theorem ct_X5_waitsInto (l : Launch) (htr : l.stackTraces = false) : am_Ct l yX5_waitsInto (am_ws yX5_waitsInto cX5_waitsInto 5 none) rm_X5_waitsInto sp_X5_waitsInto := sorry
def sp_X7_panesThatAre : am_S := fun as n E K => ∃ (b : Nat) (σ : am_St) (c : Nat), as = [.ref b, .int (nI c)] ∧ c < 2 ^ 31 ∧ am_HS b E σ ∧ K (.inl (some (.int (nI (am_bn (fun p => decide (σ 3 p 0 = c)) 30))))) n E
def rm_X7_panesThatAre : Room := { frames := 0, cells := 0, slots := 0, locals := 0 }
theorem rmc_X7_panesThatAre : rm_X7_panesThatAre.cells = 0 := rfl
theorem rms_X7_panesThatAre : rm_X7_panesThatAre.slots = 0 := rfl
theorem ct_X7_panesThatAre (l : Launch) (htr : l.stackTraces = false) : am_Ct l yX7_panesThatAre (am_ws yX7_panesThatAre cX7_panesThatAre 4 (some .int)) rm_X7_panesThatAre sp_X7_panesThatAre := sorry
def sp_X7_isCuttable : am_S := fun as n E K => ∃ (b : Nat) (σ : am_St) (p : Nat), as = [.ref b, .int (nI p)] ∧ p < 30 ∧ am_HS b E σ ∧ ∀ (c : Bool) (E' : am_E), am_HS b E' σ → am_kb b 214 E E' → (∀ k, k ≠ b + 7 → k ≠ b + 8 → E' k = E k) → K (.inl (some (.int (if c = true then 1 else 0)))) n E'
def rm_X7_isCuttable : Room := { frames := 3, cells := 0, slots := 0, locals := 67 }
theorem rmc_X7_isCuttable : rm_X7_isCuttable.cells = 0 := rfl
theorem rms_X7_isCuttable : rm_X7_isCuttable.slots = 0 := rfl
theorem ct_X7_isCuttable (l : Launch) (htr : l.stackTraces = false) : am_Ct l yX7_isCuttable (am_ws yX7_isCuttable cX7_isCuttable 2 (some .boolean)) rm_X7_isCuttable sp_X7_isCuttable := sorry
def sp_X1_rawLayers : am_S := fun as n E K => ∃ (t r f : Nat) (R F : Nat → Nat), as = [.ref t] ∧ am_po E t r f R F ∧ K (.inl (some (.int (nI (fb_sm R 4))))) n E
def rm_X1_rawLayers : Room := { frames := 0, cells := 0, slots := 0, locals := 0 }
theorem rmc_X1_rawLayers : rm_X1_rawLayers.cells = 0 := rfl
theorem rms_X1_rawLayers : rm_X1_rawLayers.slots = 0 := rfl
theorem ct_X1_rawLayers (l : Launch) (htr : l.stackTraces = false) : am_Ct l yX1_rawLayers (am_ws yX1_rawLayers cX1_rawLayers 3 (some .int)) rm_X1_rawLayers sp_X1_rawLayers := sorry
def sp_X7_isSound : am_S := fun as n E K => ∃ (b : Nat) (σ : am_St), as = [.ref b] ∧ am_HS b E σ ∧ v4_ok σ ∧ ∀ E' : am_E, am_HS b E' σ → am_kb b 214 E E' → K (.inl (some (.int 1))) n E'
def rm_X7_isSound : Room := { frames := 4, cells := 0, slots := 0, locals := 88 }
theorem rmc_X7_isSound : rm_X7_isSound.cells = 0 := rfl
theorem rms_X7_isSound : rm_X7_isSound.slots = 0 := rfl
theorem ct_X7_isSound (l : Launch) (htr : l.stackTraces = false) : am_Ct l yX7_isSound (am_ws yX7_isSound cX7_isSound 5 (some .boolean)) rm_X7_isSound sp_X7_isSound := sorry
