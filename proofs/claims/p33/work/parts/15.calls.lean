/-! ===== what the calls answer, and do to the state ===== -/
def am_pc (σ : am_St) (p : Int32) (v : Int32) : am_R := if am_pcb p = true then r_i v σ else r_x x_IO σ
def q_pieceAt (σ : am_St) (x y : Int32) : am_R := if am_insb x y = true then r_i (am_at (st_f σ) x y) σ else r_x x_IA σ
def q_size (σ : am_St) (p : Int32) : am_R := am_pc σ p (nI (fb_ct (fun k => decide (st_f σ k = p)) 144))
def q_corners (σ : am_St) (p : Int32) : am_R := am_pc σ p (nI (am_co (am_shp (st_f σ) p)))
def q_point (σ : am_St) (p : Int32) : am_R := am_pc σ p (nI (am_pt (am_shp (st_f σ) p)))
noncomputable def q_hinders (σ : am_St) (p : Int32) : am_R := am_pc σ p (am_hi (am_shp (st_f σ) p))
def q_lead (σ : am_St) : am_R := r_i (nI (am_lsd (st_f σ))) σ
def q_joints (σ : am_St) : am_R := r_i (nI (am_mts (st_f σ))) σ
def am_shs (σ : am_St) (c w h s : Nat) : am_St := am_st1 (am_st1 (am_st1 (am_st1 (am_st1 σ 9 (σ 15 0 0) c) 10 (σ 15 0 0) w) 11 (σ 15 0 0) h) 12 (σ 15 0 0) s) 15 0 (σ 15 0 0 + 1)
def q_sheet (σ : am_St) (c w h s : Int32) : am_R := if (0 ≤ c ∧ ¬ 10 ≤ c) ∧ (1 ≤ w ∧ w ≤ 12) ∧ (1 ≤ h ∧ h ≤ 12) ∧ (s = 104 ∨ s = 118) then (if σ 15 0 0 < 8 then r_i (nI (σ 15 0 0)) (am_shs σ c.toNatClampNeg w.toNatClampNeg h.toNatClampNeg s.toNatClampNeg) else r_x x_IS σ) else r_x x_IA σ
def q_free (σ : am_St) (s : Int32) : am_R := if 0 ≤ s ∧ ¬ nI (σ 15 0 0) ≤ s then r_i (nI (σ 10 s.toNatClampNeg 0) * nI (σ 11 s.toNatClampNeg 0) - nI (am_sz (st_u σ s.toNatClampNeg))) σ else r_x x_IO σ
def q_want (σ : am_St) (p c k : Int32) : am_R := if am_pcb p = true then (if (0 ≤ c ∧ ¬ 10 ≤ c) ∧ (k = 45 ∨ k = 104 ∨ k = 118) then (if σ 15 4 0 = 0 ∧ σ 3 p.toNatClampNeg 0 = 45 then r_i (if nI (σ 1 p.toNatClampNeg 0) = c ∧ nI (σ 2 p.toNatClampNeg 0) = k then 1 else 0) (am_st1 (am_st1 σ 1 p.toNatClampNeg c.toNatClampNeg) 2 p.toNatClampNeg k.toNatClampNeg) else r_x x_UO σ) else r_x x_IA σ) else r_x x_IO σ
def q_glass (σ : am_St) (p : Int32) : am_R := am_pc σ p (nI (σ 3 p.toNatClampNeg 0))
def am_gl (σ : am_St) (p : Int32) (v : Int32) : am_R := if am_pcb p = true then (if σ 3 p.toNatClampNeg 0 = 45 then r_x x_NE σ else r_i v σ) else r_x x_IO σ
def q_colour (σ : am_St) (p : Int32) : am_R := am_gl σ p (nI (σ 4 p.toNatClampNeg 0))
def q_year (σ : am_St) (p : Int32) : am_R := am_gl σ p (nI (σ 5 p.toNatClampNeg 0))
def q_layers (σ : am_St) (p h : Int32) : am_R := if am_pcb p = true then (if h = 114 ∨ h = 102 then r_i (if h = 114 then nI (fb_sm (σ 6 p.toNatClampNeg) 4) else nI (fb_sm (σ 7 p.toNatClampNeg) 4)) σ else r_x x_IA σ) else r_x x_IO σ
def q_seed (σ : am_St) (z : Int32) : am_R := if 1 ≤ z ∧ z ≤ 2147483646 then r_i (nI (σ 15 6 0)) (am_st1 σ 15 6 z.toNatClampNeg) else r_x x_IA σ
def q_isUp (σ : am_St) : am_R := r_i (nI (σ 15 4 0)) σ
def q_bar (σ : am_St) (r : Int32) (v : Bool) : am_R := if 1 ≤ r ∧ r ≤ 11 then r_i (if st_b σ r.toNatClampNeg = true then 1 else 0) (am_st1 σ 14 r.toNatClampNeg (am_b2 v)) else r_x x_IA σ
def q_profile (σ : am_St) (p : Int32) : am_R := if 1 ≤ p ∧ p ≤ 4 then (if σ 15 4 0 = 0 then r_i (nI (σ 15 1 0)) (am_st1 σ 15 1 p.toNatClampNeg) else r_x x_UO σ) else r_x x_IA σ
def q_wind (σ : am_St) (w : Int32) : am_R := if 0 ≤ w ∧ w ≤ 100 then r_i (nI (σ 15 2 0)) (am_st1 σ 15 2 w.toNatClampNeg) else r_x x_IA σ
def am_yu (σ : am_St) : Nat := if σ 15 4 0 = 0 then 0 else σ 15 3 0 - σ 15 5 0
def am_bs (σ : am_St) : Nat := am_brn (st_b σ) (σ 15 2 0) (σ 15 1 0) 12 + am_yu σ / 10
def q_bears (σ : am_St) : am_R := r_i (nI (am_bs σ)) σ
def q_stands (σ : am_St) : am_R := r_i (if nI (am_bs σ) ≤ 100 then 1 else 0) σ
def q_years (σ : am_St) (y : Int32) : am_R := if 1 ≤ y ∧ y ≤ 500 then (if σ 15 3 0 + y.toNatClampNeg ≤ 2000 then r_i (nI (σ 15 3 0 + y.toNatClampNeg)) (am_st1 σ 15 3 (σ 15 3 0 + y.toNatClampNeg)) else r_x x_IS σ) else r_x x_IA σ
/-! on a new hall -/
def z_pc (p : Int32) (C : String) : am_R := if am_pcb p = true then r_x C am_s0 else r_x x_IO am_s0
def z_lay (p l lo r h : Int32) : am_R := if am_pcb p = true then (if am_rngb l lo r h = true then r_x x_UO am_s0 else r_x x_IA am_s0) else r_x x_IO am_s0
def z_paint (p c : Int32) : am_R := if am_pcb p = true then (if am_kd c < 0 then r_x x_IA am_s0 else r_x x_UO am_s0) else r_x x_IO am_s0
def z_fire (a : Nat) (d : Int32) : am_R := if a ≠ 0 ∧ fb_ct a.testBit 32 ≤ 6 ∧ a < 2 ^ 30 ∧ 500 ≤ d ∧ d ≤ 700 then r_x x_UO am_s0 else r_x x_IA am_s0
def z_looks (x y h : Int32) : am_R := if am_insb x y = true ∧ 0 ≤ h ∧ h ≤ 23 then r_i 0 am_s0 else r_x x_IA am_s0
def z_hit (x y : Int32) : am_R := if am_insb x y = true then r_x x_UO am_s0 else r_x x_IA am_s0
def z_sum : Nat → Int64 → Int64
  | 0, s => s
  | n + 1, s => 31 * z_sum n s + (-2 : Int32).toInt64
def z_sum2 : Nat → Int64 → Int64
  | 0, s => s
  | n + 1, s => 31 * (31 * z_sum2 n s + (45 : Int32).toInt64) + (0 : Int32).toInt64
def am_cnt (l r lo h : Nat) (b : Bool) : Nat := if b = true then (h + 1 - lo) * (r + 1 - l) else 0
def am_ope (l lo r h : Nat) (b : Bool) : am_St := am_st am_s0 0 (fun k _ => if b = true ∧ l ≤ k % 12 ∧ k % 12 ≤ r ∧ lo ≤ k / 12 ∧ k / 12 ≤ h ∧ k < 144 then 1 else if k < 144 then 0 else 2)
def z_open (l lo r h : Int32) (b : Bool) : am_R := if am_rngb l lo r h = true then r_i (nI (am_cnt l.toNatClampNeg r.toNatClampNeg lo.toNatClampNeg h.toNatClampNeg b)) (am_ope l.toNatClampNeg lo.toNatClampNeg r.toNatClampNeg h.toNatClampNeg b) else r_x x_IA am_s0
