noncomputable def am_pgf (A B : Nat → Int32) (a d c j i : Nat) : Nat → Int32 := fun k => @ite _ (am_pgp a d c j i k) (Classical.propDecidable _) (A k) (B k)
theorem am_pgf_p {A B : Nat → Int32} {a d c j i k : Nat} (h : am_pgp a d c j i k) : am_pgf A B a d c j i k = A k := by unfold am_pgf; rw [if_pos h]
theorem am_pgf_n {A B : Nat → Int32} {a d c j i k : Nat} (h : ¬ am_pgp a d c j i k) : am_pgf A B a d c j i k = B k := by unfold am_pgf; rw [if_neg h]
theorem am_pgf_cg {A B : Nat → Int32} {a d c j i j' i' : Nat} (h : ∀ k, am_pgp a d c j i k ↔ am_pgp a d c j' i' k) : am_pgf A B a d c j i = am_pgf A B a d c j' i' := by
  funext k
  by_cases q : am_pgp a d c j i k
  · rw [am_pgf_p q, am_pgf_p ((h k).mp q)]
  · rw [am_pgf_n q, am_pgf_n (fun r => q ((h k).mpr r))]
theorem am_pgf_0 (A B : Nat → Int32) (a d c : Nat) : am_pgf A B a d c 0 0 = B := by
  funext k
  exact am_pgf_n (fun q => by unfold am_pgp at q; omega)
theorem am_pgf_row {A B : Nat → Int32} {a d c j : Nat} (h : a ≤ d) : am_pgf A B a d c j (d + 1 - a) = am_pgf A B a d c (j + 1) 0 := am_pgf_cg (fun k => by unfold am_pgp; omega)
theorem am_pgf_at {A B : Nat → Int32} {a d c j i : Nat} (hi : a + i < 12) : am_pgf A B a d c j i (12 * (c + j) + (a + i)) = B (12 * (c + j) + (a + i)) := am_pgf_n (fun q => by
  unfold am_pgp at q
  have e1 : (12 * (c + j) + (a + i)) % 12 = a + i := by omega
  have e2 : (12 * (c + j) + (a + i)) / 12 = c + j := by omega
  rw [e1, e2] at q
  omega)
theorem am_pgp_s {a d c j i k : Nat} (hi : a + i ≤ d) (hd : d < 12) (hj : c + j < 12) : am_pgp a d c j (i + 1) k ↔ k = 12 * (c + j) + (a + i) ∨ am_pgp a d c j i k := by
  unfold am_pgp
  constructor
  · intro q
    by_cases e : k = 12 * (c + j) + (a + i)
    · exact Or.inl e
    · exact Or.inr (by omega)
  · intro q
    rcases q with rfl | q
    · have e1 : (12 * (c + j) + (a + i)) % 12 = a + i := by omega
      have e2 : (12 * (c + j) + (a + i)) / 12 = c + j := by omega
      rw [e1, e2]
      omega
    · omega
theorem am_pgf_s {A B : Nat → Int32} {a d c j i : Nat} {v : Int32} (hi : a + i ≤ d) (hd : d < 12) (hj : c + j < 12) (hv : v = A (12 * (c + j) + (a + i))) : upd (am_pgf A B a d c j i) (12 * (c + j) + (a + i)) v = am_pgf A B a d c j (i + 1) := by
  funext k
  by_cases e : k = 12 * (c + j) + (a + i)
  · rw [am_pgf_p ((am_pgp_s hi hd hj).mpr (Or.inl e))]
    simp [upd, e, hv]
  · simp only [upd, e, if_false]
    by_cases q : am_pgp a d c j i k
    · rw [am_pgf_p q, am_pgf_p ((am_pgp_s hi hd hj).mpr (Or.inr q))]
    · rw [am_pgf_n q, am_pgf_n (fun r => ((am_pgp_s hi hd hj).mp r).elim e q)]
theorem am_pgf_same {A B : Nat → Int32} {a d c j i : Nat} (hi : a + i ≤ d) (hd : d < 12) (hj : c + j < 12) (hv : A (12 * (c + j) + (a + i)) = B (12 * (c + j) + (a + i))) : am_pgf A B a d c j (i + 1) = am_pgf A B a d c j i := by
  funext k
  by_cases q : am_pgp a d c j i k
  · rw [am_pgf_p q, am_pgf_p ((am_pgp_s hi hd hj).mpr (Or.inr q))]
  · rw [am_pgf_n q]
    by_cases e : k = 12 * (c + j) + (a + i)
    · rw [am_pgf_p ((am_pgp_s hi hd hj).mpr (Or.inl e)), e, hv]
    · rw [am_pgf_n (fun r => ((am_pgp_s hi hd hj).mp r).elim e q)]
def am_inr (a c d f k : Nat) : Bool := decide (a ≤ k % 12 ∧ k % 12 ≤ d ∧ c ≤ k / 12 ∧ k / 12 ≤ f ∧ k < 144)
theorem am_pgf_end {A B : Nat → Int32} {a d c f : Nat} (hf : c ≤ f) : am_pgf A B a d c (f + 1 - c) 0 = fun k => if am_inr a c d f k = true then A k else B k := by
  funext k
  by_cases q : am_inr a c d f k = true
  · rw [if_pos q]
    have q := of_decide_eq_true q
    exact am_pgf_p (by unfold am_pgp; omega)
  · rw [if_neg q]
    have q : ¬ (a ≤ k % 12 ∧ k % 12 ≤ d ∧ c ≤ k / 12 ∧ k / 12 ≤ f ∧ k < 144) := fun r => q (decide_eq_true r)
    exact am_pgf_n (by unfold am_pgp; omega)
def am_nw (v : Bool) (x : Nat) : Nat := if v = true then (if x = 0 then 1 else x) else 0
def am_opn (σ : am_St) (a c d f : Nat) (v : Bool) : am_St := am_st σ 0 (fun k _ => if am_inr a c d f k = true then am_nw v (σ 0 k 0) else σ 0 k 0)
def am_och (σ : am_St) (v : Bool) (k : Nat) : Bool := decide (¬ am_op1 σ k = v)
def am_ocn (σ : am_St) (a c d f : Nat) (v : Bool) : Nat := fb_sm (fun j => fb_ct (fun i => am_och σ v (12 * (c + j) + (a + i))) (d + 1 - a)) (f + 1 - c)
def q_open (σ : am_St) (l lo r hi : Int32) (v : Bool) : am_R := if am_rngb l lo r hi = true then (if ¬ σ 15 4 0 = 0 ∨ am_rga (am_gl1 σ) l.toNatClampNeg lo.toNatClampNeg r.toNatClampNeg hi.toNatClampNeg = true then r_x x_UO σ else r_i (nI (am_ocn σ l.toNatClampNeg lo.toNatClampNeg r.toNatClampNeg hi.toNatClampNeg v)) (am_opn σ l.toNatClampNeg lo.toNatClampNeg r.toNatClampNeg hi.toNatClampNeg v)) else r_x x_IA σ
def am_lyn (σ : am_St) (p a c d f : Nat) : am_St := am_st σ 0 (fun k _ => if am_inr a c d f k = true then (if σ 0 k 0 = 0 then 0 else p + 2) else σ 0 k 0)
def q_lay (σ : am_St) (p l lo r hi : Int32) : am_R := if am_pcb p = true then (if am_rngb l lo r hi = true then (if ¬ σ 15 4 0 = 0 ∨ ¬ σ 3 p.toNatClampNeg 0 = 45 ∨ am_rga (am_gl1 σ) l.toNatClampNeg lo.toNatClampNeg r.toNatClampNeg hi.toNatClampNeg = true ∨ am_rga (am_op1 σ) l.toNatClampNeg lo.toNatClampNeg r.toNatClampNeg hi.toNatClampNeg = false then r_x x_UO σ else r_i (nI (fb_ct (fun k => decide (st_f (am_lyn σ p.toNatClampNeg l.toNatClampNeg lo.toNatClampNeg r.toNatClampNeg hi.toNatClampNeg) k = p)) 144)) (am_lyn σ p.toNatClampNeg l.toNatClampNeg lo.toNatClampNeg r.toNatClampNeg hi.toNatClampNeg)) else r_x x_IA σ) else r_x x_IO σ
theorem am_cv_2 (x : Nat) (hx : x < 1000) : (am_cv x = -2) = (x = 0) := by
  apply propext
  constructor
  · intro q
    by_cases h0 : x = 0
    · exact h0
    · unfold am_cv at q
      rw [if_neg h0] at q
      by_cases a3 : x = 1
      · rw [if_pos a3] at q
        exact absurd q (by decide)
      · rw [if_neg a3] at q
        exact absurd q (am_m2 (show x - 2 < 1000 by omega))
  · rintro rfl
    rfl
