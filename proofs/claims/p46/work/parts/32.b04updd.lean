def v4_ch (σ : am_St) (k9 k : Nat) : Bool := if k9 < 2 then am_och σ (decide (k9 = 0)) k else false
def v4_nv (σ : am_St) (k9 p k : Nat) : Int32 := if k9 < 2 then am_cv (am_nw (decide (k9 = 0)) (σ 0 k 0)) else am_cv (if σ 0 k 0 = 0 then 0 else p + 2)
def v4_s (W : Nat → Bool) (a c d : Nat) (j : Nat) : Nat := fb_sm (fun j => fb_ct (fun i => W (12 * (c + j) + (a + i))) (d + 1 - a)) j
theorem v4_s1 (W : Nat → Bool) (a c d j : Nat) : v4_s W a c d (j + 1) = v4_s W a c d j + fb_ct (fun i => W (12 * (c + j) + (a + i))) (d + 1 - a) := rfl
theorem v4_ct1 (b : Nat → Bool) (i : Nat) : fb_ct b (i + 1) = fb_ct b i + (if b i then 1 else 0) := rfl
