/-! ===== the law's start: what the walk stands on ===== -/
theorem lw_arr {s : State} {args : Array Value} {ty : FieldType} (h : (Cond.arrayClass ty).before args s = true) : ∃ cA : ClassId, ArrOfT s cA ty ∧ s.vm.findClass ("[" ++ ty.toString) = some cA := by
  obtain ⟨c, k, comp, h1, h2, h3⟩ := Cond.arrayClass_spec h
  exact ⟨c, fun n z => ⟨(fun k h => by cases h), k, h2, comp, h3⟩, h1⟩
theorem lw_arrO {s : State} {C : String} (h : va_AO C s) : ∃ cA : ClassId, ArrOfT s cA (.object C) ∧ va_RA s cA (.object C) := by
  obtain ⟨comp, c, k, h1, -, h3, h4, h5⟩ := Cond.arrayOver_spec h
  exact ⟨c, fun n z => ⟨(fun k h => by cases h), k, h3, comp, h4⟩, k, comp, h3, h4, h1, h5⟩
theorem lw_arrA {s : State} {ty : FieldType} (h : va_AOA ty s) : ∃ cA : ClassId, ArrOfT s cA (.array ty) ∧ s.vm.findClass ("[" ++ (FieldType.array ty).toString) = some cA := by
  obtain ⟨comp, c, k, h1, -, h3, h4, h5⟩ := va_AOA.spec h
  exact ⟨c, fun n z => ⟨(fun k h => by cases h), k, h3, comp, h4⟩, h5⟩
/-- the arrays' classes -/
theorem lw_dA {s : State} {args : Array Value} (hts : ∀ w ∈ lw_tbl, w.before args s = true) : ∃ dA : Nat → Nat, ∀ (k : Nat) (q : ClassId × FieldType), (am_tys dA)[k]? = some q → ArrOfT s q.1 q.2 ∧ va_RA s q.1 q.2 := by
  obtain ⟨c0, a0, b0⟩ := lw_arr (hts (.arrayClass .int) (am_tb1 (List.mem_of_getElem? (i := 44) rfl)))
  obtain ⟨c1, a1, b1⟩ := lw_arr (hts (.arrayClass .long) (am_tb1 (List.mem_of_getElem? (i := 90) rfl)))
  obtain ⟨c2, a2, b2⟩ := lw_arr (hts (.arrayClass .char) (am_tb5 (List.mem_of_getElem? (i := 131) rfl)))
  obtain ⟨c3, a3, b3⟩ := lw_arr (hts (.arrayClass .boolean) (am_tb5 (List.mem_of_getElem? (i := 132) rfl)))
  obtain ⟨c4, a4, b4⟩ := lw_arr (hts (.arrayClass .double) (am_tb7 (List.mem_of_getElem? (i := 72) rfl)))
  obtain ⟨c5, a5, b5⟩ := lw_arrO (C := "LeadlightHall$Pane") (hts (.arrayOver (.object "LeadlightHall$Pane")) (am_tb1 (List.mem_of_getElem? (i := 46) rfl)))
  obtain ⟨c6, a6, b6⟩ := lw_arrO (C := "LeadlightHall$Sheet") (hts (.arrayOver (.object "LeadlightHall$Sheet")) (am_tb1 (List.mem_of_getElem? (i := 48) rfl)))
  obtain ⟨c7, a7, b7⟩ := lw_arrA (ty := .char) (hts (.arrayOver (.array .char)) (am_tb5 (List.mem_of_getElem? (i := 59) rfl)))
  obtain ⟨c8, a8, b8⟩ := lw_arrA (ty := .boolean) (hts (.arrayOver (.array .boolean)) (am_tb5 (List.mem_of_getElem? (i := 61) rfl)))
  obtain ⟨c9, a9, b9⟩ := lw_arrA (ty := .int) (hts (.arrayOver (.array .int)) (am_tb5 (List.mem_of_getElem? (i := 63) rfl)))
  refine ⟨fun k => [c0, c1, c2, c3, c4, c5, c6, c7, c8, c9].getD k c0, ?_⟩
  intro k q hq
  match k, hq with
  | 0, hq => cases hq; exact ⟨a0, b0⟩
  | 1, hq => cases hq; exact ⟨a1, b1⟩
  | 2, hq => cases hq; exact ⟨a2, b2⟩
  | 3, hq => cases hq; exact ⟨a3, b3⟩
  | 4, hq => cases hq; exact ⟨a4, b4⟩
  | 5, hq => cases hq; exact ⟨a5, b5⟩
  | 6, hq => cases hq; exact ⟨a6, b6⟩
  | 7, hq => cases hq; exact ⟨a7, b7⟩
  | 8, hq => cases hq; exact ⟨a8, b8⟩
  | 9, hq => cases hq; exact ⟨a9, b9⟩
  | k + 10, hq => simp [am_tys] at hq
/-- the classes -/
theorem lw_dC {s : State} {args : Array Value} (hts : ∀ w ∈ lw_tbl, w.before args s = true) : ∃ D : va_G, ∀ (k : Nat) (q : vw_C), vwCl[k]? = some q → u_Kn s q.1 q.2.1 q.2.2 (D.1 k) (D.2 k) := by
  have tt : ∀ w ∈ am_WS, w ∈ lw_tbl := fun w h => (List.mem_filter.mp h).1
  obtain ⟨c0, i0, k0⟩ := u_known (C := RX0) (T := TX0) (N := 3) (n := 3) hts (fun w h => tt _ (inw_X0 w h)) (hts (.instantiable RX0 3) (am_tb1 (List.mem_of_getElem? (i := 50) rfl)))
  obtain ⟨c1, i1, k1⟩ := u_known (C := RX1) (T := TX1) (N := 2) (n := 2) hts (fun w h => tt _ (inw_X1 w h)) (hts (.instantiable RX1 2) (am_tb1 (List.mem_of_getElem? (i := 97) rfl)))
  obtain ⟨c2, i2, k2⟩ := u_known (C := RX2) (T := TX2) (N := 7) (n := 7) hts (fun w h => tt _ (inw_X2 w h)) (hts (.instantiable RX2 7) (am_tb1 (List.mem_of_getElem? (i := 91) rfl)))
  obtain ⟨c3, i3, k3⟩ := u_known (C := RX3) (T := TX3) (N := 2) (n := 2) hts (fun w h => tt _ (inw_X3 w h)) (hts (.instantiable RX3 2) (am_tb1 (List.mem_of_getElem? (i := 68) rfl)))
  obtain ⟨c4, i4, k4⟩ := u_known (C := RX4) (T := TX4) (N := 5) (n := 5) hts (fun w h => tt _ (inw_X4 w h)) (hts (.instantiable RX4 5) (am_tb1 (List.mem_of_getElem? (i := 140) rfl)))
  obtain ⟨c5, i5, k5⟩ := u_known (C := RX5) (T := TX5) (N := 1) (n := 1) hts (fun w h => tt _ (inw_X5 w h)) (hts (.instantiable RX5 1) (am_tb1 (List.mem_of_getElem? (i := 35) rfl)))
  obtain ⟨c6, i6, k6⟩ := u_known (C := RX6) (T := TX6) (N := 1) (n := 1) hts (fun w h => tt _ (inw_X6 w h)) (hts (.instantiable RX6 1) (am_tb1 (List.mem_of_getElem? (i := 81) rfl)))
  obtain ⟨c7, i7, k7⟩ := u_known (C := RX7) (T := TX7) (N := 16) (n := 16) hts (fun w h => tt _ (inw_X7 w h)) (hts (.instantiable RX7 16) (am_tb1 (List.mem_of_getElem? (i := 27) rfl)))
  obtain ⟨c8, i8, k8⟩ := u_known (C := RX8) (T := TX8) (N := 22) (n := 22) hts (fun w h => tt _ (inw_X8 w h)) (hts (.instantiable RX8 22) (am_tb5 (List.mem_of_getElem? (i := 53) rfl)))
  refine ⟨(fun k => [c0, c1, c2, c3, c4, c5, c6, c7, c8].getD k c0, fun k => [i0, i1, i2, i3, i4, i5, i6, i7, i8].getD k i0), ?_⟩
  intro k q hq
  match k, hq with
  | 0, hq => cases hq; exact k0
  | 1, hq => cases hq; exact k1
  | 2, hq => cases hq; exact k2
  | 3, hq => cases hq; exact k3
  | 4, hq => cases hq; exact k4
  | 5, hq => cases hq; exact k5
  | 6, hq => cases hq; exact k6
  | 7, hq => cases hq; exact k7
  | 8, hq => cases hq; exact k8
  | k + 9, hq => simp [vwCl] at hq
abbrev lw_G : Cond := Jvm.Cond.and given_1 narrow_1
theorem lw_sta {s : State} {args : Array Value} {C n d : String} {ty : FieldType} {A : Nat → Prop} {x : Nat → Int32} (hl : (Cond.laysStatic C n d).before args s = true) (hini : (Cond.initialized C).before args s = true) (harr : (Cond.arrayOf (.static C n d) ty).before args s = true) (hlen : (Cond.eq (.length (.static C n d)) (.int 4)).before args s = true) (h0 : (Cond.eq (.elem (.static C n d) (.int 0)) (.int (x 0))).before args s = true) (h1 : (Cond.eq (.elem (.static C n d) (.int 1)) (.int (x 1))).before args s = true) (h2 : (Cond.eq (.elem (.static C n d) (.int 2)) (.int (x 2))).before args s = true) (h3 : (Cond.eq (.elem (.static C n d) (.int 3)) (.int (x 3))).before args s = true) (hA : ∀ a : Nat, a < s.heap.size → ¬ A a) : ∃ t : Nat, va_Z C n d (.ref t) A s s.heap ∧ va_T ty t 4 (fun j => .int (x j)) A s s.heap := by
  obtain ⟨t, ht, hT⟩ := va_Tof (tm := .static C n d) (N := 4) (f := fun j => .int (x j)) (A := A) (by decide) harr (va_eqt hlen) (fun j hj => by
    match j, hj with
    | 0, _ => exact va_eqt h0
    | 1, _ => exact va_eqt h1
    | 2, _ => exact va_eqt h2
    | 3, _ => exact va_eqt h3) hA
  exact ⟨t, va_Zof hl hini ht hA, hT⟩
set_option maxRecDepth 100000 in
theorem lw_NC : ∀ q ∈ am_NC, Cond.not (.castable q.1 q.2) ∈ flatC lw_G := by decide +kernel
set_option maxRecDepth 100000 in
theorem lw_SR1 : ∀ q ∈ am_SR, Cond.stringRef q.1 q.2.1 q.2.2 ∈ tables_1 := by decide +kernel
set_option maxRecDepth 100000 in
theorem lw_SR2 : ∀ q ∈ am_SR, Cond.exactly (.string q.1 q.2.1) "java/lang/String" ∈ flatC lw_G := by decide +kernel
set_option maxRecDepth 100000 in
theorem lw_st1 {s : State} {args : Array Value} {A : Nat → Prop} (hts : ∀ w ∈ lw_tbl, w.before args s = true) (hgv : lw_G.before args s = true) (hA : ∀ a : Nat, a < s.heap.size → ¬ A a) : ∃ t : Nat, va_Z "LeadlightHall$Paint" "LETTERS" "[C" (.ref t) A s s.heap ∧ va_T .char t 4 (fun j => .int (am_xf 1 j)) A s s.heap := by
  have hs := flat_of_before _ hgv
  exact lw_sta (x := am_xf 1) (hts (.laysStatic "LeadlightHall$Paint" "LETTERS" "[C") (am_tb4 (List.mem_of_getElem? (i := 97) rfl))) (hts (.initialized "LeadlightHall$Paint") (am_tb1 (List.mem_of_getElem? (i := 7) rfl))) (hs (.arrayOf (.static "LeadlightHall$Paint" "LETTERS" "[C") .char) (by decide +kernel)) (hs (.eq (.length (.static "LeadlightHall$Paint" "LETTERS" "[C")) (.int 4)) (by decide +kernel)) (hs (.eq (.elem (.static "LeadlightHall$Paint" "LETTERS" "[C") (.int 0)) (.int (116))) (by decide +kernel)) (hs (.eq (.elem (.static "LeadlightHall$Paint" "LETTERS" "[C") (.int 1)) (.int (109))) (by decide +kernel)) (hs (.eq (.elem (.static "LeadlightHall$Paint" "LETTERS" "[C") (.int 2)) (.int (115))) (by decide +kernel)) (hs (.eq (.elem (.static "LeadlightHall$Paint" "LETTERS" "[C") (.int 3)) (.int (101))) (by decide +kernel)) hA
set_option maxRecDepth 100000 in
theorem lw_st2 {s : State} {args : Array Value} {A : Nat → Prop} (hts : ∀ w ∈ lw_tbl, w.before args s = true) (hgv : lw_G.before args s = true) (hA : ∀ a : Nat, a < s.heap.size → ¬ A a) : ∃ t : Nat, va_Z "LeadlightHall$Paint" "HEATS" "[I" (.ref t) A s s.heap ∧ va_T .int t 4 (fun j => .int (am_xf 2 j)) A s s.heap := by
  have hs := flat_of_before _ hgv
  exact lw_sta (x := am_xf 2) (hts (.laysStatic "LeadlightHall$Paint" "HEATS" "[I") (am_tb4 (List.mem_of_getElem? (i := 130) rfl))) (hts (.initialized "LeadlightHall$Paint") (am_tb1 (List.mem_of_getElem? (i := 7) rfl))) (hs (.arrayOf (.static "LeadlightHall$Paint" "HEATS" "[I") .int) (by decide +kernel)) (hs (.eq (.length (.static "LeadlightHall$Paint" "HEATS" "[I")) (.int 4)) (by decide +kernel)) (hs (.eq (.elem (.static "LeadlightHall$Paint" "HEATS" "[I") (.int 0)) (.int (660))) (by decide +kernel)) (hs (.eq (.elem (.static "LeadlightHall$Paint" "HEATS" "[I") (.int 1)) (.int (620))) (by decide +kernel)) (hs (.eq (.elem (.static "LeadlightHall$Paint" "HEATS" "[I") (.int 2)) (.int (580))) (by decide +kernel)) (hs (.eq (.elem (.static "LeadlightHall$Paint" "HEATS" "[I") (.int 3)) (.int (540))) (by decide +kernel)) hA
set_option maxRecDepth 100000 in
theorem lw_st3 {s : State} {args : Array Value} {A : Nat → Prop} (hts : ∀ w ∈ lw_tbl, w.before args s = true) (hgv : lw_G.before args s = true) (hA : ∀ a : Nat, a < s.heap.size → ¬ A a) : ∃ t : Nat, va_Z "LeadlightHallModel" "DX" "[I" (.ref t) A s s.heap ∧ va_T .int t 4 (fun j => .int (am_xf 3 j)) A s s.heap := by
  have hs := flat_of_before _ hgv
  exact lw_sta (x := am_xf 3) (hts (.laysStatic "LeadlightHallModel" "DX" "[I") (am_tb5 (List.mem_of_getElem? (i := 231) rfl))) (hts (.initialized "LeadlightHallModel") (am_tb1 (List.mem_of_getElem? (i := 9) rfl))) (hs (.arrayOf (.static "LeadlightHallModel" "DX" "[I") .int) (by decide +kernel)) (hs (.eq (.length (.static "LeadlightHallModel" "DX" "[I")) (.int 4)) (by decide +kernel)) (hs (.eq (.elem (.static "LeadlightHallModel" "DX" "[I") (.int 0)) (.int (1))) (by decide +kernel)) (hs (.eq (.elem (.static "LeadlightHallModel" "DX" "[I") (.int 1)) (.int (-1))) (by decide +kernel)) (hs (.eq (.elem (.static "LeadlightHallModel" "DX" "[I") (.int 2)) (.int (0))) (by decide +kernel)) (hs (.eq (.elem (.static "LeadlightHallModel" "DX" "[I") (.int 3)) (.int (0))) (by decide +kernel)) hA
set_option maxRecDepth 100000 in
theorem lw_st4 {s : State} {args : Array Value} {A : Nat → Prop} (hts : ∀ w ∈ lw_tbl, w.before args s = true) (hgv : lw_G.before args s = true) (hA : ∀ a : Nat, a < s.heap.size → ¬ A a) : ∃ t : Nat, va_Z "LeadlightHallModel" "DY" "[I" (.ref t) A s s.heap ∧ va_T .int t 4 (fun j => .int (am_xf 4 j)) A s s.heap := by
  have hs := flat_of_before _ hgv
  exact lw_sta (x := am_xf 4) (hts (.laysStatic "LeadlightHallModel" "DY" "[I") (am_tb5 (List.mem_of_getElem? (i := 233) rfl))) (hts (.initialized "LeadlightHallModel") (am_tb1 (List.mem_of_getElem? (i := 9) rfl))) (hs (.arrayOf (.static "LeadlightHallModel" "DY" "[I") .int) (by decide +kernel)) (hs (.eq (.length (.static "LeadlightHallModel" "DY" "[I")) (.int 4)) (by decide +kernel)) (hs (.eq (.elem (.static "LeadlightHallModel" "DY" "[I") (.int 0)) (.int (0))) (by decide +kernel)) (hs (.eq (.elem (.static "LeadlightHallModel" "DY" "[I") (.int 1)) (.int (0))) (by decide +kernel)) (hs (.eq (.elem (.static "LeadlightHallModel" "DY" "[I") (.int 2)) (.int (1))) (by decide +kernel)) (hs (.eq (.elem (.static "LeadlightHallModel" "DY" "[I") (.int 3)) (.int (-1))) (by decide +kernel)) hA
set_option maxRecDepth 100000 in
theorem lw_st5 {s : State} {args : Array Value} {A : Nat → Prop} (hts : ∀ w ∈ lw_tbl, w.before args s = true) (hgv : lw_G.before args s = true) (hA : ∀ a : Nat, a < s.heap.size → ¬ A a) : ∃ t : Nat, va_Z "LeadlightHallModel" "HEATS" "[I" (.ref t) A s s.heap ∧ va_T .int t 4 (fun j => .int (am_xf 5 j)) A s s.heap := by
  have hs := flat_of_before _ hgv
  exact lw_sta (x := am_xf 5) (hts (.laysStatic "LeadlightHallModel" "HEATS" "[I") (am_tb6 (List.mem_of_getElem? (i := 185) rfl))) (hts (.initialized "LeadlightHallModel") (am_tb1 (List.mem_of_getElem? (i := 9) rfl))) (hs (.arrayOf (.static "LeadlightHallModel" "HEATS" "[I") .int) (by decide +kernel)) (hs (.eq (.length (.static "LeadlightHallModel" "HEATS" "[I")) (.int 4)) (by decide +kernel)) (hs (.eq (.elem (.static "LeadlightHallModel" "HEATS" "[I") (.int 0)) (.int (660))) (by decide +kernel)) (hs (.eq (.elem (.static "LeadlightHallModel" "HEATS" "[I") (.int 1)) (.int (620))) (by decide +kernel)) (hs (.eq (.elem (.static "LeadlightHallModel" "HEATS" "[I") (.int 2)) (.int (580))) (by decide +kernel)) (hs (.eq (.elem (.static "LeadlightHallModel" "HEATS" "[I") (.int 3)) (.int (540))) (by decide +kernel)) hA
set_option maxRecDepth 100000 in
theorem lw_str {s : State} {args : Array Value} {A : Nat → Prop} (hts : ∀ w ∈ lw_tbl, w.before args s = true) (hgv : lw_G.before args s = true) (hA : ∀ a : Nat, a < s.heap.size → ¬ A a) : ∃ a v : Nat, vk_S 1 [4] [[116, 109, 115, 101]] (fun _ => a) (fun _ => v) A s s.heap ∧ vk_R "LeadlightHallModel" 214 "tmse" a s := by
  have hs := flat_of_before _ hgv
  obtain ⟨adK, adV, h1, h2⟩ := vk_Sof (s := s) (args := args) (N := 1) (tm := fun _ => .string "LeadlightHallModel" 214) (len := [4]) (byt := [[116, 109, 115, 101]]) (A := A) (fun i hi => by
      have : i = 0 := by omega
      subst this
      decide) (fun i hi => hs (.exactly (.string "LeadlightHallModel" 214) "java/lang/String") (by decide +kernel)) (fun i hi => hs (.eq (.field (.string "LeadlightHallModel" 214) "java/lang/String" "coder" "B") (.int 0)) (by decide +kernel)) (fun i hi => hs (.arrayOf (.field (.string "LeadlightHallModel" 214) "java/lang/String" "value" "[B") .byte) (by decide +kernel)) (fun i hi => by
      have : i = 0 := by omega
      subst this
      exact hs (.eq (.length (.field (.string "LeadlightHallModel" 214) "java/lang/String" "value" "[B")) (.int 4)) (by decide +kernel)) (fun i hi j hj => by
      have : i = 0 := by omega
      subst this
      have hj : j < 4 := hj
      match j, hj with
      | 0, _ => exact hs (.eq (.elem (.field (.string "LeadlightHallModel" 214) "java/lang/String" "value" "[B") (.int 0)) (.int 116)) (by decide +kernel)
      | 1, _ => exact hs (.eq (.elem (.field (.string "LeadlightHallModel" 214) "java/lang/String" "value" "[B") (.int 1)) (.int 109)) (by decide +kernel)
      | 2, _ => exact hs (.eq (.elem (.field (.string "LeadlightHallModel" 214) "java/lang/String" "value" "[B") (.int 2)) (.int 115)) (by decide +kernel)
      | 3, _ => exact hs (.eq (.elem (.field (.string "LeadlightHallModel" 214) "java/lang/String" "value" "[B") (.int 3)) (.int 101)) (by decide +kernel)) (fun i j hi hj h => absurd (by omega : i = j) h) hA
  refine ⟨adK 0, adV 0, ⟨fun i hi => ?_, fun i j hi hj _ => by omega⟩, vk_R.of (hts (.stringRef "LeadlightHallModel" 214 "tmse") (am_tb6 (List.mem_of_getElem? (i := 87) rfl))) (h2 0 (by decide))⟩
  have : i = 0 := by omega
  subst this
  exact h1.1 0 (by decide)
set_option maxRecDepth 100000 in
theorem lw_ext {s : State} {b : Nat} {args : Array Value} {A : Nat → Prop} (hts : ∀ w ∈ lw_tbl, w.before args s = true) (hgv : lw_G.before args s = true) (hA : ∀ a : Nat, a < s.heap.size → ¬ A a) : ∃ ro : Nat → Nat, ro 0 = b ∧ am_ext ro A s s.heap := by
  have hs := flat_of_before _ hgv
  obtain ⟨t1, z1, v1⟩ := lw_st1 hts hgv hA
  obtain ⟨t2, z2, v2⟩ := lw_st2 hts hgv hA
  obtain ⟨t3, z3, v3⟩ := lw_st3 hts hgv hA
  obtain ⟨t4, z4, v4⟩ := lw_st4 hts hgv hA
  obtain ⟨t5, z5, v5⟩ := lw_st5 hts hgv hA
  obtain ⟨t6, t7, z6, v6⟩ := lw_str hts hgv hA
  refine ⟨fun k => [b, t1, t2, t3, t4, t5, t6, t7].getD k b, rfl, fun w hw => ?_, fun q hq => ?_, ⟨?_, ?_, ?_, ?_, ?_⟩, ⟨?_, ?_⟩, ⟨z1, v1⟩, ⟨z2, v2⟩, ⟨z3, v3⟩, ⟨z4, v4⟩, ⟨z5, v5⟩, fun q hq => ?_, z6, v6, ?_⟩
  · exact am_nk_of (List.mem_filter.mp hw).2 (hts w (am_intb (List.mem_filter.mp hw).1))
  · obtain ⟨a, c, cell, k, e1, -⟩ := Cond.exactly_spec (hs _ (lw_SR2 q hq))
    exact ⟨a, vk_R.of (hts _ (am_intb (lw_SR1 q hq))) e1⟩
  · exact hts (.arrayOver (.object "LeadlightHall$Pane")) (am_tb1 (List.mem_of_getElem? (i := 46) rfl))
  · exact hts (.arrayOver (.object "LeadlightHall$Sheet")) (am_tb1 (List.mem_of_getElem? (i := 48) rfl))
  · exact hts (.arrayOver (.array .char)) (am_tb5 (List.mem_of_getElem? (i := 59) rfl))
  · exact hts (.arrayOver (.array .boolean)) (am_tb5 (List.mem_of_getElem? (i := 61) rfl))
  · exact hts (.arrayOver (.array .int)) (am_tb5 (List.mem_of_getElem? (i := 63) rfl))
  · exact vx_Zqof (hts (.laysStatic "java/lang/Throwable" "UNASSIGNED_STACK" "[Ljava/lang/StackTraceElement;") (am_tb2 (List.mem_of_getElem? (i := 189) rfl))) (hts (.initialized "java/lang/Throwable") (am_tb1 (List.mem_of_getElem? (i := 10) rfl))) (hs (.isRef (.static "java/lang/Throwable" "UNASSIGNED_STACK" "[Ljava/lang/StackTraceElement;")) (by decide +kernel)) hA
  · exact vx_Zqof (hts (.laysStatic "java/lang/Throwable" "SUPPRESSED_SENTINEL" "Ljava/util/List;") (am_tb2 (List.mem_of_getElem? (i := 191) rfl))) (hts (.initialized "java/lang/Throwable") (am_tb1 (List.mem_of_getElem? (i := 10) rfl))) (hs (.isRef (.static "java/lang/Throwable" "SUPPRESSED_SENTINEL" "Ljava/util/List;")) (by decide +kernel)) hA
  · exact va_Nc.of (hs _ (lw_NC q hq))
  · exact va_Zof (hts (.laysStatic "java/lang/String" "COMPACT_STRINGS" "Z") (am_tb6 (List.mem_of_getElem? (i := 101) rfl))) (hts (.initialized "java/lang/String") (am_tb1 (List.mem_of_getElem? (i := 20) rfl))) (va_eqi (hs (.eq (.static "java/lang/String" "COMPACT_STRINGS" "Z") (.int 1)) (by decide +kernel))) hA
/-! ===== the law's own end ===== -/
abbrev rm_L_law : Room := room_1
def o_lend : am_C := fun ls st n E ca sl => st = [.int 1]
def am_FL (X : am_X) (b : Nat) : Prop := match X with
  | (p, l, e, R, s, m, args, below, meth, c, D, dA, ro, ad0, n0, nL, A, Q) => args = #[Value.ref b] ∧ R = room_1 ∧ Q = lw_Z below #[Value.ref b] s ∧ A = fun q : Nat => s.heap.size ≤ q
theorem ms_lend {X : am_X} {b : Nat} {Ts : List Cond} (F : am_F X code R_law ret Ts) (FL : am_FL X b) {pc : Nat} (hd : decode code pc = .ok (.ireturn, 1)) : am_imp o_lend (am_G X pc) := by
  obtain ⟨p, l, e, R, s, m, args, below, meth, c, D, dA, ro, ad0, n0, nL, A, Q⟩ := X
  obtain ⟨hx, hb, hml, hown, hts, hK, hA, hE, htr, hlk, hrt, hWS⟩ := F
  obtain ⟨rfl, rfl, rfl, rfl⟩ := FL
  intro ls st n E ca sl h ad H locs L h1 h2 h3 h4 h5 h6 h7 h8 h9 hca hsl
  have h : st = [.int 1] := h
  subst h
  refine va_forget (fun q hq => h8.2.2 q hq) ?_
  refine W.widen hca hsl ?_
  refine W.base ?_
  exact lw_ret (Drawn.sameBut.refl s.drawn lw_cs) hx hb hrt hlk hd
