/-! words wanted -/
set_option maxRecDepth 100000 in
theorem wd_1249 : (Jvm.Cond.code yJ9_min_7cf53 prog_22_method_69_code (2 : Nat) (Option.some Jvm.ClassFile.FieldType.int)) ∈ am_WS := am_in (am_tb6 (List.mem_of_getElem? (i := 49) rfl)) (by decide +kernel)
set_option maxRecDepth 100000 in
theorem wd_284 : (Jvm.Cond.code yJ9_max_7cf53 prog_22_method_65_code (2 : Nat) (Option.some Jvm.ClassFile.FieldType.int)) ∈ am_WS := am_in (am_tb2 (List.mem_of_getElem? (i := 44) rfl)) (by decide +kernel)
set_option maxRecDepth 100000 in
theorem wd_944 : (Jvm.Cond.code yJ9_abs_0f7a4 prog_22_method_59_code (1 : Nat) (Option.some Jvm.ClassFile.FieldType.int)) ∈ am_WS := am_in (am_tb4 (List.mem_of_getElem? (i := 224) rfl)) (by decide +kernel)
