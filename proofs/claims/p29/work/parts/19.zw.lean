/-! words wanted -/
set_option maxRecDepth 100000 in
theorem wn_1185 : (Jvm.Cond.castable "[Z" "java/lang/Cloneable") ∈ am_NW := List.mem_filter.mpr ⟨List.mem_of_getElem? (i := 1185) (by decide +kernel), rfl⟩
set_option maxRecDepth 100000 in
theorem wd_1180 : (Jvm.Cond.methodLink "LeadlightHallModel" (128 : Nat) ({ cls := "[Z", name := "clone", desc := "()Ljava/lang/Object;" } : Jvm.MethodName)) ∈ am_WS := am_in (am_intb (List.mem_of_getElem? (i := 1180) (by decide +kernel))) (by decide +kernel)
set_option maxRecDepth 100000 in
theorem wd_1181 : (Jvm.Cond.sameMethod "[Z" "java/lang/Object" "clone" "()Ljava/lang/Object;") ∈ am_WS := am_in (am_intb (List.mem_of_getElem? (i := 1181) (by decide +kernel))) (by decide +kernel)
set_option maxRecDepth 100000 in
theorem wd_1182 : (Jvm.Cond.native ({ cls := "java/lang/Object", name := "clone", desc := "()Ljava/lang/Object;" } : Jvm.MethodName)) ∈ am_WS := am_in (am_intb (List.mem_of_getElem? (i := 1182) (by decide +kernel))) (by decide +kernel)
set_option maxRecDepth 100000 in
theorem wd_1183 : (Jvm.Cond.instanceMethod ({ cls := "java/lang/Object", name := "clone", desc := "()Ljava/lang/Object;" } : Jvm.MethodName)) ∈ am_WS := am_in (am_intb (List.mem_of_getElem? (i := 1183) (by decide +kernel))) (by decide +kernel)
set_option maxRecDepth 100000 in
theorem wd_1184 : (Jvm.Cond.selects "[Z" ({ cls := "[Z", name := "clone", desc := "()Ljava/lang/Object;" } : Jvm.MethodName) ({ cls := "java/lang/Object", name := "clone", desc := "()Ljava/lang/Object;" } : Jvm.MethodName)) ∈ am_WS := am_in (am_intb (List.mem_of_getElem? (i := 1184) (by decide +kernel))) (by decide +kernel)
set_option maxRecDepth 100000 in
theorem wd_1186 : (Jvm.Cond.classLink "LeadlightHallModel" (129 : Nat) "[Z") ∈ am_WS := am_in (am_intb (List.mem_of_getElem? (i := 1186) (by decide +kernel))) (by decide +kernel)
set_option maxRecDepth 100000 in
theorem wd_1249 : (Jvm.Cond.code yJ9_min_7cf53 prog_22_method_69_code (2 : Nat) (Option.some Jvm.ClassFile.FieldType.int)) ∈ am_WS := am_in (am_intb (List.mem_of_getElem? (i := 1249) (by decide +kernel))) (by decide +kernel)
set_option maxRecDepth 100000 in
theorem wd_284 : (Jvm.Cond.code yJ9_max_7cf53 prog_22_method_65_code (2 : Nat) (Option.some Jvm.ClassFile.FieldType.int)) ∈ am_WS := am_in (am_intb (List.mem_of_getElem? (i := 284) (by decide +kernel))) (by decide +kernel)
set_option maxRecDepth 100000 in
theorem wd_944 : (Jvm.Cond.code yJ9_abs_0f7a4 prog_22_method_59_code (1 : Nat) (Option.some Jvm.ClassFile.FieldType.int)) ∈ am_WS := am_in (am_intb (List.mem_of_getElem? (i := 944) (by decide +kernel))) (by decide +kernel)
