set_option maxRecDepth 100000 in
theorem wn_1185 : (Jvm.Cond.castable "[Z" "java/lang/Cloneable") ∈ am_NW := List.mem_filter.mpr ⟨am_t5 (List.mem_of_getElem? (i := 225) rfl), rfl⟩
set_option maxRecDepth 100000 in
theorem wn_404 : (Jvm.Cond.castable "java/lang/IllegalArgumentException" "java/lang/IllegalArgumentException") ∈ am_NW := List.mem_filter.mpr ⟨am_t2 (List.mem_of_getElem? (i := 164) rfl), rfl⟩
set_option maxRecDepth 100000 in
theorem wn_482 : (Jvm.Cond.castable "java/lang/UnsupportedOperationException" "java/lang/UnsupportedOperationException") ∈ am_NW := List.mem_filter.mpr ⟨am_t3 (List.mem_of_getElem? (i := 2) rfl), rfl⟩
set_option maxRecDepth 100000 in
theorem wn_513 : (Jvm.Cond.castable "java/lang/IndexOutOfBoundsException" "java/lang/IndexOutOfBoundsException") ∈ am_NW := List.mem_filter.mpr ⟨am_t3 (List.mem_of_getElem? (i := 33) rfl), rfl⟩
set_option maxRecDepth 100000 in
theorem wn_634 : (Jvm.Cond.castable "java/lang/IllegalStateException" "java/lang/IllegalStateException") ∈ am_NW := List.mem_filter.mpr ⟨am_t3 (List.mem_of_getElem? (i := 154) rfl), rfl⟩
set_option maxRecDepth 100000 in
theorem wn_792 : (Jvm.Cond.castable "java/util/NoSuchElementException" "java/util/NoSuchElementException") ∈ am_NW := List.mem_filter.mpr ⟨am_t4 (List.mem_of_getElem? (i := 72) rfl), rfl⟩
set_option maxRecDepth 100000 in
theorem wd_0 : (Jvm.Cond.initialized "LeadlightHallLaw") ∈ am_WS := am_in (am_tb1 (List.mem_of_getElem? (i := 0) rfl)) (by decide +kernel)
set_option maxRecDepth 100000 in
theorem wd_1000 : (Jvm.Cond.methodLink "LeadlightHallLaw" (125 : Nat) yX7_litShare) ∈ am_WS := am_in (am_tb5 (List.mem_of_getElem? (i := 40) rfl)) (by decide +kernel)
set_option maxRecDepth 100000 in
theorem wd_1001 : (Jvm.Cond.instanceMethod yX7_litShare) ∈ am_WS := am_in (am_tb5 (List.mem_of_getElem? (i := 41) rfl)) (by decide +kernel)
set_option maxRecDepth 100000 in
theorem wd_1002 : (Jvm.Cond.selects "LeadlightHall" yX7_litShare yX7_litShare) ∈ am_WS := am_in (am_tb5 (List.mem_of_getElem? (i := 42) rfl)) (by decide +kernel)
set_option maxRecDepth 100000 in
theorem wd_1004 : (Jvm.Cond.methodLink "LeadlightHallLaw" (288 : Nat) yL_meanCells) ∈ am_WS := am_in (am_tb5 (List.mem_of_getElem? (i := 44) rfl)) (by decide +kernel)
set_option maxRecDepth 100000 in
theorem wd_1005 : (Jvm.Cond.static yL_meanCells) ∈ am_WS := am_in (am_tb5 (List.mem_of_getElem? (i := 45) rfl)) (by decide +kernel)
set_option maxRecDepth 100000 in
theorem wd_1006 : (Jvm.Cond.codeWith yL_meanCells method_35_code (3 : Nat) (Option.some Jvm.ClassFile.FieldType.int) [((0 : Nat), (7 : Nat), (10 : Nat), (67 : Nat))]) ∈ am_WS := am_in (am_tb5 (List.mem_of_getElem? (i := 46) rfl)) (by decide +kernel)
set_option maxRecDepth 100000 in
theorem wd_1007 : (Jvm.Cond.methodLink "LeadlightHallLaw" (129 : Nat) yX7_meanCells) ∈ am_WS := am_in (am_tb5 (List.mem_of_getElem? (i := 47) rfl)) (by decide +kernel)
set_option maxRecDepth 100000 in
theorem wd_1008 : (Jvm.Cond.instanceMethod yX7_meanCells) ∈ am_WS := am_in (am_tb5 (List.mem_of_getElem? (i := 48) rfl)) (by decide +kernel)
set_option maxRecDepth 100000 in
theorem wd_1009 : (Jvm.Cond.selects "LeadlightHall" yX7_meanCells yX7_meanCells) ∈ am_WS := am_in (am_tb5 (List.mem_of_getElem? (i := 49) rfl)) (by decide +kernel)
set_option maxRecDepth 100000 in
theorem wd_1012 : (Jvm.Cond.classLink "LeadlightHallLaw" (134 : Nat) "LeadlightHallModel") ∈ am_WS := am_in (am_tb5 (List.mem_of_getElem? (i := 52) rfl)) (by decide +kernel)
set_option maxRecDepth 100000 in
theorem wd_1013 : (Jvm.Cond.instantiable "LeadlightHallModel" (22 : Nat)) ∈ am_WS := am_in (am_tb5 (List.mem_of_getElem? (i := 53) rfl)) (by decide +kernel)
set_option maxRecDepth 100000 in
theorem wd_1014 : (Jvm.Cond.methodLink "LeadlightHallLaw" (136 : Nat) yX8_init) ∈ am_WS := am_in (am_tb5 (List.mem_of_getElem? (i := 54) rfl)) (by decide +kernel)
set_option maxRecDepth 100000 in
theorem wd_1015 : (Jvm.Cond.instanceMethod yX8_init) ∈ am_WS := am_in (am_tb5 (List.mem_of_getElem? (i := 55) rfl)) (by decide +kernel)
set_option maxRecDepth 100000 in
theorem wd_1016 : (Jvm.Cond.code yX8_init prog_10_method_1_code (2 : Nat) (Option.none : Option Jvm.ClassFile.FieldType)) ∈ am_WS := am_in (am_tb5 (List.mem_of_getElem? (i := 56) rfl)) (by decide +kernel)
set_option maxRecDepth 100000 in
theorem wd_1017 : (Jvm.Cond.methodLink "LeadlightHallModel" (1 : Nat) ({ cls := "java/lang/Object", name := "<init>", desc := "()V" } : Jvm.MethodName)) ∈ am_WS := am_in (am_tb5 (List.mem_of_getElem? (i := 57) rfl)) (by decide +kernel)
set_option maxRecDepth 100000 in
theorem wd_1018 : (Jvm.Cond.classLink "LeadlightHallModel" (29 : Nat) "[[C") ∈ am_WS := am_in (am_tb5 (List.mem_of_getElem? (i := 58) rfl)) (by decide +kernel)
set_option maxRecDepth 100000 in
theorem wd_1020 : (Jvm.Cond.classLink "LeadlightHallModel" (34 : Nat) "[[Z") ∈ am_WS := am_in (am_tb5 (List.mem_of_getElem? (i := 60) rfl)) (by decide +kernel)
set_option maxRecDepth 100000 in
theorem wd_1022 : (Jvm.Cond.classLink "LeadlightHallModel" (42 : Nat) "[[I") ∈ am_WS := am_in (am_tb5 (List.mem_of_getElem? (i := 62) rfl)) (by decide +kernel)
set_option maxRecDepth 100000 in
theorem wd_1024 : (Jvm.Cond.fieldLink "LeadlightHallModel" (9 : Nat) "LeadlightHallModel" "cells" "[I") ∈ am_WS := am_in (am_tb5 (List.mem_of_getElem? (i := 64) rfl)) (by decide +kernel)
set_option maxRecDepth 100000 in
theorem wd_1025 : (Jvm.Cond.fieldLink "LeadlightHallModel" (13 : Nat) "LeadlightHallModel" "wantColours" "[I") ∈ am_WS := am_in (am_tb5 (List.mem_of_getElem? (i := 65) rfl)) (by decide +kernel)
set_option maxRecDepth 100000 in
theorem wd_1026 : (Jvm.Cond.fieldLink "LeadlightHallModel" (16 : Nat) "LeadlightHallModel" "wantStreaks" "[C") ∈ am_WS := am_in (am_tb5 (List.mem_of_getElem? (i := 66) rfl)) (by decide +kernel)
set_option maxRecDepth 100000 in
theorem wd_1027 : (Jvm.Cond.fieldLink "LeadlightHallModel" (20 : Nat) "LeadlightHallModel" "glass" "[C") ∈ am_WS := am_in (am_tb5 (List.mem_of_getElem? (i := 67) rfl)) (by decide +kernel)
set_option maxRecDepth 100000 in
theorem wd_1028 : (Jvm.Cond.fieldLink "LeadlightHallModel" (23 : Nat) "LeadlightHallModel" "colours" "[I") ∈ am_WS := am_in (am_tb5 (List.mem_of_getElem? (i := 68) rfl)) (by decide +kernel)
set_option maxRecDepth 100000 in
theorem wd_1029 : (Jvm.Cond.fieldLink "LeadlightHallModel" (26 : Nat) "LeadlightHallModel" "years" "[I") ∈ am_WS := am_in (am_tb5 (List.mem_of_getElem? (i := 69) rfl)) (by decide +kernel)
set_option maxRecDepth 100000 in
theorem wd_1030 : (Jvm.Cond.fieldLink "LeadlightHallModel" (31 : Nat) "LeadlightHallModel" "layerKinds" "[[C") ∈ am_WS := am_in (am_tb5 (List.mem_of_getElem? (i := 70) rfl)) (by decide +kernel)
set_option maxRecDepth 100000 in
theorem wd_1031 : (Jvm.Cond.fieldLink "LeadlightHallModel" (36 : Nat) "LeadlightHallModel" "areFixed" "[[Z") ∈ am_WS := am_in (am_tb5 (List.mem_of_getElem? (i := 71) rfl)) (by decide +kernel)
set_option maxRecDepth 100000 in
theorem wd_1032 : (Jvm.Cond.fieldLink "LeadlightHallModel" (39 : Nat) "LeadlightHallModel" "layerMany" "[I") ∈ am_WS := am_in (am_tb5 (List.mem_of_getElem? (i := 72) rfl)) (by decide +kernel)
set_option maxRecDepth 100000 in
theorem wd_1033 : (Jvm.Cond.fieldLink "LeadlightHallModel" (44 : Nat) "LeadlightHallModel" "sheets" "[[I") ∈ am_WS := am_in (am_tb5 (List.mem_of_getElem? (i := 73) rfl)) (by decide +kernel)
set_option maxRecDepth 100000 in
theorem wd_1034 : (Jvm.Cond.fieldLink "LeadlightHallModel" (47 : Nat) "LeadlightHallModel" "sheetStreaks" "[C") ∈ am_WS := am_in (am_tb5 (List.mem_of_getElem? (i := 74) rfl)) (by decide +kernel)
set_option maxRecDepth 100000 in
theorem wd_1035 : (Jvm.Cond.fieldLink "LeadlightHallModel" (50 : Nat) "LeadlightHallModel" "areUsed" "[[Z") ∈ am_WS := am_in (am_tb5 (List.mem_of_getElem? (i := 75) rfl)) (by decide +kernel)
set_option maxRecDepth 100000 in
theorem wd_1036 : (Jvm.Cond.fieldLink "LeadlightHallModel" (53 : Nat) "LeadlightHallModel" "bars" "[Z") ∈ am_WS := am_in (am_tb5 (List.mem_of_getElem? (i := 76) rfl)) (by decide +kernel)
set_option maxRecDepth 100000 in
theorem wd_1037 : (Jvm.Cond.fieldLink "LeadlightHallModel" (57 : Nat) "LeadlightHallModel" "leadYears" "[[Z") ∈ am_WS := am_in (am_tb5 (List.mem_of_getElem? (i := 77) rfl)) (by decide +kernel)
set_option maxRecDepth 100000 in
theorem wd_1038 : (Jvm.Cond.fieldLink "LeadlightHallModel" (173 : Nat) "LeadlightHallModel" "sheetMany" "I") ∈ am_WS := am_in (am_tb5 (List.mem_of_getElem? (i := 78) rfl)) (by decide +kernel)
set_option maxRecDepth 100000 in
theorem wd_1039 : (Jvm.Cond.fieldLink "LeadlightHallModel" (263 : Nat) "LeadlightHallModel" "mends" "I") ∈ am_WS := am_in (am_tb5 (List.mem_of_getElem? (i := 79) rfl)) (by decide +kernel)
set_option maxRecDepth 100000 in
theorem wd_1040 : (Jvm.Cond.fieldLink "LeadlightHallModel" (60 : Nat) "LeadlightHallModel" "profile" "I") ∈ am_WS := am_in (am_tb5 (List.mem_of_getElem? (i := 80) rfl)) (by decide +kernel)
set_option maxRecDepth 100000 in
theorem wd_1041 : (Jvm.Cond.fieldLink "LeadlightHallModel" (253 : Nat) "LeadlightHallModel" "wind" "I") ∈ am_WS := am_in (am_tb5 (List.mem_of_getElem? (i := 81) rfl)) (by decide +kernel)
set_option maxRecDepth 100000 in
theorem wd_1042 : (Jvm.Cond.fieldLink "LeadlightHallModel" (186 : Nat) "LeadlightHallModel" "year" "I") ∈ am_WS := am_in (am_tb5 (List.mem_of_getElem? (i := 82) rfl)) (by decide +kernel)
set_option maxRecDepth 100000 in
theorem wd_1043 : (Jvm.Cond.fieldLink "LeadlightHallModel" (64 : Nat) "LeadlightHallModel" "upSince" "I") ∈ am_WS := am_in (am_tb5 (List.mem_of_getElem? (i := 83) rfl)) (by decide +kernel)
set_option maxRecDepth 100000 in
theorem wd_1044 : (Jvm.Cond.fieldLink "LeadlightHallModel" (67 : Nat) "LeadlightHallModel" "z" "J") ∈ am_WS := am_in (am_tb5 (List.mem_of_getElem? (i := 84) rfl)) (by decide +kernel)
set_option maxRecDepth 100000 in
theorem wd_1045 : (Jvm.Cond.fieldLink "LeadlightHallModel" (71 : Nat) "LeadlightHallModel" "thrown" "I") ∈ am_WS := am_in (am_tb5 (List.mem_of_getElem? (i := 85) rfl)) (by decide +kernel)
set_option maxRecDepth 100000 in
theorem wd_1091 : (Jvm.Cond.arrayClass Jvm.ClassFile.FieldType.char) ∈ am_WS := am_in (am_tb5 (List.mem_of_getElem? (i := 131) rfl)) (by decide +kernel)
set_option maxRecDepth 100000 in
theorem wd_1092 : (Jvm.Cond.arrayClass Jvm.ClassFile.FieldType.boolean) ∈ am_WS := am_in (am_tb5 (List.mem_of_getElem? (i := 132) rfl)) (by decide +kernel)
set_option maxRecDepth 100000 in
theorem wd_1093 : (Jvm.Cond.methodLink "LeadlightHallLaw" (253 : Nat) yX8_thrown) ∈ am_WS := am_in (am_tb5 (List.mem_of_getElem? (i := 133) rfl)) (by decide +kernel)
set_option maxRecDepth 100000 in
theorem wd_1094 : (Jvm.Cond.instanceMethod yX8_thrown) ∈ am_WS := am_in (am_tb5 (List.mem_of_getElem? (i := 134) rfl)) (by decide +kernel)
set_option maxRecDepth 100000 in
theorem wd_1095 : (Jvm.Cond.selects "LeadlightHallModel" yX8_thrown yX8_thrown) ∈ am_WS := am_in (am_tb5 (List.mem_of_getElem? (i := 135) rfl)) (by decide +kernel)
set_option maxRecDepth 100000 in
theorem wd_1096 : (Jvm.Cond.code yX8_thrown prog_10_method_2_code (1 : Nat) (Option.some Jvm.ClassFile.FieldType.int)) ∈ am_WS := am_in (am_tb5 (List.mem_of_getElem? (i := 136) rfl)) (by decide +kernel)
set_option maxRecDepth 100000 in
theorem wd_1097 : (Jvm.Cond.methodLink "LeadlightHallLaw" (142 : Nat) yX8_open) ∈ am_WS := am_in (am_tb5 (List.mem_of_getElem? (i := 137) rfl)) (by decide +kernel)
set_option maxRecDepth 100000 in
theorem wd_1098 : (Jvm.Cond.instanceMethod yX8_open) ∈ am_WS := am_in (am_tb5 (List.mem_of_getElem? (i := 138) rfl)) (by decide +kernel)
set_option maxRecDepth 100000 in
theorem wd_1099 : (Jvm.Cond.selects "LeadlightHallModel" yX8_open yX8_open) ∈ am_WS := am_in (am_tb5 (List.mem_of_getElem? (i := 139) rfl)) (by decide +kernel)
set_option maxRecDepth 100000 in
theorem wd_1100 : (Jvm.Cond.code yX8_open prog_10_method_11_code (11 : Nat) (Option.some Jvm.ClassFile.FieldType.int)) ∈ am_WS := am_in (am_tb5 (List.mem_of_getElem? (i := 140) rfl)) (by decide +kernel)
set_option maxRecDepth 100000 in
theorem wd_1101 : (Jvm.Cond.methodLink "LeadlightHallModel" (82 : Nat) yX8_isNoRange) ∈ am_WS := am_in (am_tb5 (List.mem_of_getElem? (i := 141) rfl)) (by decide +kernel)
set_option maxRecDepth 100000 in
theorem wd_1102 : (Jvm.Cond.static yX8_isNoRange) ∈ am_WS := am_in (am_tb5 (List.mem_of_getElem? (i := 142) rfl)) (by decide +kernel)
set_option maxRecDepth 100000 in
theorem wd_1103 : (Jvm.Cond.code yX8_isNoRange prog_10_method_9_code (4 : Nat) (Option.some Jvm.ClassFile.FieldType.boolean)) ∈ am_WS := am_in (am_tb5 (List.mem_of_getElem? (i := 143) rfl)) (by decide +kernel)
set_option maxRecDepth 100000 in
theorem wd_1104 : (Jvm.Cond.methodLink "LeadlightHallModel" (78 : Nat) yX8_isOf) ∈ am_WS := am_in (am_tb5 (List.mem_of_getElem? (i := 144) rfl)) (by decide +kernel)
set_option maxRecDepth 100000 in
theorem wd_1105 : (Jvm.Cond.static yX8_isOf) ∈ am_WS := am_in (am_tb5 (List.mem_of_getElem? (i := 145) rfl)) (by decide +kernel)
set_option maxRecDepth 100000 in
theorem wd_1106 : (Jvm.Cond.code yX8_isOf prog_10_method_7_code (2 : Nat) (Option.some Jvm.ClassFile.FieldType.boolean)) ∈ am_WS := am_in (am_tb5 (List.mem_of_getElem? (i := 146) rfl)) (by decide +kernel)
set_option maxRecDepth 100000 in
theorem wd_1107 : (Jvm.Cond.methodLink "LeadlightHallModel" (74 : Nat) yX8_isIn) ∈ am_WS := am_in (am_tb5 (List.mem_of_getElem? (i := 147) rfl)) (by decide +kernel)
set_option maxRecDepth 100000 in
theorem wd_1108 : (Jvm.Cond.static yX8_isIn) ∈ am_WS := am_in (am_tb5 (List.mem_of_getElem? (i := 148) rfl)) (by decide +kernel)
set_option maxRecDepth 100000 in
theorem wd_1109 : (Jvm.Cond.code yX8_isIn prog_10_method_4_code (3 : Nat) (Option.some Jvm.ClassFile.FieldType.boolean)) ∈ am_WS := am_in (am_tb5 (List.mem_of_getElem? (i := 149) rfl)) (by decide +kernel)
set_option maxRecDepth 100000 in
theorem wd_1110 : (Jvm.Cond.methodLink "LeadlightHallModel" (86 : Nat) yX8_isThrown) ∈ am_WS := am_in (am_tb5 (List.mem_of_getElem? (i := 150) rfl)) (by decide +kernel)
set_option maxRecDepth 100000 in
theorem wd_1112 : (Jvm.Cond.instanceMethod yX8_isThrown) ∈ am_WS := am_in (am_tb5 (List.mem_of_getElem? (i := 152) rfl)) (by decide +kernel)
set_option maxRecDepth 100000 in
theorem wd_1113 : (Jvm.Cond.code yX8_isThrown prog_10_method_3_code (3 : Nat) (Option.some Jvm.ClassFile.FieldType.boolean)) ∈ am_WS := am_in (am_tb5 (List.mem_of_getElem? (i := 153) rfl)) (by decide +kernel)
set_option maxRecDepth 100000 in
theorem wd_1114 : (Jvm.Cond.methodLink "LeadlightHallModel" (90 : Nat) yX8_isUpNow) ∈ am_WS := am_in (am_tb5 (List.mem_of_getElem? (i := 154) rfl)) (by decide +kernel)
set_option maxRecDepth 100000 in
theorem wd_1116 : (Jvm.Cond.instanceMethod yX8_isUpNow) ∈ am_WS := am_in (am_tb5 (List.mem_of_getElem? (i := 156) rfl)) (by decide +kernel)
set_option maxRecDepth 100000 in
theorem wd_1117 : (Jvm.Cond.code yX8_isUpNow prog_10_method_5_code (1 : Nat) (Option.some Jvm.ClassFile.FieldType.boolean)) ∈ am_WS := am_in (am_tb5 (List.mem_of_getElem? (i := 157) rfl)) (by decide +kernel)
set_option maxRecDepth 100000 in
theorem wd_1118 : (Jvm.Cond.methodLink "LeadlightHallModel" (94 : Nat) yX8_at) ∈ am_WS := am_in (am_tb5 (List.mem_of_getElem? (i := 158) rfl)) (by decide +kernel)
set_option maxRecDepth 100000 in
theorem wd_1120 : (Jvm.Cond.instanceMethod yX8_at) ∈ am_WS := am_in (am_tb5 (List.mem_of_getElem? (i := 160) rfl)) (by decide +kernel)
set_option maxRecDepth 100000 in
theorem wd_1121 : (Jvm.Cond.code yX8_at prog_10_method_8_code (3 : Nat) (Option.some Jvm.ClassFile.FieldType.int)) ∈ am_WS := am_in (am_tb5 (List.mem_of_getElem? (i := 161) rfl)) (by decide +kernel)
set_option maxRecDepth 100000 in
theorem wd_1122 : (Jvm.Cond.methodLink "LeadlightHallModel" (98 : Nat) yX8_hasGlass) ∈ am_WS := am_in (am_tb5 (List.mem_of_getElem? (i := 162) rfl)) (by decide +kernel)
set_option maxRecDepth 100000 in
theorem wd_1124 : (Jvm.Cond.instanceMethod yX8_hasGlass) ∈ am_WS := am_in (am_tb5 (List.mem_of_getElem? (i := 164) rfl)) (by decide +kernel)
set_option maxRecDepth 100000 in
theorem wd_1125 : (Jvm.Cond.code yX8_hasGlass prog_10_method_6_code (2 : Nat) (Option.some Jvm.ClassFile.FieldType.boolean)) ∈ am_WS := am_in (am_tb5 (List.mem_of_getElem? (i := 165) rfl)) (by decide +kernel)
set_option maxRecDepth 100000 in
theorem wd_1126 : (Jvm.Cond.methodLink "LeadlightHallLaw" (146 : Nat) yX8_lay) ∈ am_WS := am_in (am_tb5 (List.mem_of_getElem? (i := 166) rfl)) (by decide +kernel)
set_option maxRecDepth 100000 in
theorem wd_1127 : (Jvm.Cond.instanceMethod yX8_lay) ∈ am_WS := am_in (am_tb5 (List.mem_of_getElem? (i := 167) rfl)) (by decide +kernel)
set_option maxRecDepth 100000 in
theorem wd_1128 : (Jvm.Cond.selects "LeadlightHallModel" yX8_lay yX8_lay) ∈ am_WS := am_in (am_tb5 (List.mem_of_getElem? (i := 168) rfl)) (by decide +kernel)
set_option maxRecDepth 100000 in
theorem wd_1129 : (Jvm.Cond.code yX8_lay prog_10_method_12_code (10 : Nat) (Option.some Jvm.ClassFile.FieldType.int)) ∈ am_WS := am_in (am_tb5 (List.mem_of_getElem? (i := 169) rfl)) (by decide +kernel)
set_option maxRecDepth 100000 in
theorem wd_1130 : (Jvm.Cond.methodLink "LeadlightHallModel" (102 : Nat) yX8_isNoPiece) ∈ am_WS := am_in (am_tb5 (List.mem_of_getElem? (i := 170) rfl)) (by decide +kernel)
set_option maxRecDepth 100000 in
theorem wd_1131 : (Jvm.Cond.static yX8_isNoPiece) ∈ am_WS := am_in (am_tb5 (List.mem_of_getElem? (i := 171) rfl)) (by decide +kernel)
set_option maxRecDepth 100000 in
theorem wd_1132 : (Jvm.Cond.code yX8_isNoPiece prog_10_method_10_code (1 : Nat) (Option.some Jvm.ClassFile.FieldType.boolean)) ∈ am_WS := am_in (am_tb5 (List.mem_of_getElem? (i := 172) rfl)) (by decide +kernel)
set_option maxRecDepth 100000 in
theorem wd_1133 : (Jvm.Cond.methodLink "LeadlightHallModel" (105 : Nat) yX8_sizeOf) ∈ am_WS := am_in (am_tb5 (List.mem_of_getElem? (i := 173) rfl)) (by decide +kernel)
set_option maxRecDepth 100000 in
theorem wd_1135 : (Jvm.Cond.instanceMethod yX8_sizeOf) ∈ am_WS := am_in (am_tb5 (List.mem_of_getElem? (i := 175) rfl)) (by decide +kernel)
set_option maxRecDepth 100000 in
theorem wd_1136 : (Jvm.Cond.code yX8_sizeOf prog_10_method_14_code (7 : Nat) (Option.some Jvm.ClassFile.FieldType.int)) ∈ am_WS := am_in (am_tb5 (List.mem_of_getElem? (i := 176) rfl)) (by decide +kernel)
set_option maxRecDepth 100000 in
theorem wd_1137 : (Jvm.Cond.methodLink "LeadlightHallLaw" (150 : Nat) yX8_pieceAt) ∈ am_WS := am_in (am_tb5 (List.mem_of_getElem? (i := 177) rfl)) (by decide +kernel)
set_option maxRecDepth 100000 in
theorem wd_1138 : (Jvm.Cond.instanceMethod yX8_pieceAt) ∈ am_WS := am_in (am_tb5 (List.mem_of_getElem? (i := 178) rfl)) (by decide +kernel)
set_option maxRecDepth 100000 in
theorem wd_1139 : (Jvm.Cond.selects "LeadlightHallModel" yX8_pieceAt yX8_pieceAt) ∈ am_WS := am_in (am_tb5 (List.mem_of_getElem? (i := 179) rfl)) (by decide +kernel)
set_option maxRecDepth 100000 in
theorem wd_1140 : (Jvm.Cond.code yX8_pieceAt prog_10_method_13_code (3 : Nat) (Option.some Jvm.ClassFile.FieldType.int)) ∈ am_WS := am_in (am_tb5 (List.mem_of_getElem? (i := 180) rfl)) (by decide +kernel)
set_option maxRecDepth 100000 in
theorem wd_1141 : (Jvm.Cond.methodLink "LeadlightHallLaw" (154 : Nat) yX8_size) ∈ am_WS := am_in (am_tb5 (List.mem_of_getElem? (i := 181) rfl)) (by decide +kernel)
set_option maxRecDepth 100000 in
theorem wd_1142 : (Jvm.Cond.instanceMethod yX8_size) ∈ am_WS := am_in (am_tb5 (List.mem_of_getElem? (i := 182) rfl)) (by decide +kernel)
set_option maxRecDepth 100000 in
theorem wd_1143 : (Jvm.Cond.selects "LeadlightHallModel" yX8_size yX8_size) ∈ am_WS := am_in (am_tb5 (List.mem_of_getElem? (i := 183) rfl)) (by decide +kernel)
set_option maxRecDepth 100000 in
theorem wd_1144 : (Jvm.Cond.code yX8_size prog_10_method_15_code (2 : Nat) (Option.some Jvm.ClassFile.FieldType.int)) ∈ am_WS := am_in (am_tb5 (List.mem_of_getElem? (i := 184) rfl)) (by decide +kernel)
set_option maxRecDepth 100000 in
theorem wd_1145 : (Jvm.Cond.methodLink "LeadlightHallLaw" (157 : Nat) yX8_corners) ∈ am_WS := am_in (am_tb5 (List.mem_of_getElem? (i := 185) rfl)) (by decide +kernel)
set_option maxRecDepth 100000 in
theorem wd_1146 : (Jvm.Cond.instanceMethod yX8_corners) ∈ am_WS := am_in (am_tb5 (List.mem_of_getElem? (i := 186) rfl)) (by decide +kernel)
set_option maxRecDepth 100000 in
theorem wd_1147 : (Jvm.Cond.selects "LeadlightHallModel" yX8_corners yX8_corners) ∈ am_WS := am_in (am_tb5 (List.mem_of_getElem? (i := 187) rfl)) (by decide +kernel)
set_option maxRecDepth 100000 in
theorem wd_1148 : (Jvm.Cond.code yX8_corners prog_10_method_24_code (2 : Nat) (Option.some Jvm.ClassFile.FieldType.int)) ∈ am_WS := am_in (am_tb5 (List.mem_of_getElem? (i := 188) rfl)) (by decide +kernel)
set_option maxRecDepth 100000 in
theorem wd_1149 : (Jvm.Cond.methodLink "LeadlightHallModel" (147 : Nat) yX8_shapeOf) ∈ am_WS := am_in (am_tb5 (List.mem_of_getElem? (i := 189) rfl)) (by decide +kernel)
set_option maxRecDepth 100000 in
theorem wd_1151 : (Jvm.Cond.instanceMethod yX8_shapeOf) ∈ am_WS := am_in (am_tb5 (List.mem_of_getElem? (i := 191) rfl)) (by decide +kernel)
set_option maxRecDepth 100000 in
theorem wd_1152 : (Jvm.Cond.code yX8_shapeOf prog_10_method_16_code (4 : Nat) (Option.some (Jvm.ClassFile.FieldType.array Jvm.ClassFile.FieldType.boolean))) ∈ am_WS := am_in (am_tb5 (List.mem_of_getElem? (i := 192) rfl)) (by decide +kernel)
set_option maxRecDepth 100000 in
theorem wd_1153 : (Jvm.Cond.methodLink "LeadlightHallModel" (141 : Nat) yX8_cornersOf) ∈ am_WS := am_in (am_tb5 (List.mem_of_getElem? (i := 193) rfl)) (by decide +kernel)
set_option maxRecDepth 100000 in
theorem wd_1154 : (Jvm.Cond.static yX8_cornersOf) ∈ am_WS := am_in (am_tb5 (List.mem_of_getElem? (i := 194) rfl)) (by decide +kernel)
set_option maxRecDepth 100000 in
theorem wd_1155 : (Jvm.Cond.code yX8_cornersOf prog_10_method_19_code (5 : Nat) (Option.some Jvm.ClassFile.FieldType.int)) ∈ am_WS := am_in (am_tb5 (List.mem_of_getElem? (i := 195) rfl)) (by decide +kernel)
set_option maxRecDepth 100000 in
theorem wd_1156 : (Jvm.Cond.methodLink "LeadlightHallModel" (109 : Nat) yX8_is) ∈ am_WS := am_in (am_tb5 (List.mem_of_getElem? (i := 196) rfl)) (by decide +kernel)
set_option maxRecDepth 100000 in
theorem wd_1157 : (Jvm.Cond.static yX8_is) ∈ am_WS := am_in (am_tb5 (List.mem_of_getElem? (i := 197) rfl)) (by decide +kernel)
set_option maxRecDepth 100000 in
theorem wd_1158 : (Jvm.Cond.code yX8_is prog_10_method_17_code (3 : Nat) (Option.some Jvm.ClassFile.FieldType.boolean)) ∈ am_WS := am_in (am_tb5 (List.mem_of_getElem? (i := 198) rfl)) (by decide +kernel)
set_option maxRecDepth 100000 in
theorem wd_1159 : (Jvm.Cond.methodLink "LeadlightHallLaw" (160 : Nat) yX8_point) ∈ am_WS := am_in (am_tb5 (List.mem_of_getElem? (i := 199) rfl)) (by decide +kernel)
set_option maxRecDepth 100000 in
theorem wd_1160 : (Jvm.Cond.instanceMethod yX8_point) ∈ am_WS := am_in (am_tb5 (List.mem_of_getElem? (i := 200) rfl)) (by decide +kernel)
set_option maxRecDepth 100000 in
theorem wd_1161 : (Jvm.Cond.selects "LeadlightHallModel" yX8_point yX8_point) ∈ am_WS := am_in (am_tb5 (List.mem_of_getElem? (i := 201) rfl)) (by decide +kernel)
set_option maxRecDepth 100000 in
theorem wd_1162 : (Jvm.Cond.code yX8_point prog_10_method_25_code (2 : Nat) (Option.some Jvm.ClassFile.FieldType.int)) ∈ am_WS := am_in (am_tb5 (List.mem_of_getElem? (i := 202) rfl)) (by decide +kernel)
set_option maxRecDepth 100000 in
theorem wd_1163 : (Jvm.Cond.methodLink "LeadlightHallModel" (144 : Nat) yX8_pointOf) ∈ am_WS := am_in (am_tb5 (List.mem_of_getElem? (i := 203) rfl)) (by decide +kernel)
set_option maxRecDepth 100000 in
theorem wd_1164 : (Jvm.Cond.static yX8_pointOf) ∈ am_WS := am_in (am_tb5 (List.mem_of_getElem? (i := 204) rfl)) (by decide +kernel)
set_option maxRecDepth 100000 in
theorem wd_1165 : (Jvm.Cond.code yX8_pointOf prog_10_method_20_code (8 : Nat) (Option.some Jvm.ClassFile.FieldType.int)) ∈ am_WS := am_in (am_tb5 (List.mem_of_getElem? (i := 205) rfl)) (by decide +kernel)
set_option maxRecDepth 100000 in
theorem wd_1166 : (Jvm.Cond.methodLink "LeadlightHallModel" (113 : Nat) yJ9_max_7cf53) ∈ am_WS := am_in (am_tb5 (List.mem_of_getElem? (i := 206) rfl)) (by decide +kernel)
set_option maxRecDepth 100000 in
theorem wd_1167 : (Jvm.Cond.methodLink "LeadlightHallLaw" (163 : Nat) yX8_hinders) ∈ am_WS := am_in (am_tb5 (List.mem_of_getElem? (i := 207) rfl)) (by decide +kernel)
set_option maxRecDepth 100000 in
theorem wd_1168 : (Jvm.Cond.instanceMethod yX8_hinders) ∈ am_WS := am_in (am_tb5 (List.mem_of_getElem? (i := 208) rfl)) (by decide +kernel)
set_option maxRecDepth 100000 in
theorem wd_1169 : (Jvm.Cond.selects "LeadlightHallModel" yX8_hinders yX8_hinders) ∈ am_WS := am_in (am_tb5 (List.mem_of_getElem? (i := 209) rfl)) (by decide +kernel)
set_option maxRecDepth 100000 in
theorem wd_1170 : (Jvm.Cond.code yX8_hinders prog_10_method_26_code (2 : Nat) (Option.some Jvm.ClassFile.FieldType.char)) ∈ am_WS := am_in (am_tb5 (List.mem_of_getElem? (i := 210) rfl)) (by decide +kernel)
set_option maxRecDepth 100000 in
theorem wd_1171 : (Jvm.Cond.methodLink "LeadlightHallModel" (151 : Nat) yX8_hindersOf) ∈ am_WS := am_in (am_tb5 (List.mem_of_getElem? (i := 211) rfl)) (by decide +kernel)
set_option maxRecDepth 100000 in
theorem wd_1172 : (Jvm.Cond.static yX8_hindersOf) ∈ am_WS := am_in (am_tb5 (List.mem_of_getElem? (i := 212) rfl)) (by decide +kernel)
set_option maxRecDepth 100000 in
theorem wd_1173 : (Jvm.Cond.code yX8_hindersOf prog_10_method_23_code (1 : Nat) (Option.some Jvm.ClassFile.FieldType.char)) ∈ am_WS := am_in (am_tb5 (List.mem_of_getElem? (i := 213) rfl)) (by decide +kernel)
set_option maxRecDepth 100000 in
theorem wd_1174 : (Jvm.Cond.methodLink "LeadlightHallModel" (133 : Nat) yX8_many) ∈ am_WS := am_in (am_tb5 (List.mem_of_getElem? (i := 214) rfl)) (by decide +kernel)
set_option maxRecDepth 100000 in
theorem wd_1175 : (Jvm.Cond.static yX8_many) ∈ am_WS := am_in (am_tb5 (List.mem_of_getElem? (i := 215) rfl)) (by decide +kernel)
set_option maxRecDepth 100000 in
theorem wd_1176 : (Jvm.Cond.code yX8_many prog_10_method_18_code (6 : Nat) (Option.some Jvm.ClassFile.FieldType.int)) ∈ am_WS := am_in (am_tb5 (List.mem_of_getElem? (i := 216) rfl)) (by decide +kernel)
set_option maxRecDepth 100000 in
theorem wd_1177 : (Jvm.Cond.methodLink "LeadlightHallModel" (137 : Nat) yX8_isWhole) ∈ am_WS := am_in (am_tb5 (List.mem_of_getElem? (i := 217) rfl)) (by decide +kernel)
set_option maxRecDepth 100000 in
theorem wd_1178 : (Jvm.Cond.static yX8_isWhole) ∈ am_WS := am_in (am_tb5 (List.mem_of_getElem? (i := 218) rfl)) (by decide +kernel)
set_option maxRecDepth 100000 in
theorem wd_1179 : (Jvm.Cond.code yX8_isWhole prog_10_method_22_code (3 : Nat) (Option.some Jvm.ClassFile.FieldType.boolean)) ∈ am_WS := am_in (am_tb5 (List.mem_of_getElem? (i := 219) rfl)) (by decide +kernel)
set_option maxRecDepth 100000 in
theorem wd_1180 : (Jvm.Cond.methodLink "LeadlightHallModel" (128 : Nat) ({ cls := "[Z", name := "clone", desc := "()Ljava/lang/Object;" } : Jvm.MethodName)) ∈ am_WS := am_in (am_tb5 (List.mem_of_getElem? (i := 220) rfl)) (by decide +kernel)
set_option maxRecDepth 100000 in
theorem wd_1181 : (Jvm.Cond.sameMethod "[Z" "java/lang/Object" "clone" "()Ljava/lang/Object;") ∈ am_WS := am_in (am_tb5 (List.mem_of_getElem? (i := 221) rfl)) (by decide +kernel)
set_option maxRecDepth 100000 in
theorem wd_1182 : (Jvm.Cond.native ({ cls := "java/lang/Object", name := "clone", desc := "()Ljava/lang/Object;" } : Jvm.MethodName)) ∈ am_WS := am_in (am_tb5 (List.mem_of_getElem? (i := 222) rfl)) (by decide +kernel)
set_option maxRecDepth 100000 in
theorem wd_1183 : (Jvm.Cond.instanceMethod ({ cls := "java/lang/Object", name := "clone", desc := "()Ljava/lang/Object;" } : Jvm.MethodName)) ∈ am_WS := am_in (am_tb5 (List.mem_of_getElem? (i := 223) rfl)) (by decide +kernel)
set_option maxRecDepth 100000 in
theorem wd_1184 : (Jvm.Cond.selects "[Z" ({ cls := "[Z", name := "clone", desc := "()Ljava/lang/Object;" } : Jvm.MethodName) ({ cls := "java/lang/Object", name := "clone", desc := "()Ljava/lang/Object;" } : Jvm.MethodName)) ∈ am_WS := am_in (am_tb5 (List.mem_of_getElem? (i := 224) rfl)) (by decide +kernel)
set_option maxRecDepth 100000 in
theorem wd_1186 : (Jvm.Cond.classLink "LeadlightHallModel" (129 : Nat) "[Z") ∈ am_WS := am_in (am_tb5 (List.mem_of_getElem? (i := 226) rfl)) (by decide +kernel)
set_option maxRecDepth 100000 in
theorem wd_1187 : (Jvm.Cond.methodLink "LeadlightHallModel" (124 : Nat) yX8_walk) ∈ am_WS := am_in (am_tb5 (List.mem_of_getElem? (i := 227) rfl)) (by decide +kernel)
set_option maxRecDepth 100000 in
theorem wd_1188 : (Jvm.Cond.static yX8_walk) ∈ am_WS := am_in (am_tb5 (List.mem_of_getElem? (i := 228) rfl)) (by decide +kernel)
set_option maxRecDepth 100000 in
theorem wd_1189 : (Jvm.Cond.code yX8_walk prog_10_method_21_code (4 : Nat) (Option.none : Option Jvm.ClassFile.FieldType)) ∈ am_WS := am_in (am_tb5 (List.mem_of_getElem? (i := 229) rfl)) (by decide +kernel)
set_option maxRecDepth 100000 in
theorem wd_1190 : (Jvm.Cond.fieldLink "LeadlightHallModel" (118 : Nat) "LeadlightHallModel" "DX" "[I") ∈ am_WS := am_in (am_tb5 (List.mem_of_getElem? (i := 230) rfl)) (by decide +kernel)
set_option maxRecDepth 100000 in
theorem wd_1192 : (Jvm.Cond.fieldLink "LeadlightHallModel" (121 : Nat) "LeadlightHallModel" "DY" "[I") ∈ am_WS := am_in (am_tb5 (List.mem_of_getElem? (i := 232) rfl)) (by decide +kernel)
set_option maxRecDepth 100000 in
theorem wd_1194 : (Jvm.Cond.methodLink "LeadlightHallLaw" (166 : Nat) yX8_split) ∈ am_WS := am_in (am_tb5 (List.mem_of_getElem? (i := 234) rfl)) (by decide +kernel)
set_option maxRecDepth 100000 in
theorem wd_1195 : (Jvm.Cond.instanceMethod yX8_split) ∈ am_WS := am_in (am_tb5 (List.mem_of_getElem? (i := 235) rfl)) (by decide +kernel)
set_option maxRecDepth 100000 in
theorem wd_1196 : (Jvm.Cond.selects "LeadlightHallModel" yX8_split yX8_split) ∈ am_WS := am_in (am_tb5 (List.mem_of_getElem? (i := 236) rfl)) (by decide +kernel)
set_option maxRecDepth 100000 in
theorem wd_1197 : (Jvm.Cond.code yX8_split prog_10_method_29_code (11 : Nat) (Option.some Jvm.ClassFile.FieldType.int)) ∈ am_WS := am_in (am_tb5 (List.mem_of_getElem? (i := 237) rfl)) (by decide +kernel)
set_option maxRecDepth 100000 in
theorem wd_1198 : (Jvm.Cond.methodLink "LeadlightHallModel" (155 : Nat) yX8_side) ∈ am_WS := am_in (am_tb5 (List.mem_of_getElem? (i := 238) rfl)) (by decide +kernel)
set_option maxRecDepth 100000 in
theorem wd_1199 : (Jvm.Cond.static yX8_side) ∈ am_WS := am_in (am_tb5 (List.mem_of_getElem? (i := 239) rfl)) (by decide +kernel)
set_option maxRecDepth 100000 in
theorem wd_1200 : (Jvm.Cond.code yX8_side prog_10_method_27_code (7 : Nat) (Option.some (Jvm.ClassFile.FieldType.array Jvm.ClassFile.FieldType.boolean))) ∈ am_WS := am_in (am_tb6 (List.mem_of_getElem? (i := 0) rfl)) (by decide +kernel)
set_option maxRecDepth 100000 in
theorem wd_1201 : (Jvm.Cond.methodLink "LeadlightHallModel" (159 : Nat) yX8_leadOver) ∈ am_WS := am_in (am_tb6 (List.mem_of_getElem? (i := 1) rfl)) (by decide +kernel)
set_option maxRecDepth 100000 in
theorem wd_1202 : (Jvm.Cond.static yX8_leadOver) ∈ am_WS := am_in (am_tb6 (List.mem_of_getElem? (i := 2) rfl)) (by decide +kernel)
set_option maxRecDepth 100000 in
theorem wd_1203 : (Jvm.Cond.code yX8_leadOver prog_10_method_28_code (6 : Nat) (Option.some Jvm.ClassFile.FieldType.int)) ∈ am_WS := am_in (am_tb6 (List.mem_of_getElem? (i := 3) rfl)) (by decide +kernel)
set_option maxRecDepth 100000 in
theorem wd_1204 : (Jvm.Cond.methodLink "LeadlightHallLaw" (170 : Nat) yX8_lead) ∈ am_WS := am_in (am_tb6 (List.mem_of_getElem? (i := 4) rfl)) (by decide +kernel)
set_option maxRecDepth 100000 in
theorem wd_1205 : (Jvm.Cond.instanceMethod yX8_lead) ∈ am_WS := am_in (am_tb6 (List.mem_of_getElem? (i := 5) rfl)) (by decide +kernel)
set_option maxRecDepth 100000 in
theorem wd_1206 : (Jvm.Cond.selects "LeadlightHallModel" yX8_lead yX8_lead) ∈ am_WS := am_in (am_tb6 (List.mem_of_getElem? (i := 6) rfl)) (by decide +kernel)
set_option maxRecDepth 100000 in
theorem wd_1207 : (Jvm.Cond.code yX8_lead prog_10_method_32_code (1 : Nat) (Option.some Jvm.ClassFile.FieldType.int)) ∈ am_WS := am_in (am_tb6 (List.mem_of_getElem? (i := 7) rfl)) (by decide +kernel)
set_option maxRecDepth 100000 in
theorem wd_1208 : (Jvm.Cond.methodLink "LeadlightHallModel" (166 : Nat) yX8_leadNow) ∈ am_WS := am_in (am_tb6 (List.mem_of_getElem? (i := 8) rfl)) (by decide +kernel)
set_option maxRecDepth 100000 in
theorem wd_1210 : (Jvm.Cond.instanceMethod yX8_leadNow) ∈ am_WS := am_in (am_tb6 (List.mem_of_getElem? (i := 10) rfl)) (by decide +kernel)
set_option maxRecDepth 100000 in
theorem wd_1211 : (Jvm.Cond.code yX8_leadNow prog_10_method_31_code (4 : Nat) (Option.some Jvm.ClassFile.FieldType.int)) ∈ am_WS := am_in (am_tb6 (List.mem_of_getElem? (i := 11) rfl)) (by decide +kernel)
set_option maxRecDepth 100000 in
theorem wd_1212 : (Jvm.Cond.methodLink "LeadlightHallModel" (163 : Nat) yX8_isLead) ∈ am_WS := am_in (am_tb6 (List.mem_of_getElem? (i := 12) rfl)) (by decide +kernel)
set_option maxRecDepth 100000 in
theorem wd_1214 : (Jvm.Cond.instanceMethod yX8_isLead) ∈ am_WS := am_in (am_tb6 (List.mem_of_getElem? (i := 14) rfl)) (by decide +kernel)
set_option maxRecDepth 100000 in
theorem wd_1215 : (Jvm.Cond.code yX8_isLead prog_10_method_30_code (7 : Nat) (Option.some Jvm.ClassFile.FieldType.boolean)) ∈ am_WS := am_in (am_tb6 (List.mem_of_getElem? (i := 15) rfl)) (by decide +kernel)
set_option maxRecDepth 100000 in
theorem wd_1216 : (Jvm.Cond.methodLink "LeadlightHallLaw" (174 : Nat) yX8_joints) ∈ am_WS := am_in (am_tb6 (List.mem_of_getElem? (i := 16) rfl)) (by decide +kernel)
set_option maxRecDepth 100000 in
theorem wd_1217 : (Jvm.Cond.instanceMethod yX8_joints) ∈ am_WS := am_in (am_tb6 (List.mem_of_getElem? (i := 17) rfl)) (by decide +kernel)
set_option maxRecDepth 100000 in
theorem wd_1218 : (Jvm.Cond.selects "LeadlightHallModel" yX8_joints yX8_joints) ∈ am_WS := am_in (am_tb6 (List.mem_of_getElem? (i := 18) rfl)) (by decide +kernel)
set_option maxRecDepth 100000 in
theorem wd_1219 : (Jvm.Cond.code yX8_joints prog_10_method_34_code (1 : Nat) (Option.some Jvm.ClassFile.FieldType.int)) ∈ am_WS := am_in (am_tb6 (List.mem_of_getElem? (i := 19) rfl)) (by decide +kernel)
set_option maxRecDepth 100000 in
theorem wd_1220 : (Jvm.Cond.methodLink "LeadlightHallModel" (170 : Nat) yX8_jointsNow) ∈ am_WS := am_in (am_tb6 (List.mem_of_getElem? (i := 20) rfl)) (by decide +kernel)
set_option maxRecDepth 100000 in
theorem wd_1222 : (Jvm.Cond.instanceMethod yX8_jointsNow) ∈ am_WS := am_in (am_tb6 (List.mem_of_getElem? (i := 22) rfl)) (by decide +kernel)
set_option maxRecDepth 100000 in
theorem wd_1223 : (Jvm.Cond.code yX8_jointsNow prog_10_method_33_code (5 : Nat) (Option.some Jvm.ClassFile.FieldType.int)) ∈ am_WS := am_in (am_tb6 (List.mem_of_getElem? (i := 23) rfl)) (by decide +kernel)
set_option maxRecDepth 100000 in
theorem wd_1224 : (Jvm.Cond.methodLink "LeadlightHallLaw" (178 : Nat) yX8_sheet) ∈ am_WS := am_in (am_tb6 (List.mem_of_getElem? (i := 24) rfl)) (by decide +kernel)
set_option maxRecDepth 100000 in
theorem wd_1225 : (Jvm.Cond.instanceMethod yX8_sheet) ∈ am_WS := am_in (am_tb6 (List.mem_of_getElem? (i := 25) rfl)) (by decide +kernel)
set_option maxRecDepth 100000 in
theorem wd_1226 : (Jvm.Cond.selects "LeadlightHallModel" yX8_sheet yX8_sheet) ∈ am_WS := am_in (am_tb6 (List.mem_of_getElem? (i := 26) rfl)) (by decide +kernel)
set_option maxRecDepth 100000 in
theorem wd_1227 : (Jvm.Cond.code yX8_sheet prog_10_method_35_code (5 : Nat) (Option.some Jvm.ClassFile.FieldType.int)) ∈ am_WS := am_in (am_tb6 (List.mem_of_getElem? (i := 27) rfl)) (by decide +kernel)
set_option maxRecDepth 100000 in
theorem wd_1228 : (Jvm.Cond.methodLink "LeadlightHallLaw" (181 : Nat) yX8_free) ∈ am_WS := am_in (am_tb6 (List.mem_of_getElem? (i := 28) rfl)) (by decide +kernel)
set_option maxRecDepth 100000 in
theorem wd_1229 : (Jvm.Cond.instanceMethod yX8_free) ∈ am_WS := am_in (am_tb6 (List.mem_of_getElem? (i := 29) rfl)) (by decide +kernel)
set_option maxRecDepth 100000 in
theorem wd_1230 : (Jvm.Cond.selects "LeadlightHallModel" yX8_free yX8_free) ∈ am_WS := am_in (am_tb6 (List.mem_of_getElem? (i := 30) rfl)) (by decide +kernel)
set_option maxRecDepth 100000 in
theorem wd_1231 : (Jvm.Cond.code yX8_free prog_10_method_37_code (2 : Nat) (Option.some Jvm.ClassFile.FieldType.int)) ∈ am_WS := am_in (am_tb6 (List.mem_of_getElem? (i := 31) rfl)) (by decide +kernel)
set_option maxRecDepth 100000 in
theorem wd_1232 : (Jvm.Cond.methodLink "LeadlightHallModel" (176 : Nat) yX8_isNoSheet) ∈ am_WS := am_in (am_tb6 (List.mem_of_getElem? (i := 32) rfl)) (by decide +kernel)
set_option maxRecDepth 100000 in
theorem wd_1234 : (Jvm.Cond.instanceMethod yX8_isNoSheet) ∈ am_WS := am_in (am_tb6 (List.mem_of_getElem? (i := 34) rfl)) (by decide +kernel)
set_option maxRecDepth 100000 in
theorem wd_1235 : (Jvm.Cond.code yX8_isNoSheet prog_10_method_36_code (2 : Nat) (Option.some Jvm.ClassFile.FieldType.boolean)) ∈ am_WS := am_in (am_tb6 (List.mem_of_getElem? (i := 35) rfl)) (by decide +kernel)
set_option maxRecDepth 100000 in
theorem wd_1236 : (Jvm.Cond.methodLink "LeadlightHallLaw" (185 : Nat) yX8_want) ∈ am_WS := am_in (am_tb6 (List.mem_of_getElem? (i := 36) rfl)) (by decide +kernel)
set_option maxRecDepth 100000 in
theorem wd_1237 : (Jvm.Cond.instanceMethod yX8_want) ∈ am_WS := am_in (am_tb6 (List.mem_of_getElem? (i := 37) rfl)) (by decide +kernel)
set_option maxRecDepth 100000 in
theorem wd_1238 : (Jvm.Cond.selects "LeadlightHallModel" yX8_want yX8_want) ∈ am_WS := am_in (am_tb6 (List.mem_of_getElem? (i := 38) rfl)) (by decide +kernel)
set_option maxRecDepth 100000 in
theorem wd_1239 : (Jvm.Cond.code yX8_want prog_10_method_38_code (5 : Nat) (Option.some Jvm.ClassFile.FieldType.boolean)) ∈ am_WS := am_in (am_tb6 (List.mem_of_getElem? (i := 39) rfl)) (by decide +kernel)
set_option maxRecDepth 100000 in
theorem wd_1240 : (Jvm.Cond.methodLink "LeadlightHallLaw" (189 : Nat) yX8_cut) ∈ am_WS := am_in (am_tb6 (List.mem_of_getElem? (i := 40) rfl)) (by decide +kernel)
set_option maxRecDepth 100000 in
theorem wd_1241 : (Jvm.Cond.instanceMethod yX8_cut) ∈ am_WS := am_in (am_tb6 (List.mem_of_getElem? (i := 41) rfl)) (by decide +kernel)
set_option maxRecDepth 100000 in
theorem wd_1242 : (Jvm.Cond.selects "LeadlightHallModel" yX8_cut yX8_cut) ∈ am_WS := am_in (am_tb6 (List.mem_of_getElem? (i := 42) rfl)) (by decide +kernel)
set_option maxRecDepth 100000 in
theorem wd_1243 : (Jvm.Cond.code yX8_cut prog_10_method_44_code (9 : Nat) (Option.some Jvm.ClassFile.FieldType.boolean)) ∈ am_WS := am_in (am_tb6 (List.mem_of_getElem? (i := 43) rfl)) (by decide +kernel)
set_option maxRecDepth 100000 in
theorem wd_1244 : (Jvm.Cond.methodLink "LeadlightHallModel" (189 : Nat) yX8_brought) ∈ am_WS := am_in (am_tb6 (List.mem_of_getElem? (i := 44) rfl)) (by decide +kernel)
set_option maxRecDepth 100000 in
theorem wd_1245 : (Jvm.Cond.static yX8_brought) ∈ am_WS := am_in (am_tb6 (List.mem_of_getElem? (i := 45) rfl)) (by decide +kernel)
set_option maxRecDepth 100000 in
theorem wd_1246 : (Jvm.Cond.code yX8_brought prog_10_method_39_code (8 : Nat) (Option.some (Jvm.ClassFile.FieldType.array Jvm.ClassFile.FieldType.boolean))) ∈ am_WS := am_in (am_tb6 (List.mem_of_getElem? (i := 46) rfl)) (by decide +kernel)
set_option maxRecDepth 100000 in
theorem wd_1247 : (Jvm.Cond.methodLink "LeadlightHallModel" (179 : Nat) yJ9_min_7cf53) ∈ am_WS := am_in (am_tb6 (List.mem_of_getElem? (i := 47) rfl)) (by decide +kernel)
set_option maxRecDepth 100000 in
theorem wd_1248 : (Jvm.Cond.static yJ9_min_7cf53) ∈ am_WS := am_in (am_tb6 (List.mem_of_getElem? (i := 48) rfl)) (by decide +kernel)
set_option maxRecDepth 100000 in
theorem wd_1250 : (Jvm.Cond.methodLink "LeadlightHallModel" (193 : Nat) yX8_placeOn) ∈ am_WS := am_in (am_tb6 (List.mem_of_getElem? (i := 50) rfl)) (by decide +kernel)
set_option maxRecDepth 100000 in
theorem wd_1252 : (Jvm.Cond.instanceMethod yX8_placeOn) ∈ am_WS := am_in (am_tb6 (List.mem_of_getElem? (i := 52) rfl)) (by decide +kernel)
set_option maxRecDepth 100000 in
theorem wd_1253 : (Jvm.Cond.code yX8_placeOn prog_10_method_41_code (4 : Nat) (Option.some Jvm.ClassFile.FieldType.int)) ∈ am_WS := am_in (am_tb6 (List.mem_of_getElem? (i := 53) rfl)) (by decide +kernel)
set_option maxRecDepth 100000 in
theorem wd_1254 : (Jvm.Cond.methodLink "LeadlightHallModel" (182 : Nat) yX8_isFreeAt) ∈ am_WS := am_in (am_tb6 (List.mem_of_getElem? (i := 54) rfl)) (by decide +kernel)
set_option maxRecDepth 100000 in
theorem wd_1256 : (Jvm.Cond.instanceMethod yX8_isFreeAt) ∈ am_WS := am_in (am_tb6 (List.mem_of_getElem? (i := 56) rfl)) (by decide +kernel)
set_option maxRecDepth 100000 in
theorem wd_1257 : (Jvm.Cond.code yX8_isFreeAt prog_10_method_40_code (8 : Nat) (Option.some Jvm.ClassFile.FieldType.boolean)) ∈ am_WS := am_in (am_tb6 (List.mem_of_getElem? (i := 57) rfl)) (by decide +kernel)
set_option maxRecDepth 100000 in
theorem wd_1258 : (Jvm.Cond.methodLink "LeadlightHallModel" (197 : Nat) yX8_uses) ∈ am_WS := am_in (am_tb6 (List.mem_of_getElem? (i := 58) rfl)) (by decide +kernel)
set_option maxRecDepth 100000 in
theorem wd_1260 : (Jvm.Cond.instanceMethod yX8_uses) ∈ am_WS := am_in (am_tb6 (List.mem_of_getElem? (i := 60) rfl)) (by decide +kernel)
set_option maxRecDepth 100000 in
theorem wd_1261 : (Jvm.Cond.code yX8_uses prog_10_method_42_code (5 : Nat) (Option.none : Option Jvm.ClassFile.FieldType)) ∈ am_WS := am_in (am_tb6 (List.mem_of_getElem? (i := 61) rfl)) (by decide +kernel)
set_option maxRecDepth 100000 in
theorem wd_1262 : (Jvm.Cond.constantLong "LeadlightHallModel" (201 : Nat) (48271 : Int64)) ∈ am_WS := am_in (am_tb6 (List.mem_of_getElem? (i := 62) rfl)) (by decide +kernel)
set_option maxRecDepth 100000 in
theorem wd_1263 : (Jvm.Cond.constantLong "LeadlightHallModel" (203 : Nat) (2147483647 : Int64)) ∈ am_WS := am_in (am_tb6 (List.mem_of_getElem? (i := 63) rfl)) (by decide +kernel)
set_option maxRecDepth 100000 in
theorem wd_1264 : (Jvm.Cond.constantLong "LeadlightHallModel" (205 : Nat) (100 : Int64)) ∈ am_WS := am_in (am_tb6 (List.mem_of_getElem? (i := 64) rfl)) (by decide +kernel)
set_option maxRecDepth 100000 in
theorem wd_1265 : (Jvm.Cond.constantLong "LeadlightHallModel" (207 : Nat) (10 : Int64)) ∈ am_WS := am_in (am_tb6 (List.mem_of_getElem? (i := 65) rfl)) (by decide +kernel)
set_option maxRecDepth 100000 in
theorem wd_1266 : (Jvm.Cond.methodLink "LeadlightHallModel" (209 : Nat) yX8_comesNew) ∈ am_WS := am_in (am_tb6 (List.mem_of_getElem? (i := 66) rfl)) (by decide +kernel)
set_option maxRecDepth 100000 in
theorem wd_1268 : (Jvm.Cond.instanceMethod yX8_comesNew) ∈ am_WS := am_in (am_tb6 (List.mem_of_getElem? (i := 68) rfl)) (by decide +kernel)
set_option maxRecDepth 100000 in
theorem wd_1269 : (Jvm.Cond.code yX8_comesNew prog_10_method_43_code (5 : Nat) (Option.none : Option Jvm.ClassFile.FieldType)) ∈ am_WS := am_in (am_tb6 (List.mem_of_getElem? (i := 69) rfl)) (by decide +kernel)
set_option maxRecDepth 100000 in
theorem wd_1270 : (Jvm.Cond.methodLink "LeadlightHallLaw" (192 : Nat) yX8_glass) ∈ am_WS := am_in (am_tb6 (List.mem_of_getElem? (i := 70) rfl)) (by decide +kernel)
set_option maxRecDepth 100000 in
theorem wd_1271 : (Jvm.Cond.instanceMethod yX8_glass) ∈ am_WS := am_in (am_tb6 (List.mem_of_getElem? (i := 71) rfl)) (by decide +kernel)
set_option maxRecDepth 100000 in
theorem wd_1272 : (Jvm.Cond.selects "LeadlightHallModel" yX8_glass yX8_glass) ∈ am_WS := am_in (am_tb6 (List.mem_of_getElem? (i := 72) rfl)) (by decide +kernel)
set_option maxRecDepth 100000 in
theorem wd_1273 : (Jvm.Cond.code yX8_glass prog_10_method_45_code (2 : Nat) (Option.some Jvm.ClassFile.FieldType.char)) ∈ am_WS := am_in (am_tb6 (List.mem_of_getElem? (i := 73) rfl)) (by decide +kernel)
set_option maxRecDepth 100000 in
theorem wd_1274 : (Jvm.Cond.methodLink "LeadlightHallLaw" (195 : Nat) yX8_colour) ∈ am_WS := am_in (am_tb6 (List.mem_of_getElem? (i := 74) rfl)) (by decide +kernel)
set_option maxRecDepth 100000 in
theorem wd_1275 : (Jvm.Cond.instanceMethod yX8_colour) ∈ am_WS := am_in (am_tb6 (List.mem_of_getElem? (i := 75) rfl)) (by decide +kernel)
set_option maxRecDepth 100000 in
theorem wd_1276 : (Jvm.Cond.selects "LeadlightHallModel" yX8_colour yX8_colour) ∈ am_WS := am_in (am_tb6 (List.mem_of_getElem? (i := 76) rfl)) (by decide +kernel)
set_option maxRecDepth 100000 in
theorem wd_1277 : (Jvm.Cond.code yX8_colour prog_10_method_46_code (2 : Nat) (Option.some Jvm.ClassFile.FieldType.int)) ∈ am_WS := am_in (am_tb6 (List.mem_of_getElem? (i := 77) rfl)) (by decide +kernel)
set_option maxRecDepth 100000 in
theorem wd_1278 : (Jvm.Cond.methodLink "LeadlightHallLaw" (208 : Nat) yX8_seed) ∈ am_WS := am_in (am_tb6 (List.mem_of_getElem? (i := 78) rfl)) (by decide +kernel)
set_option maxRecDepth 100000 in
theorem wd_1279 : (Jvm.Cond.instanceMethod yX8_seed) ∈ am_WS := am_in (am_tb6 (List.mem_of_getElem? (i := 79) rfl)) (by decide +kernel)
set_option maxRecDepth 100000 in
theorem wd_1280 : (Jvm.Cond.selects "LeadlightHallModel" yX8_seed yX8_seed) ∈ am_WS := am_in (am_tb6 (List.mem_of_getElem? (i := 80) rfl)) (by decide +kernel)
set_option maxRecDepth 100000 in
theorem wd_1281 : (Jvm.Cond.code yX8_seed prog_10_method_47_code (3 : Nat) (Option.some Jvm.ClassFile.FieldType.int)) ∈ am_WS := am_in (am_tb6 (List.mem_of_getElem? (i := 81) rfl)) (by decide +kernel)
set_option maxRecDepth 100000 in
theorem wd_1282 : (Jvm.Cond.constant "LeadlightHallModel" (213 : Nat) (2147483646 : Int32)) ∈ am_WS := am_in (am_tb6 (List.mem_of_getElem? (i := 82) rfl)) (by decide +kernel)
set_option maxRecDepth 100000 in
theorem wd_1283 : (Jvm.Cond.methodLink "LeadlightHallLaw" (199 : Nat) yX8_paint) ∈ am_WS := am_in (am_tb6 (List.mem_of_getElem? (i := 83) rfl)) (by decide +kernel)
set_option maxRecDepth 100000 in
theorem wd_1284 : (Jvm.Cond.instanceMethod yX8_paint) ∈ am_WS := am_in (am_tb6 (List.mem_of_getElem? (i := 84) rfl)) (by decide +kernel)
set_option maxRecDepth 100000 in
theorem wd_1285 : (Jvm.Cond.selects "LeadlightHallModel" yX8_paint yX8_paint) ∈ am_WS := am_in (am_tb6 (List.mem_of_getElem? (i := 85) rfl)) (by decide +kernel)
set_option maxRecDepth 100000 in
theorem wd_1286 : (Jvm.Cond.code yX8_paint prog_10_method_49_code (3 : Nat) (Option.some Jvm.ClassFile.FieldType.int)) ∈ am_WS := am_in (am_tb6 (List.mem_of_getElem? (i := 86) rfl)) (by decide +kernel)
set_option maxRecDepth 100000 in
theorem wd_1288 : (Jvm.Cond.methodLink "LeadlightHallModel" (216 : Nat) yJ0_indexOf_0f7a4) ∈ am_WS := am_in (am_tb6 (List.mem_of_getElem? (i := 88) rfl)) (by decide +kernel)
set_option maxRecDepth 100000 in
theorem wd_1289 : (Jvm.Cond.instanceMethod yJ0_indexOf_0f7a4) ∈ am_WS := am_in (am_tb6 (List.mem_of_getElem? (i := 89) rfl)) (by decide +kernel)
set_option maxRecDepth 100000 in
theorem wd_1290 : (Jvm.Cond.selects "java/lang/String" yJ0_indexOf_0f7a4 yJ0_indexOf_0f7a4) ∈ am_WS := am_in (am_tb6 (List.mem_of_getElem? (i := 90) rfl)) (by decide +kernel)
set_option maxRecDepth 100000 in
theorem wd_1291 : (Jvm.Cond.code yJ0_indexOf_0f7a4 prog_24_method_79_code (2 : Nat) (Option.some Jvm.ClassFile.FieldType.int)) ∈ am_WS := am_in (am_tb6 (List.mem_of_getElem? (i := 91) rfl)) (by decide +kernel)
set_option maxRecDepth 100000 in
theorem wd_1292 : (Jvm.Cond.methodLink "java/lang/String" (633 : Nat) yJ0_indexOf_7cf53) ∈ am_WS := am_in (am_tb6 (List.mem_of_getElem? (i := 92) rfl)) (by decide +kernel)
set_option maxRecDepth 100000 in
theorem wd_1293 : (Jvm.Cond.instanceMethod yJ0_indexOf_7cf53) ∈ am_WS := am_in (am_tb6 (List.mem_of_getElem? (i := 93) rfl)) (by decide +kernel)
set_option maxRecDepth 100000 in
theorem wd_1294 : (Jvm.Cond.selects "java/lang/String" yJ0_indexOf_7cf53 yJ0_indexOf_7cf53) ∈ am_WS := am_in (am_tb6 (List.mem_of_getElem? (i := 94) rfl)) (by decide +kernel)
set_option maxRecDepth 100000 in
theorem wd_1295 : (Jvm.Cond.code yJ0_indexOf_7cf53 prog_24_method_80_code (3 : Nat) (Option.some Jvm.ClassFile.FieldType.int)) ∈ am_WS := am_in (am_tb6 (List.mem_of_getElem? (i := 95) rfl)) (by decide +kernel)
set_option maxRecDepth 100000 in
theorem wd_1296 : (Jvm.Cond.methodLink "java/lang/String" (492 : Nat) yJ0_isLatin1_aae02) ∈ am_WS := am_in (am_tb6 (List.mem_of_getElem? (i := 96) rfl)) (by decide +kernel)
set_option maxRecDepth 100000 in
theorem wd_1297 : (Jvm.Cond.instanceMethod yJ0_isLatin1_aae02) ∈ am_WS := am_in (am_tb6 (List.mem_of_getElem? (i := 97) rfl)) (by decide +kernel)
set_option maxRecDepth 100000 in
theorem wd_1298 : (Jvm.Cond.selects "java/lang/String" yJ0_isLatin1_aae02 yJ0_isLatin1_aae02) ∈ am_WS := am_in (am_tb6 (List.mem_of_getElem? (i := 98) rfl)) (by decide +kernel)
set_option maxRecDepth 100000 in
theorem wd_1299 : (Jvm.Cond.code yJ0_isLatin1_aae02 prog_24_method_154_code (1 : Nat) (Option.some Jvm.ClassFile.FieldType.boolean)) ∈ am_WS := am_in (am_tb6 (List.mem_of_getElem? (i := 99) rfl)) (by decide +kernel)
set_option maxRecDepth 100000 in
theorem wd_1300 : (Jvm.Cond.fieldLink "java/lang/String" (38 : Nat) "java/lang/String" "COMPACT_STRINGS" "Z") ∈ am_WS := am_in (am_tb6 (List.mem_of_getElem? (i := 100) rfl)) (by decide +kernel)
set_option maxRecDepth 100000 in
theorem wd_1302 : (Jvm.Cond.methodLink "java/lang/String" (505 : Nat) yJ0_length_8abf5) ∈ am_WS := am_in (am_tb6 (List.mem_of_getElem? (i := 102) rfl)) (by decide +kernel)
set_option maxRecDepth 100000 in
theorem wd_1303 : (Jvm.Cond.instanceMethod yJ0_length_8abf5) ∈ am_WS := am_in (am_tb6 (List.mem_of_getElem? (i := 103) rfl)) (by decide +kernel)
set_option maxRecDepth 100000 in
theorem wd_1304 : (Jvm.Cond.selects "java/lang/String" yJ0_length_8abf5 yJ0_length_8abf5) ∈ am_WS := am_in (am_tb6 (List.mem_of_getElem? (i := 104) rfl)) (by decide +kernel)
set_option maxRecDepth 100000 in
theorem wd_1305 : (Jvm.Cond.code yJ0_length_8abf5 prog_24_method_54_code (1 : Nat) (Option.some Jvm.ClassFile.FieldType.int)) ∈ am_WS := am_in (am_tb6 (List.mem_of_getElem? (i := 105) rfl)) (by decide +kernel)
set_option maxRecDepth 100000 in
theorem wd_1306 : (Jvm.Cond.methodLink "java/lang/String" (335 : Nat) yJ0_coder_7d493) ∈ am_WS := am_in (am_tb6 (List.mem_of_getElem? (i := 106) rfl)) (by decide +kernel)
set_option maxRecDepth 100000 in
theorem wd_1307 : (Jvm.Cond.instanceMethod yJ0_coder_7d493) ∈ am_WS := am_in (am_tb6 (List.mem_of_getElem? (i := 107) rfl)) (by decide +kernel)
set_option maxRecDepth 100000 in
theorem wd_1308 : (Jvm.Cond.selects "java/lang/String" yJ0_coder_7d493 yJ0_coder_7d493) ∈ am_WS := am_in (am_tb6 (List.mem_of_getElem? (i := 108) rfl)) (by decide +kernel)
set_option maxRecDepth 100000 in
theorem wd_1309 : (Jvm.Cond.code yJ0_coder_7d493 prog_24_method_152_code (1 : Nat) (Option.some Jvm.ClassFile.FieldType.byte)) ∈ am_WS := am_in (am_tb6 (List.mem_of_getElem? (i := 109) rfl)) (by decide +kernel)
set_option maxRecDepth 100000 in
theorem wd_1310 : (Jvm.Cond.methodLink "java/lang/String" (637 : Nat) yJ1_indexOf_4cfef) ∈ am_WS := am_in (am_tb6 (List.mem_of_getElem? (i := 110) rfl)) (by decide +kernel)
set_option maxRecDepth 100000 in
theorem wd_1311 : (Jvm.Cond.static yJ1_indexOf_4cfef) ∈ am_WS := am_in (am_tb6 (List.mem_of_getElem? (i := 111) rfl)) (by decide +kernel)
set_option maxRecDepth 100000 in
theorem wd_1312 : (Jvm.Cond.code yJ1_indexOf_4cfef prog_25_method_22_code (4 : Nat) (Option.some Jvm.ClassFile.FieldType.int)) ∈ am_WS := am_in (am_tb6 (List.mem_of_getElem? (i := 112) rfl)) (by decide +kernel)
set_option maxRecDepth 100000 in
theorem wd_1313 : (Jvm.Cond.methodLink "java/lang/StringLatin1" (88 : Nat) yJ1_canEncode_9a6ad) ∈ am_WS := am_in (am_tb6 (List.mem_of_getElem? (i := 113) rfl)) (by decide +kernel)
set_option maxRecDepth 100000 in
theorem wd_1314 : (Jvm.Cond.static yJ1_canEncode_9a6ad) ∈ am_WS := am_in (am_tb6 (List.mem_of_getElem? (i := 114) rfl)) (by decide +kernel)
set_option maxRecDepth 100000 in
theorem wd_1315 : (Jvm.Cond.code yJ1_canEncode_9a6ad prog_25_method_4_code (1 : Nat) (Option.some Jvm.ClassFile.FieldType.boolean)) ∈ am_WS := am_in (am_tb6 (List.mem_of_getElem? (i := 115) rfl)) (by decide +kernel)
set_option maxRecDepth 100000 in
theorem wd_1316 : (Jvm.Cond.methodLink "java/lang/StringLatin1" (92 : Nat) yJ9_max_7cf53) ∈ am_WS := am_in (am_tb6 (List.mem_of_getElem? (i := 116) rfl)) (by decide +kernel)
set_option maxRecDepth 100000 in
theorem wd_1317 : (Jvm.Cond.methodLink "java/lang/StringLatin1" (38 : Nat) yJ9_min_7cf53) ∈ am_WS := am_in (am_tb6 (List.mem_of_getElem? (i := 117) rfl)) (by decide +kernel)
set_option maxRecDepth 100000 in
theorem wd_1318 : (Jvm.Cond.methodLink "java/lang/StringLatin1" (95 : Nat) yJ1_indexOfChar_4cfef) ∈ am_WS := am_in (am_tb6 (List.mem_of_getElem? (i := 118) rfl)) (by decide +kernel)
set_option maxRecDepth 100000 in
theorem wd_1319 : (Jvm.Cond.static yJ1_indexOfChar_4cfef) ∈ am_WS := am_in (am_tb6 (List.mem_of_getElem? (i := 119) rfl)) (by decide +kernel)
set_option maxRecDepth 100000 in
theorem wd_1320 : (Jvm.Cond.code yJ1_indexOfChar_4cfef prog_25_method_23_code (6 : Nat) (Option.some Jvm.ClassFile.FieldType.int)) ∈ am_WS := am_in (am_tb6 (List.mem_of_getElem? (i := 120) rfl)) (by decide +kernel)
set_option maxRecDepth 100000 in
theorem wd_1321 : (Jvm.Cond.methodLink "java/lang/String" (640 : Nat) yJ2_indexOf_4cfef) ∈ am_WS := am_in (am_tb6 (List.mem_of_getElem? (i := 121) rfl)) (by decide +kernel)
set_option maxRecDepth 100000 in
theorem wd_1322 : (Jvm.Cond.static yJ2_indexOf_4cfef) ∈ am_WS := am_in (am_tb6 (List.mem_of_getElem? (i := 122) rfl)) (by decide +kernel)
set_option maxRecDepth 100000 in
theorem wd_1323 : (Jvm.Cond.code yJ2_indexOf_4cfef prog_26_method_40_code (4 : Nat) (Option.some Jvm.ClassFile.FieldType.int)) ∈ am_WS := am_in (am_tb6 (List.mem_of_getElem? (i := 123) rfl)) (by decide +kernel)
set_option maxRecDepth 100000 in
theorem wd_1324 : (Jvm.Cond.methodLink "java/lang/StringUTF16" (224 : Nat) yJ9_max_7cf53) ∈ am_WS := am_in (am_tb6 (List.mem_of_getElem? (i := 124) rfl)) (by decide +kernel)
set_option maxRecDepth 100000 in
theorem wd_1325 : (Jvm.Cond.methodLink "java/lang/StringUTF16" (183 : Nat) yJ9_min_7cf53) ∈ am_WS := am_in (am_tb6 (List.mem_of_getElem? (i := 125) rfl)) (by decide +kernel)
set_option maxRecDepth 100000 in
theorem wd_1326 : (Jvm.Cond.constant "java/lang/StringUTF16" (227 : Nat) (65536 : Int32)) ∈ am_WS := am_in (am_tb6 (List.mem_of_getElem? (i := 126) rfl)) (by decide +kernel)
set_option maxRecDepth 100000 in
theorem wd_1327 : (Jvm.Cond.methodLink "java/lang/StringUTF16" (228 : Nat) yJ2_indexOfChar_4cfef) ∈ am_WS := am_in (am_tb6 (List.mem_of_getElem? (i := 127) rfl)) (by decide +kernel)
set_option maxRecDepth 100000 in
theorem wd_1328 : (Jvm.Cond.static yJ2_indexOfChar_4cfef) ∈ am_WS := am_in (am_tb6 (List.mem_of_getElem? (i := 128) rfl)) (by decide +kernel)
set_option maxRecDepth 100000 in
theorem wd_1329 : (Jvm.Cond.code yJ2_indexOfChar_4cfef prog_26_method_47_code (4 : Nat) (Option.some Jvm.ClassFile.FieldType.int)) ∈ am_WS := am_in (am_tb6 (List.mem_of_getElem? (i := 129) rfl)) (by decide +kernel)
set_option maxRecDepth 100000 in
theorem wd_1341 : (Jvm.Cond.methodLink "java/lang/String" (1062 : Nat) yJ3_checkFromToIndex_8c36e) ∈ am_WS := am_in (am_tb6 (List.mem_of_getElem? (i := 141) rfl)) (by decide +kernel)
set_option maxRecDepth 100000 in
theorem wd_1342 : (Jvm.Cond.static yJ3_checkFromToIndex_8c36e) ∈ am_WS := am_in (am_tb6 (List.mem_of_getElem? (i := 142) rfl)) (by decide +kernel)
set_option maxRecDepth 100000 in
theorem wd_1343 : (Jvm.Cond.code yJ3_checkFromToIndex_8c36e prog_32_method_12_code (4 : Nat) (Option.some Jvm.ClassFile.FieldType.int)) ∈ am_WS := am_in (am_tb6 (List.mem_of_getElem? (i := 143) rfl)) (by decide +kernel)
set_option maxRecDepth 100000 in
theorem wd_1356 : (Jvm.Cond.methodLink "java/lang/StringUTF16" (232 : Nat) yJ2_indexOfSupplementary_4cfef) ∈ am_WS := am_in (am_tb6 (List.mem_of_getElem? (i := 156) rfl)) (by decide +kernel)
set_option maxRecDepth 100000 in
theorem wd_1357 : (Jvm.Cond.static yJ2_indexOfSupplementary_4cfef) ∈ am_WS := am_in (am_tb6 (List.mem_of_getElem? (i := 157) rfl)) (by decide +kernel)
set_option maxRecDepth 100000 in
theorem wd_1358 : (Jvm.Cond.code yJ2_indexOfSupplementary_4cfef prog_26_method_49_code (7 : Nat) (Option.some Jvm.ClassFile.FieldType.int)) ∈ am_WS := am_in (am_tb6 (List.mem_of_getElem? (i := 158) rfl)) (by decide +kernel)
set_option maxRecDepth 100000 in
theorem wd_1370 : (Jvm.Cond.methodLink "LeadlightHallModel" (221 : Nat) yX8_hasStain) ∈ am_WS := am_in (am_tb6 (List.mem_of_getElem? (i := 170) rfl)) (by decide +kernel)
set_option maxRecDepth 100000 in
theorem wd_1372 : (Jvm.Cond.instanceMethod yX8_hasStain) ∈ am_WS := am_in (am_tb6 (List.mem_of_getElem? (i := 172) rfl)) (by decide +kernel)
set_option maxRecDepth 100000 in
theorem wd_1373 : (Jvm.Cond.code yX8_hasStain prog_10_method_48_code (4 : Nat) (Option.some Jvm.ClassFile.FieldType.boolean)) ∈ am_WS := am_in (am_tb6 (List.mem_of_getElem? (i := 173) rfl)) (by decide +kernel)
set_option maxRecDepth 100000 in
theorem wd_1374 : (Jvm.Cond.methodLink "LeadlightHallLaw" (202 : Nat) yX8_fire) ∈ am_WS := am_in (am_tb6 (List.mem_of_getElem? (i := 174) rfl)) (by decide +kernel)
set_option maxRecDepth 100000 in
theorem wd_1375 : (Jvm.Cond.instanceMethod yX8_fire) ∈ am_WS := am_in (am_tb6 (List.mem_of_getElem? (i := 175) rfl)) (by decide +kernel)
set_option maxRecDepth 100000 in
theorem wd_1376 : (Jvm.Cond.selects "LeadlightHallModel" yX8_fire yX8_fire) ∈ am_WS := am_in (am_tb6 (List.mem_of_getElem? (i := 176) rfl)) (by decide +kernel)
set_option maxRecDepth 100000 in
theorem wd_1377 : (Jvm.Cond.code yX8_fire prog_10_method_51_code (7 : Nat) (Option.some Jvm.ClassFile.FieldType.int)) ∈ am_WS := am_in (am_tb6 (List.mem_of_getElem? (i := 177) rfl)) (by decide +kernel)
set_option maxRecDepth 100000 in
theorem wd_1378 : (Jvm.Cond.constant "LeadlightHallModel" (230 : Nat) (1073741824 : Int32)) ∈ am_WS := am_in (am_tb6 (List.mem_of_getElem? (i := 178) rfl)) (by decide +kernel)
set_option maxRecDepth 100000 in
theorem wd_1379 : (Jvm.Cond.methodLink "LeadlightHallModel" (231 : Nat) yJ6_bitCount_0f7a4) ∈ am_WS := am_in (am_tb6 (List.mem_of_getElem? (i := 179) rfl)) (by decide +kernel)
set_option maxRecDepth 100000 in
theorem wd_1380 : (Jvm.Cond.methodLink "LeadlightHallModel" (236 : Nat) yX8_fires) ∈ am_WS := am_in (am_tb6 (List.mem_of_getElem? (i := 180) rfl)) (by decide +kernel)
set_option maxRecDepth 100000 in
theorem wd_1382 : (Jvm.Cond.instanceMethod yX8_fires) ∈ am_WS := am_in (am_tb6 (List.mem_of_getElem? (i := 182) rfl)) (by decide +kernel)
set_option maxRecDepth 100000 in
theorem wd_1383 : (Jvm.Cond.code yX8_fires prog_10_method_50_code (10 : Nat) (Option.some Jvm.ClassFile.FieldType.int)) ∈ am_WS := am_in (am_tb6 (List.mem_of_getElem? (i := 183) rfl)) (by decide +kernel)
set_option maxRecDepth 100000 in
theorem wd_1384 : (Jvm.Cond.fieldLink "LeadlightHallModel" (224 : Nat) "LeadlightHallModel" "HEATS" "[I") ∈ am_WS := am_in (am_tb6 (List.mem_of_getElem? (i := 184) rfl)) (by decide +kernel)
set_option maxRecDepth 100000 in
theorem wd_1386 : (Jvm.Cond.methodLink "LeadlightHallModel" (227 : Nat) yJ9_abs_0f7a4) ∈ am_WS := am_in (am_tb6 (List.mem_of_getElem? (i := 186) rfl)) (by decide +kernel)
set_option maxRecDepth 100000 in
theorem wd_1387 : (Jvm.Cond.methodLink "LeadlightHallLaw" (205 : Nat) yX8_layers) ∈ am_WS := am_in (am_tb6 (List.mem_of_getElem? (i := 187) rfl)) (by decide +kernel)
set_option maxRecDepth 100000 in
theorem wd_1388 : (Jvm.Cond.instanceMethod yX8_layers) ∈ am_WS := am_in (am_tb6 (List.mem_of_getElem? (i := 188) rfl)) (by decide +kernel)
set_option maxRecDepth 100000 in
theorem wd_1389 : (Jvm.Cond.selects "LeadlightHallModel" yX8_layers yX8_layers) ∈ am_WS := am_in (am_tb6 (List.mem_of_getElem? (i := 189) rfl)) (by decide +kernel)
set_option maxRecDepth 100000 in
theorem wd_1390 : (Jvm.Cond.code yX8_layers prog_10_method_53_code (3 : Nat) (Option.some Jvm.ClassFile.FieldType.int)) ∈ am_WS := am_in (am_tb6 (List.mem_of_getElem? (i := 190) rfl)) (by decide +kernel)
set_option maxRecDepth 100000 in
theorem wd_1391 : (Jvm.Cond.methodLink "LeadlightHallModel" (239 : Nat) yX8_layersOf) ∈ am_WS := am_in (am_tb6 (List.mem_of_getElem? (i := 191) rfl)) (by decide +kernel)
set_option maxRecDepth 100000 in
theorem wd_1393 : (Jvm.Cond.instanceMethod yX8_layersOf) ∈ am_WS := am_in (am_tb6 (List.mem_of_getElem? (i := 193) rfl)) (by decide +kernel)
set_option maxRecDepth 100000 in
theorem wd_1394 : (Jvm.Cond.code yX8_layersOf prog_10_method_52_code (5 : Nat) (Option.some Jvm.ClassFile.FieldType.int)) ∈ am_WS := am_in (am_tb6 (List.mem_of_getElem? (i := 194) rfl)) (by decide +kernel)
set_option maxRecDepth 100000 in
theorem wd_1395 : (Jvm.Cond.methodLink "LeadlightHallLaw" (213 : Nat) yX8_isOrderly) ∈ am_WS := am_in (am_tb6 (List.mem_of_getElem? (i := 195) rfl)) (by decide +kernel)
set_option maxRecDepth 100000 in
theorem wd_1396 : (Jvm.Cond.instanceMethod yX8_isOrderly) ∈ am_WS := am_in (am_tb6 (List.mem_of_getElem? (i := 196) rfl)) (by decide +kernel)
set_option maxRecDepth 100000 in
theorem wd_1397 : (Jvm.Cond.selects "LeadlightHallModel" yX8_isOrderly yX8_isOrderly) ∈ am_WS := am_in (am_tb6 (List.mem_of_getElem? (i := 197) rfl)) (by decide +kernel)
set_option maxRecDepth 100000 in
theorem wd_1398 : (Jvm.Cond.code yX8_isOrderly prog_10_method_57_code (5 : Nat) (Option.some Jvm.ClassFile.FieldType.boolean)) ∈ am_WS := am_in (am_tb6 (List.mem_of_getElem? (i := 198) rfl)) (by decide +kernel)
set_option maxRecDepth 100000 in
theorem wd_1399 : (Jvm.Cond.methodLink "LeadlightHallModel" (243 : Nat) yX8_isClear) ∈ am_WS := am_in (am_tb6 (List.mem_of_getElem? (i := 199) rfl)) (by decide +kernel)
set_option maxRecDepth 100000 in
theorem wd_1401 : (Jvm.Cond.instanceMethod yX8_isClear) ∈ am_WS := am_in (am_tb6 (List.mem_of_getElem? (i := 201) rfl)) (by decide +kernel)
set_option maxRecDepth 100000 in
theorem wd_1402 : (Jvm.Cond.code yX8_isClear prog_10_method_54_code (9 : Nat) (Option.some Jvm.ClassFile.FieldType.boolean)) ∈ am_WS := am_in (am_tb6 (List.mem_of_getElem? (i := 202) rfl)) (by decide +kernel)
set_option maxRecDepth 100000 in
theorem wd_1403 : (Jvm.Cond.methodLink "LeadlightHallModel" (247 : Nat) yX8_hasBare) ∈ am_WS := am_in (am_tb6 (List.mem_of_getElem? (i := 203) rfl)) (by decide +kernel)
set_option maxRecDepth 100000 in
theorem wd_1405 : (Jvm.Cond.instanceMethod yX8_hasBare) ∈ am_WS := am_in (am_tb6 (List.mem_of_getElem? (i := 205) rfl)) (by decide +kernel)
set_option maxRecDepth 100000 in
theorem wd_1406 : (Jvm.Cond.code yX8_hasBare prog_10_method_56_code (6 : Nat) (Option.some Jvm.ClassFile.FieldType.boolean)) ∈ am_WS := am_in (am_tb6 (List.mem_of_getElem? (i := 206) rfl)) (by decide +kernel)
set_option maxRecDepth 100000 in
theorem wd_1407 : (Jvm.Cond.methodLink "LeadlightHallLaw" (217 : Nat) yX8_next) ∈ am_WS := am_in (am_tb6 (List.mem_of_getElem? (i := 207) rfl)) (by decide +kernel)
set_option maxRecDepth 100000 in
theorem wd_1408 : (Jvm.Cond.instanceMethod yX8_next) ∈ am_WS := am_in (am_tb6 (List.mem_of_getElem? (i := 208) rfl)) (by decide +kernel)
set_option maxRecDepth 100000 in
theorem wd_1409 : (Jvm.Cond.selects "LeadlightHallModel" yX8_next yX8_next) ∈ am_WS := am_in (am_tb6 (List.mem_of_getElem? (i := 209) rfl)) (by decide +kernel)
set_option maxRecDepth 100000 in
theorem wd_1410 : (Jvm.Cond.code yX8_next prog_10_method_58_code (1 : Nat) (Option.some Jvm.ClassFile.FieldType.int)) ∈ am_WS := am_in (am_tb6 (List.mem_of_getElem? (i := 210) rfl)) (by decide +kernel)
set_option maxRecDepth 100000 in
theorem wd_1411 : (Jvm.Cond.methodLink "LeadlightHallModel" (250 : Nat) yX8_nextNow) ∈ am_WS := am_in (am_tb6 (List.mem_of_getElem? (i := 211) rfl)) (by decide +kernel)
set_option maxRecDepth 100000 in
theorem wd_1413 : (Jvm.Cond.instanceMethod yX8_nextNow) ∈ am_WS := am_in (am_tb6 (List.mem_of_getElem? (i := 213) rfl)) (by decide +kernel)
set_option maxRecDepth 100000 in
theorem wd_1414 : (Jvm.Cond.code yX8_nextNow prog_10_method_55_code (5 : Nat) (Option.some Jvm.ClassFile.FieldType.int)) ∈ am_WS := am_in (am_tb6 (List.mem_of_getElem? (i := 214) rfl)) (by decide +kernel)
set_option maxRecDepth 100000 in
theorem wd_1415 : (Jvm.Cond.methodLink "LeadlightHallLaw" (220 : Nat) yX8_comes) ∈ am_WS := am_in (am_tb6 (List.mem_of_getElem? (i := 215) rfl)) (by decide +kernel)
set_option maxRecDepth 100000 in
theorem wd_1416 : (Jvm.Cond.instanceMethod yX8_comes) ∈ am_WS := am_in (am_tb6 (List.mem_of_getElem? (i := 216) rfl)) (by decide +kernel)
set_option maxRecDepth 100000 in
theorem wd_1417 : (Jvm.Cond.selects "LeadlightHallModel" yX8_comes yX8_comes) ∈ am_WS := am_in (am_tb6 (List.mem_of_getElem? (i := 217) rfl)) (by decide +kernel)
set_option maxRecDepth 100000 in
theorem wd_1418 : (Jvm.Cond.code yX8_comes prog_10_method_59_code (2 : Nat) (Option.some Jvm.ClassFile.FieldType.int)) ∈ am_WS := am_in (am_tb6 (List.mem_of_getElem? (i := 218) rfl)) (by decide +kernel)
set_option maxRecDepth 100000 in
theorem wd_1419 : (Jvm.Cond.methodLink "LeadlightHallLaw" (223 : Nat) yX8_solder) ∈ am_WS := am_in (am_tb6 (List.mem_of_getElem? (i := 219) rfl)) (by decide +kernel)
set_option maxRecDepth 100000 in
theorem wd_1420 : (Jvm.Cond.instanceMethod yX8_solder) ∈ am_WS := am_in (am_tb6 (List.mem_of_getElem? (i := 220) rfl)) (by decide +kernel)
set_option maxRecDepth 100000 in
theorem wd_1421 : (Jvm.Cond.selects "LeadlightHallModel" yX8_solder yX8_solder) ∈ am_WS := am_in (am_tb6 (List.mem_of_getElem? (i := 221) rfl)) (by decide +kernel)
set_option maxRecDepth 100000 in
theorem wd_1422 : (Jvm.Cond.code yX8_solder prog_10_method_60_code (5 : Nat) (Option.some Jvm.ClassFile.FieldType.int)) ∈ am_WS := am_in (am_tb6 (List.mem_of_getElem? (i := 222) rfl)) (by decide +kernel)
set_option maxRecDepth 100000 in
theorem wd_1423 : (Jvm.Cond.methodLink "LeadlightHallLaw" (227 : Nat) yX8_isUp) ∈ am_WS := am_in (am_tb6 (List.mem_of_getElem? (i := 223) rfl)) (by decide +kernel)
set_option maxRecDepth 100000 in
theorem wd_1424 : (Jvm.Cond.instanceMethod yX8_isUp) ∈ am_WS := am_in (am_tb6 (List.mem_of_getElem? (i := 224) rfl)) (by decide +kernel)
set_option maxRecDepth 100000 in
theorem wd_1425 : (Jvm.Cond.selects "LeadlightHallModel" yX8_isUp yX8_isUp) ∈ am_WS := am_in (am_tb6 (List.mem_of_getElem? (i := 225) rfl)) (by decide +kernel)
set_option maxRecDepth 100000 in
theorem wd_1426 : (Jvm.Cond.code yX8_isUp prog_10_method_61_code (1 : Nat) (Option.some Jvm.ClassFile.FieldType.boolean)) ∈ am_WS := am_in (am_tb6 (List.mem_of_getElem? (i := 226) rfl)) (by decide +kernel)
set_option maxRecDepth 100000 in
theorem wd_1427 : (Jvm.Cond.methodLink "LeadlightHallLaw" (231 : Nat) yX8_bar) ∈ am_WS := am_in (am_tb6 (List.mem_of_getElem? (i := 227) rfl)) (by decide +kernel)
set_option maxRecDepth 100000 in
theorem wd_1428 : (Jvm.Cond.instanceMethod yX8_bar) ∈ am_WS := am_in (am_tb6 (List.mem_of_getElem? (i := 228) rfl)) (by decide +kernel)
set_option maxRecDepth 100000 in
theorem wd_1429 : (Jvm.Cond.selects "LeadlightHallModel" yX8_bar yX8_bar) ∈ am_WS := am_in (am_tb6 (List.mem_of_getElem? (i := 229) rfl)) (by decide +kernel)
set_option maxRecDepth 100000 in
theorem wd_1430 : (Jvm.Cond.code yX8_bar prog_10_method_62_code (4 : Nat) (Option.some Jvm.ClassFile.FieldType.boolean)) ∈ am_WS := am_in (am_tb6 (List.mem_of_getElem? (i := 230) rfl)) (by decide +kernel)
set_option maxRecDepth 100000 in
theorem wd_1431 : (Jvm.Cond.methodLink "LeadlightHallLaw" (234 : Nat) yX8_profile) ∈ am_WS := am_in (am_tb6 (List.mem_of_getElem? (i := 231) rfl)) (by decide +kernel)
set_option maxRecDepth 100000 in
theorem wd_1432 : (Jvm.Cond.instanceMethod yX8_profile) ∈ am_WS := am_in (am_tb6 (List.mem_of_getElem? (i := 232) rfl)) (by decide +kernel)
set_option maxRecDepth 100000 in
theorem wd_1433 : (Jvm.Cond.selects "LeadlightHallModel" yX8_profile yX8_profile) ∈ am_WS := am_in (am_tb6 (List.mem_of_getElem? (i := 233) rfl)) (by decide +kernel)
set_option maxRecDepth 100000 in
theorem wd_1434 : (Jvm.Cond.code yX8_profile prog_10_method_63_code (3 : Nat) (Option.some Jvm.ClassFile.FieldType.int)) ∈ am_WS := am_in (am_tb6 (List.mem_of_getElem? (i := 234) rfl)) (by decide +kernel)
set_option maxRecDepth 100000 in
theorem wd_1435 : (Jvm.Cond.methodLink "LeadlightHallLaw" (237 : Nat) yX8_wind) ∈ am_WS := am_in (am_tb6 (List.mem_of_getElem? (i := 235) rfl)) (by decide +kernel)
set_option maxRecDepth 100000 in
theorem wd_1436 : (Jvm.Cond.instanceMethod yX8_wind) ∈ am_WS := am_in (am_tb6 (List.mem_of_getElem? (i := 236) rfl)) (by decide +kernel)
set_option maxRecDepth 100000 in
theorem wd_1437 : (Jvm.Cond.selects "LeadlightHallModel" yX8_wind yX8_wind) ∈ am_WS := am_in (am_tb6 (List.mem_of_getElem? (i := 237) rfl)) (by decide +kernel)
set_option maxRecDepth 100000 in
theorem wd_1438 : (Jvm.Cond.code yX8_wind prog_10_method_64_code (3 : Nat) (Option.some Jvm.ClassFile.FieldType.int)) ∈ am_WS := am_in (am_tb6 (List.mem_of_getElem? (i := 238) rfl)) (by decide +kernel)
set_option maxRecDepth 100000 in
theorem wd_1439 : (Jvm.Cond.methodLink "LeadlightHallLaw" (241 : Nat) yX8_bears) ∈ am_WS := am_in (am_tb6 (List.mem_of_getElem? (i := 239) rfl)) (by decide +kernel)
set_option maxRecDepth 100000 in
theorem wd_1440 : (Jvm.Cond.instanceMethod yX8_bears) ∈ am_WS := am_in (am_tb7 (List.mem_of_getElem? (i := 0) rfl)) (by decide +kernel)
set_option maxRecDepth 100000 in
theorem wd_1441 : (Jvm.Cond.selects "LeadlightHallModel" yX8_bears yX8_bears) ∈ am_WS := am_in (am_tb7 (List.mem_of_getElem? (i := 1) rfl)) (by decide +kernel)
set_option maxRecDepth 100000 in
theorem wd_1442 : (Jvm.Cond.code yX8_bears prog_10_method_66_code (1 : Nat) (Option.some Jvm.ClassFile.FieldType.int)) ∈ am_WS := am_in (am_tb7 (List.mem_of_getElem? (i := 2) rfl)) (by decide +kernel)
set_option maxRecDepth 100000 in
theorem wd_1443 : (Jvm.Cond.methodLink "LeadlightHallModel" (256 : Nat) yX8_bearsNow) ∈ am_WS := am_in (am_tb7 (List.mem_of_getElem? (i := 3) rfl)) (by decide +kernel)
set_option maxRecDepth 100000 in
theorem wd_1445 : (Jvm.Cond.instanceMethod yX8_bearsNow) ∈ am_WS := am_in (am_tb7 (List.mem_of_getElem? (i := 5) rfl)) (by decide +kernel)
set_option maxRecDepth 100000 in
theorem wd_1446 : (Jvm.Cond.code yX8_bearsNow prog_10_method_65_code (4 : Nat) (Option.some Jvm.ClassFile.FieldType.int)) ∈ am_WS := am_in (am_tb7 (List.mem_of_getElem? (i := 6) rfl)) (by decide +kernel)
set_option maxRecDepth 100000 in
theorem wd_1447 : (Jvm.Cond.methodLink "LeadlightHallLaw" (245 : Nat) yX8_stands) ∈ am_WS := am_in (am_tb7 (List.mem_of_getElem? (i := 7) rfl)) (by decide +kernel)
set_option maxRecDepth 100000 in
theorem wd_1448 : (Jvm.Cond.instanceMethod yX8_stands) ∈ am_WS := am_in (am_tb7 (List.mem_of_getElem? (i := 8) rfl)) (by decide +kernel)
set_option maxRecDepth 100000 in
theorem wd_1449 : (Jvm.Cond.selects "LeadlightHallModel" yX8_stands yX8_stands) ∈ am_WS := am_in (am_tb7 (List.mem_of_getElem? (i := 9) rfl)) (by decide +kernel)
set_option maxRecDepth 100000 in
theorem wd_1450 : (Jvm.Cond.code yX8_stands prog_10_method_67_code (1 : Nat) (Option.some Jvm.ClassFile.FieldType.boolean)) ∈ am_WS := am_in (am_tb7 (List.mem_of_getElem? (i := 10) rfl)) (by decide +kernel)
set_option maxRecDepth 100000 in
theorem wd_1451 : (Jvm.Cond.methodLink "LeadlightHallLaw" (248 : Nat) yX8_years) ∈ am_WS := am_in (am_tb7 (List.mem_of_getElem? (i := 11) rfl)) (by decide +kernel)
set_option maxRecDepth 100000 in
theorem wd_1452 : (Jvm.Cond.instanceMethod yX8_years) ∈ am_WS := am_in (am_tb7 (List.mem_of_getElem? (i := 12) rfl)) (by decide +kernel)
set_option maxRecDepth 100000 in
theorem wd_1453 : (Jvm.Cond.selects "LeadlightHallModel" yX8_years yX8_years) ∈ am_WS := am_in (am_tb7 (List.mem_of_getElem? (i := 13) rfl)) (by decide +kernel)
set_option maxRecDepth 100000 in
theorem wd_1454 : (Jvm.Cond.code yX8_years prog_10_method_68_code (2 : Nat) (Option.some Jvm.ClassFile.FieldType.int)) ∈ am_WS := am_in (am_tb7 (List.mem_of_getElem? (i := 14) rfl)) (by decide +kernel)
set_option maxRecDepth 100000 in
theorem wd_1455 : (Jvm.Cond.methodLink "LeadlightHallLaw" (252 : Nat) yX8_looks) ∈ am_WS := am_in (am_tb7 (List.mem_of_getElem? (i := 15) rfl)) (by decide +kernel)
set_option maxRecDepth 100000 in
theorem wd_1456 : (Jvm.Cond.instanceMethod yX8_looks) ∈ am_WS := am_in (am_tb7 (List.mem_of_getElem? (i := 16) rfl)) (by decide +kernel)
set_option maxRecDepth 100000 in
theorem wd_1457 : (Jvm.Cond.selects "LeadlightHallModel" yX8_looks yX8_looks) ∈ am_WS := am_in (am_tb7 (List.mem_of_getElem? (i := 17) rfl)) (by decide +kernel)
set_option maxRecDepth 100000 in
theorem wd_1458 : (Jvm.Cond.code yX8_looks prog_10_method_70_code (8 : Nat) (Option.some Jvm.ClassFile.FieldType.int)) ∈ am_WS := am_in (am_tb7 (List.mem_of_getElem? (i := 18) rfl)) (by decide +kernel)
set_option maxRecDepth 100000 in
theorem wd_1459 : (Jvm.Cond.methodLink "LeadlightHallModel" (259 : Nat) yX8_light) ∈ am_WS := am_in (am_tb7 (List.mem_of_getElem? (i := 19) rfl)) (by decide +kernel)
set_option maxRecDepth 100000 in
theorem wd_1461 : (Jvm.Cond.instanceMethod yX8_light) ∈ am_WS := am_in (am_tb7 (List.mem_of_getElem? (i := 21) rfl)) (by decide +kernel)
set_option maxRecDepth 100000 in
theorem wd_1462 : (Jvm.Cond.code yX8_light prog_10_method_69_code (6 : Nat) (Option.some Jvm.ClassFile.FieldType.int)) ∈ am_WS := am_in (am_tb7 (List.mem_of_getElem? (i := 22) rfl)) (by decide +kernel)
set_option maxRecDepth 100000 in
theorem wd_1463 : (Jvm.Cond.methodLink "LeadlightHallLaw" (258 : Nat) yX8_hit) ∈ am_WS := am_in (am_tb7 (List.mem_of_getElem? (i := 23) rfl)) (by decide +kernel)
set_option maxRecDepth 100000 in
theorem wd_1464 : (Jvm.Cond.instanceMethod yX8_hit) ∈ am_WS := am_in (am_tb7 (List.mem_of_getElem? (i := 24) rfl)) (by decide +kernel)
set_option maxRecDepth 100000 in
theorem wd_1465 : (Jvm.Cond.selects "LeadlightHallModel" yX8_hit yX8_hit) ∈ am_WS := am_in (am_tb7 (List.mem_of_getElem? (i := 25) rfl)) (by decide +kernel)
set_option maxRecDepth 100000 in
theorem wd_1466 : (Jvm.Cond.code yX8_hit prog_10_method_71_code (5 : Nat) (Option.some Jvm.ClassFile.FieldType.boolean)) ∈ am_WS := am_in (am_tb7 (List.mem_of_getElem? (i := 26) rfl)) (by decide +kernel)
set_option maxRecDepth 100000 in
theorem wd_1467 : (Jvm.Cond.methodLink "LeadlightHallLaw" (261 : Nat) yX8_mend) ∈ am_WS := am_in (am_tb7 (List.mem_of_getElem? (i := 27) rfl)) (by decide +kernel)
set_option maxRecDepth 100000 in
theorem wd_1468 : (Jvm.Cond.instanceMethod yX8_mend) ∈ am_WS := am_in (am_tb7 (List.mem_of_getElem? (i := 28) rfl)) (by decide +kernel)
set_option maxRecDepth 100000 in
theorem wd_1469 : (Jvm.Cond.selects "LeadlightHallModel" yX8_mend yX8_mend) ∈ am_WS := am_in (am_tb7 (List.mem_of_getElem? (i := 29) rfl)) (by decide +kernel)
set_option maxRecDepth 100000 in
theorem wd_1470 : (Jvm.Cond.code yX8_mend prog_10_method_72_code (2 : Nat) (Option.some Jvm.ClassFile.FieldType.int)) ∈ am_WS := am_in (am_tb7 (List.mem_of_getElem? (i := 30) rfl)) (by decide +kernel)
set_option maxRecDepth 100000 in
theorem wd_1471 : (Jvm.Cond.methodLink "LeadlightHallLaw" (264 : Nat) yX8_stopgap) ∈ am_WS := am_in (am_tb7 (List.mem_of_getElem? (i := 31) rfl)) (by decide +kernel)
set_option maxRecDepth 100000 in
theorem wd_1472 : (Jvm.Cond.instanceMethod yX8_stopgap) ∈ am_WS := am_in (am_tb7 (List.mem_of_getElem? (i := 32) rfl)) (by decide +kernel)
set_option maxRecDepth 100000 in
theorem wd_1473 : (Jvm.Cond.selects "LeadlightHallModel" yX8_stopgap yX8_stopgap) ∈ am_WS := am_in (am_tb7 (List.mem_of_getElem? (i := 33) rfl)) (by decide +kernel)
set_option maxRecDepth 100000 in
theorem wd_1474 : (Jvm.Cond.code yX8_stopgap prog_10_method_73_code (5 : Nat) (Option.some Jvm.ClassFile.FieldType.int)) ∈ am_WS := am_in (am_tb7 (List.mem_of_getElem? (i := 34) rfl)) (by decide +kernel)
set_option maxRecDepth 100000 in
theorem wd_1475 : (Jvm.Cond.methodLink "LeadlightHallLaw" (267 : Nat) yX8_year) ∈ am_WS := am_in (am_tb7 (List.mem_of_getElem? (i := 35) rfl)) (by decide +kernel)
set_option maxRecDepth 100000 in
theorem wd_1476 : (Jvm.Cond.instanceMethod yX8_year) ∈ am_WS := am_in (am_tb7 (List.mem_of_getElem? (i := 36) rfl)) (by decide +kernel)
set_option maxRecDepth 100000 in
theorem wd_1477 : (Jvm.Cond.selects "LeadlightHallModel" yX8_year yX8_year) ∈ am_WS := am_in (am_tb7 (List.mem_of_getElem? (i := 37) rfl)) (by decide +kernel)
set_option maxRecDepth 100000 in
theorem wd_1478 : (Jvm.Cond.code yX8_year prog_10_method_74_code (2 : Nat) (Option.some Jvm.ClassFile.FieldType.int)) ∈ am_WS := am_in (am_tb7 (List.mem_of_getElem? (i := 38) rfl)) (by decide +kernel)
set_option maxRecDepth 100000 in
theorem wd_1479 : (Jvm.Cond.methodLink "LeadlightHallLaw" (271 : Nat) yX8_hands) ∈ am_WS := am_in (am_tb7 (List.mem_of_getElem? (i := 39) rfl)) (by decide +kernel)
set_option maxRecDepth 100000 in
theorem wd_1480 : (Jvm.Cond.instanceMethod yX8_hands) ∈ am_WS := am_in (am_tb7 (List.mem_of_getElem? (i := 40) rfl)) (by decide +kernel)
set_option maxRecDepth 100000 in
theorem wd_1481 : (Jvm.Cond.selects "LeadlightHallModel" yX8_hands yX8_hands) ∈ am_WS := am_in (am_tb7 (List.mem_of_getElem? (i := 41) rfl)) (by decide +kernel)
set_option maxRecDepth 100000 in
theorem wd_1482 : (Jvm.Cond.code yX8_hands prog_10_method_75_code (5 : Nat) (Option.some Jvm.ClassFile.FieldType.int)) ∈ am_WS := am_in (am_tb7 (List.mem_of_getElem? (i := 42) rfl)) (by decide +kernel)
set_option maxRecDepth 100000 in
theorem wd_1483 : (Jvm.Cond.methodLink "LeadlightHallLaw" (274 : Nat) yX8_fits) ∈ am_WS := am_in (am_tb7 (List.mem_of_getElem? (i := 43) rfl)) (by decide +kernel)
set_option maxRecDepth 100000 in
theorem wd_1484 : (Jvm.Cond.instanceMethod yX8_fits) ∈ am_WS := am_in (am_tb7 (List.mem_of_getElem? (i := 44) rfl)) (by decide +kernel)
set_option maxRecDepth 100000 in
theorem wd_1485 : (Jvm.Cond.selects "LeadlightHallModel" yX8_fits yX8_fits) ∈ am_WS := am_in (am_tb7 (List.mem_of_getElem? (i := 45) rfl)) (by decide +kernel)
set_option maxRecDepth 100000 in
theorem wd_1486 : (Jvm.Cond.code yX8_fits prog_10_method_77_code (6 : Nat) (Option.some Jvm.ClassFile.FieldType.int)) ∈ am_WS := am_in (am_tb7 (List.mem_of_getElem? (i := 46) rfl)) (by decide +kernel)
set_option maxRecDepth 100000 in
theorem wd_1487 : (Jvm.Cond.methodLink "LeadlightHallModel" (266 : Nat) yX8_areSame) ∈ am_WS := am_in (am_tb7 (List.mem_of_getElem? (i := 47) rfl)) (by decide +kernel)
set_option maxRecDepth 100000 in
theorem wd_1488 : (Jvm.Cond.static yX8_areSame) ∈ am_WS := am_in (am_tb7 (List.mem_of_getElem? (i := 48) rfl)) (by decide +kernel)
set_option maxRecDepth 100000 in
theorem wd_1489 : (Jvm.Cond.code yX8_areSame prog_10_method_76_code (4 : Nat) (Option.some Jvm.ClassFile.FieldType.boolean)) ∈ am_WS := am_in (am_tb7 (List.mem_of_getElem? (i := 49) rfl)) (by decide +kernel)
set_option maxRecDepth 100000 in
theorem wd_1490 : (Jvm.Cond.methodLink "LeadlightHallLaw" (278 : Nat) yX8_price) ∈ am_WS := am_in (am_tb7 (List.mem_of_getElem? (i := 50) rfl)) (by decide +kernel)
set_option maxRecDepth 100000 in
theorem wd_1491 : (Jvm.Cond.instanceMethod yX8_price) ∈ am_WS := am_in (am_tb7 (List.mem_of_getElem? (i := 51) rfl)) (by decide +kernel)
set_option maxRecDepth 100000 in
theorem wd_1492 : (Jvm.Cond.selects "LeadlightHallModel" yX8_price yX8_price) ∈ am_WS := am_in (am_tb7 (List.mem_of_getElem? (i := 52) rfl)) (by decide +kernel)
set_option maxRecDepth 100000 in
theorem wd_1493 : (Jvm.Cond.code yX8_price prog_10_method_78_code (3 : Nat) (Option.some Jvm.ClassFile.FieldType.int)) ∈ am_WS := am_in (am_tb7 (List.mem_of_getElem? (i := 53) rfl)) (by decide +kernel)
set_option maxRecDepth 100000 in
theorem wd_1494 : (Jvm.Cond.methodLink "LeadlightHallLaw" (283 : Nat) yX8_checksum) ∈ am_WS := am_in (am_tb7 (List.mem_of_getElem? (i := 54) rfl)) (by decide +kernel)
set_option maxRecDepth 100000 in
theorem wd_1495 : (Jvm.Cond.instanceMethod yX8_checksum) ∈ am_WS := am_in (am_tb7 (List.mem_of_getElem? (i := 55) rfl)) (by decide +kernel)
set_option maxRecDepth 100000 in
theorem wd_1496 : (Jvm.Cond.selects "LeadlightHallModel" yX8_checksum yX8_checksum) ∈ am_WS := am_in (am_tb7 (List.mem_of_getElem? (i := 56) rfl)) (by decide +kernel)
set_option maxRecDepth 100000 in
theorem wd_1497 : (Jvm.Cond.code yX8_checksum prog_10_method_79_code (7 : Nat) (Option.some Jvm.ClassFile.FieldType.long)) ∈ am_WS := am_in (am_tb7 (List.mem_of_getElem? (i := 57) rfl)) (by decide +kernel)
set_option maxRecDepth 100000 in
theorem wd_1498 : (Jvm.Cond.constantLong "LeadlightHallModel" (270 : Nat) (7 : Int64)) ∈ am_WS := am_in (am_tb7 (List.mem_of_getElem? (i := 58) rfl)) (by decide +kernel)
set_option maxRecDepth 100000 in
theorem wd_1499 : (Jvm.Cond.constantLong "LeadlightHallModel" (272 : Nat) (31 : Int64)) ∈ am_WS := am_in (am_tb7 (List.mem_of_getElem? (i := 59) rfl)) (by decide +kernel)
set_option maxRecDepth 100000 in
theorem wd_1500 : (Jvm.Cond.methodLink "LeadlightHallLaw" (287 : Nat) yX8_litShare) ∈ am_WS := am_in (am_tb7 (List.mem_of_getElem? (i := 60) rfl)) (by decide +kernel)
set_option maxRecDepth 100000 in
theorem wd_1501 : (Jvm.Cond.instanceMethod yX8_litShare) ∈ am_WS := am_in (am_tb7 (List.mem_of_getElem? (i := 61) rfl)) (by decide +kernel)
set_option maxRecDepth 100000 in
theorem wd_1502 : (Jvm.Cond.selects "LeadlightHallModel" yX8_litShare yX8_litShare) ∈ am_WS := am_in (am_tb7 (List.mem_of_getElem? (i := 62) rfl)) (by decide +kernel)
set_option maxRecDepth 100000 in
theorem wd_1503 : (Jvm.Cond.code yX8_litShare prog_10_method_80_code (7 : Nat) (Option.some Jvm.ClassFile.FieldType.float)) ∈ am_WS := am_in (am_tb7 (List.mem_of_getElem? (i := 63) rfl)) (by decide +kernel)
set_option maxRecDepth 100000 in
theorem wd_1504 : (Jvm.Cond.methodLink "LeadlightHallLaw" (290 : Nat) yX8_meanCells) ∈ am_WS := am_in (am_tb7 (List.mem_of_getElem? (i := 64) rfl)) (by decide +kernel)
set_option maxRecDepth 100000 in
theorem wd_1505 : (Jvm.Cond.instanceMethod yX8_meanCells) ∈ am_WS := am_in (am_tb7 (List.mem_of_getElem? (i := 65) rfl)) (by decide +kernel)
set_option maxRecDepth 100000 in
theorem wd_1506 : (Jvm.Cond.selects "LeadlightHallModel" yX8_meanCells yX8_meanCells) ∈ am_WS := am_in (am_tb7 (List.mem_of_getElem? (i := 66) rfl)) (by decide +kernel)
set_option maxRecDepth 100000 in
theorem wd_1507 : (Jvm.Cond.code yX8_meanCells prog_10_method_81_code (4 : Nat) (Option.some Jvm.ClassFile.FieldType.double)) ∈ am_WS := am_in (am_tb7 (List.mem_of_getElem? (i := 67) rfl)) (by decide +kernel)
set_option maxRecDepth 100000 in
theorem wd_1508 : (Jvm.Cond.methodLink "LeadlightHallLaw" (294 : Nat) yX8_isSound) ∈ am_WS := am_in (am_tb7 (List.mem_of_getElem? (i := 68) rfl)) (by decide +kernel)
set_option maxRecDepth 100000 in
theorem wd_1509 : (Jvm.Cond.instanceMethod yX8_isSound) ∈ am_WS := am_in (am_tb7 (List.mem_of_getElem? (i := 69) rfl)) (by decide +kernel)
set_option maxRecDepth 100000 in
theorem wd_1510 : (Jvm.Cond.selects "LeadlightHallModel" yX8_isSound yX8_isSound) ∈ am_WS := am_in (am_tb7 (List.mem_of_getElem? (i := 70) rfl)) (by decide +kernel)
set_option maxRecDepth 100000 in
theorem wd_1511 : (Jvm.Cond.code yX8_isSound prog_10_method_82_code (1 : Nat) (Option.some Jvm.ClassFile.FieldType.boolean)) ∈ am_WS := am_in (am_tb7 (List.mem_of_getElem? (i := 71) rfl)) (by decide +kernel)
set_option maxRecDepth 100000 in
theorem wd_1512 : (Jvm.Cond.arrayClass Jvm.ClassFile.FieldType.double) ∈ am_WS := am_in (am_tb7 (List.mem_of_getElem? (i := 72) rfl)) (by decide +kernel)
set_option maxRecDepth 100000 in
theorem wd_1530 : (Jvm.Cond.fieldLink "java/lang/String" (15 : Nat) "java/lang/String" "coder" "B") ∈ am_WS := am_in (am_tb7 (List.mem_of_getElem? (i := 90) rfl)) (by decide +kernel)
set_option maxRecDepth 100000 in
theorem wd_1531 : (Jvm.Cond.fieldLink "java/lang/String" (9 : Nat) "java/lang/String" "value" "[B") ∈ am_WS := am_in (am_tb7 (List.mem_of_getElem? (i := 91) rfl)) (by decide +kernel)
set_option maxRecDepth 100000 in
theorem wd_20 : (Jvm.Cond.initialized "java/lang/String") ∈ am_WS := am_in (am_tb1 (List.mem_of_getElem? (i := 20) rfl)) (by decide +kernel)
set_option maxRecDepth 100000 in
theorem wd_21 : (Jvm.Cond.initialized "java/lang/StringLatin1") ∈ am_WS := am_in (am_tb1 (List.mem_of_getElem? (i := 21) rfl)) (by decide +kernel)
set_option maxRecDepth 100000 in
theorem wd_212 : (Jvm.Cond.methodLink "LeadlightHallLaw" (167 : Nat) yX7_lead) ∈ am_WS := am_in (am_tb1 (List.mem_of_getElem? (i := 212) rfl)) (by decide +kernel)
set_option maxRecDepth 100000 in
theorem wd_213 : (Jvm.Cond.instanceMethod yX7_lead) ∈ am_WS := am_in (am_tb1 (List.mem_of_getElem? (i := 213) rfl)) (by decide +kernel)
set_option maxRecDepth 100000 in
theorem wd_214 : (Jvm.Cond.selects "LeadlightHall" yX7_lead yX7_lead) ∈ am_WS := am_in (am_tb1 (List.mem_of_getElem? (i := 214) rfl)) (by decide +kernel)
set_option maxRecDepth 100000 in
theorem wd_22 : (Jvm.Cond.initialized "java/lang/StringUTF16") ∈ am_WS := am_in (am_tb1 (List.mem_of_getElem? (i := 22) rfl)) (by decide +kernel)
set_option maxRecDepth 100000 in
theorem wd_23 : (Jvm.Cond.initialized "jdk/internal/util/Preconditions") ∈ am_WS := am_in (am_tb1 (List.mem_of_getElem? (i := 23) rfl)) (by decide +kernel)
set_option maxRecDepth 100000 in
theorem wd_230 : (Jvm.Cond.methodLink "LeadlightHallLaw" (171 : Nat) yX7_joints) ∈ am_WS := am_in (am_tb1 (List.mem_of_getElem? (i := 230) rfl)) (by decide +kernel)
set_option maxRecDepth 100000 in
theorem wd_231 : (Jvm.Cond.instanceMethod yX7_joints) ∈ am_WS := am_in (am_tb1 (List.mem_of_getElem? (i := 231) rfl)) (by decide +kernel)
set_option maxRecDepth 100000 in
theorem wd_232 : (Jvm.Cond.selects "LeadlightHall" yX7_joints yX7_joints) ∈ am_WS := am_in (am_tb1 (List.mem_of_getElem? (i := 232) rfl)) (by decide +kernel)
set_option maxRecDepth 100000 in
theorem wd_238 : (Jvm.Cond.methodLink "LeadlightHallLaw" (209 : Nat) yX7_isOrderly) ∈ am_WS := am_in (am_tb1 (List.mem_of_getElem? (i := 238) rfl)) (by decide +kernel)
set_option maxRecDepth 100000 in
theorem wd_239 : (Jvm.Cond.instanceMethod yX7_isOrderly) ∈ am_WS := am_in (am_tb1 (List.mem_of_getElem? (i := 239) rfl)) (by decide +kernel)
set_option maxRecDepth 100000 in
theorem wd_240 : (Jvm.Cond.selects "LeadlightHall" yX7_isOrderly yX7_isOrderly) ∈ am_WS := am_in (am_tb2 (List.mem_of_getElem? (i := 0) rfl)) (by decide +kernel)
set_option maxRecDepth 100000 in
theorem wd_26 : (Jvm.Cond.classLink "LeadlightHallLaw" (8 : Nat) "LeadlightHall") ∈ am_WS := am_in (am_tb1 (List.mem_of_getElem? (i := 26) rfl)) (by decide +kernel)
set_option maxRecDepth 100000 in
theorem wd_262 : (Jvm.Cond.methodLink "LeadlightHallLaw" (224 : Nat) yX7_isUp) ∈ am_WS := am_in (am_tb2 (List.mem_of_getElem? (i := 22) rfl)) (by decide +kernel)
set_option maxRecDepth 100000 in
theorem wd_263 : (Jvm.Cond.instanceMethod yX7_isUp) ∈ am_WS := am_in (am_tb2 (List.mem_of_getElem? (i := 23) rfl)) (by decide +kernel)
set_option maxRecDepth 100000 in
theorem wd_264 : (Jvm.Cond.selects "LeadlightHall" yX7_isUp yX7_isUp) ∈ am_WS := am_in (am_tb2 (List.mem_of_getElem? (i := 24) rfl)) (by decide +kernel)
set_option maxRecDepth 100000 in
theorem wd_266 : (Jvm.Cond.methodLink "LeadlightHallLaw" (238 : Nat) yX7_bears) ∈ am_WS := am_in (am_tb2 (List.mem_of_getElem? (i := 26) rfl)) (by decide +kernel)
set_option maxRecDepth 100000 in
theorem wd_267 : (Jvm.Cond.instanceMethod yX7_bears) ∈ am_WS := am_in (am_tb2 (List.mem_of_getElem? (i := 27) rfl)) (by decide +kernel)
set_option maxRecDepth 100000 in
theorem wd_268 : (Jvm.Cond.selects "LeadlightHall" yX7_bears yX7_bears) ∈ am_WS := am_in (am_tb2 (List.mem_of_getElem? (i := 28) rfl)) (by decide +kernel)
set_option maxRecDepth 100000 in
theorem wd_27 : (Jvm.Cond.instantiable "LeadlightHall" (16 : Nat)) ∈ am_WS := am_in (am_tb1 (List.mem_of_getElem? (i := 27) rfl)) (by decide +kernel)
set_option maxRecDepth 100000 in
theorem wd_28 : (Jvm.Cond.methodLink "LeadlightHallLaw" (133 : Nat) yX7_init) ∈ am_WS := am_in (am_tb1 (List.mem_of_getElem? (i := 28) rfl)) (by decide +kernel)
set_option maxRecDepth 100000 in
theorem wd_285 : (Jvm.Cond.methodLink "LeadlightHallLaw" (242 : Nat) yX7_stands) ∈ am_WS := am_in (am_tb2 (List.mem_of_getElem? (i := 45) rfl)) (by decide +kernel)
set_option maxRecDepth 100000 in
theorem wd_286 : (Jvm.Cond.instanceMethod yX7_stands) ∈ am_WS := am_in (am_tb2 (List.mem_of_getElem? (i := 46) rfl)) (by decide +kernel)
set_option maxRecDepth 100000 in
theorem wd_287 : (Jvm.Cond.selects "LeadlightHall" yX7_stands yX7_stands) ∈ am_WS := am_in (am_tb2 (List.mem_of_getElem? (i := 47) rfl)) (by decide +kernel)
set_option maxRecDepth 100000 in
theorem wd_289 : (Jvm.Cond.methodLink "LeadlightHallLaw" (268 : Nat) yX7_hands) ∈ am_WS := am_in (am_tb2 (List.mem_of_getElem? (i := 49) rfl)) (by decide +kernel)
set_option maxRecDepth 100000 in
theorem wd_29 : (Jvm.Cond.instanceMethod yX7_init) ∈ am_WS := am_in (am_tb1 (List.mem_of_getElem? (i := 29) rfl)) (by decide +kernel)
set_option maxRecDepth 100000 in
theorem wd_290 : (Jvm.Cond.instanceMethod yX7_hands) ∈ am_WS := am_in (am_tb2 (List.mem_of_getElem? (i := 50) rfl)) (by decide +kernel)
set_option maxRecDepth 100000 in
theorem wd_291 : (Jvm.Cond.selects "LeadlightHall" yX7_hands yX7_hands) ∈ am_WS := am_in (am_tb2 (List.mem_of_getElem? (i := 51) rfl)) (by decide +kernel)
set_option maxRecDepth 100000 in
theorem wd_322 : (Jvm.Cond.methodLink "LeadlightHallLaw" (275 : Nat) yX7_price) ∈ am_WS := am_in (am_tb2 (List.mem_of_getElem? (i := 82) rfl)) (by decide +kernel)
set_option maxRecDepth 100000 in
theorem wd_323 : (Jvm.Cond.instanceMethod yX7_price) ∈ am_WS := am_in (am_tb2 (List.mem_of_getElem? (i := 83) rfl)) (by decide +kernel)
set_option maxRecDepth 100000 in
theorem wd_324 : (Jvm.Cond.selects "LeadlightHall" yX7_price yX7_price) ∈ am_WS := am_in (am_tb2 (List.mem_of_getElem? (i := 84) rfl)) (by decide +kernel)
set_option maxRecDepth 100000 in
theorem wd_330 : (Jvm.Cond.methodLink "LeadlightHallLaw" (279 : Nat) yX7_checksum) ∈ am_WS := am_in (am_tb2 (List.mem_of_getElem? (i := 90) rfl)) (by decide +kernel)
set_option maxRecDepth 100000 in
theorem wd_331 : (Jvm.Cond.instanceMethod yX7_checksum) ∈ am_WS := am_in (am_tb2 (List.mem_of_getElem? (i := 91) rfl)) (by decide +kernel)
set_option maxRecDepth 100000 in
theorem wd_332 : (Jvm.Cond.selects "LeadlightHall" yX7_checksum yX7_checksum) ∈ am_WS := am_in (am_tb2 (List.mem_of_getElem? (i := 92) rfl)) (by decide +kernel)
set_option maxRecDepth 100000 in
theorem wd_337 : (Jvm.Cond.methodLink "LeadlightHallLaw" (291 : Nat) yX7_isSound) ∈ am_WS := am_in (am_tb2 (List.mem_of_getElem? (i := 97) rfl)) (by decide +kernel)
set_option maxRecDepth 100000 in
theorem wd_338 : (Jvm.Cond.instanceMethod yX7_isSound) ∈ am_WS := am_in (am_tb2 (List.mem_of_getElem? (i := 98) rfl)) (by decide +kernel)
set_option maxRecDepth 100000 in
theorem wd_339 : (Jvm.Cond.selects "LeadlightHall" yX7_isSound yX7_isSound) ∈ am_WS := am_in (am_tb2 (List.mem_of_getElem? (i := 99) rfl)) (by decide +kernel)
set_option maxRecDepth 100000 in
theorem wd_389 : (Jvm.Cond.methodLink "LeadlightHallLaw" (137 : Nat) yL_open) ∈ am_WS := am_in (am_tb2 (List.mem_of_getElem? (i := 149) rfl)) (by decide +kernel)
set_option maxRecDepth 100000 in
theorem wd_390 : (Jvm.Cond.static yL_open) ∈ am_WS := am_in (am_tb2 (List.mem_of_getElem? (i := 150) rfl)) (by decide +kernel)
set_option maxRecDepth 100000 in
theorem wd_391 : (Jvm.Cond.codeWith yL_open method_3_code (8 : Nat) (Option.some Jvm.ClassFile.FieldType.int) [((0 : Nat), (16 : Nat), (19 : Nat), (13 : Nat)), ((0 : Nat), (16 : Nat), (23 : Nat), (15 : Nat))]) ∈ am_WS := am_in (am_tb2 (List.mem_of_getElem? (i := 151) rfl)) (by decide +kernel)
set_option maxRecDepth 100000 in
theorem wd_392 : (Jvm.Cond.classLink "LeadlightHallLaw" (13 : Nat) "java/lang/IllegalArgumentException") ∈ am_WS := am_in (am_tb2 (List.mem_of_getElem? (i := 152) rfl)) (by decide +kernel)
set_option maxRecDepth 100000 in
theorem wd_393 : (Jvm.Cond.classLink "LeadlightHallLaw" (15 : Nat) "java/lang/UnsupportedOperationException") ∈ am_WS := am_in (am_tb2 (List.mem_of_getElem? (i := 153) rfl)) (by decide +kernel)
set_option maxRecDepth 100000 in
theorem wd_394 : (Jvm.Cond.methodLink "LeadlightHallLaw" (7 : Nat) yX7_open) ∈ am_WS := am_in (am_tb2 (List.mem_of_getElem? (i := 154) rfl)) (by decide +kernel)
set_option maxRecDepth 100000 in
theorem wd_395 : (Jvm.Cond.instanceMethod yX7_open) ∈ am_WS := am_in (am_tb2 (List.mem_of_getElem? (i := 155) rfl)) (by decide +kernel)
set_option maxRecDepth 100000 in
theorem wd_396 : (Jvm.Cond.selects "LeadlightHall" yX7_open yX7_open) ∈ am_WS := am_in (am_tb2 (List.mem_of_getElem? (i := 156) rfl)) (by decide +kernel)
set_option maxRecDepth 100000 in
theorem wd_500 : (Jvm.Cond.methodLink "LeadlightHallLaw" (143 : Nat) yL_lay) ∈ am_WS := am_in (am_tb3 (List.mem_of_getElem? (i := 20) rfl)) (by decide +kernel)
set_option maxRecDepth 100000 in
theorem wd_501 : (Jvm.Cond.static yL_lay) ∈ am_WS := am_in (am_tb3 (List.mem_of_getElem? (i := 21) rfl)) (by decide +kernel)
set_option maxRecDepth 100000 in
theorem wd_502 : (Jvm.Cond.codeWith yL_lay method_4_code (8 : Nat) (Option.some Jvm.ClassFile.FieldType.int) [((0 : Nat), (16 : Nat), (19 : Nat), (21 : Nat)), ((0 : Nat), (16 : Nat), (23 : Nat), (13 : Nat)), ((0 : Nat), (16 : Nat), (27 : Nat), (15 : Nat))]) ∈ am_WS := am_in (am_tb3 (List.mem_of_getElem? (i := 22) rfl)) (by decide +kernel)
set_option maxRecDepth 100000 in
theorem wd_503 : (Jvm.Cond.classLink "LeadlightHallLaw" (21 : Nat) "java/lang/IndexOutOfBoundsException") ∈ am_WS := am_in (am_tb3 (List.mem_of_getElem? (i := 23) rfl)) (by decide +kernel)
set_option maxRecDepth 100000 in
theorem wd_504 : (Jvm.Cond.methodLink "LeadlightHallLaw" (17 : Nat) yX7_lay) ∈ am_WS := am_in (am_tb3 (List.mem_of_getElem? (i := 24) rfl)) (by decide +kernel)
set_option maxRecDepth 100000 in
theorem wd_505 : (Jvm.Cond.instanceMethod yX7_lay) ∈ am_WS := am_in (am_tb3 (List.mem_of_getElem? (i := 25) rfl)) (by decide +kernel)
set_option maxRecDepth 100000 in
theorem wd_506 : (Jvm.Cond.selects "LeadlightHall" yX7_lay yX7_lay) ∈ am_WS := am_in (am_tb3 (List.mem_of_getElem? (i := 26) rfl)) (by decide +kernel)
set_option maxRecDepth 100000 in
theorem wd_532 : (Jvm.Cond.methodLink "LeadlightHallLaw" (147 : Nat) yL_pieceAt) ∈ am_WS := am_in (am_tb3 (List.mem_of_getElem? (i := 52) rfl)) (by decide +kernel)
set_option maxRecDepth 100000 in
theorem wd_533 : (Jvm.Cond.static yL_pieceAt) ∈ am_WS := am_in (am_tb3 (List.mem_of_getElem? (i := 53) rfl)) (by decide +kernel)
set_option maxRecDepth 100000 in
theorem wd_534 : (Jvm.Cond.codeWith yL_pieceAt method_5_code (5 : Nat) (Option.some Jvm.ClassFile.FieldType.int) [((0 : Nat), (10 : Nat), (13 : Nat), (13 : Nat))]) ∈ am_WS := am_in (am_tb3 (List.mem_of_getElem? (i := 54) rfl)) (by decide +kernel)
set_option maxRecDepth 100000 in
theorem wd_535 : (Jvm.Cond.methodLink "LeadlightHallLaw" (23 : Nat) yX7_pieceAt) ∈ am_WS := am_in (am_tb3 (List.mem_of_getElem? (i := 55) rfl)) (by decide +kernel)
set_option maxRecDepth 100000 in
theorem wd_536 : (Jvm.Cond.instanceMethod yX7_pieceAt) ∈ am_WS := am_in (am_tb3 (List.mem_of_getElem? (i := 56) rfl)) (by decide +kernel)
set_option maxRecDepth 100000 in
theorem wd_537 : (Jvm.Cond.selects "LeadlightHall" yX7_pieceAt yX7_pieceAt) ∈ am_WS := am_in (am_tb3 (List.mem_of_getElem? (i := 57) rfl)) (by decide +kernel)
set_option maxRecDepth 100000 in
theorem wd_543 : (Jvm.Cond.methodLink "LeadlightHallLaw" (151 : Nat) yL_size) ∈ am_WS := am_in (am_tb3 (List.mem_of_getElem? (i := 63) rfl)) (by decide +kernel)
set_option maxRecDepth 100000 in
theorem wd_544 : (Jvm.Cond.static yL_size) ∈ am_WS := am_in (am_tb3 (List.mem_of_getElem? (i := 64) rfl)) (by decide +kernel)
set_option maxRecDepth 100000 in
theorem wd_545 : (Jvm.Cond.codeWith yL_size method_6_code (4 : Nat) (Option.some Jvm.ClassFile.FieldType.int) [((0 : Nat), (9 : Nat), (12 : Nat), (21 : Nat))]) ∈ am_WS := am_in (am_tb3 (List.mem_of_getElem? (i := 65) rfl)) (by decide +kernel)
set_option maxRecDepth 100000 in
theorem wd_546 : (Jvm.Cond.methodLink "LeadlightHallLaw" (27 : Nat) yX7_size) ∈ am_WS := am_in (am_tb3 (List.mem_of_getElem? (i := 66) rfl)) (by decide +kernel)
set_option maxRecDepth 100000 in
theorem wd_547 : (Jvm.Cond.instanceMethod yX7_size) ∈ am_WS := am_in (am_tb3 (List.mem_of_getElem? (i := 67) rfl)) (by decide +kernel)
set_option maxRecDepth 100000 in
theorem wd_548 : (Jvm.Cond.selects "LeadlightHall" yX7_size yX7_size) ∈ am_WS := am_in (am_tb3 (List.mem_of_getElem? (i := 68) rfl)) (by decide +kernel)
set_option maxRecDepth 100000 in
theorem wd_550 : (Jvm.Cond.methodLink "LeadlightHallLaw" (155 : Nat) yL_corners) ∈ am_WS := am_in (am_tb3 (List.mem_of_getElem? (i := 70) rfl)) (by decide +kernel)
set_option maxRecDepth 100000 in
theorem wd_551 : (Jvm.Cond.static yL_corners) ∈ am_WS := am_in (am_tb3 (List.mem_of_getElem? (i := 71) rfl)) (by decide +kernel)
set_option maxRecDepth 100000 in
theorem wd_552 : (Jvm.Cond.codeWith yL_corners method_7_code (4 : Nat) (Option.some Jvm.ClassFile.FieldType.int) [((0 : Nat), (9 : Nat), (12 : Nat), (21 : Nat))]) ∈ am_WS := am_in (am_tb3 (List.mem_of_getElem? (i := 72) rfl)) (by decide +kernel)
set_option maxRecDepth 100000 in
theorem wd_553 : (Jvm.Cond.methodLink "LeadlightHallLaw" (31 : Nat) yX7_corners) ∈ am_WS := am_in (am_tb3 (List.mem_of_getElem? (i := 73) rfl)) (by decide +kernel)
set_option maxRecDepth 100000 in
theorem wd_554 : (Jvm.Cond.instanceMethod yX7_corners) ∈ am_WS := am_in (am_tb3 (List.mem_of_getElem? (i := 74) rfl)) (by decide +kernel)
set_option maxRecDepth 100000 in
theorem wd_555 : (Jvm.Cond.selects "LeadlightHall" yX7_corners yX7_corners) ∈ am_WS := am_in (am_tb3 (List.mem_of_getElem? (i := 75) rfl)) (by decide +kernel)
set_option maxRecDepth 100000 in
theorem wd_557 : (Jvm.Cond.methodLink "LeadlightHallLaw" (158 : Nat) yL_point) ∈ am_WS := am_in (am_tb3 (List.mem_of_getElem? (i := 77) rfl)) (by decide +kernel)
set_option maxRecDepth 100000 in
theorem wd_558 : (Jvm.Cond.static yL_point) ∈ am_WS := am_in (am_tb3 (List.mem_of_getElem? (i := 78) rfl)) (by decide +kernel)
set_option maxRecDepth 100000 in
theorem wd_559 : (Jvm.Cond.codeWith yL_point method_8_code (4 : Nat) (Option.some Jvm.ClassFile.FieldType.int) [((0 : Nat), (9 : Nat), (12 : Nat), (21 : Nat))]) ∈ am_WS := am_in (am_tb3 (List.mem_of_getElem? (i := 79) rfl)) (by decide +kernel)
set_option maxRecDepth 100000 in
theorem wd_560 : (Jvm.Cond.methodLink "LeadlightHallLaw" (34 : Nat) yX7_point) ∈ am_WS := am_in (am_tb3 (List.mem_of_getElem? (i := 80) rfl)) (by decide +kernel)
set_option maxRecDepth 100000 in
theorem wd_561 : (Jvm.Cond.instanceMethod yX7_point) ∈ am_WS := am_in (am_tb3 (List.mem_of_getElem? (i := 81) rfl)) (by decide +kernel)
set_option maxRecDepth 100000 in
theorem wd_562 : (Jvm.Cond.selects "LeadlightHall" yX7_point yX7_point) ∈ am_WS := am_in (am_tb3 (List.mem_of_getElem? (i := 82) rfl)) (by decide +kernel)
set_option maxRecDepth 100000 in
theorem wd_588 : (Jvm.Cond.methodLink "LeadlightHallLaw" (161 : Nat) yL_hinders) ∈ am_WS := am_in (am_tb3 (List.mem_of_getElem? (i := 108) rfl)) (by decide +kernel)
set_option maxRecDepth 100000 in
theorem wd_589 : (Jvm.Cond.static yL_hinders) ∈ am_WS := am_in (am_tb3 (List.mem_of_getElem? (i := 109) rfl)) (by decide +kernel)
set_option maxRecDepth 100000 in
theorem wd_590 : (Jvm.Cond.codeWith yL_hinders method_9_code (4 : Nat) (Option.some Jvm.ClassFile.FieldType.int) [((0 : Nat), (9 : Nat), (12 : Nat), (21 : Nat))]) ∈ am_WS := am_in (am_tb3 (List.mem_of_getElem? (i := 110) rfl)) (by decide +kernel)
set_option maxRecDepth 100000 in
theorem wd_591 : (Jvm.Cond.methodLink "LeadlightHallLaw" (37 : Nat) yX7_hinders) ∈ am_WS := am_in (am_tb3 (List.mem_of_getElem? (i := 111) rfl)) (by decide +kernel)
set_option maxRecDepth 100000 in
theorem wd_592 : (Jvm.Cond.instanceMethod yX7_hinders) ∈ am_WS := am_in (am_tb3 (List.mem_of_getElem? (i := 112) rfl)) (by decide +kernel)
set_option maxRecDepth 100000 in
theorem wd_593 : (Jvm.Cond.selects "LeadlightHall" yX7_hinders yX7_hinders) ∈ am_WS := am_in (am_tb3 (List.mem_of_getElem? (i := 113) rfl)) (by decide +kernel)
set_option maxRecDepth 100000 in
theorem wd_606 : (Jvm.Cond.methodLink "LeadlightHallLaw" (164 : Nat) yL_split) ∈ am_WS := am_in (am_tb3 (List.mem_of_getElem? (i := 126) rfl)) (by decide +kernel)
set_option maxRecDepth 100000 in
theorem wd_607 : (Jvm.Cond.static yL_split) ∈ am_WS := am_in (am_tb3 (List.mem_of_getElem? (i := 127) rfl)) (by decide +kernel)
set_option maxRecDepth 100000 in
theorem wd_608 : (Jvm.Cond.codeWith yL_split method_10_code (4 : Nat) (Option.some Jvm.ClassFile.FieldType.int) [((0 : Nat), (9 : Nat), (12 : Nat), (21 : Nat)), ((0 : Nat), (9 : Nat), (15 : Nat), (15 : Nat)), ((0 : Nat), (9 : Nat), (18 : Nat), (44 : Nat))]) ∈ am_WS := am_in (am_tb3 (List.mem_of_getElem? (i := 128) rfl)) (by decide +kernel)
set_option maxRecDepth 100000 in
theorem wd_609 : (Jvm.Cond.classLink "LeadlightHallLaw" (44 : Nat) "java/lang/IllegalStateException") ∈ am_WS := am_in (am_tb3 (List.mem_of_getElem? (i := 129) rfl)) (by decide +kernel)
set_option maxRecDepth 100000 in
theorem wd_610 : (Jvm.Cond.methodLink "LeadlightHallLaw" (41 : Nat) yX7_split) ∈ am_WS := am_in (am_tb3 (List.mem_of_getElem? (i := 130) rfl)) (by decide +kernel)
set_option maxRecDepth 100000 in
theorem wd_611 : (Jvm.Cond.instanceMethod yX7_split) ∈ am_WS := am_in (am_tb3 (List.mem_of_getElem? (i := 131) rfl)) (by decide +kernel)
set_option maxRecDepth 100000 in
theorem wd_612 : (Jvm.Cond.selects "LeadlightHall" yX7_split yX7_split) ∈ am_WS := am_in (am_tb3 (List.mem_of_getElem? (i := 132) rfl)) (by decide +kernel)
set_option maxRecDepth 100000 in
theorem wd_659 : (Jvm.Cond.methodLink "LeadlightHallLaw" (175 : Nat) yL_sheet) ∈ am_WS := am_in (am_tb3 (List.mem_of_getElem? (i := 179) rfl)) (by decide +kernel)
set_option maxRecDepth 100000 in
theorem wd_660 : (Jvm.Cond.static yL_sheet) ∈ am_WS := am_in (am_tb3 (List.mem_of_getElem? (i := 180) rfl)) (by decide +kernel)
set_option maxRecDepth 100000 in
theorem wd_661 : (Jvm.Cond.codeWith yL_sheet method_11_code (7 : Nat) (Option.some Jvm.ClassFile.FieldType.int) [((0 : Nat), (14 : Nat), (17 : Nat), (13 : Nat)), ((0 : Nat), (14 : Nat), (21 : Nat), (44 : Nat))]) ∈ am_WS := am_in (am_tb3 (List.mem_of_getElem? (i := 181) rfl)) (by decide +kernel)
set_option maxRecDepth 100000 in
theorem wd_662 : (Jvm.Cond.methodLink "LeadlightHallLaw" (46 : Nat) yX7_sheet) ∈ am_WS := am_in (am_tb3 (List.mem_of_getElem? (i := 182) rfl)) (by decide +kernel)
set_option maxRecDepth 100000 in
theorem wd_663 : (Jvm.Cond.instanceMethod yX7_sheet) ∈ am_WS := am_in (am_tb3 (List.mem_of_getElem? (i := 183) rfl)) (by decide +kernel)
set_option maxRecDepth 100000 in
theorem wd_664 : (Jvm.Cond.selects "LeadlightHall" yX7_sheet yX7_sheet) ∈ am_WS := am_in (am_tb3 (List.mem_of_getElem? (i := 184) rfl)) (by decide +kernel)
set_option maxRecDepth 100000 in
theorem wd_678 : (Jvm.Cond.methodLink "LeadlightHallLaw" (179 : Nat) yL_free) ∈ am_WS := am_in (am_tb3 (List.mem_of_getElem? (i := 198) rfl)) (by decide +kernel)
set_option maxRecDepth 100000 in
theorem wd_679 : (Jvm.Cond.static yL_free) ∈ am_WS := am_in (am_tb3 (List.mem_of_getElem? (i := 199) rfl)) (by decide +kernel)
set_option maxRecDepth 100000 in
theorem wd_680 : (Jvm.Cond.codeWith yL_free method_12_code (4 : Nat) (Option.some Jvm.ClassFile.FieldType.int) [((0 : Nat), (9 : Nat), (12 : Nat), (21 : Nat))]) ∈ am_WS := am_in (am_tb3 (List.mem_of_getElem? (i := 200) rfl)) (by decide +kernel)
set_option maxRecDepth 100000 in
theorem wd_681 : (Jvm.Cond.methodLink "LeadlightHallLaw" (50 : Nat) yX7_free) ∈ am_WS := am_in (am_tb3 (List.mem_of_getElem? (i := 201) rfl)) (by decide +kernel)
set_option maxRecDepth 100000 in
theorem wd_682 : (Jvm.Cond.instanceMethod yX7_free) ∈ am_WS := am_in (am_tb3 (List.mem_of_getElem? (i := 202) rfl)) (by decide +kernel)
set_option maxRecDepth 100000 in
theorem wd_683 : (Jvm.Cond.selects "LeadlightHall" yX7_free yX7_free) ∈ am_WS := am_in (am_tb3 (List.mem_of_getElem? (i := 203) rfl)) (by decide +kernel)
set_option maxRecDepth 100000 in
theorem wd_694 : (Jvm.Cond.methodLink "LeadlightHallLaw" (182 : Nat) yL_want) ∈ am_WS := am_in (am_tb3 (List.mem_of_getElem? (i := 214) rfl)) (by decide +kernel)
set_option maxRecDepth 100000 in
theorem wd_695 : (Jvm.Cond.static yL_want) ∈ am_WS := am_in (am_tb3 (List.mem_of_getElem? (i := 215) rfl)) (by decide +kernel)
set_option maxRecDepth 100000 in
theorem wd_696 : (Jvm.Cond.codeWith yL_want method_13_code (6 : Nat) (Option.some Jvm.ClassFile.FieldType.int) [((0 : Nat), (19 : Nat), (22 : Nat), (21 : Nat)), ((0 : Nat), (19 : Nat), (26 : Nat), (13 : Nat)), ((0 : Nat), (19 : Nat), (30 : Nat), (15 : Nat))]) ∈ am_WS := am_in (am_tb3 (List.mem_of_getElem? (i := 216) rfl)) (by decide +kernel)
set_option maxRecDepth 100000 in
theorem wd_697 : (Jvm.Cond.methodLink "LeadlightHallLaw" (53 : Nat) yX7_want) ∈ am_WS := am_in (am_tb3 (List.mem_of_getElem? (i := 217) rfl)) (by decide +kernel)
set_option maxRecDepth 100000 in
theorem wd_698 : (Jvm.Cond.instanceMethod yX7_want) ∈ am_WS := am_in (am_tb3 (List.mem_of_getElem? (i := 218) rfl)) (by decide +kernel)
set_option maxRecDepth 100000 in
theorem wd_699 : (Jvm.Cond.selects "LeadlightHall" yX7_want yX7_want) ∈ am_WS := am_in (am_tb3 (List.mem_of_getElem? (i := 219) rfl)) (by decide +kernel)
set_option maxRecDepth 100000 in
theorem wd_702 : (Jvm.Cond.methodLink "LeadlightHallLaw" (186 : Nat) yL_cut) ∈ am_WS := am_in (am_tb3 (List.mem_of_getElem? (i := 222) rfl)) (by decide +kernel)
set_option maxRecDepth 100000 in
theorem wd_703 : (Jvm.Cond.static yL_cut) ∈ am_WS := am_in (am_tb3 (List.mem_of_getElem? (i := 223) rfl)) (by decide +kernel)
set_option maxRecDepth 100000 in
theorem wd_704 : (Jvm.Cond.codeWith yL_cut method_14_code (6 : Nat) (Option.some Jvm.ClassFile.FieldType.int) [((0 : Nat), (19 : Nat), (22 : Nat), (21 : Nat)), ((0 : Nat), (19 : Nat), (26 : Nat), (13 : Nat)), ((0 : Nat), (19 : Nat), (30 : Nat), (15 : Nat))]) ∈ am_WS := am_in (am_tb3 (List.mem_of_getElem? (i := 224) rfl)) (by decide +kernel)
set_option maxRecDepth 100000 in
theorem wd_705 : (Jvm.Cond.methodLink "LeadlightHallLaw" (57 : Nat) yX7_cut) ∈ am_WS := am_in (am_tb3 (List.mem_of_getElem? (i := 225) rfl)) (by decide +kernel)
set_option maxRecDepth 100000 in
theorem wd_706 : (Jvm.Cond.instanceMethod yX7_cut) ∈ am_WS := am_in (am_tb3 (List.mem_of_getElem? (i := 226) rfl)) (by decide +kernel)
set_option maxRecDepth 100000 in
theorem wd_707 : (Jvm.Cond.selects "LeadlightHall" yX7_cut yX7_cut) ∈ am_WS := am_in (am_tb3 (List.mem_of_getElem? (i := 227) rfl)) (by decide +kernel)
set_option maxRecDepth 100000 in
theorem wd_771 : (Jvm.Cond.methodLink "LeadlightHallLaw" (190 : Nat) yL_glass) ∈ am_WS := am_in (am_tb4 (List.mem_of_getElem? (i := 51) rfl)) (by decide +kernel)
set_option maxRecDepth 100000 in
theorem wd_772 : (Jvm.Cond.static yL_glass) ∈ am_WS := am_in (am_tb4 (List.mem_of_getElem? (i := 52) rfl)) (by decide +kernel)
set_option maxRecDepth 100000 in
theorem wd_773 : (Jvm.Cond.codeWith yL_glass method_15_code (4 : Nat) (Option.some Jvm.ClassFile.FieldType.int) [((0 : Nat), (9 : Nat), (12 : Nat), (21 : Nat))]) ∈ am_WS := am_in (am_tb4 (List.mem_of_getElem? (i := 53) rfl)) (by decide +kernel)
set_option maxRecDepth 100000 in
theorem wd_774 : (Jvm.Cond.methodLink "LeadlightHallLaw" (61 : Nat) yX7_glass) ∈ am_WS := am_in (am_tb4 (List.mem_of_getElem? (i := 54) rfl)) (by decide +kernel)
set_option maxRecDepth 100000 in
theorem wd_775 : (Jvm.Cond.instanceMethod yX7_glass) ∈ am_WS := am_in (am_tb4 (List.mem_of_getElem? (i := 55) rfl)) (by decide +kernel)
set_option maxRecDepth 100000 in
theorem wd_776 : (Jvm.Cond.selects "LeadlightHall" yX7_glass yX7_glass) ∈ am_WS := am_in (am_tb4 (List.mem_of_getElem? (i := 56) rfl)) (by decide +kernel)
set_option maxRecDepth 100000 in
theorem wd_778 : (Jvm.Cond.methodLink "LeadlightHallLaw" (193 : Nat) yL_colour) ∈ am_WS := am_in (am_tb4 (List.mem_of_getElem? (i := 58) rfl)) (by decide +kernel)
set_option maxRecDepth 100000 in
theorem wd_779 : (Jvm.Cond.static yL_colour) ∈ am_WS := am_in (am_tb4 (List.mem_of_getElem? (i := 59) rfl)) (by decide +kernel)
set_option maxRecDepth 100000 in
theorem wd_780 : (Jvm.Cond.codeWith yL_colour method_16_code (4 : Nat) (Option.some Jvm.ClassFile.FieldType.int) [((0 : Nat), (9 : Nat), (12 : Nat), (21 : Nat)), ((0 : Nat), (9 : Nat), (15 : Nat), (67 : Nat))]) ∈ am_WS := am_in (am_tb4 (List.mem_of_getElem? (i := 60) rfl)) (by decide +kernel)
set_option maxRecDepth 100000 in
theorem wd_781 : (Jvm.Cond.classLink "LeadlightHallLaw" (67 : Nat) "java/util/NoSuchElementException") ∈ am_WS := am_in (am_tb4 (List.mem_of_getElem? (i := 61) rfl)) (by decide +kernel)
set_option maxRecDepth 100000 in
theorem wd_782 : (Jvm.Cond.methodLink "LeadlightHallLaw" (64 : Nat) yX7_colour) ∈ am_WS := am_in (am_tb4 (List.mem_of_getElem? (i := 62) rfl)) (by decide +kernel)
set_option maxRecDepth 100000 in
theorem wd_783 : (Jvm.Cond.instanceMethod yX7_colour) ∈ am_WS := am_in (am_tb4 (List.mem_of_getElem? (i := 63) rfl)) (by decide +kernel)
set_option maxRecDepth 100000 in
theorem wd_784 : (Jvm.Cond.selects "LeadlightHall" yX7_colour yX7_colour) ∈ am_WS := am_in (am_tb4 (List.mem_of_getElem? (i := 64) rfl)) (by decide +kernel)
set_option maxRecDepth 100000 in
theorem wd_806 : (Jvm.Cond.methodLink "LeadlightHallLaw" (196 : Nat) yL_paint) ∈ am_WS := am_in (am_tb4 (List.mem_of_getElem? (i := 86) rfl)) (by decide +kernel)
set_option maxRecDepth 100000 in
theorem wd_807 : (Jvm.Cond.static yL_paint) ∈ am_WS := am_in (am_tb4 (List.mem_of_getElem? (i := 87) rfl)) (by decide +kernel)
set_option maxRecDepth 100000 in
theorem wd_808 : (Jvm.Cond.codeWith yL_paint method_17_code (5 : Nat) (Option.some Jvm.ClassFile.FieldType.int) [((0 : Nat), (10 : Nat), (13 : Nat), (21 : Nat)), ((0 : Nat), (10 : Nat), (17 : Nat), (13 : Nat)), ((0 : Nat), (10 : Nat), (21 : Nat), (15 : Nat)), ((0 : Nat), (10 : Nat), (25 : Nat), (44 : Nat))]) ∈ am_WS := am_in (am_tb4 (List.mem_of_getElem? (i := 88) rfl)) (by decide +kernel)
set_option maxRecDepth 100000 in
theorem wd_809 : (Jvm.Cond.methodLink "LeadlightHallLaw" (69 : Nat) yX7_paint) ∈ am_WS := am_in (am_tb4 (List.mem_of_getElem? (i := 89) rfl)) (by decide +kernel)
set_option maxRecDepth 100000 in
theorem wd_810 : (Jvm.Cond.instanceMethod yX7_paint) ∈ am_WS := am_in (am_tb4 (List.mem_of_getElem? (i := 90) rfl)) (by decide +kernel)
set_option maxRecDepth 100000 in
theorem wd_811 : (Jvm.Cond.selects "LeadlightHall" yX7_paint yX7_paint) ∈ am_WS := am_in (am_tb4 (List.mem_of_getElem? (i := 91) rfl)) (by decide +kernel)
set_option maxRecDepth 100000 in
theorem wd_835 : (Jvm.Cond.methodLink "LeadlightHallLaw" (200 : Nat) yL_fire) ∈ am_WS := am_in (am_tb4 (List.mem_of_getElem? (i := 115) rfl)) (by decide +kernel)
set_option maxRecDepth 100000 in
theorem wd_836 : (Jvm.Cond.static yL_fire) ∈ am_WS := am_in (am_tb4 (List.mem_of_getElem? (i := 116) rfl)) (by decide +kernel)
set_option maxRecDepth 100000 in
theorem wd_837 : (Jvm.Cond.codeWith yL_fire method_18_code (5 : Nat) (Option.some Jvm.ClassFile.FieldType.int) [((0 : Nat), (10 : Nat), (13 : Nat), (13 : Nat)), ((0 : Nat), (10 : Nat), (17 : Nat), (15 : Nat))]) ∈ am_WS := am_in (am_tb4 (List.mem_of_getElem? (i := 117) rfl)) (by decide +kernel)
set_option maxRecDepth 100000 in
theorem wd_838 : (Jvm.Cond.methodLink "LeadlightHallLaw" (73 : Nat) yX7_fire) ∈ am_WS := am_in (am_tb4 (List.mem_of_getElem? (i := 118) rfl)) (by decide +kernel)
set_option maxRecDepth 100000 in
theorem wd_839 : (Jvm.Cond.instanceMethod yX7_fire) ∈ am_WS := am_in (am_tb4 (List.mem_of_getElem? (i := 119) rfl)) (by decide +kernel)
set_option maxRecDepth 100000 in
theorem wd_840 : (Jvm.Cond.selects "LeadlightHall" yX7_fire yX7_fire) ∈ am_WS := am_in (am_tb4 (List.mem_of_getElem? (i := 120) rfl)) (by decide +kernel)
set_option maxRecDepth 100000 in
theorem wd_851 : (Jvm.Cond.methodLink "LeadlightHallLaw" (203 : Nat) yL_layers) ∈ am_WS := am_in (am_tb4 (List.mem_of_getElem? (i := 131) rfl)) (by decide +kernel)
set_option maxRecDepth 100000 in
theorem wd_852 : (Jvm.Cond.static yL_layers) ∈ am_WS := am_in (am_tb4 (List.mem_of_getElem? (i := 132) rfl)) (by decide +kernel)
set_option maxRecDepth 100000 in
theorem wd_853 : (Jvm.Cond.codeWith yL_layers method_19_code (5 : Nat) (Option.some Jvm.ClassFile.FieldType.int) [((0 : Nat), (10 : Nat), (13 : Nat), (21 : Nat)), ((0 : Nat), (10 : Nat), (17 : Nat), (13 : Nat))]) ∈ am_WS := am_in (am_tb4 (List.mem_of_getElem? (i := 133) rfl)) (by decide +kernel)
set_option maxRecDepth 100000 in
theorem wd_854 : (Jvm.Cond.methodLink "LeadlightHallLaw" (76 : Nat) yX7_layers) ∈ am_WS := am_in (am_tb4 (List.mem_of_getElem? (i := 134) rfl)) (by decide +kernel)
set_option maxRecDepth 100000 in
theorem wd_855 : (Jvm.Cond.instanceMethod yX7_layers) ∈ am_WS := am_in (am_tb4 (List.mem_of_getElem? (i := 135) rfl)) (by decide +kernel)
set_option maxRecDepth 100000 in
theorem wd_856 : (Jvm.Cond.selects "LeadlightHall" yX7_layers yX7_layers) ∈ am_WS := am_in (am_tb4 (List.mem_of_getElem? (i := 136) rfl)) (by decide +kernel)
set_option maxRecDepth 100000 in
theorem wd_859 : (Jvm.Cond.methodLink "LeadlightHallLaw" (206 : Nat) yL_seed) ∈ am_WS := am_in (am_tb4 (List.mem_of_getElem? (i := 139) rfl)) (by decide +kernel)
set_option maxRecDepth 100000 in
theorem wd_860 : (Jvm.Cond.static yL_seed) ∈ am_WS := am_in (am_tb4 (List.mem_of_getElem? (i := 140) rfl)) (by decide +kernel)
set_option maxRecDepth 100000 in
theorem wd_861 : (Jvm.Cond.codeWith yL_seed method_20_code (4 : Nat) (Option.some Jvm.ClassFile.FieldType.int) [((0 : Nat), (9 : Nat), (12 : Nat), (13 : Nat))]) ∈ am_WS := am_in (am_tb4 (List.mem_of_getElem? (i := 141) rfl)) (by decide +kernel)
set_option maxRecDepth 100000 in
theorem wd_862 : (Jvm.Cond.methodLink "LeadlightHallLaw" (79 : Nat) yX7_seed) ∈ am_WS := am_in (am_tb4 (List.mem_of_getElem? (i := 142) rfl)) (by decide +kernel)
set_option maxRecDepth 100000 in
theorem wd_863 : (Jvm.Cond.instanceMethod yX7_seed) ∈ am_WS := am_in (am_tb4 (List.mem_of_getElem? (i := 143) rfl)) (by decide +kernel)
set_option maxRecDepth 100000 in
theorem wd_864 : (Jvm.Cond.selects "LeadlightHall" yX7_seed yX7_seed) ∈ am_WS := am_in (am_tb4 (List.mem_of_getElem? (i := 144) rfl)) (by decide +kernel)
set_option maxRecDepth 100000 in
theorem wd_868 : (Jvm.Cond.methodLink "LeadlightHallLaw" (214 : Nat) yL_next) ∈ am_WS := am_in (am_tb4 (List.mem_of_getElem? (i := 148) rfl)) (by decide +kernel)
set_option maxRecDepth 100000 in
theorem wd_869 : (Jvm.Cond.static yL_next) ∈ am_WS := am_in (am_tb4 (List.mem_of_getElem? (i := 149) rfl)) (by decide +kernel)
set_option maxRecDepth 100000 in
theorem wd_870 : (Jvm.Cond.codeWith yL_next method_21_code (3 : Nat) (Option.some Jvm.ClassFile.FieldType.int) [((0 : Nat), (8 : Nat), (11 : Nat), (67 : Nat))]) ∈ am_WS := am_in (am_tb4 (List.mem_of_getElem? (i := 150) rfl)) (by decide +kernel)
set_option maxRecDepth 100000 in
theorem wd_871 : (Jvm.Cond.methodLink "LeadlightHallLaw" (82 : Nat) yX7_next) ∈ am_WS := am_in (am_tb4 (List.mem_of_getElem? (i := 151) rfl)) (by decide +kernel)
set_option maxRecDepth 100000 in
theorem wd_872 : (Jvm.Cond.instanceMethod yX7_next) ∈ am_WS := am_in (am_tb4 (List.mem_of_getElem? (i := 152) rfl)) (by decide +kernel)
set_option maxRecDepth 100000 in
theorem wd_873 : (Jvm.Cond.selects "LeadlightHall" yX7_next yX7_next) ∈ am_WS := am_in (am_tb4 (List.mem_of_getElem? (i := 153) rfl)) (by decide +kernel)
set_option maxRecDepth 100000 in
theorem wd_880 : (Jvm.Cond.methodLink "LeadlightHallLaw" (218 : Nat) yL_comes) ∈ am_WS := am_in (am_tb4 (List.mem_of_getElem? (i := 160) rfl)) (by decide +kernel)
set_option maxRecDepth 100000 in
theorem wd_881 : (Jvm.Cond.static yL_comes) ∈ am_WS := am_in (am_tb4 (List.mem_of_getElem? (i := 161) rfl)) (by decide +kernel)
set_option maxRecDepth 100000 in
theorem wd_882 : (Jvm.Cond.codeWith yL_comes method_22_code (3 : Nat) (Option.some Jvm.ClassFile.FieldType.int) [((0 : Nat), (8 : Nat), (11 : Nat), (67 : Nat))]) ∈ am_WS := am_in (am_tb4 (List.mem_of_getElem? (i := 162) rfl)) (by decide +kernel)
set_option maxRecDepth 100000 in
theorem wd_883 : (Jvm.Cond.methodLink "LeadlightHallLaw" (86 : Nat) yX7_comes) ∈ am_WS := am_in (am_tb4 (List.mem_of_getElem? (i := 163) rfl)) (by decide +kernel)
set_option maxRecDepth 100000 in
theorem wd_884 : (Jvm.Cond.instanceMethod yX7_comes) ∈ am_WS := am_in (am_tb4 (List.mem_of_getElem? (i := 164) rfl)) (by decide +kernel)
set_option maxRecDepth 100000 in
theorem wd_885 : (Jvm.Cond.selects "LeadlightHall" yX7_comes yX7_comes) ∈ am_WS := am_in (am_tb4 (List.mem_of_getElem? (i := 165) rfl)) (by decide +kernel)
set_option maxRecDepth 100000 in
theorem wd_887 : (Jvm.Cond.methodLink "LeadlightHallLaw" (221 : Nat) yL_solder) ∈ am_WS := am_in (am_tb4 (List.mem_of_getElem? (i := 167) rfl)) (by decide +kernel)
set_option maxRecDepth 100000 in
theorem wd_888 : (Jvm.Cond.static yL_solder) ∈ am_WS := am_in (am_tb4 (List.mem_of_getElem? (i := 168) rfl)) (by decide +kernel)
set_option maxRecDepth 100000 in
theorem wd_889 : (Jvm.Cond.codeWith yL_solder method_23_code (3 : Nat) (Option.some Jvm.ClassFile.FieldType.int) [((0 : Nat), (8 : Nat), (11 : Nat), (15 : Nat))]) ∈ am_WS := am_in (am_tb4 (List.mem_of_getElem? (i := 169) rfl)) (by decide +kernel)
set_option maxRecDepth 100000 in
theorem wd_890 : (Jvm.Cond.methodLink "LeadlightHallLaw" (89 : Nat) yX7_solder) ∈ am_WS := am_in (am_tb4 (List.mem_of_getElem? (i := 170) rfl)) (by decide +kernel)
set_option maxRecDepth 100000 in
theorem wd_891 : (Jvm.Cond.instanceMethod yX7_solder) ∈ am_WS := am_in (am_tb4 (List.mem_of_getElem? (i := 171) rfl)) (by decide +kernel)
set_option maxRecDepth 100000 in
theorem wd_892 : (Jvm.Cond.selects "LeadlightHall" yX7_solder yX7_solder) ∈ am_WS := am_in (am_tb4 (List.mem_of_getElem? (i := 172) rfl)) (by decide +kernel)
set_option maxRecDepth 100000 in
theorem wd_895 : (Jvm.Cond.methodLink "LeadlightHallLaw" (228 : Nat) yL_bar) ∈ am_WS := am_in (am_tb4 (List.mem_of_getElem? (i := 175) rfl)) (by decide +kernel)
set_option maxRecDepth 100000 in
theorem wd_896 : (Jvm.Cond.static yL_bar) ∈ am_WS := am_in (am_tb4 (List.mem_of_getElem? (i := 176) rfl)) (by decide +kernel)
set_option maxRecDepth 100000 in
theorem wd_897 : (Jvm.Cond.codeWith yL_bar method_24_code (5 : Nat) (Option.some Jvm.ClassFile.FieldType.int) [((0 : Nat), (17 : Nat), (20 : Nat), (13 : Nat))]) ∈ am_WS := am_in (am_tb4 (List.mem_of_getElem? (i := 177) rfl)) (by decide +kernel)
set_option maxRecDepth 100000 in
theorem wd_898 : (Jvm.Cond.methodLink "LeadlightHallLaw" (92 : Nat) yX7_bar) ∈ am_WS := am_in (am_tb4 (List.mem_of_getElem? (i := 178) rfl)) (by decide +kernel)
set_option maxRecDepth 100000 in
theorem wd_899 : (Jvm.Cond.instanceMethod yX7_bar) ∈ am_WS := am_in (am_tb4 (List.mem_of_getElem? (i := 179) rfl)) (by decide +kernel)
set_option maxRecDepth 100000 in
theorem wd_9 : (Jvm.Cond.initialized "LeadlightHallModel") ∈ am_WS := am_in (am_tb1 (List.mem_of_getElem? (i := 9) rfl)) (by decide +kernel)
set_option maxRecDepth 100000 in
theorem wd_900 : (Jvm.Cond.selects "LeadlightHall" yX7_bar yX7_bar) ∈ am_WS := am_in (am_tb4 (List.mem_of_getElem? (i := 180) rfl)) (by decide +kernel)
set_option maxRecDepth 100000 in
theorem wd_908 : (Jvm.Cond.methodLink "LeadlightHallLaw" (232 : Nat) yL_profile) ∈ am_WS := am_in (am_tb4 (List.mem_of_getElem? (i := 188) rfl)) (by decide +kernel)
set_option maxRecDepth 100000 in
theorem wd_909 : (Jvm.Cond.static yL_profile) ∈ am_WS := am_in (am_tb4 (List.mem_of_getElem? (i := 189) rfl)) (by decide +kernel)
set_option maxRecDepth 100000 in
theorem wd_910 : (Jvm.Cond.codeWith yL_profile method_25_code (4 : Nat) (Option.some Jvm.ClassFile.FieldType.int) [((0 : Nat), (9 : Nat), (12 : Nat), (13 : Nat)), ((0 : Nat), (9 : Nat), (15 : Nat), (15 : Nat))]) ∈ am_WS := am_in (am_tb4 (List.mem_of_getElem? (i := 190) rfl)) (by decide +kernel)
set_option maxRecDepth 100000 in
theorem wd_911 : (Jvm.Cond.methodLink "LeadlightHallLaw" (96 : Nat) yX7_profile) ∈ am_WS := am_in (am_tb4 (List.mem_of_getElem? (i := 191) rfl)) (by decide +kernel)
set_option maxRecDepth 100000 in
theorem wd_912 : (Jvm.Cond.instanceMethod yX7_profile) ∈ am_WS := am_in (am_tb4 (List.mem_of_getElem? (i := 192) rfl)) (by decide +kernel)
set_option maxRecDepth 100000 in
theorem wd_913 : (Jvm.Cond.selects "LeadlightHall" yX7_profile yX7_profile) ∈ am_WS := am_in (am_tb4 (List.mem_of_getElem? (i := 193) rfl)) (by decide +kernel)
set_option maxRecDepth 100000 in
theorem wd_917 : (Jvm.Cond.methodLink "LeadlightHallLaw" (235 : Nat) yL_wind) ∈ am_WS := am_in (am_tb4 (List.mem_of_getElem? (i := 197) rfl)) (by decide +kernel)
set_option maxRecDepth 100000 in
theorem wd_918 : (Jvm.Cond.static yL_wind) ∈ am_WS := am_in (am_tb4 (List.mem_of_getElem? (i := 198) rfl)) (by decide +kernel)
set_option maxRecDepth 100000 in
theorem wd_919 : (Jvm.Cond.codeWith yL_wind method_26_code (4 : Nat) (Option.some Jvm.ClassFile.FieldType.int) [((0 : Nat), (9 : Nat), (12 : Nat), (13 : Nat))]) ∈ am_WS := am_in (am_tb4 (List.mem_of_getElem? (i := 199) rfl)) (by decide +kernel)
set_option maxRecDepth 100000 in
theorem wd_920 : (Jvm.Cond.methodLink "LeadlightHallLaw" (99 : Nat) yX7_wind) ∈ am_WS := am_in (am_tb4 (List.mem_of_getElem? (i := 200) rfl)) (by decide +kernel)
set_option maxRecDepth 100000 in
theorem wd_921 : (Jvm.Cond.instanceMethod yX7_wind) ∈ am_WS := am_in (am_tb4 (List.mem_of_getElem? (i := 201) rfl)) (by decide +kernel)
set_option maxRecDepth 100000 in
theorem wd_922 : (Jvm.Cond.selects "LeadlightHall" yX7_wind yX7_wind) ∈ am_WS := am_in (am_tb4 (List.mem_of_getElem? (i := 202) rfl)) (by decide +kernel)
set_option maxRecDepth 100000 in
theorem wd_925 : (Jvm.Cond.methodLink "LeadlightHallLaw" (246 : Nat) yL_years) ∈ am_WS := am_in (am_tb4 (List.mem_of_getElem? (i := 205) rfl)) (by decide +kernel)
set_option maxRecDepth 100000 in
theorem wd_926 : (Jvm.Cond.static yL_years) ∈ am_WS := am_in (am_tb4 (List.mem_of_getElem? (i := 206) rfl)) (by decide +kernel)
set_option maxRecDepth 100000 in
theorem wd_927 : (Jvm.Cond.codeWith yL_years method_27_code (4 : Nat) (Option.some Jvm.ClassFile.FieldType.int) [((0 : Nat), (9 : Nat), (12 : Nat), (13 : Nat)), ((0 : Nat), (9 : Nat), (15 : Nat), (44 : Nat))]) ∈ am_WS := am_in (am_tb4 (List.mem_of_getElem? (i := 207) rfl)) (by decide +kernel)
set_option maxRecDepth 100000 in
theorem wd_928 : (Jvm.Cond.methodLink "LeadlightHallLaw" (102 : Nat) yX7_years) ∈ am_WS := am_in (am_tb4 (List.mem_of_getElem? (i := 208) rfl)) (by decide +kernel)
set_option maxRecDepth 100000 in
theorem wd_929 : (Jvm.Cond.instanceMethod yX7_years) ∈ am_WS := am_in (am_tb4 (List.mem_of_getElem? (i := 209) rfl)) (by decide +kernel)
set_option maxRecDepth 100000 in
theorem wd_930 : (Jvm.Cond.selects "LeadlightHall" yX7_years yX7_years) ∈ am_WS := am_in (am_tb4 (List.mem_of_getElem? (i := 210) rfl)) (by decide +kernel)
set_option maxRecDepth 100000 in
theorem wd_934 : (Jvm.Cond.methodLink "LeadlightHallLaw" (249 : Nat) yL_looks) ∈ am_WS := am_in (am_tb4 (List.mem_of_getElem? (i := 214) rfl)) (by decide +kernel)
set_option maxRecDepth 100000 in
theorem wd_935 : (Jvm.Cond.static yL_looks) ∈ am_WS := am_in (am_tb4 (List.mem_of_getElem? (i := 215) rfl)) (by decide +kernel)
set_option maxRecDepth 100000 in
theorem wd_936 : (Jvm.Cond.codeWith yL_looks method_28_code (6 : Nat) (Option.some Jvm.ClassFile.FieldType.int) [((0 : Nat), (12 : Nat), (15 : Nat), (13 : Nat))]) ∈ am_WS := am_in (am_tb4 (List.mem_of_getElem? (i := 216) rfl)) (by decide +kernel)
set_option maxRecDepth 100000 in
theorem wd_937 : (Jvm.Cond.methodLink "LeadlightHallLaw" (105 : Nat) yX7_looks) ∈ am_WS := am_in (am_tb4 (List.mem_of_getElem? (i := 217) rfl)) (by decide +kernel)
set_option maxRecDepth 100000 in
theorem wd_938 : (Jvm.Cond.instanceMethod yX7_looks) ∈ am_WS := am_in (am_tb4 (List.mem_of_getElem? (i := 218) rfl)) (by decide +kernel)
set_option maxRecDepth 100000 in
theorem wd_939 : (Jvm.Cond.selects "LeadlightHall" yX7_looks yX7_looks) ∈ am_WS := am_in (am_tb4 (List.mem_of_getElem? (i := 219) rfl)) (by decide +kernel)
set_option maxRecDepth 100000 in
theorem wd_954 : (Jvm.Cond.methodLink "LeadlightHallLaw" (256 : Nat) yL_hit) ∈ am_WS := am_in (am_tb4 (List.mem_of_getElem? (i := 234) rfl)) (by decide +kernel)
set_option maxRecDepth 100000 in
theorem wd_955 : (Jvm.Cond.static yL_hit) ∈ am_WS := am_in (am_tb4 (List.mem_of_getElem? (i := 235) rfl)) (by decide +kernel)
set_option maxRecDepth 100000 in
theorem wd_956 : (Jvm.Cond.codeWith yL_hit method_29_code (5 : Nat) (Option.some Jvm.ClassFile.FieldType.int) [((0 : Nat), (17 : Nat), (20 : Nat), (13 : Nat)), ((0 : Nat), (17 : Nat), (24 : Nat), (15 : Nat))]) ∈ am_WS := am_in (am_tb4 (List.mem_of_getElem? (i := 236) rfl)) (by decide +kernel)
set_option maxRecDepth 100000 in
theorem wd_957 : (Jvm.Cond.methodLink "LeadlightHallLaw" (109 : Nat) yX7_hit) ∈ am_WS := am_in (am_tb4 (List.mem_of_getElem? (i := 237) rfl)) (by decide +kernel)
set_option maxRecDepth 100000 in
theorem wd_958 : (Jvm.Cond.instanceMethod yX7_hit) ∈ am_WS := am_in (am_tb4 (List.mem_of_getElem? (i := 238) rfl)) (by decide +kernel)
set_option maxRecDepth 100000 in
theorem wd_959 : (Jvm.Cond.selects "LeadlightHall" yX7_hit yX7_hit) ∈ am_WS := am_in (am_tb4 (List.mem_of_getElem? (i := 239) rfl)) (by decide +kernel)
set_option maxRecDepth 100000 in
theorem wd_962 : (Jvm.Cond.methodLink "LeadlightHallLaw" (259 : Nat) yL_mend) ∈ am_WS := am_in (am_tb5 (List.mem_of_getElem? (i := 2) rfl)) (by decide +kernel)
set_option maxRecDepth 100000 in
theorem wd_963 : (Jvm.Cond.static yL_mend) ∈ am_WS := am_in (am_tb5 (List.mem_of_getElem? (i := 3) rfl)) (by decide +kernel)
set_option maxRecDepth 100000 in
theorem wd_964 : (Jvm.Cond.codeWith yL_mend method_30_code (4 : Nat) (Option.some Jvm.ClassFile.FieldType.int) [((0 : Nat), (9 : Nat), (12 : Nat), (21 : Nat)), ((0 : Nat), (9 : Nat), (15 : Nat), (15 : Nat))]) ∈ am_WS := am_in (am_tb5 (List.mem_of_getElem? (i := 4) rfl)) (by decide +kernel)
set_option maxRecDepth 100000 in
theorem wd_965 : (Jvm.Cond.methodLink "LeadlightHallLaw" (113 : Nat) yX7_mend) ∈ am_WS := am_in (am_tb5 (List.mem_of_getElem? (i := 5) rfl)) (by decide +kernel)
set_option maxRecDepth 100000 in
theorem wd_966 : (Jvm.Cond.instanceMethod yX7_mend) ∈ am_WS := am_in (am_tb5 (List.mem_of_getElem? (i := 6) rfl)) (by decide +kernel)
set_option maxRecDepth 100000 in
theorem wd_967 : (Jvm.Cond.selects "LeadlightHall" yX7_mend yX7_mend) ∈ am_WS := am_in (am_tb5 (List.mem_of_getElem? (i := 7) rfl)) (by decide +kernel)
set_option maxRecDepth 100000 in
theorem wd_970 : (Jvm.Cond.methodLink "LeadlightHallLaw" (262 : Nat) yL_stopgap) ∈ am_WS := am_in (am_tb5 (List.mem_of_getElem? (i := 10) rfl)) (by decide +kernel)
set_option maxRecDepth 100000 in
theorem wd_971 : (Jvm.Cond.static yL_stopgap) ∈ am_WS := am_in (am_tb5 (List.mem_of_getElem? (i := 11) rfl)) (by decide +kernel)
set_option maxRecDepth 100000 in
theorem wd_972 : (Jvm.Cond.codeWith yL_stopgap method_31_code (5 : Nat) (Option.some Jvm.ClassFile.FieldType.int) [((0 : Nat), (10 : Nat), (13 : Nat), (21 : Nat)), ((0 : Nat), (10 : Nat), (17 : Nat), (15 : Nat))]) ∈ am_WS := am_in (am_tb5 (List.mem_of_getElem? (i := 12) rfl)) (by decide +kernel)
set_option maxRecDepth 100000 in
theorem wd_973 : (Jvm.Cond.methodLink "LeadlightHallLaw" (116 : Nat) yX7_stopgap) ∈ am_WS := am_in (am_tb5 (List.mem_of_getElem? (i := 13) rfl)) (by decide +kernel)
set_option maxRecDepth 100000 in
theorem wd_974 : (Jvm.Cond.instanceMethod yX7_stopgap) ∈ am_WS := am_in (am_tb5 (List.mem_of_getElem? (i := 14) rfl)) (by decide +kernel)
set_option maxRecDepth 100000 in
theorem wd_975 : (Jvm.Cond.selects "LeadlightHall" yX7_stopgap yX7_stopgap) ∈ am_WS := am_in (am_tb5 (List.mem_of_getElem? (i := 15) rfl)) (by decide +kernel)
set_option maxRecDepth 100000 in
theorem wd_979 : (Jvm.Cond.methodLink "LeadlightHallLaw" (265 : Nat) yL_year) ∈ am_WS := am_in (am_tb5 (List.mem_of_getElem? (i := 19) rfl)) (by decide +kernel)
set_option maxRecDepth 100000 in
theorem wd_980 : (Jvm.Cond.static yL_year) ∈ am_WS := am_in (am_tb5 (List.mem_of_getElem? (i := 20) rfl)) (by decide +kernel)
set_option maxRecDepth 100000 in
theorem wd_981 : (Jvm.Cond.codeWith yL_year method_32_code (4 : Nat) (Option.some Jvm.ClassFile.FieldType.int) [((0 : Nat), (9 : Nat), (12 : Nat), (21 : Nat)), ((0 : Nat), (9 : Nat), (15 : Nat), (67 : Nat))]) ∈ am_WS := am_in (am_tb5 (List.mem_of_getElem? (i := 21) rfl)) (by decide +kernel)
set_option maxRecDepth 100000 in
theorem wd_982 : (Jvm.Cond.methodLink "LeadlightHallLaw" (119 : Nat) yX7_year) ∈ am_WS := am_in (am_tb5 (List.mem_of_getElem? (i := 22) rfl)) (by decide +kernel)
set_option maxRecDepth 100000 in
theorem wd_983 : (Jvm.Cond.instanceMethod yX7_year) ∈ am_WS := am_in (am_tb5 (List.mem_of_getElem? (i := 23) rfl)) (by decide +kernel)
set_option maxRecDepth 100000 in
theorem wd_984 : (Jvm.Cond.selects "LeadlightHall" yX7_year yX7_year) ∈ am_WS := am_in (am_tb5 (List.mem_of_getElem? (i := 24) rfl)) (by decide +kernel)
set_option maxRecDepth 100000 in
theorem wd_986 : (Jvm.Cond.methodLink "LeadlightHallLaw" (272 : Nat) yL_fits) ∈ am_WS := am_in (am_tb5 (List.mem_of_getElem? (i := 26) rfl)) (by decide +kernel)
set_option maxRecDepth 100000 in
theorem wd_987 : (Jvm.Cond.static yL_fits) ∈ am_WS := am_in (am_tb5 (List.mem_of_getElem? (i := 27) rfl)) (by decide +kernel)
set_option maxRecDepth 100000 in
theorem wd_988 : (Jvm.Cond.codeWith yL_fits method_33_code (4 : Nat) (Option.some Jvm.ClassFile.FieldType.int) [((0 : Nat), (9 : Nat), (12 : Nat), (21 : Nat)), ((0 : Nat), (9 : Nat), (15 : Nat), (67 : Nat))]) ∈ am_WS := am_in (am_tb5 (List.mem_of_getElem? (i := 28) rfl)) (by decide +kernel)
set_option maxRecDepth 100000 in
theorem wd_989 : (Jvm.Cond.methodLink "LeadlightHallLaw" (122 : Nat) yX7_fits) ∈ am_WS := am_in (am_tb5 (List.mem_of_getElem? (i := 29) rfl)) (by decide +kernel)
set_option maxRecDepth 100000 in
theorem wd_990 : (Jvm.Cond.instanceMethod yX7_fits) ∈ am_WS := am_in (am_tb5 (List.mem_of_getElem? (i := 30) rfl)) (by decide +kernel)
set_option maxRecDepth 100000 in
theorem wd_991 : (Jvm.Cond.selects "LeadlightHall" yX7_fits yX7_fits) ∈ am_WS := am_in (am_tb5 (List.mem_of_getElem? (i := 31) rfl)) (by decide +kernel)
set_option maxRecDepth 100000 in
theorem wd_997 : (Jvm.Cond.methodLink "LeadlightHallLaw" (284 : Nat) yL_litShare) ∈ am_WS := am_in (am_tb5 (List.mem_of_getElem? (i := 37) rfl)) (by decide +kernel)
set_option maxRecDepth 100000 in
theorem wd_998 : (Jvm.Cond.static yL_litShare) ∈ am_WS := am_in (am_tb5 (List.mem_of_getElem? (i := 38) rfl)) (by decide +kernel)
set_option maxRecDepth 100000 in
theorem wd_999 : (Jvm.Cond.codeWith yL_litShare method_34_code (3 : Nat) (Option.some Jvm.ClassFile.FieldType.int) [((0 : Nat), (8 : Nat), (11 : Nat), (67 : Nat))]) ∈ am_WS := am_in (am_tb5 (List.mem_of_getElem? (i := 39) rfl)) (by decide +kernel)
set_option maxRecDepth 100000 in
theorem ps_X8_at : Cond.selects RX8 yX8_at yX8_at ∈ am_WS := am_in (List.mem_append_left _ (by decide +kernel)) rfl
set_option maxRecDepth 100000 in
theorem ps_X8_bearsNow : Cond.selects RX8 yX8_bearsNow yX8_bearsNow ∈ am_WS := am_in (List.mem_append_left _ (by decide +kernel)) rfl
set_option maxRecDepth 100000 in
theorem ps_X8_comesNew : Cond.selects RX8 yX8_comesNew yX8_comesNew ∈ am_WS := am_in (List.mem_append_left _ (by decide +kernel)) rfl
set_option maxRecDepth 100000 in
theorem ps_X8_fires : Cond.selects RX8 yX8_fires yX8_fires ∈ am_WS := am_in (List.mem_append_left _ (by decide +kernel)) rfl
set_option maxRecDepth 100000 in
theorem ps_X8_hasBare : Cond.selects RX8 yX8_hasBare yX8_hasBare ∈ am_WS := am_in (List.mem_append_left _ (by decide +kernel)) rfl
set_option maxRecDepth 100000 in
theorem ps_X8_hasGlass : Cond.selects RX8 yX8_hasGlass yX8_hasGlass ∈ am_WS := am_in (List.mem_append_left _ (by decide +kernel)) rfl
set_option maxRecDepth 100000 in
theorem ps_X8_hasStain : Cond.selects RX8 yX8_hasStain yX8_hasStain ∈ am_WS := am_in (List.mem_append_left _ (by decide +kernel)) rfl
set_option maxRecDepth 100000 in
theorem ps_X8_isClear : Cond.selects RX8 yX8_isClear yX8_isClear ∈ am_WS := am_in (List.mem_append_left _ (by decide +kernel)) rfl
set_option maxRecDepth 100000 in
theorem ps_X8_isFreeAt : Cond.selects RX8 yX8_isFreeAt yX8_isFreeAt ∈ am_WS := am_in (List.mem_append_left _ (by decide +kernel)) rfl
set_option maxRecDepth 100000 in
theorem ps_X8_isLead : Cond.selects RX8 yX8_isLead yX8_isLead ∈ am_WS := am_in (List.mem_append_left _ (by decide +kernel)) rfl
set_option maxRecDepth 100000 in
theorem ps_X8_isNoSheet : Cond.selects RX8 yX8_isNoSheet yX8_isNoSheet ∈ am_WS := am_in (List.mem_append_left _ (by decide +kernel)) rfl
set_option maxRecDepth 100000 in
theorem ps_X8_isThrown : Cond.selects RX8 yX8_isThrown yX8_isThrown ∈ am_WS := am_in (List.mem_append_left _ (by decide +kernel)) rfl
set_option maxRecDepth 100000 in
theorem ps_X8_isUpNow : Cond.selects RX8 yX8_isUpNow yX8_isUpNow ∈ am_WS := am_in (List.mem_append_left _ (by decide +kernel)) rfl
set_option maxRecDepth 100000 in
theorem ps_X8_jointsNow : Cond.selects RX8 yX8_jointsNow yX8_jointsNow ∈ am_WS := am_in (List.mem_append_left _ (by decide +kernel)) rfl
set_option maxRecDepth 100000 in
theorem ps_X8_layersOf : Cond.selects RX8 yX8_layersOf yX8_layersOf ∈ am_WS := am_in (List.mem_append_left _ (by decide +kernel)) rfl
set_option maxRecDepth 100000 in
theorem ps_X8_leadNow : Cond.selects RX8 yX8_leadNow yX8_leadNow ∈ am_WS := am_in (List.mem_append_left _ (by decide +kernel)) rfl
set_option maxRecDepth 100000 in
theorem ps_X8_light : Cond.selects RX8 yX8_light yX8_light ∈ am_WS := am_in (List.mem_append_left _ (by decide +kernel)) rfl
set_option maxRecDepth 100000 in
theorem ps_X8_nextNow : Cond.selects RX8 yX8_nextNow yX8_nextNow ∈ am_WS := am_in (List.mem_append_left _ (by decide +kernel)) rfl
set_option maxRecDepth 100000 in
theorem ps_X8_placeOn : Cond.selects RX8 yX8_placeOn yX8_placeOn ∈ am_WS := am_in (List.mem_append_left _ (by decide +kernel)) rfl
set_option maxRecDepth 100000 in
theorem ps_X8_shapeOf : Cond.selects RX8 yX8_shapeOf yX8_shapeOf ∈ am_WS := am_in (List.mem_append_left _ (by decide +kernel)) rfl
set_option maxRecDepth 100000 in
theorem ps_X8_sizeOf : Cond.selects RX8 yX8_sizeOf yX8_sizeOf ∈ am_WS := am_in (List.mem_append_left _ (by decide +kernel)) rfl
set_option maxRecDepth 100000 in
theorem ps_X8_uses : Cond.selects RX8 yX8_uses yX8_uses ∈ am_WS := am_in (List.mem_append_left _ (by decide +kernel)) rfl
