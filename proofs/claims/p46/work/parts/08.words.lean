set_option maxRecDepth 100000 in
theorem wn_101 : (Jvm.Cond.methodLinkNest "LeadlightHall$Pane" (37 : Nat) yX6_init "LeadlightHall") ∈ am_NW := List.mem_filter.mpr ⟨am_t1 (List.mem_of_getElem? (i := 101) rfl), rfl⟩
set_option maxRecDepth 100000 in
theorem wn_105 : (Jvm.Cond.fieldLinkNest "LeadlightHall" (247 : Nat) "LeadlightHall$Pane" "state" "C" "LeadlightHall") ∈ am_NW := List.mem_filter.mpr ⟨am_t1 (List.mem_of_getElem? (i := 105) rfl), rfl⟩
set_option maxRecDepth 100000 in
theorem wn_109 : (Jvm.Cond.fieldLinkNest "LeadlightHall" (262 : Nat) "LeadlightHall$Pane" "paint" "LLeadlightHall$Paint;" "LeadlightHall") ∈ am_NW := List.mem_filter.mpr ⟨am_t1 (List.mem_of_getElem? (i := 109) rfl), rfl⟩
set_option maxRecDepth 100000 in
theorem wn_127 : (Jvm.Cond.methodLinkNest "LeadlightHall" (83 : Nat) yX4_init "LeadlightHall") ∈ am_NW := List.mem_filter.mpr ⟨am_t1 (List.mem_of_getElem? (i := 127) rfl), rfl⟩
set_option maxRecDepth 100000 in
theorem wn_208 : (Jvm.Cond.methodLinkNest "LeadlightHall$Wall" (15 : Nat) yX7_isInside "LeadlightHall") ∈ am_NW := List.mem_filter.mpr ⟨am_t1 (List.mem_of_getElem? (i := 208) rfl), rfl⟩
set_option maxRecDepth 100000 in
theorem wn_351 : (Jvm.Cond.methodLinkNest "LeadlightHall$Shape" (18 : Nat) yX7_isInside "LeadlightHall") ∈ am_NW := List.mem_filter.mpr ⟨am_t2 (List.mem_of_getElem? (i := 111) rfl), rfl⟩
set_option maxRecDepth 100000 in
theorem wn_384 : (Jvm.Cond.castable "java/lang/IllegalArgumentException" "java/lang/IllegalArgumentException") ∈ am_NW := List.mem_filter.mpr ⟨am_t2 (List.mem_of_getElem? (i := 144) rfl), rfl⟩
set_option maxRecDepth 100000 in
theorem wn_411 : (Jvm.Cond.castable "java/lang/UnsupportedOperationException" "java/lang/UnsupportedOperationException") ∈ am_NW := List.mem_filter.mpr ⟨am_t2 (List.mem_of_getElem? (i := 171) rfl), rfl⟩
set_option maxRecDepth 100000 in
theorem wn_44 : (Jvm.Cond.methodLinkNest "LeadlightHall" (30 : Nat) yX0_init "LeadlightHall") ∈ am_NW := List.mem_filter.mpr ⟨am_t1 (List.mem_of_getElem? (i := 44) rfl), rfl⟩
set_option maxRecDepth 100000 in
theorem wn_444 : (Jvm.Cond.castable "java/lang/IndexOutOfBoundsException" "java/lang/IndexOutOfBoundsException") ∈ am_NW := List.mem_filter.mpr ⟨am_t2 (List.mem_of_getElem? (i := 204) rfl), rfl⟩
set_option maxRecDepth 100000 in
theorem wn_568 : (Jvm.Cond.castable "java/lang/IllegalStateException" "java/lang/IllegalStateException") ∈ am_NW := List.mem_filter.mpr ⟨am_t3 (List.mem_of_getElem? (i := 88) rfl), rfl⟩
set_option maxRecDepth 100000 in
theorem wn_60 : (Jvm.Cond.methodLinkNest "LeadlightHall" (60 : Nat) yX3_init "LeadlightHall") ∈ am_NW := List.mem_filter.mpr ⟨am_t1 (List.mem_of_getElem? (i := 60) rfl), rfl⟩
set_option maxRecDepth 100000 in
theorem wn_73 : (Jvm.Cond.methodLinkNest "LeadlightHall" (77 : Nat) yX6_init "LeadlightHall") ∈ am_NW := List.mem_filter.mpr ⟨am_t1 (List.mem_of_getElem? (i := 73) rfl), rfl⟩
set_option maxRecDepth 100000 in
theorem wn_83 : (Jvm.Cond.methodLinkNest "LeadlightHall" (82 : Nat) yX2_init "LeadlightHall") ∈ am_NW := List.mem_filter.mpr ⟨am_t1 (List.mem_of_getElem? (i := 83) rfl), rfl⟩
set_option maxRecDepth 100000 in
theorem wn_89 : (Jvm.Cond.methodLinkNest "LeadlightHall$Pane" (30 : Nat) yX1_init "LeadlightHall") ∈ am_NW := List.mem_filter.mpr ⟨am_t1 (List.mem_of_getElem? (i := 89) rfl), rfl⟩
set_option maxRecDepth 100000 in
theorem wd_0 : (Jvm.Cond.initialized "LeadlightHallLaw") ∈ am_WS := am_in (am_tb1 (List.mem_of_getElem? (i := 0) rfl)) (by decide +kernel)
set_option maxRecDepth 100000 in
theorem wd_1 : (Jvm.Cond.initialized "LeadlightHall") ∈ am_WS := am_in (am_tb1 (List.mem_of_getElem? (i := 1) rfl)) (by decide +kernel)
set_option maxRecDepth 100000 in
theorem wd_100 : (Jvm.Cond.classLink "LeadlightHall$Pane" (35 : Nat) "LeadlightHall$YearSet") ∈ am_WS := am_in (am_tb1 (List.mem_of_getElem? (i := 100) rfl)) (by decide +kernel)
set_option maxRecDepth 100000 in
theorem wd_102 : (Jvm.Cond.fieldLink "LeadlightHall$Pane" (9 : Nat) "LeadlightHall$Pane" "wantedColour" "I") ∈ am_WS := am_in (am_tb1 (List.mem_of_getElem? (i := 102) rfl)) (by decide +kernel)
set_option maxRecDepth 100000 in
theorem wd_103 : (Jvm.Cond.fieldLink "LeadlightHall$Pane" (15 : Nat) "LeadlightHall$Pane" "wantedStreaks" "C") ∈ am_WS := am_in (am_tb1 (List.mem_of_getElem? (i := 103) rfl)) (by decide +kernel)
set_option maxRecDepth 100000 in
theorem wd_104 : (Jvm.Cond.fieldLink "LeadlightHall$Pane" (19 : Nat) "LeadlightHall$Pane" "state" "C") ∈ am_WS := am_in (am_tb1 (List.mem_of_getElem? (i := 104) rfl)) (by decide +kernel)
set_option maxRecDepth 100000 in
theorem wd_106 : (Jvm.Cond.fieldLink "LeadlightHall$Pane" (22 : Nat) "LeadlightHall$Pane" "colour" "I") ∈ am_WS := am_in (am_tb1 (List.mem_of_getElem? (i := 106) rfl)) (by decide +kernel)
set_option maxRecDepth 100000 in
theorem wd_107 : (Jvm.Cond.fieldLink "LeadlightHall$Pane" (25 : Nat) "LeadlightHall$Pane" "year" "I") ∈ am_WS := am_in (am_tb1 (List.mem_of_getElem? (i := 107) rfl)) (by decide +kernel)
set_option maxRecDepth 100000 in
theorem wd_108 : (Jvm.Cond.fieldLink "LeadlightHall$Pane" (31 : Nat) "LeadlightHall$Pane" "paint" "LLeadlightHall$Paint;") ∈ am_WS := am_in (am_tb1 (List.mem_of_getElem? (i := 108) rfl)) (by decide +kernel)
set_option maxRecDepth 100000 in
theorem wd_110 : (Jvm.Cond.fieldLink "LeadlightHall$Pane" (38 : Nat) "LeadlightHall$Pane" "leadYears" "LLeadlightHall$YearSet;") ∈ am_WS := am_in (am_tb1 (List.mem_of_getElem? (i := 110) rfl)) (by decide +kernel)
set_option maxRecDepth 100000 in
theorem wd_12 : (Jvm.Cond.initialized "java/lang/IllegalArgumentException") ∈ am_WS := am_in (am_tb1 (List.mem_of_getElem? (i := 12) rfl)) (by decide +kernel)
set_option maxRecDepth 100000 in
theorem wd_126 : (Jvm.Cond.instantiable "LeadlightHall$Sheet" (5 : Nat)) ∈ am_WS := am_in (am_tb1 (List.mem_of_getElem? (i := 126) rfl)) (by decide +kernel)
set_option maxRecDepth 100000 in
theorem wd_128 : (Jvm.Cond.instanceMethod yX4_init) ∈ am_WS := am_in (am_tb1 (List.mem_of_getElem? (i := 128) rfl)) (by decide +kernel)
set_option maxRecDepth 100000 in
theorem wd_129 : (Jvm.Cond.code yX4_init prog_6_method_1_code (1 : Nat) (Option.none : Option Jvm.ClassFile.FieldType)) ∈ am_WS := am_in (am_tb1 (List.mem_of_getElem? (i := 129) rfl)) (by decide +kernel)
set_option maxRecDepth 100000 in
theorem wd_13 : (Jvm.Cond.initialized "java/lang/UnsupportedOperationException") ∈ am_WS := am_in (am_tb1 (List.mem_of_getElem? (i := 13) rfl)) (by decide +kernel)
set_option maxRecDepth 100000 in
theorem wd_130 : (Jvm.Cond.methodLink "LeadlightHall$Sheet" (3 : Nat) ({ cls := "java/lang/Object", name := "<init>", desc := "()V" } : Jvm.MethodName)) ∈ am_WS := am_in (am_tb1 (List.mem_of_getElem? (i := 130) rfl)) (by decide +kernel)
set_option maxRecDepth 100000 in
theorem wd_131 : (Jvm.Cond.fieldLink "LeadlightHall$Sheet" (9 : Nat) "LeadlightHall$Sheet" "colour" "I") ∈ am_WS := am_in (am_tb1 (List.mem_of_getElem? (i := 131) rfl)) (by decide +kernel)
set_option maxRecDepth 100000 in
theorem wd_132 : (Jvm.Cond.fieldLink "LeadlightHall$Sheet" (15 : Nat) "LeadlightHall$Sheet" "width" "I") ∈ am_WS := am_in (am_tb1 (List.mem_of_getElem? (i := 132) rfl)) (by decide +kernel)
set_option maxRecDepth 100000 in
theorem wd_133 : (Jvm.Cond.fieldLink "LeadlightHall$Sheet" (18 : Nat) "LeadlightHall$Sheet" "height" "I") ∈ am_WS := am_in (am_tb1 (List.mem_of_getElem? (i := 133) rfl)) (by decide +kernel)
set_option maxRecDepth 100000 in
theorem wd_134 : (Jvm.Cond.fieldLink "LeadlightHall$Sheet" (21 : Nat) "LeadlightHall$Sheet" "streaks" "C") ∈ am_WS := am_in (am_tb1 (List.mem_of_getElem? (i := 134) rfl)) (by decide +kernel)
set_option maxRecDepth 100000 in
theorem wd_135 : (Jvm.Cond.fieldLink "LeadlightHall$Sheet" (25 : Nat) "LeadlightHall$Sheet" "used" "[I") ∈ am_WS := am_in (am_tb1 (List.mem_of_getElem? (i := 135) rfl)) (by decide +kernel)
set_option maxRecDepth 100000 in
theorem wd_14 : (Jvm.Cond.initialized "java/lang/IndexOutOfBoundsException") ∈ am_WS := am_in (am_tb1 (List.mem_of_getElem? (i := 14) rfl)) (by decide +kernel)
set_option maxRecDepth 100000 in
theorem wd_147 : (Jvm.Cond.fieldLink "LeadlightHall" (12 : Nat) "LeadlightHall" "wall" "LLeadlightHall$Wall;") ∈ am_WS := am_in (am_tb1 (List.mem_of_getElem? (i := 147) rfl)) (by decide +kernel)
set_option maxRecDepth 100000 in
theorem wd_148 : (Jvm.Cond.fieldLink "LeadlightHall" (18 : Nat) "LeadlightHall" "panes" "[LLeadlightHall$Pane;") ∈ am_WS := am_in (am_tb1 (List.mem_of_getElem? (i := 148) rfl)) (by decide +kernel)
set_option maxRecDepth 100000 in
theorem wd_149 : (Jvm.Cond.fieldLink "LeadlightHall" (24 : Nat) "LeadlightHall" "sheets" "[LLeadlightHall$Sheet;") ∈ am_WS := am_in (am_tb1 (List.mem_of_getElem? (i := 149) rfl)) (by decide +kernel)
set_option maxRecDepth 100000 in
theorem wd_15 : (Jvm.Cond.initialized "java/lang/Integer") ∈ am_WS := am_in (am_tb1 (List.mem_of_getElem? (i := 15) rfl)) (by decide +kernel)
set_option maxRecDepth 100000 in
theorem wd_150 : (Jvm.Cond.fieldLink "LeadlightHall" (31 : Nat) "LeadlightHall" "frame" "LLeadlightHall$Frame;") ∈ am_WS := am_in (am_tb1 (List.mem_of_getElem? (i := 150) rfl)) (by decide +kernel)
set_option maxRecDepth 100000 in
theorem wd_151 : (Jvm.Cond.fieldLink "LeadlightHall" (35 : Nat) "LeadlightHall" "sheetCount" "I") ∈ am_WS := am_in (am_tb1 (List.mem_of_getElem? (i := 151) rfl)) (by decide +kernel)
set_option maxRecDepth 100000 in
theorem wd_152 : (Jvm.Cond.fieldLink "LeadlightHall" (39 : Nat) "LeadlightHall" "cellsTaken" "I") ∈ am_WS := am_in (am_tb1 (List.mem_of_getElem? (i := 152) rfl)) (by decide +kernel)
set_option maxRecDepth 100000 in
theorem wd_153 : (Jvm.Cond.fieldLink "LeadlightHall" (42 : Nat) "LeadlightHall" "z" "I") ∈ am_WS := am_in (am_tb1 (List.mem_of_getElem? (i := 153) rfl)) (by decide +kernel)
set_option maxRecDepth 100000 in
theorem wd_154 : (Jvm.Cond.fieldLink "LeadlightHall" (45 : Nat) "LeadlightHall" "isSoldered" "Z") ∈ am_WS := am_in (am_tb1 (List.mem_of_getElem? (i := 154) rfl)) (by decide +kernel)
set_option maxRecDepth 100000 in
theorem wd_155 : (Jvm.Cond.fieldLink "LeadlightHall" (49 : Nat) "LeadlightHall" "upYear" "I") ∈ am_WS := am_in (am_tb1 (List.mem_of_getElem? (i := 155) rfl)) (by decide +kernel)
set_option maxRecDepth 100000 in
theorem wd_156 : (Jvm.Cond.fieldLink "LeadlightHall" (52 : Nat) "LeadlightHall" "now" "I") ∈ am_WS := am_in (am_tb1 (List.mem_of_getElem? (i := 156) rfl)) (by decide +kernel)
set_option maxRecDepth 100000 in
theorem wd_157 : (Jvm.Cond.fieldLink "LeadlightHall" (55 : Nat) "LeadlightHall" "mends" "I") ∈ am_WS := am_in (am_tb1 (List.mem_of_getElem? (i := 157) rfl)) (by decide +kernel)
set_option maxRecDepth 100000 in
theorem wd_158 : (Jvm.Cond.fieldLink "LeadlightHall" (61 : Nat) "LeadlightHall" "shape" "LLeadlightHall$Shape;") ∈ am_WS := am_in (am_tb1 (List.mem_of_getElem? (i := 158) rfl)) (by decide +kernel)
set_option maxRecDepth 100000 in
theorem wd_159 : (Jvm.Cond.fieldLink "LeadlightHall" (65 : Nat) "LeadlightHall" "near" "LLeadlightHall$Shape;") ∈ am_WS := am_in (am_tb1 (List.mem_of_getElem? (i := 159) rfl)) (by decide +kernel)
set_option maxRecDepth 100000 in
theorem wd_16 : (Jvm.Cond.initialized "java/lang/Math") ∈ am_WS := am_in (am_tb1 (List.mem_of_getElem? (i := 16) rfl)) (by decide +kernel)
set_option maxRecDepth 100000 in
theorem wd_160 : (Jvm.Cond.fieldLink "LeadlightHall" (68 : Nat) "LeadlightHall" "far" "LLeadlightHall$Shape;") ∈ am_WS := am_in (am_tb1 (List.mem_of_getElem? (i := 160) rfl)) (by decide +kernel)
set_option maxRecDepth 100000 in
theorem wd_161 : (Jvm.Cond.fieldLink "LeadlightHall" (71 : Nat) "LeadlightHall" "waits" "[I") ∈ am_WS := am_in (am_tb1 (List.mem_of_getElem? (i := 161) rfl)) (by decide +kernel)
set_option maxRecDepth 100000 in
theorem wd_162 : (Jvm.Cond.fieldLink "LeadlightHall" (78 : Nat) "LeadlightHall" "unlike" "LLeadlightHall$YearSet;") ∈ am_WS := am_in (am_tb1 (List.mem_of_getElem? (i := 162) rfl)) (by decide +kernel)
set_option maxRecDepth 100000 in
theorem wd_17 : (Jvm.Cond.initialized "java/lang/IllegalStateException") ∈ am_WS := am_in (am_tb1 (List.mem_of_getElem? (i := 17) rfl)) (by decide +kernel)
set_option maxRecDepth 100000 in
theorem wd_18 : (Jvm.Cond.initialized "java/util/NoSuchElementException") ∈ am_WS := am_in (am_tb1 (List.mem_of_getElem? (i := 18) rfl)) (by decide +kernel)
set_option maxRecDepth 100000 in
theorem wd_19 : (Jvm.Cond.classLink "LeadlightHallLaw" (10 : Nat) "LeadlightHall") ∈ am_WS := am_in (am_tb1 (List.mem_of_getElem? (i := 19) rfl)) (by decide +kernel)
set_option maxRecDepth 100000 in
theorem wd_196 : (Jvm.Cond.methodLink "LeadlightHallLaw" (81 : Nat) yX7_lead) ∈ am_WS := am_in (am_tb1 (List.mem_of_getElem? (i := 196) rfl)) (by decide +kernel)
set_option maxRecDepth 100000 in
theorem wd_197 : (Jvm.Cond.instanceMethod yX7_lead) ∈ am_WS := am_in (am_tb1 (List.mem_of_getElem? (i := 197) rfl)) (by decide +kernel)
set_option maxRecDepth 100000 in
theorem wd_198 : (Jvm.Cond.selects "LeadlightHall" yX7_lead yX7_lead) ∈ am_WS := am_in (am_tb1 (List.mem_of_getElem? (i := 198) rfl)) (by decide +kernel)
set_option maxRecDepth 100000 in
theorem wd_199 : (Jvm.Cond.code yX7_lead prog_1_method_10_code (1 : Nat) (Option.some Jvm.ClassFile.FieldType.int)) ∈ am_WS := am_in (am_tb1 (List.mem_of_getElem? (i := 199) rfl)) (by decide +kernel)
set_option maxRecDepth 100000 in
theorem wd_2 : (Jvm.Cond.initialized "LeadlightHall$Wall") ∈ am_WS := am_in (am_tb1 (List.mem_of_getElem? (i := 2) rfl)) (by decide +kernel)
set_option maxRecDepth 100000 in
theorem wd_20 : (Jvm.Cond.instantiable "LeadlightHall" (16 : Nat)) ∈ am_WS := am_in (am_tb1 (List.mem_of_getElem? (i := 20) rfl)) (by decide +kernel)
set_option maxRecDepth 100000 in
theorem wd_200 : (Jvm.Cond.methodLink "LeadlightHall" (169 : Nat) yX5_leadedSides) ∈ am_WS := am_in (am_tb1 (List.mem_of_getElem? (i := 200) rfl)) (by decide +kernel)
set_option maxRecDepth 100000 in
theorem wd_201 : (Jvm.Cond.instanceMethod yX5_leadedSides) ∈ am_WS := am_in (am_tb1 (List.mem_of_getElem? (i := 201) rfl)) (by decide +kernel)
set_option maxRecDepth 100000 in
theorem wd_202 : (Jvm.Cond.selects "LeadlightHall$Wall" yX5_leadedSides yX5_leadedSides) ∈ am_WS := am_in (am_tb1 (List.mem_of_getElem? (i := 202) rfl)) (by decide +kernel)
set_option maxRecDepth 100000 in
theorem wd_203 : (Jvm.Cond.code yX5_leadedSides prog_7_method_8_code (4 : Nat) (Option.some Jvm.ClassFile.FieldType.int)) ∈ am_WS := am_in (am_tb1 (List.mem_of_getElem? (i := 203) rfl)) (by decide +kernel)
set_option maxRecDepth 100000 in
theorem wd_204 : (Jvm.Cond.methodLink "LeadlightHall$Wall" (31 : Nat) yX5_at) ∈ am_WS := am_in (am_tb1 (List.mem_of_getElem? (i := 204) rfl)) (by decide +kernel)
set_option maxRecDepth 100000 in
theorem wd_205 : (Jvm.Cond.instanceMethod yX5_at) ∈ am_WS := am_in (am_tb1 (List.mem_of_getElem? (i := 205) rfl)) (by decide +kernel)
set_option maxRecDepth 100000 in
theorem wd_206 : (Jvm.Cond.selects "LeadlightHall$Wall" yX5_at yX5_at) ∈ am_WS := am_in (am_tb1 (List.mem_of_getElem? (i := 206) rfl)) (by decide +kernel)
set_option maxRecDepth 100000 in
theorem wd_207 : (Jvm.Cond.code yX5_at prog_7_method_2_code (3 : Nat) (Option.some Jvm.ClassFile.FieldType.int)) ∈ am_WS := am_in (am_tb1 (List.mem_of_getElem? (i := 207) rfl)) (by decide +kernel)
set_option maxRecDepth 100000 in
theorem wd_209 : (Jvm.Cond.static yX7_isInside) ∈ am_WS := am_in (am_tb1 (List.mem_of_getElem? (i := 209) rfl)) (by decide +kernel)
set_option maxRecDepth 100000 in
theorem wd_21 : (Jvm.Cond.methodLink "LeadlightHallLaw" (58 : Nat) yX7_init) ∈ am_WS := am_in (am_tb1 (List.mem_of_getElem? (i := 21) rfl)) (by decide +kernel)
set_option maxRecDepth 100000 in
theorem wd_210 : (Jvm.Cond.code yX7_isInside prog_1_method_46_code (2 : Nat) (Option.some Jvm.ClassFile.FieldType.boolean)) ∈ am_WS := am_in (am_tb1 (List.mem_of_getElem? (i := 210) rfl)) (by decide +kernel)
set_option maxRecDepth 100000 in
theorem wd_211 : (Jvm.Cond.methodLink "LeadlightHall$Wall" (39 : Nat) yX5_leadBetween) ∈ am_WS := am_in (am_tb1 (List.mem_of_getElem? (i := 211) rfl)) (by decide +kernel)
set_option maxRecDepth 100000 in
theorem wd_212 : (Jvm.Cond.static yX5_leadBetween) ∈ am_WS := am_in (am_tb1 (List.mem_of_getElem? (i := 212) rfl)) (by decide +kernel)
set_option maxRecDepth 100000 in
theorem wd_213 : (Jvm.Cond.code yX5_leadBetween prog_7_method_12_code (2 : Nat) (Option.some Jvm.ClassFile.FieldType.int)) ∈ am_WS := am_in (am_tb1 (List.mem_of_getElem? (i := 213) rfl)) (by decide +kernel)
set_option maxRecDepth 100000 in
theorem wd_214 : (Jvm.Cond.methodLink "LeadlightHallLaw" (85 : Nat) yX7_joints) ∈ am_WS := am_in (am_tb1 (List.mem_of_getElem? (i := 214) rfl)) (by decide +kernel)
set_option maxRecDepth 100000 in
theorem wd_215 : (Jvm.Cond.instanceMethod yX7_joints) ∈ am_WS := am_in (am_tb1 (List.mem_of_getElem? (i := 215) rfl)) (by decide +kernel)
set_option maxRecDepth 100000 in
theorem wd_216 : (Jvm.Cond.selects "LeadlightHall" yX7_joints yX7_joints) ∈ am_WS := am_in (am_tb1 (List.mem_of_getElem? (i := 216) rfl)) (by decide +kernel)
set_option maxRecDepth 100000 in
theorem wd_217 : (Jvm.Cond.code yX7_joints prog_1_method_11_code (1 : Nat) (Option.some Jvm.ClassFile.FieldType.int)) ∈ am_WS := am_in (am_tb1 (List.mem_of_getElem? (i := 217) rfl)) (by decide +kernel)
set_option maxRecDepth 100000 in
theorem wd_218 : (Jvm.Cond.methodLink "LeadlightHall" (172 : Nat) yX5_meetingPoints) ∈ am_WS := am_in (am_tb1 (List.mem_of_getElem? (i := 218) rfl)) (by decide +kernel)
set_option maxRecDepth 100000 in
theorem wd_219 : (Jvm.Cond.instanceMethod yX5_meetingPoints) ∈ am_WS := am_in (am_tb1 (List.mem_of_getElem? (i := 219) rfl)) (by decide +kernel)
set_option maxRecDepth 100000 in
theorem wd_22 : (Jvm.Cond.instanceMethod yX7_init) ∈ am_WS := am_in (am_tb1 (List.mem_of_getElem? (i := 22) rfl)) (by decide +kernel)
set_option maxRecDepth 100000 in
theorem wd_220 : (Jvm.Cond.selects "LeadlightHall$Wall" yX5_meetingPoints yX5_meetingPoints) ∈ am_WS := am_in (am_tb1 (List.mem_of_getElem? (i := 220) rfl)) (by decide +kernel)
set_option maxRecDepth 100000 in
theorem wd_221 : (Jvm.Cond.code yX5_meetingPoints prog_7_method_9_code (5 : Nat) (Option.some Jvm.ClassFile.FieldType.int)) ∈ am_WS := am_in (am_tb1 (List.mem_of_getElem? (i := 221) rfl)) (by decide +kernel)
set_option maxRecDepth 100000 in
theorem wd_222 : (Jvm.Cond.methodLink "LeadlightHallLaw" (96 : Nat) yX7_meanCells) ∈ am_WS := am_in (am_tb1 (List.mem_of_getElem? (i := 222) rfl)) (by decide +kernel)
set_option maxRecDepth 100000 in
theorem wd_223 : (Jvm.Cond.instanceMethod yX7_meanCells) ∈ am_WS := am_in (am_tb1 (List.mem_of_getElem? (i := 223) rfl)) (by decide +kernel)
set_option maxRecDepth 100000 in
theorem wd_224 : (Jvm.Cond.selects "LeadlightHall" yX7_meanCells yX7_meanCells) ∈ am_WS := am_in (am_tb1 (List.mem_of_getElem? (i := 224) rfl)) (by decide +kernel)
set_option maxRecDepth 100000 in
theorem wd_225 : (Jvm.Cond.code yX7_meanCells prog_1_method_43_code (3 : Nat) (Option.some Jvm.ClassFile.FieldType.double)) ∈ am_WS := am_in (am_tb1 (List.mem_of_getElem? (i := 225) rfl)) (by decide +kernel)
set_option maxRecDepth 100000 in
theorem wd_226 : (Jvm.Cond.methodLink "LeadlightHall" (309 : Nat) yX5_piecesWithCells) ∈ am_WS := am_in (am_tb1 (List.mem_of_getElem? (i := 226) rfl)) (by decide +kernel)
set_option maxRecDepth 100000 in
theorem wd_227 : (Jvm.Cond.instanceMethod yX5_piecesWithCells) ∈ am_WS := am_in (am_tb1 (List.mem_of_getElem? (i := 227) rfl)) (by decide +kernel)
set_option maxRecDepth 100000 in
theorem wd_228 : (Jvm.Cond.selects "LeadlightHall$Wall" yX5_piecesWithCells yX5_piecesWithCells) ∈ am_WS := am_in (am_tb1 (List.mem_of_getElem? (i := 228) rfl)) (by decide +kernel)
set_option maxRecDepth 100000 in
theorem wd_229 : (Jvm.Cond.code yX5_piecesWithCells prog_7_method_6_code (3 : Nat) (Option.some Jvm.ClassFile.FieldType.int)) ∈ am_WS := am_in (am_tb1 (List.mem_of_getElem? (i := 229) rfl)) (by decide +kernel)
set_option maxRecDepth 100000 in
theorem wd_23 : (Jvm.Cond.code yX7_init prog_1_method_1_code (2 : Nat) (Option.none : Option Jvm.ClassFile.FieldType)) ∈ am_WS := am_in (am_tb1 (List.mem_of_getElem? (i := 23) rfl)) (by decide +kernel)
set_option maxRecDepth 100000 in
theorem wd_230 : (Jvm.Cond.methodLink "LeadlightHall" (279 : Nat) yJ6_bitCount_0f7a4) ∈ am_WS := am_in (am_tb1 (List.mem_of_getElem? (i := 230) rfl)) (by decide +kernel)
set_option maxRecDepth 100000 in
theorem wd_231 : (Jvm.Cond.static yJ6_bitCount_0f7a4) ∈ am_WS := am_in (am_tb1 (List.mem_of_getElem? (i := 231) rfl)) (by decide +kernel)
set_option maxRecDepth 100000 in
theorem wd_232 : (Jvm.Cond.code yJ6_bitCount_0f7a4 prog_16_method_49_code (1 : Nat) (Option.some Jvm.ClassFile.FieldType.int)) ∈ am_WS := am_in (am_tb1 (List.mem_of_getElem? (i := 232) rfl)) (by decide +kernel)
set_option maxRecDepth 100000 in
theorem wd_233 : (Jvm.Cond.constant "java/lang/Integer" (265 : Nat) (1431655765 : Int32)) ∈ am_WS := am_in (am_tb1 (List.mem_of_getElem? (i := 233) rfl)) (by decide +kernel)
set_option maxRecDepth 100000 in
theorem wd_234 : (Jvm.Cond.constant "java/lang/Integer" (266 : Nat) (858993459 : Int32)) ∈ am_WS := am_in (am_tb1 (List.mem_of_getElem? (i := 234) rfl)) (by decide +kernel)
set_option maxRecDepth 100000 in
theorem wd_235 : (Jvm.Cond.constant "java/lang/Integer" (267 : Nat) (252645135 : Int32)) ∈ am_WS := am_in (am_tb1 (List.mem_of_getElem? (i := 235) rfl)) (by decide +kernel)
set_option maxRecDepth 100000 in
theorem wd_236 : (Jvm.Cond.classLink "LeadlightHall" (404 : Nat) "java/util/NoSuchElementException") ∈ am_WS := am_in (am_tb1 (List.mem_of_getElem? (i := 236) rfl)) (by decide +kernel)
set_option maxRecDepth 100000 in
theorem wd_24 : (Jvm.Cond.methodLink "LeadlightHall" (3 : Nat) ({ cls := "java/lang/Object", name := "<init>", desc := "()V" } : Jvm.MethodName)) ∈ am_WS := am_in (am_tb1 (List.mem_of_getElem? (i := 24) rfl)) (by decide +kernel)
set_option maxRecDepth 100000 in
theorem wd_27 : (Jvm.Cond.classLink "LeadlightHall" (9 : Nat) "LeadlightHall$Wall") ∈ am_WS := am_in (am_tb1 (List.mem_of_getElem? (i := 27) rfl)) (by decide +kernel)
set_option maxRecDepth 100000 in
theorem wd_28 : (Jvm.Cond.instantiable "LeadlightHall$Wall" (1 : Nat)) ∈ am_WS := am_in (am_tb1 (List.mem_of_getElem? (i := 28) rfl)) (by decide +kernel)
set_option maxRecDepth 100000 in
theorem wd_29 : (Jvm.Cond.methodLink "LeadlightHall" (11 : Nat) yX5_init) ∈ am_WS := am_in (am_tb1 (List.mem_of_getElem? (i := 29) rfl)) (by decide +kernel)
set_option maxRecDepth 100000 in
theorem wd_3 : (Jvm.Cond.initialized "LeadlightHall$Frame") ∈ am_WS := am_in (am_tb1 (List.mem_of_getElem? (i := 3) rfl)) (by decide +kernel)
set_option maxRecDepth 100000 in
theorem wd_30 : (Jvm.Cond.instanceMethod yX5_init) ∈ am_WS := am_in (am_tb1 (List.mem_of_getElem? (i := 30) rfl)) (by decide +kernel)
set_option maxRecDepth 100000 in
theorem wd_306 : (Jvm.Cond.methodLink "LeadlightHall" (120 : Nat) yX5_cellsOf) ∈ am_WS := am_in (am_tb2 (List.mem_of_getElem? (i := 66) rfl)) (by decide +kernel)
set_option maxRecDepth 100000 in
theorem wd_307 : (Jvm.Cond.instanceMethod yX5_cellsOf) ∈ am_WS := am_in (am_tb2 (List.mem_of_getElem? (i := 67) rfl)) (by decide +kernel)
set_option maxRecDepth 100000 in
theorem wd_308 : (Jvm.Cond.selects "LeadlightHall$Wall" yX5_cellsOf yX5_cellsOf) ∈ am_WS := am_in (am_tb2 (List.mem_of_getElem? (i := 68) rfl)) (by decide +kernel)
set_option maxRecDepth 100000 in
theorem wd_309 : (Jvm.Cond.code yX5_cellsOf prog_7_method_5_code (4 : Nat) (Option.some Jvm.ClassFile.FieldType.int)) ∈ am_WS := am_in (am_tb2 (List.mem_of_getElem? (i := 69) rfl)) (by decide +kernel)
set_option maxRecDepth 100000 in
theorem wd_31 : (Jvm.Cond.code yX5_init prog_7_method_1_code (2 : Nat) (Option.none : Option Jvm.ClassFile.FieldType)) ∈ am_WS := am_in (am_tb1 (List.mem_of_getElem? (i := 31) rfl)) (by decide +kernel)
set_option maxRecDepth 100000 in
theorem wd_310 : (Jvm.Cond.methodLink "LeadlightHallLaw" (102 : Nat) yX7_isSound) ∈ am_WS := am_in (am_tb2 (List.mem_of_getElem? (i := 70) rfl)) (by decide +kernel)
set_option maxRecDepth 100000 in
theorem wd_311 : (Jvm.Cond.instanceMethod yX7_isSound) ∈ am_WS := am_in (am_tb2 (List.mem_of_getElem? (i := 71) rfl)) (by decide +kernel)
set_option maxRecDepth 100000 in
theorem wd_312 : (Jvm.Cond.selects "LeadlightHall" yX7_isSound yX7_isSound) ∈ am_WS := am_in (am_tb2 (List.mem_of_getElem? (i := 72) rfl)) (by decide +kernel)
set_option maxRecDepth 100000 in
theorem wd_313 : (Jvm.Cond.code yX7_isSound prog_1_method_44_code (5 : Nat) (Option.some Jvm.ClassFile.FieldType.boolean)) ∈ am_WS := am_in (am_tb2 (List.mem_of_getElem? (i := 73) rfl)) (by decide +kernel)
set_option maxRecDepth 100000 in
theorem wd_314 : (Jvm.Cond.methodLink "LeadlightHall" (409 : Nat) yX4_usedCells) ∈ am_WS := am_in (am_tb2 (List.mem_of_getElem? (i := 74) rfl)) (by decide +kernel)
set_option maxRecDepth 100000 in
theorem wd_315 : (Jvm.Cond.instanceMethod yX4_usedCells) ∈ am_WS := am_in (am_tb2 (List.mem_of_getElem? (i := 75) rfl)) (by decide +kernel)
set_option maxRecDepth 100000 in
theorem wd_316 : (Jvm.Cond.selects "LeadlightHall$Sheet" yX4_usedCells yX4_usedCells) ∈ am_WS := am_in (am_tb2 (List.mem_of_getElem? (i := 76) rfl)) (by decide +kernel)
set_option maxRecDepth 100000 in
theorem wd_317 : (Jvm.Cond.code yX4_usedCells prog_6_method_3_code (3 : Nat) (Option.some Jvm.ClassFile.FieldType.int)) ∈ am_WS := am_in (am_tb2 (List.mem_of_getElem? (i := 77) rfl)) (by decide +kernel)
set_option maxRecDepth 100000 in
theorem wd_318 : (Jvm.Cond.methodLink "LeadlightHall$Sheet" (29 : Nat) yJ6_bitCount_0f7a4) ∈ am_WS := am_in (am_tb2 (List.mem_of_getElem? (i := 78) rfl)) (by decide +kernel)
set_option maxRecDepth 100000 in
theorem wd_319 : (Jvm.Cond.methodLink "LeadlightHall" (305 : Nat) yX5_waitsInto) ∈ am_WS := am_in (am_tb2 (List.mem_of_getElem? (i := 79) rfl)) (by decide +kernel)
set_option maxRecDepth 100000 in
theorem wd_32 : (Jvm.Cond.methodLink "LeadlightHall$Wall" (3 : Nat) ({ cls := "java/lang/Object", name := "<init>", desc := "()V" } : Jvm.MethodName)) ∈ am_WS := am_in (am_tb1 (List.mem_of_getElem? (i := 32) rfl)) (by decide +kernel)
set_option maxRecDepth 100000 in
theorem wd_320 : (Jvm.Cond.instanceMethod yX5_waitsInto) ∈ am_WS := am_in (am_tb2 (List.mem_of_getElem? (i := 80) rfl)) (by decide +kernel)
set_option maxRecDepth 100000 in
theorem wd_321 : (Jvm.Cond.selects "LeadlightHall$Wall" yX5_waitsInto yX5_waitsInto) ∈ am_WS := am_in (am_tb2 (List.mem_of_getElem? (i := 81) rfl)) (by decide +kernel)
set_option maxRecDepth 100000 in
theorem wd_322 : (Jvm.Cond.code yX5_waitsInto prog_7_method_10_code (5 : Nat) (Option.none : Option Jvm.ClassFile.FieldType)) ∈ am_WS := am_in (am_tb2 (List.mem_of_getElem? (i := 82) rfl)) (by decide +kernel)
set_option maxRecDepth 100000 in
theorem wd_323 : (Jvm.Cond.methodLink "LeadlightHall$Wall" (42 : Nat) yX5_bitOf) ∈ am_WS := am_in (am_tb2 (List.mem_of_getElem? (i := 83) rfl)) (by decide +kernel)
set_option maxRecDepth 100000 in
theorem wd_324 : (Jvm.Cond.static yX5_bitOf) ∈ am_WS := am_in (am_tb2 (List.mem_of_getElem? (i := 84) rfl)) (by decide +kernel)
set_option maxRecDepth 100000 in
theorem wd_325 : (Jvm.Cond.code yX5_bitOf prog_7_method_11_code (2 : Nat) (Option.some Jvm.ClassFile.FieldType.int)) ∈ am_WS := am_in (am_tb2 (List.mem_of_getElem? (i := 85) rfl)) (by decide +kernel)
set_option maxRecDepth 100000 in
theorem wd_326 : (Jvm.Cond.constant "LeadlightHall$Wall" (45 : Nat) (1073741824 : Int32)) ∈ am_WS := am_in (am_tb2 (List.mem_of_getElem? (i := 86) rfl)) (by decide +kernel)
set_option maxRecDepth 100000 in
theorem wd_327 : (Jvm.Cond.methodLink "LeadlightHall" (286 : Nat) yX7_panesThatAre) ∈ am_WS := am_in (am_tb2 (List.mem_of_getElem? (i := 87) rfl)) (by decide +kernel)
set_option maxRecDepth 100000 in
theorem wd_329 : (Jvm.Cond.instanceMethod yX7_panesThatAre) ∈ am_WS := am_in (am_tb2 (List.mem_of_getElem? (i := 89) rfl)) (by decide +kernel)
set_option maxRecDepth 100000 in
theorem wd_33 : (Jvm.Cond.fieldLink "LeadlightHall$Wall" (9 : Nat) "LeadlightHall$Wall" "cells" "[I") ∈ am_WS := am_in (am_tb1 (List.mem_of_getElem? (i := 33) rfl)) (by decide +kernel)
set_option maxRecDepth 100000 in
theorem wd_330 : (Jvm.Cond.code yX7_panesThatAre prog_1_method_58_code (4 : Nat) (Option.some Jvm.ClassFile.FieldType.int)) ∈ am_WS := am_in (am_tb2 (List.mem_of_getElem? (i := 90) rfl)) (by decide +kernel)
set_option maxRecDepth 100000 in
theorem wd_331 : (Jvm.Cond.methodLink "LeadlightHall" (111 : Nat) yX2_hasGlass) ∈ am_WS := am_in (am_tb2 (List.mem_of_getElem? (i := 91) rfl)) (by decide +kernel)
set_option maxRecDepth 100000 in
theorem wd_332 : (Jvm.Cond.instanceMethod yX2_hasGlass) ∈ am_WS := am_in (am_tb2 (List.mem_of_getElem? (i := 92) rfl)) (by decide +kernel)
set_option maxRecDepth 100000 in
theorem wd_333 : (Jvm.Cond.selects "LeadlightHall$Pane" yX2_hasGlass yX2_hasGlass) ∈ am_WS := am_in (am_tb2 (List.mem_of_getElem? (i := 93) rfl)) (by decide +kernel)
set_option maxRecDepth 100000 in
theorem wd_334 : (Jvm.Cond.code yX2_hasGlass prog_4_method_2_code (1 : Nat) (Option.some Jvm.ClassFile.FieldType.boolean)) ∈ am_WS := am_in (am_tb2 (List.mem_of_getElem? (i := 94) rfl)) (by decide +kernel)
set_option maxRecDepth 100000 in
theorem wd_335 : (Jvm.Cond.methodLink "LeadlightHall" (412 : Nat) yX7_isCuttable) ∈ am_WS := am_in (am_tb2 (List.mem_of_getElem? (i := 95) rfl)) (by decide +kernel)
set_option maxRecDepth 100000 in
theorem wd_337 : (Jvm.Cond.instanceMethod yX7_isCuttable) ∈ am_WS := am_in (am_tb2 (List.mem_of_getElem? (i := 97) rfl)) (by decide +kernel)
set_option maxRecDepth 100000 in
theorem wd_338 : (Jvm.Cond.code yX7_isCuttable prog_1_method_63_code (2 : Nat) (Option.some Jvm.ClassFile.FieldType.boolean)) ∈ am_WS := am_in (am_tb2 (List.mem_of_getElem? (i := 98) rfl)) (by decide +kernel)
set_option maxRecDepth 100000 in
theorem wd_339 : (Jvm.Cond.methodLink "LeadlightHall" (128 : Nat) yX5_shapeInto) ∈ am_WS := am_in (am_tb2 (List.mem_of_getElem? (i := 99) rfl)) (by decide +kernel)
set_option maxRecDepth 100000 in
theorem wd_340 : (Jvm.Cond.instanceMethod yX5_shapeInto) ∈ am_WS := am_in (am_tb2 (List.mem_of_getElem? (i := 100) rfl)) (by decide +kernel)
set_option maxRecDepth 100000 in
theorem wd_341 : (Jvm.Cond.selects "LeadlightHall$Wall" yX5_shapeInto yX5_shapeInto) ∈ am_WS := am_in (am_tb2 (List.mem_of_getElem? (i := 101) rfl)) (by decide +kernel)
set_option maxRecDepth 100000 in
theorem wd_342 : (Jvm.Cond.code yX5_shapeInto prog_7_method_7_code (5 : Nat) (Option.none : Option Jvm.ClassFile.FieldType)) ∈ am_WS := am_in (am_tb2 (List.mem_of_getElem? (i := 102) rfl)) (by decide +kernel)
set_option maxRecDepth 100000 in
theorem wd_343 : (Jvm.Cond.methodLink "LeadlightHall$Wall" (28 : Nat) yX3_clear) ∈ am_WS := am_in (am_tb2 (List.mem_of_getElem? (i := 103) rfl)) (by decide +kernel)
set_option maxRecDepth 100000 in
theorem wd_344 : (Jvm.Cond.instanceMethod yX3_clear) ∈ am_WS := am_in (am_tb2 (List.mem_of_getElem? (i := 104) rfl)) (by decide +kernel)
set_option maxRecDepth 100000 in
theorem wd_345 : (Jvm.Cond.selects "LeadlightHall$Shape" yX3_clear yX3_clear) ∈ am_WS := am_in (am_tb2 (List.mem_of_getElem? (i := 105) rfl)) (by decide +kernel)
set_option maxRecDepth 100000 in
theorem wd_346 : (Jvm.Cond.code yX3_clear prog_5_method_2_code (2 : Nat) (Option.none : Option Jvm.ClassFile.FieldType)) ∈ am_WS := am_in (am_tb2 (List.mem_of_getElem? (i := 106) rfl)) (by decide +kernel)
set_option maxRecDepth 100000 in
theorem wd_347 : (Jvm.Cond.methodLink "LeadlightHall$Wall" (35 : Nat) yX3_add) ∈ am_WS := am_in (am_tb2 (List.mem_of_getElem? (i := 107) rfl)) (by decide +kernel)
set_option maxRecDepth 100000 in
theorem wd_348 : (Jvm.Cond.instanceMethod yX3_add) ∈ am_WS := am_in (am_tb2 (List.mem_of_getElem? (i := 108) rfl)) (by decide +kernel)
set_option maxRecDepth 100000 in
theorem wd_349 : (Jvm.Cond.selects "LeadlightHall$Shape" yX3_add yX3_add) ∈ am_WS := am_in (am_tb2 (List.mem_of_getElem? (i := 109) rfl)) (by decide +kernel)
set_option maxRecDepth 100000 in
theorem wd_350 : (Jvm.Cond.code yX3_add prog_5_method_3_code (3 : Nat) (Option.none : Option Jvm.ClassFile.FieldType)) ∈ am_WS := am_in (am_tb2 (List.mem_of_getElem? (i := 110) rfl)) (by decide +kernel)
set_option maxRecDepth 100000 in
theorem wd_352 : (Jvm.Cond.methodLink "LeadlightHall" (438 : Nat) yX3_isWhole) ∈ am_WS := am_in (am_tb2 (List.mem_of_getElem? (i := 112) rfl)) (by decide +kernel)
set_option maxRecDepth 100000 in
theorem wd_353 : (Jvm.Cond.instanceMethod yX3_isWhole) ∈ am_WS := am_in (am_tb2 (List.mem_of_getElem? (i := 113) rfl)) (by decide +kernel)
set_option maxRecDepth 100000 in
theorem wd_354 : (Jvm.Cond.selects "LeadlightHall$Shape" yX3_isWhole yX3_isWhole) ∈ am_WS := am_in (am_tb2 (List.mem_of_getElem? (i := 114) rfl)) (by decide +kernel)
set_option maxRecDepth 100000 in
theorem wd_355 : (Jvm.Cond.code yX3_isWhole prog_5_method_8_code (4 : Nat) (Option.some Jvm.ClassFile.FieldType.boolean)) ∈ am_WS := am_in (am_tb2 (List.mem_of_getElem? (i := 115) rfl)) (by decide +kernel)
set_option maxRecDepth 100000 in
theorem wd_356 : (Jvm.Cond.methodLink "LeadlightHall$Shape" (42 : Nat) yX3_grow) ∈ am_WS := am_in (am_tb2 (List.mem_of_getElem? (i := 116) rfl)) (by decide +kernel)
set_option maxRecDepth 100000 in
theorem wd_358 : (Jvm.Cond.instanceMethod yX3_grow) ∈ am_WS := am_in (am_tb2 (List.mem_of_getElem? (i := 118) rfl)) (by decide +kernel)
set_option maxRecDepth 100000 in
theorem wd_359 : (Jvm.Cond.code yX3_grow prog_5_method_9_code (6 : Nat) (Option.some Jvm.ClassFile.FieldType.boolean)) ∈ am_WS := am_in (am_tb2 (List.mem_of_getElem? (i := 119) rfl)) (by decide +kernel)
set_option maxRecDepth 100000 in
theorem wd_360 : (Jvm.Cond.methodLink "LeadlightHall" (132 : Nat) yX3_innerCorners) ∈ am_WS := am_in (am_tb2 (List.mem_of_getElem? (i := 120) rfl)) (by decide +kernel)
set_option maxRecDepth 100000 in
theorem wd_361 : (Jvm.Cond.instanceMethod yX3_innerCorners) ∈ am_WS := am_in (am_tb2 (List.mem_of_getElem? (i := 121) rfl)) (by decide +kernel)
set_option maxRecDepth 100000 in
theorem wd_362 : (Jvm.Cond.selects "LeadlightHall$Shape" yX3_innerCorners yX3_innerCorners) ∈ am_WS := am_in (am_tb2 (List.mem_of_getElem? (i := 122) rfl)) (by decide +kernel)
set_option maxRecDepth 100000 in
theorem wd_363 : (Jvm.Cond.code yX3_innerCorners prog_5_method_10_code (5 : Nat) (Option.some Jvm.ClassFile.FieldType.int)) ∈ am_WS := am_in (am_tb2 (List.mem_of_getElem? (i := 123) rfl)) (by decide +kernel)
set_option maxRecDepth 100000 in
theorem wd_364 : (Jvm.Cond.methodLink "LeadlightHall$Shape" (22 : Nat) yJ6_bitCount_0f7a4) ∈ am_WS := am_in (am_tb2 (List.mem_of_getElem? (i := 124) rfl)) (by decide +kernel)
set_option maxRecDepth 100000 in
theorem wd_365 : (Jvm.Cond.methodLink "LeadlightHall" (296 : Nat) yX1_rawLayers) ∈ am_WS := am_in (am_tb2 (List.mem_of_getElem? (i := 125) rfl)) (by decide +kernel)
set_option maxRecDepth 100000 in
theorem wd_366 : (Jvm.Cond.instanceMethod yX1_rawLayers) ∈ am_WS := am_in (am_tb2 (List.mem_of_getElem? (i := 126) rfl)) (by decide +kernel)
set_option maxRecDepth 100000 in
theorem wd_367 : (Jvm.Cond.selects "LeadlightHall$Paint" yX1_rawLayers yX1_rawLayers) ∈ am_WS := am_in (am_tb2 (List.mem_of_getElem? (i := 127) rfl)) (by decide +kernel)
set_option maxRecDepth 100000 in
theorem wd_368 : (Jvm.Cond.code yX1_rawLayers prog_3_method_7_code (3 : Nat) (Option.some Jvm.ClassFile.FieldType.int)) ∈ am_WS := am_in (am_tb2 (List.mem_of_getElem? (i := 128) rfl)) (by decide +kernel)
set_option maxRecDepth 100000 in
theorem wd_369 : (Jvm.Cond.methodLink "LeadlightHallLaw" (61 : Nat) yL_open) ∈ am_WS := am_in (am_tb2 (List.mem_of_getElem? (i := 129) rfl)) (by decide +kernel)
set_option maxRecDepth 100000 in
theorem wd_37 : (Jvm.Cond.arrayClass Jvm.ClassFile.FieldType.int) ∈ am_WS := am_in (am_tb1 (List.mem_of_getElem? (i := 37) rfl)) (by decide +kernel)
set_option maxRecDepth 100000 in
theorem wd_370 : (Jvm.Cond.static yL_open) ∈ am_WS := am_in (am_tb2 (List.mem_of_getElem? (i := 130) rfl)) (by decide +kernel)
set_option maxRecDepth 100000 in
theorem wd_371 : (Jvm.Cond.codeWith yL_open method_3_code (7 : Nat) (Option.some Jvm.ClassFile.FieldType.int) [((0 : Nat), (11 : Nat), (12 : Nat), (15 : Nat)), ((0 : Nat), (11 : Nat), (17 : Nat), (18 : Nat))]) ∈ am_WS := am_in (am_tb2 (List.mem_of_getElem? (i := 131) rfl)) (by decide +kernel)
set_option maxRecDepth 100000 in
theorem wd_372 : (Jvm.Cond.classLink "LeadlightHallLaw" (15 : Nat) "java/lang/IllegalArgumentException") ∈ am_WS := am_in (am_tb2 (List.mem_of_getElem? (i := 132) rfl)) (by decide +kernel)
set_option maxRecDepth 100000 in
theorem wd_373 : (Jvm.Cond.classLink "LeadlightHallLaw" (18 : Nat) "java/lang/UnsupportedOperationException") ∈ am_WS := am_in (am_tb2 (List.mem_of_getElem? (i := 133) rfl)) (by decide +kernel)
set_option maxRecDepth 100000 in
theorem wd_374 : (Jvm.Cond.methodLink "LeadlightHallLaw" (9 : Nat) yX7_open) ∈ am_WS := am_in (am_tb2 (List.mem_of_getElem? (i := 134) rfl)) (by decide +kernel)
set_option maxRecDepth 100000 in
theorem wd_375 : (Jvm.Cond.instanceMethod yX7_open) ∈ am_WS := am_in (am_tb2 (List.mem_of_getElem? (i := 135) rfl)) (by decide +kernel)
set_option maxRecDepth 100000 in
theorem wd_376 : (Jvm.Cond.selects "LeadlightHall" yX7_open yX7_open) ∈ am_WS := am_in (am_tb2 (List.mem_of_getElem? (i := 136) rfl)) (by decide +kernel)
set_option maxRecDepth 100000 in
theorem wd_377 : (Jvm.Cond.code yX7_open prog_1_method_2_code (10 : Nat) (Option.some Jvm.ClassFile.FieldType.int)) ∈ am_WS := am_in (am_tb2 (List.mem_of_getElem? (i := 137) rfl)) (by decide +kernel)
set_option maxRecDepth 100000 in
theorem wd_378 : (Jvm.Cond.methodLink "LeadlightHall" (84 : Nat) yX7_requireCells) ∈ am_WS := am_in (am_tb2 (List.mem_of_getElem? (i := 138) rfl)) (by decide +kernel)
set_option maxRecDepth 100000 in
theorem wd_379 : (Jvm.Cond.static yX7_requireCells) ∈ am_WS := am_in (am_tb2 (List.mem_of_getElem? (i := 139) rfl)) (by decide +kernel)
set_option maxRecDepth 100000 in
theorem wd_38 : (Jvm.Cond.classLink "LeadlightHall" (16 : Nat) "LeadlightHall$Pane") ∈ am_WS := am_in (am_tb1 (List.mem_of_getElem? (i := 38) rfl)) (by decide +kernel)
set_option maxRecDepth 100000 in
theorem wd_380 : (Jvm.Cond.code yX7_requireCells prog_1_method_53_code (4 : Nat) (Option.none : Option Jvm.ClassFile.FieldType)) ∈ am_WS := am_in (am_tb2 (List.mem_of_getElem? (i := 140) rfl)) (by decide +kernel)
set_option maxRecDepth 100000 in
theorem wd_381 : (Jvm.Cond.methodLink "LeadlightHall" (420 : Nat) yX7_isInside) ∈ am_WS := am_in (am_tb2 (List.mem_of_getElem? (i := 141) rfl)) (by decide +kernel)
set_option maxRecDepth 100000 in
theorem wd_382 : (Jvm.Cond.classLink "LeadlightHall" (187 : Nat) "java/lang/IllegalArgumentException") ∈ am_WS := am_in (am_tb2 (List.mem_of_getElem? (i := 142) rfl)) (by decide +kernel)
set_option maxRecDepth 100000 in
theorem wd_398 : (Jvm.Cond.methodLink "LeadlightHall" (88 : Nat) yX7_isGlassWithin) ∈ am_WS := am_in (am_tb2 (List.mem_of_getElem? (i := 158) rfl)) (by decide +kernel)
set_option maxRecDepth 100000 in
theorem wd_4 : (Jvm.Cond.initialized "LeadlightHall$Shape") ∈ am_WS := am_in (am_tb1 (List.mem_of_getElem? (i := 4) rfl)) (by decide +kernel)
set_option maxRecDepth 100000 in
theorem wd_40 : (Jvm.Cond.classLink "LeadlightHall" (22 : Nat) "LeadlightHall$Sheet") ∈ am_WS := am_in (am_tb1 (List.mem_of_getElem? (i := 40) rfl)) (by decide +kernel)
set_option maxRecDepth 100000 in
theorem wd_400 : (Jvm.Cond.instanceMethod yX7_isGlassWithin) ∈ am_WS := am_in (am_tb2 (List.mem_of_getElem? (i := 160) rfl)) (by decide +kernel)
set_option maxRecDepth 100000 in
theorem wd_401 : (Jvm.Cond.code yX7_isGlassWithin prog_1_method_60_code (8 : Nat) (Option.some Jvm.ClassFile.FieldType.boolean)) ∈ am_WS := am_in (am_tb2 (List.mem_of_getElem? (i := 161) rfl)) (by decide +kernel)
set_option maxRecDepth 100000 in
theorem wd_402 : (Jvm.Cond.methodLink "LeadlightHall" (99 : Nat) yX5_at) ∈ am_WS := am_in (am_tb2 (List.mem_of_getElem? (i := 162) rfl)) (by decide +kernel)
set_option maxRecDepth 100000 in
theorem wd_403 : (Jvm.Cond.methodLink "LeadlightHall" (367 : Nat) yX7_isPiece) ∈ am_WS := am_in (am_tb2 (List.mem_of_getElem? (i := 163) rfl)) (by decide +kernel)
set_option maxRecDepth 100000 in
theorem wd_404 : (Jvm.Cond.static yX7_isPiece) ∈ am_WS := am_in (am_tb2 (List.mem_of_getElem? (i := 164) rfl)) (by decide +kernel)
set_option maxRecDepth 100000 in
theorem wd_405 : (Jvm.Cond.code yX7_isPiece prog_1_method_47_code (1 : Nat) (Option.some Jvm.ClassFile.FieldType.boolean)) ∈ am_WS := am_in (am_tb2 (List.mem_of_getElem? (i := 165) rfl)) (by decide +kernel)
set_option maxRecDepth 100000 in
theorem wd_406 : (Jvm.Cond.methodLink "LeadlightHall" (179 : Nat) yX7_isWithin) ∈ am_WS := am_in (am_tb2 (List.mem_of_getElem? (i := 166) rfl)) (by decide +kernel)
set_option maxRecDepth 100000 in
theorem wd_407 : (Jvm.Cond.static yX7_isWithin) ∈ am_WS := am_in (am_tb2 (List.mem_of_getElem? (i := 167) rfl)) (by decide +kernel)
set_option maxRecDepth 100000 in
theorem wd_408 : (Jvm.Cond.code yX7_isWithin prog_1_method_45_code (3 : Nat) (Option.some Jvm.ClassFile.FieldType.boolean)) ∈ am_WS := am_in (am_tb2 (List.mem_of_getElem? (i := 168) rfl)) (by decide +kernel)
set_option maxRecDepth 100000 in
theorem wd_409 : (Jvm.Cond.classLink "LeadlightHall" (92 : Nat) "java/lang/UnsupportedOperationException") ∈ am_WS := am_in (am_tb2 (List.mem_of_getElem? (i := 169) rfl)) (by decide +kernel)
set_option maxRecDepth 100000 in
theorem wd_42 : (Jvm.Cond.classLink "LeadlightHall" (28 : Nat) "LeadlightHall$Frame") ∈ am_WS := am_in (am_tb1 (List.mem_of_getElem? (i := 42) rfl)) (by decide +kernel)
set_option maxRecDepth 100000 in
theorem wd_425 : (Jvm.Cond.methodLink "LeadlightHall" (103 : Nat) yX5_put) ∈ am_WS := am_in (am_tb2 (List.mem_of_getElem? (i := 185) rfl)) (by decide +kernel)
set_option maxRecDepth 100000 in
theorem wd_426 : (Jvm.Cond.instanceMethod yX5_put) ∈ am_WS := am_in (am_tb2 (List.mem_of_getElem? (i := 186) rfl)) (by decide +kernel)
set_option maxRecDepth 100000 in
theorem wd_427 : (Jvm.Cond.selects "LeadlightHall$Wall" yX5_put yX5_put) ∈ am_WS := am_in (am_tb2 (List.mem_of_getElem? (i := 187) rfl)) (by decide +kernel)
set_option maxRecDepth 100000 in
theorem wd_428 : (Jvm.Cond.code yX5_put prog_7_method_3_code (4 : Nat) (Option.none : Option Jvm.ClassFile.FieldType)) ∈ am_WS := am_in (am_tb2 (List.mem_of_getElem? (i := 188) rfl)) (by decide +kernel)
set_option maxRecDepth 100000 in
theorem wd_429 : (Jvm.Cond.constant "LeadlightHallLaw" (17 : Nat) (-900001 : Int32)) ∈ am_WS := am_in (am_tb2 (List.mem_of_getElem? (i := 189) rfl)) (by decide +kernel)
set_option maxRecDepth 100000 in
theorem wd_43 : (Jvm.Cond.instantiable "LeadlightHall$Frame" (3 : Nat)) ∈ am_WS := am_in (am_tb1 (List.mem_of_getElem? (i := 43) rfl)) (by decide +kernel)
set_option maxRecDepth 100000 in
theorem wd_430 : (Jvm.Cond.constant "LeadlightHallLaw" (20 : Nat) (-900002 : Int32)) ∈ am_WS := am_in (am_tb2 (List.mem_of_getElem? (i := 190) rfl)) (by decide +kernel)
set_option maxRecDepth 100000 in
theorem wd_431 : (Jvm.Cond.methodLink "LeadlightHallLaw" (64 : Nat) yL_lay) ∈ am_WS := am_in (am_tb2 (List.mem_of_getElem? (i := 191) rfl)) (by decide +kernel)
set_option maxRecDepth 100000 in
theorem wd_432 : (Jvm.Cond.static yL_lay) ∈ am_WS := am_in (am_tb2 (List.mem_of_getElem? (i := 192) rfl)) (by decide +kernel)
set_option maxRecDepth 100000 in
theorem wd_433 : (Jvm.Cond.codeWith yL_lay method_4_code (7 : Nat) (Option.some Jvm.ClassFile.FieldType.int) [((0 : Nat), (11 : Nat), (12 : Nat), (25 : Nat)), ((0 : Nat), (11 : Nat), (17 : Nat), (15 : Nat)), ((0 : Nat), (11 : Nat), (22 : Nat), (18 : Nat))]) ∈ am_WS := am_in (am_tb2 (List.mem_of_getElem? (i := 193) rfl)) (by decide +kernel)
set_option maxRecDepth 100000 in
theorem wd_434 : (Jvm.Cond.classLink "LeadlightHallLaw" (25 : Nat) "java/lang/IndexOutOfBoundsException") ∈ am_WS := am_in (am_tb2 (List.mem_of_getElem? (i := 194) rfl)) (by decide +kernel)
set_option maxRecDepth 100000 in
theorem wd_435 : (Jvm.Cond.methodLink "LeadlightHallLaw" (21 : Nat) yX7_lay) ∈ am_WS := am_in (am_tb2 (List.mem_of_getElem? (i := 195) rfl)) (by decide +kernel)
set_option maxRecDepth 100000 in
theorem wd_436 : (Jvm.Cond.instanceMethod yX7_lay) ∈ am_WS := am_in (am_tb2 (List.mem_of_getElem? (i := 196) rfl)) (by decide +kernel)
set_option maxRecDepth 100000 in
theorem wd_437 : (Jvm.Cond.selects "LeadlightHall" yX7_lay yX7_lay) ∈ am_WS := am_in (am_tb2 (List.mem_of_getElem? (i := 197) rfl)) (by decide +kernel)
set_option maxRecDepth 100000 in
theorem wd_438 : (Jvm.Cond.code yX7_lay prog_1_method_3_code (8 : Nat) (Option.some Jvm.ClassFile.FieldType.int)) ∈ am_WS := am_in (am_tb2 (List.mem_of_getElem? (i := 198) rfl)) (by decide +kernel)
set_option maxRecDepth 100000 in
theorem wd_439 : (Jvm.Cond.methodLink "LeadlightHall" (107 : Nat) yX7_requirePiece) ∈ am_WS := am_in (am_tb2 (List.mem_of_getElem? (i := 199) rfl)) (by decide +kernel)
set_option maxRecDepth 100000 in
theorem wd_440 : (Jvm.Cond.static yX7_requirePiece) ∈ am_WS := am_in (am_tb2 (List.mem_of_getElem? (i := 200) rfl)) (by decide +kernel)
set_option maxRecDepth 100000 in
theorem wd_441 : (Jvm.Cond.code yX7_requirePiece prog_1_method_50_code (1 : Nat) (Option.none : Option Jvm.ClassFile.FieldType)) ∈ am_WS := am_in (am_tb2 (List.mem_of_getElem? (i := 201) rfl)) (by decide +kernel)
set_option maxRecDepth 100000 in
theorem wd_442 : (Jvm.Cond.classLink "LeadlightHall" (415 : Nat) "java/lang/IndexOutOfBoundsException") ∈ am_WS := am_in (am_tb2 (List.mem_of_getElem? (i := 202) rfl)) (by decide +kernel)
set_option maxRecDepth 100000 in
theorem wd_45 : (Jvm.Cond.instanceMethod yX0_init) ∈ am_WS := am_in (am_tb1 (List.mem_of_getElem? (i := 45) rfl)) (by decide +kernel)
set_option maxRecDepth 100000 in
theorem wd_458 : (Jvm.Cond.methodLink "LeadlightHall" (115 : Nat) yX7_isOpenWithin) ∈ am_WS := am_in (am_tb2 (List.mem_of_getElem? (i := 218) rfl)) (by decide +kernel)
set_option maxRecDepth 100000 in
theorem wd_46 : (Jvm.Cond.code yX0_init prog_2_method_1_code (1 : Nat) (Option.none : Option Jvm.ClassFile.FieldType)) ∈ am_WS := am_in (am_tb1 (List.mem_of_getElem? (i := 46) rfl)) (by decide +kernel)
set_option maxRecDepth 100000 in
theorem wd_460 : (Jvm.Cond.instanceMethod yX7_isOpenWithin) ∈ am_WS := am_in (am_tb2 (List.mem_of_getElem? (i := 220) rfl)) (by decide +kernel)
set_option maxRecDepth 100000 in
theorem wd_461 : (Jvm.Cond.code yX7_isOpenWithin prog_1_method_61_code (7 : Nat) (Option.some Jvm.ClassFile.FieldType.boolean)) ∈ am_WS := am_in (am_tb2 (List.mem_of_getElem? (i := 221) rfl)) (by decide +kernel)
set_option maxRecDepth 100000 in
theorem wd_463 : (Jvm.Cond.constant "LeadlightHallLaw" (27 : Nat) (-900003 : Int32)) ∈ am_WS := am_in (am_tb2 (List.mem_of_getElem? (i := 223) rfl)) (by decide +kernel)
set_option maxRecDepth 100000 in
theorem wd_464 : (Jvm.Cond.methodLink "LeadlightHallLaw" (67 : Nat) yL_pieceAt) ∈ am_WS := am_in (am_tb2 (List.mem_of_getElem? (i := 224) rfl)) (by decide +kernel)
set_option maxRecDepth 100000 in
theorem wd_465 : (Jvm.Cond.static yL_pieceAt) ∈ am_WS := am_in (am_tb2 (List.mem_of_getElem? (i := 225) rfl)) (by decide +kernel)
set_option maxRecDepth 100000 in
theorem wd_466 : (Jvm.Cond.codeWith yL_pieceAt method_5_code (4 : Nat) (Option.some Jvm.ClassFile.FieldType.int) [((0 : Nat), (6 : Nat), (7 : Nat), (15 : Nat))]) ∈ am_WS := am_in (am_tb2 (List.mem_of_getElem? (i := 226) rfl)) (by decide +kernel)
set_option maxRecDepth 100000 in
theorem wd_467 : (Jvm.Cond.methodLink "LeadlightHallLaw" (28 : Nat) yX7_pieceAt) ∈ am_WS := am_in (am_tb2 (List.mem_of_getElem? (i := 227) rfl)) (by decide +kernel)
set_option maxRecDepth 100000 in
theorem wd_468 : (Jvm.Cond.instanceMethod yX7_pieceAt) ∈ am_WS := am_in (am_tb2 (List.mem_of_getElem? (i := 228) rfl)) (by decide +kernel)
set_option maxRecDepth 100000 in
theorem wd_469 : (Jvm.Cond.selects "LeadlightHall" yX7_pieceAt yX7_pieceAt) ∈ am_WS := am_in (am_tb2 (List.mem_of_getElem? (i := 229) rfl)) (by decide +kernel)
set_option maxRecDepth 100000 in
theorem wd_47 : (Jvm.Cond.methodLink "LeadlightHall$Frame" (3 : Nat) ({ cls := "java/lang/Object", name := "<init>", desc := "()V" } : Jvm.MethodName)) ∈ am_WS := am_in (am_tb1 (List.mem_of_getElem? (i := 47) rfl)) (by decide +kernel)
set_option maxRecDepth 100000 in
theorem wd_470 : (Jvm.Cond.code yX7_pieceAt prog_1_method_4_code (3 : Nat) (Option.some Jvm.ClassFile.FieldType.int)) ∈ am_WS := am_in (am_tb2 (List.mem_of_getElem? (i := 230) rfl)) (by decide +kernel)
set_option maxRecDepth 100000 in
theorem wd_471 : (Jvm.Cond.methodLink "LeadlightHall" (124 : Nat) yX7_requireCell) ∈ am_WS := am_in (am_tb2 (List.mem_of_getElem? (i := 231) rfl)) (by decide +kernel)
set_option maxRecDepth 100000 in
theorem wd_472 : (Jvm.Cond.static yX7_requireCell) ∈ am_WS := am_in (am_tb2 (List.mem_of_getElem? (i := 232) rfl)) (by decide +kernel)
set_option maxRecDepth 100000 in
theorem wd_473 : (Jvm.Cond.code yX7_requireCell prog_1_method_52_code (2 : Nat) (Option.none : Option Jvm.ClassFile.FieldType)) ∈ am_WS := am_in (am_tb2 (List.mem_of_getElem? (i := 233) rfl)) (by decide +kernel)
set_option maxRecDepth 100000 in
theorem wd_475 : (Jvm.Cond.methodLink "LeadlightHallLaw" (70 : Nat) yL_size) ∈ am_WS := am_in (am_tb2 (List.mem_of_getElem? (i := 235) rfl)) (by decide +kernel)
set_option maxRecDepth 100000 in
theorem wd_476 : (Jvm.Cond.static yL_size) ∈ am_WS := am_in (am_tb2 (List.mem_of_getElem? (i := 236) rfl)) (by decide +kernel)
set_option maxRecDepth 100000 in
theorem wd_477 : (Jvm.Cond.codeWith yL_size method_6_code (3 : Nat) (Option.some Jvm.ClassFile.FieldType.int) [((0 : Nat), (5 : Nat), (6 : Nat), (25 : Nat))]) ∈ am_WS := am_in (am_tb2 (List.mem_of_getElem? (i := 237) rfl)) (by decide +kernel)
set_option maxRecDepth 100000 in
theorem wd_478 : (Jvm.Cond.methodLink "LeadlightHallLaw" (32 : Nat) yX7_size) ∈ am_WS := am_in (am_tb2 (List.mem_of_getElem? (i := 238) rfl)) (by decide +kernel)
set_option maxRecDepth 100000 in
theorem wd_479 : (Jvm.Cond.instanceMethod yX7_size) ∈ am_WS := am_in (am_tb2 (List.mem_of_getElem? (i := 239) rfl)) (by decide +kernel)
set_option maxRecDepth 100000 in
theorem wd_48 : (Jvm.Cond.fieldLink "LeadlightHall$Frame" (9 : Nat) "LeadlightHall$Frame" "bars" "I") ∈ am_WS := am_in (am_tb1 (List.mem_of_getElem? (i := 48) rfl)) (by decide +kernel)
set_option maxRecDepth 100000 in
theorem wd_480 : (Jvm.Cond.selects "LeadlightHall" yX7_size yX7_size) ∈ am_WS := am_in (am_tb3 (List.mem_of_getElem? (i := 0) rfl)) (by decide +kernel)
set_option maxRecDepth 100000 in
theorem wd_481 : (Jvm.Cond.code yX7_size prog_1_method_5_code (2 : Nat) (Option.some Jvm.ClassFile.FieldType.int)) ∈ am_WS := am_in (am_tb3 (List.mem_of_getElem? (i := 1) rfl)) (by decide +kernel)
set_option maxRecDepth 100000 in
theorem wd_482 : (Jvm.Cond.methodLink "LeadlightHallLaw" (88 : Nat) yL_corners) ∈ am_WS := am_in (am_tb3 (List.mem_of_getElem? (i := 2) rfl)) (by decide +kernel)
set_option maxRecDepth 100000 in
theorem wd_483 : (Jvm.Cond.static yL_corners) ∈ am_WS := am_in (am_tb3 (List.mem_of_getElem? (i := 3) rfl)) (by decide +kernel)
set_option maxRecDepth 100000 in
theorem wd_484 : (Jvm.Cond.codeWith yL_corners method_7_code (3 : Nat) (Option.some Jvm.ClassFile.FieldType.int) [((0 : Nat), (5 : Nat), (6 : Nat), (25 : Nat))]) ∈ am_WS := am_in (am_tb3 (List.mem_of_getElem? (i := 4) rfl)) (by decide +kernel)
set_option maxRecDepth 100000 in
theorem wd_485 : (Jvm.Cond.methodLink "LeadlightHallLaw" (36 : Nat) yX7_corners) ∈ am_WS := am_in (am_tb3 (List.mem_of_getElem? (i := 5) rfl)) (by decide +kernel)
set_option maxRecDepth 100000 in
theorem wd_486 : (Jvm.Cond.instanceMethod yX7_corners) ∈ am_WS := am_in (am_tb3 (List.mem_of_getElem? (i := 6) rfl)) (by decide +kernel)
set_option maxRecDepth 100000 in
theorem wd_487 : (Jvm.Cond.selects "LeadlightHall" yX7_corners yX7_corners) ∈ am_WS := am_in (am_tb3 (List.mem_of_getElem? (i := 7) rfl)) (by decide +kernel)
set_option maxRecDepth 100000 in
theorem wd_488 : (Jvm.Cond.code yX7_corners prog_1_method_6_code (2 : Nat) (Option.some Jvm.ClassFile.FieldType.int)) ∈ am_WS := am_in (am_tb3 (List.mem_of_getElem? (i := 8) rfl)) (by decide +kernel)
set_option maxRecDepth 100000 in
theorem wd_489 : (Jvm.Cond.methodLink "LeadlightHallLaw" (90 : Nat) yL_point) ∈ am_WS := am_in (am_tb3 (List.mem_of_getElem? (i := 9) rfl)) (by decide +kernel)
set_option maxRecDepth 100000 in
theorem wd_49 : (Jvm.Cond.fieldLink "LeadlightHall$Frame" (15 : Nat) "LeadlightHall$Frame" "profile" "I") ∈ am_WS := am_in (am_tb1 (List.mem_of_getElem? (i := 49) rfl)) (by decide +kernel)
set_option maxRecDepth 100000 in
theorem wd_490 : (Jvm.Cond.static yL_point) ∈ am_WS := am_in (am_tb3 (List.mem_of_getElem? (i := 10) rfl)) (by decide +kernel)
set_option maxRecDepth 100000 in
theorem wd_491 : (Jvm.Cond.codeWith yL_point method_8_code (3 : Nat) (Option.some Jvm.ClassFile.FieldType.int) [((0 : Nat), (5 : Nat), (6 : Nat), (25 : Nat))]) ∈ am_WS := am_in (am_tb3 (List.mem_of_getElem? (i := 11) rfl)) (by decide +kernel)
set_option maxRecDepth 100000 in
theorem wd_492 : (Jvm.Cond.methodLink "LeadlightHallLaw" (39 : Nat) yX7_point) ∈ am_WS := am_in (am_tb3 (List.mem_of_getElem? (i := 12) rfl)) (by decide +kernel)
set_option maxRecDepth 100000 in
theorem wd_493 : (Jvm.Cond.instanceMethod yX7_point) ∈ am_WS := am_in (am_tb3 (List.mem_of_getElem? (i := 13) rfl)) (by decide +kernel)
set_option maxRecDepth 100000 in
theorem wd_494 : (Jvm.Cond.selects "LeadlightHall" yX7_point yX7_point) ∈ am_WS := am_in (am_tb3 (List.mem_of_getElem? (i := 14) rfl)) (by decide +kernel)
set_option maxRecDepth 100000 in
theorem wd_495 : (Jvm.Cond.code yX7_point prog_1_method_7_code (2 : Nat) (Option.some Jvm.ClassFile.FieldType.int)) ∈ am_WS := am_in (am_tb3 (List.mem_of_getElem? (i := 15) rfl)) (by decide +kernel)
set_option maxRecDepth 100000 in
theorem wd_496 : (Jvm.Cond.methodLink "LeadlightHall" (136 : Nat) yX3_longestNarrow) ∈ am_WS := am_in (am_tb3 (List.mem_of_getElem? (i := 16) rfl)) (by decide +kernel)
set_option maxRecDepth 100000 in
theorem wd_497 : (Jvm.Cond.instanceMethod yX3_longestNarrow) ∈ am_WS := am_in (am_tb3 (List.mem_of_getElem? (i := 17) rfl)) (by decide +kernel)
set_option maxRecDepth 100000 in
theorem wd_498 : (Jvm.Cond.selects "LeadlightHall$Shape" yX3_longestNarrow yX3_longestNarrow) ∈ am_WS := am_in (am_tb3 (List.mem_of_getElem? (i := 18) rfl)) (by decide +kernel)
set_option maxRecDepth 100000 in
theorem wd_499 : (Jvm.Cond.code yX3_longestNarrow prog_5_method_11_code (3 : Nat) (Option.some Jvm.ClassFile.FieldType.int)) ∈ am_WS := am_in (am_tb3 (List.mem_of_getElem? (i := 19) rfl)) (by decide +kernel)
set_option maxRecDepth 100000 in
theorem wd_5 : (Jvm.Cond.initialized "LeadlightHall$YearSet") ∈ am_WS := am_in (am_tb1 (List.mem_of_getElem? (i := 5) rfl)) (by decide +kernel)
set_option maxRecDepth 100000 in
theorem wd_50 : (Jvm.Cond.fieldLink "LeadlightHall$Frame" (18 : Nat) "LeadlightHall$Frame" "wind" "I") ∈ am_WS := am_in (am_tb1 (List.mem_of_getElem? (i := 50) rfl)) (by decide +kernel)
set_option maxRecDepth 100000 in
theorem wd_500 : (Jvm.Cond.methodLink "LeadlightHall$Shape" (45 : Nat) yX3_narrowInRow) ∈ am_WS := am_in (am_tb3 (List.mem_of_getElem? (i := 20) rfl)) (by decide +kernel)
set_option maxRecDepth 100000 in
theorem wd_502 : (Jvm.Cond.instanceMethod yX3_narrowInRow) ∈ am_WS := am_in (am_tb3 (List.mem_of_getElem? (i := 22) rfl)) (by decide +kernel)
set_option maxRecDepth 100000 in
theorem wd_503 : (Jvm.Cond.code yX3_narrowInRow prog_5_method_12_code (2 : Nat) (Option.some Jvm.ClassFile.FieldType.int)) ∈ am_WS := am_in (am_tb3 (List.mem_of_getElem? (i := 23) rfl)) (by decide +kernel)
set_option maxRecDepth 100000 in
theorem wd_504 : (Jvm.Cond.methodLink "LeadlightHall$Shape" (60 : Nat) yX3_row) ∈ am_WS := am_in (am_tb3 (List.mem_of_getElem? (i := 24) rfl)) (by decide +kernel)
set_option maxRecDepth 100000 in
theorem wd_505 : (Jvm.Cond.instanceMethod yX3_row) ∈ am_WS := am_in (am_tb3 (List.mem_of_getElem? (i := 25) rfl)) (by decide +kernel)
set_option maxRecDepth 100000 in
theorem wd_506 : (Jvm.Cond.selects "LeadlightHall$Shape" yX3_row yX3_row) ∈ am_WS := am_in (am_tb3 (List.mem_of_getElem? (i := 26) rfl)) (by decide +kernel)
set_option maxRecDepth 100000 in
theorem wd_507 : (Jvm.Cond.code yX3_row prog_5_method_5_code (2 : Nat) (Option.some Jvm.ClassFile.FieldType.int)) ∈ am_WS := am_in (am_tb3 (List.mem_of_getElem? (i := 27) rfl)) (by decide +kernel)
set_option maxRecDepth 100000 in
theorem wd_508 : (Jvm.Cond.methodLink "LeadlightHall$Shape" (48 : Nat) yX3_longestRun) ∈ am_WS := am_in (am_tb3 (List.mem_of_getElem? (i := 28) rfl)) (by decide +kernel)
set_option maxRecDepth 100000 in
theorem wd_509 : (Jvm.Cond.static yX3_longestRun) ∈ am_WS := am_in (am_tb3 (List.mem_of_getElem? (i := 29) rfl)) (by decide +kernel)
set_option maxRecDepth 100000 in
theorem wd_510 : (Jvm.Cond.code yX3_longestRun prog_5_method_14_code (4 : Nat) (Option.some Jvm.ClassFile.FieldType.int)) ∈ am_WS := am_in (am_tb3 (List.mem_of_getElem? (i := 30) rfl)) (by decide +kernel)
set_option maxRecDepth 100000 in
theorem wd_511 : (Jvm.Cond.methodLink "LeadlightHall$Shape" (51 : Nat) yJ9_max_7cf53) ∈ am_WS := am_in (am_tb3 (List.mem_of_getElem? (i := 31) rfl)) (by decide +kernel)
set_option maxRecDepth 100000 in
theorem wd_512 : (Jvm.Cond.static yJ9_max_7cf53) ∈ am_WS := am_in (am_tb3 (List.mem_of_getElem? (i := 32) rfl)) (by decide +kernel)
set_option maxRecDepth 100000 in
theorem wd_513 : (Jvm.Cond.code yJ9_max_7cf53 prog_17_method_65_code (2 : Nat) (Option.some Jvm.ClassFile.FieldType.int)) ∈ am_WS := am_in (am_tb3 (List.mem_of_getElem? (i := 33) rfl)) (by decide +kernel)
set_option maxRecDepth 100000 in
theorem wd_514 : (Jvm.Cond.methodLink "LeadlightHall$Shape" (57 : Nat) yX3_narrowInColumn) ∈ am_WS := am_in (am_tb3 (List.mem_of_getElem? (i := 34) rfl)) (by decide +kernel)
set_option maxRecDepth 100000 in
theorem wd_516 : (Jvm.Cond.instanceMethod yX3_narrowInColumn) ∈ am_WS := am_in (am_tb3 (List.mem_of_getElem? (i := 36) rfl)) (by decide +kernel)
set_option maxRecDepth 100000 in
theorem wd_517 : (Jvm.Cond.code yX3_narrowInColumn prog_5_method_13_code (4 : Nat) (Option.some Jvm.ClassFile.FieldType.int)) ∈ am_WS := am_in (am_tb3 (List.mem_of_getElem? (i := 37) rfl)) (by decide +kernel)
set_option maxRecDepth 100000 in
theorem wd_518 : (Jvm.Cond.methodLink "LeadlightHall$Shape" (63 : Nat) yX3_has) ∈ am_WS := am_in (am_tb3 (List.mem_of_getElem? (i := 38) rfl)) (by decide +kernel)
set_option maxRecDepth 100000 in
theorem wd_519 : (Jvm.Cond.instanceMethod yX3_has) ∈ am_WS := am_in (am_tb3 (List.mem_of_getElem? (i := 39) rfl)) (by decide +kernel)
set_option maxRecDepth 100000 in
theorem wd_520 : (Jvm.Cond.selects "LeadlightHall$Shape" yX3_has yX3_has) ∈ am_WS := am_in (am_tb3 (List.mem_of_getElem? (i := 40) rfl)) (by decide +kernel)
set_option maxRecDepth 100000 in
theorem wd_521 : (Jvm.Cond.code yX3_has prog_5_method_4_code (3 : Nat) (Option.some Jvm.ClassFile.FieldType.boolean)) ∈ am_WS := am_in (am_tb3 (List.mem_of_getElem? (i := 41) rfl)) (by decide +kernel)
set_option maxRecDepth 100000 in
theorem wd_522 : (Jvm.Cond.methodLink "LeadlightHallLaw" (92 : Nat) yL_hinders) ∈ am_WS := am_in (am_tb3 (List.mem_of_getElem? (i := 42) rfl)) (by decide +kernel)
set_option maxRecDepth 100000 in
theorem wd_523 : (Jvm.Cond.static yL_hinders) ∈ am_WS := am_in (am_tb3 (List.mem_of_getElem? (i := 43) rfl)) (by decide +kernel)
set_option maxRecDepth 100000 in
theorem wd_524 : (Jvm.Cond.codeWith yL_hinders method_9_code (3 : Nat) (Option.some Jvm.ClassFile.FieldType.int) [((0 : Nat), (5 : Nat), (6 : Nat), (25 : Nat))]) ∈ am_WS := am_in (am_tb3 (List.mem_of_getElem? (i := 44) rfl)) (by decide +kernel)
set_option maxRecDepth 100000 in
theorem wd_525 : (Jvm.Cond.methodLink "LeadlightHallLaw" (42 : Nat) yX7_hinders) ∈ am_WS := am_in (am_tb3 (List.mem_of_getElem? (i := 45) rfl)) (by decide +kernel)
set_option maxRecDepth 100000 in
theorem wd_526 : (Jvm.Cond.instanceMethod yX7_hinders) ∈ am_WS := am_in (am_tb3 (List.mem_of_getElem? (i := 46) rfl)) (by decide +kernel)
set_option maxRecDepth 100000 in
theorem wd_527 : (Jvm.Cond.selects "LeadlightHall" yX7_hinders yX7_hinders) ∈ am_WS := am_in (am_tb3 (List.mem_of_getElem? (i := 47) rfl)) (by decide +kernel)
set_option maxRecDepth 100000 in
theorem wd_528 : (Jvm.Cond.code yX7_hinders prog_1_method_8_code (2 : Nat) (Option.some Jvm.ClassFile.FieldType.char)) ∈ am_WS := am_in (am_tb3 (List.mem_of_getElem? (i := 48) rfl)) (by decide +kernel)
set_option maxRecDepth 100000 in
theorem wd_529 : (Jvm.Cond.methodLink "LeadlightHall" (139 : Nat) yX3_hindrance) ∈ am_WS := am_in (am_tb3 (List.mem_of_getElem? (i := 49) rfl)) (by decide +kernel)
set_option maxRecDepth 100000 in
theorem wd_530 : (Jvm.Cond.instanceMethod yX3_hindrance) ∈ am_WS := am_in (am_tb3 (List.mem_of_getElem? (i := 50) rfl)) (by decide +kernel)
set_option maxRecDepth 100000 in
theorem wd_531 : (Jvm.Cond.selects "LeadlightHall$Shape" yX3_hindrance yX3_hindrance) ∈ am_WS := am_in (am_tb3 (List.mem_of_getElem? (i := 51) rfl)) (by decide +kernel)
set_option maxRecDepth 100000 in
theorem wd_532 : (Jvm.Cond.code yX3_hindrance prog_5_method_7_code (1 : Nat) (Option.some Jvm.ClassFile.FieldType.char)) ∈ am_WS := am_in (am_tb3 (List.mem_of_getElem? (i := 52) rfl)) (by decide +kernel)
set_option maxRecDepth 100000 in
theorem wd_533 : (Jvm.Cond.methodLink "LeadlightHall$Shape" (28 : Nat) yX3_cellCount) ∈ am_WS := am_in (am_tb3 (List.mem_of_getElem? (i := 53) rfl)) (by decide +kernel)
set_option maxRecDepth 100000 in
theorem wd_534 : (Jvm.Cond.instanceMethod yX3_cellCount) ∈ am_WS := am_in (am_tb3 (List.mem_of_getElem? (i := 54) rfl)) (by decide +kernel)
set_option maxRecDepth 100000 in
theorem wd_535 : (Jvm.Cond.selects "LeadlightHall$Shape" yX3_cellCount yX3_cellCount) ∈ am_WS := am_in (am_tb3 (List.mem_of_getElem? (i := 55) rfl)) (by decide +kernel)
set_option maxRecDepth 100000 in
theorem wd_536 : (Jvm.Cond.code yX3_cellCount prog_5_method_6_code (3 : Nat) (Option.some Jvm.ClassFile.FieldType.int)) ∈ am_WS := am_in (am_tb3 (List.mem_of_getElem? (i := 56) rfl)) (by decide +kernel)
set_option maxRecDepth 100000 in
theorem wd_537 : (Jvm.Cond.methodLink "LeadlightHall$Shape" (32 : Nat) yX3_isWhole) ∈ am_WS := am_in (am_tb3 (List.mem_of_getElem? (i := 57) rfl)) (by decide +kernel)
set_option maxRecDepth 100000 in
theorem wd_538 : (Jvm.Cond.methodLink "LeadlightHall$Shape" (36 : Nat) yX3_innerCorners) ∈ am_WS := am_in (am_tb3 (List.mem_of_getElem? (i := 58) rfl)) (by decide +kernel)
set_option maxRecDepth 100000 in
theorem wd_539 : (Jvm.Cond.methodLink "LeadlightHall$Shape" (39 : Nat) yX3_longestNarrow) ∈ am_WS := am_in (am_tb3 (List.mem_of_getElem? (i := 59) rfl)) (by decide +kernel)
set_option maxRecDepth 100000 in
theorem wd_540 : (Jvm.Cond.methodLink "LeadlightHallLaw" (94 : Nat) yL_split) ∈ am_WS := am_in (am_tb3 (List.mem_of_getElem? (i := 60) rfl)) (by decide +kernel)
set_option maxRecDepth 100000 in
theorem wd_541 : (Jvm.Cond.static yL_split) ∈ am_WS := am_in (am_tb3 (List.mem_of_getElem? (i := 61) rfl)) (by decide +kernel)
set_option maxRecDepth 100000 in
theorem wd_542 : (Jvm.Cond.codeWith yL_split method_10_code (3 : Nat) (Option.some Jvm.ClassFile.FieldType.int) [((0 : Nat), (5 : Nat), (6 : Nat), (25 : Nat)), ((0 : Nat), (5 : Nat), (10 : Nat), (18 : Nat)), ((0 : Nat), (5 : Nat), (14 : Nat), (49 : Nat))]) ∈ am_WS := am_in (am_tb3 (List.mem_of_getElem? (i := 62) rfl)) (by decide +kernel)
set_option maxRecDepth 100000 in
theorem wd_543 : (Jvm.Cond.classLink "LeadlightHallLaw" (49 : Nat) "java/lang/IllegalStateException") ∈ am_WS := am_in (am_tb3 (List.mem_of_getElem? (i := 63) rfl)) (by decide +kernel)
set_option maxRecDepth 100000 in
theorem wd_544 : (Jvm.Cond.methodLink "LeadlightHallLaw" (46 : Nat) yX7_split) ∈ am_WS := am_in (am_tb3 (List.mem_of_getElem? (i := 64) rfl)) (by decide +kernel)
set_option maxRecDepth 100000 in
theorem wd_545 : (Jvm.Cond.instanceMethod yX7_split) ∈ am_WS := am_in (am_tb3 (List.mem_of_getElem? (i := 65) rfl)) (by decide +kernel)
set_option maxRecDepth 100000 in
theorem wd_546 : (Jvm.Cond.selects "LeadlightHall" yX7_split yX7_split) ∈ am_WS := am_in (am_tb3 (List.mem_of_getElem? (i := 66) rfl)) (by decide +kernel)
set_option maxRecDepth 100000 in
theorem wd_547 : (Jvm.Cond.code yX7_split prog_1_method_9_code (4 : Nat) (Option.some Jvm.ClassFile.FieldType.int)) ∈ am_WS := am_in (am_tb3 (List.mem_of_getElem? (i := 67) rfl)) (by decide +kernel)
set_option maxRecDepth 100000 in
theorem wd_548 : (Jvm.Cond.methodLink "LeadlightHall" (143 : Nat) yX3_bestLead) ∈ am_WS := am_in (am_tb3 (List.mem_of_getElem? (i := 68) rfl)) (by decide +kernel)
set_option maxRecDepth 100000 in
theorem wd_549 : (Jvm.Cond.instanceMethod yX3_bestLead) ∈ am_WS := am_in (am_tb3 (List.mem_of_getElem? (i := 69) rfl)) (by decide +kernel)
set_option maxRecDepth 100000 in
theorem wd_550 : (Jvm.Cond.selects "LeadlightHall$Shape" yX3_bestLead yX3_bestLead) ∈ am_WS := am_in (am_tb3 (List.mem_of_getElem? (i := 70) rfl)) (by decide +kernel)
set_option maxRecDepth 100000 in
theorem wd_551 : (Jvm.Cond.code yX3_bestLead prog_5_method_15_code (6 : Nat) (Option.some Jvm.ClassFile.FieldType.int)) ∈ am_WS := am_in (am_tb3 (List.mem_of_getElem? (i := 71) rfl)) (by decide +kernel)
set_option maxRecDepth 100000 in
theorem wd_552 : (Jvm.Cond.methodLink "LeadlightHall$Shape" (66 : Nat) yX3_partBy) ∈ am_WS := am_in (am_tb3 (List.mem_of_getElem? (i := 72) rfl)) (by decide +kernel)
set_option maxRecDepth 100000 in
theorem wd_553 : (Jvm.Cond.instanceMethod yX3_partBy) ∈ am_WS := am_in (am_tb3 (List.mem_of_getElem? (i := 73) rfl)) (by decide +kernel)
set_option maxRecDepth 100000 in
theorem wd_554 : (Jvm.Cond.selects "LeadlightHall$Shape" yX3_partBy yX3_partBy) ∈ am_WS := am_in (am_tb3 (List.mem_of_getElem? (i := 74) rfl)) (by decide +kernel)
set_option maxRecDepth 100000 in
theorem wd_555 : (Jvm.Cond.code yX3_partBy prog_5_method_16_code (6 : Nat) (Option.none : Option Jvm.ClassFile.FieldType)) ∈ am_WS := am_in (am_tb3 (List.mem_of_getElem? (i := 75) rfl)) (by decide +kernel)
set_option maxRecDepth 100000 in
theorem wd_556 : (Jvm.Cond.methodLink "LeadlightHall$Shape" (70 : Nat) yX3_hindrance) ∈ am_WS := am_in (am_tb3 (List.mem_of_getElem? (i := 76) rfl)) (by decide +kernel)
set_option maxRecDepth 100000 in
theorem wd_557 : (Jvm.Cond.methodLink "LeadlightHall$Shape" (74 : Nat) yX3_touchesOver) ∈ am_WS := am_in (am_tb3 (List.mem_of_getElem? (i := 77) rfl)) (by decide +kernel)
set_option maxRecDepth 100000 in
theorem wd_559 : (Jvm.Cond.instanceMethod yX3_touchesOver) ∈ am_WS := am_in (am_tb3 (List.mem_of_getElem? (i := 79) rfl)) (by decide +kernel)
set_option maxRecDepth 100000 in
theorem wd_560 : (Jvm.Cond.code yX3_touchesOver prog_5_method_17_code (4 : Nat) (Option.some Jvm.ClassFile.FieldType.int)) ∈ am_WS := am_in (am_tb3 (List.mem_of_getElem? (i := 80) rfl)) (by decide +kernel)
set_option maxRecDepth 100000 in
theorem wd_562 : (Jvm.Cond.methodLink "LeadlightHall" (149 : Nat) yX7_lowestWithoutCells) ∈ am_WS := am_in (am_tb3 (List.mem_of_getElem? (i := 82) rfl)) (by decide +kernel)
set_option maxRecDepth 100000 in
theorem wd_564 : (Jvm.Cond.instanceMethod yX7_lowestWithoutCells) ∈ am_WS := am_in (am_tb3 (List.mem_of_getElem? (i := 84) rfl)) (by decide +kernel)
set_option maxRecDepth 100000 in
theorem wd_565 : (Jvm.Cond.code yX7_lowestWithoutCells prog_1_method_59_code (3 : Nat) (Option.some Jvm.ClassFile.FieldType.int)) ∈ am_WS := am_in (am_tb3 (List.mem_of_getElem? (i := 85) rfl)) (by decide +kernel)
set_option maxRecDepth 100000 in
theorem wd_566 : (Jvm.Cond.classLink "LeadlightHall" (152 : Nat) "java/lang/IllegalStateException") ∈ am_WS := am_in (am_tb3 (List.mem_of_getElem? (i := 86) rfl)) (by decide +kernel)
set_option maxRecDepth 100000 in
theorem wd_58 : (Jvm.Cond.classLink "LeadlightHall" (58 : Nat) "LeadlightHall$Shape") ∈ am_WS := am_in (am_tb1 (List.mem_of_getElem? (i := 58) rfl)) (by decide +kernel)
set_option maxRecDepth 100000 in
theorem wd_582 : (Jvm.Cond.methodLink "LeadlightHall" (157 : Nat) yX3_partBy) ∈ am_WS := am_in (am_tb3 (List.mem_of_getElem? (i := 102) rfl)) (by decide +kernel)
set_option maxRecDepth 100000 in
theorem wd_583 : (Jvm.Cond.methodLink "LeadlightHall" (161 : Nat) yX5_putShape) ∈ am_WS := am_in (am_tb3 (List.mem_of_getElem? (i := 103) rfl)) (by decide +kernel)
set_option maxRecDepth 100000 in
theorem wd_584 : (Jvm.Cond.instanceMethod yX5_putShape) ∈ am_WS := am_in (am_tb3 (List.mem_of_getElem? (i := 104) rfl)) (by decide +kernel)
set_option maxRecDepth 100000 in
theorem wd_585 : (Jvm.Cond.selects "LeadlightHall$Wall" yX5_putShape yX5_putShape) ∈ am_WS := am_in (am_tb3 (List.mem_of_getElem? (i := 105) rfl)) (by decide +kernel)
set_option maxRecDepth 100000 in
theorem wd_586 : (Jvm.Cond.code yX5_putShape prog_7_method_4_code (5 : Nat) (Option.none : Option Jvm.ClassFile.FieldType)) ∈ am_WS := am_in (am_tb3 (List.mem_of_getElem? (i := 106) rfl)) (by decide +kernel)
set_option maxRecDepth 100000 in
theorem wd_587 : (Jvm.Cond.methodLink "LeadlightHall$Wall" (19 : Nat) yX3_has) ∈ am_WS := am_in (am_tb3 (List.mem_of_getElem? (i := 107) rfl)) (by decide +kernel)
set_option maxRecDepth 100000 in
theorem wd_588 : (Jvm.Cond.methodLink "LeadlightHall$Wall" (24 : Nat) yX5_put) ∈ am_WS := am_in (am_tb3 (List.mem_of_getElem? (i := 108) rfl)) (by decide +kernel)
set_option maxRecDepth 100000 in
theorem wd_589 : (Jvm.Cond.methodLink "LeadlightHall" (165 : Nat) yX2_wantLike) ∈ am_WS := am_in (am_tb3 (List.mem_of_getElem? (i := 109) rfl)) (by decide +kernel)
set_option maxRecDepth 100000 in
theorem wd_59 : (Jvm.Cond.instantiable "LeadlightHall$Shape" (2 : Nat)) ∈ am_WS := am_in (am_tb1 (List.mem_of_getElem? (i := 59) rfl)) (by decide +kernel)
set_option maxRecDepth 100000 in
theorem wd_590 : (Jvm.Cond.instanceMethod yX2_wantLike) ∈ am_WS := am_in (am_tb3 (List.mem_of_getElem? (i := 110) rfl)) (by decide +kernel)
set_option maxRecDepth 100000 in
theorem wd_591 : (Jvm.Cond.selects "LeadlightHall$Pane" yX2_wantLike yX2_wantLike) ∈ am_WS := am_in (am_tb3 (List.mem_of_getElem? (i := 111) rfl)) (by decide +kernel)
set_option maxRecDepth 100000 in
theorem wd_592 : (Jvm.Cond.code yX2_wantLike prog_4_method_4_code (2 : Nat) (Option.none : Option Jvm.ClassFile.FieldType)) ∈ am_WS := am_in (am_tb3 (List.mem_of_getElem? (i := 112) rfl)) (by decide +kernel)
set_option maxRecDepth 100000 in
theorem wd_593 : (Jvm.Cond.methodLink "LeadlightHallLaw" (73 : Nat) yL_in) ∈ am_WS := am_in (am_tb3 (List.mem_of_getElem? (i := 113) rfl)) (by decide +kernel)
set_option maxRecDepth 100000 in
theorem wd_594 : (Jvm.Cond.static yL_in) ∈ am_WS := am_in (am_tb3 (List.mem_of_getElem? (i := 114) rfl)) (by decide +kernel)
set_option maxRecDepth 100000 in
theorem wd_595 : (Jvm.Cond.code yL_in method_11_code (3 : Nat) (Option.some Jvm.ClassFile.FieldType.int)) ∈ am_WS := am_in (am_tb3 (List.mem_of_getElem? (i := 115) rfl)) (by decide +kernel)
set_option maxRecDepth 100000 in
theorem wd_596 : (Jvm.Cond.methodLink "LeadlightHallLaw" (51 : Nat) yL_cell) ∈ am_WS := am_in (am_tb3 (List.mem_of_getElem? (i := 116) rfl)) (by decide +kernel)
set_option maxRecDepth 100000 in
theorem wd_597 : (Jvm.Cond.static yL_cell) ∈ am_WS := am_in (am_tb3 (List.mem_of_getElem? (i := 117) rfl)) (by decide +kernel)
set_option maxRecDepth 100000 in
theorem wd_598 : (Jvm.Cond.code yL_cell method_2_code (3 : Nat) (Option.some Jvm.ClassFile.FieldType.int)) ∈ am_WS := am_in (am_tb3 (List.mem_of_getElem? (i := 118) rfl)) (by decide +kernel)
set_option maxRecDepth 100000 in
theorem wd_599 : (Jvm.Cond.constant "LeadlightHallLaw" (7 : Nat) (69069 : Int32)) ∈ am_WS := am_in (am_tb3 (List.mem_of_getElem? (i := 119) rfl)) (by decide +kernel)
set_option maxRecDepth 100000 in
theorem wd_6 : (Jvm.Cond.initialized "LeadlightHall$Pane") ∈ am_WS := am_in (am_tb1 (List.mem_of_getElem? (i := 6) rfl)) (by decide +kernel)
set_option maxRecDepth 100000 in
theorem wd_600 : (Jvm.Cond.constant "LeadlightHallLaw" (8 : Nat) (1103515245 : Int32)) ∈ am_WS := am_in (am_tb3 (List.mem_of_getElem? (i := 120) rfl)) (by decide +kernel)
set_option maxRecDepth 100000 in
theorem wd_601 : (Jvm.Cond.constant "LeadlightHallLaw" (57 : Nat) (2147483647 : Int32)) ∈ am_WS := am_in (am_tb3 (List.mem_of_getElem? (i := 121) rfl)) (by decide +kernel)
set_option maxRecDepth 100000 in
theorem wd_602 : (Jvm.Cond.methodLink "LeadlightHallLaw" (77 : Nat) yL_at) ∈ am_WS := am_in (am_tb3 (List.mem_of_getElem? (i := 122) rfl)) (by decide +kernel)
set_option maxRecDepth 100000 in
theorem wd_603 : (Jvm.Cond.static yL_at) ∈ am_WS := am_in (am_tb3 (List.mem_of_getElem? (i := 123) rfl)) (by decide +kernel)
set_option maxRecDepth 100000 in
theorem wd_604 : (Jvm.Cond.code yL_at method_12_code (3 : Nat) (Option.some Jvm.ClassFile.FieldType.int)) ∈ am_WS := am_in (am_tb3 (List.mem_of_getElem? (i := 124) rfl)) (by decide +kernel)
set_option maxRecDepth 100000 in
theorem wd_605 : (Jvm.Cond.classLink "LeadlightHallLaw" (59 : Nat) "[[I") ∈ am_WS := am_in (am_tb3 (List.mem_of_getElem? (i := 125) rfl)) (by decide +kernel)
set_option maxRecDepth 100000 in
theorem wd_607 : (Jvm.Cond.constantDouble "LeadlightHallLaw" (100 : Nat) (4611686018427387904 : UInt64)) ∈ am_WS := am_in (am_tb3 (List.mem_of_getElem? (i := 127) rfl)) (by decide +kernel)
set_option maxRecDepth 100000 in
theorem wd_61 : (Jvm.Cond.instanceMethod yX3_init) ∈ am_WS := am_in (am_tb1 (List.mem_of_getElem? (i := 61) rfl)) (by decide +kernel)
set_option maxRecDepth 100000 in
theorem wd_62 : (Jvm.Cond.code yX3_init prog_5_method_1_code (1 : Nat) (Option.none : Option Jvm.ClassFile.FieldType)) ∈ am_WS := am_in (am_tb1 (List.mem_of_getElem? (i := 62) rfl)) (by decide +kernel)
set_option maxRecDepth 100000 in
theorem wd_63 : (Jvm.Cond.methodLink "LeadlightHall$Shape" (3 : Nat) ({ cls := "java/lang/Object", name := "<init>", desc := "()V" } : Jvm.MethodName)) ∈ am_WS := am_in (am_tb1 (List.mem_of_getElem? (i := 63) rfl)) (by decide +kernel)
set_option maxRecDepth 100000 in
theorem wd_64 : (Jvm.Cond.fieldLink "LeadlightHall$Shape" (9 : Nat) "LeadlightHall$Shape" "rows" "[I") ∈ am_WS := am_in (am_tb1 (List.mem_of_getElem? (i := 64) rfl)) (by decide +kernel)
set_option maxRecDepth 100000 in
theorem wd_65 : (Jvm.Cond.fieldLink "LeadlightHall$Shape" (15 : Nat) "LeadlightHall$Shape" "reached" "[I") ∈ am_WS := am_in (am_tb1 (List.mem_of_getElem? (i := 65) rfl)) (by decide +kernel)
set_option maxRecDepth 100000 in
theorem wd_7 : (Jvm.Cond.initialized "LeadlightHall$Paint") ∈ am_WS := am_in (am_tb1 (List.mem_of_getElem? (i := 7) rfl)) (by decide +kernel)
set_option maxRecDepth 100000 in
theorem wd_71 : (Jvm.Cond.classLink "LeadlightHall" (75 : Nat) "LeadlightHall$YearSet") ∈ am_WS := am_in (am_tb1 (List.mem_of_getElem? (i := 71) rfl)) (by decide +kernel)
set_option maxRecDepth 100000 in
theorem wd_72 : (Jvm.Cond.instantiable "LeadlightHall$YearSet" (1 : Nat)) ∈ am_WS := am_in (am_tb1 (List.mem_of_getElem? (i := 72) rfl)) (by decide +kernel)
set_option maxRecDepth 100000 in
theorem wd_74 : (Jvm.Cond.instanceMethod yX6_init) ∈ am_WS := am_in (am_tb1 (List.mem_of_getElem? (i := 74) rfl)) (by decide +kernel)
set_option maxRecDepth 100000 in
theorem wd_75 : (Jvm.Cond.code yX6_init prog_8_method_1_code (1 : Nat) (Option.none : Option Jvm.ClassFile.FieldType)) ∈ am_WS := am_in (am_tb1 (List.mem_of_getElem? (i := 75) rfl)) (by decide +kernel)
set_option maxRecDepth 100000 in
theorem wd_76 : (Jvm.Cond.methodLink "LeadlightHall$YearSet" (3 : Nat) ({ cls := "java/lang/Object", name := "<init>", desc := "()V" } : Jvm.MethodName)) ∈ am_WS := am_in (am_tb1 (List.mem_of_getElem? (i := 76) rfl)) (by decide +kernel)
set_option maxRecDepth 100000 in
theorem wd_77 : (Jvm.Cond.fieldLink "LeadlightHall$YearSet" (11 : Nat) "LeadlightHall$YearSet" "words" "[J") ∈ am_WS := am_in (am_tb1 (List.mem_of_getElem? (i := 77) rfl)) (by decide +kernel)
set_option maxRecDepth 100000 in
theorem wd_8 : (Jvm.Cond.initialized "LeadlightHall$Sheet") ∈ am_WS := am_in (am_tb1 (List.mem_of_getElem? (i := 8) rfl)) (by decide +kernel)
set_option maxRecDepth 100000 in
theorem wd_81 : (Jvm.Cond.arrayClass Jvm.ClassFile.FieldType.long) ∈ am_WS := am_in (am_tb1 (List.mem_of_getElem? (i := 81) rfl)) (by decide +kernel)
set_option maxRecDepth 100000 in
theorem wd_82 : (Jvm.Cond.instantiable "LeadlightHall$Pane" (7 : Nat)) ∈ am_WS := am_in (am_tb1 (List.mem_of_getElem? (i := 82) rfl)) (by decide +kernel)
set_option maxRecDepth 100000 in
theorem wd_84 : (Jvm.Cond.instanceMethod yX2_init) ∈ am_WS := am_in (am_tb1 (List.mem_of_getElem? (i := 84) rfl)) (by decide +kernel)
set_option maxRecDepth 100000 in
theorem wd_85 : (Jvm.Cond.code yX2_init prog_4_method_1_code (1 : Nat) (Option.none : Option Jvm.ClassFile.FieldType)) ∈ am_WS := am_in (am_tb1 (List.mem_of_getElem? (i := 85) rfl)) (by decide +kernel)
set_option maxRecDepth 100000 in
theorem wd_86 : (Jvm.Cond.methodLink "LeadlightHall$Pane" (3 : Nat) ({ cls := "java/lang/Object", name := "<init>", desc := "()V" } : Jvm.MethodName)) ∈ am_WS := am_in (am_tb1 (List.mem_of_getElem? (i := 86) rfl)) (by decide +kernel)
set_option maxRecDepth 100000 in
theorem wd_87 : (Jvm.Cond.classLink "LeadlightHall$Pane" (28 : Nat) "LeadlightHall$Paint") ∈ am_WS := am_in (am_tb1 (List.mem_of_getElem? (i := 87) rfl)) (by decide +kernel)
set_option maxRecDepth 100000 in
theorem wd_88 : (Jvm.Cond.instantiable "LeadlightHall$Paint" (2 : Nat)) ∈ am_WS := am_in (am_tb1 (List.mem_of_getElem? (i := 88) rfl)) (by decide +kernel)
set_option maxRecDepth 100000 in
theorem wd_90 : (Jvm.Cond.instanceMethod yX1_init) ∈ am_WS := am_in (am_tb1 (List.mem_of_getElem? (i := 90) rfl)) (by decide +kernel)
set_option maxRecDepth 100000 in
theorem wd_91 : (Jvm.Cond.code yX1_init prog_3_method_1_code (1 : Nat) (Option.none : Option Jvm.ClassFile.FieldType)) ∈ am_WS := am_in (am_tb1 (List.mem_of_getElem? (i := 91) rfl)) (by decide +kernel)
set_option maxRecDepth 100000 in
theorem wd_92 : (Jvm.Cond.methodLink "LeadlightHall$Paint" (1 : Nat) ({ cls := "java/lang/Object", name := "<init>", desc := "()V" } : Jvm.MethodName)) ∈ am_WS := am_in (am_tb1 (List.mem_of_getElem? (i := 92) rfl)) (by decide +kernel)
set_option maxRecDepth 100000 in
theorem wd_93 : (Jvm.Cond.fieldLink "LeadlightHall$Paint" (9 : Nat) "LeadlightHall$Paint" "raw" "[I") ∈ am_WS := am_in (am_tb1 (List.mem_of_getElem? (i := 93) rfl)) (by decide +kernel)
set_option maxRecDepth 100000 in
theorem wd_94 : (Jvm.Cond.fieldLink "LeadlightHall$Paint" (13 : Nat) "LeadlightHall$Paint" "fixed" "[I") ∈ am_WS := am_in (am_tb1 (List.mem_of_getElem? (i := 94) rfl)) (by decide +kernel)
set_option maxRecDepth 100000 in
theorem ps_X3_grow : Cond.selects RX3 yX3_grow yX3_grow ∈ am_WS := am_in (List.mem_append_left _ (by decide +kernel)) rfl
set_option maxRecDepth 100000 in
theorem ps_X3_narrowInColumn : Cond.selects RX3 yX3_narrowInColumn yX3_narrowInColumn ∈ am_WS := am_in (List.mem_append_left _ (by decide +kernel)) rfl
set_option maxRecDepth 100000 in
theorem ps_X3_narrowInRow : Cond.selects RX3 yX3_narrowInRow yX3_narrowInRow ∈ am_WS := am_in (List.mem_append_left _ (by decide +kernel)) rfl
set_option maxRecDepth 100000 in
theorem ps_X3_touchesOver : Cond.selects RX3 yX3_touchesOver yX3_touchesOver ∈ am_WS := am_in (List.mem_append_left _ (by decide +kernel)) rfl
set_option maxRecDepth 100000 in
theorem ps_X7_isCuttable : Cond.selects RX7 yX7_isCuttable yX7_isCuttable ∈ am_WS := am_in (List.mem_append_left _ (by decide +kernel)) rfl
set_option maxRecDepth 100000 in
theorem ps_X7_isGlassWithin : Cond.selects RX7 yX7_isGlassWithin yX7_isGlassWithin ∈ am_WS := am_in (List.mem_append_left _ (by decide +kernel)) rfl
set_option maxRecDepth 100000 in
theorem ps_X7_isOpenWithin : Cond.selects RX7 yX7_isOpenWithin yX7_isOpenWithin ∈ am_WS := am_in (List.mem_append_left _ (by decide +kernel)) rfl
set_option maxRecDepth 100000 in
theorem ps_X7_lowestWithoutCells : Cond.selects RX7 yX7_lowestWithoutCells yX7_lowestWithoutCells ∈ am_WS := am_in (List.mem_append_left _ (by decide +kernel)) rfl
set_option maxRecDepth 100000 in
theorem ps_X7_panesThatAre : Cond.selects RX7 yX7_panesThatAre yX7_panesThatAre ∈ am_WS := am_in (List.mem_append_left _ (by decide +kernel)) rfl
set_option maxRecDepth 100000 in
theorem inw_X0 : ∀ w ∈ u_ws RX0 TX0 3, w ∈ am_WS := by decide +kernel
set_option maxRecDepth 100000 in
theorem inw_X1 : ∀ w ∈ u_ws RX1 TX1 2, w ∈ am_WS := by decide +kernel
set_option maxRecDepth 100000 in
theorem inw_X2 : ∀ w ∈ u_ws RX2 TX2 7, w ∈ am_WS := by decide +kernel
set_option maxRecDepth 100000 in
theorem inw_X3 : ∀ w ∈ u_ws RX3 TX3 2, w ∈ am_WS := by decide +kernel
set_option maxRecDepth 100000 in
theorem inw_X4 : ∀ w ∈ u_ws RX4 TX4 5, w ∈ am_WS := by decide +kernel
set_option maxRecDepth 100000 in
theorem inw_X5 : ∀ w ∈ u_ws RX5 TX5 1, w ∈ am_WS := by decide +kernel
set_option maxRecDepth 100000 in
theorem inw_X6 : ∀ w ∈ u_ws RX6 TX6 1, w ∈ am_WS := by decide +kernel
set_option maxRecDepth 100000 in
theorem inw_X7 : ∀ w ∈ u_ws RX7 TX7 16, w ∈ am_WS := by decide +kernel
set_option maxRecDepth 100000 in
theorem at_191 : ∀ w ∈ vx_atS "LeadlightHall" 191 "java/lang/IllegalArgumentException" ["java/lang/RuntimeException", "java/lang/Exception"], w ∈ am_WS ∨ w ∈ am_NW := by decide +kernel
set_option maxRecDepth 100000 in
theorem at_191_g {w1 w2 : Cond} (h1 : vx_ot w1 = true) (h2 : vx_ot w2 = true) : ∀ w ∈ w1 :: w2 :: vx_atS "LeadlightHall" 191 "java/lang/IllegalArgumentException" ["java/lang/RuntimeException", "java/lang/Exception"], vx_ot w = true := List.forall_mem_cons.mpr ⟨h1, List.forall_mem_cons.mpr ⟨h2, by decide +kernel⟩⟩
set_option maxRecDepth 100000 in
theorem at_96 : ∀ w ∈ vx_atS "LeadlightHall" 96 "java/lang/UnsupportedOperationException" ["java/lang/RuntimeException", "java/lang/Exception"], w ∈ am_WS ∨ w ∈ am_NW := by decide +kernel
set_option maxRecDepth 100000 in
theorem at_96_g {w1 w2 : Cond} (h1 : vx_ot w1 = true) (h2 : vx_ot w2 = true) : ∀ w ∈ w1 :: w2 :: vx_atS "LeadlightHall" 96 "java/lang/UnsupportedOperationException" ["java/lang/RuntimeException", "java/lang/Exception"], vx_ot w = true := List.forall_mem_cons.mpr ⟨h1, List.forall_mem_cons.mpr ⟨h2, by decide +kernel⟩⟩
set_option maxRecDepth 100000 in
theorem at_419 : ∀ w ∈ vx_atS "LeadlightHall" 419 "java/lang/IndexOutOfBoundsException" ["java/lang/RuntimeException", "java/lang/Exception"], w ∈ am_WS ∨ w ∈ am_NW := by decide +kernel
set_option maxRecDepth 100000 in
theorem at_419_g {w1 w2 : Cond} (h1 : vx_ot w1 = true) (h2 : vx_ot w2 = true) : ∀ w ∈ w1 :: w2 :: vx_atS "LeadlightHall" 419 "java/lang/IndexOutOfBoundsException" ["java/lang/RuntimeException", "java/lang/Exception"], vx_ot w = true := List.forall_mem_cons.mpr ⟨h1, List.forall_mem_cons.mpr ⟨h2, by decide +kernel⟩⟩
set_option maxRecDepth 100000 in
theorem at_156 : ∀ w ∈ vx_atS "LeadlightHall" 156 "java/lang/IllegalStateException" ["java/lang/RuntimeException", "java/lang/Exception"], w ∈ am_WS ∨ w ∈ am_NW := by decide +kernel
set_option maxRecDepth 100000 in
theorem at_156_g {w1 w2 : Cond} (h1 : vx_ot w1 = true) (h2 : vx_ot w2 = true) : ∀ w ∈ w1 :: w2 :: vx_atS "LeadlightHall" 156 "java/lang/IllegalStateException" ["java/lang/RuntimeException", "java/lang/Exception"], vx_ot w = true := List.forall_mem_cons.mpr ⟨h1, List.forall_mem_cons.mpr ⟨h2, by decide +kernel⟩⟩
set_option maxRecDepth 100000 in
theorem at_406 : ∀ w ∈ vn_atS "LeadlightHall" 406 "java/util/NoSuchElementException" ["java/lang/RuntimeException", "java/lang/Exception"], w ∈ am_WS ∨ w ∈ am_NW := by decide +kernel
set_option maxRecDepth 100000 in
theorem at_406_g {w1 w2 : Cond} (h1 : vx_ot w1 = true) (h2 : vx_ot w2 = true) : ∀ w ∈ w1 :: w2 :: vn_atS "LeadlightHall" 406 "java/util/NoSuchElementException" ["java/lang/RuntimeException", "java/lang/Exception"], vx_ot w = true := List.forall_mem_cons.mpr ⟨h1, List.forall_mem_cons.mpr ⟨h2, by decide +kernel⟩⟩
theorem oi_inst : Cond.instanceMethod Lib.objectInit ∈ am_WS := am_in (am_tb1 (List.mem_of_getElem? (i := 25) rfl)) (by decide +kernel)
theorem oi_code : Cond.code Lib.objectInit ⟨#[0xb1]⟩ 1 none ∈ am_WS := am_in (am_tb1 (List.mem_of_getElem? (i := 26) rfl)) (by decide +kernel)
theorem cm_max : Cond.code Lib.Math.max.name Lib.Math.max.code 2 (some .int) ∈ am_WS := am_in (am_tb3 (List.mem_of_getElem? (i := 33) rfl)) (by decide +kernel)
