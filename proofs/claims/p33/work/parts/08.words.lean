set_option maxRecDepth 100000 in
theorem wn_110 : (Jvm.Cond.methodLinkNest "LeadlightHall$Pane" (37 : Nat) yX6_init "LeadlightHall") ∈ am_NW := List.mem_filter.mpr ⟨am_t1 (List.mem_of_getElem? (i := 110) rfl), rfl⟩
set_option maxRecDepth 100000 in
theorem wn_112 : (Jvm.Cond.fieldLinkNest "LeadlightHall" (206 : Nat) "LeadlightHall$Pane" "wantedColour" "I" "LeadlightHall") ∈ am_NW := List.mem_filter.mpr ⟨am_t1 (List.mem_of_getElem? (i := 112) rfl), rfl⟩
set_option maxRecDepth 100000 in
theorem wn_114 : (Jvm.Cond.fieldLinkNest "LeadlightHall" (209 : Nat) "LeadlightHall$Pane" "wantedStreaks" "C" "LeadlightHall") ∈ am_NW := List.mem_filter.mpr ⟨am_t1 (List.mem_of_getElem? (i := 114) rfl), rfl⟩
set_option maxRecDepth 100000 in
theorem wn_116 : (Jvm.Cond.fieldLinkNest "LeadlightHall" (247 : Nat) "LeadlightHall$Pane" "state" "C" "LeadlightHall") ∈ am_NW := List.mem_filter.mpr ⟨am_t1 (List.mem_of_getElem? (i := 116) rfl), rfl⟩
set_option maxRecDepth 100000 in
theorem wn_118 : (Jvm.Cond.fieldLinkNest "LeadlightHall" (253 : Nat) "LeadlightHall$Pane" "colour" "I" "LeadlightHall") ∈ am_NW := List.mem_filter.mpr ⟨am_t1 (List.mem_of_getElem? (i := 118) rfl), rfl⟩
set_option maxRecDepth 100000 in
theorem wn_120 : (Jvm.Cond.fieldLinkNest "LeadlightHall" (376 : Nat) "LeadlightHall$Pane" "year" "I" "LeadlightHall") ∈ am_NW := List.mem_filter.mpr ⟨am_t1 (List.mem_of_getElem? (i := 120) rfl), rfl⟩
set_option maxRecDepth 100000 in
theorem wn_122 : (Jvm.Cond.fieldLinkNest "LeadlightHall" (262 : Nat) "LeadlightHall$Pane" "paint" "LLeadlightHall$Paint;" "LeadlightHall") ∈ am_NW := List.mem_filter.mpr ⟨am_t1 (List.mem_of_getElem? (i := 122) rfl), rfl⟩
set_option maxRecDepth 100000 in
theorem wn_124 : (Jvm.Cond.fieldLinkNest "LeadlightHall" (372 : Nat) "LeadlightHall$Pane" "leadYears" "LLeadlightHall$YearSet;" "LeadlightHall") ∈ am_NW := List.mem_filter.mpr ⟨am_t1 (List.mem_of_getElem? (i := 124) rfl), rfl⟩
set_option maxRecDepth 100000 in
theorem wn_141 : (Jvm.Cond.methodLinkNest "LeadlightHall" (83 : Nat) yX4_init "LeadlightHall") ∈ am_NW := List.mem_filter.mpr ⟨am_t1 (List.mem_of_getElem? (i := 141) rfl), rfl⟩
set_option maxRecDepth 100000 in
theorem wn_146 : (Jvm.Cond.fieldLinkNest "LeadlightHall$Pane" (42 : Nat) "LeadlightHall$Sheet" "colour" "I" "LeadlightHall") ∈ am_NW := List.mem_filter.mpr ⟨am_t1 (List.mem_of_getElem? (i := 146) rfl), rfl⟩
set_option maxRecDepth 100000 in
theorem wn_147 : (Jvm.Cond.fieldLinkNest "LeadlightHall" (240 : Nat) "LeadlightHall$Sheet" "colour" "I" "LeadlightHall") ∈ am_NW := List.mem_filter.mpr ⟨am_t1 (List.mem_of_getElem? (i := 147) rfl), rfl⟩
set_option maxRecDepth 100000 in
theorem wn_224 : (Jvm.Cond.methodLinkNest "LeadlightHall$Wall" (15 : Nat) yX7_isInside "LeadlightHall") ∈ am_NW := List.mem_filter.mpr ⟨am_t1 (List.mem_of_getElem? (i := 224) rfl), rfl⟩
set_option maxRecDepth 100000 in
theorem wn_305 : (Jvm.Cond.methodLinkNest "LeadlightHall$YearSet" (15 : Nat) yX7_isWithin "LeadlightHall") ∈ am_NW := List.mem_filter.mpr ⟨am_t2 (List.mem_of_getElem? (i := 65) rfl), rfl⟩
set_option maxRecDepth 100000 in
theorem wn_371 : (Jvm.Cond.methodLinkNest "LeadlightHall$Shape" (18 : Nat) yX7_isInside "LeadlightHall") ∈ am_NW := List.mem_filter.mpr ⟨am_t2 (List.mem_of_getElem? (i := 131) rfl), rfl⟩
set_option maxRecDepth 100000 in
theorem wn_51 : (Jvm.Cond.methodLinkNest "LeadlightHall" (30 : Nat) yX0_init "LeadlightHall") ∈ am_NW := List.mem_filter.mpr ⟨am_t1 (List.mem_of_getElem? (i := 51) rfl), rfl⟩
set_option maxRecDepth 100000 in
theorem wn_57 : (Jvm.Cond.fieldLinkNest "LeadlightHall" (333 : Nat) "LeadlightHall$Frame" "profile" "I" "LeadlightHall") ∈ am_NW := List.mem_filter.mpr ⟨am_t1 (List.mem_of_getElem? (i := 57) rfl), rfl⟩
set_option maxRecDepth 100000 in
theorem wn_59 : (Jvm.Cond.fieldLinkNest "LeadlightHall" (338 : Nat) "LeadlightHall$Frame" "wind" "I" "LeadlightHall") ∈ am_NW := List.mem_filter.mpr ⟨am_t1 (List.mem_of_getElem? (i := 59) rfl), rfl⟩
set_option maxRecDepth 100000 in
theorem wn_69 : (Jvm.Cond.methodLinkNest "LeadlightHall" (60 : Nat) yX3_init "LeadlightHall") ∈ am_NW := List.mem_filter.mpr ⟨am_t1 (List.mem_of_getElem? (i := 69) rfl), rfl⟩
set_option maxRecDepth 100000 in
theorem wn_82 : (Jvm.Cond.methodLinkNest "LeadlightHall" (77 : Nat) yX6_init "LeadlightHall") ∈ am_NW := List.mem_filter.mpr ⟨am_t1 (List.mem_of_getElem? (i := 82) rfl), rfl⟩
set_option maxRecDepth 100000 in
theorem wn_92 : (Jvm.Cond.methodLinkNest "LeadlightHall" (82 : Nat) yX2_init "LeadlightHall") ∈ am_NW := List.mem_filter.mpr ⟨am_t1 (List.mem_of_getElem? (i := 92) rfl), rfl⟩
set_option maxRecDepth 100000 in
theorem wn_98 : (Jvm.Cond.methodLinkNest "LeadlightHall$Pane" (30 : Nat) yX1_init "LeadlightHall") ∈ am_NW := List.mem_filter.mpr ⟨am_t1 (List.mem_of_getElem? (i := 98) rfl), rfl⟩
set_option maxRecDepth 100000 in
theorem wd_1 : (Jvm.Cond.initialized "LeadlightHall") ∈ am_WS := am_in (am_tb1 (List.mem_of_getElem? (i := 1) rfl)) (by decide +kernel)
set_option maxRecDepth 100000 in
theorem wd_100 : (Jvm.Cond.code yX1_init prog_3_method_1_code (1 : Nat) (Option.none : Option Jvm.ClassFile.FieldType)) ∈ am_WS := am_in (am_tb1 (List.mem_of_getElem? (i := 100) rfl)) (by decide +kernel)
set_option maxRecDepth 100000 in
theorem wd_1003 : (Jvm.Cond.code yX7_litShare prog_1_method_42_code (4 : Nat) (Option.some Jvm.ClassFile.FieldType.float)) ∈ am_WS := am_in (am_tb5 (List.mem_of_getElem? (i := 43) rfl)) (by decide +kernel)
set_option maxRecDepth 100000 in
theorem wd_101 : (Jvm.Cond.methodLink "LeadlightHall$Paint" (1 : Nat) ({ cls := "java/lang/Object", name := "<init>", desc := "()V" } : Jvm.MethodName)) ∈ am_WS := am_in (am_tb1 (List.mem_of_getElem? (i := 101) rfl)) (by decide +kernel)
set_option maxRecDepth 100000 in
theorem wd_1010 : (Jvm.Cond.code yX7_meanCells prog_1_method_43_code (3 : Nat) (Option.some Jvm.ClassFile.FieldType.double)) ∈ am_WS := am_in (am_tb5 (List.mem_of_getElem? (i := 50) rfl)) (by decide +kernel)
set_option maxRecDepth 100000 in
theorem wd_102 : (Jvm.Cond.fieldLink "LeadlightHall$Paint" (9 : Nat) "LeadlightHall$Paint" "raw" "[I") ∈ am_WS := am_in (am_tb1 (List.mem_of_getElem? (i := 102) rfl)) (by decide +kernel)
set_option maxRecDepth 100000 in
theorem wd_103 : (Jvm.Cond.fieldLink "LeadlightHall$Paint" (13 : Nat) "LeadlightHall$Paint" "fixed" "[I") ∈ am_WS := am_in (am_tb1 (List.mem_of_getElem? (i := 103) rfl)) (by decide +kernel)
set_option maxRecDepth 100000 in
theorem wd_109 : (Jvm.Cond.classLink "LeadlightHall$Pane" (35 : Nat) "LeadlightHall$YearSet") ∈ am_WS := am_in (am_tb1 (List.mem_of_getElem? (i := 109) rfl)) (by decide +kernel)
set_option maxRecDepth 100000 in
theorem wd_111 : (Jvm.Cond.fieldLink "LeadlightHall$Pane" (9 : Nat) "LeadlightHall$Pane" "wantedColour" "I") ∈ am_WS := am_in (am_tb1 (List.mem_of_getElem? (i := 111) rfl)) (by decide +kernel)
set_option maxRecDepth 100000 in
theorem wd_113 : (Jvm.Cond.fieldLink "LeadlightHall$Pane" (15 : Nat) "LeadlightHall$Pane" "wantedStreaks" "C") ∈ am_WS := am_in (am_tb1 (List.mem_of_getElem? (i := 113) rfl)) (by decide +kernel)
set_option maxRecDepth 100000 in
theorem wd_115 : (Jvm.Cond.fieldLink "LeadlightHall$Pane" (19 : Nat) "LeadlightHall$Pane" "state" "C") ∈ am_WS := am_in (am_tb1 (List.mem_of_getElem? (i := 115) rfl)) (by decide +kernel)
set_option maxRecDepth 100000 in
theorem wd_117 : (Jvm.Cond.fieldLink "LeadlightHall$Pane" (22 : Nat) "LeadlightHall$Pane" "colour" "I") ∈ am_WS := am_in (am_tb1 (List.mem_of_getElem? (i := 117) rfl)) (by decide +kernel)
set_option maxRecDepth 100000 in
theorem wd_119 : (Jvm.Cond.fieldLink "LeadlightHall$Pane" (25 : Nat) "LeadlightHall$Pane" "year" "I") ∈ am_WS := am_in (am_tb1 (List.mem_of_getElem? (i := 119) rfl)) (by decide +kernel)
set_option maxRecDepth 100000 in
theorem wd_121 : (Jvm.Cond.fieldLink "LeadlightHall$Pane" (31 : Nat) "LeadlightHall$Pane" "paint" "LLeadlightHall$Paint;") ∈ am_WS := am_in (am_tb1 (List.mem_of_getElem? (i := 121) rfl)) (by decide +kernel)
set_option maxRecDepth 100000 in
theorem wd_123 : (Jvm.Cond.fieldLink "LeadlightHall$Pane" (38 : Nat) "LeadlightHall$Pane" "leadYears" "LLeadlightHall$YearSet;") ∈ am_WS := am_in (am_tb1 (List.mem_of_getElem? (i := 123) rfl)) (by decide +kernel)
set_option maxRecDepth 100000 in
theorem wd_13 : (Jvm.Cond.initialized "java/lang/IllegalArgumentException") ∈ am_WS := am_in (am_tb1 (List.mem_of_getElem? (i := 13) rfl)) (by decide +kernel)
set_option maxRecDepth 100000 in
theorem wd_14 : (Jvm.Cond.initialized "java/lang/UnsupportedOperationException") ∈ am_WS := am_in (am_tb1 (List.mem_of_getElem? (i := 14) rfl)) (by decide +kernel)
set_option maxRecDepth 100000 in
theorem wd_140 : (Jvm.Cond.instantiable "LeadlightHall$Sheet" (5 : Nat)) ∈ am_WS := am_in (am_tb1 (List.mem_of_getElem? (i := 140) rfl)) (by decide +kernel)
set_option maxRecDepth 100000 in
theorem wd_142 : (Jvm.Cond.instanceMethod yX4_init) ∈ am_WS := am_in (am_tb1 (List.mem_of_getElem? (i := 142) rfl)) (by decide +kernel)
set_option maxRecDepth 100000 in
theorem wd_143 : (Jvm.Cond.code yX4_init prog_6_method_1_code (1 : Nat) (Option.none : Option Jvm.ClassFile.FieldType)) ∈ am_WS := am_in (am_tb1 (List.mem_of_getElem? (i := 143) rfl)) (by decide +kernel)
set_option maxRecDepth 100000 in
theorem wd_144 : (Jvm.Cond.methodLink "LeadlightHall$Sheet" (3 : Nat) ({ cls := "java/lang/Object", name := "<init>", desc := "()V" } : Jvm.MethodName)) ∈ am_WS := am_in (am_tb1 (List.mem_of_getElem? (i := 144) rfl)) (by decide +kernel)
set_option maxRecDepth 100000 in
theorem wd_145 : (Jvm.Cond.fieldLink "LeadlightHall$Sheet" (9 : Nat) "LeadlightHall$Sheet" "colour" "I") ∈ am_WS := am_in (am_tb1 (List.mem_of_getElem? (i := 145) rfl)) (by decide +kernel)
set_option maxRecDepth 100000 in
theorem wd_148 : (Jvm.Cond.fieldLink "LeadlightHall$Sheet" (15 : Nat) "LeadlightHall$Sheet" "width" "I") ∈ am_WS := am_in (am_tb1 (List.mem_of_getElem? (i := 148) rfl)) (by decide +kernel)
set_option maxRecDepth 100000 in
theorem wd_149 : (Jvm.Cond.fieldLink "LeadlightHall$Sheet" (18 : Nat) "LeadlightHall$Sheet" "height" "I") ∈ am_WS := am_in (am_tb1 (List.mem_of_getElem? (i := 149) rfl)) (by decide +kernel)
set_option maxRecDepth 100000 in
theorem wd_15 : (Jvm.Cond.initialized "java/lang/IndexOutOfBoundsException") ∈ am_WS := am_in (am_tb1 (List.mem_of_getElem? (i := 15) rfl)) (by decide +kernel)
set_option maxRecDepth 100000 in
theorem wd_150 : (Jvm.Cond.fieldLink "LeadlightHall$Sheet" (21 : Nat) "LeadlightHall$Sheet" "streaks" "C") ∈ am_WS := am_in (am_tb1 (List.mem_of_getElem? (i := 150) rfl)) (by decide +kernel)
set_option maxRecDepth 100000 in
theorem wd_151 : (Jvm.Cond.fieldLink "LeadlightHall$Sheet" (25 : Nat) "LeadlightHall$Sheet" "used" "[I") ∈ am_WS := am_in (am_tb1 (List.mem_of_getElem? (i := 151) rfl)) (by decide +kernel)
set_option maxRecDepth 100000 in
theorem wd_16 : (Jvm.Cond.initialized "java/lang/Integer") ∈ am_WS := am_in (am_tb1 (List.mem_of_getElem? (i := 16) rfl)) (by decide +kernel)
set_option maxRecDepth 100000 in
theorem wd_163 : (Jvm.Cond.fieldLink "LeadlightHall" (12 : Nat) "LeadlightHall" "wall" "LLeadlightHall$Wall;") ∈ am_WS := am_in (am_tb1 (List.mem_of_getElem? (i := 163) rfl)) (by decide +kernel)
set_option maxRecDepth 100000 in
theorem wd_164 : (Jvm.Cond.fieldLink "LeadlightHall" (18 : Nat) "LeadlightHall" "panes" "[LLeadlightHall$Pane;") ∈ am_WS := am_in (am_tb1 (List.mem_of_getElem? (i := 164) rfl)) (by decide +kernel)
set_option maxRecDepth 100000 in
theorem wd_165 : (Jvm.Cond.fieldLink "LeadlightHall" (24 : Nat) "LeadlightHall" "sheets" "[LLeadlightHall$Sheet;") ∈ am_WS := am_in (am_tb1 (List.mem_of_getElem? (i := 165) rfl)) (by decide +kernel)
set_option maxRecDepth 100000 in
theorem wd_166 : (Jvm.Cond.fieldLink "LeadlightHall" (31 : Nat) "LeadlightHall" "frame" "LLeadlightHall$Frame;") ∈ am_WS := am_in (am_tb1 (List.mem_of_getElem? (i := 166) rfl)) (by decide +kernel)
set_option maxRecDepth 100000 in
theorem wd_167 : (Jvm.Cond.fieldLink "LeadlightHall" (35 : Nat) "LeadlightHall" "sheetCount" "I") ∈ am_WS := am_in (am_tb1 (List.mem_of_getElem? (i := 167) rfl)) (by decide +kernel)
set_option maxRecDepth 100000 in
theorem wd_168 : (Jvm.Cond.fieldLink "LeadlightHall" (39 : Nat) "LeadlightHall" "cellsTaken" "I") ∈ am_WS := am_in (am_tb1 (List.mem_of_getElem? (i := 168) rfl)) (by decide +kernel)
set_option maxRecDepth 100000 in
theorem wd_169 : (Jvm.Cond.fieldLink "LeadlightHall" (42 : Nat) "LeadlightHall" "z" "I") ∈ am_WS := am_in (am_tb1 (List.mem_of_getElem? (i := 169) rfl)) (by decide +kernel)
set_option maxRecDepth 100000 in
theorem wd_17 : (Jvm.Cond.initialized "java/lang/Math") ∈ am_WS := am_in (am_tb1 (List.mem_of_getElem? (i := 17) rfl)) (by decide +kernel)
set_option maxRecDepth 100000 in
theorem wd_170 : (Jvm.Cond.fieldLink "LeadlightHall" (45 : Nat) "LeadlightHall" "isSoldered" "Z") ∈ am_WS := am_in (am_tb1 (List.mem_of_getElem? (i := 170) rfl)) (by decide +kernel)
set_option maxRecDepth 100000 in
theorem wd_171 : (Jvm.Cond.fieldLink "LeadlightHall" (49 : Nat) "LeadlightHall" "upYear" "I") ∈ am_WS := am_in (am_tb1 (List.mem_of_getElem? (i := 171) rfl)) (by decide +kernel)
set_option maxRecDepth 100000 in
theorem wd_172 : (Jvm.Cond.fieldLink "LeadlightHall" (52 : Nat) "LeadlightHall" "now" "I") ∈ am_WS := am_in (am_tb1 (List.mem_of_getElem? (i := 172) rfl)) (by decide +kernel)
set_option maxRecDepth 100000 in
theorem wd_173 : (Jvm.Cond.fieldLink "LeadlightHall" (55 : Nat) "LeadlightHall" "mends" "I") ∈ am_WS := am_in (am_tb1 (List.mem_of_getElem? (i := 173) rfl)) (by decide +kernel)
set_option maxRecDepth 100000 in
theorem wd_174 : (Jvm.Cond.fieldLink "LeadlightHall" (61 : Nat) "LeadlightHall" "shape" "LLeadlightHall$Shape;") ∈ am_WS := am_in (am_tb1 (List.mem_of_getElem? (i := 174) rfl)) (by decide +kernel)
set_option maxRecDepth 100000 in
theorem wd_175 : (Jvm.Cond.fieldLink "LeadlightHall" (65 : Nat) "LeadlightHall" "near" "LLeadlightHall$Shape;") ∈ am_WS := am_in (am_tb1 (List.mem_of_getElem? (i := 175) rfl)) (by decide +kernel)
set_option maxRecDepth 100000 in
theorem wd_176 : (Jvm.Cond.fieldLink "LeadlightHall" (68 : Nat) "LeadlightHall" "far" "LLeadlightHall$Shape;") ∈ am_WS := am_in (am_tb1 (List.mem_of_getElem? (i := 176) rfl)) (by decide +kernel)
set_option maxRecDepth 100000 in
theorem wd_177 : (Jvm.Cond.fieldLink "LeadlightHall" (71 : Nat) "LeadlightHall" "waits" "[I") ∈ am_WS := am_in (am_tb1 (List.mem_of_getElem? (i := 177) rfl)) (by decide +kernel)
set_option maxRecDepth 100000 in
theorem wd_178 : (Jvm.Cond.fieldLink "LeadlightHall" (78 : Nat) "LeadlightHall" "unlike" "LLeadlightHall$YearSet;") ∈ am_WS := am_in (am_tb1 (List.mem_of_getElem? (i := 178) rfl)) (by decide +kernel)
set_option maxRecDepth 100000 in
theorem wd_18 : (Jvm.Cond.initialized "java/lang/IllegalStateException") ∈ am_WS := am_in (am_tb1 (List.mem_of_getElem? (i := 18) rfl)) (by decide +kernel)
set_option maxRecDepth 100000 in
theorem wd_19 : (Jvm.Cond.initialized "java/util/NoSuchElementException") ∈ am_WS := am_in (am_tb1 (List.mem_of_getElem? (i := 19) rfl)) (by decide +kernel)
set_option maxRecDepth 100000 in
theorem wd_2 : (Jvm.Cond.initialized "LeadlightHall$Wall") ∈ am_WS := am_in (am_tb1 (List.mem_of_getElem? (i := 2) rfl)) (by decide +kernel)
set_option maxRecDepth 100000 in
theorem wd_215 : (Jvm.Cond.code yX7_lead prog_1_method_10_code (1 : Nat) (Option.some Jvm.ClassFile.FieldType.int)) ∈ am_WS := am_in (am_tb1 (List.mem_of_getElem? (i := 215) rfl)) (by decide +kernel)
set_option maxRecDepth 100000 in
theorem wd_216 : (Jvm.Cond.methodLink "LeadlightHall" (169 : Nat) yX5_leadedSides) ∈ am_WS := am_in (am_tb1 (List.mem_of_getElem? (i := 216) rfl)) (by decide +kernel)
set_option maxRecDepth 100000 in
theorem wd_217 : (Jvm.Cond.instanceMethod yX5_leadedSides) ∈ am_WS := am_in (am_tb1 (List.mem_of_getElem? (i := 217) rfl)) (by decide +kernel)
set_option maxRecDepth 100000 in
theorem wd_218 : (Jvm.Cond.selects "LeadlightHall$Wall" yX5_leadedSides yX5_leadedSides) ∈ am_WS := am_in (am_tb1 (List.mem_of_getElem? (i := 218) rfl)) (by decide +kernel)
set_option maxRecDepth 100000 in
theorem wd_219 : (Jvm.Cond.code yX5_leadedSides prog_7_method_8_code (4 : Nat) (Option.some Jvm.ClassFile.FieldType.int)) ∈ am_WS := am_in (am_tb1 (List.mem_of_getElem? (i := 219) rfl)) (by decide +kernel)
set_option maxRecDepth 100000 in
theorem wd_220 : (Jvm.Cond.methodLink "LeadlightHall$Wall" (31 : Nat) yX5_at) ∈ am_WS := am_in (am_tb1 (List.mem_of_getElem? (i := 220) rfl)) (by decide +kernel)
set_option maxRecDepth 100000 in
theorem wd_221 : (Jvm.Cond.instanceMethod yX5_at) ∈ am_WS := am_in (am_tb1 (List.mem_of_getElem? (i := 221) rfl)) (by decide +kernel)
set_option maxRecDepth 100000 in
theorem wd_222 : (Jvm.Cond.selects "LeadlightHall$Wall" yX5_at yX5_at) ∈ am_WS := am_in (am_tb1 (List.mem_of_getElem? (i := 222) rfl)) (by decide +kernel)
set_option maxRecDepth 100000 in
theorem wd_223 : (Jvm.Cond.code yX5_at prog_7_method_2_code (3 : Nat) (Option.some Jvm.ClassFile.FieldType.int)) ∈ am_WS := am_in (am_tb1 (List.mem_of_getElem? (i := 223) rfl)) (by decide +kernel)
set_option maxRecDepth 100000 in
theorem wd_225 : (Jvm.Cond.static yX7_isInside) ∈ am_WS := am_in (am_tb1 (List.mem_of_getElem? (i := 225) rfl)) (by decide +kernel)
set_option maxRecDepth 100000 in
theorem wd_226 : (Jvm.Cond.code yX7_isInside prog_1_method_46_code (2 : Nat) (Option.some Jvm.ClassFile.FieldType.boolean)) ∈ am_WS := am_in (am_tb1 (List.mem_of_getElem? (i := 226) rfl)) (by decide +kernel)
set_option maxRecDepth 100000 in
theorem wd_227 : (Jvm.Cond.methodLink "LeadlightHall$Wall" (39 : Nat) yX5_leadBetween) ∈ am_WS := am_in (am_tb1 (List.mem_of_getElem? (i := 227) rfl)) (by decide +kernel)
set_option maxRecDepth 100000 in
theorem wd_228 : (Jvm.Cond.static yX5_leadBetween) ∈ am_WS := am_in (am_tb1 (List.mem_of_getElem? (i := 228) rfl)) (by decide +kernel)
set_option maxRecDepth 100000 in
theorem wd_229 : (Jvm.Cond.code yX5_leadBetween prog_7_method_12_code (2 : Nat) (Option.some Jvm.ClassFile.FieldType.int)) ∈ am_WS := am_in (am_tb1 (List.mem_of_getElem? (i := 229) rfl)) (by decide +kernel)
set_option maxRecDepth 100000 in
theorem wd_233 : (Jvm.Cond.code yX7_joints prog_1_method_11_code (1 : Nat) (Option.some Jvm.ClassFile.FieldType.int)) ∈ am_WS := am_in (am_tb1 (List.mem_of_getElem? (i := 233) rfl)) (by decide +kernel)
set_option maxRecDepth 100000 in
theorem wd_234 : (Jvm.Cond.methodLink "LeadlightHall" (172 : Nat) yX5_meetingPoints) ∈ am_WS := am_in (am_tb1 (List.mem_of_getElem? (i := 234) rfl)) (by decide +kernel)
set_option maxRecDepth 100000 in
theorem wd_235 : (Jvm.Cond.instanceMethod yX5_meetingPoints) ∈ am_WS := am_in (am_tb1 (List.mem_of_getElem? (i := 235) rfl)) (by decide +kernel)
set_option maxRecDepth 100000 in
theorem wd_236 : (Jvm.Cond.selects "LeadlightHall$Wall" yX5_meetingPoints yX5_meetingPoints) ∈ am_WS := am_in (am_tb1 (List.mem_of_getElem? (i := 236) rfl)) (by decide +kernel)
set_option maxRecDepth 100000 in
theorem wd_237 : (Jvm.Cond.code yX5_meetingPoints prog_7_method_9_code (5 : Nat) (Option.some Jvm.ClassFile.FieldType.int)) ∈ am_WS := am_in (am_tb1 (List.mem_of_getElem? (i := 237) rfl)) (by decide +kernel)
set_option maxRecDepth 100000 in
theorem wd_241 : (Jvm.Cond.code yX7_isOrderly prog_1_method_22_code (5 : Nat) (Option.some Jvm.ClassFile.FieldType.boolean)) ∈ am_WS := am_in (am_tb2 (List.mem_of_getElem? (i := 1) rfl)) (by decide +kernel)
set_option maxRecDepth 100000 in
theorem wd_242 : (Jvm.Cond.methodLink "LeadlightHall" (120 : Nat) yX5_cellsOf) ∈ am_WS := am_in (am_tb2 (List.mem_of_getElem? (i := 2) rfl)) (by decide +kernel)
set_option maxRecDepth 100000 in
theorem wd_243 : (Jvm.Cond.instanceMethod yX5_cellsOf) ∈ am_WS := am_in (am_tb2 (List.mem_of_getElem? (i := 3) rfl)) (by decide +kernel)
set_option maxRecDepth 100000 in
theorem wd_244 : (Jvm.Cond.selects "LeadlightHall$Wall" yX5_cellsOf yX5_cellsOf) ∈ am_WS := am_in (am_tb2 (List.mem_of_getElem? (i := 4) rfl)) (by decide +kernel)
set_option maxRecDepth 100000 in
theorem wd_245 : (Jvm.Cond.code yX5_cellsOf prog_7_method_5_code (4 : Nat) (Option.some Jvm.ClassFile.FieldType.int)) ∈ am_WS := am_in (am_tb2 (List.mem_of_getElem? (i := 5) rfl)) (by decide +kernel)
set_option maxRecDepth 100000 in
theorem wd_246 : (Jvm.Cond.methodLink "LeadlightHall" (305 : Nat) yX5_waitsInto) ∈ am_WS := am_in (am_tb2 (List.mem_of_getElem? (i := 6) rfl)) (by decide +kernel)
set_option maxRecDepth 100000 in
theorem wd_247 : (Jvm.Cond.instanceMethod yX5_waitsInto) ∈ am_WS := am_in (am_tb2 (List.mem_of_getElem? (i := 7) rfl)) (by decide +kernel)
set_option maxRecDepth 100000 in
theorem wd_248 : (Jvm.Cond.selects "LeadlightHall$Wall" yX5_waitsInto yX5_waitsInto) ∈ am_WS := am_in (am_tb2 (List.mem_of_getElem? (i := 8) rfl)) (by decide +kernel)
set_option maxRecDepth 100000 in
theorem wd_249 : (Jvm.Cond.code yX5_waitsInto prog_7_method_10_code (5 : Nat) (Option.none : Option Jvm.ClassFile.FieldType)) ∈ am_WS := am_in (am_tb2 (List.mem_of_getElem? (i := 9) rfl)) (by decide +kernel)
set_option maxRecDepth 100000 in
theorem wd_25 : (Jvm.Cond.initialized "java/lang/Long") ∈ am_WS := am_in (am_tb1 (List.mem_of_getElem? (i := 25) rfl)) (by decide +kernel)
set_option maxRecDepth 100000 in
theorem wd_250 : (Jvm.Cond.methodLink "LeadlightHall$Wall" (42 : Nat) yX5_bitOf) ∈ am_WS := am_in (am_tb2 (List.mem_of_getElem? (i := 10) rfl)) (by decide +kernel)
set_option maxRecDepth 100000 in
theorem wd_251 : (Jvm.Cond.static yX5_bitOf) ∈ am_WS := am_in (am_tb2 (List.mem_of_getElem? (i := 11) rfl)) (by decide +kernel)
set_option maxRecDepth 100000 in
theorem wd_252 : (Jvm.Cond.code yX5_bitOf prog_7_method_11_code (2 : Nat) (Option.some Jvm.ClassFile.FieldType.int)) ∈ am_WS := am_in (am_tb2 (List.mem_of_getElem? (i := 12) rfl)) (by decide +kernel)
set_option maxRecDepth 100000 in
theorem wd_253 : (Jvm.Cond.constant "LeadlightHall$Wall" (45 : Nat) (1073741824 : Int32)) ∈ am_WS := am_in (am_tb2 (List.mem_of_getElem? (i := 13) rfl)) (by decide +kernel)
set_option maxRecDepth 100000 in
theorem wd_254 : (Jvm.Cond.methodLink "LeadlightHall" (309 : Nat) yX5_piecesWithCells) ∈ am_WS := am_in (am_tb2 (List.mem_of_getElem? (i := 14) rfl)) (by decide +kernel)
set_option maxRecDepth 100000 in
theorem wd_255 : (Jvm.Cond.instanceMethod yX5_piecesWithCells) ∈ am_WS := am_in (am_tb2 (List.mem_of_getElem? (i := 15) rfl)) (by decide +kernel)
set_option maxRecDepth 100000 in
theorem wd_256 : (Jvm.Cond.selects "LeadlightHall$Wall" yX5_piecesWithCells yX5_piecesWithCells) ∈ am_WS := am_in (am_tb2 (List.mem_of_getElem? (i := 16) rfl)) (by decide +kernel)
set_option maxRecDepth 100000 in
theorem wd_257 : (Jvm.Cond.code yX5_piecesWithCells prog_7_method_6_code (3 : Nat) (Option.some Jvm.ClassFile.FieldType.int)) ∈ am_WS := am_in (am_tb2 (List.mem_of_getElem? (i := 17) rfl)) (by decide +kernel)
set_option maxRecDepth 100000 in
theorem wd_258 : (Jvm.Cond.methodLink "LeadlightHall" (312 : Nat) yX7_lowestFreeOf) ∈ am_WS := am_in (am_tb2 (List.mem_of_getElem? (i := 18) rfl)) (by decide +kernel)
set_option maxRecDepth 100000 in
theorem wd_260 : (Jvm.Cond.instanceMethod yX7_lowestFreeOf) ∈ am_WS := am_in (am_tb2 (List.mem_of_getElem? (i := 20) rfl)) (by decide +kernel)
set_option maxRecDepth 100000 in
theorem wd_261 : (Jvm.Cond.code yX7_lowestFreeOf prog_1_method_57_code (4 : Nat) (Option.some Jvm.ClassFile.FieldType.int)) ∈ am_WS := am_in (am_tb2 (List.mem_of_getElem? (i := 21) rfl)) (by decide +kernel)
set_option maxRecDepth 100000 in
theorem wd_265 : (Jvm.Cond.code yX7_isUp prog_1_method_26_code (1 : Nat) (Option.some Jvm.ClassFile.FieldType.boolean)) ∈ am_WS := am_in (am_tb2 (List.mem_of_getElem? (i := 25) rfl)) (by decide +kernel)
set_option maxRecDepth 100000 in
theorem wd_269 : (Jvm.Cond.code yX7_bears prog_1_method_30_code (1 : Nat) (Option.some Jvm.ClassFile.FieldType.int)) ∈ am_WS := am_in (am_tb2 (List.mem_of_getElem? (i := 29) rfl)) (by decide +kernel)
set_option maxRecDepth 100000 in
theorem wd_270 : (Jvm.Cond.methodLink "LeadlightHall" (341 : Nat) yX7_yearsUp) ∈ am_WS := am_in (am_tb2 (List.mem_of_getElem? (i := 30) rfl)) (by decide +kernel)
set_option maxRecDepth 100000 in
theorem wd_272 : (Jvm.Cond.instanceMethod yX7_yearsUp) ∈ am_WS := am_in (am_tb2 (List.mem_of_getElem? (i := 32) rfl)) (by decide +kernel)
set_option maxRecDepth 100000 in
theorem wd_273 : (Jvm.Cond.code yX7_yearsUp prog_1_method_55_code (1 : Nat) (Option.some Jvm.ClassFile.FieldType.int)) ∈ am_WS := am_in (am_tb2 (List.mem_of_getElem? (i := 33) rfl)) (by decide +kernel)
set_option maxRecDepth 100000 in
theorem wd_274 : (Jvm.Cond.methodLink "LeadlightHall" (344 : Nat) yX0_mostBorne) ∈ am_WS := am_in (am_tb2 (List.mem_of_getElem? (i := 34) rfl)) (by decide +kernel)
set_option maxRecDepth 100000 in
theorem wd_275 : (Jvm.Cond.instanceMethod yX0_mostBorne) ∈ am_WS := am_in (am_tb2 (List.mem_of_getElem? (i := 35) rfl)) (by decide +kernel)
set_option maxRecDepth 100000 in
theorem wd_276 : (Jvm.Cond.selects "LeadlightHall$Frame" yX0_mostBorne yX0_mostBorne) ∈ am_WS := am_in (am_tb2 (List.mem_of_getElem? (i := 36) rfl)) (by decide +kernel)
set_option maxRecDepth 100000 in
theorem wd_277 : (Jvm.Cond.code yX0_mostBorne prog_2_method_4_code (6 : Nat) (Option.some Jvm.ClassFile.FieldType.int)) ∈ am_WS := am_in (am_tb2 (List.mem_of_getElem? (i := 37) rfl)) (by decide +kernel)
set_option maxRecDepth 100000 in
theorem wd_278 : (Jvm.Cond.methodLink "LeadlightHall$Frame" (21 : Nat) yX0_hasBar) ∈ am_WS := am_in (am_tb2 (List.mem_of_getElem? (i := 38) rfl)) (by decide +kernel)
set_option maxRecDepth 100000 in
theorem wd_279 : (Jvm.Cond.instanceMethod yX0_hasBar) ∈ am_WS := am_in (am_tb2 (List.mem_of_getElem? (i := 39) rfl)) (by decide +kernel)
set_option maxRecDepth 100000 in
theorem wd_280 : (Jvm.Cond.selects "LeadlightHall$Frame" yX0_hasBar yX0_hasBar) ∈ am_WS := am_in (am_tb2 (List.mem_of_getElem? (i := 40) rfl)) (by decide +kernel)
set_option maxRecDepth 100000 in
theorem wd_281 : (Jvm.Cond.code yX0_hasBar prog_2_method_2_code (2 : Nat) (Option.some Jvm.ClassFile.FieldType.boolean)) ∈ am_WS := am_in (am_tb2 (List.mem_of_getElem? (i := 41) rfl)) (by decide +kernel)
set_option maxRecDepth 100000 in
theorem wd_282 : (Jvm.Cond.methodLink "LeadlightHall$Frame" (25 : Nat) yJ9_max_7cf53) ∈ am_WS := am_in (am_tb2 (List.mem_of_getElem? (i := 42) rfl)) (by decide +kernel)
set_option maxRecDepth 100000 in
theorem wd_283 : (Jvm.Cond.static yJ9_max_7cf53) ∈ am_WS := am_in (am_tb2 (List.mem_of_getElem? (i := 43) rfl)) (by decide +kernel)
set_option maxRecDepth 100000 in
theorem wd_288 : (Jvm.Cond.code yX7_stands prog_1_method_31_code (1 : Nat) (Option.some Jvm.ClassFile.FieldType.boolean)) ∈ am_WS := am_in (am_tb2 (List.mem_of_getElem? (i := 48) rfl)) (by decide +kernel)
set_option maxRecDepth 100000 in
theorem wd_292 : (Jvm.Cond.code yX7_hands prog_1_method_38_code (3 : Nat) (Option.some Jvm.ClassFile.FieldType.int)) ∈ am_WS := am_in (am_tb2 (List.mem_of_getElem? (i := 52) rfl)) (by decide +kernel)
set_option maxRecDepth 100000 in
theorem wd_293 : (Jvm.Cond.methodLink "LeadlightHall" (383 : Nat) yX6_clear) ∈ am_WS := am_in (am_tb2 (List.mem_of_getElem? (i := 53) rfl)) (by decide +kernel)
set_option maxRecDepth 100000 in
theorem wd_294 : (Jvm.Cond.instanceMethod yX6_clear) ∈ am_WS := am_in (am_tb2 (List.mem_of_getElem? (i := 54) rfl)) (by decide +kernel)
set_option maxRecDepth 100000 in
theorem wd_295 : (Jvm.Cond.selects "LeadlightHall$YearSet" yX6_clear yX6_clear) ∈ am_WS := am_in (am_tb2 (List.mem_of_getElem? (i := 55) rfl)) (by decide +kernel)
set_option maxRecDepth 100000 in
theorem wd_296 : (Jvm.Cond.code yX6_clear prog_8_method_2_code (2 : Nat) (Option.none : Option Jvm.ClassFile.FieldType)) ∈ am_WS := am_in (am_tb2 (List.mem_of_getElem? (i := 56) rfl)) (by decide +kernel)
set_option maxRecDepth 100000 in
theorem wd_297 : (Jvm.Cond.methodLink "LeadlightHall" (111 : Nat) yX2_hasGlass) ∈ am_WS := am_in (am_tb2 (List.mem_of_getElem? (i := 57) rfl)) (by decide +kernel)
set_option maxRecDepth 100000 in
theorem wd_298 : (Jvm.Cond.instanceMethod yX2_hasGlass) ∈ am_WS := am_in (am_tb2 (List.mem_of_getElem? (i := 58) rfl)) (by decide +kernel)
set_option maxRecDepth 100000 in
theorem wd_299 : (Jvm.Cond.selects "LeadlightHall$Pane" yX2_hasGlass yX2_hasGlass) ∈ am_WS := am_in (am_tb2 (List.mem_of_getElem? (i := 59) rfl)) (by decide +kernel)
set_option maxRecDepth 100000 in
theorem wd_3 : (Jvm.Cond.initialized "LeadlightHall$Frame") ∈ am_WS := am_in (am_tb1 (List.mem_of_getElem? (i := 3) rfl)) (by decide +kernel)
set_option maxRecDepth 100000 in
theorem wd_30 : (Jvm.Cond.code yX7_init prog_1_method_1_code (2 : Nat) (Option.none : Option Jvm.ClassFile.FieldType)) ∈ am_WS := am_in (am_tb1 (List.mem_of_getElem? (i := 30) rfl)) (by decide +kernel)
set_option maxRecDepth 100000 in
theorem wd_300 : (Jvm.Cond.code yX2_hasGlass prog_4_method_2_code (1 : Nat) (Option.some Jvm.ClassFile.FieldType.boolean)) ∈ am_WS := am_in (am_tb2 (List.mem_of_getElem? (i := 60) rfl)) (by decide +kernel)
set_option maxRecDepth 100000 in
theorem wd_301 : (Jvm.Cond.methodLink "LeadlightHall" (375 : Nat) yX6_add) ∈ am_WS := am_in (am_tb2 (List.mem_of_getElem? (i := 61) rfl)) (by decide +kernel)
set_option maxRecDepth 100000 in
theorem wd_302 : (Jvm.Cond.instanceMethod yX6_add) ∈ am_WS := am_in (am_tb2 (List.mem_of_getElem? (i := 62) rfl)) (by decide +kernel)
set_option maxRecDepth 100000 in
theorem wd_303 : (Jvm.Cond.selects "LeadlightHall$YearSet" yX6_add yX6_add) ∈ am_WS := am_in (am_tb2 (List.mem_of_getElem? (i := 63) rfl)) (by decide +kernel)
set_option maxRecDepth 100000 in
theorem wd_304 : (Jvm.Cond.code yX6_add prog_8_method_3_code (2 : Nat) (Option.none : Option Jvm.ClassFile.FieldType)) ∈ am_WS := am_in (am_tb2 (List.mem_of_getElem? (i := 64) rfl)) (by decide +kernel)
set_option maxRecDepth 100000 in
theorem wd_306 : (Jvm.Cond.static yX7_isWithin) ∈ am_WS := am_in (am_tb2 (List.mem_of_getElem? (i := 66) rfl)) (by decide +kernel)
set_option maxRecDepth 100000 in
theorem wd_307 : (Jvm.Cond.code yX7_isWithin prog_1_method_45_code (3 : Nat) (Option.some Jvm.ClassFile.FieldType.boolean)) ∈ am_WS := am_in (am_tb2 (List.mem_of_getElem? (i := 67) rfl)) (by decide +kernel)
set_option maxRecDepth 100000 in
theorem wd_308 : (Jvm.Cond.methodLink "LeadlightHall" (386 : Nat) yX6_addAll) ∈ am_WS := am_in (am_tb2 (List.mem_of_getElem? (i := 68) rfl)) (by decide +kernel)
set_option maxRecDepth 100000 in
theorem wd_309 : (Jvm.Cond.instanceMethod yX6_addAll) ∈ am_WS := am_in (am_tb2 (List.mem_of_getElem? (i := 69) rfl)) (by decide +kernel)
set_option maxRecDepth 100000 in
theorem wd_31 : (Jvm.Cond.methodLink "LeadlightHall" (3 : Nat) ({ cls := "java/lang/Object", name := "<init>", desc := "()V" } : Jvm.MethodName)) ∈ am_WS := am_in (am_tb1 (List.mem_of_getElem? (i := 31) rfl)) (by decide +kernel)
set_option maxRecDepth 100000 in
theorem wd_310 : (Jvm.Cond.selects "LeadlightHall$YearSet" yX6_addAll yX6_addAll) ∈ am_WS := am_in (am_tb2 (List.mem_of_getElem? (i := 70) rfl)) (by decide +kernel)
set_option maxRecDepth 100000 in
theorem wd_311 : (Jvm.Cond.code yX6_addAll prog_8_method_4_code (3 : Nat) (Option.none : Option Jvm.ClassFile.FieldType)) ∈ am_WS := am_in (am_tb2 (List.mem_of_getElem? (i := 71) rfl)) (by decide +kernel)
set_option maxRecDepth 100000 in
theorem wd_312 : (Jvm.Cond.methodLink "LeadlightHall" (390 : Nat) yX6_count) ∈ am_WS := am_in (am_tb2 (List.mem_of_getElem? (i := 72) rfl)) (by decide +kernel)
set_option maxRecDepth 100000 in
theorem wd_313 : (Jvm.Cond.instanceMethod yX6_count) ∈ am_WS := am_in (am_tb2 (List.mem_of_getElem? (i := 73) rfl)) (by decide +kernel)
set_option maxRecDepth 100000 in
theorem wd_314 : (Jvm.Cond.selects "LeadlightHall$YearSet" yX6_count yX6_count) ∈ am_WS := am_in (am_tb2 (List.mem_of_getElem? (i := 74) rfl)) (by decide +kernel)
set_option maxRecDepth 100000 in
theorem wd_315 : (Jvm.Cond.code yX6_count prog_8_method_5_code (3 : Nat) (Option.some Jvm.ClassFile.FieldType.int)) ∈ am_WS := am_in (am_tb2 (List.mem_of_getElem? (i := 75) rfl)) (by decide +kernel)
set_option maxRecDepth 100000 in
theorem wd_316 : (Jvm.Cond.methodLink "LeadlightHall$YearSet" (19 : Nat) yJ13_bitCount_95d88) ∈ am_WS := am_in (am_tb2 (List.mem_of_getElem? (i := 76) rfl)) (by decide +kernel)
set_option maxRecDepth 100000 in
theorem wd_317 : (Jvm.Cond.static yJ13_bitCount_95d88) ∈ am_WS := am_in (am_tb2 (List.mem_of_getElem? (i := 77) rfl)) (by decide +kernel)
set_option maxRecDepth 100000 in
theorem wd_318 : (Jvm.Cond.code yJ13_bitCount_95d88 prog_21_method_50_code (2 : Nat) (Option.some Jvm.ClassFile.FieldType.int)) ∈ am_WS := am_in (am_tb2 (List.mem_of_getElem? (i := 78) rfl)) (by decide +kernel)
set_option maxRecDepth 100000 in
theorem wd_319 : (Jvm.Cond.constantLong "java/lang/Long" (314 : Nat) (6148914691236517205 : Int64)) ∈ am_WS := am_in (am_tb2 (List.mem_of_getElem? (i := 79) rfl)) (by decide +kernel)
set_option maxRecDepth 100000 in
theorem wd_320 : (Jvm.Cond.constantLong "java/lang/Long" (316 : Nat) (3689348814741910323 : Int64)) ∈ am_WS := am_in (am_tb2 (List.mem_of_getElem? (i := 80) rfl)) (by decide +kernel)
set_option maxRecDepth 100000 in
theorem wd_321 : (Jvm.Cond.constantLong "java/lang/Long" (318 : Nat) (1085102592571150095 : Int64)) ∈ am_WS := am_in (am_tb2 (List.mem_of_getElem? (i := 81) rfl)) (by decide +kernel)
set_option maxRecDepth 100000 in
theorem wd_325 : (Jvm.Cond.code yX7_price prog_1_method_40_code (4 : Nat) (Option.some Jvm.ClassFile.FieldType.int)) ∈ am_WS := am_in (am_tb2 (List.mem_of_getElem? (i := 85) rfl)) (by decide +kernel)
set_option maxRecDepth 100000 in
theorem wd_326 : (Jvm.Cond.methodLink "LeadlightHall" (299 : Nat) yX1_fixedLayers) ∈ am_WS := am_in (am_tb2 (List.mem_of_getElem? (i := 86) rfl)) (by decide +kernel)
set_option maxRecDepth 100000 in
theorem wd_327 : (Jvm.Cond.instanceMethod yX1_fixedLayers) ∈ am_WS := am_in (am_tb2 (List.mem_of_getElem? (i := 87) rfl)) (by decide +kernel)
set_option maxRecDepth 100000 in
theorem wd_328 : (Jvm.Cond.selects "LeadlightHall$Paint" yX1_fixedLayers yX1_fixedLayers) ∈ am_WS := am_in (am_tb2 (List.mem_of_getElem? (i := 88) rfl)) (by decide +kernel)
set_option maxRecDepth 100000 in
theorem wd_329 : (Jvm.Cond.code yX1_fixedLayers prog_3_method_8_code (3 : Nat) (Option.some Jvm.ClassFile.FieldType.int)) ∈ am_WS := am_in (am_tb2 (List.mem_of_getElem? (i := 89) rfl)) (by decide +kernel)
set_option maxRecDepth 100000 in
theorem wd_333 : (Jvm.Cond.code yX7_checksum prog_1_method_41_code (5 : Nat) (Option.some Jvm.ClassFile.FieldType.long)) ∈ am_WS := am_in (am_tb2 (List.mem_of_getElem? (i := 93) rfl)) (by decide +kernel)
set_option maxRecDepth 100000 in
theorem wd_334 : (Jvm.Cond.constantLong "LeadlightHall" (400 : Nat) (7 : Int64)) ∈ am_WS := am_in (am_tb2 (List.mem_of_getElem? (i := 94) rfl)) (by decide +kernel)
set_option maxRecDepth 100000 in
theorem wd_335 : (Jvm.Cond.constantLong "LeadlightHall" (402 : Nat) (31 : Int64)) ∈ am_WS := am_in (am_tb2 (List.mem_of_getElem? (i := 95) rfl)) (by decide +kernel)
set_option maxRecDepth 100000 in
theorem wd_336 : (Jvm.Cond.methodLink "LeadlightHall" (99 : Nat) yX5_at) ∈ am_WS := am_in (am_tb2 (List.mem_of_getElem? (i := 96) rfl)) (by decide +kernel)
set_option maxRecDepth 100000 in
theorem wd_34 : (Jvm.Cond.classLink "LeadlightHall" (9 : Nat) "LeadlightHall$Wall") ∈ am_WS := am_in (am_tb1 (List.mem_of_getElem? (i := 34) rfl)) (by decide +kernel)
set_option maxRecDepth 100000 in
theorem wd_340 : (Jvm.Cond.code yX7_isSound prog_1_method_44_code (5 : Nat) (Option.some Jvm.ClassFile.FieldType.boolean)) ∈ am_WS := am_in (am_tb2 (List.mem_of_getElem? (i := 100) rfl)) (by decide +kernel)
set_option maxRecDepth 100000 in
theorem wd_341 : (Jvm.Cond.methodLink "LeadlightHall" (409 : Nat) yX4_usedCells) ∈ am_WS := am_in (am_tb2 (List.mem_of_getElem? (i := 101) rfl)) (by decide +kernel)
set_option maxRecDepth 100000 in
theorem wd_342 : (Jvm.Cond.instanceMethod yX4_usedCells) ∈ am_WS := am_in (am_tb2 (List.mem_of_getElem? (i := 102) rfl)) (by decide +kernel)
set_option maxRecDepth 100000 in
theorem wd_343 : (Jvm.Cond.selects "LeadlightHall$Sheet" yX4_usedCells yX4_usedCells) ∈ am_WS := am_in (am_tb2 (List.mem_of_getElem? (i := 103) rfl)) (by decide +kernel)
set_option maxRecDepth 100000 in
theorem wd_344 : (Jvm.Cond.code yX4_usedCells prog_6_method_3_code (3 : Nat) (Option.some Jvm.ClassFile.FieldType.int)) ∈ am_WS := am_in (am_tb2 (List.mem_of_getElem? (i := 104) rfl)) (by decide +kernel)
set_option maxRecDepth 100000 in
theorem wd_345 : (Jvm.Cond.methodLink "LeadlightHall$Sheet" (29 : Nat) yJ6_bitCount_0f7a4) ∈ am_WS := am_in (am_tb2 (List.mem_of_getElem? (i := 105) rfl)) (by decide +kernel)
set_option maxRecDepth 100000 in
theorem wd_346 : (Jvm.Cond.static yJ6_bitCount_0f7a4) ∈ am_WS := am_in (am_tb2 (List.mem_of_getElem? (i := 106) rfl)) (by decide +kernel)
set_option maxRecDepth 100000 in
theorem wd_347 : (Jvm.Cond.code yJ6_bitCount_0f7a4 prog_20_method_49_code (1 : Nat) (Option.some Jvm.ClassFile.FieldType.int)) ∈ am_WS := am_in (am_tb2 (List.mem_of_getElem? (i := 107) rfl)) (by decide +kernel)
set_option maxRecDepth 100000 in
theorem wd_348 : (Jvm.Cond.constant "java/lang/Integer" (265 : Nat) (1431655765 : Int32)) ∈ am_WS := am_in (am_tb2 (List.mem_of_getElem? (i := 108) rfl)) (by decide +kernel)
set_option maxRecDepth 100000 in
theorem wd_349 : (Jvm.Cond.constant "java/lang/Integer" (266 : Nat) (858993459 : Int32)) ∈ am_WS := am_in (am_tb2 (List.mem_of_getElem? (i := 109) rfl)) (by decide +kernel)
set_option maxRecDepth 100000 in
theorem wd_35 : (Jvm.Cond.instantiable "LeadlightHall$Wall" (1 : Nat)) ∈ am_WS := am_in (am_tb1 (List.mem_of_getElem? (i := 35) rfl)) (by decide +kernel)
set_option maxRecDepth 100000 in
theorem wd_350 : (Jvm.Cond.constant "java/lang/Integer" (267 : Nat) (252645135 : Int32)) ∈ am_WS := am_in (am_tb2 (List.mem_of_getElem? (i := 110) rfl)) (by decide +kernel)
set_option maxRecDepth 100000 in
theorem wd_351 : (Jvm.Cond.methodLink "LeadlightHall" (286 : Nat) yX7_panesThatAre) ∈ am_WS := am_in (am_tb2 (List.mem_of_getElem? (i := 111) rfl)) (by decide +kernel)
set_option maxRecDepth 100000 in
theorem wd_353 : (Jvm.Cond.instanceMethod yX7_panesThatAre) ∈ am_WS := am_in (am_tb2 (List.mem_of_getElem? (i := 113) rfl)) (by decide +kernel)
set_option maxRecDepth 100000 in
theorem wd_354 : (Jvm.Cond.code yX7_panesThatAre prog_1_method_58_code (4 : Nat) (Option.some Jvm.ClassFile.FieldType.int)) ∈ am_WS := am_in (am_tb2 (List.mem_of_getElem? (i := 114) rfl)) (by decide +kernel)
set_option maxRecDepth 100000 in
theorem wd_355 : (Jvm.Cond.methodLink "LeadlightHall" (412 : Nat) yX7_isCuttable) ∈ am_WS := am_in (am_tb2 (List.mem_of_getElem? (i := 115) rfl)) (by decide +kernel)
set_option maxRecDepth 100000 in
theorem wd_357 : (Jvm.Cond.instanceMethod yX7_isCuttable) ∈ am_WS := am_in (am_tb2 (List.mem_of_getElem? (i := 117) rfl)) (by decide +kernel)
set_option maxRecDepth 100000 in
theorem wd_358 : (Jvm.Cond.code yX7_isCuttable prog_1_method_63_code (2 : Nat) (Option.some Jvm.ClassFile.FieldType.boolean)) ∈ am_WS := am_in (am_tb2 (List.mem_of_getElem? (i := 118) rfl)) (by decide +kernel)
set_option maxRecDepth 100000 in
theorem wd_359 : (Jvm.Cond.methodLink "LeadlightHall" (128 : Nat) yX5_shapeInto) ∈ am_WS := am_in (am_tb2 (List.mem_of_getElem? (i := 119) rfl)) (by decide +kernel)
set_option maxRecDepth 100000 in
theorem wd_36 : (Jvm.Cond.methodLink "LeadlightHall" (11 : Nat) yX5_init) ∈ am_WS := am_in (am_tb1 (List.mem_of_getElem? (i := 36) rfl)) (by decide +kernel)
set_option maxRecDepth 100000 in
theorem wd_360 : (Jvm.Cond.instanceMethod yX5_shapeInto) ∈ am_WS := am_in (am_tb2 (List.mem_of_getElem? (i := 120) rfl)) (by decide +kernel)
set_option maxRecDepth 100000 in
theorem wd_361 : (Jvm.Cond.selects "LeadlightHall$Wall" yX5_shapeInto yX5_shapeInto) ∈ am_WS := am_in (am_tb2 (List.mem_of_getElem? (i := 121) rfl)) (by decide +kernel)
set_option maxRecDepth 100000 in
theorem wd_362 : (Jvm.Cond.code yX5_shapeInto prog_7_method_7_code (5 : Nat) (Option.none : Option Jvm.ClassFile.FieldType)) ∈ am_WS := am_in (am_tb2 (List.mem_of_getElem? (i := 122) rfl)) (by decide +kernel)
set_option maxRecDepth 100000 in
theorem wd_363 : (Jvm.Cond.methodLink "LeadlightHall$Wall" (28 : Nat) yX3_clear) ∈ am_WS := am_in (am_tb2 (List.mem_of_getElem? (i := 123) rfl)) (by decide +kernel)
set_option maxRecDepth 100000 in
theorem wd_364 : (Jvm.Cond.instanceMethod yX3_clear) ∈ am_WS := am_in (am_tb2 (List.mem_of_getElem? (i := 124) rfl)) (by decide +kernel)
set_option maxRecDepth 100000 in
theorem wd_365 : (Jvm.Cond.selects "LeadlightHall$Shape" yX3_clear yX3_clear) ∈ am_WS := am_in (am_tb2 (List.mem_of_getElem? (i := 125) rfl)) (by decide +kernel)
set_option maxRecDepth 100000 in
theorem wd_366 : (Jvm.Cond.code yX3_clear prog_5_method_2_code (2 : Nat) (Option.none : Option Jvm.ClassFile.FieldType)) ∈ am_WS := am_in (am_tb2 (List.mem_of_getElem? (i := 126) rfl)) (by decide +kernel)
set_option maxRecDepth 100000 in
theorem wd_367 : (Jvm.Cond.methodLink "LeadlightHall$Wall" (35 : Nat) yX3_add) ∈ am_WS := am_in (am_tb2 (List.mem_of_getElem? (i := 127) rfl)) (by decide +kernel)
set_option maxRecDepth 100000 in
theorem wd_368 : (Jvm.Cond.instanceMethod yX3_add) ∈ am_WS := am_in (am_tb2 (List.mem_of_getElem? (i := 128) rfl)) (by decide +kernel)
set_option maxRecDepth 100000 in
theorem wd_369 : (Jvm.Cond.selects "LeadlightHall$Shape" yX3_add yX3_add) ∈ am_WS := am_in (am_tb2 (List.mem_of_getElem? (i := 129) rfl)) (by decide +kernel)
set_option maxRecDepth 100000 in
theorem wd_37 : (Jvm.Cond.instanceMethod yX5_init) ∈ am_WS := am_in (am_tb1 (List.mem_of_getElem? (i := 37) rfl)) (by decide +kernel)
set_option maxRecDepth 100000 in
theorem wd_370 : (Jvm.Cond.code yX3_add prog_5_method_3_code (3 : Nat) (Option.none : Option Jvm.ClassFile.FieldType)) ∈ am_WS := am_in (am_tb2 (List.mem_of_getElem? (i := 130) rfl)) (by decide +kernel)
set_option maxRecDepth 100000 in
theorem wd_372 : (Jvm.Cond.methodLink "LeadlightHall" (438 : Nat) yX3_isWhole) ∈ am_WS := am_in (am_tb2 (List.mem_of_getElem? (i := 132) rfl)) (by decide +kernel)
set_option maxRecDepth 100000 in
theorem wd_373 : (Jvm.Cond.instanceMethod yX3_isWhole) ∈ am_WS := am_in (am_tb2 (List.mem_of_getElem? (i := 133) rfl)) (by decide +kernel)
set_option maxRecDepth 100000 in
theorem wd_374 : (Jvm.Cond.selects "LeadlightHall$Shape" yX3_isWhole yX3_isWhole) ∈ am_WS := am_in (am_tb2 (List.mem_of_getElem? (i := 134) rfl)) (by decide +kernel)
set_option maxRecDepth 100000 in
theorem wd_375 : (Jvm.Cond.code yX3_isWhole prog_5_method_8_code (4 : Nat) (Option.some Jvm.ClassFile.FieldType.boolean)) ∈ am_WS := am_in (am_tb2 (List.mem_of_getElem? (i := 135) rfl)) (by decide +kernel)
set_option maxRecDepth 100000 in
theorem wd_376 : (Jvm.Cond.methodLink "LeadlightHall$Shape" (42 : Nat) yX3_grow) ∈ am_WS := am_in (am_tb2 (List.mem_of_getElem? (i := 136) rfl)) (by decide +kernel)
set_option maxRecDepth 100000 in
theorem wd_378 : (Jvm.Cond.instanceMethod yX3_grow) ∈ am_WS := am_in (am_tb2 (List.mem_of_getElem? (i := 138) rfl)) (by decide +kernel)
set_option maxRecDepth 100000 in
theorem wd_379 : (Jvm.Cond.code yX3_grow prog_5_method_9_code (6 : Nat) (Option.some Jvm.ClassFile.FieldType.boolean)) ∈ am_WS := am_in (am_tb2 (List.mem_of_getElem? (i := 139) rfl)) (by decide +kernel)
set_option maxRecDepth 100000 in
theorem wd_38 : (Jvm.Cond.code yX5_init prog_7_method_1_code (2 : Nat) (Option.none : Option Jvm.ClassFile.FieldType)) ∈ am_WS := am_in (am_tb1 (List.mem_of_getElem? (i := 38) rfl)) (by decide +kernel)
set_option maxRecDepth 100000 in
theorem wd_380 : (Jvm.Cond.methodLink "LeadlightHall" (132 : Nat) yX3_innerCorners) ∈ am_WS := am_in (am_tb2 (List.mem_of_getElem? (i := 140) rfl)) (by decide +kernel)
set_option maxRecDepth 100000 in
theorem wd_381 : (Jvm.Cond.instanceMethod yX3_innerCorners) ∈ am_WS := am_in (am_tb2 (List.mem_of_getElem? (i := 141) rfl)) (by decide +kernel)
set_option maxRecDepth 100000 in
theorem wd_382 : (Jvm.Cond.selects "LeadlightHall$Shape" yX3_innerCorners yX3_innerCorners) ∈ am_WS := am_in (am_tb2 (List.mem_of_getElem? (i := 142) rfl)) (by decide +kernel)
set_option maxRecDepth 100000 in
theorem wd_383 : (Jvm.Cond.code yX3_innerCorners prog_5_method_10_code (5 : Nat) (Option.some Jvm.ClassFile.FieldType.int)) ∈ am_WS := am_in (am_tb2 (List.mem_of_getElem? (i := 143) rfl)) (by decide +kernel)
set_option maxRecDepth 100000 in
theorem wd_384 : (Jvm.Cond.methodLink "LeadlightHall$Shape" (22 : Nat) yJ6_bitCount_0f7a4) ∈ am_WS := am_in (am_tb2 (List.mem_of_getElem? (i := 144) rfl)) (by decide +kernel)
set_option maxRecDepth 100000 in
theorem wd_385 : (Jvm.Cond.methodLink "LeadlightHall" (296 : Nat) yX1_rawLayers) ∈ am_WS := am_in (am_tb2 (List.mem_of_getElem? (i := 145) rfl)) (by decide +kernel)
set_option maxRecDepth 100000 in
theorem wd_386 : (Jvm.Cond.instanceMethod yX1_rawLayers) ∈ am_WS := am_in (am_tb2 (List.mem_of_getElem? (i := 146) rfl)) (by decide +kernel)
set_option maxRecDepth 100000 in
theorem wd_387 : (Jvm.Cond.selects "LeadlightHall$Paint" yX1_rawLayers yX1_rawLayers) ∈ am_WS := am_in (am_tb2 (List.mem_of_getElem? (i := 147) rfl)) (by decide +kernel)
set_option maxRecDepth 100000 in
theorem wd_388 : (Jvm.Cond.code yX1_rawLayers prog_3_method_7_code (3 : Nat) (Option.some Jvm.ClassFile.FieldType.int)) ∈ am_WS := am_in (am_tb2 (List.mem_of_getElem? (i := 148) rfl)) (by decide +kernel)
set_option maxRecDepth 100000 in
theorem wd_39 : (Jvm.Cond.methodLink "LeadlightHall$Wall" (3 : Nat) ({ cls := "java/lang/Object", name := "<init>", desc := "()V" } : Jvm.MethodName)) ∈ am_WS := am_in (am_tb1 (List.mem_of_getElem? (i := 39) rfl)) (by decide +kernel)
set_option maxRecDepth 100000 in
theorem wd_397 : (Jvm.Cond.code yX7_open prog_1_method_2_code (10 : Nat) (Option.some Jvm.ClassFile.FieldType.int)) ∈ am_WS := am_in (am_tb2 (List.mem_of_getElem? (i := 157) rfl)) (by decide +kernel)
set_option maxRecDepth 100000 in
theorem wd_398 : (Jvm.Cond.methodLink "LeadlightHall" (84 : Nat) yX7_requireCells) ∈ am_WS := am_in (am_tb2 (List.mem_of_getElem? (i := 158) rfl)) (by decide +kernel)
set_option maxRecDepth 100000 in
theorem wd_399 : (Jvm.Cond.static yX7_requireCells) ∈ am_WS := am_in (am_tb2 (List.mem_of_getElem? (i := 159) rfl)) (by decide +kernel)
set_option maxRecDepth 100000 in
theorem wd_4 : (Jvm.Cond.initialized "LeadlightHall$Shape") ∈ am_WS := am_in (am_tb1 (List.mem_of_getElem? (i := 4) rfl)) (by decide +kernel)
set_option maxRecDepth 100000 in
theorem wd_40 : (Jvm.Cond.fieldLink "LeadlightHall$Wall" (9 : Nat) "LeadlightHall$Wall" "cells" "[I") ∈ am_WS := am_in (am_tb1 (List.mem_of_getElem? (i := 40) rfl)) (by decide +kernel)
set_option maxRecDepth 100000 in
theorem wd_400 : (Jvm.Cond.code yX7_requireCells prog_1_method_53_code (4 : Nat) (Option.none : Option Jvm.ClassFile.FieldType)) ∈ am_WS := am_in (am_tb2 (List.mem_of_getElem? (i := 160) rfl)) (by decide +kernel)
set_option maxRecDepth 100000 in
theorem wd_401 : (Jvm.Cond.methodLink "LeadlightHall" (420 : Nat) yX7_isInside) ∈ am_WS := am_in (am_tb2 (List.mem_of_getElem? (i := 161) rfl)) (by decide +kernel)
set_option maxRecDepth 100000 in
theorem wd_402 : (Jvm.Cond.classLink "LeadlightHall" (187 : Nat) "java/lang/IllegalArgumentException") ∈ am_WS := am_in (am_tb2 (List.mem_of_getElem? (i := 162) rfl)) (by decide +kernel)
set_option maxRecDepth 100000 in
theorem wd_44 : (Jvm.Cond.arrayClass Jvm.ClassFile.FieldType.int) ∈ am_WS := am_in (am_tb1 (List.mem_of_getElem? (i := 44) rfl)) (by decide +kernel)
set_option maxRecDepth 100000 in
theorem wd_45 : (Jvm.Cond.classLink "LeadlightHall" (16 : Nat) "LeadlightHall$Pane") ∈ am_WS := am_in (am_tb1 (List.mem_of_getElem? (i := 45) rfl)) (by decide +kernel)
set_option maxRecDepth 100000 in
theorem wd_47 : (Jvm.Cond.classLink "LeadlightHall" (22 : Nat) "LeadlightHall$Sheet") ∈ am_WS := am_in (am_tb1 (List.mem_of_getElem? (i := 47) rfl)) (by decide +kernel)
set_option maxRecDepth 100000 in
theorem wd_472 : (Jvm.Cond.methodLink "LeadlightHall" (88 : Nat) yX7_isGlassWithin) ∈ am_WS := am_in (am_tb2 (List.mem_of_getElem? (i := 232) rfl)) (by decide +kernel)
set_option maxRecDepth 100000 in
theorem wd_474 : (Jvm.Cond.instanceMethod yX7_isGlassWithin) ∈ am_WS := am_in (am_tb2 (List.mem_of_getElem? (i := 234) rfl)) (by decide +kernel)
set_option maxRecDepth 100000 in
theorem wd_475 : (Jvm.Cond.code yX7_isGlassWithin prog_1_method_60_code (8 : Nat) (Option.some Jvm.ClassFile.FieldType.boolean)) ∈ am_WS := am_in (am_tb2 (List.mem_of_getElem? (i := 235) rfl)) (by decide +kernel)
set_option maxRecDepth 100000 in
theorem wd_476 : (Jvm.Cond.methodLink "LeadlightHall" (367 : Nat) yX7_isPiece) ∈ am_WS := am_in (am_tb2 (List.mem_of_getElem? (i := 236) rfl)) (by decide +kernel)
set_option maxRecDepth 100000 in
theorem wd_477 : (Jvm.Cond.static yX7_isPiece) ∈ am_WS := am_in (am_tb2 (List.mem_of_getElem? (i := 237) rfl)) (by decide +kernel)
set_option maxRecDepth 100000 in
theorem wd_478 : (Jvm.Cond.code yX7_isPiece prog_1_method_47_code (1 : Nat) (Option.some Jvm.ClassFile.FieldType.boolean)) ∈ am_WS := am_in (am_tb2 (List.mem_of_getElem? (i := 238) rfl)) (by decide +kernel)
set_option maxRecDepth 100000 in
theorem wd_479 : (Jvm.Cond.methodLink "LeadlightHall" (179 : Nat) yX7_isWithin) ∈ am_WS := am_in (am_tb2 (List.mem_of_getElem? (i := 239) rfl)) (by decide +kernel)
set_option maxRecDepth 100000 in
theorem wd_480 : (Jvm.Cond.classLink "LeadlightHall" (92 : Nat) "java/lang/UnsupportedOperationException") ∈ am_WS := am_in (am_tb3 (List.mem_of_getElem? (i := 0) rfl)) (by decide +kernel)
set_option maxRecDepth 100000 in
theorem wd_49 : (Jvm.Cond.classLink "LeadlightHall" (28 : Nat) "LeadlightHall$Frame") ∈ am_WS := am_in (am_tb1 (List.mem_of_getElem? (i := 49) rfl)) (by decide +kernel)
set_option maxRecDepth 100000 in
theorem wd_496 : (Jvm.Cond.methodLink "LeadlightHall" (103 : Nat) yX5_put) ∈ am_WS := am_in (am_tb3 (List.mem_of_getElem? (i := 16) rfl)) (by decide +kernel)
set_option maxRecDepth 100000 in
theorem wd_497 : (Jvm.Cond.instanceMethod yX5_put) ∈ am_WS := am_in (am_tb3 (List.mem_of_getElem? (i := 17) rfl)) (by decide +kernel)
set_option maxRecDepth 100000 in
theorem wd_498 : (Jvm.Cond.selects "LeadlightHall$Wall" yX5_put yX5_put) ∈ am_WS := am_in (am_tb3 (List.mem_of_getElem? (i := 18) rfl)) (by decide +kernel)
set_option maxRecDepth 100000 in
theorem wd_499 : (Jvm.Cond.code yX5_put prog_7_method_3_code (4 : Nat) (Option.none : Option Jvm.ClassFile.FieldType)) ∈ am_WS := am_in (am_tb3 (List.mem_of_getElem? (i := 19) rfl)) (by decide +kernel)
set_option maxRecDepth 100000 in
theorem wd_5 : (Jvm.Cond.initialized "LeadlightHall$YearSet") ∈ am_WS := am_in (am_tb1 (List.mem_of_getElem? (i := 5) rfl)) (by decide +kernel)
set_option maxRecDepth 100000 in
theorem wd_50 : (Jvm.Cond.instantiable "LeadlightHall$Frame" (3 : Nat)) ∈ am_WS := am_in (am_tb1 (List.mem_of_getElem? (i := 50) rfl)) (by decide +kernel)
set_option maxRecDepth 100000 in
theorem wd_507 : (Jvm.Cond.code yX7_lay prog_1_method_3_code (8 : Nat) (Option.some Jvm.ClassFile.FieldType.int)) ∈ am_WS := am_in (am_tb3 (List.mem_of_getElem? (i := 27) rfl)) (by decide +kernel)
set_option maxRecDepth 100000 in
theorem wd_508 : (Jvm.Cond.methodLink "LeadlightHall" (107 : Nat) yX7_requirePiece) ∈ am_WS := am_in (am_tb3 (List.mem_of_getElem? (i := 28) rfl)) (by decide +kernel)
set_option maxRecDepth 100000 in
theorem wd_509 : (Jvm.Cond.static yX7_requirePiece) ∈ am_WS := am_in (am_tb3 (List.mem_of_getElem? (i := 29) rfl)) (by decide +kernel)
set_option maxRecDepth 100000 in
theorem wd_510 : (Jvm.Cond.code yX7_requirePiece prog_1_method_50_code (1 : Nat) (Option.none : Option Jvm.ClassFile.FieldType)) ∈ am_WS := am_in (am_tb3 (List.mem_of_getElem? (i := 30) rfl)) (by decide +kernel)
set_option maxRecDepth 100000 in
theorem wd_511 : (Jvm.Cond.classLink "LeadlightHall" (415 : Nat) "java/lang/IndexOutOfBoundsException") ∈ am_WS := am_in (am_tb3 (List.mem_of_getElem? (i := 31) rfl)) (by decide +kernel)
set_option maxRecDepth 100000 in
theorem wd_52 : (Jvm.Cond.instanceMethod yX0_init) ∈ am_WS := am_in (am_tb1 (List.mem_of_getElem? (i := 52) rfl)) (by decide +kernel)
set_option maxRecDepth 100000 in
theorem wd_527 : (Jvm.Cond.methodLink "LeadlightHall" (115 : Nat) yX7_isOpenWithin) ∈ am_WS := am_in (am_tb3 (List.mem_of_getElem? (i := 47) rfl)) (by decide +kernel)
set_option maxRecDepth 100000 in
theorem wd_529 : (Jvm.Cond.instanceMethod yX7_isOpenWithin) ∈ am_WS := am_in (am_tb3 (List.mem_of_getElem? (i := 49) rfl)) (by decide +kernel)
set_option maxRecDepth 100000 in
theorem wd_53 : (Jvm.Cond.code yX0_init prog_2_method_1_code (1 : Nat) (Option.none : Option Jvm.ClassFile.FieldType)) ∈ am_WS := am_in (am_tb1 (List.mem_of_getElem? (i := 53) rfl)) (by decide +kernel)
set_option maxRecDepth 100000 in
theorem wd_530 : (Jvm.Cond.code yX7_isOpenWithin prog_1_method_61_code (7 : Nat) (Option.some Jvm.ClassFile.FieldType.boolean)) ∈ am_WS := am_in (am_tb3 (List.mem_of_getElem? (i := 50) rfl)) (by decide +kernel)
set_option maxRecDepth 100000 in
theorem wd_538 : (Jvm.Cond.code yX7_pieceAt prog_1_method_4_code (3 : Nat) (Option.some Jvm.ClassFile.FieldType.int)) ∈ am_WS := am_in (am_tb3 (List.mem_of_getElem? (i := 58) rfl)) (by decide +kernel)
set_option maxRecDepth 100000 in
theorem wd_539 : (Jvm.Cond.methodLink "LeadlightHall" (124 : Nat) yX7_requireCell) ∈ am_WS := am_in (am_tb3 (List.mem_of_getElem? (i := 59) rfl)) (by decide +kernel)
set_option maxRecDepth 100000 in
theorem wd_54 : (Jvm.Cond.methodLink "LeadlightHall$Frame" (3 : Nat) ({ cls := "java/lang/Object", name := "<init>", desc := "()V" } : Jvm.MethodName)) ∈ am_WS := am_in (am_tb1 (List.mem_of_getElem? (i := 54) rfl)) (by decide +kernel)
set_option maxRecDepth 100000 in
theorem wd_540 : (Jvm.Cond.static yX7_requireCell) ∈ am_WS := am_in (am_tb3 (List.mem_of_getElem? (i := 60) rfl)) (by decide +kernel)
set_option maxRecDepth 100000 in
theorem wd_541 : (Jvm.Cond.code yX7_requireCell prog_1_method_52_code (2 : Nat) (Option.none : Option Jvm.ClassFile.FieldType)) ∈ am_WS := am_in (am_tb3 (List.mem_of_getElem? (i := 61) rfl)) (by decide +kernel)
set_option maxRecDepth 100000 in
theorem wd_549 : (Jvm.Cond.code yX7_size prog_1_method_5_code (2 : Nat) (Option.some Jvm.ClassFile.FieldType.int)) ∈ am_WS := am_in (am_tb3 (List.mem_of_getElem? (i := 69) rfl)) (by decide +kernel)
set_option maxRecDepth 100000 in
theorem wd_55 : (Jvm.Cond.fieldLink "LeadlightHall$Frame" (9 : Nat) "LeadlightHall$Frame" "bars" "I") ∈ am_WS := am_in (am_tb1 (List.mem_of_getElem? (i := 55) rfl)) (by decide +kernel)
set_option maxRecDepth 100000 in
theorem wd_556 : (Jvm.Cond.code yX7_corners prog_1_method_6_code (2 : Nat) (Option.some Jvm.ClassFile.FieldType.int)) ∈ am_WS := am_in (am_tb3 (List.mem_of_getElem? (i := 76) rfl)) (by decide +kernel)
set_option maxRecDepth 100000 in
theorem wd_56 : (Jvm.Cond.fieldLink "LeadlightHall$Frame" (15 : Nat) "LeadlightHall$Frame" "profile" "I") ∈ am_WS := am_in (am_tb1 (List.mem_of_getElem? (i := 56) rfl)) (by decide +kernel)
set_option maxRecDepth 100000 in
theorem wd_563 : (Jvm.Cond.code yX7_point prog_1_method_7_code (2 : Nat) (Option.some Jvm.ClassFile.FieldType.int)) ∈ am_WS := am_in (am_tb3 (List.mem_of_getElem? (i := 83) rfl)) (by decide +kernel)
set_option maxRecDepth 100000 in
theorem wd_564 : (Jvm.Cond.methodLink "LeadlightHall" (136 : Nat) yX3_longestNarrow) ∈ am_WS := am_in (am_tb3 (List.mem_of_getElem? (i := 84) rfl)) (by decide +kernel)
set_option maxRecDepth 100000 in
theorem wd_565 : (Jvm.Cond.instanceMethod yX3_longestNarrow) ∈ am_WS := am_in (am_tb3 (List.mem_of_getElem? (i := 85) rfl)) (by decide +kernel)
set_option maxRecDepth 100000 in
theorem wd_566 : (Jvm.Cond.selects "LeadlightHall$Shape" yX3_longestNarrow yX3_longestNarrow) ∈ am_WS := am_in (am_tb3 (List.mem_of_getElem? (i := 86) rfl)) (by decide +kernel)
set_option maxRecDepth 100000 in
theorem wd_567 : (Jvm.Cond.code yX3_longestNarrow prog_5_method_11_code (3 : Nat) (Option.some Jvm.ClassFile.FieldType.int)) ∈ am_WS := am_in (am_tb3 (List.mem_of_getElem? (i := 87) rfl)) (by decide +kernel)
set_option maxRecDepth 100000 in
theorem wd_568 : (Jvm.Cond.methodLink "LeadlightHall$Shape" (45 : Nat) yX3_narrowInRow) ∈ am_WS := am_in (am_tb3 (List.mem_of_getElem? (i := 88) rfl)) (by decide +kernel)
set_option maxRecDepth 100000 in
theorem wd_570 : (Jvm.Cond.instanceMethod yX3_narrowInRow) ∈ am_WS := am_in (am_tb3 (List.mem_of_getElem? (i := 90) rfl)) (by decide +kernel)
set_option maxRecDepth 100000 in
theorem wd_571 : (Jvm.Cond.code yX3_narrowInRow prog_5_method_12_code (2 : Nat) (Option.some Jvm.ClassFile.FieldType.int)) ∈ am_WS := am_in (am_tb3 (List.mem_of_getElem? (i := 91) rfl)) (by decide +kernel)
set_option maxRecDepth 100000 in
theorem wd_572 : (Jvm.Cond.methodLink "LeadlightHall$Shape" (60 : Nat) yX3_row) ∈ am_WS := am_in (am_tb3 (List.mem_of_getElem? (i := 92) rfl)) (by decide +kernel)
set_option maxRecDepth 100000 in
theorem wd_573 : (Jvm.Cond.instanceMethod yX3_row) ∈ am_WS := am_in (am_tb3 (List.mem_of_getElem? (i := 93) rfl)) (by decide +kernel)
set_option maxRecDepth 100000 in
theorem wd_574 : (Jvm.Cond.selects "LeadlightHall$Shape" yX3_row yX3_row) ∈ am_WS := am_in (am_tb3 (List.mem_of_getElem? (i := 94) rfl)) (by decide +kernel)
set_option maxRecDepth 100000 in
theorem wd_575 : (Jvm.Cond.code yX3_row prog_5_method_5_code (2 : Nat) (Option.some Jvm.ClassFile.FieldType.int)) ∈ am_WS := am_in (am_tb3 (List.mem_of_getElem? (i := 95) rfl)) (by decide +kernel)
set_option maxRecDepth 100000 in
theorem wd_576 : (Jvm.Cond.methodLink "LeadlightHall$Shape" (48 : Nat) yX3_longestRun) ∈ am_WS := am_in (am_tb3 (List.mem_of_getElem? (i := 96) rfl)) (by decide +kernel)
set_option maxRecDepth 100000 in
theorem wd_577 : (Jvm.Cond.static yX3_longestRun) ∈ am_WS := am_in (am_tb3 (List.mem_of_getElem? (i := 97) rfl)) (by decide +kernel)
set_option maxRecDepth 100000 in
theorem wd_578 : (Jvm.Cond.code yX3_longestRun prog_5_method_14_code (4 : Nat) (Option.some Jvm.ClassFile.FieldType.int)) ∈ am_WS := am_in (am_tb3 (List.mem_of_getElem? (i := 98) rfl)) (by decide +kernel)
set_option maxRecDepth 100000 in
theorem wd_579 : (Jvm.Cond.methodLink "LeadlightHall$Shape" (51 : Nat) yJ9_max_7cf53) ∈ am_WS := am_in (am_tb3 (List.mem_of_getElem? (i := 99) rfl)) (by decide +kernel)
set_option maxRecDepth 100000 in
theorem wd_58 : (Jvm.Cond.fieldLink "LeadlightHall$Frame" (18 : Nat) "LeadlightHall$Frame" "wind" "I") ∈ am_WS := am_in (am_tb1 (List.mem_of_getElem? (i := 58) rfl)) (by decide +kernel)
set_option maxRecDepth 100000 in
theorem wd_580 : (Jvm.Cond.methodLink "LeadlightHall$Shape" (57 : Nat) yX3_narrowInColumn) ∈ am_WS := am_in (am_tb3 (List.mem_of_getElem? (i := 100) rfl)) (by decide +kernel)
set_option maxRecDepth 100000 in
theorem wd_582 : (Jvm.Cond.instanceMethod yX3_narrowInColumn) ∈ am_WS := am_in (am_tb3 (List.mem_of_getElem? (i := 102) rfl)) (by decide +kernel)
set_option maxRecDepth 100000 in
theorem wd_583 : (Jvm.Cond.code yX3_narrowInColumn prog_5_method_13_code (4 : Nat) (Option.some Jvm.ClassFile.FieldType.int)) ∈ am_WS := am_in (am_tb3 (List.mem_of_getElem? (i := 103) rfl)) (by decide +kernel)
set_option maxRecDepth 100000 in
theorem wd_584 : (Jvm.Cond.methodLink "LeadlightHall$Shape" (63 : Nat) yX3_has) ∈ am_WS := am_in (am_tb3 (List.mem_of_getElem? (i := 104) rfl)) (by decide +kernel)
set_option maxRecDepth 100000 in
theorem wd_585 : (Jvm.Cond.instanceMethod yX3_has) ∈ am_WS := am_in (am_tb3 (List.mem_of_getElem? (i := 105) rfl)) (by decide +kernel)
set_option maxRecDepth 100000 in
theorem wd_586 : (Jvm.Cond.selects "LeadlightHall$Shape" yX3_has yX3_has) ∈ am_WS := am_in (am_tb3 (List.mem_of_getElem? (i := 106) rfl)) (by decide +kernel)
set_option maxRecDepth 100000 in
theorem wd_587 : (Jvm.Cond.code yX3_has prog_5_method_4_code (3 : Nat) (Option.some Jvm.ClassFile.FieldType.boolean)) ∈ am_WS := am_in (am_tb3 (List.mem_of_getElem? (i := 107) rfl)) (by decide +kernel)
set_option maxRecDepth 100000 in
theorem wd_594 : (Jvm.Cond.code yX7_hinders prog_1_method_8_code (2 : Nat) (Option.some Jvm.ClassFile.FieldType.char)) ∈ am_WS := am_in (am_tb3 (List.mem_of_getElem? (i := 114) rfl)) (by decide +kernel)
set_option maxRecDepth 100000 in
theorem wd_595 : (Jvm.Cond.methodLink "LeadlightHall" (139 : Nat) yX3_hindrance) ∈ am_WS := am_in (am_tb3 (List.mem_of_getElem? (i := 115) rfl)) (by decide +kernel)
set_option maxRecDepth 100000 in
theorem wd_596 : (Jvm.Cond.instanceMethod yX3_hindrance) ∈ am_WS := am_in (am_tb3 (List.mem_of_getElem? (i := 116) rfl)) (by decide +kernel)
set_option maxRecDepth 100000 in
theorem wd_597 : (Jvm.Cond.selects "LeadlightHall$Shape" yX3_hindrance yX3_hindrance) ∈ am_WS := am_in (am_tb3 (List.mem_of_getElem? (i := 117) rfl)) (by decide +kernel)
set_option maxRecDepth 100000 in
theorem wd_598 : (Jvm.Cond.code yX3_hindrance prog_5_method_7_code (1 : Nat) (Option.some Jvm.ClassFile.FieldType.char)) ∈ am_WS := am_in (am_tb3 (List.mem_of_getElem? (i := 118) rfl)) (by decide +kernel)
set_option maxRecDepth 100000 in
theorem wd_599 : (Jvm.Cond.methodLink "LeadlightHall$Shape" (28 : Nat) yX3_cellCount) ∈ am_WS := am_in (am_tb3 (List.mem_of_getElem? (i := 119) rfl)) (by decide +kernel)
set_option maxRecDepth 100000 in
theorem wd_6 : (Jvm.Cond.initialized "LeadlightHall$Pane") ∈ am_WS := am_in (am_tb1 (List.mem_of_getElem? (i := 6) rfl)) (by decide +kernel)
set_option maxRecDepth 100000 in
theorem wd_600 : (Jvm.Cond.instanceMethod yX3_cellCount) ∈ am_WS := am_in (am_tb3 (List.mem_of_getElem? (i := 120) rfl)) (by decide +kernel)
set_option maxRecDepth 100000 in
theorem wd_601 : (Jvm.Cond.selects "LeadlightHall$Shape" yX3_cellCount yX3_cellCount) ∈ am_WS := am_in (am_tb3 (List.mem_of_getElem? (i := 121) rfl)) (by decide +kernel)
set_option maxRecDepth 100000 in
theorem wd_602 : (Jvm.Cond.code yX3_cellCount prog_5_method_6_code (3 : Nat) (Option.some Jvm.ClassFile.FieldType.int)) ∈ am_WS := am_in (am_tb3 (List.mem_of_getElem? (i := 122) rfl)) (by decide +kernel)
set_option maxRecDepth 100000 in
theorem wd_603 : (Jvm.Cond.methodLink "LeadlightHall$Shape" (32 : Nat) yX3_isWhole) ∈ am_WS := am_in (am_tb3 (List.mem_of_getElem? (i := 123) rfl)) (by decide +kernel)
set_option maxRecDepth 100000 in
theorem wd_604 : (Jvm.Cond.methodLink "LeadlightHall$Shape" (36 : Nat) yX3_innerCorners) ∈ am_WS := am_in (am_tb3 (List.mem_of_getElem? (i := 124) rfl)) (by decide +kernel)
set_option maxRecDepth 100000 in
theorem wd_605 : (Jvm.Cond.methodLink "LeadlightHall$Shape" (39 : Nat) yX3_longestNarrow) ∈ am_WS := am_in (am_tb3 (List.mem_of_getElem? (i := 125) rfl)) (by decide +kernel)
set_option maxRecDepth 100000 in
theorem wd_613 : (Jvm.Cond.code yX7_split prog_1_method_9_code (4 : Nat) (Option.some Jvm.ClassFile.FieldType.int)) ∈ am_WS := am_in (am_tb3 (List.mem_of_getElem? (i := 133) rfl)) (by decide +kernel)
set_option maxRecDepth 100000 in
theorem wd_614 : (Jvm.Cond.methodLink "LeadlightHall" (143 : Nat) yX3_bestLead) ∈ am_WS := am_in (am_tb3 (List.mem_of_getElem? (i := 134) rfl)) (by decide +kernel)
set_option maxRecDepth 100000 in
theorem wd_615 : (Jvm.Cond.instanceMethod yX3_bestLead) ∈ am_WS := am_in (am_tb3 (List.mem_of_getElem? (i := 135) rfl)) (by decide +kernel)
set_option maxRecDepth 100000 in
theorem wd_616 : (Jvm.Cond.selects "LeadlightHall$Shape" yX3_bestLead yX3_bestLead) ∈ am_WS := am_in (am_tb3 (List.mem_of_getElem? (i := 136) rfl)) (by decide +kernel)
set_option maxRecDepth 100000 in
theorem wd_617 : (Jvm.Cond.code yX3_bestLead prog_5_method_15_code (6 : Nat) (Option.some Jvm.ClassFile.FieldType.int)) ∈ am_WS := am_in (am_tb3 (List.mem_of_getElem? (i := 137) rfl)) (by decide +kernel)
set_option maxRecDepth 100000 in
theorem wd_618 : (Jvm.Cond.methodLink "LeadlightHall$Shape" (66 : Nat) yX3_partBy) ∈ am_WS := am_in (am_tb3 (List.mem_of_getElem? (i := 138) rfl)) (by decide +kernel)
set_option maxRecDepth 100000 in
theorem wd_619 : (Jvm.Cond.instanceMethod yX3_partBy) ∈ am_WS := am_in (am_tb3 (List.mem_of_getElem? (i := 139) rfl)) (by decide +kernel)
set_option maxRecDepth 100000 in
theorem wd_620 : (Jvm.Cond.selects "LeadlightHall$Shape" yX3_partBy yX3_partBy) ∈ am_WS := am_in (am_tb3 (List.mem_of_getElem? (i := 140) rfl)) (by decide +kernel)
set_option maxRecDepth 100000 in
theorem wd_621 : (Jvm.Cond.code yX3_partBy prog_5_method_16_code (6 : Nat) (Option.none : Option Jvm.ClassFile.FieldType)) ∈ am_WS := am_in (am_tb3 (List.mem_of_getElem? (i := 141) rfl)) (by decide +kernel)
set_option maxRecDepth 100000 in
theorem wd_622 : (Jvm.Cond.methodLink "LeadlightHall$Shape" (70 : Nat) yX3_hindrance) ∈ am_WS := am_in (am_tb3 (List.mem_of_getElem? (i := 142) rfl)) (by decide +kernel)
set_option maxRecDepth 100000 in
theorem wd_623 : (Jvm.Cond.methodLink "LeadlightHall$Shape" (74 : Nat) yX3_touchesOver) ∈ am_WS := am_in (am_tb3 (List.mem_of_getElem? (i := 143) rfl)) (by decide +kernel)
set_option maxRecDepth 100000 in
theorem wd_625 : (Jvm.Cond.instanceMethod yX3_touchesOver) ∈ am_WS := am_in (am_tb3 (List.mem_of_getElem? (i := 145) rfl)) (by decide +kernel)
set_option maxRecDepth 100000 in
theorem wd_626 : (Jvm.Cond.code yX3_touchesOver prog_5_method_17_code (4 : Nat) (Option.some Jvm.ClassFile.FieldType.int)) ∈ am_WS := am_in (am_tb3 (List.mem_of_getElem? (i := 146) rfl)) (by decide +kernel)
set_option maxRecDepth 100000 in
theorem wd_628 : (Jvm.Cond.methodLink "LeadlightHall" (149 : Nat) yX7_lowestWithoutCells) ∈ am_WS := am_in (am_tb3 (List.mem_of_getElem? (i := 148) rfl)) (by decide +kernel)
set_option maxRecDepth 100000 in
theorem wd_630 : (Jvm.Cond.instanceMethod yX7_lowestWithoutCells) ∈ am_WS := am_in (am_tb3 (List.mem_of_getElem? (i := 150) rfl)) (by decide +kernel)
set_option maxRecDepth 100000 in
theorem wd_631 : (Jvm.Cond.code yX7_lowestWithoutCells prog_1_method_59_code (3 : Nat) (Option.some Jvm.ClassFile.FieldType.int)) ∈ am_WS := am_in (am_tb3 (List.mem_of_getElem? (i := 151) rfl)) (by decide +kernel)
set_option maxRecDepth 100000 in
theorem wd_632 : (Jvm.Cond.classLink "LeadlightHall" (152 : Nat) "java/lang/IllegalStateException") ∈ am_WS := am_in (am_tb3 (List.mem_of_getElem? (i := 152) rfl)) (by decide +kernel)
set_option maxRecDepth 100000 in
theorem wd_648 : (Jvm.Cond.methodLink "LeadlightHall" (157 : Nat) yX3_partBy) ∈ am_WS := am_in (am_tb3 (List.mem_of_getElem? (i := 168) rfl)) (by decide +kernel)
set_option maxRecDepth 100000 in
theorem wd_649 : (Jvm.Cond.methodLink "LeadlightHall" (161 : Nat) yX5_putShape) ∈ am_WS := am_in (am_tb3 (List.mem_of_getElem? (i := 169) rfl)) (by decide +kernel)
set_option maxRecDepth 100000 in
theorem wd_650 : (Jvm.Cond.instanceMethod yX5_putShape) ∈ am_WS := am_in (am_tb3 (List.mem_of_getElem? (i := 170) rfl)) (by decide +kernel)
set_option maxRecDepth 100000 in
theorem wd_651 : (Jvm.Cond.selects "LeadlightHall$Wall" yX5_putShape yX5_putShape) ∈ am_WS := am_in (am_tb3 (List.mem_of_getElem? (i := 171) rfl)) (by decide +kernel)
set_option maxRecDepth 100000 in
theorem wd_652 : (Jvm.Cond.code yX5_putShape prog_7_method_4_code (5 : Nat) (Option.none : Option Jvm.ClassFile.FieldType)) ∈ am_WS := am_in (am_tb3 (List.mem_of_getElem? (i := 172) rfl)) (by decide +kernel)
set_option maxRecDepth 100000 in
theorem wd_653 : (Jvm.Cond.methodLink "LeadlightHall$Wall" (19 : Nat) yX3_has) ∈ am_WS := am_in (am_tb3 (List.mem_of_getElem? (i := 173) rfl)) (by decide +kernel)
set_option maxRecDepth 100000 in
theorem wd_654 : (Jvm.Cond.methodLink "LeadlightHall$Wall" (24 : Nat) yX5_put) ∈ am_WS := am_in (am_tb3 (List.mem_of_getElem? (i := 174) rfl)) (by decide +kernel)
set_option maxRecDepth 100000 in
theorem wd_655 : (Jvm.Cond.methodLink "LeadlightHall" (165 : Nat) yX2_wantLike) ∈ am_WS := am_in (am_tb3 (List.mem_of_getElem? (i := 175) rfl)) (by decide +kernel)
set_option maxRecDepth 100000 in
theorem wd_656 : (Jvm.Cond.instanceMethod yX2_wantLike) ∈ am_WS := am_in (am_tb3 (List.mem_of_getElem? (i := 176) rfl)) (by decide +kernel)
set_option maxRecDepth 100000 in
theorem wd_657 : (Jvm.Cond.selects "LeadlightHall$Pane" yX2_wantLike yX2_wantLike) ∈ am_WS := am_in (am_tb3 (List.mem_of_getElem? (i := 177) rfl)) (by decide +kernel)
set_option maxRecDepth 100000 in
theorem wd_658 : (Jvm.Cond.code yX2_wantLike prog_4_method_4_code (2 : Nat) (Option.none : Option Jvm.ClassFile.FieldType)) ∈ am_WS := am_in (am_tb3 (List.mem_of_getElem? (i := 178) rfl)) (by decide +kernel)
set_option maxRecDepth 100000 in
theorem wd_665 : (Jvm.Cond.code yX7_sheet prog_1_method_12_code (5 : Nat) (Option.some Jvm.ClassFile.FieldType.int)) ∈ am_WS := am_in (am_tb3 (List.mem_of_getElem? (i := 185) rfl)) (by decide +kernel)
set_option maxRecDepth 100000 in
theorem wd_666 : (Jvm.Cond.methodLink "LeadlightHall" (175 : Nat) yX7_isColour) ∈ am_WS := am_in (am_tb3 (List.mem_of_getElem? (i := 186) rfl)) (by decide +kernel)
set_option maxRecDepth 100000 in
theorem wd_667 : (Jvm.Cond.static yX7_isColour) ∈ am_WS := am_in (am_tb3 (List.mem_of_getElem? (i := 187) rfl)) (by decide +kernel)
set_option maxRecDepth 100000 in
theorem wd_668 : (Jvm.Cond.code yX7_isColour prog_1_method_48_code (1 : Nat) (Option.some Jvm.ClassFile.FieldType.boolean)) ∈ am_WS := am_in (am_tb3 (List.mem_of_getElem? (i := 188) rfl)) (by decide +kernel)
set_option maxRecDepth 100000 in
theorem wd_669 : (Jvm.Cond.methodLink "LeadlightHall" (183 : Nat) yX7_isDirection) ∈ am_WS := am_in (am_tb3 (List.mem_of_getElem? (i := 189) rfl)) (by decide +kernel)
set_option maxRecDepth 100000 in
theorem wd_67 : (Jvm.Cond.classLink "LeadlightHall" (58 : Nat) "LeadlightHall$Shape") ∈ am_WS := am_in (am_tb1 (List.mem_of_getElem? (i := 67) rfl)) (by decide +kernel)
set_option maxRecDepth 100000 in
theorem wd_670 : (Jvm.Cond.static yX7_isDirection) ∈ am_WS := am_in (am_tb3 (List.mem_of_getElem? (i := 190) rfl)) (by decide +kernel)
set_option maxRecDepth 100000 in
theorem wd_671 : (Jvm.Cond.code yX7_isDirection prog_1_method_49_code (1 : Nat) (Option.some Jvm.ClassFile.FieldType.boolean)) ∈ am_WS := am_in (am_tb3 (List.mem_of_getElem? (i := 191) rfl)) (by decide +kernel)
set_option maxRecDepth 100000 in
theorem wd_674 : (Jvm.Cond.methodLink "LeadlightHall" (194 : Nat) yX4_become) ∈ am_WS := am_in (am_tb3 (List.mem_of_getElem? (i := 194) rfl)) (by decide +kernel)
set_option maxRecDepth 100000 in
theorem wd_675 : (Jvm.Cond.instanceMethod yX4_become) ∈ am_WS := am_in (am_tb3 (List.mem_of_getElem? (i := 195) rfl)) (by decide +kernel)
set_option maxRecDepth 100000 in
theorem wd_676 : (Jvm.Cond.selects "LeadlightHall$Sheet" yX4_become yX4_become) ∈ am_WS := am_in (am_tb3 (List.mem_of_getElem? (i := 196) rfl)) (by decide +kernel)
set_option maxRecDepth 100000 in
theorem wd_677 : (Jvm.Cond.code yX4_become prog_6_method_2_code (5 : Nat) (Option.none : Option Jvm.ClassFile.FieldType)) ∈ am_WS := am_in (am_tb3 (List.mem_of_getElem? (i := 197) rfl)) (by decide +kernel)
set_option maxRecDepth 100000 in
theorem wd_68 : (Jvm.Cond.instantiable "LeadlightHall$Shape" (2 : Nat)) ∈ am_WS := am_in (am_tb1 (List.mem_of_getElem? (i := 68) rfl)) (by decide +kernel)
set_option maxRecDepth 100000 in
theorem wd_684 : (Jvm.Cond.code yX7_free prog_1_method_13_code (2 : Nat) (Option.some Jvm.ClassFile.FieldType.int)) ∈ am_WS := am_in (am_tb3 (List.mem_of_getElem? (i := 204) rfl)) (by decide +kernel)
set_option maxRecDepth 100000 in
theorem wd_685 : (Jvm.Cond.methodLink "LeadlightHall" (198 : Nat) yX7_requireSheet) ∈ am_WS := am_in (am_tb3 (List.mem_of_getElem? (i := 205) rfl)) (by decide +kernel)
set_option maxRecDepth 100000 in
theorem wd_687 : (Jvm.Cond.instanceMethod yX7_requireSheet) ∈ am_WS := am_in (am_tb3 (List.mem_of_getElem? (i := 207) rfl)) (by decide +kernel)
set_option maxRecDepth 100000 in
theorem wd_688 : (Jvm.Cond.code yX7_requireSheet prog_1_method_51_code (2 : Nat) (Option.none : Option Jvm.ClassFile.FieldType)) ∈ am_WS := am_in (am_tb3 (List.mem_of_getElem? (i := 208) rfl)) (by decide +kernel)
set_option maxRecDepth 100000 in
theorem wd_689 : (Jvm.Cond.methodLink "LeadlightHall" (201 : Nat) yX4_freeCells) ∈ am_WS := am_in (am_tb3 (List.mem_of_getElem? (i := 209) rfl)) (by decide +kernel)
set_option maxRecDepth 100000 in
theorem wd_690 : (Jvm.Cond.instanceMethod yX4_freeCells) ∈ am_WS := am_in (am_tb3 (List.mem_of_getElem? (i := 210) rfl)) (by decide +kernel)
set_option maxRecDepth 100000 in
theorem wd_691 : (Jvm.Cond.selects "LeadlightHall$Sheet" yX4_freeCells yX4_freeCells) ∈ am_WS := am_in (am_tb3 (List.mem_of_getElem? (i := 211) rfl)) (by decide +kernel)
set_option maxRecDepth 100000 in
theorem wd_692 : (Jvm.Cond.code yX4_freeCells prog_6_method_4_code (1 : Nat) (Option.some Jvm.ClassFile.FieldType.int)) ∈ am_WS := am_in (am_tb3 (List.mem_of_getElem? (i := 212) rfl)) (by decide +kernel)
set_option maxRecDepth 100000 in
theorem wd_693 : (Jvm.Cond.methodLink "LeadlightHall$Sheet" (35 : Nat) yX4_usedCells) ∈ am_WS := am_in (am_tb3 (List.mem_of_getElem? (i := 213) rfl)) (by decide +kernel)
set_option maxRecDepth 100000 in
theorem wd_7 : (Jvm.Cond.initialized "LeadlightHall$Paint") ∈ am_WS := am_in (am_tb1 (List.mem_of_getElem? (i := 7) rfl)) (by decide +kernel)
set_option maxRecDepth 100000 in
theorem wd_70 : (Jvm.Cond.instanceMethod yX3_init) ∈ am_WS := am_in (am_tb1 (List.mem_of_getElem? (i := 70) rfl)) (by decide +kernel)
set_option maxRecDepth 100000 in
theorem wd_700 : (Jvm.Cond.code yX7_want prog_1_method_14_code (6 : Nat) (Option.some Jvm.ClassFile.FieldType.boolean)) ∈ am_WS := am_in (am_tb3 (List.mem_of_getElem? (i := 220) rfl)) (by decide +kernel)
set_option maxRecDepth 100000 in
theorem wd_708 : (Jvm.Cond.code yX7_cut prog_1_method_15_code (8 : Nat) (Option.some Jvm.ClassFile.FieldType.boolean)) ∈ am_WS := am_in (am_tb3 (List.mem_of_getElem? (i := 228) rfl)) (by decide +kernel)
set_option maxRecDepth 100000 in
theorem wd_709 : (Jvm.Cond.methodLink "LeadlightHall" (213 : Nat) yX2_wants) ∈ am_WS := am_in (am_tb3 (List.mem_of_getElem? (i := 229) rfl)) (by decide +kernel)
set_option maxRecDepth 100000 in
theorem wd_71 : (Jvm.Cond.code yX3_init prog_5_method_1_code (1 : Nat) (Option.none : Option Jvm.ClassFile.FieldType)) ∈ am_WS := am_in (am_tb1 (List.mem_of_getElem? (i := 71) rfl)) (by decide +kernel)
set_option maxRecDepth 100000 in
theorem wd_710 : (Jvm.Cond.instanceMethod yX2_wants) ∈ am_WS := am_in (am_tb3 (List.mem_of_getElem? (i := 230) rfl)) (by decide +kernel)
set_option maxRecDepth 100000 in
theorem wd_711 : (Jvm.Cond.selects "LeadlightHall$Pane" yX2_wants yX2_wants) ∈ am_WS := am_in (am_tb3 (List.mem_of_getElem? (i := 231) rfl)) (by decide +kernel)
set_option maxRecDepth 100000 in
theorem wd_712 : (Jvm.Cond.code yX2_wants prog_4_method_5_code (3 : Nat) (Option.some Jvm.ClassFile.FieldType.boolean)) ∈ am_WS := am_in (am_tb3 (List.mem_of_getElem? (i := 232) rfl)) (by decide +kernel)
set_option maxRecDepth 100000 in
theorem wd_713 : (Jvm.Cond.methodLink "LeadlightHall$Pane" (45 : Nat) yX4_streaksOf) ∈ am_WS := am_in (am_tb3 (List.mem_of_getElem? (i := 233) rfl)) (by decide +kernel)
set_option maxRecDepth 100000 in
theorem wd_714 : (Jvm.Cond.instanceMethod yX4_streaksOf) ∈ am_WS := am_in (am_tb3 (List.mem_of_getElem? (i := 234) rfl)) (by decide +kernel)
set_option maxRecDepth 100000 in
theorem wd_715 : (Jvm.Cond.selects "LeadlightHall$Sheet" yX4_streaksOf yX4_streaksOf) ∈ am_WS := am_in (am_tb3 (List.mem_of_getElem? (i := 235) rfl)) (by decide +kernel)
set_option maxRecDepth 100000 in
theorem wd_716 : (Jvm.Cond.code yX4_streaksOf prog_6_method_5_code (2 : Nat) (Option.some Jvm.ClassFile.FieldType.char)) ∈ am_WS := am_in (am_tb3 (List.mem_of_getElem? (i := 236) rfl)) (by decide +kernel)
set_option maxRecDepth 100000 in
theorem wd_718 : (Jvm.Cond.methodLink "LeadlightHall" (219 : Nat) yX3_moveToCorner) ∈ am_WS := am_in (am_tb3 (List.mem_of_getElem? (i := 238) rfl)) (by decide +kernel)
set_option maxRecDepth 100000 in
theorem wd_719 : (Jvm.Cond.instanceMethod yX3_moveToCorner) ∈ am_WS := am_in (am_tb3 (List.mem_of_getElem? (i := 239) rfl)) (by decide +kernel)
set_option maxRecDepth 100000 in
theorem wd_72 : (Jvm.Cond.methodLink "LeadlightHall$Shape" (3 : Nat) ({ cls := "java/lang/Object", name := "<init>", desc := "()V" } : Jvm.MethodName)) ∈ am_WS := am_in (am_tb1 (List.mem_of_getElem? (i := 72) rfl)) (by decide +kernel)
set_option maxRecDepth 100000 in
theorem wd_720 : (Jvm.Cond.selects "LeadlightHall$Shape" yX3_moveToCorner yX3_moveToCorner) ∈ am_WS := am_in (am_tb4 (List.mem_of_getElem? (i := 0) rfl)) (by decide +kernel)
set_option maxRecDepth 100000 in
theorem wd_721 : (Jvm.Cond.code yX3_moveToCorner prog_5_method_18_code (5 : Nat) (Option.none : Option Jvm.ClassFile.FieldType)) ∈ am_WS := am_in (am_tb4 (List.mem_of_getElem? (i := 1) rfl)) (by decide +kernel)
set_option maxRecDepth 100000 in
theorem wd_722 : (Jvm.Cond.methodLink "LeadlightHall$Shape" (77 : Nat) yX3_columnsUsed) ∈ am_WS := am_in (am_tb4 (List.mem_of_getElem? (i := 2) rfl)) (by decide +kernel)
set_option maxRecDepth 100000 in
theorem wd_724 : (Jvm.Cond.instanceMethod yX3_columnsUsed) ∈ am_WS := am_in (am_tb4 (List.mem_of_getElem? (i := 4) rfl)) (by decide +kernel)
set_option maxRecDepth 100000 in
theorem wd_725 : (Jvm.Cond.code yX3_columnsUsed prog_5_method_22_code (3 : Nat) (Option.some Jvm.ClassFile.FieldType.int)) ∈ am_WS := am_in (am_tb4 (List.mem_of_getElem? (i := 5) rfl)) (by decide +kernel)
set_option maxRecDepth 100000 in
theorem wd_726 : (Jvm.Cond.methodLink "LeadlightHall" (222 : Nat) yX3_turnInto) ∈ am_WS := am_in (am_tb4 (List.mem_of_getElem? (i := 6) rfl)) (by decide +kernel)
set_option maxRecDepth 100000 in
theorem wd_727 : (Jvm.Cond.instanceMethod yX3_turnInto) ∈ am_WS := am_in (am_tb4 (List.mem_of_getElem? (i := 7) rfl)) (by decide +kernel)
set_option maxRecDepth 100000 in
theorem wd_728 : (Jvm.Cond.selects "LeadlightHall$Shape" yX3_turnInto yX3_turnInto) ∈ am_WS := am_in (am_tb4 (List.mem_of_getElem? (i := 8) rfl)) (by decide +kernel)
set_option maxRecDepth 100000 in
theorem wd_729 : (Jvm.Cond.code yX3_turnInto prog_5_method_19_code (5 : Nat) (Option.none : Option Jvm.ClassFile.FieldType)) ∈ am_WS := am_in (am_tb4 (List.mem_of_getElem? (i := 9) rfl)) (by decide +kernel)
set_option maxRecDepth 100000 in
theorem wd_73 : (Jvm.Cond.fieldLink "LeadlightHall$Shape" (9 : Nat) "LeadlightHall$Shape" "rows" "[I") ∈ am_WS := am_in (am_tb1 (List.mem_of_getElem? (i := 73) rfl)) (by decide +kernel)
set_option maxRecDepth 100000 in
theorem wd_730 : (Jvm.Cond.methodLink "LeadlightHall$Shape" (80 : Nat) yX3_clear) ∈ am_WS := am_in (am_tb4 (List.mem_of_getElem? (i := 10) rfl)) (by decide +kernel)
set_option maxRecDepth 100000 in
theorem wd_731 : (Jvm.Cond.methodLink "LeadlightHall$Shape" (83 : Nat) yX3_height) ∈ am_WS := am_in (am_tb4 (List.mem_of_getElem? (i := 11) rfl)) (by decide +kernel)
set_option maxRecDepth 100000 in
theorem wd_732 : (Jvm.Cond.instanceMethod yX3_height) ∈ am_WS := am_in (am_tb4 (List.mem_of_getElem? (i := 12) rfl)) (by decide +kernel)
set_option maxRecDepth 100000 in
theorem wd_733 : (Jvm.Cond.selects "LeadlightHall$Shape" yX3_height yX3_height) ∈ am_WS := am_in (am_tb4 (List.mem_of_getElem? (i := 13) rfl)) (by decide +kernel)
set_option maxRecDepth 100000 in
theorem wd_734 : (Jvm.Cond.code yX3_height prog_5_method_20_code (2 : Nat) (Option.some Jvm.ClassFile.FieldType.int)) ∈ am_WS := am_in (am_tb4 (List.mem_of_getElem? (i := 14) rfl)) (by decide +kernel)
set_option maxRecDepth 100000 in
theorem wd_735 : (Jvm.Cond.methodLink "LeadlightHall$Shape" (86 : Nat) yX3_add) ∈ am_WS := am_in (am_tb4 (List.mem_of_getElem? (i := 15) rfl)) (by decide +kernel)
set_option maxRecDepth 100000 in
theorem wd_736 : (Jvm.Cond.methodLink "LeadlightHall" (226 : Nat) yX4_placeFor) ∈ am_WS := am_in (am_tb4 (List.mem_of_getElem? (i := 16) rfl)) (by decide +kernel)
set_option maxRecDepth 100000 in
theorem wd_737 : (Jvm.Cond.instanceMethod yX4_placeFor) ∈ am_WS := am_in (am_tb4 (List.mem_of_getElem? (i := 17) rfl)) (by decide +kernel)
set_option maxRecDepth 100000 in
theorem wd_738 : (Jvm.Cond.selects "LeadlightHall$Sheet" yX4_placeFor yX4_placeFor) ∈ am_WS := am_in (am_tb4 (List.mem_of_getElem? (i := 18) rfl)) (by decide +kernel)
set_option maxRecDepth 100000 in
theorem wd_739 : (Jvm.Cond.code yX4_placeFor prog_6_method_6_code (6 : Nat) (Option.some Jvm.ClassFile.FieldType.int)) ∈ am_WS := am_in (am_tb4 (List.mem_of_getElem? (i := 19) rfl)) (by decide +kernel)
set_option maxRecDepth 100000 in
theorem wd_74 : (Jvm.Cond.fieldLink "LeadlightHall$Shape" (15 : Nat) "LeadlightHall$Shape" "reached" "[I") ∈ am_WS := am_in (am_tb1 (List.mem_of_getElem? (i := 74) rfl)) (by decide +kernel)
set_option maxRecDepth 100000 in
theorem wd_740 : (Jvm.Cond.methodLink "LeadlightHall$Sheet" (39 : Nat) yX3_height) ∈ am_WS := am_in (am_tb4 (List.mem_of_getElem? (i := 20) rfl)) (by decide +kernel)
set_option maxRecDepth 100000 in
theorem wd_741 : (Jvm.Cond.methodLink "LeadlightHall$Sheet" (43 : Nat) yX3_width) ∈ am_WS := am_in (am_tb4 (List.mem_of_getElem? (i := 21) rfl)) (by decide +kernel)
set_option maxRecDepth 100000 in
theorem wd_742 : (Jvm.Cond.instanceMethod yX3_width) ∈ am_WS := am_in (am_tb4 (List.mem_of_getElem? (i := 22) rfl)) (by decide +kernel)
set_option maxRecDepth 100000 in
theorem wd_743 : (Jvm.Cond.selects "LeadlightHall$Shape" yX3_width yX3_width) ∈ am_WS := am_in (am_tb4 (List.mem_of_getElem? (i := 23) rfl)) (by decide +kernel)
set_option maxRecDepth 100000 in
theorem wd_744 : (Jvm.Cond.code yX3_width prog_5_method_21_code (3 : Nat) (Option.some Jvm.ClassFile.FieldType.int)) ∈ am_WS := am_in (am_tb4 (List.mem_of_getElem? (i := 24) rfl)) (by decide +kernel)
set_option maxRecDepth 100000 in
theorem wd_745 : (Jvm.Cond.methodLink "LeadlightHall$Sheet" (45 : Nat) yX4_isFreeAt) ∈ am_WS := am_in (am_tb4 (List.mem_of_getElem? (i := 25) rfl)) (by decide +kernel)
set_option maxRecDepth 100000 in
theorem wd_747 : (Jvm.Cond.instanceMethod yX4_isFreeAt) ∈ am_WS := am_in (am_tb4 (List.mem_of_getElem? (i := 27) rfl)) (by decide +kernel)
set_option maxRecDepth 100000 in
theorem wd_748 : (Jvm.Cond.code yX4_isFreeAt prog_6_method_7_code (5 : Nat) (Option.some Jvm.ClassFile.FieldType.boolean)) ∈ am_WS := am_in (am_tb4 (List.mem_of_getElem? (i := 28) rfl)) (by decide +kernel)
set_option maxRecDepth 100000 in
theorem wd_749 : (Jvm.Cond.methodLink "LeadlightHall$Sheet" (49 : Nat) yX3_row) ∈ am_WS := am_in (am_tb4 (List.mem_of_getElem? (i := 29) rfl)) (by decide +kernel)
set_option maxRecDepth 100000 in
theorem wd_751 : (Jvm.Cond.methodLink "LeadlightHall" (232 : Nat) yX7_take) ∈ am_WS := am_in (am_tb4 (List.mem_of_getElem? (i := 31) rfl)) (by decide +kernel)
set_option maxRecDepth 100000 in
theorem wd_753 : (Jvm.Cond.instanceMethod yX7_take) ∈ am_WS := am_in (am_tb4 (List.mem_of_getElem? (i := 33) rfl)) (by decide +kernel)
set_option maxRecDepth 100000 in
theorem wd_754 : (Jvm.Cond.code yX7_take prog_1_method_62_code (4 : Nat) (Option.none : Option Jvm.ClassFile.FieldType)) ∈ am_WS := am_in (am_tb4 (List.mem_of_getElem? (i := 34) rfl)) (by decide +kernel)
set_option maxRecDepth 100000 in
theorem wd_755 : (Jvm.Cond.methodLink "LeadlightHall" (432 : Nat) yX4_use) ∈ am_WS := am_in (am_tb4 (List.mem_of_getElem? (i := 35) rfl)) (by decide +kernel)
set_option maxRecDepth 100000 in
theorem wd_756 : (Jvm.Cond.instanceMethod yX4_use) ∈ am_WS := am_in (am_tb4 (List.mem_of_getElem? (i := 36) rfl)) (by decide +kernel)
set_option maxRecDepth 100000 in
theorem wd_757 : (Jvm.Cond.selects "LeadlightHall$Sheet" yX4_use yX4_use) ∈ am_WS := am_in (am_tb4 (List.mem_of_getElem? (i := 37) rfl)) (by decide +kernel)
set_option maxRecDepth 100000 in
theorem wd_758 : (Jvm.Cond.code yX4_use prog_6_method_8_code (6 : Nat) (Option.none : Option Jvm.ClassFile.FieldType)) ∈ am_WS := am_in (am_tb4 (List.mem_of_getElem? (i := 38) rfl)) (by decide +kernel)
set_option maxRecDepth 100000 in
theorem wd_759 : (Jvm.Cond.methodLink "LeadlightHall" (435 : Nat) yX3_cellCount) ∈ am_WS := am_in (am_tb4 (List.mem_of_getElem? (i := 39) rfl)) (by decide +kernel)
set_option maxRecDepth 100000 in
theorem wd_760 : (Jvm.Cond.constantLong "LeadlightHall" (236 : Nat) (48271 : Int64)) ∈ am_WS := am_in (am_tb4 (List.mem_of_getElem? (i := 40) rfl)) (by decide +kernel)
set_option maxRecDepth 100000 in
theorem wd_761 : (Jvm.Cond.constantLong "LeadlightHall" (238 : Nat) (2147483647 : Int64)) ∈ am_WS := am_in (am_tb4 (List.mem_of_getElem? (i := 41) rfl)) (by decide +kernel)
set_option maxRecDepth 100000 in
theorem wd_762 : (Jvm.Cond.methodLink "LeadlightHall" (243 : Nat) yX2_glaze) ∈ am_WS := am_in (am_tb4 (List.mem_of_getElem? (i := 42) rfl)) (by decide +kernel)
set_option maxRecDepth 100000 in
theorem wd_763 : (Jvm.Cond.instanceMethod yX2_glaze) ∈ am_WS := am_in (am_tb4 (List.mem_of_getElem? (i := 43) rfl)) (by decide +kernel)
set_option maxRecDepth 100000 in
theorem wd_764 : (Jvm.Cond.selects "LeadlightHall$Pane" yX2_glaze yX2_glaze) ∈ am_WS := am_in (am_tb4 (List.mem_of_getElem? (i := 44) rfl)) (by decide +kernel)
set_option maxRecDepth 100000 in
theorem wd_765 : (Jvm.Cond.code yX2_glaze prog_4_method_6_code (4 : Nat) (Option.none : Option Jvm.ClassFile.FieldType)) ∈ am_WS := am_in (am_tb4 (List.mem_of_getElem? (i := 45) rfl)) (by decide +kernel)
set_option maxRecDepth 100000 in
theorem wd_766 : (Jvm.Cond.methodLink "LeadlightHall$Pane" (49 : Nat) yX1_clear) ∈ am_WS := am_in (am_tb4 (List.mem_of_getElem? (i := 46) rfl)) (by decide +kernel)
set_option maxRecDepth 100000 in
theorem wd_767 : (Jvm.Cond.instanceMethod yX1_clear) ∈ am_WS := am_in (am_tb4 (List.mem_of_getElem? (i := 47) rfl)) (by decide +kernel)
set_option maxRecDepth 100000 in
theorem wd_768 : (Jvm.Cond.selects "LeadlightHall$Paint" yX1_clear yX1_clear) ∈ am_WS := am_in (am_tb4 (List.mem_of_getElem? (i := 48) rfl)) (by decide +kernel)
set_option maxRecDepth 100000 in
theorem wd_769 : (Jvm.Cond.code yX1_clear prog_3_method_3_code (2 : Nat) (Option.none : Option Jvm.ClassFile.FieldType)) ∈ am_WS := am_in (am_tb4 (List.mem_of_getElem? (i := 49) rfl)) (by decide +kernel)
set_option maxRecDepth 100000 in
theorem wd_770 : (Jvm.Cond.methodLink "LeadlightHall$Pane" (52 : Nat) yX6_clear) ∈ am_WS := am_in (am_tb4 (List.mem_of_getElem? (i := 50) rfl)) (by decide +kernel)
set_option maxRecDepth 100000 in
theorem wd_777 : (Jvm.Cond.code yX7_glass prog_1_method_16_code (2 : Nat) (Option.some Jvm.ClassFile.FieldType.char)) ∈ am_WS := am_in (am_tb4 (List.mem_of_getElem? (i := 57) rfl)) (by decide +kernel)
set_option maxRecDepth 100000 in
theorem wd_785 : (Jvm.Cond.code yX7_colour prog_1_method_17_code (2 : Nat) (Option.some Jvm.ClassFile.FieldType.int)) ∈ am_WS := am_in (am_tb4 (List.mem_of_getElem? (i := 65) rfl)) (by decide +kernel)
set_option maxRecDepth 100000 in
theorem wd_786 : (Jvm.Cond.methodLink "LeadlightHall" (250 : Nat) yX7_requireGlass) ∈ am_WS := am_in (am_tb4 (List.mem_of_getElem? (i := 66) rfl)) (by decide +kernel)
set_option maxRecDepth 100000 in
theorem wd_788 : (Jvm.Cond.instanceMethod yX7_requireGlass) ∈ am_WS := am_in (am_tb4 (List.mem_of_getElem? (i := 68) rfl)) (by decide +kernel)
set_option maxRecDepth 100000 in
theorem wd_789 : (Jvm.Cond.code yX7_requireGlass prog_1_method_54_code (2 : Nat) (Option.none : Option Jvm.ClassFile.FieldType)) ∈ am_WS := am_in (am_tb4 (List.mem_of_getElem? (i := 69) rfl)) (by decide +kernel)
set_option maxRecDepth 100000 in
theorem wd_790 : (Jvm.Cond.classLink "LeadlightHall" (404 : Nat) "java/util/NoSuchElementException") ∈ am_WS := am_in (am_tb4 (List.mem_of_getElem? (i := 70) rfl)) (by decide +kernel)
set_option maxRecDepth 100000 in
theorem wd_8 : (Jvm.Cond.initialized "LeadlightHall$Sheet") ∈ am_WS := am_in (am_tb1 (List.mem_of_getElem? (i := 8) rfl)) (by decide +kernel)
set_option maxRecDepth 100000 in
theorem wd_80 : (Jvm.Cond.classLink "LeadlightHall" (75 : Nat) "LeadlightHall$YearSet") ∈ am_WS := am_in (am_tb1 (List.mem_of_getElem? (i := 80) rfl)) (by decide +kernel)
set_option maxRecDepth 100000 in
theorem wd_81 : (Jvm.Cond.instantiable "LeadlightHall$YearSet" (1 : Nat)) ∈ am_WS := am_in (am_tb1 (List.mem_of_getElem? (i := 81) rfl)) (by decide +kernel)
set_option maxRecDepth 100000 in
theorem wd_812 : (Jvm.Cond.code yX7_paint prog_1_method_18_code (5 : Nat) (Option.some Jvm.ClassFile.FieldType.int)) ∈ am_WS := am_in (am_tb4 (List.mem_of_getElem? (i := 92) rfl)) (by decide +kernel)
set_option maxRecDepth 100000 in
theorem wd_813 : (Jvm.Cond.methodLink "LeadlightHall" (254 : Nat) yX1_numberOf) ∈ am_WS := am_in (am_tb4 (List.mem_of_getElem? (i := 93) rfl)) (by decide +kernel)
set_option maxRecDepth 100000 in
theorem wd_814 : (Jvm.Cond.static yX1_numberOf) ∈ am_WS := am_in (am_tb4 (List.mem_of_getElem? (i := 94) rfl)) (by decide +kernel)
set_option maxRecDepth 100000 in
theorem wd_815 : (Jvm.Cond.code yX1_numberOf prog_3_method_2_code (2 : Nat) (Option.some Jvm.ClassFile.FieldType.int)) ∈ am_WS := am_in (am_tb4 (List.mem_of_getElem? (i := 95) rfl)) (by decide +kernel)
set_option maxRecDepth 100000 in
theorem wd_816 : (Jvm.Cond.fieldLink "LeadlightHall$Paint" (16 : Nat) "LeadlightHall$Paint" "LETTERS" "[C") ∈ am_WS := am_in (am_tb4 (List.mem_of_getElem? (i := 96) rfl)) (by decide +kernel)
set_option maxRecDepth 100000 in
theorem wd_819 : (Jvm.Cond.methodLink "LeadlightHall" (266 : Nat) yX1_hasStain) ∈ am_WS := am_in (am_tb4 (List.mem_of_getElem? (i := 99) rfl)) (by decide +kernel)
set_option maxRecDepth 100000 in
theorem wd_820 : (Jvm.Cond.instanceMethod yX1_hasStain) ∈ am_WS := am_in (am_tb4 (List.mem_of_getElem? (i := 100) rfl)) (by decide +kernel)
set_option maxRecDepth 100000 in
theorem wd_821 : (Jvm.Cond.selects "LeadlightHall$Paint" yX1_hasStain yX1_hasStain) ∈ am_WS := am_in (am_tb4 (List.mem_of_getElem? (i := 101) rfl)) (by decide +kernel)
set_option maxRecDepth 100000 in
theorem wd_822 : (Jvm.Cond.code yX1_hasStain prog_3_method_4_code (1 : Nat) (Option.some Jvm.ClassFile.FieldType.boolean)) ∈ am_WS := am_in (am_tb4 (List.mem_of_getElem? (i := 102) rfl)) (by decide +kernel)
set_option maxRecDepth 100000 in
theorem wd_824 : (Jvm.Cond.methodLink "LeadlightHall" (271 : Nat) yX1_keptLayers) ∈ am_WS := am_in (am_tb4 (List.mem_of_getElem? (i := 104) rfl)) (by decide +kernel)
set_option maxRecDepth 100000 in
theorem wd_825 : (Jvm.Cond.instanceMethod yX1_keptLayers) ∈ am_WS := am_in (am_tb4 (List.mem_of_getElem? (i := 105) rfl)) (by decide +kernel)
set_option maxRecDepth 100000 in
theorem wd_826 : (Jvm.Cond.selects "LeadlightHall$Paint" yX1_keptLayers yX1_keptLayers) ∈ am_WS := am_in (am_tb4 (List.mem_of_getElem? (i := 106) rfl)) (by decide +kernel)
set_option maxRecDepth 100000 in
theorem wd_827 : (Jvm.Cond.code yX1_keptLayers prog_3_method_6_code (1 : Nat) (Option.some Jvm.ClassFile.FieldType.int)) ∈ am_WS := am_in (am_tb4 (List.mem_of_getElem? (i := 107) rfl)) (by decide +kernel)
set_option maxRecDepth 100000 in
theorem wd_828 : (Jvm.Cond.methodLink "LeadlightHall$Paint" (20 : Nat) yX1_rawLayers) ∈ am_WS := am_in (am_tb4 (List.mem_of_getElem? (i := 108) rfl)) (by decide +kernel)
set_option maxRecDepth 100000 in
theorem wd_829 : (Jvm.Cond.methodLink "LeadlightHall$Paint" (24 : Nat) yX1_fixedLayers) ∈ am_WS := am_in (am_tb4 (List.mem_of_getElem? (i := 109) rfl)) (by decide +kernel)
set_option maxRecDepth 100000 in
theorem wd_83 : (Jvm.Cond.instanceMethod yX6_init) ∈ am_WS := am_in (am_tb1 (List.mem_of_getElem? (i := 83) rfl)) (by decide +kernel)
set_option maxRecDepth 100000 in
theorem wd_831 : (Jvm.Cond.methodLink "LeadlightHall" (276 : Nat) yX1_add) ∈ am_WS := am_in (am_tb4 (List.mem_of_getElem? (i := 111) rfl)) (by decide +kernel)
set_option maxRecDepth 100000 in
theorem wd_832 : (Jvm.Cond.instanceMethod yX1_add) ∈ am_WS := am_in (am_tb4 (List.mem_of_getElem? (i := 112) rfl)) (by decide +kernel)
set_option maxRecDepth 100000 in
theorem wd_833 : (Jvm.Cond.selects "LeadlightHall$Paint" yX1_add yX1_add) ∈ am_WS := am_in (am_tb4 (List.mem_of_getElem? (i := 113) rfl)) (by decide +kernel)
set_option maxRecDepth 100000 in
theorem wd_834 : (Jvm.Cond.code yX1_add prog_3_method_5_code (2 : Nat) (Option.none : Option Jvm.ClassFile.FieldType)) ∈ am_WS := am_in (am_tb4 (List.mem_of_getElem? (i := 114) rfl)) (by decide +kernel)
set_option maxRecDepth 100000 in
theorem wd_84 : (Jvm.Cond.code yX6_init prog_8_method_1_code (1 : Nat) (Option.none : Option Jvm.ClassFile.FieldType)) ∈ am_WS := am_in (am_tb1 (List.mem_of_getElem? (i := 84) rfl)) (by decide +kernel)
set_option maxRecDepth 100000 in
theorem wd_841 : (Jvm.Cond.code yX7_fire prog_1_method_19_code (5 : Nat) (Option.some Jvm.ClassFile.FieldType.int)) ∈ am_WS := am_in (am_tb4 (List.mem_of_getElem? (i := 121) rfl)) (by decide +kernel)
set_option maxRecDepth 100000 in
theorem wd_842 : (Jvm.Cond.methodLink "LeadlightHall" (279 : Nat) yJ6_bitCount_0f7a4) ∈ am_WS := am_in (am_tb4 (List.mem_of_getElem? (i := 122) rfl)) (by decide +kernel)
set_option maxRecDepth 100000 in
theorem wd_845 : (Jvm.Cond.methodLink "LeadlightHall" (291 : Nat) yX1_heat) ∈ am_WS := am_in (am_tb4 (List.mem_of_getElem? (i := 125) rfl)) (by decide +kernel)
set_option maxRecDepth 100000 in
theorem wd_846 : (Jvm.Cond.instanceMethod yX1_heat) ∈ am_WS := am_in (am_tb4 (List.mem_of_getElem? (i := 126) rfl)) (by decide +kernel)
set_option maxRecDepth 100000 in
theorem wd_847 : (Jvm.Cond.selects "LeadlightHall$Paint" yX1_heat yX1_heat) ∈ am_WS := am_in (am_tb4 (List.mem_of_getElem? (i := 127) rfl)) (by decide +kernel)
set_option maxRecDepth 100000 in
theorem wd_848 : (Jvm.Cond.code yX1_heat prog_3_method_9_code (5 : Nat) (Option.some Jvm.ClassFile.FieldType.int)) ∈ am_WS := am_in (am_tb4 (List.mem_of_getElem? (i := 128) rfl)) (by decide +kernel)
set_option maxRecDepth 100000 in
theorem wd_849 : (Jvm.Cond.fieldLink "LeadlightHall$Paint" (27 : Nat) "LeadlightHall$Paint" "HEATS" "[I") ∈ am_WS := am_in (am_tb4 (List.mem_of_getElem? (i := 129) rfl)) (by decide +kernel)
set_option maxRecDepth 100000 in
theorem wd_85 : (Jvm.Cond.methodLink "LeadlightHall$YearSet" (3 : Nat) ({ cls := "java/lang/Object", name := "<init>", desc := "()V" } : Jvm.MethodName)) ∈ am_WS := am_in (am_tb1 (List.mem_of_getElem? (i := 85) rfl)) (by decide +kernel)
set_option maxRecDepth 100000 in
theorem wd_857 : (Jvm.Cond.code yX7_layers prog_1_method_20_code (4 : Nat) (Option.some Jvm.ClassFile.FieldType.int)) ∈ am_WS := am_in (am_tb4 (List.mem_of_getElem? (i := 137) rfl)) (by decide +kernel)
set_option maxRecDepth 100000 in
theorem wd_86 : (Jvm.Cond.fieldLink "LeadlightHall$YearSet" (11 : Nat) "LeadlightHall$YearSet" "words" "[J") ∈ am_WS := am_in (am_tb1 (List.mem_of_getElem? (i := 86) rfl)) (by decide +kernel)
set_option maxRecDepth 100000 in
theorem wd_865 : (Jvm.Cond.code yX7_seed prog_1_method_21_code (3 : Nat) (Option.some Jvm.ClassFile.FieldType.int)) ∈ am_WS := am_in (am_tb4 (List.mem_of_getElem? (i := 145) rfl)) (by decide +kernel)
set_option maxRecDepth 100000 in
theorem wd_866 : (Jvm.Cond.constant "LeadlightHall" (302 : Nat) (2147483646 : Int32)) ∈ am_WS := am_in (am_tb4 (List.mem_of_getElem? (i := 146) rfl)) (by decide +kernel)
set_option maxRecDepth 100000 in
theorem wd_874 : (Jvm.Cond.code yX7_next prog_1_method_23_code (1 : Nat) (Option.some Jvm.ClassFile.FieldType.int)) ∈ am_WS := am_in (am_tb4 (List.mem_of_getElem? (i := 154) rfl)) (by decide +kernel)
set_option maxRecDepth 100000 in
theorem wd_875 : (Jvm.Cond.methodLink "LeadlightHall" (315 : Nat) yX7_requireNext) ∈ am_WS := am_in (am_tb4 (List.mem_of_getElem? (i := 155) rfl)) (by decide +kernel)
set_option maxRecDepth 100000 in
theorem wd_877 : (Jvm.Cond.instanceMethod yX7_requireNext) ∈ am_WS := am_in (am_tb4 (List.mem_of_getElem? (i := 157) rfl)) (by decide +kernel)
set_option maxRecDepth 100000 in
theorem wd_878 : (Jvm.Cond.code yX7_requireNext prog_1_method_56_code (3 : Nat) (Option.some Jvm.ClassFile.FieldType.int)) ∈ am_WS := am_in (am_tb4 (List.mem_of_getElem? (i := 158) rfl)) (by decide +kernel)
set_option maxRecDepth 100000 in
theorem wd_886 : (Jvm.Cond.code yX7_comes prog_1_method_24_code (2 : Nat) (Option.some Jvm.ClassFile.FieldType.int)) ∈ am_WS := am_in (am_tb4 (List.mem_of_getElem? (i := 166) rfl)) (by decide +kernel)
set_option maxRecDepth 100000 in
theorem wd_893 : (Jvm.Cond.code yX7_solder prog_1_method_25_code (2 : Nat) (Option.some Jvm.ClassFile.FieldType.int)) ∈ am_WS := am_in (am_tb4 (List.mem_of_getElem? (i := 173) rfl)) (by decide +kernel)
set_option maxRecDepth 100000 in
theorem wd_90 : (Jvm.Cond.arrayClass Jvm.ClassFile.FieldType.long) ∈ am_WS := am_in (am_tb1 (List.mem_of_getElem? (i := 90) rfl)) (by decide +kernel)
set_option maxRecDepth 100000 in
theorem wd_901 : (Jvm.Cond.code yX7_bar prog_1_method_27_code (4 : Nat) (Option.some Jvm.ClassFile.FieldType.boolean)) ∈ am_WS := am_in (am_tb4 (List.mem_of_getElem? (i := 181) rfl)) (by decide +kernel)
set_option maxRecDepth 100000 in
theorem wd_903 : (Jvm.Cond.methodLink "LeadlightHall" (322 : Nat) yX0_hasBar) ∈ am_WS := am_in (am_tb4 (List.mem_of_getElem? (i := 183) rfl)) (by decide +kernel)
set_option maxRecDepth 100000 in
theorem wd_904 : (Jvm.Cond.methodLink "LeadlightHall" (325 : Nat) yX0_setBar) ∈ am_WS := am_in (am_tb4 (List.mem_of_getElem? (i := 184) rfl)) (by decide +kernel)
set_option maxRecDepth 100000 in
theorem wd_905 : (Jvm.Cond.instanceMethod yX0_setBar) ∈ am_WS := am_in (am_tb4 (List.mem_of_getElem? (i := 185) rfl)) (by decide +kernel)
set_option maxRecDepth 100000 in
theorem wd_906 : (Jvm.Cond.selects "LeadlightHall$Frame" yX0_setBar yX0_setBar) ∈ am_WS := am_in (am_tb4 (List.mem_of_getElem? (i := 186) rfl)) (by decide +kernel)
set_option maxRecDepth 100000 in
theorem wd_907 : (Jvm.Cond.code yX0_setBar prog_2_method_3_code (3 : Nat) (Option.none : Option Jvm.ClassFile.FieldType)) ∈ am_WS := am_in (am_tb4 (List.mem_of_getElem? (i := 187) rfl)) (by decide +kernel)
set_option maxRecDepth 100000 in
theorem wd_91 : (Jvm.Cond.instantiable "LeadlightHall$Pane" (7 : Nat)) ∈ am_WS := am_in (am_tb1 (List.mem_of_getElem? (i := 91) rfl)) (by decide +kernel)
set_option maxRecDepth 100000 in
theorem wd_914 : (Jvm.Cond.code yX7_profile prog_1_method_28_code (3 : Nat) (Option.some Jvm.ClassFile.FieldType.int)) ∈ am_WS := am_in (am_tb4 (List.mem_of_getElem? (i := 194) rfl)) (by decide +kernel)
set_option maxRecDepth 100000 in
theorem wd_923 : (Jvm.Cond.code yX7_wind prog_1_method_29_code (3 : Nat) (Option.some Jvm.ClassFile.FieldType.int)) ∈ am_WS := am_in (am_tb4 (List.mem_of_getElem? (i := 203) rfl)) (by decide +kernel)
set_option maxRecDepth 100000 in
theorem wd_93 : (Jvm.Cond.instanceMethod yX2_init) ∈ am_WS := am_in (am_tb1 (List.mem_of_getElem? (i := 93) rfl)) (by decide +kernel)
set_option maxRecDepth 100000 in
theorem wd_931 : (Jvm.Cond.code yX7_years prog_1_method_32_code (2 : Nat) (Option.some Jvm.ClassFile.FieldType.int)) ∈ am_WS := am_in (am_tb4 (List.mem_of_getElem? (i := 211) rfl)) (by decide +kernel)
set_option maxRecDepth 100000 in
theorem wd_94 : (Jvm.Cond.code yX2_init prog_4_method_1_code (1 : Nat) (Option.none : Option Jvm.ClassFile.FieldType)) ∈ am_WS := am_in (am_tb1 (List.mem_of_getElem? (i := 94) rfl)) (by decide +kernel)
set_option maxRecDepth 100000 in
theorem wd_940 : (Jvm.Cond.code yX7_looks prog_1_method_33_code (7 : Nat) (Option.some Jvm.ClassFile.FieldType.int)) ∈ am_WS := am_in (am_tb4 (List.mem_of_getElem? (i := 220) rfl)) (by decide +kernel)
set_option maxRecDepth 100000 in
theorem wd_942 : (Jvm.Cond.methodLink "LeadlightHall" (353 : Nat) yJ9_abs_0f7a4) ∈ am_WS := am_in (am_tb4 (List.mem_of_getElem? (i := 222) rfl)) (by decide +kernel)
set_option maxRecDepth 100000 in
theorem wd_943 : (Jvm.Cond.static yJ9_abs_0f7a4) ∈ am_WS := am_in (am_tb4 (List.mem_of_getElem? (i := 223) rfl)) (by decide +kernel)
set_option maxRecDepth 100000 in
theorem wd_945 : (Jvm.Cond.methodLink "LeadlightHall" (358 : Nat) yJ9_max_7cf53) ∈ am_WS := am_in (am_tb4 (List.mem_of_getElem? (i := 225) rfl)) (by decide +kernel)
set_option maxRecDepth 100000 in
theorem wd_946 : (Jvm.Cond.methodLink "LeadlightHall" (361 : Nat) yX7_brightness) ∈ am_WS := am_in (am_tb4 (List.mem_of_getElem? (i := 226) rfl)) (by decide +kernel)
set_option maxRecDepth 100000 in
theorem wd_948 : (Jvm.Cond.instanceMethod yX7_brightness) ∈ am_WS := am_in (am_tb4 (List.mem_of_getElem? (i := 228) rfl)) (by decide +kernel)
set_option maxRecDepth 100000 in
theorem wd_949 : (Jvm.Cond.code yX7_brightness prog_1_method_64_code (7 : Nat) (Option.some Jvm.ClassFile.FieldType.int)) ∈ am_WS := am_in (am_tb4 (List.mem_of_getElem? (i := 229) rfl)) (by decide +kernel)
set_option maxRecDepth 100000 in
theorem wd_95 : (Jvm.Cond.methodLink "LeadlightHall$Pane" (3 : Nat) ({ cls := "java/lang/Object", name := "<init>", desc := "()V" } : Jvm.MethodName)) ∈ am_WS := am_in (am_tb1 (List.mem_of_getElem? (i := 95) rfl)) (by decide +kernel)
set_option maxRecDepth 100000 in
theorem wd_950 : (Jvm.Cond.methodLink "LeadlightHall" (393 : Nat) yX2_lacksGlass) ∈ am_WS := am_in (am_tb4 (List.mem_of_getElem? (i := 230) rfl)) (by decide +kernel)
set_option maxRecDepth 100000 in
theorem wd_951 : (Jvm.Cond.instanceMethod yX2_lacksGlass) ∈ am_WS := am_in (am_tb4 (List.mem_of_getElem? (i := 231) rfl)) (by decide +kernel)
set_option maxRecDepth 100000 in
theorem wd_952 : (Jvm.Cond.selects "LeadlightHall$Pane" yX2_lacksGlass yX2_lacksGlass) ∈ am_WS := am_in (am_tb4 (List.mem_of_getElem? (i := 232) rfl)) (by decide +kernel)
set_option maxRecDepth 100000 in
theorem wd_953 : (Jvm.Cond.code yX2_lacksGlass prog_4_method_3_code (1 : Nat) (Option.some Jvm.ClassFile.FieldType.boolean)) ∈ am_WS := am_in (am_tb4 (List.mem_of_getElem? (i := 233) rfl)) (by decide +kernel)
set_option maxRecDepth 100000 in
theorem wd_96 : (Jvm.Cond.classLink "LeadlightHall$Pane" (28 : Nat) "LeadlightHall$Paint") ∈ am_WS := am_in (am_tb1 (List.mem_of_getElem? (i := 96) rfl)) (by decide +kernel)
set_option maxRecDepth 100000 in
theorem wd_960 : (Jvm.Cond.code yX7_hit prog_1_method_34_code (4 : Nat) (Option.some Jvm.ClassFile.FieldType.boolean)) ∈ am_WS := am_in (am_tb5 (List.mem_of_getElem? (i := 0) rfl)) (by decide +kernel)
set_option maxRecDepth 100000 in
theorem wd_968 : (Jvm.Cond.code yX7_mend prog_1_method_35_code (3 : Nat) (Option.some Jvm.ClassFile.FieldType.int)) ∈ am_WS := am_in (am_tb5 (List.mem_of_getElem? (i := 8) rfl)) (by decide +kernel)
set_option maxRecDepth 100000 in
theorem wd_97 : (Jvm.Cond.instantiable "LeadlightHall$Paint" (2 : Nat)) ∈ am_WS := am_in (am_tb1 (List.mem_of_getElem? (i := 97) rfl)) (by decide +kernel)
set_option maxRecDepth 100000 in
theorem wd_976 : (Jvm.Cond.code yX7_stopgap prog_1_method_36_code (6 : Nat) (Option.some Jvm.ClassFile.FieldType.int)) ∈ am_WS := am_in (am_tb5 (List.mem_of_getElem? (i := 16) rfl)) (by decide +kernel)
set_option maxRecDepth 100000 in
theorem wd_985 : (Jvm.Cond.code yX7_year prog_1_method_37_code (2 : Nat) (Option.some Jvm.ClassFile.FieldType.int)) ∈ am_WS := am_in (am_tb5 (List.mem_of_getElem? (i := 25) rfl)) (by decide +kernel)
set_option maxRecDepth 100000 in
theorem wd_99 : (Jvm.Cond.instanceMethod yX1_init) ∈ am_WS := am_in (am_tb1 (List.mem_of_getElem? (i := 99) rfl)) (by decide +kernel)
set_option maxRecDepth 100000 in
theorem wd_992 : (Jvm.Cond.code yX7_fits prog_1_method_39_code (5 : Nat) (Option.some Jvm.ClassFile.FieldType.int)) ∈ am_WS := am_in (am_tb5 (List.mem_of_getElem? (i := 32) rfl)) (by decide +kernel)
set_option maxRecDepth 100000 in
theorem wd_993 : (Jvm.Cond.methodLink "LeadlightHall" (396 : Nat) yX3_isLike) ∈ am_WS := am_in (am_tb5 (List.mem_of_getElem? (i := 33) rfl)) (by decide +kernel)
set_option maxRecDepth 100000 in
theorem wd_994 : (Jvm.Cond.instanceMethod yX3_isLike) ∈ am_WS := am_in (am_tb5 (List.mem_of_getElem? (i := 34) rfl)) (by decide +kernel)
set_option maxRecDepth 100000 in
theorem wd_995 : (Jvm.Cond.selects "LeadlightHall$Shape" yX3_isLike yX3_isLike) ∈ am_WS := am_in (am_tb5 (List.mem_of_getElem? (i := 35) rfl)) (by decide +kernel)
set_option maxRecDepth 100000 in
theorem wd_996 : (Jvm.Cond.code yX3_isLike prog_5_method_23_code (3 : Nat) (Option.some Jvm.ClassFile.FieldType.boolean)) ∈ am_WS := am_in (am_tb5 (List.mem_of_getElem? (i := 36) rfl)) (by decide +kernel)
set_option maxRecDepth 100000 in
theorem ps_X3_columnsUsed : Cond.selects RX3 yX3_columnsUsed yX3_columnsUsed ∈ am_WS := am_in (List.mem_append_left _ (by decide +kernel)) rfl
set_option maxRecDepth 100000 in
theorem ps_X3_grow : Cond.selects RX3 yX3_grow yX3_grow ∈ am_WS := am_in (List.mem_append_left _ (by decide +kernel)) rfl
set_option maxRecDepth 100000 in
theorem ps_X3_narrowInColumn : Cond.selects RX3 yX3_narrowInColumn yX3_narrowInColumn ∈ am_WS := am_in (List.mem_append_left _ (by decide +kernel)) rfl
set_option maxRecDepth 100000 in
theorem ps_X3_narrowInRow : Cond.selects RX3 yX3_narrowInRow yX3_narrowInRow ∈ am_WS := am_in (List.mem_append_left _ (by decide +kernel)) rfl
set_option maxRecDepth 100000 in
theorem ps_X3_touchesOver : Cond.selects RX3 yX3_touchesOver yX3_touchesOver ∈ am_WS := am_in (List.mem_append_left _ (by decide +kernel)) rfl
set_option maxRecDepth 100000 in
theorem ps_X4_isFreeAt : Cond.selects RX4 yX4_isFreeAt yX4_isFreeAt ∈ am_WS := am_in (List.mem_append_left _ (by decide +kernel)) rfl
set_option maxRecDepth 100000 in
theorem ps_X7_brightness : Cond.selects RX7 yX7_brightness yX7_brightness ∈ am_WS := am_in (List.mem_append_left _ (by decide +kernel)) rfl
set_option maxRecDepth 100000 in
theorem ps_X7_isCuttable : Cond.selects RX7 yX7_isCuttable yX7_isCuttable ∈ am_WS := am_in (List.mem_append_left _ (by decide +kernel)) rfl
set_option maxRecDepth 100000 in
theorem ps_X7_isGlassWithin : Cond.selects RX7 yX7_isGlassWithin yX7_isGlassWithin ∈ am_WS := am_in (List.mem_append_left _ (by decide +kernel)) rfl
set_option maxRecDepth 100000 in
theorem ps_X7_isOpenWithin : Cond.selects RX7 yX7_isOpenWithin yX7_isOpenWithin ∈ am_WS := am_in (List.mem_append_left _ (by decide +kernel)) rfl
set_option maxRecDepth 100000 in
theorem ps_X7_lowestFreeOf : Cond.selects RX7 yX7_lowestFreeOf yX7_lowestFreeOf ∈ am_WS := am_in (List.mem_append_left _ (by decide +kernel)) rfl
set_option maxRecDepth 100000 in
theorem ps_X7_lowestWithoutCells : Cond.selects RX7 yX7_lowestWithoutCells yX7_lowestWithoutCells ∈ am_WS := am_in (List.mem_append_left _ (by decide +kernel)) rfl
set_option maxRecDepth 100000 in
theorem ps_X7_panesThatAre : Cond.selects RX7 yX7_panesThatAre yX7_panesThatAre ∈ am_WS := am_in (List.mem_append_left _ (by decide +kernel)) rfl
set_option maxRecDepth 100000 in
theorem ps_X7_requireGlass : Cond.selects RX7 yX7_requireGlass yX7_requireGlass ∈ am_WS := am_in (List.mem_append_left _ (by decide +kernel)) rfl
set_option maxRecDepth 100000 in
theorem ps_X7_requireNext : Cond.selects RX7 yX7_requireNext yX7_requireNext ∈ am_WS := am_in (List.mem_append_left _ (by decide +kernel)) rfl
set_option maxRecDepth 100000 in
theorem ps_X7_requireSheet : Cond.selects RX7 yX7_requireSheet yX7_requireSheet ∈ am_WS := am_in (List.mem_append_left _ (by decide +kernel)) rfl
set_option maxRecDepth 100000 in
theorem ps_X7_take : Cond.selects RX7 yX7_take yX7_take ∈ am_WS := am_in (List.mem_append_left _ (by decide +kernel)) rfl
set_option maxRecDepth 100000 in
theorem ps_X7_yearsUp : Cond.selects RX7 yX7_yearsUp yX7_yearsUp ∈ am_WS := am_in (List.mem_append_left _ (by decide +kernel)) rfl
set_option maxRecDepth 100000 in
theorem inw_X0 : ∀ w ∈ u_ws RX0 TX0 3, w ∈ am_WS := (List.forall_mem_cons.mpr ⟨am_in (am_tb1 (List.mem_of_getElem? (i := 60) rfl)) (by decide +kernel), List.forall_mem_cons.mpr ⟨am_in (am_tb1 (List.mem_of_getElem? (i := 62) rfl)) (by decide +kernel), List.forall_mem_cons.mpr ⟨am_in (am_tb1 (List.mem_of_getElem? (i := 64) rfl)) (by decide +kernel), fun _ h => absurd h List.not_mem_nil⟩⟩⟩ : ∀ w ∈ [u_lay RX0 TX0 0, u_lay RX0 TX0 1, u_lay RX0 TX0 2], w ∈ am_WS)
set_option maxRecDepth 100000 in
theorem inw_X1 : ∀ w ∈ u_ws RX1 TX1 2, w ∈ am_WS := (List.forall_mem_cons.mpr ⟨am_in (am_tb1 (List.mem_of_getElem? (i := 104) rfl)) (by decide +kernel), List.forall_mem_cons.mpr ⟨am_in (am_tb1 (List.mem_of_getElem? (i := 106) rfl)) (by decide +kernel), fun _ h => absurd h List.not_mem_nil⟩⟩ : ∀ w ∈ [u_lay RX1 TX1 0, u_lay RX1 TX1 1], w ∈ am_WS)
set_option maxRecDepth 100000 in
theorem inw_X2 : ∀ w ∈ u_ws RX2 TX2 7, w ∈ am_WS := (List.forall_mem_cons.mpr ⟨am_in (am_tb1 (List.mem_of_getElem? (i := 125) rfl)) (by decide +kernel), List.forall_mem_cons.mpr ⟨am_in (am_tb1 (List.mem_of_getElem? (i := 127) rfl)) (by decide +kernel), List.forall_mem_cons.mpr ⟨am_in (am_tb1 (List.mem_of_getElem? (i := 129) rfl)) (by decide +kernel), List.forall_mem_cons.mpr ⟨am_in (am_tb1 (List.mem_of_getElem? (i := 131) rfl)) (by decide +kernel), List.forall_mem_cons.mpr ⟨am_in (am_tb1 (List.mem_of_getElem? (i := 133) rfl)) (by decide +kernel), List.forall_mem_cons.mpr ⟨am_in (am_tb1 (List.mem_of_getElem? (i := 135) rfl)) (by decide +kernel), List.forall_mem_cons.mpr ⟨am_in (am_tb1 (List.mem_of_getElem? (i := 137) rfl)) (by decide +kernel), fun _ h => absurd h List.not_mem_nil⟩⟩⟩⟩⟩⟩⟩ : ∀ w ∈ [u_lay RX2 TX2 0, u_lay RX2 TX2 1, u_lay RX2 TX2 2, u_lay RX2 TX2 3, u_lay RX2 TX2 4, u_lay RX2 TX2 5, u_lay RX2 TX2 6], w ∈ am_WS)
set_option maxRecDepth 100000 in
theorem inw_X3 : ∀ w ∈ u_ws RX3 TX3 2, w ∈ am_WS := (List.forall_mem_cons.mpr ⟨am_in (am_tb1 (List.mem_of_getElem? (i := 75) rfl)) (by decide +kernel), List.forall_mem_cons.mpr ⟨am_in (am_tb1 (List.mem_of_getElem? (i := 77) rfl)) (by decide +kernel), fun _ h => absurd h List.not_mem_nil⟩⟩ : ∀ w ∈ [u_lay RX3 TX3 0, u_lay RX3 TX3 1], w ∈ am_WS)
set_option maxRecDepth 100000 in
theorem inw_X4 : ∀ w ∈ u_ws RX4 TX4 5, w ∈ am_WS := (List.forall_mem_cons.mpr ⟨am_in (am_tb1 (List.mem_of_getElem? (i := 152) rfl)) (by decide +kernel), List.forall_mem_cons.mpr ⟨am_in (am_tb1 (List.mem_of_getElem? (i := 154) rfl)) (by decide +kernel), List.forall_mem_cons.mpr ⟨am_in (am_tb1 (List.mem_of_getElem? (i := 156) rfl)) (by decide +kernel), List.forall_mem_cons.mpr ⟨am_in (am_tb1 (List.mem_of_getElem? (i := 158) rfl)) (by decide +kernel), List.forall_mem_cons.mpr ⟨am_in (am_tb1 (List.mem_of_getElem? (i := 160) rfl)) (by decide +kernel), fun _ h => absurd h List.not_mem_nil⟩⟩⟩⟩⟩ : ∀ w ∈ [u_lay RX4 TX4 0, u_lay RX4 TX4 1, u_lay RX4 TX4 2, u_lay RX4 TX4 3, u_lay RX4 TX4 4], w ∈ am_WS)
set_option maxRecDepth 100000 in
theorem inw_X5 : ∀ w ∈ u_ws RX5 TX5 1, w ∈ am_WS := (List.forall_mem_cons.mpr ⟨am_in (am_tb1 (List.mem_of_getElem? (i := 41) rfl)) (by decide +kernel), fun _ h => absurd h List.not_mem_nil⟩ : ∀ w ∈ [u_lay RX5 TX5 0], w ∈ am_WS)
set_option maxRecDepth 100000 in
theorem inw_X6 : ∀ w ∈ u_ws RX6 TX6 1, w ∈ am_WS := (List.forall_mem_cons.mpr ⟨am_in (am_tb1 (List.mem_of_getElem? (i := 87) rfl)) (by decide +kernel), fun _ h => absurd h List.not_mem_nil⟩ : ∀ w ∈ [u_lay RX6 TX6 0], w ∈ am_WS)
set_option maxRecDepth 100000 in
theorem inw_X7 : ∀ w ∈ u_ws RX7 TX7 16, w ∈ am_WS := (List.forall_mem_cons.mpr ⟨am_in (am_tb1 (List.mem_of_getElem? (i := 179) rfl)) (by decide +kernel), List.forall_mem_cons.mpr ⟨am_in (am_tb1 (List.mem_of_getElem? (i := 181) rfl)) (by decide +kernel), List.forall_mem_cons.mpr ⟨am_in (am_tb1 (List.mem_of_getElem? (i := 183) rfl)) (by decide +kernel), List.forall_mem_cons.mpr ⟨am_in (am_tb1 (List.mem_of_getElem? (i := 185) rfl)) (by decide +kernel), List.forall_mem_cons.mpr ⟨am_in (am_tb1 (List.mem_of_getElem? (i := 187) rfl)) (by decide +kernel), List.forall_mem_cons.mpr ⟨am_in (am_tb1 (List.mem_of_getElem? (i := 189) rfl)) (by decide +kernel), List.forall_mem_cons.mpr ⟨am_in (am_tb1 (List.mem_of_getElem? (i := 191) rfl)) (by decide +kernel), List.forall_mem_cons.mpr ⟨am_in (am_tb1 (List.mem_of_getElem? (i := 193) rfl)) (by decide +kernel), List.forall_mem_cons.mpr ⟨am_in (am_tb1 (List.mem_of_getElem? (i := 195) rfl)) (by decide +kernel), List.forall_mem_cons.mpr ⟨am_in (am_tb1 (List.mem_of_getElem? (i := 197) rfl)) (by decide +kernel), List.forall_mem_cons.mpr ⟨am_in (am_tb1 (List.mem_of_getElem? (i := 199) rfl)) (by decide +kernel), List.forall_mem_cons.mpr ⟨am_in (am_tb1 (List.mem_of_getElem? (i := 201) rfl)) (by decide +kernel), List.forall_mem_cons.mpr ⟨am_in (am_tb1 (List.mem_of_getElem? (i := 203) rfl)) (by decide +kernel), List.forall_mem_cons.mpr ⟨am_in (am_tb1 (List.mem_of_getElem? (i := 205) rfl)) (by decide +kernel), List.forall_mem_cons.mpr ⟨am_in (am_tb1 (List.mem_of_getElem? (i := 207) rfl)) (by decide +kernel), List.forall_mem_cons.mpr ⟨am_in (am_tb1 (List.mem_of_getElem? (i := 209) rfl)) (by decide +kernel), fun _ h => absurd h List.not_mem_nil⟩⟩⟩⟩⟩⟩⟩⟩⟩⟩⟩⟩⟩⟩⟩⟩ : ∀ w ∈ [u_lay RX7 TX7 0, u_lay RX7 TX7 1, u_lay RX7 TX7 2, u_lay RX7 TX7 3, u_lay RX7 TX7 4, u_lay RX7 TX7 5, u_lay RX7 TX7 6, u_lay RX7 TX7 7, u_lay RX7 TX7 8, u_lay RX7 TX7 9, u_lay RX7 TX7 10, u_lay RX7 TX7 11, u_lay RX7 TX7 12, u_lay RX7 TX7 13, u_lay RX7 TX7 14, u_lay RX7 TX7 15], w ∈ am_WS)
set_option maxRecDepth 100000 in
theorem inw_X8 : ∀ w ∈ u_ws RX8 TX8 22, w ∈ am_WS := (List.forall_mem_cons.mpr ⟨am_in (am_tb5 (List.mem_of_getElem? (i := 86) rfl)) (by decide +kernel), List.forall_mem_cons.mpr ⟨am_in (am_tb5 (List.mem_of_getElem? (i := 88) rfl)) (by decide +kernel), List.forall_mem_cons.mpr ⟨am_in (am_tb5 (List.mem_of_getElem? (i := 90) rfl)) (by decide +kernel), List.forall_mem_cons.mpr ⟨am_in (am_tb5 (List.mem_of_getElem? (i := 92) rfl)) (by decide +kernel), List.forall_mem_cons.mpr ⟨am_in (am_tb5 (List.mem_of_getElem? (i := 94) rfl)) (by decide +kernel), List.forall_mem_cons.mpr ⟨am_in (am_tb5 (List.mem_of_getElem? (i := 96) rfl)) (by decide +kernel), List.forall_mem_cons.mpr ⟨am_in (am_tb5 (List.mem_of_getElem? (i := 98) rfl)) (by decide +kernel), List.forall_mem_cons.mpr ⟨am_in (am_tb5 (List.mem_of_getElem? (i := 100) rfl)) (by decide +kernel), List.forall_mem_cons.mpr ⟨am_in (am_tb5 (List.mem_of_getElem? (i := 102) rfl)) (by decide +kernel), List.forall_mem_cons.mpr ⟨am_in (am_tb5 (List.mem_of_getElem? (i := 104) rfl)) (by decide +kernel), List.forall_mem_cons.mpr ⟨am_in (am_tb5 (List.mem_of_getElem? (i := 106) rfl)) (by decide +kernel), List.forall_mem_cons.mpr ⟨am_in (am_tb5 (List.mem_of_getElem? (i := 108) rfl)) (by decide +kernel), List.forall_mem_cons.mpr ⟨am_in (am_tb5 (List.mem_of_getElem? (i := 110) rfl)) (by decide +kernel), List.forall_mem_cons.mpr ⟨am_in (am_tb5 (List.mem_of_getElem? (i := 112) rfl)) (by decide +kernel), List.forall_mem_cons.mpr ⟨am_in (am_tb5 (List.mem_of_getElem? (i := 114) rfl)) (by decide +kernel), List.forall_mem_cons.mpr ⟨am_in (am_tb5 (List.mem_of_getElem? (i := 116) rfl)) (by decide +kernel), List.forall_mem_cons.mpr ⟨am_in (am_tb5 (List.mem_of_getElem? (i := 118) rfl)) (by decide +kernel), List.forall_mem_cons.mpr ⟨am_in (am_tb5 (List.mem_of_getElem? (i := 120) rfl)) (by decide +kernel), List.forall_mem_cons.mpr ⟨am_in (am_tb5 (List.mem_of_getElem? (i := 122) rfl)) (by decide +kernel), List.forall_mem_cons.mpr ⟨am_in (am_tb5 (List.mem_of_getElem? (i := 124) rfl)) (by decide +kernel), List.forall_mem_cons.mpr ⟨am_in (am_tb5 (List.mem_of_getElem? (i := 126) rfl)) (by decide +kernel), List.forall_mem_cons.mpr ⟨am_in (am_tb5 (List.mem_of_getElem? (i := 128) rfl)) (by decide +kernel), fun _ h => absurd h List.not_mem_nil⟩⟩⟩⟩⟩⟩⟩⟩⟩⟩⟩⟩⟩⟩⟩⟩⟩⟩⟩⟩⟩⟩ : ∀ w ∈ [u_lay RX8 TX8 0, u_lay RX8 TX8 1, u_lay RX8 TX8 2, u_lay RX8 TX8 3, u_lay RX8 TX8 4, u_lay RX8 TX8 5, u_lay RX8 TX8 6, u_lay RX8 TX8 7, u_lay RX8 TX8 8, u_lay RX8 TX8 9, u_lay RX8 TX8 10, u_lay RX8 TX8 11, u_lay RX8 TX8 12, u_lay RX8 TX8 13, u_lay RX8 TX8 14, u_lay RX8 TX8 15, u_lay RX8 TX8 16, u_lay RX8 TX8 17, u_lay RX8 TX8 18, u_lay RX8 TX8 19, u_lay RX8 TX8 20, u_lay RX8 TX8 21], w ∈ am_WS)
set_option maxRecDepth 100000 in
theorem cd_10 : (Jvm.Cond.initialized "java/lang/Throwable") ∈ am_WS ∨ (Jvm.Cond.initialized "java/lang/Throwable") ∈ am_NW := by first | exact Or.inl (am_in (am_tb1 (List.mem_of_getElem? (i := 10) rfl)) (by decide +kernel)) | exact Or.inr (List.mem_filter.mpr ⟨am_t1 (List.mem_of_getElem? (i := 10) rfl), rfl⟩)
set_option maxRecDepth 100000 in
theorem cd_11 : (Jvm.Cond.initialized "java/lang/Exception") ∈ am_WS ∨ (Jvm.Cond.initialized "java/lang/Exception") ∈ am_NW := by first | exact Or.inl (am_in (am_tb1 (List.mem_of_getElem? (i := 11) rfl)) (by decide +kernel)) | exact Or.inr (List.mem_filter.mpr ⟨am_t1 (List.mem_of_getElem? (i := 11) rfl), rfl⟩)
set_option maxRecDepth 100000 in
theorem cd_12 : (Jvm.Cond.initialized "java/lang/RuntimeException") ∈ am_WS ∨ (Jvm.Cond.initialized "java/lang/RuntimeException") ∈ am_NW := by first | exact Or.inl (am_in (am_tb1 (List.mem_of_getElem? (i := 12) rfl)) (by decide +kernel)) | exact Or.inr (List.mem_filter.mpr ⟨am_t1 (List.mem_of_getElem? (i := 12) rfl), rfl⟩)
set_option maxRecDepth 100000 in
theorem cd_13 : (Jvm.Cond.initialized "java/lang/IllegalArgumentException") ∈ am_WS ∨ (Jvm.Cond.initialized "java/lang/IllegalArgumentException") ∈ am_NW := by first | exact Or.inl (am_in (am_tb1 (List.mem_of_getElem? (i := 13) rfl)) (by decide +kernel)) | exact Or.inr (List.mem_filter.mpr ⟨am_t1 (List.mem_of_getElem? (i := 13) rfl), rfl⟩)
set_option maxRecDepth 100000 in
theorem cd_14 : (Jvm.Cond.initialized "java/lang/UnsupportedOperationException") ∈ am_WS ∨ (Jvm.Cond.initialized "java/lang/UnsupportedOperationException") ∈ am_NW := by first | exact Or.inl (am_in (am_tb1 (List.mem_of_getElem? (i := 14) rfl)) (by decide +kernel)) | exact Or.inr (List.mem_filter.mpr ⟨am_t1 (List.mem_of_getElem? (i := 14) rfl), rfl⟩)
set_option maxRecDepth 100000 in
theorem cd_15 : (Jvm.Cond.initialized "java/lang/IndexOutOfBoundsException") ∈ am_WS ∨ (Jvm.Cond.initialized "java/lang/IndexOutOfBoundsException") ∈ am_NW := by first | exact Or.inl (am_in (am_tb1 (List.mem_of_getElem? (i := 15) rfl)) (by decide +kernel)) | exact Or.inr (List.mem_filter.mpr ⟨am_t1 (List.mem_of_getElem? (i := 15) rfl), rfl⟩)
set_option maxRecDepth 100000 in
theorem cd_18 : (Jvm.Cond.initialized "java/lang/IllegalStateException") ∈ am_WS ∨ (Jvm.Cond.initialized "java/lang/IllegalStateException") ∈ am_NW := by first | exact Or.inl (am_in (am_tb1 (List.mem_of_getElem? (i := 18) rfl)) (by decide +kernel)) | exact Or.inr (List.mem_filter.mpr ⟨am_t1 (List.mem_of_getElem? (i := 18) rfl), rfl⟩)
set_option maxRecDepth 100000 in
theorem cd_19 : (Jvm.Cond.initialized "java/util/NoSuchElementException") ∈ am_WS ∨ (Jvm.Cond.initialized "java/util/NoSuchElementException") ∈ am_NW := by first | exact Or.inl (am_in (am_tb1 (List.mem_of_getElem? (i := 19) rfl)) (by decide +kernel)) | exact Or.inr (List.mem_filter.mpr ⟨am_t1 (List.mem_of_getElem? (i := 19) rfl), rfl⟩)
set_option maxRecDepth 100000 in
theorem cd_31 : (Jvm.Cond.methodLink "LeadlightHall" (3 : Nat) ({ cls := "java/lang/Object", name := "<init>", desc := "()V" } : Jvm.MethodName)) ∈ am_WS ∨ (Jvm.Cond.methodLink "LeadlightHall" (3 : Nat) ({ cls := "java/lang/Object", name := "<init>", desc := "()V" } : Jvm.MethodName)) ∈ am_NW := by first | exact Or.inl (am_in (am_tb1 (List.mem_of_getElem? (i := 31) rfl)) (by decide +kernel)) | exact Or.inr (List.mem_filter.mpr ⟨am_t1 (List.mem_of_getElem? (i := 31) rfl), rfl⟩)
set_option maxRecDepth 100000 in
theorem cd_32 : (Jvm.Cond.instanceMethod ({ cls := "java/lang/Object", name := "<init>", desc := "()V" } : Jvm.MethodName)) ∈ am_WS ∨ (Jvm.Cond.instanceMethod ({ cls := "java/lang/Object", name := "<init>", desc := "()V" } : Jvm.MethodName)) ∈ am_NW := by first | exact Or.inl (am_in (am_tb1 (List.mem_of_getElem? (i := 32) rfl)) (by decide +kernel)) | exact Or.inr (List.mem_filter.mpr ⟨am_t1 (List.mem_of_getElem? (i := 32) rfl), rfl⟩)
set_option maxRecDepth 100000 in
theorem cd_33 : (Jvm.Cond.code ({ cls := "java/lang/Object", name := "<init>", desc := "()V" } : Jvm.MethodName) object_method_1_code (1 : Nat) (Option.none : Option Jvm.ClassFile.FieldType)) ∈ am_WS ∨ (Jvm.Cond.code ({ cls := "java/lang/Object", name := "<init>", desc := "()V" } : Jvm.MethodName) object_method_1_code (1 : Nat) (Option.none : Option Jvm.ClassFile.FieldType)) ∈ am_NW := by first | exact Or.inl (am_in (am_tb1 (List.mem_of_getElem? (i := 33) rfl)) (by decide +kernel)) | exact Or.inr (List.mem_filter.mpr ⟨am_t1 (List.mem_of_getElem? (i := 33) rfl), rfl⟩)
set_option maxRecDepth 100000 in
theorem cd_39 : (Jvm.Cond.methodLink "LeadlightHall$Wall" (3 : Nat) ({ cls := "java/lang/Object", name := "<init>", desc := "()V" } : Jvm.MethodName)) ∈ am_WS ∨ (Jvm.Cond.methodLink "LeadlightHall$Wall" (3 : Nat) ({ cls := "java/lang/Object", name := "<init>", desc := "()V" } : Jvm.MethodName)) ∈ am_NW := by first | exact Or.inl (am_in (am_tb1 (List.mem_of_getElem? (i := 39) rfl)) (by decide +kernel)) | exact Or.inr (List.mem_filter.mpr ⟨am_t1 (List.mem_of_getElem? (i := 39) rfl), rfl⟩)
set_option maxRecDepth 100000 in
theorem cd_43 : (Jvm.Cond.superclass "LeadlightHall$Wall" "java/lang/Object") ∈ am_WS ∨ (Jvm.Cond.superclass "LeadlightHall$Wall" "java/lang/Object") ∈ am_NW := by first | exact Or.inl (am_in (am_tb1 (List.mem_of_getElem? (i := 43) rfl)) (by decide +kernel)) | exact Or.inr (List.mem_filter.mpr ⟨am_t1 (List.mem_of_getElem? (i := 43) rfl), rfl⟩)
set_option maxRecDepth 100000 in
theorem cd_54 : (Jvm.Cond.methodLink "LeadlightHall$Frame" (3 : Nat) ({ cls := "java/lang/Object", name := "<init>", desc := "()V" } : Jvm.MethodName)) ∈ am_WS ∨ (Jvm.Cond.methodLink "LeadlightHall$Frame" (3 : Nat) ({ cls := "java/lang/Object", name := "<init>", desc := "()V" } : Jvm.MethodName)) ∈ am_NW := by first | exact Or.inl (am_in (am_tb1 (List.mem_of_getElem? (i := 54) rfl)) (by decide +kernel)) | exact Or.inr (List.mem_filter.mpr ⟨am_t1 (List.mem_of_getElem? (i := 54) rfl), rfl⟩)
set_option maxRecDepth 100000 in
theorem cd_66 : (Jvm.Cond.superclass "LeadlightHall$Frame" "java/lang/Object") ∈ am_WS ∨ (Jvm.Cond.superclass "LeadlightHall$Frame" "java/lang/Object") ∈ am_NW := by first | exact Or.inl (am_in (am_tb1 (List.mem_of_getElem? (i := 66) rfl)) (by decide +kernel)) | exact Or.inr (List.mem_filter.mpr ⟨am_t1 (List.mem_of_getElem? (i := 66) rfl), rfl⟩)
set_option maxRecDepth 100000 in
theorem cd_72 : (Jvm.Cond.methodLink "LeadlightHall$Shape" (3 : Nat) ({ cls := "java/lang/Object", name := "<init>", desc := "()V" } : Jvm.MethodName)) ∈ am_WS ∨ (Jvm.Cond.methodLink "LeadlightHall$Shape" (3 : Nat) ({ cls := "java/lang/Object", name := "<init>", desc := "()V" } : Jvm.MethodName)) ∈ am_NW := by first | exact Or.inl (am_in (am_tb1 (List.mem_of_getElem? (i := 72) rfl)) (by decide +kernel)) | exact Or.inr (List.mem_filter.mpr ⟨am_t1 (List.mem_of_getElem? (i := 72) rfl), rfl⟩)
set_option maxRecDepth 100000 in
theorem cd_79 : (Jvm.Cond.superclass "LeadlightHall$Shape" "java/lang/Object") ∈ am_WS ∨ (Jvm.Cond.superclass "LeadlightHall$Shape" "java/lang/Object") ∈ am_NW := by first | exact Or.inl (am_in (am_tb1 (List.mem_of_getElem? (i := 79) rfl)) (by decide +kernel)) | exact Or.inr (List.mem_filter.mpr ⟨am_t1 (List.mem_of_getElem? (i := 79) rfl), rfl⟩)
set_option maxRecDepth 100000 in
theorem cd_85 : (Jvm.Cond.methodLink "LeadlightHall$YearSet" (3 : Nat) ({ cls := "java/lang/Object", name := "<init>", desc := "()V" } : Jvm.MethodName)) ∈ am_WS ∨ (Jvm.Cond.methodLink "LeadlightHall$YearSet" (3 : Nat) ({ cls := "java/lang/Object", name := "<init>", desc := "()V" } : Jvm.MethodName)) ∈ am_NW := by first | exact Or.inl (am_in (am_tb1 (List.mem_of_getElem? (i := 85) rfl)) (by decide +kernel)) | exact Or.inr (List.mem_filter.mpr ⟨am_t1 (List.mem_of_getElem? (i := 85) rfl), rfl⟩)
set_option maxRecDepth 100000 in
theorem cd_89 : (Jvm.Cond.superclass "LeadlightHall$YearSet" "java/lang/Object") ∈ am_WS ∨ (Jvm.Cond.superclass "LeadlightHall$YearSet" "java/lang/Object") ∈ am_NW := by first | exact Or.inl (am_in (am_tb1 (List.mem_of_getElem? (i := 89) rfl)) (by decide +kernel)) | exact Or.inr (List.mem_filter.mpr ⟨am_t1 (List.mem_of_getElem? (i := 89) rfl), rfl⟩)
set_option maxRecDepth 100000 in
theorem cd_95 : (Jvm.Cond.methodLink "LeadlightHall$Pane" (3 : Nat) ({ cls := "java/lang/Object", name := "<init>", desc := "()V" } : Jvm.MethodName)) ∈ am_WS ∨ (Jvm.Cond.methodLink "LeadlightHall$Pane" (3 : Nat) ({ cls := "java/lang/Object", name := "<init>", desc := "()V" } : Jvm.MethodName)) ∈ am_NW := by first | exact Or.inl (am_in (am_tb1 (List.mem_of_getElem? (i := 95) rfl)) (by decide +kernel)) | exact Or.inr (List.mem_filter.mpr ⟨am_t1 (List.mem_of_getElem? (i := 95) rfl), rfl⟩)
set_option maxRecDepth 100000 in
theorem cd_101 : (Jvm.Cond.methodLink "LeadlightHall$Paint" (1 : Nat) ({ cls := "java/lang/Object", name := "<init>", desc := "()V" } : Jvm.MethodName)) ∈ am_WS ∨ (Jvm.Cond.methodLink "LeadlightHall$Paint" (1 : Nat) ({ cls := "java/lang/Object", name := "<init>", desc := "()V" } : Jvm.MethodName)) ∈ am_NW := by first | exact Or.inl (am_in (am_tb1 (List.mem_of_getElem? (i := 101) rfl)) (by decide +kernel)) | exact Or.inr (List.mem_filter.mpr ⟨am_t1 (List.mem_of_getElem? (i := 101) rfl), rfl⟩)
set_option maxRecDepth 100000 in
theorem cd_108 : (Jvm.Cond.superclass "LeadlightHall$Paint" "java/lang/Object") ∈ am_WS ∨ (Jvm.Cond.superclass "LeadlightHall$Paint" "java/lang/Object") ∈ am_NW := by first | exact Or.inl (am_in (am_tb1 (List.mem_of_getElem? (i := 108) rfl)) (by decide +kernel)) | exact Or.inr (List.mem_filter.mpr ⟨am_t1 (List.mem_of_getElem? (i := 108) rfl), rfl⟩)
set_option maxRecDepth 100000 in
theorem cd_139 : (Jvm.Cond.superclass "LeadlightHall$Pane" "java/lang/Object") ∈ am_WS ∨ (Jvm.Cond.superclass "LeadlightHall$Pane" "java/lang/Object") ∈ am_NW := by first | exact Or.inl (am_in (am_tb1 (List.mem_of_getElem? (i := 139) rfl)) (by decide +kernel)) | exact Or.inr (List.mem_filter.mpr ⟨am_t1 (List.mem_of_getElem? (i := 139) rfl), rfl⟩)
set_option maxRecDepth 100000 in
theorem cd_144 : (Jvm.Cond.methodLink "LeadlightHall$Sheet" (3 : Nat) ({ cls := "java/lang/Object", name := "<init>", desc := "()V" } : Jvm.MethodName)) ∈ am_WS ∨ (Jvm.Cond.methodLink "LeadlightHall$Sheet" (3 : Nat) ({ cls := "java/lang/Object", name := "<init>", desc := "()V" } : Jvm.MethodName)) ∈ am_NW := by first | exact Or.inl (am_in (am_tb1 (List.mem_of_getElem? (i := 144) rfl)) (by decide +kernel)) | exact Or.inr (List.mem_filter.mpr ⟨am_t1 (List.mem_of_getElem? (i := 144) rfl), rfl⟩)
set_option maxRecDepth 100000 in
theorem cd_162 : (Jvm.Cond.superclass "LeadlightHall$Sheet" "java/lang/Object") ∈ am_WS ∨ (Jvm.Cond.superclass "LeadlightHall$Sheet" "java/lang/Object") ∈ am_NW := by first | exact Or.inl (am_in (am_tb1 (List.mem_of_getElem? (i := 162) rfl)) (by decide +kernel)) | exact Or.inr (List.mem_filter.mpr ⟨am_t1 (List.mem_of_getElem? (i := 162) rfl), rfl⟩)
set_option maxRecDepth 100000 in
theorem cd_211 : (Jvm.Cond.superclass "LeadlightHall" "java/lang/Object") ∈ am_WS ∨ (Jvm.Cond.superclass "LeadlightHall" "java/lang/Object") ∈ am_NW := by first | exact Or.inl (am_in (am_tb1 (List.mem_of_getElem? (i := 211) rfl)) (by decide +kernel)) | exact Or.inr (List.mem_filter.mpr ⟨am_t1 (List.mem_of_getElem? (i := 211) rfl), rfl⟩)
set_option maxRecDepth 100000 in
theorem cd_392 : (Jvm.Cond.classLink "LeadlightHallLaw" (13 : Nat) "java/lang/IllegalArgumentException") ∈ am_WS ∨ (Jvm.Cond.classLink "LeadlightHallLaw" (13 : Nat) "java/lang/IllegalArgumentException") ∈ am_NW := by first | exact Or.inl (am_in (am_tb2 (List.mem_of_getElem? (i := 152) rfl)) (by decide +kernel)) | exact Or.inr (List.mem_filter.mpr ⟨am_t2 (List.mem_of_getElem? (i := 152) rfl), rfl⟩)
set_option maxRecDepth 100000 in
theorem cd_393 : (Jvm.Cond.classLink "LeadlightHallLaw" (15 : Nat) "java/lang/UnsupportedOperationException") ∈ am_WS ∨ (Jvm.Cond.classLink "LeadlightHallLaw" (15 : Nat) "java/lang/UnsupportedOperationException") ∈ am_NW := by first | exact Or.inl (am_in (am_tb2 (List.mem_of_getElem? (i := 153) rfl)) (by decide +kernel)) | exact Or.inr (List.mem_filter.mpr ⟨am_t2 (List.mem_of_getElem? (i := 153) rfl), rfl⟩)
set_option maxRecDepth 100000 in
theorem cd_402 : (Jvm.Cond.classLink "LeadlightHall" (187 : Nat) "java/lang/IllegalArgumentException") ∈ am_WS ∨ (Jvm.Cond.classLink "LeadlightHall" (187 : Nat) "java/lang/IllegalArgumentException") ∈ am_NW := by first | exact Or.inl (am_in (am_tb2 (List.mem_of_getElem? (i := 162) rfl)) (by decide +kernel)) | exact Or.inr (List.mem_filter.mpr ⟨am_t2 (List.mem_of_getElem? (i := 162) rfl), rfl⟩)
set_option maxRecDepth 100000 in
theorem cd_403 : (Jvm.Cond.instantiable "java/lang/IllegalArgumentException" (6 : Nat)) ∈ am_WS ∨ (Jvm.Cond.instantiable "java/lang/IllegalArgumentException" (6 : Nat)) ∈ am_NW := by first | exact Or.inl (am_in (am_tb2 (List.mem_of_getElem? (i := 163) rfl)) (by decide +kernel)) | exact Or.inr (List.mem_filter.mpr ⟨am_t2 (List.mem_of_getElem? (i := 163) rfl), rfl⟩)
set_option maxRecDepth 100000 in
theorem cd_404 : (Jvm.Cond.castable "java/lang/IllegalArgumentException" "java/lang/IllegalArgumentException") ∈ am_WS ∨ (Jvm.Cond.castable "java/lang/IllegalArgumentException" "java/lang/IllegalArgumentException") ∈ am_NW := by first | exact Or.inl (am_in (am_tb2 (List.mem_of_getElem? (i := 164) rfl)) (by decide +kernel)) | exact Or.inr (List.mem_filter.mpr ⟨am_t2 (List.mem_of_getElem? (i := 164) rfl), rfl⟩)
set_option maxRecDepth 100000 in
theorem cd_405 : (Jvm.Cond.declares ({ cls := "java/lang/RuntimeException", name := "<init>", desc := "()V" } : Jvm.MethodName)) ∈ am_WS ∨ (Jvm.Cond.declares ({ cls := "java/lang/RuntimeException", name := "<init>", desc := "()V" } : Jvm.MethodName)) ∈ am_NW := by first | exact Or.inl (am_in (am_tb2 (List.mem_of_getElem? (i := 165) rfl)) (by decide +kernel)) | exact Or.inr (List.mem_filter.mpr ⟨am_t2 (List.mem_of_getElem? (i := 165) rfl), rfl⟩)
set_option maxRecDepth 100000 in
theorem cd_406 : (Jvm.Cond.declares ({ cls := "java/lang/RuntimeException", name := "<init>", desc := "(Ljava/lang/String;)V" } : Jvm.MethodName)) ∈ am_WS ∨ (Jvm.Cond.declares ({ cls := "java/lang/RuntimeException", name := "<init>", desc := "(Ljava/lang/String;)V" } : Jvm.MethodName)) ∈ am_NW := by first | exact Or.inl (am_in (am_tb2 (List.mem_of_getElem? (i := 166) rfl)) (by decide +kernel)) | exact Or.inr (List.mem_filter.mpr ⟨am_t2 (List.mem_of_getElem? (i := 166) rfl), rfl⟩)
set_option maxRecDepth 100000 in
theorem cd_407 : (Jvm.Cond.declares ({ cls := "java/lang/Exception", name := "<init>", desc := "()V" } : Jvm.MethodName)) ∈ am_WS ∨ (Jvm.Cond.declares ({ cls := "java/lang/Exception", name := "<init>", desc := "()V" } : Jvm.MethodName)) ∈ am_NW := by first | exact Or.inl (am_in (am_tb2 (List.mem_of_getElem? (i := 167) rfl)) (by decide +kernel)) | exact Or.inr (List.mem_filter.mpr ⟨am_t2 (List.mem_of_getElem? (i := 167) rfl), rfl⟩)
set_option maxRecDepth 100000 in
theorem cd_408 : (Jvm.Cond.declares ({ cls := "java/lang/Exception", name := "<init>", desc := "(Ljava/lang/String;)V" } : Jvm.MethodName)) ∈ am_WS ∨ (Jvm.Cond.declares ({ cls := "java/lang/Exception", name := "<init>", desc := "(Ljava/lang/String;)V" } : Jvm.MethodName)) ∈ am_NW := by first | exact Or.inl (am_in (am_tb2 (List.mem_of_getElem? (i := 168) rfl)) (by decide +kernel)) | exact Or.inr (List.mem_filter.mpr ⟨am_t2 (List.mem_of_getElem? (i := 168) rfl), rfl⟩)
set_option maxRecDepth 100000 in
theorem cd_409 : (Jvm.Cond.declares ({ cls := "java/lang/Throwable", name := "<init>", desc := "()V" } : Jvm.MethodName)) ∈ am_WS ∨ (Jvm.Cond.declares ({ cls := "java/lang/Throwable", name := "<init>", desc := "()V" } : Jvm.MethodName)) ∈ am_NW := by first | exact Or.inl (am_in (am_tb2 (List.mem_of_getElem? (i := 169) rfl)) (by decide +kernel)) | exact Or.inr (List.mem_filter.mpr ⟨am_t2 (List.mem_of_getElem? (i := 169) rfl), rfl⟩)
set_option maxRecDepth 100000 in
theorem cd_410 : (Jvm.Cond.declares ({ cls := "java/lang/Throwable", name := "<init>", desc := "(Ljava/lang/String;)V" } : Jvm.MethodName)) ∈ am_WS ∨ (Jvm.Cond.declares ({ cls := "java/lang/Throwable", name := "<init>", desc := "(Ljava/lang/String;)V" } : Jvm.MethodName)) ∈ am_NW := by first | exact Or.inl (am_in (am_tb2 (List.mem_of_getElem? (i := 170) rfl)) (by decide +kernel)) | exact Or.inr (List.mem_filter.mpr ⟨am_t2 (List.mem_of_getElem? (i := 170) rfl), rfl⟩)
set_option maxRecDepth 100000 in
theorem cd_411 : (Jvm.Cond.selects "java/lang/IllegalArgumentException" ({ cls := "java/lang/Throwable", name := "fillInStackTrace", desc := "(I)Ljava/lang/Throwable;" } : Jvm.MethodName) ({ cls := "java/lang/Throwable", name := "fillInStackTrace", desc := "(I)Ljava/lang/Throwable;" } : Jvm.MethodName)) ∈ am_WS ∨ (Jvm.Cond.selects "java/lang/IllegalArgumentException" ({ cls := "java/lang/Throwable", name := "fillInStackTrace", desc := "(I)Ljava/lang/Throwable;" } : Jvm.MethodName) ({ cls := "java/lang/Throwable", name := "fillInStackTrace", desc := "(I)Ljava/lang/Throwable;" } : Jvm.MethodName)) ∈ am_NW := by first | exact Or.inl (am_in (am_tb2 (List.mem_of_getElem? (i := 171) rfl)) (by decide +kernel)) | exact Or.inr (List.mem_filter.mpr ⟨am_t2 (List.mem_of_getElem? (i := 171) rfl), rfl⟩)
set_option maxRecDepth 100000 in
theorem cd_412 : (Jvm.Cond.selects "java/lang/IllegalArgumentException" ({ cls := "java/lang/Throwable", name := "fillInStackTrace", desc := "()Ljava/lang/Throwable;" } : Jvm.MethodName) ({ cls := "java/lang/Throwable", name := "fillInStackTrace", desc := "()Ljava/lang/Throwable;" } : Jvm.MethodName)) ∈ am_WS ∨ (Jvm.Cond.selects "java/lang/IllegalArgumentException" ({ cls := "java/lang/Throwable", name := "fillInStackTrace", desc := "()Ljava/lang/Throwable;" } : Jvm.MethodName) ({ cls := "java/lang/Throwable", name := "fillInStackTrace", desc := "()Ljava/lang/Throwable;" } : Jvm.MethodName)) ∈ am_NW := by first | exact Or.inl (am_in (am_tb2 (List.mem_of_getElem? (i := 172) rfl)) (by decide +kernel)) | exact Or.inr (List.mem_filter.mpr ⟨am_t2 (List.mem_of_getElem? (i := 172) rfl), rfl⟩)
set_option maxRecDepth 100000 in
theorem cd_413 : (Jvm.Cond.lays "java/lang/IllegalArgumentException" "java/lang/Throwable" "cause" "Ljava/lang/Throwable;") ∈ am_WS ∨ (Jvm.Cond.lays "java/lang/IllegalArgumentException" "java/lang/Throwable" "cause" "Ljava/lang/Throwable;") ∈ am_NW := by first | exact Or.inl (am_in (am_tb2 (List.mem_of_getElem? (i := 173) rfl)) (by decide +kernel)) | exact Or.inr (List.mem_filter.mpr ⟨am_t2 (List.mem_of_getElem? (i := 173) rfl), rfl⟩)
set_option maxRecDepth 100000 in
theorem cd_414 : (Jvm.Cond.lays "java/lang/Throwable" "java/lang/Throwable" "cause" "Ljava/lang/Throwable;") ∈ am_WS ∨ (Jvm.Cond.lays "java/lang/Throwable" "java/lang/Throwable" "cause" "Ljava/lang/Throwable;") ∈ am_NW := by first | exact Or.inl (am_in (am_tb2 (List.mem_of_getElem? (i := 174) rfl)) (by decide +kernel)) | exact Or.inr (List.mem_filter.mpr ⟨am_t2 (List.mem_of_getElem? (i := 174) rfl), rfl⟩)
set_option maxRecDepth 100000 in
theorem cd_415 : (Jvm.Cond.lays "java/lang/IllegalArgumentException" "java/lang/Throwable" "stackTrace" "[Ljava/lang/StackTraceElement;") ∈ am_WS ∨ (Jvm.Cond.lays "java/lang/IllegalArgumentException" "java/lang/Throwable" "stackTrace" "[Ljava/lang/StackTraceElement;") ∈ am_NW := by first | exact Or.inl (am_in (am_tb2 (List.mem_of_getElem? (i := 175) rfl)) (by decide +kernel)) | exact Or.inr (List.mem_filter.mpr ⟨am_t2 (List.mem_of_getElem? (i := 175) rfl), rfl⟩)
set_option maxRecDepth 100000 in
theorem cd_416 : (Jvm.Cond.lays "java/lang/Throwable" "java/lang/Throwable" "stackTrace" "[Ljava/lang/StackTraceElement;") ∈ am_WS ∨ (Jvm.Cond.lays "java/lang/Throwable" "java/lang/Throwable" "stackTrace" "[Ljava/lang/StackTraceElement;") ∈ am_NW := by first | exact Or.inl (am_in (am_tb2 (List.mem_of_getElem? (i := 176) rfl)) (by decide +kernel)) | exact Or.inr (List.mem_filter.mpr ⟨am_t2 (List.mem_of_getElem? (i := 176) rfl), rfl⟩)
set_option maxRecDepth 100000 in
theorem cd_417 : (Jvm.Cond.lays "java/lang/IllegalArgumentException" "java/lang/Throwable" "suppressedExceptions" "Ljava/util/List;") ∈ am_WS ∨ (Jvm.Cond.lays "java/lang/IllegalArgumentException" "java/lang/Throwable" "suppressedExceptions" "Ljava/util/List;") ∈ am_NW := by first | exact Or.inl (am_in (am_tb2 (List.mem_of_getElem? (i := 177) rfl)) (by decide +kernel)) | exact Or.inr (List.mem_filter.mpr ⟨am_t2 (List.mem_of_getElem? (i := 177) rfl), rfl⟩)
set_option maxRecDepth 100000 in
theorem cd_418 : (Jvm.Cond.lays "java/lang/Throwable" "java/lang/Throwable" "suppressedExceptions" "Ljava/util/List;") ∈ am_WS ∨ (Jvm.Cond.lays "java/lang/Throwable" "java/lang/Throwable" "suppressedExceptions" "Ljava/util/List;") ∈ am_NW := by first | exact Or.inl (am_in (am_tb2 (List.mem_of_getElem? (i := 178) rfl)) (by decide +kernel)) | exact Or.inr (List.mem_filter.mpr ⟨am_t2 (List.mem_of_getElem? (i := 178) rfl), rfl⟩)
set_option maxRecDepth 100000 in
theorem cd_419 : (Jvm.Cond.lays "java/lang/IllegalArgumentException" "java/lang/Throwable" "detailMessage" "Ljava/lang/String;") ∈ am_WS ∨ (Jvm.Cond.lays "java/lang/IllegalArgumentException" "java/lang/Throwable" "detailMessage" "Ljava/lang/String;") ∈ am_NW := by first | exact Or.inl (am_in (am_tb2 (List.mem_of_getElem? (i := 179) rfl)) (by decide +kernel)) | exact Or.inr (List.mem_filter.mpr ⟨am_t2 (List.mem_of_getElem? (i := 179) rfl), rfl⟩)
set_option maxRecDepth 100000 in
theorem cd_420 : (Jvm.Cond.lays "java/lang/Throwable" "java/lang/Throwable" "detailMessage" "Ljava/lang/String;") ∈ am_WS ∨ (Jvm.Cond.lays "java/lang/Throwable" "java/lang/Throwable" "detailMessage" "Ljava/lang/String;") ∈ am_NW := by first | exact Or.inl (am_in (am_tb2 (List.mem_of_getElem? (i := 180) rfl)) (by decide +kernel)) | exact Or.inr (List.mem_filter.mpr ⟨am_t2 (List.mem_of_getElem? (i := 180) rfl), rfl⟩)
set_option maxRecDepth 100000 in
theorem cd_421 : (Jvm.Cond.lays "java/lang/IllegalArgumentException" "java/lang/Throwable" "backtrace" "Ljava/lang/Object;") ∈ am_WS ∨ (Jvm.Cond.lays "java/lang/IllegalArgumentException" "java/lang/Throwable" "backtrace" "Ljava/lang/Object;") ∈ am_NW := by first | exact Or.inl (am_in (am_tb2 (List.mem_of_getElem? (i := 181) rfl)) (by decide +kernel)) | exact Or.inr (List.mem_filter.mpr ⟨am_t2 (List.mem_of_getElem? (i := 181) rfl), rfl⟩)
set_option maxRecDepth 100000 in
theorem cd_422 : (Jvm.Cond.lays "java/lang/Throwable" "java/lang/Throwable" "backtrace" "Ljava/lang/Object;") ∈ am_WS ∨ (Jvm.Cond.lays "java/lang/Throwable" "java/lang/Throwable" "backtrace" "Ljava/lang/Object;") ∈ am_NW := by first | exact Or.inl (am_in (am_tb2 (List.mem_of_getElem? (i := 182) rfl)) (by decide +kernel)) | exact Or.inr (List.mem_filter.mpr ⟨am_t2 (List.mem_of_getElem? (i := 182) rfl), rfl⟩)
set_option maxRecDepth 100000 in
theorem cd_423 : (Jvm.Cond.fieldLink "java/lang/Throwable" (198 : Nat) "java/lang/Throwable" "backtrace" "Ljava/lang/Object;") ∈ am_WS ∨ (Jvm.Cond.fieldLink "java/lang/Throwable" (198 : Nat) "java/lang/Throwable" "backtrace" "Ljava/lang/Object;") ∈ am_NW := by first | exact Or.inl (am_in (am_tb2 (List.mem_of_getElem? (i := 183) rfl)) (by decide +kernel)) | exact Or.inr (List.mem_filter.mpr ⟨am_t2 (List.mem_of_getElem? (i := 183) rfl), rfl⟩)
set_option maxRecDepth 100000 in
theorem cd_424 : (Jvm.Cond.superclass "java/lang/Throwable" "java/lang/Object") ∈ am_WS ∨ (Jvm.Cond.superclass "java/lang/Throwable" "java/lang/Object") ∈ am_NW := by first | exact Or.inl (am_in (am_tb2 (List.mem_of_getElem? (i := 184) rfl)) (by decide +kernel)) | exact Or.inr (List.mem_filter.mpr ⟨am_t2 (List.mem_of_getElem? (i := 184) rfl), rfl⟩)
set_option maxRecDepth 100000 in
theorem cd_425 : (Jvm.Cond.instanceMethod ({ cls := "java/lang/Throwable", name := "<init>", desc := "()V" } : Jvm.MethodName)) ∈ am_WS ∨ (Jvm.Cond.instanceMethod ({ cls := "java/lang/Throwable", name := "<init>", desc := "()V" } : Jvm.MethodName)) ∈ am_NW := by first | exact Or.inl (am_in (am_tb2 (List.mem_of_getElem? (i := 185) rfl)) (by decide +kernel)) | exact Or.inr (List.mem_filter.mpr ⟨am_t2 (List.mem_of_getElem? (i := 185) rfl), rfl⟩)
set_option maxRecDepth 100000 in
theorem cd_426 : (Jvm.Cond.code ({ cls := "java/lang/Throwable", name := "<init>", desc := "()V" } : Jvm.MethodName) prog_27_method_1_code (1 : Nat) (Option.none : Option Jvm.ClassFile.FieldType)) ∈ am_WS ∨ (Jvm.Cond.code ({ cls := "java/lang/Throwable", name := "<init>", desc := "()V" } : Jvm.MethodName) prog_27_method_1_code (1 : Nat) (Option.none : Option Jvm.ClassFile.FieldType)) ∈ am_NW := by first | exact Or.inl (am_in (am_tb2 (List.mem_of_getElem? (i := 186) rfl)) (by decide +kernel)) | exact Or.inr (List.mem_filter.mpr ⟨am_t2 (List.mem_of_getElem? (i := 186) rfl), rfl⟩)
set_option maxRecDepth 100000 in
theorem cd_427 : (Jvm.Cond.methodLink "java/lang/Throwable" (1 : Nat) ({ cls := "java/lang/Object", name := "<init>", desc := "()V" } : Jvm.MethodName)) ∈ am_WS ∨ (Jvm.Cond.methodLink "java/lang/Throwable" (1 : Nat) ({ cls := "java/lang/Object", name := "<init>", desc := "()V" } : Jvm.MethodName)) ∈ am_NW := by first | exact Or.inl (am_in (am_tb2 (List.mem_of_getElem? (i := 187) rfl)) (by decide +kernel)) | exact Or.inr (List.mem_filter.mpr ⟨am_t2 (List.mem_of_getElem? (i := 187) rfl), rfl⟩)
set_option maxRecDepth 100000 in
theorem cd_428 : (Jvm.Cond.fieldLink "java/lang/Throwable" (13 : Nat) "java/lang/Throwable" "UNASSIGNED_STACK" "[Ljava/lang/StackTraceElement;") ∈ am_WS ∨ (Jvm.Cond.fieldLink "java/lang/Throwable" (13 : Nat) "java/lang/Throwable" "UNASSIGNED_STACK" "[Ljava/lang/StackTraceElement;") ∈ am_NW := by first | exact Or.inl (am_in (am_tb2 (List.mem_of_getElem? (i := 188) rfl)) (by decide +kernel)) | exact Or.inr (List.mem_filter.mpr ⟨am_t2 (List.mem_of_getElem? (i := 188) rfl), rfl⟩)
set_option maxRecDepth 100000 in
theorem cd_430 : (Jvm.Cond.fieldLink "java/lang/Throwable" (20 : Nat) "java/lang/Throwable" "SUPPRESSED_SENTINEL" "Ljava/util/List;") ∈ am_WS ∨ (Jvm.Cond.fieldLink "java/lang/Throwable" (20 : Nat) "java/lang/Throwable" "SUPPRESSED_SENTINEL" "Ljava/util/List;") ∈ am_NW := by first | exact Or.inl (am_in (am_tb2 (List.mem_of_getElem? (i := 190) rfl)) (by decide +kernel)) | exact Or.inr (List.mem_filter.mpr ⟨am_t2 (List.mem_of_getElem? (i := 190) rfl), rfl⟩)
set_option maxRecDepth 100000 in
theorem cd_432 : (Jvm.Cond.methodLink "java/lang/Throwable" (27 : Nat) ({ cls := "java/lang/Throwable", name := "fillInStackTrace", desc := "()Ljava/lang/Throwable;" } : Jvm.MethodName)) ∈ am_WS ∨ (Jvm.Cond.methodLink "java/lang/Throwable" (27 : Nat) ({ cls := "java/lang/Throwable", name := "fillInStackTrace", desc := "()Ljava/lang/Throwable;" } : Jvm.MethodName)) ∈ am_NW := by first | exact Or.inl (am_in (am_tb2 (List.mem_of_getElem? (i := 192) rfl)) (by decide +kernel)) | exact Or.inr (List.mem_filter.mpr ⟨am_t2 (List.mem_of_getElem? (i := 192) rfl), rfl⟩)
set_option maxRecDepth 100000 in
theorem cd_433 : (Jvm.Cond.instanceMethod ({ cls := "java/lang/Throwable", name := "fillInStackTrace", desc := "()Ljava/lang/Throwable;" } : Jvm.MethodName)) ∈ am_WS ∨ (Jvm.Cond.instanceMethod ({ cls := "java/lang/Throwable", name := "fillInStackTrace", desc := "()Ljava/lang/Throwable;" } : Jvm.MethodName)) ∈ am_NW := by first | exact Or.inl (am_in (am_tb2 (List.mem_of_getElem? (i := 193) rfl)) (by decide +kernel)) | exact Or.inr (List.mem_filter.mpr ⟨am_t2 (List.mem_of_getElem? (i := 193) rfl), rfl⟩)
set_option maxRecDepth 100000 in
theorem cd_434 : (Jvm.Cond.sameMethod "java/lang/Throwable" "java/lang/Throwable" "fillInStackTrace" "()Ljava/lang/Throwable;") ∈ am_WS ∨ (Jvm.Cond.sameMethod "java/lang/Throwable" "java/lang/Throwable" "fillInStackTrace" "()Ljava/lang/Throwable;") ∈ am_NW := by first | exact Or.inl (am_in (am_tb2 (List.mem_of_getElem? (i := 194) rfl)) (by decide +kernel)) | exact Or.inr (List.mem_filter.mpr ⟨am_t2 (List.mem_of_getElem? (i := 194) rfl), rfl⟩)
set_option maxRecDepth 100000 in
theorem cd_435 : (Jvm.Cond.selects "java/lang/IllegalStateException" ({ cls := "java/lang/Throwable", name := "fillInStackTrace", desc := "()Ljava/lang/Throwable;" } : Jvm.MethodName) ({ cls := "java/lang/Throwable", name := "fillInStackTrace", desc := "()Ljava/lang/Throwable;" } : Jvm.MethodName)) ∈ am_WS ∨ (Jvm.Cond.selects "java/lang/IllegalStateException" ({ cls := "java/lang/Throwable", name := "fillInStackTrace", desc := "()Ljava/lang/Throwable;" } : Jvm.MethodName) ({ cls := "java/lang/Throwable", name := "fillInStackTrace", desc := "()Ljava/lang/Throwable;" } : Jvm.MethodName)) ∈ am_NW := by first | exact Or.inl (am_in (am_tb2 (List.mem_of_getElem? (i := 195) rfl)) (by decide +kernel)) | exact Or.inr (List.mem_filter.mpr ⟨am_t2 (List.mem_of_getElem? (i := 195) rfl), rfl⟩)
set_option maxRecDepth 100000 in
theorem cd_436 : (Jvm.Cond.selects "java/lang/IndexOutOfBoundsException" ({ cls := "java/lang/Throwable", name := "fillInStackTrace", desc := "()Ljava/lang/Throwable;" } : Jvm.MethodName) ({ cls := "java/lang/Throwable", name := "fillInStackTrace", desc := "()Ljava/lang/Throwable;" } : Jvm.MethodName)) ∈ am_WS ∨ (Jvm.Cond.selects "java/lang/IndexOutOfBoundsException" ({ cls := "java/lang/Throwable", name := "fillInStackTrace", desc := "()Ljava/lang/Throwable;" } : Jvm.MethodName) ({ cls := "java/lang/Throwable", name := "fillInStackTrace", desc := "()Ljava/lang/Throwable;" } : Jvm.MethodName)) ∈ am_NW := by first | exact Or.inl (am_in (am_tb2 (List.mem_of_getElem? (i := 196) rfl)) (by decide +kernel)) | exact Or.inr (List.mem_filter.mpr ⟨am_t2 (List.mem_of_getElem? (i := 196) rfl), rfl⟩)
set_option maxRecDepth 100000 in
theorem cd_437 : (Jvm.Cond.selects "java/lang/UnsupportedOperationException" ({ cls := "java/lang/Throwable", name := "fillInStackTrace", desc := "()Ljava/lang/Throwable;" } : Jvm.MethodName) ({ cls := "java/lang/Throwable", name := "fillInStackTrace", desc := "()Ljava/lang/Throwable;" } : Jvm.MethodName)) ∈ am_WS ∨ (Jvm.Cond.selects "java/lang/UnsupportedOperationException" ({ cls := "java/lang/Throwable", name := "fillInStackTrace", desc := "()Ljava/lang/Throwable;" } : Jvm.MethodName) ({ cls := "java/lang/Throwable", name := "fillInStackTrace", desc := "()Ljava/lang/Throwable;" } : Jvm.MethodName)) ∈ am_NW := by first | exact Or.inl (am_in (am_tb2 (List.mem_of_getElem? (i := 197) rfl)) (by decide +kernel)) | exact Or.inr (List.mem_filter.mpr ⟨am_t2 (List.mem_of_getElem? (i := 197) rfl), rfl⟩)
set_option maxRecDepth 100000 in
theorem cd_438 : (Jvm.Cond.selects "java/util/NoSuchElementException" ({ cls := "java/lang/Throwable", name := "fillInStackTrace", desc := "()Ljava/lang/Throwable;" } : Jvm.MethodName) ({ cls := "java/lang/Throwable", name := "fillInStackTrace", desc := "()Ljava/lang/Throwable;" } : Jvm.MethodName)) ∈ am_WS ∨ (Jvm.Cond.selects "java/util/NoSuchElementException" ({ cls := "java/lang/Throwable", name := "fillInStackTrace", desc := "()Ljava/lang/Throwable;" } : Jvm.MethodName) ({ cls := "java/lang/Throwable", name := "fillInStackTrace", desc := "()Ljava/lang/Throwable;" } : Jvm.MethodName)) ∈ am_NW := by first | exact Or.inl (am_in (am_tb2 (List.mem_of_getElem? (i := 198) rfl)) (by decide +kernel)) | exact Or.inr (List.mem_filter.mpr ⟨am_t2 (List.mem_of_getElem? (i := 198) rfl), rfl⟩)
set_option maxRecDepth 100000 in
theorem cd_439 : (Jvm.Cond.codeSync ({ cls := "java/lang/Throwable", name := "fillInStackTrace", desc := "()Ljava/lang/Throwable;" } : Jvm.MethodName) prog_27_method_18_code (1 : Nat) (Option.some (Jvm.ClassFile.FieldType.object "java/lang/Throwable"))) ∈ am_WS ∨ (Jvm.Cond.codeSync ({ cls := "java/lang/Throwable", name := "fillInStackTrace", desc := "()Ljava/lang/Throwable;" } : Jvm.MethodName) prog_27_method_18_code (1 : Nat) (Option.some (Jvm.ClassFile.FieldType.object "java/lang/Throwable"))) ∈ am_NW := by first | exact Or.inl (am_in (am_tb2 (List.mem_of_getElem? (i := 199) rfl)) (by decide +kernel)) | exact Or.inr (List.mem_filter.mpr ⟨am_t2 (List.mem_of_getElem? (i := 199) rfl), rfl⟩)
set_option maxRecDepth 100000 in
theorem cd_440 : (Jvm.Cond.methodLink "java/lang/Throwable" (202 : Nat) ({ cls := "java/lang/Throwable", name := "fillInStackTrace", desc := "(I)Ljava/lang/Throwable;" } : Jvm.MethodName)) ∈ am_WS ∨ (Jvm.Cond.methodLink "java/lang/Throwable" (202 : Nat) ({ cls := "java/lang/Throwable", name := "fillInStackTrace", desc := "(I)Ljava/lang/Throwable;" } : Jvm.MethodName)) ∈ am_NW := by first | exact Or.inl (am_in (am_tb2 (List.mem_of_getElem? (i := 200) rfl)) (by decide +kernel)) | exact Or.inr (List.mem_filter.mpr ⟨am_t2 (List.mem_of_getElem? (i := 200) rfl), rfl⟩)
set_option maxRecDepth 100000 in
theorem cd_442 : (Jvm.Cond.instanceMethod ({ cls := "java/lang/Throwable", name := "fillInStackTrace", desc := "(I)Ljava/lang/Throwable;" } : Jvm.MethodName)) ∈ am_WS ∨ (Jvm.Cond.instanceMethod ({ cls := "java/lang/Throwable", name := "fillInStackTrace", desc := "(I)Ljava/lang/Throwable;" } : Jvm.MethodName)) ∈ am_NW := by first | exact Or.inl (am_in (am_tb2 (List.mem_of_getElem? (i := 202) rfl)) (by decide +kernel)) | exact Or.inr (List.mem_filter.mpr ⟨am_t2 (List.mem_of_getElem? (i := 202) rfl), rfl⟩)
set_option maxRecDepth 100000 in
theorem cd_443 : (Jvm.Cond.instantiable "java/lang/Throwable" (6 : Nat)) ∈ am_WS ∨ (Jvm.Cond.instantiable "java/lang/Throwable" (6 : Nat)) ∈ am_NW := by first | exact Or.inl (am_in (am_tb2 (List.mem_of_getElem? (i := 203) rfl)) (by decide +kernel)) | exact Or.inr (List.mem_filter.mpr ⟨am_t2 (List.mem_of_getElem? (i := 203) rfl), rfl⟩)
set_option maxRecDepth 100000 in
theorem cd_444 : (Jvm.Cond.native ({ cls := "java/lang/Throwable", name := "fillInStackTrace", desc := "(I)Ljava/lang/Throwable;" } : Jvm.MethodName)) ∈ am_WS ∨ (Jvm.Cond.native ({ cls := "java/lang/Throwable", name := "fillInStackTrace", desc := "(I)Ljava/lang/Throwable;" } : Jvm.MethodName)) ∈ am_NW := by first | exact Or.inl (am_in (am_tb2 (List.mem_of_getElem? (i := 204) rfl)) (by decide +kernel)) | exact Or.inr (List.mem_filter.mpr ⟨am_t2 (List.mem_of_getElem? (i := 204) rfl), rfl⟩)
set_option maxRecDepth 100000 in
theorem cd_446 : (Jvm.Cond.methodLink "LeadlightHall" (191 : Nat) ({ cls := "java/lang/IllegalArgumentException", name := "<init>", desc := "(Ljava/lang/String;)V" } : Jvm.MethodName)) ∈ am_WS ∨ (Jvm.Cond.methodLink "LeadlightHall" (191 : Nat) ({ cls := "java/lang/IllegalArgumentException", name := "<init>", desc := "(Ljava/lang/String;)V" } : Jvm.MethodName)) ∈ am_NW := by first | exact Or.inl (am_in (am_tb2 (List.mem_of_getElem? (i := 206) rfl)) (by decide +kernel)) | exact Or.inr (List.mem_filter.mpr ⟨am_t2 (List.mem_of_getElem? (i := 206) rfl), rfl⟩)
set_option maxRecDepth 100000 in
theorem cd_447 : (Jvm.Cond.instanceMethod ({ cls := "java/lang/IllegalArgumentException", name := "<init>", desc := "(Ljava/lang/String;)V" } : Jvm.MethodName)) ∈ am_WS ∨ (Jvm.Cond.instanceMethod ({ cls := "java/lang/IllegalArgumentException", name := "<init>", desc := "(Ljava/lang/String;)V" } : Jvm.MethodName)) ∈ am_NW := by first | exact Or.inl (am_in (am_tb2 (List.mem_of_getElem? (i := 207) rfl)) (by decide +kernel)) | exact Or.inr (List.mem_filter.mpr ⟨am_t2 (List.mem_of_getElem? (i := 207) rfl), rfl⟩)
set_option maxRecDepth 100000 in
theorem cd_448 : (Jvm.Cond.code ({ cls := "java/lang/IllegalArgumentException", name := "<init>", desc := "(Ljava/lang/String;)V" } : Jvm.MethodName) prog_17_method_2_code (2 : Nat) (Option.none : Option Jvm.ClassFile.FieldType)) ∈ am_WS ∨ (Jvm.Cond.code ({ cls := "java/lang/IllegalArgumentException", name := "<init>", desc := "(Ljava/lang/String;)V" } : Jvm.MethodName) prog_17_method_2_code (2 : Nat) (Option.none : Option Jvm.ClassFile.FieldType)) ∈ am_NW := by first | exact Or.inl (am_in (am_tb2 (List.mem_of_getElem? (i := 208) rfl)) (by decide +kernel)) | exact Or.inr (List.mem_filter.mpr ⟨am_t2 (List.mem_of_getElem? (i := 208) rfl), rfl⟩)
set_option maxRecDepth 100000 in
theorem cd_449 : (Jvm.Cond.methodLink "java/lang/IllegalArgumentException" (7 : Nat) ({ cls := "java/lang/RuntimeException", name := "<init>", desc := "(Ljava/lang/String;)V" } : Jvm.MethodName)) ∈ am_WS ∨ (Jvm.Cond.methodLink "java/lang/IllegalArgumentException" (7 : Nat) ({ cls := "java/lang/RuntimeException", name := "<init>", desc := "(Ljava/lang/String;)V" } : Jvm.MethodName)) ∈ am_NW := by first | exact Or.inl (am_in (am_tb2 (List.mem_of_getElem? (i := 209) rfl)) (by decide +kernel)) | exact Or.inr (List.mem_filter.mpr ⟨am_t2 (List.mem_of_getElem? (i := 209) rfl), rfl⟩)
set_option maxRecDepth 100000 in
theorem cd_450 : (Jvm.Cond.instanceMethod ({ cls := "java/lang/RuntimeException", name := "<init>", desc := "(Ljava/lang/String;)V" } : Jvm.MethodName)) ∈ am_WS ∨ (Jvm.Cond.instanceMethod ({ cls := "java/lang/RuntimeException", name := "<init>", desc := "(Ljava/lang/String;)V" } : Jvm.MethodName)) ∈ am_NW := by first | exact Or.inl (am_in (am_tb2 (List.mem_of_getElem? (i := 210) rfl)) (by decide +kernel)) | exact Or.inr (List.mem_filter.mpr ⟨am_t2 (List.mem_of_getElem? (i := 210) rfl), rfl⟩)
set_option maxRecDepth 100000 in
theorem cd_451 : (Jvm.Cond.code ({ cls := "java/lang/RuntimeException", name := "<init>", desc := "(Ljava/lang/String;)V" } : Jvm.MethodName) prog_23_method_2_code (2 : Nat) (Option.none : Option Jvm.ClassFile.FieldType)) ∈ am_WS ∨ (Jvm.Cond.code ({ cls := "java/lang/RuntimeException", name := "<init>", desc := "(Ljava/lang/String;)V" } : Jvm.MethodName) prog_23_method_2_code (2 : Nat) (Option.none : Option Jvm.ClassFile.FieldType)) ∈ am_NW := by first | exact Or.inl (am_in (am_tb2 (List.mem_of_getElem? (i := 211) rfl)) (by decide +kernel)) | exact Or.inr (List.mem_filter.mpr ⟨am_t2 (List.mem_of_getElem? (i := 211) rfl), rfl⟩)
set_option maxRecDepth 100000 in
theorem cd_452 : (Jvm.Cond.methodLink "java/lang/RuntimeException" (7 : Nat) ({ cls := "java/lang/Exception", name := "<init>", desc := "(Ljava/lang/String;)V" } : Jvm.MethodName)) ∈ am_WS ∨ (Jvm.Cond.methodLink "java/lang/RuntimeException" (7 : Nat) ({ cls := "java/lang/Exception", name := "<init>", desc := "(Ljava/lang/String;)V" } : Jvm.MethodName)) ∈ am_NW := by first | exact Or.inl (am_in (am_tb2 (List.mem_of_getElem? (i := 212) rfl)) (by decide +kernel)) | exact Or.inr (List.mem_filter.mpr ⟨am_t2 (List.mem_of_getElem? (i := 212) rfl), rfl⟩)
set_option maxRecDepth 100000 in
theorem cd_453 : (Jvm.Cond.instanceMethod ({ cls := "java/lang/Exception", name := "<init>", desc := "(Ljava/lang/String;)V" } : Jvm.MethodName)) ∈ am_WS ∨ (Jvm.Cond.instanceMethod ({ cls := "java/lang/Exception", name := "<init>", desc := "(Ljava/lang/String;)V" } : Jvm.MethodName)) ∈ am_NW := by first | exact Or.inl (am_in (am_tb2 (List.mem_of_getElem? (i := 213) rfl)) (by decide +kernel)) | exact Or.inr (List.mem_filter.mpr ⟨am_t2 (List.mem_of_getElem? (i := 213) rfl), rfl⟩)
set_option maxRecDepth 100000 in
theorem cd_454 : (Jvm.Cond.code ({ cls := "java/lang/Exception", name := "<init>", desc := "(Ljava/lang/String;)V" } : Jvm.MethodName) prog_16_method_2_code (2 : Nat) (Option.none : Option Jvm.ClassFile.FieldType)) ∈ am_WS ∨ (Jvm.Cond.code ({ cls := "java/lang/Exception", name := "<init>", desc := "(Ljava/lang/String;)V" } : Jvm.MethodName) prog_16_method_2_code (2 : Nat) (Option.none : Option Jvm.ClassFile.FieldType)) ∈ am_NW := by first | exact Or.inl (am_in (am_tb2 (List.mem_of_getElem? (i := 214) rfl)) (by decide +kernel)) | exact Or.inr (List.mem_filter.mpr ⟨am_t2 (List.mem_of_getElem? (i := 214) rfl), rfl⟩)
set_option maxRecDepth 100000 in
theorem cd_455 : (Jvm.Cond.methodLink "java/lang/Exception" (7 : Nat) ({ cls := "java/lang/Throwable", name := "<init>", desc := "(Ljava/lang/String;)V" } : Jvm.MethodName)) ∈ am_WS ∨ (Jvm.Cond.methodLink "java/lang/Exception" (7 : Nat) ({ cls := "java/lang/Throwable", name := "<init>", desc := "(Ljava/lang/String;)V" } : Jvm.MethodName)) ∈ am_NW := by first | exact Or.inl (am_in (am_tb2 (List.mem_of_getElem? (i := 215) rfl)) (by decide +kernel)) | exact Or.inr (List.mem_filter.mpr ⟨am_t2 (List.mem_of_getElem? (i := 215) rfl), rfl⟩)
set_option maxRecDepth 100000 in
theorem cd_456 : (Jvm.Cond.instanceMethod ({ cls := "java/lang/Throwable", name := "<init>", desc := "(Ljava/lang/String;)V" } : Jvm.MethodName)) ∈ am_WS ∨ (Jvm.Cond.instanceMethod ({ cls := "java/lang/Throwable", name := "<init>", desc := "(Ljava/lang/String;)V" } : Jvm.MethodName)) ∈ am_NW := by first | exact Or.inl (am_in (am_tb2 (List.mem_of_getElem? (i := 216) rfl)) (by decide +kernel)) | exact Or.inr (List.mem_filter.mpr ⟨am_t2 (List.mem_of_getElem? (i := 216) rfl), rfl⟩)
set_option maxRecDepth 100000 in
theorem cd_457 : (Jvm.Cond.code ({ cls := "java/lang/Throwable", name := "<init>", desc := "(Ljava/lang/String;)V" } : Jvm.MethodName) prog_27_method_2_code (2 : Nat) (Option.none : Option Jvm.ClassFile.FieldType)) ∈ am_WS ∨ (Jvm.Cond.code ({ cls := "java/lang/Throwable", name := "<init>", desc := "(Ljava/lang/String;)V" } : Jvm.MethodName) prog_27_method_2_code (2 : Nat) (Option.none : Option Jvm.ClassFile.FieldType)) ∈ am_NW := by first | exact Or.inl (am_in (am_tb2 (List.mem_of_getElem? (i := 217) rfl)) (by decide +kernel)) | exact Or.inr (List.mem_filter.mpr ⟨am_t2 (List.mem_of_getElem? (i := 217) rfl), rfl⟩)
set_option maxRecDepth 100000 in
theorem cd_458 : (Jvm.Cond.fieldLink "java/lang/Throwable" (198 : Nat) "java/lang/Throwable" "backtrace" "Ljava/lang/Object;") ∈ am_WS ∨ (Jvm.Cond.fieldLink "java/lang/Throwable" (198 : Nat) "java/lang/Throwable" "backtrace" "Ljava/lang/Object;") ∈ am_NW := by first | exact Or.inl (am_in (am_tb2 (List.mem_of_getElem? (i := 218) rfl)) (by decide +kernel)) | exact Or.inr (List.mem_filter.mpr ⟨am_t2 (List.mem_of_getElem? (i := 218) rfl), rfl⟩)
set_option maxRecDepth 100000 in
theorem cd_459 : (Jvm.Cond.fieldLink "java/lang/Throwable" (31 : Nat) "java/lang/Throwable" "detailMessage" "Ljava/lang/String;") ∈ am_WS ∨ (Jvm.Cond.fieldLink "java/lang/Throwable" (31 : Nat) "java/lang/Throwable" "detailMessage" "Ljava/lang/String;") ∈ am_NW := by first | exact Or.inl (am_in (am_tb2 (List.mem_of_getElem? (i := 219) rfl)) (by decide +kernel)) | exact Or.inr (List.mem_filter.mpr ⟨am_t2 (List.mem_of_getElem? (i := 219) rfl), rfl⟩)
set_option maxRecDepth 100000 in
theorem cd_460 : (Jvm.Cond.fieldLink "java/lang/Throwable" (7 : Nat) "java/lang/Throwable" "cause" "Ljava/lang/Throwable;") ∈ am_WS ∨ (Jvm.Cond.fieldLink "java/lang/Throwable" (7 : Nat) "java/lang/Throwable" "cause" "Ljava/lang/Throwable;") ∈ am_NW := by first | exact Or.inl (am_in (am_tb2 (List.mem_of_getElem? (i := 220) rfl)) (by decide +kernel)) | exact Or.inr (List.mem_filter.mpr ⟨am_t2 (List.mem_of_getElem? (i := 220) rfl), rfl⟩)
set_option maxRecDepth 100000 in
theorem cd_461 : (Jvm.Cond.fieldLink "java/lang/Throwable" (17 : Nat) "java/lang/Throwable" "stackTrace" "[Ljava/lang/StackTraceElement;") ∈ am_WS ∨ (Jvm.Cond.fieldLink "java/lang/Throwable" (17 : Nat) "java/lang/Throwable" "stackTrace" "[Ljava/lang/StackTraceElement;") ∈ am_NW := by first | exact Or.inl (am_in (am_tb2 (List.mem_of_getElem? (i := 221) rfl)) (by decide +kernel)) | exact Or.inr (List.mem_filter.mpr ⟨am_t2 (List.mem_of_getElem? (i := 221) rfl), rfl⟩)
set_option maxRecDepth 100000 in
theorem cd_462 : (Jvm.Cond.fieldLink "java/lang/Throwable" (24 : Nat) "java/lang/Throwable" "suppressedExceptions" "Ljava/util/List;") ∈ am_WS ∨ (Jvm.Cond.fieldLink "java/lang/Throwable" (24 : Nat) "java/lang/Throwable" "suppressedExceptions" "Ljava/util/List;") ∈ am_NW := by first | exact Or.inl (am_in (am_tb2 (List.mem_of_getElem? (i := 222) rfl)) (by decide +kernel)) | exact Or.inr (List.mem_filter.mpr ⟨am_t2 (List.mem_of_getElem? (i := 222) rfl), rfl⟩)
set_option maxRecDepth 100000 in
theorem cd_463 : (Jvm.Cond.soleField "java/lang/Throwable" "backtrace") ∈ am_WS ∨ (Jvm.Cond.soleField "java/lang/Throwable" "backtrace") ∈ am_NW := by first | exact Or.inl (am_in (am_tb2 (List.mem_of_getElem? (i := 223) rfl)) (by decide +kernel)) | exact Or.inr (List.mem_filter.mpr ⟨am_t2 (List.mem_of_getElem? (i := 223) rfl), rfl⟩)
set_option maxRecDepth 100000 in
theorem cd_464 : (Jvm.Cond.soleField "java/lang/Throwable" "detailMessage") ∈ am_WS ∨ (Jvm.Cond.soleField "java/lang/Throwable" "detailMessage") ∈ am_NW := by first | exact Or.inl (am_in (am_tb2 (List.mem_of_getElem? (i := 224) rfl)) (by decide +kernel)) | exact Or.inr (List.mem_filter.mpr ⟨am_t2 (List.mem_of_getElem? (i := 224) rfl), rfl⟩)
set_option maxRecDepth 100000 in
theorem cd_465 : (Jvm.Cond.soleField "java/lang/Throwable" "cause") ∈ am_WS ∨ (Jvm.Cond.soleField "java/lang/Throwable" "cause") ∈ am_NW := by first | exact Or.inl (am_in (am_tb2 (List.mem_of_getElem? (i := 225) rfl)) (by decide +kernel)) | exact Or.inr (List.mem_filter.mpr ⟨am_t2 (List.mem_of_getElem? (i := 225) rfl), rfl⟩)
set_option maxRecDepth 100000 in
theorem cd_466 : (Jvm.Cond.soleField "java/lang/Throwable" "stackTrace") ∈ am_WS ∨ (Jvm.Cond.soleField "java/lang/Throwable" "stackTrace") ∈ am_NW := by first | exact Or.inl (am_in (am_tb2 (List.mem_of_getElem? (i := 226) rfl)) (by decide +kernel)) | exact Or.inr (List.mem_filter.mpr ⟨am_t2 (List.mem_of_getElem? (i := 226) rfl), rfl⟩)
set_option maxRecDepth 100000 in
theorem cd_467 : (Jvm.Cond.lays "java/lang/IllegalArgumentException" "java/lang/Throwable" "depth" "I") ∈ am_WS ∨ (Jvm.Cond.lays "java/lang/IllegalArgumentException" "java/lang/Throwable" "depth" "I") ∈ am_NW := by first | exact Or.inl (am_in (am_tb2 (List.mem_of_getElem? (i := 227) rfl)) (by decide +kernel)) | exact Or.inr (List.mem_filter.mpr ⟨am_t2 (List.mem_of_getElem? (i := 227) rfl), rfl⟩)
set_option maxRecDepth 100000 in
theorem cd_468 : (Jvm.Cond.soleField "java/lang/Throwable" "depth") ∈ am_WS ∨ (Jvm.Cond.soleField "java/lang/Throwable" "depth") ∈ am_NW := by first | exact Or.inl (am_in (am_tb2 (List.mem_of_getElem? (i := 228) rfl)) (by decide +kernel)) | exact Or.inr (List.mem_filter.mpr ⟨am_t2 (List.mem_of_getElem? (i := 228) rfl), rfl⟩)
set_option maxRecDepth 100000 in
theorem cd_469 : (Jvm.Cond.soleField "java/lang/Throwable" "suppressedExceptions") ∈ am_WS ∨ (Jvm.Cond.soleField "java/lang/Throwable" "suppressedExceptions") ∈ am_NW := by first | exact Or.inl (am_in (am_tb2 (List.mem_of_getElem? (i := 229) rfl)) (by decide +kernel)) | exact Or.inr (List.mem_filter.mpr ⟨am_t2 (List.mem_of_getElem? (i := 229) rfl), rfl⟩)
set_option maxRecDepth 100000 in
theorem cd_470 : (Jvm.Cond.superclass "java/lang/IllegalArgumentException" "java/lang/RuntimeException") ∈ am_WS ∨ (Jvm.Cond.superclass "java/lang/IllegalArgumentException" "java/lang/RuntimeException") ∈ am_NW := by first | exact Or.inl (am_in (am_tb2 (List.mem_of_getElem? (i := 230) rfl)) (by decide +kernel)) | exact Or.inr (List.mem_filter.mpr ⟨am_t2 (List.mem_of_getElem? (i := 230) rfl), rfl⟩)
set_option maxRecDepth 100000 in
theorem cd_480 : (Jvm.Cond.classLink "LeadlightHall" (92 : Nat) "java/lang/UnsupportedOperationException") ∈ am_WS ∨ (Jvm.Cond.classLink "LeadlightHall" (92 : Nat) "java/lang/UnsupportedOperationException") ∈ am_NW := by first | exact Or.inl (am_in (am_tb3 (List.mem_of_getElem? (i := 0) rfl)) (by decide +kernel)) | exact Or.inr (List.mem_filter.mpr ⟨am_t3 (List.mem_of_getElem? (i := 0) rfl), rfl⟩)
set_option maxRecDepth 100000 in
theorem cd_481 : (Jvm.Cond.instantiable "java/lang/UnsupportedOperationException" (6 : Nat)) ∈ am_WS ∨ (Jvm.Cond.instantiable "java/lang/UnsupportedOperationException" (6 : Nat)) ∈ am_NW := by first | exact Or.inl (am_in (am_tb3 (List.mem_of_getElem? (i := 1) rfl)) (by decide +kernel)) | exact Or.inr (List.mem_filter.mpr ⟨am_t3 (List.mem_of_getElem? (i := 1) rfl), rfl⟩)
set_option maxRecDepth 100000 in
theorem cd_482 : (Jvm.Cond.castable "java/lang/UnsupportedOperationException" "java/lang/UnsupportedOperationException") ∈ am_WS ∨ (Jvm.Cond.castable "java/lang/UnsupportedOperationException" "java/lang/UnsupportedOperationException") ∈ am_NW := by first | exact Or.inl (am_in (am_tb3 (List.mem_of_getElem? (i := 2) rfl)) (by decide +kernel)) | exact Or.inr (List.mem_filter.mpr ⟨am_t3 (List.mem_of_getElem? (i := 2) rfl), rfl⟩)
set_option maxRecDepth 100000 in
theorem cd_483 : (Jvm.Cond.selects "java/lang/UnsupportedOperationException" ({ cls := "java/lang/Throwable", name := "fillInStackTrace", desc := "(I)Ljava/lang/Throwable;" } : Jvm.MethodName) ({ cls := "java/lang/Throwable", name := "fillInStackTrace", desc := "(I)Ljava/lang/Throwable;" } : Jvm.MethodName)) ∈ am_WS ∨ (Jvm.Cond.selects "java/lang/UnsupportedOperationException" ({ cls := "java/lang/Throwable", name := "fillInStackTrace", desc := "(I)Ljava/lang/Throwable;" } : Jvm.MethodName) ({ cls := "java/lang/Throwable", name := "fillInStackTrace", desc := "(I)Ljava/lang/Throwable;" } : Jvm.MethodName)) ∈ am_NW := by first | exact Or.inl (am_in (am_tb3 (List.mem_of_getElem? (i := 3) rfl)) (by decide +kernel)) | exact Or.inr (List.mem_filter.mpr ⟨am_t3 (List.mem_of_getElem? (i := 3) rfl), rfl⟩)
set_option maxRecDepth 100000 in
theorem cd_484 : (Jvm.Cond.lays "java/lang/UnsupportedOperationException" "java/lang/Throwable" "cause" "Ljava/lang/Throwable;") ∈ am_WS ∨ (Jvm.Cond.lays "java/lang/UnsupportedOperationException" "java/lang/Throwable" "cause" "Ljava/lang/Throwable;") ∈ am_NW := by first | exact Or.inl (am_in (am_tb3 (List.mem_of_getElem? (i := 4) rfl)) (by decide +kernel)) | exact Or.inr (List.mem_filter.mpr ⟨am_t3 (List.mem_of_getElem? (i := 4) rfl), rfl⟩)
set_option maxRecDepth 100000 in
theorem cd_485 : (Jvm.Cond.lays "java/lang/UnsupportedOperationException" "java/lang/Throwable" "stackTrace" "[Ljava/lang/StackTraceElement;") ∈ am_WS ∨ (Jvm.Cond.lays "java/lang/UnsupportedOperationException" "java/lang/Throwable" "stackTrace" "[Ljava/lang/StackTraceElement;") ∈ am_NW := by first | exact Or.inl (am_in (am_tb3 (List.mem_of_getElem? (i := 5) rfl)) (by decide +kernel)) | exact Or.inr (List.mem_filter.mpr ⟨am_t3 (List.mem_of_getElem? (i := 5) rfl), rfl⟩)
set_option maxRecDepth 100000 in
theorem cd_486 : (Jvm.Cond.lays "java/lang/UnsupportedOperationException" "java/lang/Throwable" "suppressedExceptions" "Ljava/util/List;") ∈ am_WS ∨ (Jvm.Cond.lays "java/lang/UnsupportedOperationException" "java/lang/Throwable" "suppressedExceptions" "Ljava/util/List;") ∈ am_NW := by first | exact Or.inl (am_in (am_tb3 (List.mem_of_getElem? (i := 6) rfl)) (by decide +kernel)) | exact Or.inr (List.mem_filter.mpr ⟨am_t3 (List.mem_of_getElem? (i := 6) rfl), rfl⟩)
set_option maxRecDepth 100000 in
theorem cd_487 : (Jvm.Cond.lays "java/lang/UnsupportedOperationException" "java/lang/Throwable" "detailMessage" "Ljava/lang/String;") ∈ am_WS ∨ (Jvm.Cond.lays "java/lang/UnsupportedOperationException" "java/lang/Throwable" "detailMessage" "Ljava/lang/String;") ∈ am_NW := by first | exact Or.inl (am_in (am_tb3 (List.mem_of_getElem? (i := 7) rfl)) (by decide +kernel)) | exact Or.inr (List.mem_filter.mpr ⟨am_t3 (List.mem_of_getElem? (i := 7) rfl), rfl⟩)
set_option maxRecDepth 100000 in
theorem cd_488 : (Jvm.Cond.lays "java/lang/UnsupportedOperationException" "java/lang/Throwable" "backtrace" "Ljava/lang/Object;") ∈ am_WS ∨ (Jvm.Cond.lays "java/lang/UnsupportedOperationException" "java/lang/Throwable" "backtrace" "Ljava/lang/Object;") ∈ am_NW := by first | exact Or.inl (am_in (am_tb3 (List.mem_of_getElem? (i := 8) rfl)) (by decide +kernel)) | exact Or.inr (List.mem_filter.mpr ⟨am_t3 (List.mem_of_getElem? (i := 8) rfl), rfl⟩)
set_option maxRecDepth 100000 in
theorem cd_490 : (Jvm.Cond.methodLink "LeadlightHall" (96 : Nat) ({ cls := "java/lang/UnsupportedOperationException", name := "<init>", desc := "(Ljava/lang/String;)V" } : Jvm.MethodName)) ∈ am_WS ∨ (Jvm.Cond.methodLink "LeadlightHall" (96 : Nat) ({ cls := "java/lang/UnsupportedOperationException", name := "<init>", desc := "(Ljava/lang/String;)V" } : Jvm.MethodName)) ∈ am_NW := by first | exact Or.inl (am_in (am_tb3 (List.mem_of_getElem? (i := 10) rfl)) (by decide +kernel)) | exact Or.inr (List.mem_filter.mpr ⟨am_t3 (List.mem_of_getElem? (i := 10) rfl), rfl⟩)
set_option maxRecDepth 100000 in
theorem cd_491 : (Jvm.Cond.instanceMethod ({ cls := "java/lang/UnsupportedOperationException", name := "<init>", desc := "(Ljava/lang/String;)V" } : Jvm.MethodName)) ∈ am_WS ∨ (Jvm.Cond.instanceMethod ({ cls := "java/lang/UnsupportedOperationException", name := "<init>", desc := "(Ljava/lang/String;)V" } : Jvm.MethodName)) ∈ am_NW := by first | exact Or.inl (am_in (am_tb3 (List.mem_of_getElem? (i := 11) rfl)) (by decide +kernel)) | exact Or.inr (List.mem_filter.mpr ⟨am_t3 (List.mem_of_getElem? (i := 11) rfl), rfl⟩)
set_option maxRecDepth 100000 in
theorem cd_492 : (Jvm.Cond.code ({ cls := "java/lang/UnsupportedOperationException", name := "<init>", desc := "(Ljava/lang/String;)V" } : Jvm.MethodName) prog_28_method_2_code (2 : Nat) (Option.none : Option Jvm.ClassFile.FieldType)) ∈ am_WS ∨ (Jvm.Cond.code ({ cls := "java/lang/UnsupportedOperationException", name := "<init>", desc := "(Ljava/lang/String;)V" } : Jvm.MethodName) prog_28_method_2_code (2 : Nat) (Option.none : Option Jvm.ClassFile.FieldType)) ∈ am_NW := by first | exact Or.inl (am_in (am_tb3 (List.mem_of_getElem? (i := 12) rfl)) (by decide +kernel)) | exact Or.inr (List.mem_filter.mpr ⟨am_t3 (List.mem_of_getElem? (i := 12) rfl), rfl⟩)
set_option maxRecDepth 100000 in
theorem cd_493 : (Jvm.Cond.methodLink "java/lang/UnsupportedOperationException" (7 : Nat) ({ cls := "java/lang/RuntimeException", name := "<init>", desc := "(Ljava/lang/String;)V" } : Jvm.MethodName)) ∈ am_WS ∨ (Jvm.Cond.methodLink "java/lang/UnsupportedOperationException" (7 : Nat) ({ cls := "java/lang/RuntimeException", name := "<init>", desc := "(Ljava/lang/String;)V" } : Jvm.MethodName)) ∈ am_NW := by first | exact Or.inl (am_in (am_tb3 (List.mem_of_getElem? (i := 13) rfl)) (by decide +kernel)) | exact Or.inr (List.mem_filter.mpr ⟨am_t3 (List.mem_of_getElem? (i := 13) rfl), rfl⟩)
set_option maxRecDepth 100000 in
theorem cd_494 : (Jvm.Cond.lays "java/lang/UnsupportedOperationException" "java/lang/Throwable" "depth" "I") ∈ am_WS ∨ (Jvm.Cond.lays "java/lang/UnsupportedOperationException" "java/lang/Throwable" "depth" "I") ∈ am_NW := by first | exact Or.inl (am_in (am_tb3 (List.mem_of_getElem? (i := 14) rfl)) (by decide +kernel)) | exact Or.inr (List.mem_filter.mpr ⟨am_t3 (List.mem_of_getElem? (i := 14) rfl), rfl⟩)
set_option maxRecDepth 100000 in
theorem cd_495 : (Jvm.Cond.superclass "java/lang/UnsupportedOperationException" "java/lang/RuntimeException") ∈ am_WS ∨ (Jvm.Cond.superclass "java/lang/UnsupportedOperationException" "java/lang/RuntimeException") ∈ am_NW := by first | exact Or.inl (am_in (am_tb3 (List.mem_of_getElem? (i := 15) rfl)) (by decide +kernel)) | exact Or.inr (List.mem_filter.mpr ⟨am_t3 (List.mem_of_getElem? (i := 15) rfl), rfl⟩)
set_option maxRecDepth 100000 in
theorem cd_503 : (Jvm.Cond.classLink "LeadlightHallLaw" (21 : Nat) "java/lang/IndexOutOfBoundsException") ∈ am_WS ∨ (Jvm.Cond.classLink "LeadlightHallLaw" (21 : Nat) "java/lang/IndexOutOfBoundsException") ∈ am_NW := by first | exact Or.inl (am_in (am_tb3 (List.mem_of_getElem? (i := 23) rfl)) (by decide +kernel)) | exact Or.inr (List.mem_filter.mpr ⟨am_t3 (List.mem_of_getElem? (i := 23) rfl), rfl⟩)
set_option maxRecDepth 100000 in
theorem cd_511 : (Jvm.Cond.classLink "LeadlightHall" (415 : Nat) "java/lang/IndexOutOfBoundsException") ∈ am_WS ∨ (Jvm.Cond.classLink "LeadlightHall" (415 : Nat) "java/lang/IndexOutOfBoundsException") ∈ am_NW := by first | exact Or.inl (am_in (am_tb3 (List.mem_of_getElem? (i := 31) rfl)) (by decide +kernel)) | exact Or.inr (List.mem_filter.mpr ⟨am_t3 (List.mem_of_getElem? (i := 31) rfl), rfl⟩)
set_option maxRecDepth 100000 in
theorem cd_512 : (Jvm.Cond.instantiable "java/lang/IndexOutOfBoundsException" (6 : Nat)) ∈ am_WS ∨ (Jvm.Cond.instantiable "java/lang/IndexOutOfBoundsException" (6 : Nat)) ∈ am_NW := by first | exact Or.inl (am_in (am_tb3 (List.mem_of_getElem? (i := 32) rfl)) (by decide +kernel)) | exact Or.inr (List.mem_filter.mpr ⟨am_t3 (List.mem_of_getElem? (i := 32) rfl), rfl⟩)
set_option maxRecDepth 100000 in
theorem cd_513 : (Jvm.Cond.castable "java/lang/IndexOutOfBoundsException" "java/lang/IndexOutOfBoundsException") ∈ am_WS ∨ (Jvm.Cond.castable "java/lang/IndexOutOfBoundsException" "java/lang/IndexOutOfBoundsException") ∈ am_NW := by first | exact Or.inl (am_in (am_tb3 (List.mem_of_getElem? (i := 33) rfl)) (by decide +kernel)) | exact Or.inr (List.mem_filter.mpr ⟨am_t3 (List.mem_of_getElem? (i := 33) rfl), rfl⟩)
set_option maxRecDepth 100000 in
theorem cd_514 : (Jvm.Cond.selects "java/lang/IndexOutOfBoundsException" ({ cls := "java/lang/Throwable", name := "fillInStackTrace", desc := "(I)Ljava/lang/Throwable;" } : Jvm.MethodName) ({ cls := "java/lang/Throwable", name := "fillInStackTrace", desc := "(I)Ljava/lang/Throwable;" } : Jvm.MethodName)) ∈ am_WS ∨ (Jvm.Cond.selects "java/lang/IndexOutOfBoundsException" ({ cls := "java/lang/Throwable", name := "fillInStackTrace", desc := "(I)Ljava/lang/Throwable;" } : Jvm.MethodName) ({ cls := "java/lang/Throwable", name := "fillInStackTrace", desc := "(I)Ljava/lang/Throwable;" } : Jvm.MethodName)) ∈ am_NW := by first | exact Or.inl (am_in (am_tb3 (List.mem_of_getElem? (i := 34) rfl)) (by decide +kernel)) | exact Or.inr (List.mem_filter.mpr ⟨am_t3 (List.mem_of_getElem? (i := 34) rfl), rfl⟩)
set_option maxRecDepth 100000 in
theorem cd_515 : (Jvm.Cond.lays "java/lang/IndexOutOfBoundsException" "java/lang/Throwable" "cause" "Ljava/lang/Throwable;") ∈ am_WS ∨ (Jvm.Cond.lays "java/lang/IndexOutOfBoundsException" "java/lang/Throwable" "cause" "Ljava/lang/Throwable;") ∈ am_NW := by first | exact Or.inl (am_in (am_tb3 (List.mem_of_getElem? (i := 35) rfl)) (by decide +kernel)) | exact Or.inr (List.mem_filter.mpr ⟨am_t3 (List.mem_of_getElem? (i := 35) rfl), rfl⟩)
set_option maxRecDepth 100000 in
theorem cd_516 : (Jvm.Cond.lays "java/lang/IndexOutOfBoundsException" "java/lang/Throwable" "stackTrace" "[Ljava/lang/StackTraceElement;") ∈ am_WS ∨ (Jvm.Cond.lays "java/lang/IndexOutOfBoundsException" "java/lang/Throwable" "stackTrace" "[Ljava/lang/StackTraceElement;") ∈ am_NW := by first | exact Or.inl (am_in (am_tb3 (List.mem_of_getElem? (i := 36) rfl)) (by decide +kernel)) | exact Or.inr (List.mem_filter.mpr ⟨am_t3 (List.mem_of_getElem? (i := 36) rfl), rfl⟩)
set_option maxRecDepth 100000 in
theorem cd_517 : (Jvm.Cond.lays "java/lang/IndexOutOfBoundsException" "java/lang/Throwable" "suppressedExceptions" "Ljava/util/List;") ∈ am_WS ∨ (Jvm.Cond.lays "java/lang/IndexOutOfBoundsException" "java/lang/Throwable" "suppressedExceptions" "Ljava/util/List;") ∈ am_NW := by first | exact Or.inl (am_in (am_tb3 (List.mem_of_getElem? (i := 37) rfl)) (by decide +kernel)) | exact Or.inr (List.mem_filter.mpr ⟨am_t3 (List.mem_of_getElem? (i := 37) rfl), rfl⟩)
set_option maxRecDepth 100000 in
theorem cd_518 : (Jvm.Cond.lays "java/lang/IndexOutOfBoundsException" "java/lang/Throwable" "detailMessage" "Ljava/lang/String;") ∈ am_WS ∨ (Jvm.Cond.lays "java/lang/IndexOutOfBoundsException" "java/lang/Throwable" "detailMessage" "Ljava/lang/String;") ∈ am_NW := by first | exact Or.inl (am_in (am_tb3 (List.mem_of_getElem? (i := 38) rfl)) (by decide +kernel)) | exact Or.inr (List.mem_filter.mpr ⟨am_t3 (List.mem_of_getElem? (i := 38) rfl), rfl⟩)
set_option maxRecDepth 100000 in
theorem cd_519 : (Jvm.Cond.lays "java/lang/IndexOutOfBoundsException" "java/lang/Throwable" "backtrace" "Ljava/lang/Object;") ∈ am_WS ∨ (Jvm.Cond.lays "java/lang/IndexOutOfBoundsException" "java/lang/Throwable" "backtrace" "Ljava/lang/Object;") ∈ am_NW := by first | exact Or.inl (am_in (am_tb3 (List.mem_of_getElem? (i := 39) rfl)) (by decide +kernel)) | exact Or.inr (List.mem_filter.mpr ⟨am_t3 (List.mem_of_getElem? (i := 39) rfl), rfl⟩)
set_option maxRecDepth 100000 in
theorem cd_521 : (Jvm.Cond.methodLink "LeadlightHall" (419 : Nat) ({ cls := "java/lang/IndexOutOfBoundsException", name := "<init>", desc := "(Ljava/lang/String;)V" } : Jvm.MethodName)) ∈ am_WS ∨ (Jvm.Cond.methodLink "LeadlightHall" (419 : Nat) ({ cls := "java/lang/IndexOutOfBoundsException", name := "<init>", desc := "(Ljava/lang/String;)V" } : Jvm.MethodName)) ∈ am_NW := by first | exact Or.inl (am_in (am_tb3 (List.mem_of_getElem? (i := 41) rfl)) (by decide +kernel)) | exact Or.inr (List.mem_filter.mpr ⟨am_t3 (List.mem_of_getElem? (i := 41) rfl), rfl⟩)
set_option maxRecDepth 100000 in
theorem cd_522 : (Jvm.Cond.instanceMethod ({ cls := "java/lang/IndexOutOfBoundsException", name := "<init>", desc := "(Ljava/lang/String;)V" } : Jvm.MethodName)) ∈ am_WS ∨ (Jvm.Cond.instanceMethod ({ cls := "java/lang/IndexOutOfBoundsException", name := "<init>", desc := "(Ljava/lang/String;)V" } : Jvm.MethodName)) ∈ am_NW := by first | exact Or.inl (am_in (am_tb3 (List.mem_of_getElem? (i := 42) rfl)) (by decide +kernel)) | exact Or.inr (List.mem_filter.mpr ⟨am_t3 (List.mem_of_getElem? (i := 42) rfl), rfl⟩)
set_option maxRecDepth 100000 in
theorem cd_523 : (Jvm.Cond.code ({ cls := "java/lang/IndexOutOfBoundsException", name := "<init>", desc := "(Ljava/lang/String;)V" } : Jvm.MethodName) prog_19_method_2_code (2 : Nat) (Option.none : Option Jvm.ClassFile.FieldType)) ∈ am_WS ∨ (Jvm.Cond.code ({ cls := "java/lang/IndexOutOfBoundsException", name := "<init>", desc := "(Ljava/lang/String;)V" } : Jvm.MethodName) prog_19_method_2_code (2 : Nat) (Option.none : Option Jvm.ClassFile.FieldType)) ∈ am_NW := by first | exact Or.inl (am_in (am_tb3 (List.mem_of_getElem? (i := 43) rfl)) (by decide +kernel)) | exact Or.inr (List.mem_filter.mpr ⟨am_t3 (List.mem_of_getElem? (i := 43) rfl), rfl⟩)
set_option maxRecDepth 100000 in
theorem cd_524 : (Jvm.Cond.methodLink "java/lang/IndexOutOfBoundsException" (7 : Nat) ({ cls := "java/lang/RuntimeException", name := "<init>", desc := "(Ljava/lang/String;)V" } : Jvm.MethodName)) ∈ am_WS ∨ (Jvm.Cond.methodLink "java/lang/IndexOutOfBoundsException" (7 : Nat) ({ cls := "java/lang/RuntimeException", name := "<init>", desc := "(Ljava/lang/String;)V" } : Jvm.MethodName)) ∈ am_NW := by first | exact Or.inl (am_in (am_tb3 (List.mem_of_getElem? (i := 44) rfl)) (by decide +kernel)) | exact Or.inr (List.mem_filter.mpr ⟨am_t3 (List.mem_of_getElem? (i := 44) rfl), rfl⟩)
set_option maxRecDepth 100000 in
theorem cd_525 : (Jvm.Cond.lays "java/lang/IndexOutOfBoundsException" "java/lang/Throwable" "depth" "I") ∈ am_WS ∨ (Jvm.Cond.lays "java/lang/IndexOutOfBoundsException" "java/lang/Throwable" "depth" "I") ∈ am_NW := by first | exact Or.inl (am_in (am_tb3 (List.mem_of_getElem? (i := 45) rfl)) (by decide +kernel)) | exact Or.inr (List.mem_filter.mpr ⟨am_t3 (List.mem_of_getElem? (i := 45) rfl), rfl⟩)
set_option maxRecDepth 100000 in
theorem cd_526 : (Jvm.Cond.superclass "java/lang/IndexOutOfBoundsException" "java/lang/RuntimeException") ∈ am_WS ∨ (Jvm.Cond.superclass "java/lang/IndexOutOfBoundsException" "java/lang/RuntimeException") ∈ am_NW := by first | exact Or.inl (am_in (am_tb3 (List.mem_of_getElem? (i := 46) rfl)) (by decide +kernel)) | exact Or.inr (List.mem_filter.mpr ⟨am_t3 (List.mem_of_getElem? (i := 46) rfl), rfl⟩)
set_option maxRecDepth 100000 in
theorem cd_609 : (Jvm.Cond.classLink "LeadlightHallLaw" (44 : Nat) "java/lang/IllegalStateException") ∈ am_WS ∨ (Jvm.Cond.classLink "LeadlightHallLaw" (44 : Nat) "java/lang/IllegalStateException") ∈ am_NW := by first | exact Or.inl (am_in (am_tb3 (List.mem_of_getElem? (i := 129) rfl)) (by decide +kernel)) | exact Or.inr (List.mem_filter.mpr ⟨am_t3 (List.mem_of_getElem? (i := 129) rfl), rfl⟩)
set_option maxRecDepth 100000 in
theorem cd_632 : (Jvm.Cond.classLink "LeadlightHall" (152 : Nat) "java/lang/IllegalStateException") ∈ am_WS ∨ (Jvm.Cond.classLink "LeadlightHall" (152 : Nat) "java/lang/IllegalStateException") ∈ am_NW := by first | exact Or.inl (am_in (am_tb3 (List.mem_of_getElem? (i := 152) rfl)) (by decide +kernel)) | exact Or.inr (List.mem_filter.mpr ⟨am_t3 (List.mem_of_getElem? (i := 152) rfl), rfl⟩)
set_option maxRecDepth 100000 in
theorem cd_633 : (Jvm.Cond.instantiable "java/lang/IllegalStateException" (6 : Nat)) ∈ am_WS ∨ (Jvm.Cond.instantiable "java/lang/IllegalStateException" (6 : Nat)) ∈ am_NW := by first | exact Or.inl (am_in (am_tb3 (List.mem_of_getElem? (i := 153) rfl)) (by decide +kernel)) | exact Or.inr (List.mem_filter.mpr ⟨am_t3 (List.mem_of_getElem? (i := 153) rfl), rfl⟩)
set_option maxRecDepth 100000 in
theorem cd_634 : (Jvm.Cond.castable "java/lang/IllegalStateException" "java/lang/IllegalStateException") ∈ am_WS ∨ (Jvm.Cond.castable "java/lang/IllegalStateException" "java/lang/IllegalStateException") ∈ am_NW := by first | exact Or.inl (am_in (am_tb3 (List.mem_of_getElem? (i := 154) rfl)) (by decide +kernel)) | exact Or.inr (List.mem_filter.mpr ⟨am_t3 (List.mem_of_getElem? (i := 154) rfl), rfl⟩)
set_option maxRecDepth 100000 in
theorem cd_635 : (Jvm.Cond.selects "java/lang/IllegalStateException" ({ cls := "java/lang/Throwable", name := "fillInStackTrace", desc := "(I)Ljava/lang/Throwable;" } : Jvm.MethodName) ({ cls := "java/lang/Throwable", name := "fillInStackTrace", desc := "(I)Ljava/lang/Throwable;" } : Jvm.MethodName)) ∈ am_WS ∨ (Jvm.Cond.selects "java/lang/IllegalStateException" ({ cls := "java/lang/Throwable", name := "fillInStackTrace", desc := "(I)Ljava/lang/Throwable;" } : Jvm.MethodName) ({ cls := "java/lang/Throwable", name := "fillInStackTrace", desc := "(I)Ljava/lang/Throwable;" } : Jvm.MethodName)) ∈ am_NW := by first | exact Or.inl (am_in (am_tb3 (List.mem_of_getElem? (i := 155) rfl)) (by decide +kernel)) | exact Or.inr (List.mem_filter.mpr ⟨am_t3 (List.mem_of_getElem? (i := 155) rfl), rfl⟩)
set_option maxRecDepth 100000 in
theorem cd_636 : (Jvm.Cond.lays "java/lang/IllegalStateException" "java/lang/Throwable" "cause" "Ljava/lang/Throwable;") ∈ am_WS ∨ (Jvm.Cond.lays "java/lang/IllegalStateException" "java/lang/Throwable" "cause" "Ljava/lang/Throwable;") ∈ am_NW := by first | exact Or.inl (am_in (am_tb3 (List.mem_of_getElem? (i := 156) rfl)) (by decide +kernel)) | exact Or.inr (List.mem_filter.mpr ⟨am_t3 (List.mem_of_getElem? (i := 156) rfl), rfl⟩)
set_option maxRecDepth 100000 in
theorem cd_637 : (Jvm.Cond.lays "java/lang/IllegalStateException" "java/lang/Throwable" "stackTrace" "[Ljava/lang/StackTraceElement;") ∈ am_WS ∨ (Jvm.Cond.lays "java/lang/IllegalStateException" "java/lang/Throwable" "stackTrace" "[Ljava/lang/StackTraceElement;") ∈ am_NW := by first | exact Or.inl (am_in (am_tb3 (List.mem_of_getElem? (i := 157) rfl)) (by decide +kernel)) | exact Or.inr (List.mem_filter.mpr ⟨am_t3 (List.mem_of_getElem? (i := 157) rfl), rfl⟩)
set_option maxRecDepth 100000 in
theorem cd_638 : (Jvm.Cond.lays "java/lang/IllegalStateException" "java/lang/Throwable" "suppressedExceptions" "Ljava/util/List;") ∈ am_WS ∨ (Jvm.Cond.lays "java/lang/IllegalStateException" "java/lang/Throwable" "suppressedExceptions" "Ljava/util/List;") ∈ am_NW := by first | exact Or.inl (am_in (am_tb3 (List.mem_of_getElem? (i := 158) rfl)) (by decide +kernel)) | exact Or.inr (List.mem_filter.mpr ⟨am_t3 (List.mem_of_getElem? (i := 158) rfl), rfl⟩)
set_option maxRecDepth 100000 in
theorem cd_639 : (Jvm.Cond.lays "java/lang/IllegalStateException" "java/lang/Throwable" "detailMessage" "Ljava/lang/String;") ∈ am_WS ∨ (Jvm.Cond.lays "java/lang/IllegalStateException" "java/lang/Throwable" "detailMessage" "Ljava/lang/String;") ∈ am_NW := by first | exact Or.inl (am_in (am_tb3 (List.mem_of_getElem? (i := 159) rfl)) (by decide +kernel)) | exact Or.inr (List.mem_filter.mpr ⟨am_t3 (List.mem_of_getElem? (i := 159) rfl), rfl⟩)
set_option maxRecDepth 100000 in
theorem cd_640 : (Jvm.Cond.lays "java/lang/IllegalStateException" "java/lang/Throwable" "backtrace" "Ljava/lang/Object;") ∈ am_WS ∨ (Jvm.Cond.lays "java/lang/IllegalStateException" "java/lang/Throwable" "backtrace" "Ljava/lang/Object;") ∈ am_NW := by first | exact Or.inl (am_in (am_tb3 (List.mem_of_getElem? (i := 160) rfl)) (by decide +kernel)) | exact Or.inr (List.mem_filter.mpr ⟨am_t3 (List.mem_of_getElem? (i := 160) rfl), rfl⟩)
set_option maxRecDepth 100000 in
theorem cd_642 : (Jvm.Cond.methodLink "LeadlightHall" (156 : Nat) ({ cls := "java/lang/IllegalStateException", name := "<init>", desc := "(Ljava/lang/String;)V" } : Jvm.MethodName)) ∈ am_WS ∨ (Jvm.Cond.methodLink "LeadlightHall" (156 : Nat) ({ cls := "java/lang/IllegalStateException", name := "<init>", desc := "(Ljava/lang/String;)V" } : Jvm.MethodName)) ∈ am_NW := by first | exact Or.inl (am_in (am_tb3 (List.mem_of_getElem? (i := 162) rfl)) (by decide +kernel)) | exact Or.inr (List.mem_filter.mpr ⟨am_t3 (List.mem_of_getElem? (i := 162) rfl), rfl⟩)
set_option maxRecDepth 100000 in
theorem cd_643 : (Jvm.Cond.instanceMethod ({ cls := "java/lang/IllegalStateException", name := "<init>", desc := "(Ljava/lang/String;)V" } : Jvm.MethodName)) ∈ am_WS ∨ (Jvm.Cond.instanceMethod ({ cls := "java/lang/IllegalStateException", name := "<init>", desc := "(Ljava/lang/String;)V" } : Jvm.MethodName)) ∈ am_NW := by first | exact Or.inl (am_in (am_tb3 (List.mem_of_getElem? (i := 163) rfl)) (by decide +kernel)) | exact Or.inr (List.mem_filter.mpr ⟨am_t3 (List.mem_of_getElem? (i := 163) rfl), rfl⟩)
set_option maxRecDepth 100000 in
theorem cd_644 : (Jvm.Cond.code ({ cls := "java/lang/IllegalStateException", name := "<init>", desc := "(Ljava/lang/String;)V" } : Jvm.MethodName) prog_18_method_2_code (2 : Nat) (Option.none : Option Jvm.ClassFile.FieldType)) ∈ am_WS ∨ (Jvm.Cond.code ({ cls := "java/lang/IllegalStateException", name := "<init>", desc := "(Ljava/lang/String;)V" } : Jvm.MethodName) prog_18_method_2_code (2 : Nat) (Option.none : Option Jvm.ClassFile.FieldType)) ∈ am_NW := by first | exact Or.inl (am_in (am_tb3 (List.mem_of_getElem? (i := 164) rfl)) (by decide +kernel)) | exact Or.inr (List.mem_filter.mpr ⟨am_t3 (List.mem_of_getElem? (i := 164) rfl), rfl⟩)
set_option maxRecDepth 100000 in
theorem cd_645 : (Jvm.Cond.methodLink "java/lang/IllegalStateException" (7 : Nat) ({ cls := "java/lang/RuntimeException", name := "<init>", desc := "(Ljava/lang/String;)V" } : Jvm.MethodName)) ∈ am_WS ∨ (Jvm.Cond.methodLink "java/lang/IllegalStateException" (7 : Nat) ({ cls := "java/lang/RuntimeException", name := "<init>", desc := "(Ljava/lang/String;)V" } : Jvm.MethodName)) ∈ am_NW := by first | exact Or.inl (am_in (am_tb3 (List.mem_of_getElem? (i := 165) rfl)) (by decide +kernel)) | exact Or.inr (List.mem_filter.mpr ⟨am_t3 (List.mem_of_getElem? (i := 165) rfl), rfl⟩)
set_option maxRecDepth 100000 in
theorem cd_646 : (Jvm.Cond.lays "java/lang/IllegalStateException" "java/lang/Throwable" "depth" "I") ∈ am_WS ∨ (Jvm.Cond.lays "java/lang/IllegalStateException" "java/lang/Throwable" "depth" "I") ∈ am_NW := by first | exact Or.inl (am_in (am_tb3 (List.mem_of_getElem? (i := 166) rfl)) (by decide +kernel)) | exact Or.inr (List.mem_filter.mpr ⟨am_t3 (List.mem_of_getElem? (i := 166) rfl), rfl⟩)
set_option maxRecDepth 100000 in
theorem cd_647 : (Jvm.Cond.superclass "java/lang/IllegalStateException" "java/lang/RuntimeException") ∈ am_WS ∨ (Jvm.Cond.superclass "java/lang/IllegalStateException" "java/lang/RuntimeException") ∈ am_NW := by first | exact Or.inl (am_in (am_tb3 (List.mem_of_getElem? (i := 167) rfl)) (by decide +kernel)) | exact Or.inr (List.mem_filter.mpr ⟨am_t3 (List.mem_of_getElem? (i := 167) rfl), rfl⟩)
set_option maxRecDepth 100000 in
theorem cd_781 : (Jvm.Cond.classLink "LeadlightHallLaw" (67 : Nat) "java/util/NoSuchElementException") ∈ am_WS ∨ (Jvm.Cond.classLink "LeadlightHallLaw" (67 : Nat) "java/util/NoSuchElementException") ∈ am_NW := by first | exact Or.inl (am_in (am_tb4 (List.mem_of_getElem? (i := 61) rfl)) (by decide +kernel)) | exact Or.inr (List.mem_filter.mpr ⟨am_t4 (List.mem_of_getElem? (i := 61) rfl), rfl⟩)
set_option maxRecDepth 100000 in
theorem cd_790 : (Jvm.Cond.classLink "LeadlightHall" (404 : Nat) "java/util/NoSuchElementException") ∈ am_WS ∨ (Jvm.Cond.classLink "LeadlightHall" (404 : Nat) "java/util/NoSuchElementException") ∈ am_NW := by first | exact Or.inl (am_in (am_tb4 (List.mem_of_getElem? (i := 70) rfl)) (by decide +kernel)) | exact Or.inr (List.mem_filter.mpr ⟨am_t4 (List.mem_of_getElem? (i := 70) rfl), rfl⟩)
set_option maxRecDepth 100000 in
theorem cd_791 : (Jvm.Cond.instantiable "java/util/NoSuchElementException" (6 : Nat)) ∈ am_WS ∨ (Jvm.Cond.instantiable "java/util/NoSuchElementException" (6 : Nat)) ∈ am_NW := by first | exact Or.inl (am_in (am_tb4 (List.mem_of_getElem? (i := 71) rfl)) (by decide +kernel)) | exact Or.inr (List.mem_filter.mpr ⟨am_t4 (List.mem_of_getElem? (i := 71) rfl), rfl⟩)
set_option maxRecDepth 100000 in
theorem cd_792 : (Jvm.Cond.castable "java/util/NoSuchElementException" "java/util/NoSuchElementException") ∈ am_WS ∨ (Jvm.Cond.castable "java/util/NoSuchElementException" "java/util/NoSuchElementException") ∈ am_NW := by first | exact Or.inl (am_in (am_tb4 (List.mem_of_getElem? (i := 72) rfl)) (by decide +kernel)) | exact Or.inr (List.mem_filter.mpr ⟨am_t4 (List.mem_of_getElem? (i := 72) rfl), rfl⟩)
set_option maxRecDepth 100000 in
theorem cd_793 : (Jvm.Cond.selects "java/util/NoSuchElementException" ({ cls := "java/lang/Throwable", name := "fillInStackTrace", desc := "(I)Ljava/lang/Throwable;" } : Jvm.MethodName) ({ cls := "java/lang/Throwable", name := "fillInStackTrace", desc := "(I)Ljava/lang/Throwable;" } : Jvm.MethodName)) ∈ am_WS ∨ (Jvm.Cond.selects "java/util/NoSuchElementException" ({ cls := "java/lang/Throwable", name := "fillInStackTrace", desc := "(I)Ljava/lang/Throwable;" } : Jvm.MethodName) ({ cls := "java/lang/Throwable", name := "fillInStackTrace", desc := "(I)Ljava/lang/Throwable;" } : Jvm.MethodName)) ∈ am_NW := by first | exact Or.inl (am_in (am_tb4 (List.mem_of_getElem? (i := 73) rfl)) (by decide +kernel)) | exact Or.inr (List.mem_filter.mpr ⟨am_t4 (List.mem_of_getElem? (i := 73) rfl), rfl⟩)
set_option maxRecDepth 100000 in
theorem cd_794 : (Jvm.Cond.lays "java/util/NoSuchElementException" "java/lang/Throwable" "cause" "Ljava/lang/Throwable;") ∈ am_WS ∨ (Jvm.Cond.lays "java/util/NoSuchElementException" "java/lang/Throwable" "cause" "Ljava/lang/Throwable;") ∈ am_NW := by first | exact Or.inl (am_in (am_tb4 (List.mem_of_getElem? (i := 74) rfl)) (by decide +kernel)) | exact Or.inr (List.mem_filter.mpr ⟨am_t4 (List.mem_of_getElem? (i := 74) rfl), rfl⟩)
set_option maxRecDepth 100000 in
theorem cd_795 : (Jvm.Cond.lays "java/util/NoSuchElementException" "java/lang/Throwable" "stackTrace" "[Ljava/lang/StackTraceElement;") ∈ am_WS ∨ (Jvm.Cond.lays "java/util/NoSuchElementException" "java/lang/Throwable" "stackTrace" "[Ljava/lang/StackTraceElement;") ∈ am_NW := by first | exact Or.inl (am_in (am_tb4 (List.mem_of_getElem? (i := 75) rfl)) (by decide +kernel)) | exact Or.inr (List.mem_filter.mpr ⟨am_t4 (List.mem_of_getElem? (i := 75) rfl), rfl⟩)
set_option maxRecDepth 100000 in
theorem cd_796 : (Jvm.Cond.lays "java/util/NoSuchElementException" "java/lang/Throwable" "suppressedExceptions" "Ljava/util/List;") ∈ am_WS ∨ (Jvm.Cond.lays "java/util/NoSuchElementException" "java/lang/Throwable" "suppressedExceptions" "Ljava/util/List;") ∈ am_NW := by first | exact Or.inl (am_in (am_tb4 (List.mem_of_getElem? (i := 76) rfl)) (by decide +kernel)) | exact Or.inr (List.mem_filter.mpr ⟨am_t4 (List.mem_of_getElem? (i := 76) rfl), rfl⟩)
set_option maxRecDepth 100000 in
theorem cd_797 : (Jvm.Cond.lays "java/util/NoSuchElementException" "java/lang/Throwable" "detailMessage" "Ljava/lang/String;") ∈ am_WS ∨ (Jvm.Cond.lays "java/util/NoSuchElementException" "java/lang/Throwable" "detailMessage" "Ljava/lang/String;") ∈ am_NW := by first | exact Or.inl (am_in (am_tb4 (List.mem_of_getElem? (i := 77) rfl)) (by decide +kernel)) | exact Or.inr (List.mem_filter.mpr ⟨am_t4 (List.mem_of_getElem? (i := 77) rfl), rfl⟩)
set_option maxRecDepth 100000 in
theorem cd_798 : (Jvm.Cond.lays "java/util/NoSuchElementException" "java/lang/Throwable" "backtrace" "Ljava/lang/Object;") ∈ am_WS ∨ (Jvm.Cond.lays "java/util/NoSuchElementException" "java/lang/Throwable" "backtrace" "Ljava/lang/Object;") ∈ am_NW := by first | exact Or.inl (am_in (am_tb4 (List.mem_of_getElem? (i := 78) rfl)) (by decide +kernel)) | exact Or.inr (List.mem_filter.mpr ⟨am_t4 (List.mem_of_getElem? (i := 78) rfl), rfl⟩)
set_option maxRecDepth 100000 in
theorem cd_800 : (Jvm.Cond.methodLink "LeadlightHall" (406 : Nat) ({ cls := "java/util/NoSuchElementException", name := "<init>", desc := "(Ljava/lang/String;)V" } : Jvm.MethodName)) ∈ am_WS ∨ (Jvm.Cond.methodLink "LeadlightHall" (406 : Nat) ({ cls := "java/util/NoSuchElementException", name := "<init>", desc := "(Ljava/lang/String;)V" } : Jvm.MethodName)) ∈ am_NW := by first | exact Or.inl (am_in (am_tb4 (List.mem_of_getElem? (i := 80) rfl)) (by decide +kernel)) | exact Or.inr (List.mem_filter.mpr ⟨am_t4 (List.mem_of_getElem? (i := 80) rfl), rfl⟩)
set_option maxRecDepth 100000 in
theorem cd_801 : (Jvm.Cond.instanceMethod ({ cls := "java/util/NoSuchElementException", name := "<init>", desc := "(Ljava/lang/String;)V" } : Jvm.MethodName)) ∈ am_WS ∨ (Jvm.Cond.instanceMethod ({ cls := "java/util/NoSuchElementException", name := "<init>", desc := "(Ljava/lang/String;)V" } : Jvm.MethodName)) ∈ am_NW := by first | exact Or.inl (am_in (am_tb4 (List.mem_of_getElem? (i := 81) rfl)) (by decide +kernel)) | exact Or.inr (List.mem_filter.mpr ⟨am_t4 (List.mem_of_getElem? (i := 81) rfl), rfl⟩)
set_option maxRecDepth 100000 in
theorem cd_802 : (Jvm.Cond.code ({ cls := "java/util/NoSuchElementException", name := "<init>", desc := "(Ljava/lang/String;)V" } : Jvm.MethodName) prog_31_method_4_code (2 : Nat) (Option.none : Option Jvm.ClassFile.FieldType)) ∈ am_WS ∨ (Jvm.Cond.code ({ cls := "java/util/NoSuchElementException", name := "<init>", desc := "(Ljava/lang/String;)V" } : Jvm.MethodName) prog_31_method_4_code (2 : Nat) (Option.none : Option Jvm.ClassFile.FieldType)) ∈ am_NW := by first | exact Or.inl (am_in (am_tb4 (List.mem_of_getElem? (i := 82) rfl)) (by decide +kernel)) | exact Or.inr (List.mem_filter.mpr ⟨am_t4 (List.mem_of_getElem? (i := 82) rfl), rfl⟩)
set_option maxRecDepth 100000 in
theorem cd_803 : (Jvm.Cond.methodLink "java/util/NoSuchElementException" (13 : Nat) ({ cls := "java/lang/RuntimeException", name := "<init>", desc := "(Ljava/lang/String;)V" } : Jvm.MethodName)) ∈ am_WS ∨ (Jvm.Cond.methodLink "java/util/NoSuchElementException" (13 : Nat) ({ cls := "java/lang/RuntimeException", name := "<init>", desc := "(Ljava/lang/String;)V" } : Jvm.MethodName)) ∈ am_NW := by first | exact Or.inl (am_in (am_tb4 (List.mem_of_getElem? (i := 83) rfl)) (by decide +kernel)) | exact Or.inr (List.mem_filter.mpr ⟨am_t4 (List.mem_of_getElem? (i := 83) rfl), rfl⟩)
set_option maxRecDepth 100000 in
theorem cd_804 : (Jvm.Cond.lays "java/util/NoSuchElementException" "java/lang/Throwable" "depth" "I") ∈ am_WS ∨ (Jvm.Cond.lays "java/util/NoSuchElementException" "java/lang/Throwable" "depth" "I") ∈ am_NW := by first | exact Or.inl (am_in (am_tb4 (List.mem_of_getElem? (i := 84) rfl)) (by decide +kernel)) | exact Or.inr (List.mem_filter.mpr ⟨am_t4 (List.mem_of_getElem? (i := 84) rfl), rfl⟩)
set_option maxRecDepth 100000 in
theorem cd_805 : (Jvm.Cond.superclass "java/util/NoSuchElementException" "java/lang/RuntimeException") ∈ am_WS ∨ (Jvm.Cond.superclass "java/util/NoSuchElementException" "java/lang/RuntimeException") ∈ am_NW := by first | exact Or.inl (am_in (am_tb4 (List.mem_of_getElem? (i := 85) rfl)) (by decide +kernel)) | exact Or.inr (List.mem_filter.mpr ⟨am_t4 (List.mem_of_getElem? (i := 85) rfl), rfl⟩)
set_option maxRecDepth 100000 in
theorem cd_1017 : (Jvm.Cond.methodLink "LeadlightHallModel" (1 : Nat) ({ cls := "java/lang/Object", name := "<init>", desc := "()V" } : Jvm.MethodName)) ∈ am_WS ∨ (Jvm.Cond.methodLink "LeadlightHallModel" (1 : Nat) ({ cls := "java/lang/Object", name := "<init>", desc := "()V" } : Jvm.MethodName)) ∈ am_NW := by first | exact Or.inl (am_in (am_tb5 (List.mem_of_getElem? (i := 57) rfl)) (by decide +kernel)) | exact Or.inr (List.mem_filter.mpr ⟨am_t5 (List.mem_of_getElem? (i := 57) rfl), rfl⟩)
set_option maxRecDepth 100000 in
theorem cd_1090 : (Jvm.Cond.superclass "LeadlightHallModel" "java/lang/Object") ∈ am_WS ∨ (Jvm.Cond.superclass "LeadlightHallModel" "java/lang/Object") ∈ am_NW := by first | exact Or.inl (am_in (am_tb5 (List.mem_of_getElem? (i := 130) rfl)) (by decide +kernel)) | exact Or.inr (List.mem_filter.mpr ⟨am_t5 (List.mem_of_getElem? (i := 130) rfl), rfl⟩)
set_option maxRecDepth 100000 in
theorem cd_1181 : (Jvm.Cond.sameMethod "[Z" "java/lang/Object" "clone" "()Ljava/lang/Object;") ∈ am_WS ∨ (Jvm.Cond.sameMethod "[Z" "java/lang/Object" "clone" "()Ljava/lang/Object;") ∈ am_NW := by first | exact Or.inl (am_in (am_tb5 (List.mem_of_getElem? (i := 221) rfl)) (by decide +kernel)) | exact Or.inr (List.mem_filter.mpr ⟨am_t5 (List.mem_of_getElem? (i := 221) rfl), rfl⟩)
set_option maxRecDepth 100000 in
theorem cd_1182 : (Jvm.Cond.native ({ cls := "java/lang/Object", name := "clone", desc := "()Ljava/lang/Object;" } : Jvm.MethodName)) ∈ am_WS ∨ (Jvm.Cond.native ({ cls := "java/lang/Object", name := "clone", desc := "()Ljava/lang/Object;" } : Jvm.MethodName)) ∈ am_NW := by first | exact Or.inl (am_in (am_tb5 (List.mem_of_getElem? (i := 222) rfl)) (by decide +kernel)) | exact Or.inr (List.mem_filter.mpr ⟨am_t5 (List.mem_of_getElem? (i := 222) rfl), rfl⟩)
set_option maxRecDepth 100000 in
theorem cd_1183 : (Jvm.Cond.instanceMethod ({ cls := "java/lang/Object", name := "clone", desc := "()Ljava/lang/Object;" } : Jvm.MethodName)) ∈ am_WS ∨ (Jvm.Cond.instanceMethod ({ cls := "java/lang/Object", name := "clone", desc := "()Ljava/lang/Object;" } : Jvm.MethodName)) ∈ am_NW := by first | exact Or.inl (am_in (am_tb5 (List.mem_of_getElem? (i := 223) rfl)) (by decide +kernel)) | exact Or.inr (List.mem_filter.mpr ⟨am_t5 (List.mem_of_getElem? (i := 223) rfl), rfl⟩)
set_option maxRecDepth 100000 in
theorem cd_1184 : (Jvm.Cond.selects "[Z" ({ cls := "[Z", name := "clone", desc := "()Ljava/lang/Object;" } : Jvm.MethodName) ({ cls := "java/lang/Object", name := "clone", desc := "()Ljava/lang/Object;" } : Jvm.MethodName)) ∈ am_WS ∨ (Jvm.Cond.selects "[Z" ({ cls := "[Z", name := "clone", desc := "()Ljava/lang/Object;" } : Jvm.MethodName) ({ cls := "java/lang/Object", name := "clone", desc := "()Ljava/lang/Object;" } : Jvm.MethodName)) ∈ am_NW := by first | exact Or.inl (am_in (am_tb5 (List.mem_of_getElem? (i := 224) rfl)) (by decide +kernel)) | exact Or.inr (List.mem_filter.mpr ⟨am_t5 (List.mem_of_getElem? (i := 224) rfl), rfl⟩)
set_option maxRecDepth 100000 in
theorem cd_1513 : (Jvm.Cond.sameMethod "java/lang/Throwable" "java/lang/Throwable" "fillInStackTrace" "(I)Ljava/lang/Throwable;") ∈ am_WS ∨ (Jvm.Cond.sameMethod "java/lang/Throwable" "java/lang/Throwable" "fillInStackTrace" "(I)Ljava/lang/Throwable;") ∈ am_NW := by first | exact Or.inl (am_in (am_tb7 (List.mem_of_getElem? (i := 73) rfl)) (by decide +kernel)) | exact Or.inr (List.mem_filter.mpr ⟨am_t7 (List.mem_of_getElem? (i := 73) rfl), rfl⟩)
set_option maxRecDepth 100000 in
theorem cd_1514 : (Jvm.Cond.castable "LeadlightHall" "java/lang/Object") ∈ am_WS ∨ (Jvm.Cond.castable "LeadlightHall" "java/lang/Object") ∈ am_NW := by first | exact Or.inl (am_in (am_tb7 (List.mem_of_getElem? (i := 74) rfl)) (by decide +kernel)) | exact Or.inr (List.mem_filter.mpr ⟨am_t7 (List.mem_of_getElem? (i := 74) rfl), rfl⟩)
set_option maxRecDepth 100000 in
theorem cd_1515 : (Jvm.Cond.castable "LeadlightHall$Wall" "java/lang/Object") ∈ am_WS ∨ (Jvm.Cond.castable "LeadlightHall$Wall" "java/lang/Object") ∈ am_NW := by first | exact Or.inl (am_in (am_tb7 (List.mem_of_getElem? (i := 75) rfl)) (by decide +kernel)) | exact Or.inr (List.mem_filter.mpr ⟨am_t7 (List.mem_of_getElem? (i := 75) rfl), rfl⟩)
set_option maxRecDepth 100000 in
theorem cd_1516 : (Jvm.Cond.castable "LeadlightHall$Frame" "java/lang/Object") ∈ am_WS ∨ (Jvm.Cond.castable "LeadlightHall$Frame" "java/lang/Object") ∈ am_NW := by first | exact Or.inl (am_in (am_tb7 (List.mem_of_getElem? (i := 76) rfl)) (by decide +kernel)) | exact Or.inr (List.mem_filter.mpr ⟨am_t7 (List.mem_of_getElem? (i := 76) rfl), rfl⟩)
set_option maxRecDepth 100000 in
theorem cd_1517 : (Jvm.Cond.castable "LeadlightHall$Shape" "java/lang/Object") ∈ am_WS ∨ (Jvm.Cond.castable "LeadlightHall$Shape" "java/lang/Object") ∈ am_NW := by first | exact Or.inl (am_in (am_tb7 (List.mem_of_getElem? (i := 77) rfl)) (by decide +kernel)) | exact Or.inr (List.mem_filter.mpr ⟨am_t7 (List.mem_of_getElem? (i := 77) rfl), rfl⟩)
set_option maxRecDepth 100000 in
theorem cd_1518 : (Jvm.Cond.castable "LeadlightHall$YearSet" "java/lang/Object") ∈ am_WS ∨ (Jvm.Cond.castable "LeadlightHall$YearSet" "java/lang/Object") ∈ am_NW := by first | exact Or.inl (am_in (am_tb7 (List.mem_of_getElem? (i := 78) rfl)) (by decide +kernel)) | exact Or.inr (List.mem_filter.mpr ⟨am_t7 (List.mem_of_getElem? (i := 78) rfl), rfl⟩)
set_option maxRecDepth 100000 in
theorem cd_1519 : (Jvm.Cond.castable "LeadlightHall$Pane" "java/lang/Object") ∈ am_WS ∨ (Jvm.Cond.castable "LeadlightHall$Pane" "java/lang/Object") ∈ am_NW := by first | exact Or.inl (am_in (am_tb7 (List.mem_of_getElem? (i := 79) rfl)) (by decide +kernel)) | exact Or.inr (List.mem_filter.mpr ⟨am_t7 (List.mem_of_getElem? (i := 79) rfl), rfl⟩)
set_option maxRecDepth 100000 in
theorem cd_1520 : (Jvm.Cond.castable "LeadlightHall$Paint" "java/lang/Object") ∈ am_WS ∨ (Jvm.Cond.castable "LeadlightHall$Paint" "java/lang/Object") ∈ am_NW := by first | exact Or.inl (am_in (am_tb7 (List.mem_of_getElem? (i := 80) rfl)) (by decide +kernel)) | exact Or.inr (List.mem_filter.mpr ⟨am_t7 (List.mem_of_getElem? (i := 80) rfl), rfl⟩)
set_option maxRecDepth 100000 in
theorem cd_1521 : (Jvm.Cond.castable "LeadlightHall$Sheet" "java/lang/Object") ∈ am_WS ∨ (Jvm.Cond.castable "LeadlightHall$Sheet" "java/lang/Object") ∈ am_NW := by first | exact Or.inl (am_in (am_tb7 (List.mem_of_getElem? (i := 81) rfl)) (by decide +kernel)) | exact Or.inr (List.mem_filter.mpr ⟨am_t7 (List.mem_of_getElem? (i := 81) rfl), rfl⟩)
set_option maxRecDepth 100000 in
theorem cd_1522 : (Jvm.Cond.castable "LeadlightHallModel" "java/lang/Object") ∈ am_WS ∨ (Jvm.Cond.castable "LeadlightHallModel" "java/lang/Object") ∈ am_NW := by first | exact Or.inl (am_in (am_tb7 (List.mem_of_getElem? (i := 82) rfl)) (by decide +kernel)) | exact Or.inr (List.mem_filter.mpr ⟨am_t7 (List.mem_of_getElem? (i := 82) rfl), rfl⟩)
set_option maxRecDepth 100000 in
theorem cd_1523 : (Jvm.Cond.castable "java/lang/IllegalArgumentException" "java/lang/Object") ∈ am_WS ∨ (Jvm.Cond.castable "java/lang/IllegalArgumentException" "java/lang/Object") ∈ am_NW := by first | exact Or.inl (am_in (am_tb7 (List.mem_of_getElem? (i := 83) rfl)) (by decide +kernel)) | exact Or.inr (List.mem_filter.mpr ⟨am_t7 (List.mem_of_getElem? (i := 83) rfl), rfl⟩)
set_option maxRecDepth 100000 in
theorem cd_1524 : (Jvm.Cond.castable "java/lang/UnsupportedOperationException" "java/lang/Object") ∈ am_WS ∨ (Jvm.Cond.castable "java/lang/UnsupportedOperationException" "java/lang/Object") ∈ am_NW := by first | exact Or.inl (am_in (am_tb7 (List.mem_of_getElem? (i := 84) rfl)) (by decide +kernel)) | exact Or.inr (List.mem_filter.mpr ⟨am_t7 (List.mem_of_getElem? (i := 84) rfl), rfl⟩)
set_option maxRecDepth 100000 in
theorem cd_1525 : (Jvm.Cond.castable "java/lang/IndexOutOfBoundsException" "java/lang/Object") ∈ am_WS ∨ (Jvm.Cond.castable "java/lang/IndexOutOfBoundsException" "java/lang/Object") ∈ am_NW := by first | exact Or.inl (am_in (am_tb7 (List.mem_of_getElem? (i := 85) rfl)) (by decide +kernel)) | exact Or.inr (List.mem_filter.mpr ⟨am_t7 (List.mem_of_getElem? (i := 85) rfl), rfl⟩)
set_option maxRecDepth 100000 in
theorem cd_1526 : (Jvm.Cond.castable "java/lang/IllegalStateException" "java/lang/Object") ∈ am_WS ∨ (Jvm.Cond.castable "java/lang/IllegalStateException" "java/lang/Object") ∈ am_NW := by first | exact Or.inl (am_in (am_tb7 (List.mem_of_getElem? (i := 86) rfl)) (by decide +kernel)) | exact Or.inr (List.mem_filter.mpr ⟨am_t7 (List.mem_of_getElem? (i := 86) rfl), rfl⟩)
set_option maxRecDepth 100000 in
theorem cd_1527 : (Jvm.Cond.castable "java/util/NoSuchElementException" "java/lang/Object") ∈ am_WS ∨ (Jvm.Cond.castable "java/util/NoSuchElementException" "java/lang/Object") ∈ am_NW := by first | exact Or.inl (am_in (am_tb7 (List.mem_of_getElem? (i := 87) rfl)) (by decide +kernel)) | exact Or.inr (List.mem_filter.mpr ⟨am_t7 (List.mem_of_getElem? (i := 87) rfl), rfl⟩)
set_option maxRecDepth 100000 in
theorem cd_1528 : (Jvm.Cond.castable "java/lang/Throwable" "java/lang/Object") ∈ am_WS ∨ (Jvm.Cond.castable "java/lang/Throwable" "java/lang/Object") ∈ am_NW := by first | exact Or.inl (am_in (am_tb7 (List.mem_of_getElem? (i := 88) rfl)) (by decide +kernel)) | exact Or.inr (List.mem_filter.mpr ⟨am_t7 (List.mem_of_getElem? (i := 88) rfl), rfl⟩)
set_option maxRecDepth 100000 in
theorem cd_1529 : (Jvm.Cond.castable "java/lang/String" "java/lang/Object") ∈ am_WS ∨ (Jvm.Cond.castable "java/lang/String" "java/lang/Object") ∈ am_NW := by first | exact Or.inl (am_in (am_tb7 (List.mem_of_getElem? (i := 89) rfl)) (by decide +kernel)) | exact Or.inr (List.mem_filter.mpr ⟨am_t7 (List.mem_of_getElem? (i := 89) rfl), rfl⟩)
def am_cd : List Cond := [(Jvm.Cond.initialized "java/lang/Throwable"), (Jvm.Cond.initialized "java/lang/Exception"), (Jvm.Cond.initialized "java/lang/RuntimeException"), (Jvm.Cond.initialized "java/lang/IllegalArgumentException"), (Jvm.Cond.initialized "java/lang/UnsupportedOperationException"), (Jvm.Cond.initialized "java/lang/IndexOutOfBoundsException"), (Jvm.Cond.initialized "java/lang/IllegalStateException"), (Jvm.Cond.initialized "java/util/NoSuchElementException"), (Jvm.Cond.methodLink "LeadlightHall" (3 : Nat) ({ cls := "java/lang/Object", name := "<init>", desc := "()V" } : Jvm.MethodName)), (Jvm.Cond.instanceMethod ({ cls := "java/lang/Object", name := "<init>", desc := "()V" } : Jvm.MethodName)), (Jvm.Cond.code ({ cls := "java/lang/Object", name := "<init>", desc := "()V" } : Jvm.MethodName) object_method_1_code (1 : Nat) (Option.none : Option Jvm.ClassFile.FieldType)), (Jvm.Cond.methodLink "LeadlightHall$Wall" (3 : Nat) ({ cls := "java/lang/Object", name := "<init>", desc := "()V" } : Jvm.MethodName)), (Jvm.Cond.superclass "LeadlightHall$Wall" "java/lang/Object"), (Jvm.Cond.methodLink "LeadlightHall$Frame" (3 : Nat) ({ cls := "java/lang/Object", name := "<init>", desc := "()V" } : Jvm.MethodName)), (Jvm.Cond.superclass "LeadlightHall$Frame" "java/lang/Object"), (Jvm.Cond.methodLink "LeadlightHall$Shape" (3 : Nat) ({ cls := "java/lang/Object", name := "<init>", desc := "()V" } : Jvm.MethodName)), (Jvm.Cond.superclass "LeadlightHall$Shape" "java/lang/Object"), (Jvm.Cond.methodLink "LeadlightHall$YearSet" (3 : Nat) ({ cls := "java/lang/Object", name := "<init>", desc := "()V" } : Jvm.MethodName)), (Jvm.Cond.superclass "LeadlightHall$YearSet" "java/lang/Object"), (Jvm.Cond.methodLink "LeadlightHall$Pane" (3 : Nat) ({ cls := "java/lang/Object", name := "<init>", desc := "()V" } : Jvm.MethodName)), (Jvm.Cond.methodLink "LeadlightHall$Paint" (1 : Nat) ({ cls := "java/lang/Object", name := "<init>", desc := "()V" } : Jvm.MethodName)), (Jvm.Cond.superclass "LeadlightHall$Paint" "java/lang/Object"), (Jvm.Cond.superclass "LeadlightHall$Pane" "java/lang/Object"), (Jvm.Cond.methodLink "LeadlightHall$Sheet" (3 : Nat) ({ cls := "java/lang/Object", name := "<init>", desc := "()V" } : Jvm.MethodName)), (Jvm.Cond.superclass "LeadlightHall$Sheet" "java/lang/Object"), (Jvm.Cond.superclass "LeadlightHall" "java/lang/Object"), (Jvm.Cond.classLink "LeadlightHallLaw" (13 : Nat) "java/lang/IllegalArgumentException"), (Jvm.Cond.classLink "LeadlightHallLaw" (15 : Nat) "java/lang/UnsupportedOperationException"), (Jvm.Cond.classLink "LeadlightHall" (187 : Nat) "java/lang/IllegalArgumentException"), (Jvm.Cond.instantiable "java/lang/IllegalArgumentException" (6 : Nat)), (Jvm.Cond.castable "java/lang/IllegalArgumentException" "java/lang/IllegalArgumentException"), (Jvm.Cond.declares ({ cls := "java/lang/RuntimeException", name := "<init>", desc := "()V" } : Jvm.MethodName)), (Jvm.Cond.declares ({ cls := "java/lang/RuntimeException", name := "<init>", desc := "(Ljava/lang/String;)V" } : Jvm.MethodName)), (Jvm.Cond.declares ({ cls := "java/lang/Exception", name := "<init>", desc := "()V" } : Jvm.MethodName)), (Jvm.Cond.declares ({ cls := "java/lang/Exception", name := "<init>", desc := "(Ljava/lang/String;)V" } : Jvm.MethodName)), (Jvm.Cond.declares ({ cls := "java/lang/Throwable", name := "<init>", desc := "()V" } : Jvm.MethodName)), (Jvm.Cond.declares ({ cls := "java/lang/Throwable", name := "<init>", desc := "(Ljava/lang/String;)V" } : Jvm.MethodName)), (Jvm.Cond.selects "java/lang/IllegalArgumentException" ({ cls := "java/lang/Throwable", name := "fillInStackTrace", desc := "(I)Ljava/lang/Throwable;" } : Jvm.MethodName) ({ cls := "java/lang/Throwable", name := "fillInStackTrace", desc := "(I)Ljava/lang/Throwable;" } : Jvm.MethodName)), (Jvm.Cond.selects "java/lang/IllegalArgumentException" ({ cls := "java/lang/Throwable", name := "fillInStackTrace", desc := "()Ljava/lang/Throwable;" } : Jvm.MethodName) ({ cls := "java/lang/Throwable", name := "fillInStackTrace", desc := "()Ljava/lang/Throwable;" } : Jvm.MethodName)), (Jvm.Cond.lays "java/lang/IllegalArgumentException" "java/lang/Throwable" "cause" "Ljava/lang/Throwable;"), (Jvm.Cond.lays "java/lang/Throwable" "java/lang/Throwable" "cause" "Ljava/lang/Throwable;"), (Jvm.Cond.lays "java/lang/IllegalArgumentException" "java/lang/Throwable" "stackTrace" "[Ljava/lang/StackTraceElement;"), (Jvm.Cond.lays "java/lang/Throwable" "java/lang/Throwable" "stackTrace" "[Ljava/lang/StackTraceElement;"), (Jvm.Cond.lays "java/lang/IllegalArgumentException" "java/lang/Throwable" "suppressedExceptions" "Ljava/util/List;"), (Jvm.Cond.lays "java/lang/Throwable" "java/lang/Throwable" "suppressedExceptions" "Ljava/util/List;"), (Jvm.Cond.lays "java/lang/IllegalArgumentException" "java/lang/Throwable" "detailMessage" "Ljava/lang/String;"), (Jvm.Cond.lays "java/lang/Throwable" "java/lang/Throwable" "detailMessage" "Ljava/lang/String;"), (Jvm.Cond.lays "java/lang/IllegalArgumentException" "java/lang/Throwable" "backtrace" "Ljava/lang/Object;"), (Jvm.Cond.lays "java/lang/Throwable" "java/lang/Throwable" "backtrace" "Ljava/lang/Object;"), (Jvm.Cond.fieldLink "java/lang/Throwable" (198 : Nat) "java/lang/Throwable" "backtrace" "Ljava/lang/Object;"), (Jvm.Cond.superclass "java/lang/Throwable" "java/lang/Object"), (Jvm.Cond.instanceMethod ({ cls := "java/lang/Throwable", name := "<init>", desc := "()V" } : Jvm.MethodName)), (Jvm.Cond.code ({ cls := "java/lang/Throwable", name := "<init>", desc := "()V" } : Jvm.MethodName) prog_27_method_1_code (1 : Nat) (Option.none : Option Jvm.ClassFile.FieldType)), (Jvm.Cond.methodLink "java/lang/Throwable" (1 : Nat) ({ cls := "java/lang/Object", name := "<init>", desc := "()V" } : Jvm.MethodName)), (Jvm.Cond.fieldLink "java/lang/Throwable" (13 : Nat) "java/lang/Throwable" "UNASSIGNED_STACK" "[Ljava/lang/StackTraceElement;"), (Jvm.Cond.fieldLink "java/lang/Throwable" (20 : Nat) "java/lang/Throwable" "SUPPRESSED_SENTINEL" "Ljava/util/List;"), (Jvm.Cond.methodLink "java/lang/Throwable" (27 : Nat) ({ cls := "java/lang/Throwable", name := "fillInStackTrace", desc := "()Ljava/lang/Throwable;" } : Jvm.MethodName)), (Jvm.Cond.instanceMethod ({ cls := "java/lang/Throwable", name := "fillInStackTrace", desc := "()Ljava/lang/Throwable;" } : Jvm.MethodName)), (Jvm.Cond.sameMethod "java/lang/Throwable" "java/lang/Throwable" "fillInStackTrace" "()Ljava/lang/Throwable;"), (Jvm.Cond.selects "java/lang/IllegalStateException" ({ cls := "java/lang/Throwable", name := "fillInStackTrace", desc := "()Ljava/lang/Throwable;" } : Jvm.MethodName) ({ cls := "java/lang/Throwable", name := "fillInStackTrace", desc := "()Ljava/lang/Throwable;" } : Jvm.MethodName)), (Jvm.Cond.selects "java/lang/IndexOutOfBoundsException" ({ cls := "java/lang/Throwable", name := "fillInStackTrace", desc := "()Ljava/lang/Throwable;" } : Jvm.MethodName) ({ cls := "java/lang/Throwable", name := "fillInStackTrace", desc := "()Ljava/lang/Throwable;" } : Jvm.MethodName)), (Jvm.Cond.selects "java/lang/UnsupportedOperationException" ({ cls := "java/lang/Throwable", name := "fillInStackTrace", desc := "()Ljava/lang/Throwable;" } : Jvm.MethodName) ({ cls := "java/lang/Throwable", name := "fillInStackTrace", desc := "()Ljava/lang/Throwable;" } : Jvm.MethodName)), (Jvm.Cond.selects "java/util/NoSuchElementException" ({ cls := "java/lang/Throwable", name := "fillInStackTrace", desc := "()Ljava/lang/Throwable;" } : Jvm.MethodName) ({ cls := "java/lang/Throwable", name := "fillInStackTrace", desc := "()Ljava/lang/Throwable;" } : Jvm.MethodName)), (Jvm.Cond.codeSync ({ cls := "java/lang/Throwable", name := "fillInStackTrace", desc := "()Ljava/lang/Throwable;" } : Jvm.MethodName) prog_27_method_18_code (1 : Nat) (Option.some (Jvm.ClassFile.FieldType.object "java/lang/Throwable"))), (Jvm.Cond.methodLink "java/lang/Throwable" (202 : Nat) ({ cls := "java/lang/Throwable", name := "fillInStackTrace", desc := "(I)Ljava/lang/Throwable;" } : Jvm.MethodName)), (Jvm.Cond.instanceMethod ({ cls := "java/lang/Throwable", name := "fillInStackTrace", desc := "(I)Ljava/lang/Throwable;" } : Jvm.MethodName)), (Jvm.Cond.instantiable "java/lang/Throwable" (6 : Nat)), (Jvm.Cond.native ({ cls := "java/lang/Throwable", name := "fillInStackTrace", desc := "(I)Ljava/lang/Throwable;" } : Jvm.MethodName)), (Jvm.Cond.methodLink "LeadlightHall" (191 : Nat) ({ cls := "java/lang/IllegalArgumentException", name := "<init>", desc := "(Ljava/lang/String;)V" } : Jvm.MethodName)), (Jvm.Cond.instanceMethod ({ cls := "java/lang/IllegalArgumentException", name := "<init>", desc := "(Ljava/lang/String;)V" } : Jvm.MethodName)), (Jvm.Cond.code ({ cls := "java/lang/IllegalArgumentException", name := "<init>", desc := "(Ljava/lang/String;)V" } : Jvm.MethodName) prog_17_method_2_code (2 : Nat) (Option.none : Option Jvm.ClassFile.FieldType)), (Jvm.Cond.methodLink "java/lang/IllegalArgumentException" (7 : Nat) ({ cls := "java/lang/RuntimeException", name := "<init>", desc := "(Ljava/lang/String;)V" } : Jvm.MethodName)), (Jvm.Cond.instanceMethod ({ cls := "java/lang/RuntimeException", name := "<init>", desc := "(Ljava/lang/String;)V" } : Jvm.MethodName)), (Jvm.Cond.code ({ cls := "java/lang/RuntimeException", name := "<init>", desc := "(Ljava/lang/String;)V" } : Jvm.MethodName) prog_23_method_2_code (2 : Nat) (Option.none : Option Jvm.ClassFile.FieldType)), (Jvm.Cond.methodLink "java/lang/RuntimeException" (7 : Nat) ({ cls := "java/lang/Exception", name := "<init>", desc := "(Ljava/lang/String;)V" } : Jvm.MethodName)), (Jvm.Cond.instanceMethod ({ cls := "java/lang/Exception", name := "<init>", desc := "(Ljava/lang/String;)V" } : Jvm.MethodName)), (Jvm.Cond.code ({ cls := "java/lang/Exception", name := "<init>", desc := "(Ljava/lang/String;)V" } : Jvm.MethodName) prog_16_method_2_code (2 : Nat) (Option.none : Option Jvm.ClassFile.FieldType)), (Jvm.Cond.methodLink "java/lang/Exception" (7 : Nat) ({ cls := "java/lang/Throwable", name := "<init>", desc := "(Ljava/lang/String;)V" } : Jvm.MethodName)), (Jvm.Cond.instanceMethod ({ cls := "java/lang/Throwable", name := "<init>", desc := "(Ljava/lang/String;)V" } : Jvm.MethodName)), (Jvm.Cond.code ({ cls := "java/lang/Throwable", name := "<init>", desc := "(Ljava/lang/String;)V" } : Jvm.MethodName) prog_27_method_2_code (2 : Nat) (Option.none : Option Jvm.ClassFile.FieldType)), (Jvm.Cond.fieldLink "java/lang/Throwable" (198 : Nat) "java/lang/Throwable" "backtrace" "Ljava/lang/Object;"), (Jvm.Cond.fieldLink "java/lang/Throwable" (31 : Nat) "java/lang/Throwable" "detailMessage" "Ljava/lang/String;"), (Jvm.Cond.fieldLink "java/lang/Throwable" (7 : Nat) "java/lang/Throwable" "cause" "Ljava/lang/Throwable;"), (Jvm.Cond.fieldLink "java/lang/Throwable" (17 : Nat) "java/lang/Throwable" "stackTrace" "[Ljava/lang/StackTraceElement;"), (Jvm.Cond.fieldLink "java/lang/Throwable" (24 : Nat) "java/lang/Throwable" "suppressedExceptions" "Ljava/util/List;"), (Jvm.Cond.soleField "java/lang/Throwable" "backtrace"), (Jvm.Cond.soleField "java/lang/Throwable" "detailMessage"), (Jvm.Cond.soleField "java/lang/Throwable" "cause"), (Jvm.Cond.soleField "java/lang/Throwable" "stackTrace"), (Jvm.Cond.lays "java/lang/IllegalArgumentException" "java/lang/Throwable" "depth" "I"), (Jvm.Cond.soleField "java/lang/Throwable" "depth"), (Jvm.Cond.soleField "java/lang/Throwable" "suppressedExceptions"), (Jvm.Cond.superclass "java/lang/IllegalArgumentException" "java/lang/RuntimeException"), (Jvm.Cond.classLink "LeadlightHall" (92 : Nat) "java/lang/UnsupportedOperationException"), (Jvm.Cond.instantiable "java/lang/UnsupportedOperationException" (6 : Nat)), (Jvm.Cond.castable "java/lang/UnsupportedOperationException" "java/lang/UnsupportedOperationException"), (Jvm.Cond.selects "java/lang/UnsupportedOperationException" ({ cls := "java/lang/Throwable", name := "fillInStackTrace", desc := "(I)Ljava/lang/Throwable;" } : Jvm.MethodName) ({ cls := "java/lang/Throwable", name := "fillInStackTrace", desc := "(I)Ljava/lang/Throwable;" } : Jvm.MethodName)), (Jvm.Cond.lays "java/lang/UnsupportedOperationException" "java/lang/Throwable" "cause" "Ljava/lang/Throwable;"), (Jvm.Cond.lays "java/lang/UnsupportedOperationException" "java/lang/Throwable" "stackTrace" "[Ljava/lang/StackTraceElement;"), (Jvm.Cond.lays "java/lang/UnsupportedOperationException" "java/lang/Throwable" "suppressedExceptions" "Ljava/util/List;"), (Jvm.Cond.lays "java/lang/UnsupportedOperationException" "java/lang/Throwable" "detailMessage" "Ljava/lang/String;"), (Jvm.Cond.lays "java/lang/UnsupportedOperationException" "java/lang/Throwable" "backtrace" "Ljava/lang/Object;"), (Jvm.Cond.methodLink "LeadlightHall" (96 : Nat) ({ cls := "java/lang/UnsupportedOperationException", name := "<init>", desc := "(Ljava/lang/String;)V" } : Jvm.MethodName)), (Jvm.Cond.instanceMethod ({ cls := "java/lang/UnsupportedOperationException", name := "<init>", desc := "(Ljava/lang/String;)V" } : Jvm.MethodName)), (Jvm.Cond.code ({ cls := "java/lang/UnsupportedOperationException", name := "<init>", desc := "(Ljava/lang/String;)V" } : Jvm.MethodName) prog_28_method_2_code (2 : Nat) (Option.none : Option Jvm.ClassFile.FieldType)), (Jvm.Cond.methodLink "java/lang/UnsupportedOperationException" (7 : Nat) ({ cls := "java/lang/RuntimeException", name := "<init>", desc := "(Ljava/lang/String;)V" } : Jvm.MethodName)), (Jvm.Cond.lays "java/lang/UnsupportedOperationException" "java/lang/Throwable" "depth" "I"), (Jvm.Cond.superclass "java/lang/UnsupportedOperationException" "java/lang/RuntimeException"), (Jvm.Cond.classLink "LeadlightHallLaw" (21 : Nat) "java/lang/IndexOutOfBoundsException"), (Jvm.Cond.classLink "LeadlightHall" (415 : Nat) "java/lang/IndexOutOfBoundsException"), (Jvm.Cond.instantiable "java/lang/IndexOutOfBoundsException" (6 : Nat)), (Jvm.Cond.castable "java/lang/IndexOutOfBoundsException" "java/lang/IndexOutOfBoundsException"), (Jvm.Cond.selects "java/lang/IndexOutOfBoundsException" ({ cls := "java/lang/Throwable", name := "fillInStackTrace", desc := "(I)Ljava/lang/Throwable;" } : Jvm.MethodName) ({ cls := "java/lang/Throwable", name := "fillInStackTrace", desc := "(I)Ljava/lang/Throwable;" } : Jvm.MethodName)), (Jvm.Cond.lays "java/lang/IndexOutOfBoundsException" "java/lang/Throwable" "cause" "Ljava/lang/Throwable;"), (Jvm.Cond.lays "java/lang/IndexOutOfBoundsException" "java/lang/Throwable" "stackTrace" "[Ljava/lang/StackTraceElement;"), (Jvm.Cond.lays "java/lang/IndexOutOfBoundsException" "java/lang/Throwable" "suppressedExceptions" "Ljava/util/List;"), (Jvm.Cond.lays "java/lang/IndexOutOfBoundsException" "java/lang/Throwable" "detailMessage" "Ljava/lang/String;"), (Jvm.Cond.lays "java/lang/IndexOutOfBoundsException" "java/lang/Throwable" "backtrace" "Ljava/lang/Object;"), (Jvm.Cond.methodLink "LeadlightHall" (419 : Nat) ({ cls := "java/lang/IndexOutOfBoundsException", name := "<init>", desc := "(Ljava/lang/String;)V" } : Jvm.MethodName)), (Jvm.Cond.instanceMethod ({ cls := "java/lang/IndexOutOfBoundsException", name := "<init>", desc := "(Ljava/lang/String;)V" } : Jvm.MethodName)), (Jvm.Cond.code ({ cls := "java/lang/IndexOutOfBoundsException", name := "<init>", desc := "(Ljava/lang/String;)V" } : Jvm.MethodName) prog_19_method_2_code (2 : Nat) (Option.none : Option Jvm.ClassFile.FieldType)), (Jvm.Cond.methodLink "java/lang/IndexOutOfBoundsException" (7 : Nat) ({ cls := "java/lang/RuntimeException", name := "<init>", desc := "(Ljava/lang/String;)V" } : Jvm.MethodName)), (Jvm.Cond.lays "java/lang/IndexOutOfBoundsException" "java/lang/Throwable" "depth" "I"), (Jvm.Cond.superclass "java/lang/IndexOutOfBoundsException" "java/lang/RuntimeException"), (Jvm.Cond.classLink "LeadlightHallLaw" (44 : Nat) "java/lang/IllegalStateException"), (Jvm.Cond.classLink "LeadlightHall" (152 : Nat) "java/lang/IllegalStateException"), (Jvm.Cond.instantiable "java/lang/IllegalStateException" (6 : Nat)), (Jvm.Cond.castable "java/lang/IllegalStateException" "java/lang/IllegalStateException"), (Jvm.Cond.selects "java/lang/IllegalStateException" ({ cls := "java/lang/Throwable", name := "fillInStackTrace", desc := "(I)Ljava/lang/Throwable;" } : Jvm.MethodName) ({ cls := "java/lang/Throwable", name := "fillInStackTrace", desc := "(I)Ljava/lang/Throwable;" } : Jvm.MethodName)), (Jvm.Cond.lays "java/lang/IllegalStateException" "java/lang/Throwable" "cause" "Ljava/lang/Throwable;"), (Jvm.Cond.lays "java/lang/IllegalStateException" "java/lang/Throwable" "stackTrace" "[Ljava/lang/StackTraceElement;"), (Jvm.Cond.lays "java/lang/IllegalStateException" "java/lang/Throwable" "suppressedExceptions" "Ljava/util/List;"), (Jvm.Cond.lays "java/lang/IllegalStateException" "java/lang/Throwable" "detailMessage" "Ljava/lang/String;"), (Jvm.Cond.lays "java/lang/IllegalStateException" "java/lang/Throwable" "backtrace" "Ljava/lang/Object;"), (Jvm.Cond.methodLink "LeadlightHall" (156 : Nat) ({ cls := "java/lang/IllegalStateException", name := "<init>", desc := "(Ljava/lang/String;)V" } : Jvm.MethodName)), (Jvm.Cond.instanceMethod ({ cls := "java/lang/IllegalStateException", name := "<init>", desc := "(Ljava/lang/String;)V" } : Jvm.MethodName)), (Jvm.Cond.code ({ cls := "java/lang/IllegalStateException", name := "<init>", desc := "(Ljava/lang/String;)V" } : Jvm.MethodName) prog_18_method_2_code (2 : Nat) (Option.none : Option Jvm.ClassFile.FieldType)), (Jvm.Cond.methodLink "java/lang/IllegalStateException" (7 : Nat) ({ cls := "java/lang/RuntimeException", name := "<init>", desc := "(Ljava/lang/String;)V" } : Jvm.MethodName)), (Jvm.Cond.lays "java/lang/IllegalStateException" "java/lang/Throwable" "depth" "I"), (Jvm.Cond.superclass "java/lang/IllegalStateException" "java/lang/RuntimeException"), (Jvm.Cond.classLink "LeadlightHallLaw" (67 : Nat) "java/util/NoSuchElementException"), (Jvm.Cond.classLink "LeadlightHall" (404 : Nat) "java/util/NoSuchElementException"), (Jvm.Cond.instantiable "java/util/NoSuchElementException" (6 : Nat)), (Jvm.Cond.castable "java/util/NoSuchElementException" "java/util/NoSuchElementException"), (Jvm.Cond.selects "java/util/NoSuchElementException" ({ cls := "java/lang/Throwable", name := "fillInStackTrace", desc := "(I)Ljava/lang/Throwable;" } : Jvm.MethodName) ({ cls := "java/lang/Throwable", name := "fillInStackTrace", desc := "(I)Ljava/lang/Throwable;" } : Jvm.MethodName)), (Jvm.Cond.lays "java/util/NoSuchElementException" "java/lang/Throwable" "cause" "Ljava/lang/Throwable;"), (Jvm.Cond.lays "java/util/NoSuchElementException" "java/lang/Throwable" "stackTrace" "[Ljava/lang/StackTraceElement;"), (Jvm.Cond.lays "java/util/NoSuchElementException" "java/lang/Throwable" "suppressedExceptions" "Ljava/util/List;"), (Jvm.Cond.lays "java/util/NoSuchElementException" "java/lang/Throwable" "detailMessage" "Ljava/lang/String;"), (Jvm.Cond.lays "java/util/NoSuchElementException" "java/lang/Throwable" "backtrace" "Ljava/lang/Object;"), (Jvm.Cond.methodLink "LeadlightHall" (406 : Nat) ({ cls := "java/util/NoSuchElementException", name := "<init>", desc := "(Ljava/lang/String;)V" } : Jvm.MethodName)), (Jvm.Cond.instanceMethod ({ cls := "java/util/NoSuchElementException", name := "<init>", desc := "(Ljava/lang/String;)V" } : Jvm.MethodName)), (Jvm.Cond.code ({ cls := "java/util/NoSuchElementException", name := "<init>", desc := "(Ljava/lang/String;)V" } : Jvm.MethodName) prog_31_method_4_code (2 : Nat) (Option.none : Option Jvm.ClassFile.FieldType)), (Jvm.Cond.methodLink "java/util/NoSuchElementException" (13 : Nat) ({ cls := "java/lang/RuntimeException", name := "<init>", desc := "(Ljava/lang/String;)V" } : Jvm.MethodName)), (Jvm.Cond.lays "java/util/NoSuchElementException" "java/lang/Throwable" "depth" "I"), (Jvm.Cond.superclass "java/util/NoSuchElementException" "java/lang/RuntimeException"), (Jvm.Cond.methodLink "LeadlightHallModel" (1 : Nat) ({ cls := "java/lang/Object", name := "<init>", desc := "()V" } : Jvm.MethodName)), (Jvm.Cond.superclass "LeadlightHallModel" "java/lang/Object"), (Jvm.Cond.sameMethod "[Z" "java/lang/Object" "clone" "()Ljava/lang/Object;"), (Jvm.Cond.native ({ cls := "java/lang/Object", name := "clone", desc := "()Ljava/lang/Object;" } : Jvm.MethodName)), (Jvm.Cond.instanceMethod ({ cls := "java/lang/Object", name := "clone", desc := "()Ljava/lang/Object;" } : Jvm.MethodName)), (Jvm.Cond.selects "[Z" ({ cls := "[Z", name := "clone", desc := "()Ljava/lang/Object;" } : Jvm.MethodName) ({ cls := "java/lang/Object", name := "clone", desc := "()Ljava/lang/Object;" } : Jvm.MethodName)), (Jvm.Cond.sameMethod "java/lang/Throwable" "java/lang/Throwable" "fillInStackTrace" "(I)Ljava/lang/Throwable;"), (Jvm.Cond.castable "LeadlightHall" "java/lang/Object"), (Jvm.Cond.castable "LeadlightHall$Wall" "java/lang/Object"), (Jvm.Cond.castable "LeadlightHall$Frame" "java/lang/Object"), (Jvm.Cond.castable "LeadlightHall$Shape" "java/lang/Object"), (Jvm.Cond.castable "LeadlightHall$YearSet" "java/lang/Object"), (Jvm.Cond.castable "LeadlightHall$Pane" "java/lang/Object"), (Jvm.Cond.castable "LeadlightHall$Paint" "java/lang/Object"), (Jvm.Cond.castable "LeadlightHall$Sheet" "java/lang/Object"), (Jvm.Cond.castable "LeadlightHallModel" "java/lang/Object"), (Jvm.Cond.castable "java/lang/IllegalArgumentException" "java/lang/Object"), (Jvm.Cond.castable "java/lang/UnsupportedOperationException" "java/lang/Object"), (Jvm.Cond.castable "java/lang/IndexOutOfBoundsException" "java/lang/Object"), (Jvm.Cond.castable "java/lang/IllegalStateException" "java/lang/Object"), (Jvm.Cond.castable "java/util/NoSuchElementException" "java/lang/Object"), (Jvm.Cond.castable "java/lang/Throwable" "java/lang/Object"), (Jvm.Cond.castable "java/lang/String" "java/lang/Object")]
set_option maxRecDepth 100000 in
theorem am_cdw : ∀ w ∈ am_cd, w ∈ am_WS ∨ w ∈ am_NW := List.forall_mem_cons.mpr ⟨cd_10, List.forall_mem_cons.mpr ⟨cd_11, List.forall_mem_cons.mpr ⟨cd_12, List.forall_mem_cons.mpr ⟨cd_13, List.forall_mem_cons.mpr ⟨cd_14, List.forall_mem_cons.mpr ⟨cd_15, List.forall_mem_cons.mpr ⟨cd_18, List.forall_mem_cons.mpr ⟨cd_19, List.forall_mem_cons.mpr ⟨cd_31, List.forall_mem_cons.mpr ⟨cd_32, List.forall_mem_cons.mpr ⟨cd_33, List.forall_mem_cons.mpr ⟨cd_39, List.forall_mem_cons.mpr ⟨cd_43, List.forall_mem_cons.mpr ⟨cd_54, List.forall_mem_cons.mpr ⟨cd_66, List.forall_mem_cons.mpr ⟨cd_72, List.forall_mem_cons.mpr ⟨cd_79, List.forall_mem_cons.mpr ⟨cd_85, List.forall_mem_cons.mpr ⟨cd_89, List.forall_mem_cons.mpr ⟨cd_95, List.forall_mem_cons.mpr ⟨cd_101, List.forall_mem_cons.mpr ⟨cd_108, List.forall_mem_cons.mpr ⟨cd_139, List.forall_mem_cons.mpr ⟨cd_144, List.forall_mem_cons.mpr ⟨cd_162, List.forall_mem_cons.mpr ⟨cd_211, List.forall_mem_cons.mpr ⟨cd_392, List.forall_mem_cons.mpr ⟨cd_393, List.forall_mem_cons.mpr ⟨cd_402, List.forall_mem_cons.mpr ⟨cd_403, List.forall_mem_cons.mpr ⟨cd_404, List.forall_mem_cons.mpr ⟨cd_405, List.forall_mem_cons.mpr ⟨cd_406, List.forall_mem_cons.mpr ⟨cd_407, List.forall_mem_cons.mpr ⟨cd_408, List.forall_mem_cons.mpr ⟨cd_409, List.forall_mem_cons.mpr ⟨cd_410, List.forall_mem_cons.mpr ⟨cd_411, List.forall_mem_cons.mpr ⟨cd_412, List.forall_mem_cons.mpr ⟨cd_413, List.forall_mem_cons.mpr ⟨cd_414, List.forall_mem_cons.mpr ⟨cd_415, List.forall_mem_cons.mpr ⟨cd_416, List.forall_mem_cons.mpr ⟨cd_417, List.forall_mem_cons.mpr ⟨cd_418, List.forall_mem_cons.mpr ⟨cd_419, List.forall_mem_cons.mpr ⟨cd_420, List.forall_mem_cons.mpr ⟨cd_421, List.forall_mem_cons.mpr ⟨cd_422, List.forall_mem_cons.mpr ⟨cd_423, List.forall_mem_cons.mpr ⟨cd_424, List.forall_mem_cons.mpr ⟨cd_425, List.forall_mem_cons.mpr ⟨cd_426, List.forall_mem_cons.mpr ⟨cd_427, List.forall_mem_cons.mpr ⟨cd_428, List.forall_mem_cons.mpr ⟨cd_430, List.forall_mem_cons.mpr ⟨cd_432, List.forall_mem_cons.mpr ⟨cd_433, List.forall_mem_cons.mpr ⟨cd_434, List.forall_mem_cons.mpr ⟨cd_435, List.forall_mem_cons.mpr ⟨cd_436, List.forall_mem_cons.mpr ⟨cd_437, List.forall_mem_cons.mpr ⟨cd_438, List.forall_mem_cons.mpr ⟨cd_439, List.forall_mem_cons.mpr ⟨cd_440, List.forall_mem_cons.mpr ⟨cd_442, List.forall_mem_cons.mpr ⟨cd_443, List.forall_mem_cons.mpr ⟨cd_444, List.forall_mem_cons.mpr ⟨cd_446, List.forall_mem_cons.mpr ⟨cd_447, List.forall_mem_cons.mpr ⟨cd_448, List.forall_mem_cons.mpr ⟨cd_449, List.forall_mem_cons.mpr ⟨cd_450, List.forall_mem_cons.mpr ⟨cd_451, List.forall_mem_cons.mpr ⟨cd_452, List.forall_mem_cons.mpr ⟨cd_453, List.forall_mem_cons.mpr ⟨cd_454, List.forall_mem_cons.mpr ⟨cd_455, List.forall_mem_cons.mpr ⟨cd_456, List.forall_mem_cons.mpr ⟨cd_457, List.forall_mem_cons.mpr ⟨cd_458, List.forall_mem_cons.mpr ⟨cd_459, List.forall_mem_cons.mpr ⟨cd_460, List.forall_mem_cons.mpr ⟨cd_461, List.forall_mem_cons.mpr ⟨cd_462, List.forall_mem_cons.mpr ⟨cd_463, List.forall_mem_cons.mpr ⟨cd_464, List.forall_mem_cons.mpr ⟨cd_465, List.forall_mem_cons.mpr ⟨cd_466, List.forall_mem_cons.mpr ⟨cd_467, List.forall_mem_cons.mpr ⟨cd_468, List.forall_mem_cons.mpr ⟨cd_469, List.forall_mem_cons.mpr ⟨cd_470, List.forall_mem_cons.mpr ⟨cd_480, List.forall_mem_cons.mpr ⟨cd_481, List.forall_mem_cons.mpr ⟨cd_482, List.forall_mem_cons.mpr ⟨cd_483, List.forall_mem_cons.mpr ⟨cd_484, List.forall_mem_cons.mpr ⟨cd_485, List.forall_mem_cons.mpr ⟨cd_486, List.forall_mem_cons.mpr ⟨cd_487, List.forall_mem_cons.mpr ⟨cd_488, List.forall_mem_cons.mpr ⟨cd_490, List.forall_mem_cons.mpr ⟨cd_491, List.forall_mem_cons.mpr ⟨cd_492, List.forall_mem_cons.mpr ⟨cd_493, List.forall_mem_cons.mpr ⟨cd_494, List.forall_mem_cons.mpr ⟨cd_495, List.forall_mem_cons.mpr ⟨cd_503, List.forall_mem_cons.mpr ⟨cd_511, List.forall_mem_cons.mpr ⟨cd_512, List.forall_mem_cons.mpr ⟨cd_513, List.forall_mem_cons.mpr ⟨cd_514, List.forall_mem_cons.mpr ⟨cd_515, List.forall_mem_cons.mpr ⟨cd_516, List.forall_mem_cons.mpr ⟨cd_517, List.forall_mem_cons.mpr ⟨cd_518, List.forall_mem_cons.mpr ⟨cd_519, List.forall_mem_cons.mpr ⟨cd_521, List.forall_mem_cons.mpr ⟨cd_522, List.forall_mem_cons.mpr ⟨cd_523, List.forall_mem_cons.mpr ⟨cd_524, List.forall_mem_cons.mpr ⟨cd_525, List.forall_mem_cons.mpr ⟨cd_526, List.forall_mem_cons.mpr ⟨cd_609, List.forall_mem_cons.mpr ⟨cd_632, List.forall_mem_cons.mpr ⟨cd_633, List.forall_mem_cons.mpr ⟨cd_634, List.forall_mem_cons.mpr ⟨cd_635, List.forall_mem_cons.mpr ⟨cd_636, List.forall_mem_cons.mpr ⟨cd_637, List.forall_mem_cons.mpr ⟨cd_638, List.forall_mem_cons.mpr ⟨cd_639, List.forall_mem_cons.mpr ⟨cd_640, List.forall_mem_cons.mpr ⟨cd_642, List.forall_mem_cons.mpr ⟨cd_643, List.forall_mem_cons.mpr ⟨cd_644, List.forall_mem_cons.mpr ⟨cd_645, List.forall_mem_cons.mpr ⟨cd_646, List.forall_mem_cons.mpr ⟨cd_647, List.forall_mem_cons.mpr ⟨cd_781, List.forall_mem_cons.mpr ⟨cd_790, List.forall_mem_cons.mpr ⟨cd_791, List.forall_mem_cons.mpr ⟨cd_792, List.forall_mem_cons.mpr ⟨cd_793, List.forall_mem_cons.mpr ⟨cd_794, List.forall_mem_cons.mpr ⟨cd_795, List.forall_mem_cons.mpr ⟨cd_796, List.forall_mem_cons.mpr ⟨cd_797, List.forall_mem_cons.mpr ⟨cd_798, List.forall_mem_cons.mpr ⟨cd_800, List.forall_mem_cons.mpr ⟨cd_801, List.forall_mem_cons.mpr ⟨cd_802, List.forall_mem_cons.mpr ⟨cd_803, List.forall_mem_cons.mpr ⟨cd_804, List.forall_mem_cons.mpr ⟨cd_805, List.forall_mem_cons.mpr ⟨cd_1017, List.forall_mem_cons.mpr ⟨cd_1090, List.forall_mem_cons.mpr ⟨cd_1181, List.forall_mem_cons.mpr ⟨cd_1182, List.forall_mem_cons.mpr ⟨cd_1183, List.forall_mem_cons.mpr ⟨cd_1184, List.forall_mem_cons.mpr ⟨cd_1513, List.forall_mem_cons.mpr ⟨cd_1514, List.forall_mem_cons.mpr ⟨cd_1515, List.forall_mem_cons.mpr ⟨cd_1516, List.forall_mem_cons.mpr ⟨cd_1517, List.forall_mem_cons.mpr ⟨cd_1518, List.forall_mem_cons.mpr ⟨cd_1519, List.forall_mem_cons.mpr ⟨cd_1520, List.forall_mem_cons.mpr ⟨cd_1521, List.forall_mem_cons.mpr ⟨cd_1522, List.forall_mem_cons.mpr ⟨cd_1523, List.forall_mem_cons.mpr ⟨cd_1524, List.forall_mem_cons.mpr ⟨cd_1525, List.forall_mem_cons.mpr ⟨cd_1526, List.forall_mem_cons.mpr ⟨cd_1527, List.forall_mem_cons.mpr ⟨cd_1528, List.forall_mem_cons.mpr ⟨cd_1529, fun _ h => absurd h List.not_mem_nil⟩⟩⟩⟩⟩⟩⟩⟩⟩⟩⟩⟩⟩⟩⟩⟩⟩⟩⟩⟩⟩⟩⟩⟩⟩⟩⟩⟩⟩⟩⟩⟩⟩⟩⟩⟩⟩⟩⟩⟩⟩⟩⟩⟩⟩⟩⟩⟩⟩⟩⟩⟩⟩⟩⟩⟩⟩⟩⟩⟩⟩⟩⟩⟩⟩⟩⟩⟩⟩⟩⟩⟩⟩⟩⟩⟩⟩⟩⟩⟩⟩⟩⟩⟩⟩⟩⟩⟩⟩⟩⟩⟩⟩⟩⟩⟩⟩⟩⟩⟩⟩⟩⟩⟩⟩⟩⟩⟩⟩⟩⟩⟩⟩⟩⟩⟩⟩⟩⟩⟩⟩⟩⟩⟩⟩⟩⟩⟩⟩⟩⟩⟩⟩⟩⟩⟩⟩⟩⟩⟩⟩⟩⟩⟩⟩⟩⟩⟩⟩⟩⟩⟩⟩⟩⟩⟩⟩⟩⟩⟩⟩⟩⟩⟩⟩⟩⟩⟩⟩⟩⟩⟩⟩⟩⟩⟩⟩⟩⟩
set_option maxRecDepth 100000 in
theorem at_191 : ∀ w ∈ vx_atS "LeadlightHall" 191 "java/lang/IllegalArgumentException" ["java/lang/RuntimeException", "java/lang/Exception"], w ∈ am_WS ∨ w ∈ am_NW := fun w h => am_cdw w ((by decide +kernel : ∀ w ∈ vx_atS "LeadlightHall" 191 "java/lang/IllegalArgumentException" ["java/lang/RuntimeException", "java/lang/Exception"], w ∈ am_cd) w h)
set_option maxRecDepth 100000 in
theorem at_191_g {w1 w2 : Cond} (h1 : vx_ot w1 = true) (h2 : vx_ot w2 = true) : ∀ w ∈ w1 :: w2 :: vx_atS "LeadlightHall" 191 "java/lang/IllegalArgumentException" ["java/lang/RuntimeException", "java/lang/Exception"], vx_ot w = true := List.forall_mem_cons.mpr ⟨h1, List.forall_mem_cons.mpr ⟨h2, by decide +kernel⟩⟩
set_option maxRecDepth 100000 in
theorem at_96 : ∀ w ∈ vx_atS "LeadlightHall" 96 "java/lang/UnsupportedOperationException" ["java/lang/RuntimeException", "java/lang/Exception"], w ∈ am_WS ∨ w ∈ am_NW := fun w h => am_cdw w ((by decide +kernel : ∀ w ∈ vx_atS "LeadlightHall" 96 "java/lang/UnsupportedOperationException" ["java/lang/RuntimeException", "java/lang/Exception"], w ∈ am_cd) w h)
set_option maxRecDepth 100000 in
theorem at_96_g {w1 w2 : Cond} (h1 : vx_ot w1 = true) (h2 : vx_ot w2 = true) : ∀ w ∈ w1 :: w2 :: vx_atS "LeadlightHall" 96 "java/lang/UnsupportedOperationException" ["java/lang/RuntimeException", "java/lang/Exception"], vx_ot w = true := List.forall_mem_cons.mpr ⟨h1, List.forall_mem_cons.mpr ⟨h2, by decide +kernel⟩⟩
set_option maxRecDepth 100000 in
theorem at_419 : ∀ w ∈ vx_atS "LeadlightHall" 419 "java/lang/IndexOutOfBoundsException" ["java/lang/RuntimeException", "java/lang/Exception"], w ∈ am_WS ∨ w ∈ am_NW := fun w h => am_cdw w ((by decide +kernel : ∀ w ∈ vx_atS "LeadlightHall" 419 "java/lang/IndexOutOfBoundsException" ["java/lang/RuntimeException", "java/lang/Exception"], w ∈ am_cd) w h)
set_option maxRecDepth 100000 in
theorem at_419_g {w1 w2 : Cond} (h1 : vx_ot w1 = true) (h2 : vx_ot w2 = true) : ∀ w ∈ w1 :: w2 :: vx_atS "LeadlightHall" 419 "java/lang/IndexOutOfBoundsException" ["java/lang/RuntimeException", "java/lang/Exception"], vx_ot w = true := List.forall_mem_cons.mpr ⟨h1, List.forall_mem_cons.mpr ⟨h2, by decide +kernel⟩⟩
set_option maxRecDepth 100000 in
theorem at_156 : ∀ w ∈ vx_atS "LeadlightHall" 156 "java/lang/IllegalStateException" ["java/lang/RuntimeException", "java/lang/Exception"], w ∈ am_WS ∨ w ∈ am_NW := fun w h => am_cdw w ((by decide +kernel : ∀ w ∈ vx_atS "LeadlightHall" 156 "java/lang/IllegalStateException" ["java/lang/RuntimeException", "java/lang/Exception"], w ∈ am_cd) w h)
set_option maxRecDepth 100000 in
theorem at_156_g {w1 w2 : Cond} (h1 : vx_ot w1 = true) (h2 : vx_ot w2 = true) : ∀ w ∈ w1 :: w2 :: vx_atS "LeadlightHall" 156 "java/lang/IllegalStateException" ["java/lang/RuntimeException", "java/lang/Exception"], vx_ot w = true := List.forall_mem_cons.mpr ⟨h1, List.forall_mem_cons.mpr ⟨h2, by decide +kernel⟩⟩
set_option maxRecDepth 100000 in
theorem at_406 : ∀ w ∈ vn_atS "LeadlightHall" 406 "java/util/NoSuchElementException" ["java/lang/RuntimeException", "java/lang/Exception"], w ∈ am_WS ∨ w ∈ am_NW := fun w h => am_cdw w ((by decide +kernel : ∀ w ∈ vn_atS "LeadlightHall" 406 "java/util/NoSuchElementException" ["java/lang/RuntimeException", "java/lang/Exception"], w ∈ am_cd) w h)
set_option maxRecDepth 100000 in
theorem at_406_g {w1 w2 : Cond} (h1 : vx_ot w1 = true) (h2 : vx_ot w2 = true) : ∀ w ∈ w1 :: w2 :: vn_atS "LeadlightHall" 406 "java/util/NoSuchElementException" ["java/lang/RuntimeException", "java/lang/Exception"], vx_ot w = true := List.forall_mem_cons.mpr ⟨h1, List.forall_mem_cons.mpr ⟨h2, by decide +kernel⟩⟩
theorem oi_inst : Cond.instanceMethod Lib.objectInit ∈ am_WS := am_in (am_tb1 (List.mem_of_getElem? (i := 32) rfl)) (by decide +kernel)
theorem oi_code : Cond.code Lib.objectInit ⟨#[0xb1]⟩ 1 none ∈ am_WS := am_in (am_tb1 (List.mem_of_getElem? (i := 33) rfl)) (by decide +kernel)
theorem cm_max : Cond.code Lib.Math.max.name Lib.Math.max.code 2 (some .int) ∈ am_WS := am_in (am_tb2 (List.mem_of_getElem? (i := 44) rfl)) (by decide +kernel)
theorem cm_min : Cond.code Lib.Math.min.name Lib.Math.min.code 2 (some .int) ∈ am_WS := am_in (am_tb6 (List.mem_of_getElem? (i := 49) rfl)) (by decide +kernel)
theorem cm_abs : Cond.code Lib.Math.abs.name Lib.Math.abs.code 1 (some .int) ∈ am_WS := am_in (am_tb4 (List.mem_of_getElem? (i := 224) rfl)) (by decide +kernel)
