set_option maxRecDepth 100000 in
theorem wn_110 : (Jvm.Cond.methodLinkNest "LeadlightHall$Pane" (37 : Nat) yX6_init "LeadlightHall") ∈ am_NW := List.mem_filter.mpr ⟨List.mem_of_getElem? (i := 110) (by decide +kernel), rfl⟩
set_option maxRecDepth 100000 in
theorem wn_112 : (Jvm.Cond.fieldLinkNest "LeadlightHall" (206 : Nat) "LeadlightHall$Pane" "wantedColour" "I" "LeadlightHall") ∈ am_NW := List.mem_filter.mpr ⟨List.mem_of_getElem? (i := 112) (by decide +kernel), rfl⟩
set_option maxRecDepth 100000 in
theorem wn_114 : (Jvm.Cond.fieldLinkNest "LeadlightHall" (209 : Nat) "LeadlightHall$Pane" "wantedStreaks" "C" "LeadlightHall") ∈ am_NW := List.mem_filter.mpr ⟨List.mem_of_getElem? (i := 114) (by decide +kernel), rfl⟩
set_option maxRecDepth 100000 in
theorem wn_116 : (Jvm.Cond.fieldLinkNest "LeadlightHall" (247 : Nat) "LeadlightHall$Pane" "state" "C" "LeadlightHall") ∈ am_NW := List.mem_filter.mpr ⟨List.mem_of_getElem? (i := 116) (by decide +kernel), rfl⟩
set_option maxRecDepth 100000 in
theorem wn_118 : (Jvm.Cond.fieldLinkNest "LeadlightHall" (253 : Nat) "LeadlightHall$Pane" "colour" "I" "LeadlightHall") ∈ am_NW := List.mem_filter.mpr ⟨List.mem_of_getElem? (i := 118) (by decide +kernel), rfl⟩
set_option maxRecDepth 100000 in
theorem wn_120 : (Jvm.Cond.fieldLinkNest "LeadlightHall" (376 : Nat) "LeadlightHall$Pane" "year" "I" "LeadlightHall") ∈ am_NW := List.mem_filter.mpr ⟨List.mem_of_getElem? (i := 120) (by decide +kernel), rfl⟩
set_option maxRecDepth 100000 in
theorem wn_122 : (Jvm.Cond.fieldLinkNest "LeadlightHall" (262 : Nat) "LeadlightHall$Pane" "paint" "LLeadlightHall$Paint;" "LeadlightHall") ∈ am_NW := List.mem_filter.mpr ⟨List.mem_of_getElem? (i := 122) (by decide +kernel), rfl⟩
set_option maxRecDepth 100000 in
theorem wn_124 : (Jvm.Cond.fieldLinkNest "LeadlightHall" (372 : Nat) "LeadlightHall$Pane" "leadYears" "LLeadlightHall$YearSet;" "LeadlightHall") ∈ am_NW := List.mem_filter.mpr ⟨List.mem_of_getElem? (i := 124) (by decide +kernel), rfl⟩
set_option maxRecDepth 100000 in
theorem wn_141 : (Jvm.Cond.methodLinkNest "LeadlightHall" (83 : Nat) yX4_init "LeadlightHall") ∈ am_NW := List.mem_filter.mpr ⟨List.mem_of_getElem? (i := 141) (by decide +kernel), rfl⟩
set_option maxRecDepth 100000 in
theorem wn_146 : (Jvm.Cond.fieldLinkNest "LeadlightHall$Pane" (42 : Nat) "LeadlightHall$Sheet" "colour" "I" "LeadlightHall") ∈ am_NW := List.mem_filter.mpr ⟨List.mem_of_getElem? (i := 146) (by decide +kernel), rfl⟩
set_option maxRecDepth 100000 in
theorem wn_147 : (Jvm.Cond.fieldLinkNest "LeadlightHall" (240 : Nat) "LeadlightHall$Sheet" "colour" "I" "LeadlightHall") ∈ am_NW := List.mem_filter.mpr ⟨List.mem_of_getElem? (i := 147) (by decide +kernel), rfl⟩
set_option maxRecDepth 100000 in
theorem wn_224 : (Jvm.Cond.methodLinkNest "LeadlightHall$Wall" (15 : Nat) yX7_isInside "LeadlightHall") ∈ am_NW := List.mem_filter.mpr ⟨List.mem_of_getElem? (i := 224) (by decide +kernel), rfl⟩
set_option maxRecDepth 100000 in
theorem wn_305 : (Jvm.Cond.methodLinkNest "LeadlightHall$YearSet" (15 : Nat) yX7_isWithin "LeadlightHall") ∈ am_NW := List.mem_filter.mpr ⟨List.mem_of_getElem? (i := 305) (by decide +kernel), rfl⟩
set_option maxRecDepth 100000 in
theorem wn_371 : (Jvm.Cond.methodLinkNest "LeadlightHall$Shape" (18 : Nat) yX7_isInside "LeadlightHall") ∈ am_NW := List.mem_filter.mpr ⟨List.mem_of_getElem? (i := 371) (by decide +kernel), rfl⟩
set_option maxRecDepth 100000 in
theorem wn_51 : (Jvm.Cond.methodLinkNest "LeadlightHall" (30 : Nat) yX0_init "LeadlightHall") ∈ am_NW := List.mem_filter.mpr ⟨List.mem_of_getElem? (i := 51) (by decide +kernel), rfl⟩
set_option maxRecDepth 100000 in
theorem wn_57 : (Jvm.Cond.fieldLinkNest "LeadlightHall" (333 : Nat) "LeadlightHall$Frame" "profile" "I" "LeadlightHall") ∈ am_NW := List.mem_filter.mpr ⟨List.mem_of_getElem? (i := 57) (by decide +kernel), rfl⟩
set_option maxRecDepth 100000 in
theorem wn_59 : (Jvm.Cond.fieldLinkNest "LeadlightHall" (338 : Nat) "LeadlightHall$Frame" "wind" "I" "LeadlightHall") ∈ am_NW := List.mem_filter.mpr ⟨List.mem_of_getElem? (i := 59) (by decide +kernel), rfl⟩
set_option maxRecDepth 100000 in
theorem wn_69 : (Jvm.Cond.methodLinkNest "LeadlightHall" (60 : Nat) yX3_init "LeadlightHall") ∈ am_NW := List.mem_filter.mpr ⟨List.mem_of_getElem? (i := 69) (by decide +kernel), rfl⟩
set_option maxRecDepth 100000 in
theorem wn_82 : (Jvm.Cond.methodLinkNest "LeadlightHall" (77 : Nat) yX6_init "LeadlightHall") ∈ am_NW := List.mem_filter.mpr ⟨List.mem_of_getElem? (i := 82) (by decide +kernel), rfl⟩
set_option maxRecDepth 100000 in
theorem wn_92 : (Jvm.Cond.methodLinkNest "LeadlightHall" (82 : Nat) yX2_init "LeadlightHall") ∈ am_NW := List.mem_filter.mpr ⟨List.mem_of_getElem? (i := 92) (by decide +kernel), rfl⟩
set_option maxRecDepth 100000 in
theorem wn_98 : (Jvm.Cond.methodLinkNest "LeadlightHall$Pane" (30 : Nat) yX1_init "LeadlightHall") ∈ am_NW := List.mem_filter.mpr ⟨List.mem_of_getElem? (i := 98) (by decide +kernel), rfl⟩
set_option maxRecDepth 100000 in
theorem wd_1 : (Jvm.Cond.initialized "LeadlightHall") ∈ am_WS := am_in (am_intb (List.mem_of_getElem? (i := 1) (by decide +kernel))) (by decide +kernel)
set_option maxRecDepth 100000 in
theorem wd_100 : (Jvm.Cond.code yX1_init prog_3_method_1_code (1 : Nat) (Option.none : Option Jvm.ClassFile.FieldType)) ∈ am_WS := am_in (am_intb (List.mem_of_getElem? (i := 100) (by decide +kernel))) (by decide +kernel)
set_option maxRecDepth 100000 in
theorem wd_1003 : (Jvm.Cond.code yX7_litShare prog_1_method_42_code (4 : Nat) (Option.some Jvm.ClassFile.FieldType.float)) ∈ am_WS := am_in (am_intb (List.mem_of_getElem? (i := 1003) (by decide +kernel))) (by decide +kernel)
set_option maxRecDepth 100000 in
theorem wd_101 : (Jvm.Cond.methodLink "LeadlightHall$Paint" (1 : Nat) ({ cls := "java/lang/Object", name := "<init>", desc := "()V" } : Jvm.MethodName)) ∈ am_WS := am_in (am_intb (List.mem_of_getElem? (i := 101) (by decide +kernel))) (by decide +kernel)
set_option maxRecDepth 100000 in
theorem wd_1010 : (Jvm.Cond.code yX7_meanCells prog_1_method_43_code (3 : Nat) (Option.some Jvm.ClassFile.FieldType.double)) ∈ am_WS := am_in (am_intb (List.mem_of_getElem? (i := 1010) (by decide +kernel))) (by decide +kernel)
set_option maxRecDepth 100000 in
theorem wd_102 : (Jvm.Cond.fieldLink "LeadlightHall$Paint" (9 : Nat) "LeadlightHall$Paint" "raw" "[I") ∈ am_WS := am_in (am_intb (List.mem_of_getElem? (i := 102) (by decide +kernel))) (by decide +kernel)
set_option maxRecDepth 100000 in
theorem wd_103 : (Jvm.Cond.fieldLink "LeadlightHall$Paint" (13 : Nat) "LeadlightHall$Paint" "fixed" "[I") ∈ am_WS := am_in (am_intb (List.mem_of_getElem? (i := 103) (by decide +kernel))) (by decide +kernel)
set_option maxRecDepth 100000 in
theorem wd_109 : (Jvm.Cond.classLink "LeadlightHall$Pane" (35 : Nat) "LeadlightHall$YearSet") ∈ am_WS := am_in (am_intb (List.mem_of_getElem? (i := 109) (by decide +kernel))) (by decide +kernel)
set_option maxRecDepth 100000 in
theorem wd_111 : (Jvm.Cond.fieldLink "LeadlightHall$Pane" (9 : Nat) "LeadlightHall$Pane" "wantedColour" "I") ∈ am_WS := am_in (am_intb (List.mem_of_getElem? (i := 111) (by decide +kernel))) (by decide +kernel)
set_option maxRecDepth 100000 in
theorem wd_113 : (Jvm.Cond.fieldLink "LeadlightHall$Pane" (15 : Nat) "LeadlightHall$Pane" "wantedStreaks" "C") ∈ am_WS := am_in (am_intb (List.mem_of_getElem? (i := 113) (by decide +kernel))) (by decide +kernel)
set_option maxRecDepth 100000 in
theorem wd_115 : (Jvm.Cond.fieldLink "LeadlightHall$Pane" (19 : Nat) "LeadlightHall$Pane" "state" "C") ∈ am_WS := am_in (am_intb (List.mem_of_getElem? (i := 115) (by decide +kernel))) (by decide +kernel)
set_option maxRecDepth 100000 in
theorem wd_117 : (Jvm.Cond.fieldLink "LeadlightHall$Pane" (22 : Nat) "LeadlightHall$Pane" "colour" "I") ∈ am_WS := am_in (am_intb (List.mem_of_getElem? (i := 117) (by decide +kernel))) (by decide +kernel)
set_option maxRecDepth 100000 in
theorem wd_119 : (Jvm.Cond.fieldLink "LeadlightHall$Pane" (25 : Nat) "LeadlightHall$Pane" "year" "I") ∈ am_WS := am_in (am_intb (List.mem_of_getElem? (i := 119) (by decide +kernel))) (by decide +kernel)
set_option maxRecDepth 100000 in
theorem wd_121 : (Jvm.Cond.fieldLink "LeadlightHall$Pane" (31 : Nat) "LeadlightHall$Pane" "paint" "LLeadlightHall$Paint;") ∈ am_WS := am_in (am_intb (List.mem_of_getElem? (i := 121) (by decide +kernel))) (by decide +kernel)
set_option maxRecDepth 100000 in
theorem wd_123 : (Jvm.Cond.fieldLink "LeadlightHall$Pane" (38 : Nat) "LeadlightHall$Pane" "leadYears" "LLeadlightHall$YearSet;") ∈ am_WS := am_in (am_intb (List.mem_of_getElem? (i := 123) (by decide +kernel))) (by decide +kernel)
set_option maxRecDepth 100000 in
theorem wd_13 : (Jvm.Cond.initialized "java/lang/IllegalArgumentException") ∈ am_WS := am_in (am_intb (List.mem_of_getElem? (i := 13) (by decide +kernel))) (by decide +kernel)
set_option maxRecDepth 100000 in
theorem wd_14 : (Jvm.Cond.initialized "java/lang/UnsupportedOperationException") ∈ am_WS := am_in (am_intb (List.mem_of_getElem? (i := 14) (by decide +kernel))) (by decide +kernel)
set_option maxRecDepth 100000 in
theorem wd_140 : (Jvm.Cond.instantiable "LeadlightHall$Sheet" (5 : Nat)) ∈ am_WS := am_in (am_intb (List.mem_of_getElem? (i := 140) (by decide +kernel))) (by decide +kernel)
set_option maxRecDepth 100000 in
theorem wd_142 : (Jvm.Cond.instanceMethod yX4_init) ∈ am_WS := am_in (am_intb (List.mem_of_getElem? (i := 142) (by decide +kernel))) (by decide +kernel)
set_option maxRecDepth 100000 in
theorem wd_143 : (Jvm.Cond.code yX4_init prog_6_method_1_code (1 : Nat) (Option.none : Option Jvm.ClassFile.FieldType)) ∈ am_WS := am_in (am_intb (List.mem_of_getElem? (i := 143) (by decide +kernel))) (by decide +kernel)
set_option maxRecDepth 100000 in
theorem wd_144 : (Jvm.Cond.methodLink "LeadlightHall$Sheet" (3 : Nat) ({ cls := "java/lang/Object", name := "<init>", desc := "()V" } : Jvm.MethodName)) ∈ am_WS := am_in (am_intb (List.mem_of_getElem? (i := 144) (by decide +kernel))) (by decide +kernel)
set_option maxRecDepth 100000 in
theorem wd_145 : (Jvm.Cond.fieldLink "LeadlightHall$Sheet" (9 : Nat) "LeadlightHall$Sheet" "colour" "I") ∈ am_WS := am_in (am_intb (List.mem_of_getElem? (i := 145) (by decide +kernel))) (by decide +kernel)
set_option maxRecDepth 100000 in
theorem wd_148 : (Jvm.Cond.fieldLink "LeadlightHall$Sheet" (15 : Nat) "LeadlightHall$Sheet" "width" "I") ∈ am_WS := am_in (am_intb (List.mem_of_getElem? (i := 148) (by decide +kernel))) (by decide +kernel)
set_option maxRecDepth 100000 in
theorem wd_149 : (Jvm.Cond.fieldLink "LeadlightHall$Sheet" (18 : Nat) "LeadlightHall$Sheet" "height" "I") ∈ am_WS := am_in (am_intb (List.mem_of_getElem? (i := 149) (by decide +kernel))) (by decide +kernel)
set_option maxRecDepth 100000 in
theorem wd_15 : (Jvm.Cond.initialized "java/lang/IndexOutOfBoundsException") ∈ am_WS := am_in (am_intb (List.mem_of_getElem? (i := 15) (by decide +kernel))) (by decide +kernel)
set_option maxRecDepth 100000 in
theorem wd_150 : (Jvm.Cond.fieldLink "LeadlightHall$Sheet" (21 : Nat) "LeadlightHall$Sheet" "streaks" "C") ∈ am_WS := am_in (am_intb (List.mem_of_getElem? (i := 150) (by decide +kernel))) (by decide +kernel)
set_option maxRecDepth 100000 in
theorem wd_151 : (Jvm.Cond.fieldLink "LeadlightHall$Sheet" (25 : Nat) "LeadlightHall$Sheet" "used" "[I") ∈ am_WS := am_in (am_intb (List.mem_of_getElem? (i := 151) (by decide +kernel))) (by decide +kernel)
set_option maxRecDepth 100000 in
theorem wd_16 : (Jvm.Cond.initialized "java/lang/Integer") ∈ am_WS := am_in (am_intb (List.mem_of_getElem? (i := 16) (by decide +kernel))) (by decide +kernel)
set_option maxRecDepth 100000 in
theorem wd_163 : (Jvm.Cond.fieldLink "LeadlightHall" (12 : Nat) "LeadlightHall" "wall" "LLeadlightHall$Wall;") ∈ am_WS := am_in (am_intb (List.mem_of_getElem? (i := 163) (by decide +kernel))) (by decide +kernel)
set_option maxRecDepth 100000 in
theorem wd_164 : (Jvm.Cond.fieldLink "LeadlightHall" (18 : Nat) "LeadlightHall" "panes" "[LLeadlightHall$Pane;") ∈ am_WS := am_in (am_intb (List.mem_of_getElem? (i := 164) (by decide +kernel))) (by decide +kernel)
set_option maxRecDepth 100000 in
theorem wd_165 : (Jvm.Cond.fieldLink "LeadlightHall" (24 : Nat) "LeadlightHall" "sheets" "[LLeadlightHall$Sheet;") ∈ am_WS := am_in (am_intb (List.mem_of_getElem? (i := 165) (by decide +kernel))) (by decide +kernel)
set_option maxRecDepth 100000 in
theorem wd_166 : (Jvm.Cond.fieldLink "LeadlightHall" (31 : Nat) "LeadlightHall" "frame" "LLeadlightHall$Frame;") ∈ am_WS := am_in (am_intb (List.mem_of_getElem? (i := 166) (by decide +kernel))) (by decide +kernel)
set_option maxRecDepth 100000 in
theorem wd_167 : (Jvm.Cond.fieldLink "LeadlightHall" (35 : Nat) "LeadlightHall" "sheetCount" "I") ∈ am_WS := am_in (am_intb (List.mem_of_getElem? (i := 167) (by decide +kernel))) (by decide +kernel)
set_option maxRecDepth 100000 in
theorem wd_168 : (Jvm.Cond.fieldLink "LeadlightHall" (39 : Nat) "LeadlightHall" "cellsTaken" "I") ∈ am_WS := am_in (am_intb (List.mem_of_getElem? (i := 168) (by decide +kernel))) (by decide +kernel)
set_option maxRecDepth 100000 in
theorem wd_169 : (Jvm.Cond.fieldLink "LeadlightHall" (42 : Nat) "LeadlightHall" "z" "I") ∈ am_WS := am_in (am_intb (List.mem_of_getElem? (i := 169) (by decide +kernel))) (by decide +kernel)
set_option maxRecDepth 100000 in
theorem wd_17 : (Jvm.Cond.initialized "java/lang/Math") ∈ am_WS := am_in (am_intb (List.mem_of_getElem? (i := 17) (by decide +kernel))) (by decide +kernel)
set_option maxRecDepth 100000 in
theorem wd_170 : (Jvm.Cond.fieldLink "LeadlightHall" (45 : Nat) "LeadlightHall" "isSoldered" "Z") ∈ am_WS := am_in (am_intb (List.mem_of_getElem? (i := 170) (by decide +kernel))) (by decide +kernel)
set_option maxRecDepth 100000 in
theorem wd_171 : (Jvm.Cond.fieldLink "LeadlightHall" (49 : Nat) "LeadlightHall" "upYear" "I") ∈ am_WS := am_in (am_intb (List.mem_of_getElem? (i := 171) (by decide +kernel))) (by decide +kernel)
set_option maxRecDepth 100000 in
theorem wd_172 : (Jvm.Cond.fieldLink "LeadlightHall" (52 : Nat) "LeadlightHall" "now" "I") ∈ am_WS := am_in (am_intb (List.mem_of_getElem? (i := 172) (by decide +kernel))) (by decide +kernel)
set_option maxRecDepth 100000 in
theorem wd_173 : (Jvm.Cond.fieldLink "LeadlightHall" (55 : Nat) "LeadlightHall" "mends" "I") ∈ am_WS := am_in (am_intb (List.mem_of_getElem? (i := 173) (by decide +kernel))) (by decide +kernel)
set_option maxRecDepth 100000 in
theorem wd_174 : (Jvm.Cond.fieldLink "LeadlightHall" (61 : Nat) "LeadlightHall" "shape" "LLeadlightHall$Shape;") ∈ am_WS := am_in (am_intb (List.mem_of_getElem? (i := 174) (by decide +kernel))) (by decide +kernel)
set_option maxRecDepth 100000 in
theorem wd_175 : (Jvm.Cond.fieldLink "LeadlightHall" (65 : Nat) "LeadlightHall" "near" "LLeadlightHall$Shape;") ∈ am_WS := am_in (am_intb (List.mem_of_getElem? (i := 175) (by decide +kernel))) (by decide +kernel)
set_option maxRecDepth 100000 in
theorem wd_176 : (Jvm.Cond.fieldLink "LeadlightHall" (68 : Nat) "LeadlightHall" "far" "LLeadlightHall$Shape;") ∈ am_WS := am_in (am_intb (List.mem_of_getElem? (i := 176) (by decide +kernel))) (by decide +kernel)
set_option maxRecDepth 100000 in
theorem wd_177 : (Jvm.Cond.fieldLink "LeadlightHall" (71 : Nat) "LeadlightHall" "waits" "[I") ∈ am_WS := am_in (am_intb (List.mem_of_getElem? (i := 177) (by decide +kernel))) (by decide +kernel)
set_option maxRecDepth 100000 in
theorem wd_178 : (Jvm.Cond.fieldLink "LeadlightHall" (78 : Nat) "LeadlightHall" "unlike" "LLeadlightHall$YearSet;") ∈ am_WS := am_in (am_intb (List.mem_of_getElem? (i := 178) (by decide +kernel))) (by decide +kernel)
set_option maxRecDepth 100000 in
theorem wd_18 : (Jvm.Cond.initialized "java/lang/IllegalStateException") ∈ am_WS := am_in (am_intb (List.mem_of_getElem? (i := 18) (by decide +kernel))) (by decide +kernel)
set_option maxRecDepth 100000 in
theorem wd_19 : (Jvm.Cond.initialized "java/util/NoSuchElementException") ∈ am_WS := am_in (am_intb (List.mem_of_getElem? (i := 19) (by decide +kernel))) (by decide +kernel)
set_option maxRecDepth 100000 in
theorem wd_2 : (Jvm.Cond.initialized "LeadlightHall$Wall") ∈ am_WS := am_in (am_intb (List.mem_of_getElem? (i := 2) (by decide +kernel))) (by decide +kernel)
set_option maxRecDepth 100000 in
theorem wd_215 : (Jvm.Cond.code yX7_lead prog_1_method_10_code (1 : Nat) (Option.some Jvm.ClassFile.FieldType.int)) ∈ am_WS := am_in (am_intb (List.mem_of_getElem? (i := 215) (by decide +kernel))) (by decide +kernel)
set_option maxRecDepth 100000 in
theorem wd_216 : (Jvm.Cond.methodLink "LeadlightHall" (169 : Nat) yX5_leadedSides) ∈ am_WS := am_in (am_intb (List.mem_of_getElem? (i := 216) (by decide +kernel))) (by decide +kernel)
set_option maxRecDepth 100000 in
theorem wd_217 : (Jvm.Cond.instanceMethod yX5_leadedSides) ∈ am_WS := am_in (am_intb (List.mem_of_getElem? (i := 217) (by decide +kernel))) (by decide +kernel)
set_option maxRecDepth 100000 in
theorem wd_218 : (Jvm.Cond.selects "LeadlightHall$Wall" yX5_leadedSides yX5_leadedSides) ∈ am_WS := am_in (am_intb (List.mem_of_getElem? (i := 218) (by decide +kernel))) (by decide +kernel)
set_option maxRecDepth 100000 in
theorem wd_219 : (Jvm.Cond.code yX5_leadedSides prog_7_method_8_code (4 : Nat) (Option.some Jvm.ClassFile.FieldType.int)) ∈ am_WS := am_in (am_intb (List.mem_of_getElem? (i := 219) (by decide +kernel))) (by decide +kernel)
set_option maxRecDepth 100000 in
theorem wd_220 : (Jvm.Cond.methodLink "LeadlightHall$Wall" (31 : Nat) yX5_at) ∈ am_WS := am_in (am_intb (List.mem_of_getElem? (i := 220) (by decide +kernel))) (by decide +kernel)
set_option maxRecDepth 100000 in
theorem wd_221 : (Jvm.Cond.instanceMethod yX5_at) ∈ am_WS := am_in (am_intb (List.mem_of_getElem? (i := 221) (by decide +kernel))) (by decide +kernel)
set_option maxRecDepth 100000 in
theorem wd_222 : (Jvm.Cond.selects "LeadlightHall$Wall" yX5_at yX5_at) ∈ am_WS := am_in (am_intb (List.mem_of_getElem? (i := 222) (by decide +kernel))) (by decide +kernel)
set_option maxRecDepth 100000 in
theorem wd_223 : (Jvm.Cond.code yX5_at prog_7_method_2_code (3 : Nat) (Option.some Jvm.ClassFile.FieldType.int)) ∈ am_WS := am_in (am_intb (List.mem_of_getElem? (i := 223) (by decide +kernel))) (by decide +kernel)
set_option maxRecDepth 100000 in
theorem wd_225 : (Jvm.Cond.static yX7_isInside) ∈ am_WS := am_in (am_intb (List.mem_of_getElem? (i := 225) (by decide +kernel))) (by decide +kernel)
set_option maxRecDepth 100000 in
theorem wd_226 : (Jvm.Cond.code yX7_isInside prog_1_method_46_code (2 : Nat) (Option.some Jvm.ClassFile.FieldType.boolean)) ∈ am_WS := am_in (am_intb (List.mem_of_getElem? (i := 226) (by decide +kernel))) (by decide +kernel)
set_option maxRecDepth 100000 in
theorem wd_227 : (Jvm.Cond.methodLink "LeadlightHall$Wall" (39 : Nat) yX5_leadBetween) ∈ am_WS := am_in (am_intb (List.mem_of_getElem? (i := 227) (by decide +kernel))) (by decide +kernel)
set_option maxRecDepth 100000 in
theorem wd_228 : (Jvm.Cond.static yX5_leadBetween) ∈ am_WS := am_in (am_intb (List.mem_of_getElem? (i := 228) (by decide +kernel))) (by decide +kernel)
set_option maxRecDepth 100000 in
theorem wd_229 : (Jvm.Cond.code yX5_leadBetween prog_7_method_12_code (2 : Nat) (Option.some Jvm.ClassFile.FieldType.int)) ∈ am_WS := am_in (am_intb (List.mem_of_getElem? (i := 229) (by decide +kernel))) (by decide +kernel)
set_option maxRecDepth 100000 in
theorem wd_233 : (Jvm.Cond.code yX7_joints prog_1_method_11_code (1 : Nat) (Option.some Jvm.ClassFile.FieldType.int)) ∈ am_WS := am_in (am_intb (List.mem_of_getElem? (i := 233) (by decide +kernel))) (by decide +kernel)
set_option maxRecDepth 100000 in
theorem wd_234 : (Jvm.Cond.methodLink "LeadlightHall" (172 : Nat) yX5_meetingPoints) ∈ am_WS := am_in (am_intb (List.mem_of_getElem? (i := 234) (by decide +kernel))) (by decide +kernel)
set_option maxRecDepth 100000 in
theorem wd_235 : (Jvm.Cond.instanceMethod yX5_meetingPoints) ∈ am_WS := am_in (am_intb (List.mem_of_getElem? (i := 235) (by decide +kernel))) (by decide +kernel)
set_option maxRecDepth 100000 in
theorem wd_236 : (Jvm.Cond.selects "LeadlightHall$Wall" yX5_meetingPoints yX5_meetingPoints) ∈ am_WS := am_in (am_intb (List.mem_of_getElem? (i := 236) (by decide +kernel))) (by decide +kernel)
set_option maxRecDepth 100000 in
theorem wd_237 : (Jvm.Cond.code yX5_meetingPoints prog_7_method_9_code (5 : Nat) (Option.some Jvm.ClassFile.FieldType.int)) ∈ am_WS := am_in (am_intb (List.mem_of_getElem? (i := 237) (by decide +kernel))) (by decide +kernel)
set_option maxRecDepth 100000 in
theorem wd_241 : (Jvm.Cond.code yX7_isOrderly prog_1_method_22_code (5 : Nat) (Option.some Jvm.ClassFile.FieldType.boolean)) ∈ am_WS := am_in (am_intb (List.mem_of_getElem? (i := 241) (by decide +kernel))) (by decide +kernel)
set_option maxRecDepth 100000 in
theorem wd_242 : (Jvm.Cond.methodLink "LeadlightHall" (120 : Nat) yX5_cellsOf) ∈ am_WS := am_in (am_intb (List.mem_of_getElem? (i := 242) (by decide +kernel))) (by decide +kernel)
set_option maxRecDepth 100000 in
theorem wd_243 : (Jvm.Cond.instanceMethod yX5_cellsOf) ∈ am_WS := am_in (am_intb (List.mem_of_getElem? (i := 243) (by decide +kernel))) (by decide +kernel)
set_option maxRecDepth 100000 in
theorem wd_244 : (Jvm.Cond.selects "LeadlightHall$Wall" yX5_cellsOf yX5_cellsOf) ∈ am_WS := am_in (am_intb (List.mem_of_getElem? (i := 244) (by decide +kernel))) (by decide +kernel)
set_option maxRecDepth 100000 in
theorem wd_245 : (Jvm.Cond.code yX5_cellsOf prog_7_method_5_code (4 : Nat) (Option.some Jvm.ClassFile.FieldType.int)) ∈ am_WS := am_in (am_intb (List.mem_of_getElem? (i := 245) (by decide +kernel))) (by decide +kernel)
set_option maxRecDepth 100000 in
theorem wd_246 : (Jvm.Cond.methodLink "LeadlightHall" (305 : Nat) yX5_waitsInto) ∈ am_WS := am_in (am_intb (List.mem_of_getElem? (i := 246) (by decide +kernel))) (by decide +kernel)
set_option maxRecDepth 100000 in
theorem wd_247 : (Jvm.Cond.instanceMethod yX5_waitsInto) ∈ am_WS := am_in (am_intb (List.mem_of_getElem? (i := 247) (by decide +kernel))) (by decide +kernel)
set_option maxRecDepth 100000 in
theorem wd_248 : (Jvm.Cond.selects "LeadlightHall$Wall" yX5_waitsInto yX5_waitsInto) ∈ am_WS := am_in (am_intb (List.mem_of_getElem? (i := 248) (by decide +kernel))) (by decide +kernel)
set_option maxRecDepth 100000 in
theorem wd_249 : (Jvm.Cond.code yX5_waitsInto prog_7_method_10_code (5 : Nat) (Option.none : Option Jvm.ClassFile.FieldType)) ∈ am_WS := am_in (am_intb (List.mem_of_getElem? (i := 249) (by decide +kernel))) (by decide +kernel)
set_option maxRecDepth 100000 in
theorem wd_25 : (Jvm.Cond.initialized "java/lang/Long") ∈ am_WS := am_in (am_intb (List.mem_of_getElem? (i := 25) (by decide +kernel))) (by decide +kernel)
set_option maxRecDepth 100000 in
theorem wd_250 : (Jvm.Cond.methodLink "LeadlightHall$Wall" (42 : Nat) yX5_bitOf) ∈ am_WS := am_in (am_intb (List.mem_of_getElem? (i := 250) (by decide +kernel))) (by decide +kernel)
set_option maxRecDepth 100000 in
theorem wd_251 : (Jvm.Cond.static yX5_bitOf) ∈ am_WS := am_in (am_intb (List.mem_of_getElem? (i := 251) (by decide +kernel))) (by decide +kernel)
set_option maxRecDepth 100000 in
theorem wd_252 : (Jvm.Cond.code yX5_bitOf prog_7_method_11_code (2 : Nat) (Option.some Jvm.ClassFile.FieldType.int)) ∈ am_WS := am_in (am_intb (List.mem_of_getElem? (i := 252) (by decide +kernel))) (by decide +kernel)
set_option maxRecDepth 100000 in
theorem wd_253 : (Jvm.Cond.constant "LeadlightHall$Wall" (45 : Nat) (1073741824 : Int32)) ∈ am_WS := am_in (am_intb (List.mem_of_getElem? (i := 253) (by decide +kernel))) (by decide +kernel)
set_option maxRecDepth 100000 in
theorem wd_254 : (Jvm.Cond.methodLink "LeadlightHall" (309 : Nat) yX5_piecesWithCells) ∈ am_WS := am_in (am_intb (List.mem_of_getElem? (i := 254) (by decide +kernel))) (by decide +kernel)
set_option maxRecDepth 100000 in
theorem wd_255 : (Jvm.Cond.instanceMethod yX5_piecesWithCells) ∈ am_WS := am_in (am_intb (List.mem_of_getElem? (i := 255) (by decide +kernel))) (by decide +kernel)
set_option maxRecDepth 100000 in
theorem wd_256 : (Jvm.Cond.selects "LeadlightHall$Wall" yX5_piecesWithCells yX5_piecesWithCells) ∈ am_WS := am_in (am_intb (List.mem_of_getElem? (i := 256) (by decide +kernel))) (by decide +kernel)
set_option maxRecDepth 100000 in
theorem wd_257 : (Jvm.Cond.code yX5_piecesWithCells prog_7_method_6_code (3 : Nat) (Option.some Jvm.ClassFile.FieldType.int)) ∈ am_WS := am_in (am_intb (List.mem_of_getElem? (i := 257) (by decide +kernel))) (by decide +kernel)
set_option maxRecDepth 100000 in
theorem wd_258 : (Jvm.Cond.methodLink "LeadlightHall" (312 : Nat) yX7_lowestFreeOf) ∈ am_WS := am_in (am_intb (List.mem_of_getElem? (i := 258) (by decide +kernel))) (by decide +kernel)
set_option maxRecDepth 100000 in
theorem wd_260 : (Jvm.Cond.instanceMethod yX7_lowestFreeOf) ∈ am_WS := am_in (am_intb (List.mem_of_getElem? (i := 260) (by decide +kernel))) (by decide +kernel)
set_option maxRecDepth 100000 in
theorem wd_261 : (Jvm.Cond.code yX7_lowestFreeOf prog_1_method_57_code (4 : Nat) (Option.some Jvm.ClassFile.FieldType.int)) ∈ am_WS := am_in (am_intb (List.mem_of_getElem? (i := 261) (by decide +kernel))) (by decide +kernel)
set_option maxRecDepth 100000 in
theorem wd_265 : (Jvm.Cond.code yX7_isUp prog_1_method_26_code (1 : Nat) (Option.some Jvm.ClassFile.FieldType.boolean)) ∈ am_WS := am_in (am_intb (List.mem_of_getElem? (i := 265) (by decide +kernel))) (by decide +kernel)
set_option maxRecDepth 100000 in
theorem wd_269 : (Jvm.Cond.code yX7_bears prog_1_method_30_code (1 : Nat) (Option.some Jvm.ClassFile.FieldType.int)) ∈ am_WS := am_in (am_intb (List.mem_of_getElem? (i := 269) (by decide +kernel))) (by decide +kernel)
set_option maxRecDepth 100000 in
theorem wd_270 : (Jvm.Cond.methodLink "LeadlightHall" (341 : Nat) yX7_yearsUp) ∈ am_WS := am_in (am_intb (List.mem_of_getElem? (i := 270) (by decide +kernel))) (by decide +kernel)
set_option maxRecDepth 100000 in
theorem wd_272 : (Jvm.Cond.instanceMethod yX7_yearsUp) ∈ am_WS := am_in (am_intb (List.mem_of_getElem? (i := 272) (by decide +kernel))) (by decide +kernel)
set_option maxRecDepth 100000 in
theorem wd_273 : (Jvm.Cond.code yX7_yearsUp prog_1_method_55_code (1 : Nat) (Option.some Jvm.ClassFile.FieldType.int)) ∈ am_WS := am_in (am_intb (List.mem_of_getElem? (i := 273) (by decide +kernel))) (by decide +kernel)
set_option maxRecDepth 100000 in
theorem wd_274 : (Jvm.Cond.methodLink "LeadlightHall" (344 : Nat) yX0_mostBorne) ∈ am_WS := am_in (am_intb (List.mem_of_getElem? (i := 274) (by decide +kernel))) (by decide +kernel)
set_option maxRecDepth 100000 in
theorem wd_275 : (Jvm.Cond.instanceMethod yX0_mostBorne) ∈ am_WS := am_in (am_intb (List.mem_of_getElem? (i := 275) (by decide +kernel))) (by decide +kernel)
set_option maxRecDepth 100000 in
theorem wd_276 : (Jvm.Cond.selects "LeadlightHall$Frame" yX0_mostBorne yX0_mostBorne) ∈ am_WS := am_in (am_intb (List.mem_of_getElem? (i := 276) (by decide +kernel))) (by decide +kernel)
set_option maxRecDepth 100000 in
theorem wd_277 : (Jvm.Cond.code yX0_mostBorne prog_2_method_4_code (6 : Nat) (Option.some Jvm.ClassFile.FieldType.int)) ∈ am_WS := am_in (am_intb (List.mem_of_getElem? (i := 277) (by decide +kernel))) (by decide +kernel)
set_option maxRecDepth 100000 in
theorem wd_278 : (Jvm.Cond.methodLink "LeadlightHall$Frame" (21 : Nat) yX0_hasBar) ∈ am_WS := am_in (am_intb (List.mem_of_getElem? (i := 278) (by decide +kernel))) (by decide +kernel)
set_option maxRecDepth 100000 in
theorem wd_279 : (Jvm.Cond.instanceMethod yX0_hasBar) ∈ am_WS := am_in (am_intb (List.mem_of_getElem? (i := 279) (by decide +kernel))) (by decide +kernel)
set_option maxRecDepth 100000 in
theorem wd_280 : (Jvm.Cond.selects "LeadlightHall$Frame" yX0_hasBar yX0_hasBar) ∈ am_WS := am_in (am_intb (List.mem_of_getElem? (i := 280) (by decide +kernel))) (by decide +kernel)
set_option maxRecDepth 100000 in
theorem wd_281 : (Jvm.Cond.code yX0_hasBar prog_2_method_2_code (2 : Nat) (Option.some Jvm.ClassFile.FieldType.boolean)) ∈ am_WS := am_in (am_intb (List.mem_of_getElem? (i := 281) (by decide +kernel))) (by decide +kernel)
set_option maxRecDepth 100000 in
theorem wd_282 : (Jvm.Cond.methodLink "LeadlightHall$Frame" (25 : Nat) yJ9_max_7cf53) ∈ am_WS := am_in (am_intb (List.mem_of_getElem? (i := 282) (by decide +kernel))) (by decide +kernel)
set_option maxRecDepth 100000 in
theorem wd_283 : (Jvm.Cond.static yJ9_max_7cf53) ∈ am_WS := am_in (am_intb (List.mem_of_getElem? (i := 283) (by decide +kernel))) (by decide +kernel)
set_option maxRecDepth 100000 in
theorem wd_288 : (Jvm.Cond.code yX7_stands prog_1_method_31_code (1 : Nat) (Option.some Jvm.ClassFile.FieldType.boolean)) ∈ am_WS := am_in (am_intb (List.mem_of_getElem? (i := 288) (by decide +kernel))) (by decide +kernel)
set_option maxRecDepth 100000 in
theorem wd_292 : (Jvm.Cond.code yX7_hands prog_1_method_38_code (3 : Nat) (Option.some Jvm.ClassFile.FieldType.int)) ∈ am_WS := am_in (am_intb (List.mem_of_getElem? (i := 292) (by decide +kernel))) (by decide +kernel)
set_option maxRecDepth 100000 in
theorem wd_293 : (Jvm.Cond.methodLink "LeadlightHall" (383 : Nat) yX6_clear) ∈ am_WS := am_in (am_intb (List.mem_of_getElem? (i := 293) (by decide +kernel))) (by decide +kernel)
set_option maxRecDepth 100000 in
theorem wd_294 : (Jvm.Cond.instanceMethod yX6_clear) ∈ am_WS := am_in (am_intb (List.mem_of_getElem? (i := 294) (by decide +kernel))) (by decide +kernel)
set_option maxRecDepth 100000 in
theorem wd_295 : (Jvm.Cond.selects "LeadlightHall$YearSet" yX6_clear yX6_clear) ∈ am_WS := am_in (am_intb (List.mem_of_getElem? (i := 295) (by decide +kernel))) (by decide +kernel)
set_option maxRecDepth 100000 in
theorem wd_296 : (Jvm.Cond.code yX6_clear prog_8_method_2_code (2 : Nat) (Option.none : Option Jvm.ClassFile.FieldType)) ∈ am_WS := am_in (am_intb (List.mem_of_getElem? (i := 296) (by decide +kernel))) (by decide +kernel)
set_option maxRecDepth 100000 in
theorem wd_297 : (Jvm.Cond.methodLink "LeadlightHall" (111 : Nat) yX2_hasGlass) ∈ am_WS := am_in (am_intb (List.mem_of_getElem? (i := 297) (by decide +kernel))) (by decide +kernel)
set_option maxRecDepth 100000 in
theorem wd_298 : (Jvm.Cond.instanceMethod yX2_hasGlass) ∈ am_WS := am_in (am_intb (List.mem_of_getElem? (i := 298) (by decide +kernel))) (by decide +kernel)
set_option maxRecDepth 100000 in
theorem wd_299 : (Jvm.Cond.selects "LeadlightHall$Pane" yX2_hasGlass yX2_hasGlass) ∈ am_WS := am_in (am_intb (List.mem_of_getElem? (i := 299) (by decide +kernel))) (by decide +kernel)
set_option maxRecDepth 100000 in
theorem wd_3 : (Jvm.Cond.initialized "LeadlightHall$Frame") ∈ am_WS := am_in (am_intb (List.mem_of_getElem? (i := 3) (by decide +kernel))) (by decide +kernel)
set_option maxRecDepth 100000 in
theorem wd_30 : (Jvm.Cond.code yX7_init prog_1_method_1_code (2 : Nat) (Option.none : Option Jvm.ClassFile.FieldType)) ∈ am_WS := am_in (am_intb (List.mem_of_getElem? (i := 30) (by decide +kernel))) (by decide +kernel)
set_option maxRecDepth 100000 in
theorem wd_300 : (Jvm.Cond.code yX2_hasGlass prog_4_method_2_code (1 : Nat) (Option.some Jvm.ClassFile.FieldType.boolean)) ∈ am_WS := am_in (am_intb (List.mem_of_getElem? (i := 300) (by decide +kernel))) (by decide +kernel)
set_option maxRecDepth 100000 in
theorem wd_301 : (Jvm.Cond.methodLink "LeadlightHall" (375 : Nat) yX6_add) ∈ am_WS := am_in (am_intb (List.mem_of_getElem? (i := 301) (by decide +kernel))) (by decide +kernel)
set_option maxRecDepth 100000 in
theorem wd_302 : (Jvm.Cond.instanceMethod yX6_add) ∈ am_WS := am_in (am_intb (List.mem_of_getElem? (i := 302) (by decide +kernel))) (by decide +kernel)
set_option maxRecDepth 100000 in
theorem wd_303 : (Jvm.Cond.selects "LeadlightHall$YearSet" yX6_add yX6_add) ∈ am_WS := am_in (am_intb (List.mem_of_getElem? (i := 303) (by decide +kernel))) (by decide +kernel)
set_option maxRecDepth 100000 in
theorem wd_304 : (Jvm.Cond.code yX6_add prog_8_method_3_code (2 : Nat) (Option.none : Option Jvm.ClassFile.FieldType)) ∈ am_WS := am_in (am_intb (List.mem_of_getElem? (i := 304) (by decide +kernel))) (by decide +kernel)
set_option maxRecDepth 100000 in
theorem wd_306 : (Jvm.Cond.static yX7_isWithin) ∈ am_WS := am_in (am_intb (List.mem_of_getElem? (i := 306) (by decide +kernel))) (by decide +kernel)
set_option maxRecDepth 100000 in
theorem wd_307 : (Jvm.Cond.code yX7_isWithin prog_1_method_45_code (3 : Nat) (Option.some Jvm.ClassFile.FieldType.boolean)) ∈ am_WS := am_in (am_intb (List.mem_of_getElem? (i := 307) (by decide +kernel))) (by decide +kernel)
set_option maxRecDepth 100000 in
theorem wd_308 : (Jvm.Cond.methodLink "LeadlightHall" (386 : Nat) yX6_addAll) ∈ am_WS := am_in (am_intb (List.mem_of_getElem? (i := 308) (by decide +kernel))) (by decide +kernel)
set_option maxRecDepth 100000 in
theorem wd_309 : (Jvm.Cond.instanceMethod yX6_addAll) ∈ am_WS := am_in (am_intb (List.mem_of_getElem? (i := 309) (by decide +kernel))) (by decide +kernel)
set_option maxRecDepth 100000 in
theorem wd_31 : (Jvm.Cond.methodLink "LeadlightHall" (3 : Nat) ({ cls := "java/lang/Object", name := "<init>", desc := "()V" } : Jvm.MethodName)) ∈ am_WS := am_in (am_intb (List.mem_of_getElem? (i := 31) (by decide +kernel))) (by decide +kernel)
set_option maxRecDepth 100000 in
theorem wd_310 : (Jvm.Cond.selects "LeadlightHall$YearSet" yX6_addAll yX6_addAll) ∈ am_WS := am_in (am_intb (List.mem_of_getElem? (i := 310) (by decide +kernel))) (by decide +kernel)
set_option maxRecDepth 100000 in
theorem wd_311 : (Jvm.Cond.code yX6_addAll prog_8_method_4_code (3 : Nat) (Option.none : Option Jvm.ClassFile.FieldType)) ∈ am_WS := am_in (am_intb (List.mem_of_getElem? (i := 311) (by decide +kernel))) (by decide +kernel)
set_option maxRecDepth 100000 in
theorem wd_312 : (Jvm.Cond.methodLink "LeadlightHall" (390 : Nat) yX6_count) ∈ am_WS := am_in (am_intb (List.mem_of_getElem? (i := 312) (by decide +kernel))) (by decide +kernel)
set_option maxRecDepth 100000 in
theorem wd_313 : (Jvm.Cond.instanceMethod yX6_count) ∈ am_WS := am_in (am_intb (List.mem_of_getElem? (i := 313) (by decide +kernel))) (by decide +kernel)
set_option maxRecDepth 100000 in
theorem wd_314 : (Jvm.Cond.selects "LeadlightHall$YearSet" yX6_count yX6_count) ∈ am_WS := am_in (am_intb (List.mem_of_getElem? (i := 314) (by decide +kernel))) (by decide +kernel)
set_option maxRecDepth 100000 in
theorem wd_315 : (Jvm.Cond.code yX6_count prog_8_method_5_code (3 : Nat) (Option.some Jvm.ClassFile.FieldType.int)) ∈ am_WS := am_in (am_intb (List.mem_of_getElem? (i := 315) (by decide +kernel))) (by decide +kernel)
set_option maxRecDepth 100000 in
theorem wd_316 : (Jvm.Cond.methodLink "LeadlightHall$YearSet" (19 : Nat) yJ13_bitCount_95d88) ∈ am_WS := am_in (am_intb (List.mem_of_getElem? (i := 316) (by decide +kernel))) (by decide +kernel)
set_option maxRecDepth 100000 in
theorem wd_317 : (Jvm.Cond.static yJ13_bitCount_95d88) ∈ am_WS := am_in (am_intb (List.mem_of_getElem? (i := 317) (by decide +kernel))) (by decide +kernel)
set_option maxRecDepth 100000 in
theorem wd_318 : (Jvm.Cond.code yJ13_bitCount_95d88 prog_21_method_50_code (2 : Nat) (Option.some Jvm.ClassFile.FieldType.int)) ∈ am_WS := am_in (am_intb (List.mem_of_getElem? (i := 318) (by decide +kernel))) (by decide +kernel)
set_option maxRecDepth 100000 in
theorem wd_319 : (Jvm.Cond.constantLong "java/lang/Long" (314 : Nat) (6148914691236517205 : Int64)) ∈ am_WS := am_in (am_intb (List.mem_of_getElem? (i := 319) (by decide +kernel))) (by decide +kernel)
set_option maxRecDepth 100000 in
theorem wd_320 : (Jvm.Cond.constantLong "java/lang/Long" (316 : Nat) (3689348814741910323 : Int64)) ∈ am_WS := am_in (am_intb (List.mem_of_getElem? (i := 320) (by decide +kernel))) (by decide +kernel)
set_option maxRecDepth 100000 in
theorem wd_321 : (Jvm.Cond.constantLong "java/lang/Long" (318 : Nat) (1085102592571150095 : Int64)) ∈ am_WS := am_in (am_intb (List.mem_of_getElem? (i := 321) (by decide +kernel))) (by decide +kernel)
set_option maxRecDepth 100000 in
theorem wd_325 : (Jvm.Cond.code yX7_price prog_1_method_40_code (4 : Nat) (Option.some Jvm.ClassFile.FieldType.int)) ∈ am_WS := am_in (am_intb (List.mem_of_getElem? (i := 325) (by decide +kernel))) (by decide +kernel)
set_option maxRecDepth 100000 in
theorem wd_326 : (Jvm.Cond.methodLink "LeadlightHall" (299 : Nat) yX1_fixedLayers) ∈ am_WS := am_in (am_intb (List.mem_of_getElem? (i := 326) (by decide +kernel))) (by decide +kernel)
set_option maxRecDepth 100000 in
theorem wd_327 : (Jvm.Cond.instanceMethod yX1_fixedLayers) ∈ am_WS := am_in (am_intb (List.mem_of_getElem? (i := 327) (by decide +kernel))) (by decide +kernel)
set_option maxRecDepth 100000 in
theorem wd_328 : (Jvm.Cond.selects "LeadlightHall$Paint" yX1_fixedLayers yX1_fixedLayers) ∈ am_WS := am_in (am_intb (List.mem_of_getElem? (i := 328) (by decide +kernel))) (by decide +kernel)
set_option maxRecDepth 100000 in
theorem wd_329 : (Jvm.Cond.code yX1_fixedLayers prog_3_method_8_code (3 : Nat) (Option.some Jvm.ClassFile.FieldType.int)) ∈ am_WS := am_in (am_intb (List.mem_of_getElem? (i := 329) (by decide +kernel))) (by decide +kernel)
set_option maxRecDepth 100000 in
theorem wd_333 : (Jvm.Cond.code yX7_checksum prog_1_method_41_code (5 : Nat) (Option.some Jvm.ClassFile.FieldType.long)) ∈ am_WS := am_in (am_intb (List.mem_of_getElem? (i := 333) (by decide +kernel))) (by decide +kernel)
set_option maxRecDepth 100000 in
theorem wd_334 : (Jvm.Cond.constantLong "LeadlightHall" (400 : Nat) (7 : Int64)) ∈ am_WS := am_in (am_intb (List.mem_of_getElem? (i := 334) (by decide +kernel))) (by decide +kernel)
set_option maxRecDepth 100000 in
theorem wd_335 : (Jvm.Cond.constantLong "LeadlightHall" (402 : Nat) (31 : Int64)) ∈ am_WS := am_in (am_intb (List.mem_of_getElem? (i := 335) (by decide +kernel))) (by decide +kernel)
set_option maxRecDepth 100000 in
theorem wd_336 : (Jvm.Cond.methodLink "LeadlightHall" (99 : Nat) yX5_at) ∈ am_WS := am_in (am_intb (List.mem_of_getElem? (i := 336) (by decide +kernel))) (by decide +kernel)
set_option maxRecDepth 100000 in
theorem wd_34 : (Jvm.Cond.classLink "LeadlightHall" (9 : Nat) "LeadlightHall$Wall") ∈ am_WS := am_in (am_intb (List.mem_of_getElem? (i := 34) (by decide +kernel))) (by decide +kernel)
set_option maxRecDepth 100000 in
theorem wd_340 : (Jvm.Cond.code yX7_isSound prog_1_method_44_code (5 : Nat) (Option.some Jvm.ClassFile.FieldType.boolean)) ∈ am_WS := am_in (am_intb (List.mem_of_getElem? (i := 340) (by decide +kernel))) (by decide +kernel)
set_option maxRecDepth 100000 in
theorem wd_341 : (Jvm.Cond.methodLink "LeadlightHall" (409 : Nat) yX4_usedCells) ∈ am_WS := am_in (am_intb (List.mem_of_getElem? (i := 341) (by decide +kernel))) (by decide +kernel)
set_option maxRecDepth 100000 in
theorem wd_342 : (Jvm.Cond.instanceMethod yX4_usedCells) ∈ am_WS := am_in (am_intb (List.mem_of_getElem? (i := 342) (by decide +kernel))) (by decide +kernel)
set_option maxRecDepth 100000 in
theorem wd_343 : (Jvm.Cond.selects "LeadlightHall$Sheet" yX4_usedCells yX4_usedCells) ∈ am_WS := am_in (am_intb (List.mem_of_getElem? (i := 343) (by decide +kernel))) (by decide +kernel)
set_option maxRecDepth 100000 in
theorem wd_344 : (Jvm.Cond.code yX4_usedCells prog_6_method_3_code (3 : Nat) (Option.some Jvm.ClassFile.FieldType.int)) ∈ am_WS := am_in (am_intb (List.mem_of_getElem? (i := 344) (by decide +kernel))) (by decide +kernel)
set_option maxRecDepth 100000 in
theorem wd_345 : (Jvm.Cond.methodLink "LeadlightHall$Sheet" (29 : Nat) yJ6_bitCount_0f7a4) ∈ am_WS := am_in (am_intb (List.mem_of_getElem? (i := 345) (by decide +kernel))) (by decide +kernel)
set_option maxRecDepth 100000 in
theorem wd_346 : (Jvm.Cond.static yJ6_bitCount_0f7a4) ∈ am_WS := am_in (am_intb (List.mem_of_getElem? (i := 346) (by decide +kernel))) (by decide +kernel)
set_option maxRecDepth 100000 in
theorem wd_347 : (Jvm.Cond.code yJ6_bitCount_0f7a4 prog_20_method_49_code (1 : Nat) (Option.some Jvm.ClassFile.FieldType.int)) ∈ am_WS := am_in (am_intb (List.mem_of_getElem? (i := 347) (by decide +kernel))) (by decide +kernel)
set_option maxRecDepth 100000 in
theorem wd_348 : (Jvm.Cond.constant "java/lang/Integer" (265 : Nat) (1431655765 : Int32)) ∈ am_WS := am_in (am_intb (List.mem_of_getElem? (i := 348) (by decide +kernel))) (by decide +kernel)
set_option maxRecDepth 100000 in
theorem wd_349 : (Jvm.Cond.constant "java/lang/Integer" (266 : Nat) (858993459 : Int32)) ∈ am_WS := am_in (am_intb (List.mem_of_getElem? (i := 349) (by decide +kernel))) (by decide +kernel)
set_option maxRecDepth 100000 in
theorem wd_35 : (Jvm.Cond.instantiable "LeadlightHall$Wall" (1 : Nat)) ∈ am_WS := am_in (am_intb (List.mem_of_getElem? (i := 35) (by decide +kernel))) (by decide +kernel)
set_option maxRecDepth 100000 in
theorem wd_350 : (Jvm.Cond.constant "java/lang/Integer" (267 : Nat) (252645135 : Int32)) ∈ am_WS := am_in (am_intb (List.mem_of_getElem? (i := 350) (by decide +kernel))) (by decide +kernel)
set_option maxRecDepth 100000 in
theorem wd_351 : (Jvm.Cond.methodLink "LeadlightHall" (286 : Nat) yX7_panesThatAre) ∈ am_WS := am_in (am_intb (List.mem_of_getElem? (i := 351) (by decide +kernel))) (by decide +kernel)
set_option maxRecDepth 100000 in
theorem wd_353 : (Jvm.Cond.instanceMethod yX7_panesThatAre) ∈ am_WS := am_in (am_intb (List.mem_of_getElem? (i := 353) (by decide +kernel))) (by decide +kernel)
set_option maxRecDepth 100000 in
theorem wd_354 : (Jvm.Cond.code yX7_panesThatAre prog_1_method_58_code (4 : Nat) (Option.some Jvm.ClassFile.FieldType.int)) ∈ am_WS := am_in (am_intb (List.mem_of_getElem? (i := 354) (by decide +kernel))) (by decide +kernel)
set_option maxRecDepth 100000 in
theorem wd_355 : (Jvm.Cond.methodLink "LeadlightHall" (412 : Nat) yX7_isCuttable) ∈ am_WS := am_in (am_intb (List.mem_of_getElem? (i := 355) (by decide +kernel))) (by decide +kernel)
set_option maxRecDepth 100000 in
theorem wd_357 : (Jvm.Cond.instanceMethod yX7_isCuttable) ∈ am_WS := am_in (am_intb (List.mem_of_getElem? (i := 357) (by decide +kernel))) (by decide +kernel)
set_option maxRecDepth 100000 in
theorem wd_358 : (Jvm.Cond.code yX7_isCuttable prog_1_method_63_code (2 : Nat) (Option.some Jvm.ClassFile.FieldType.boolean)) ∈ am_WS := am_in (am_intb (List.mem_of_getElem? (i := 358) (by decide +kernel))) (by decide +kernel)
set_option maxRecDepth 100000 in
theorem wd_359 : (Jvm.Cond.methodLink "LeadlightHall" (128 : Nat) yX5_shapeInto) ∈ am_WS := am_in (am_intb (List.mem_of_getElem? (i := 359) (by decide +kernel))) (by decide +kernel)
set_option maxRecDepth 100000 in
theorem wd_36 : (Jvm.Cond.methodLink "LeadlightHall" (11 : Nat) yX5_init) ∈ am_WS := am_in (am_intb (List.mem_of_getElem? (i := 36) (by decide +kernel))) (by decide +kernel)
set_option maxRecDepth 100000 in
theorem wd_360 : (Jvm.Cond.instanceMethod yX5_shapeInto) ∈ am_WS := am_in (am_intb (List.mem_of_getElem? (i := 360) (by decide +kernel))) (by decide +kernel)
set_option maxRecDepth 100000 in
theorem wd_361 : (Jvm.Cond.selects "LeadlightHall$Wall" yX5_shapeInto yX5_shapeInto) ∈ am_WS := am_in (am_intb (List.mem_of_getElem? (i := 361) (by decide +kernel))) (by decide +kernel)
set_option maxRecDepth 100000 in
theorem wd_362 : (Jvm.Cond.code yX5_shapeInto prog_7_method_7_code (5 : Nat) (Option.none : Option Jvm.ClassFile.FieldType)) ∈ am_WS := am_in (am_intb (List.mem_of_getElem? (i := 362) (by decide +kernel))) (by decide +kernel)
set_option maxRecDepth 100000 in
theorem wd_363 : (Jvm.Cond.methodLink "LeadlightHall$Wall" (28 : Nat) yX3_clear) ∈ am_WS := am_in (am_intb (List.mem_of_getElem? (i := 363) (by decide +kernel))) (by decide +kernel)
set_option maxRecDepth 100000 in
theorem wd_364 : (Jvm.Cond.instanceMethod yX3_clear) ∈ am_WS := am_in (am_intb (List.mem_of_getElem? (i := 364) (by decide +kernel))) (by decide +kernel)
set_option maxRecDepth 100000 in
theorem wd_365 : (Jvm.Cond.selects "LeadlightHall$Shape" yX3_clear yX3_clear) ∈ am_WS := am_in (am_intb (List.mem_of_getElem? (i := 365) (by decide +kernel))) (by decide +kernel)
set_option maxRecDepth 100000 in
theorem wd_366 : (Jvm.Cond.code yX3_clear prog_5_method_2_code (2 : Nat) (Option.none : Option Jvm.ClassFile.FieldType)) ∈ am_WS := am_in (am_intb (List.mem_of_getElem? (i := 366) (by decide +kernel))) (by decide +kernel)
set_option maxRecDepth 100000 in
theorem wd_367 : (Jvm.Cond.methodLink "LeadlightHall$Wall" (35 : Nat) yX3_add) ∈ am_WS := am_in (am_intb (List.mem_of_getElem? (i := 367) (by decide +kernel))) (by decide +kernel)
set_option maxRecDepth 100000 in
theorem wd_368 : (Jvm.Cond.instanceMethod yX3_add) ∈ am_WS := am_in (am_intb (List.mem_of_getElem? (i := 368) (by decide +kernel))) (by decide +kernel)
set_option maxRecDepth 100000 in
theorem wd_369 : (Jvm.Cond.selects "LeadlightHall$Shape" yX3_add yX3_add) ∈ am_WS := am_in (am_intb (List.mem_of_getElem? (i := 369) (by decide +kernel))) (by decide +kernel)
set_option maxRecDepth 100000 in
theorem wd_37 : (Jvm.Cond.instanceMethod yX5_init) ∈ am_WS := am_in (am_intb (List.mem_of_getElem? (i := 37) (by decide +kernel))) (by decide +kernel)
set_option maxRecDepth 100000 in
theorem wd_370 : (Jvm.Cond.code yX3_add prog_5_method_3_code (3 : Nat) (Option.none : Option Jvm.ClassFile.FieldType)) ∈ am_WS := am_in (am_intb (List.mem_of_getElem? (i := 370) (by decide +kernel))) (by decide +kernel)
set_option maxRecDepth 100000 in
theorem wd_372 : (Jvm.Cond.methodLink "LeadlightHall" (438 : Nat) yX3_isWhole) ∈ am_WS := am_in (am_intb (List.mem_of_getElem? (i := 372) (by decide +kernel))) (by decide +kernel)
set_option maxRecDepth 100000 in
theorem wd_373 : (Jvm.Cond.instanceMethod yX3_isWhole) ∈ am_WS := am_in (am_intb (List.mem_of_getElem? (i := 373) (by decide +kernel))) (by decide +kernel)
set_option maxRecDepth 100000 in
theorem wd_374 : (Jvm.Cond.selects "LeadlightHall$Shape" yX3_isWhole yX3_isWhole) ∈ am_WS := am_in (am_intb (List.mem_of_getElem? (i := 374) (by decide +kernel))) (by decide +kernel)
set_option maxRecDepth 100000 in
theorem wd_375 : (Jvm.Cond.code yX3_isWhole prog_5_method_8_code (4 : Nat) (Option.some Jvm.ClassFile.FieldType.boolean)) ∈ am_WS := am_in (am_intb (List.mem_of_getElem? (i := 375) (by decide +kernel))) (by decide +kernel)
set_option maxRecDepth 100000 in
theorem wd_376 : (Jvm.Cond.methodLink "LeadlightHall$Shape" (42 : Nat) yX3_grow) ∈ am_WS := am_in (am_intb (List.mem_of_getElem? (i := 376) (by decide +kernel))) (by decide +kernel)
set_option maxRecDepth 100000 in
theorem wd_378 : (Jvm.Cond.instanceMethod yX3_grow) ∈ am_WS := am_in (am_intb (List.mem_of_getElem? (i := 378) (by decide +kernel))) (by decide +kernel)
set_option maxRecDepth 100000 in
theorem wd_379 : (Jvm.Cond.code yX3_grow prog_5_method_9_code (6 : Nat) (Option.some Jvm.ClassFile.FieldType.boolean)) ∈ am_WS := am_in (am_intb (List.mem_of_getElem? (i := 379) (by decide +kernel))) (by decide +kernel)
set_option maxRecDepth 100000 in
theorem wd_38 : (Jvm.Cond.code yX5_init prog_7_method_1_code (2 : Nat) (Option.none : Option Jvm.ClassFile.FieldType)) ∈ am_WS := am_in (am_intb (List.mem_of_getElem? (i := 38) (by decide +kernel))) (by decide +kernel)
set_option maxRecDepth 100000 in
theorem wd_380 : (Jvm.Cond.methodLink "LeadlightHall" (132 : Nat) yX3_innerCorners) ∈ am_WS := am_in (am_intb (List.mem_of_getElem? (i := 380) (by decide +kernel))) (by decide +kernel)
set_option maxRecDepth 100000 in
theorem wd_381 : (Jvm.Cond.instanceMethod yX3_innerCorners) ∈ am_WS := am_in (am_intb (List.mem_of_getElem? (i := 381) (by decide +kernel))) (by decide +kernel)
set_option maxRecDepth 100000 in
theorem wd_382 : (Jvm.Cond.selects "LeadlightHall$Shape" yX3_innerCorners yX3_innerCorners) ∈ am_WS := am_in (am_intb (List.mem_of_getElem? (i := 382) (by decide +kernel))) (by decide +kernel)
set_option maxRecDepth 100000 in
theorem wd_383 : (Jvm.Cond.code yX3_innerCorners prog_5_method_10_code (5 : Nat) (Option.some Jvm.ClassFile.FieldType.int)) ∈ am_WS := am_in (am_intb (List.mem_of_getElem? (i := 383) (by decide +kernel))) (by decide +kernel)
set_option maxRecDepth 100000 in
theorem wd_384 : (Jvm.Cond.methodLink "LeadlightHall$Shape" (22 : Nat) yJ6_bitCount_0f7a4) ∈ am_WS := am_in (am_intb (List.mem_of_getElem? (i := 384) (by decide +kernel))) (by decide +kernel)
set_option maxRecDepth 100000 in
theorem wd_385 : (Jvm.Cond.methodLink "LeadlightHall" (296 : Nat) yX1_rawLayers) ∈ am_WS := am_in (am_intb (List.mem_of_getElem? (i := 385) (by decide +kernel))) (by decide +kernel)
set_option maxRecDepth 100000 in
theorem wd_386 : (Jvm.Cond.instanceMethod yX1_rawLayers) ∈ am_WS := am_in (am_intb (List.mem_of_getElem? (i := 386) (by decide +kernel))) (by decide +kernel)
set_option maxRecDepth 100000 in
theorem wd_387 : (Jvm.Cond.selects "LeadlightHall$Paint" yX1_rawLayers yX1_rawLayers) ∈ am_WS := am_in (am_intb (List.mem_of_getElem? (i := 387) (by decide +kernel))) (by decide +kernel)
set_option maxRecDepth 100000 in
theorem wd_388 : (Jvm.Cond.code yX1_rawLayers prog_3_method_7_code (3 : Nat) (Option.some Jvm.ClassFile.FieldType.int)) ∈ am_WS := am_in (am_intb (List.mem_of_getElem? (i := 388) (by decide +kernel))) (by decide +kernel)
set_option maxRecDepth 100000 in
theorem wd_39 : (Jvm.Cond.methodLink "LeadlightHall$Wall" (3 : Nat) ({ cls := "java/lang/Object", name := "<init>", desc := "()V" } : Jvm.MethodName)) ∈ am_WS := am_in (am_intb (List.mem_of_getElem? (i := 39) (by decide +kernel))) (by decide +kernel)
set_option maxRecDepth 100000 in
theorem wd_397 : (Jvm.Cond.code yX7_open prog_1_method_2_code (10 : Nat) (Option.some Jvm.ClassFile.FieldType.int)) ∈ am_WS := am_in (am_intb (List.mem_of_getElem? (i := 397) (by decide +kernel))) (by decide +kernel)
set_option maxRecDepth 100000 in
theorem wd_398 : (Jvm.Cond.methodLink "LeadlightHall" (84 : Nat) yX7_requireCells) ∈ am_WS := am_in (am_intb (List.mem_of_getElem? (i := 398) (by decide +kernel))) (by decide +kernel)
set_option maxRecDepth 100000 in
theorem wd_399 : (Jvm.Cond.static yX7_requireCells) ∈ am_WS := am_in (am_intb (List.mem_of_getElem? (i := 399) (by decide +kernel))) (by decide +kernel)
set_option maxRecDepth 100000 in
theorem wd_4 : (Jvm.Cond.initialized "LeadlightHall$Shape") ∈ am_WS := am_in (am_intb (List.mem_of_getElem? (i := 4) (by decide +kernel))) (by decide +kernel)
set_option maxRecDepth 100000 in
theorem wd_40 : (Jvm.Cond.fieldLink "LeadlightHall$Wall" (9 : Nat) "LeadlightHall$Wall" "cells" "[I") ∈ am_WS := am_in (am_intb (List.mem_of_getElem? (i := 40) (by decide +kernel))) (by decide +kernel)
set_option maxRecDepth 100000 in
theorem wd_400 : (Jvm.Cond.code yX7_requireCells prog_1_method_53_code (4 : Nat) (Option.none : Option Jvm.ClassFile.FieldType)) ∈ am_WS := am_in (am_intb (List.mem_of_getElem? (i := 400) (by decide +kernel))) (by decide +kernel)
set_option maxRecDepth 100000 in
theorem wd_401 : (Jvm.Cond.methodLink "LeadlightHall" (420 : Nat) yX7_isInside) ∈ am_WS := am_in (am_intb (List.mem_of_getElem? (i := 401) (by decide +kernel))) (by decide +kernel)
set_option maxRecDepth 100000 in
theorem wd_402 : (Jvm.Cond.classLink "LeadlightHall" (187 : Nat) "java/lang/IllegalArgumentException") ∈ am_WS := am_in (am_intb (List.mem_of_getElem? (i := 402) (by decide +kernel))) (by decide +kernel)
set_option maxRecDepth 100000 in
theorem wd_44 : (Jvm.Cond.arrayClass Jvm.ClassFile.FieldType.int) ∈ am_WS := am_in (am_intb (List.mem_of_getElem? (i := 44) (by decide +kernel))) (by decide +kernel)
set_option maxRecDepth 100000 in
theorem wd_45 : (Jvm.Cond.classLink "LeadlightHall" (16 : Nat) "LeadlightHall$Pane") ∈ am_WS := am_in (am_intb (List.mem_of_getElem? (i := 45) (by decide +kernel))) (by decide +kernel)
set_option maxRecDepth 100000 in
theorem wd_47 : (Jvm.Cond.classLink "LeadlightHall" (22 : Nat) "LeadlightHall$Sheet") ∈ am_WS := am_in (am_intb (List.mem_of_getElem? (i := 47) (by decide +kernel))) (by decide +kernel)
set_option maxRecDepth 100000 in
theorem wd_472 : (Jvm.Cond.methodLink "LeadlightHall" (88 : Nat) yX7_isGlassWithin) ∈ am_WS := am_in (am_intb (List.mem_of_getElem? (i := 472) (by decide +kernel))) (by decide +kernel)
set_option maxRecDepth 100000 in
theorem wd_474 : (Jvm.Cond.instanceMethod yX7_isGlassWithin) ∈ am_WS := am_in (am_intb (List.mem_of_getElem? (i := 474) (by decide +kernel))) (by decide +kernel)
set_option maxRecDepth 100000 in
theorem wd_475 : (Jvm.Cond.code yX7_isGlassWithin prog_1_method_60_code (8 : Nat) (Option.some Jvm.ClassFile.FieldType.boolean)) ∈ am_WS := am_in (am_intb (List.mem_of_getElem? (i := 475) (by decide +kernel))) (by decide +kernel)
set_option maxRecDepth 100000 in
theorem wd_476 : (Jvm.Cond.methodLink "LeadlightHall" (367 : Nat) yX7_isPiece) ∈ am_WS := am_in (am_intb (List.mem_of_getElem? (i := 476) (by decide +kernel))) (by decide +kernel)
set_option maxRecDepth 100000 in
theorem wd_477 : (Jvm.Cond.static yX7_isPiece) ∈ am_WS := am_in (am_intb (List.mem_of_getElem? (i := 477) (by decide +kernel))) (by decide +kernel)
set_option maxRecDepth 100000 in
theorem wd_478 : (Jvm.Cond.code yX7_isPiece prog_1_method_47_code (1 : Nat) (Option.some Jvm.ClassFile.FieldType.boolean)) ∈ am_WS := am_in (am_intb (List.mem_of_getElem? (i := 478) (by decide +kernel))) (by decide +kernel)
set_option maxRecDepth 100000 in
theorem wd_479 : (Jvm.Cond.methodLink "LeadlightHall" (179 : Nat) yX7_isWithin) ∈ am_WS := am_in (am_intb (List.mem_of_getElem? (i := 479) (by decide +kernel))) (by decide +kernel)
set_option maxRecDepth 100000 in
theorem wd_480 : (Jvm.Cond.classLink "LeadlightHall" (92 : Nat) "java/lang/UnsupportedOperationException") ∈ am_WS := am_in (am_intb (List.mem_of_getElem? (i := 480) (by decide +kernel))) (by decide +kernel)
set_option maxRecDepth 100000 in
theorem wd_49 : (Jvm.Cond.classLink "LeadlightHall" (28 : Nat) "LeadlightHall$Frame") ∈ am_WS := am_in (am_intb (List.mem_of_getElem? (i := 49) (by decide +kernel))) (by decide +kernel)
set_option maxRecDepth 100000 in
theorem wd_496 : (Jvm.Cond.methodLink "LeadlightHall" (103 : Nat) yX5_put) ∈ am_WS := am_in (am_intb (List.mem_of_getElem? (i := 496) (by decide +kernel))) (by decide +kernel)
set_option maxRecDepth 100000 in
theorem wd_497 : (Jvm.Cond.instanceMethod yX5_put) ∈ am_WS := am_in (am_intb (List.mem_of_getElem? (i := 497) (by decide +kernel))) (by decide +kernel)
set_option maxRecDepth 100000 in
theorem wd_498 : (Jvm.Cond.selects "LeadlightHall$Wall" yX5_put yX5_put) ∈ am_WS := am_in (am_intb (List.mem_of_getElem? (i := 498) (by decide +kernel))) (by decide +kernel)
set_option maxRecDepth 100000 in
theorem wd_499 : (Jvm.Cond.code yX5_put prog_7_method_3_code (4 : Nat) (Option.none : Option Jvm.ClassFile.FieldType)) ∈ am_WS := am_in (am_intb (List.mem_of_getElem? (i := 499) (by decide +kernel))) (by decide +kernel)
set_option maxRecDepth 100000 in
theorem wd_5 : (Jvm.Cond.initialized "LeadlightHall$YearSet") ∈ am_WS := am_in (am_intb (List.mem_of_getElem? (i := 5) (by decide +kernel))) (by decide +kernel)
set_option maxRecDepth 100000 in
theorem wd_50 : (Jvm.Cond.instantiable "LeadlightHall$Frame" (3 : Nat)) ∈ am_WS := am_in (am_intb (List.mem_of_getElem? (i := 50) (by decide +kernel))) (by decide +kernel)
set_option maxRecDepth 100000 in
theorem wd_507 : (Jvm.Cond.code yX7_lay prog_1_method_3_code (8 : Nat) (Option.some Jvm.ClassFile.FieldType.int)) ∈ am_WS := am_in (am_intb (List.mem_of_getElem? (i := 507) (by decide +kernel))) (by decide +kernel)
set_option maxRecDepth 100000 in
theorem wd_508 : (Jvm.Cond.methodLink "LeadlightHall" (107 : Nat) yX7_requirePiece) ∈ am_WS := am_in (am_intb (List.mem_of_getElem? (i := 508) (by decide +kernel))) (by decide +kernel)
set_option maxRecDepth 100000 in
theorem wd_509 : (Jvm.Cond.static yX7_requirePiece) ∈ am_WS := am_in (am_intb (List.mem_of_getElem? (i := 509) (by decide +kernel))) (by decide +kernel)
set_option maxRecDepth 100000 in
theorem wd_510 : (Jvm.Cond.code yX7_requirePiece prog_1_method_50_code (1 : Nat) (Option.none : Option Jvm.ClassFile.FieldType)) ∈ am_WS := am_in (am_intb (List.mem_of_getElem? (i := 510) (by decide +kernel))) (by decide +kernel)
set_option maxRecDepth 100000 in
theorem wd_511 : (Jvm.Cond.classLink "LeadlightHall" (415 : Nat) "java/lang/IndexOutOfBoundsException") ∈ am_WS := am_in (am_intb (List.mem_of_getElem? (i := 511) (by decide +kernel))) (by decide +kernel)
set_option maxRecDepth 100000 in
theorem wd_52 : (Jvm.Cond.instanceMethod yX0_init) ∈ am_WS := am_in (am_intb (List.mem_of_getElem? (i := 52) (by decide +kernel))) (by decide +kernel)
set_option maxRecDepth 100000 in
theorem wd_527 : (Jvm.Cond.methodLink "LeadlightHall" (115 : Nat) yX7_isOpenWithin) ∈ am_WS := am_in (am_intb (List.mem_of_getElem? (i := 527) (by decide +kernel))) (by decide +kernel)
set_option maxRecDepth 100000 in
theorem wd_529 : (Jvm.Cond.instanceMethod yX7_isOpenWithin) ∈ am_WS := am_in (am_intb (List.mem_of_getElem? (i := 529) (by decide +kernel))) (by decide +kernel)
set_option maxRecDepth 100000 in
theorem wd_53 : (Jvm.Cond.code yX0_init prog_2_method_1_code (1 : Nat) (Option.none : Option Jvm.ClassFile.FieldType)) ∈ am_WS := am_in (am_intb (List.mem_of_getElem? (i := 53) (by decide +kernel))) (by decide +kernel)
set_option maxRecDepth 100000 in
theorem wd_530 : (Jvm.Cond.code yX7_isOpenWithin prog_1_method_61_code (7 : Nat) (Option.some Jvm.ClassFile.FieldType.boolean)) ∈ am_WS := am_in (am_intb (List.mem_of_getElem? (i := 530) (by decide +kernel))) (by decide +kernel)
set_option maxRecDepth 100000 in
theorem wd_538 : (Jvm.Cond.code yX7_pieceAt prog_1_method_4_code (3 : Nat) (Option.some Jvm.ClassFile.FieldType.int)) ∈ am_WS := am_in (am_intb (List.mem_of_getElem? (i := 538) (by decide +kernel))) (by decide +kernel)
set_option maxRecDepth 100000 in
theorem wd_539 : (Jvm.Cond.methodLink "LeadlightHall" (124 : Nat) yX7_requireCell) ∈ am_WS := am_in (am_intb (List.mem_of_getElem? (i := 539) (by decide +kernel))) (by decide +kernel)
set_option maxRecDepth 100000 in
theorem wd_54 : (Jvm.Cond.methodLink "LeadlightHall$Frame" (3 : Nat) ({ cls := "java/lang/Object", name := "<init>", desc := "()V" } : Jvm.MethodName)) ∈ am_WS := am_in (am_intb (List.mem_of_getElem? (i := 54) (by decide +kernel))) (by decide +kernel)
set_option maxRecDepth 100000 in
theorem wd_540 : (Jvm.Cond.static yX7_requireCell) ∈ am_WS := am_in (am_intb (List.mem_of_getElem? (i := 540) (by decide +kernel))) (by decide +kernel)
set_option maxRecDepth 100000 in
theorem wd_541 : (Jvm.Cond.code yX7_requireCell prog_1_method_52_code (2 : Nat) (Option.none : Option Jvm.ClassFile.FieldType)) ∈ am_WS := am_in (am_intb (List.mem_of_getElem? (i := 541) (by decide +kernel))) (by decide +kernel)
set_option maxRecDepth 100000 in
theorem wd_549 : (Jvm.Cond.code yX7_size prog_1_method_5_code (2 : Nat) (Option.some Jvm.ClassFile.FieldType.int)) ∈ am_WS := am_in (am_intb (List.mem_of_getElem? (i := 549) (by decide +kernel))) (by decide +kernel)
set_option maxRecDepth 100000 in
theorem wd_55 : (Jvm.Cond.fieldLink "LeadlightHall$Frame" (9 : Nat) "LeadlightHall$Frame" "bars" "I") ∈ am_WS := am_in (am_intb (List.mem_of_getElem? (i := 55) (by decide +kernel))) (by decide +kernel)
set_option maxRecDepth 100000 in
theorem wd_556 : (Jvm.Cond.code yX7_corners prog_1_method_6_code (2 : Nat) (Option.some Jvm.ClassFile.FieldType.int)) ∈ am_WS := am_in (am_intb (List.mem_of_getElem? (i := 556) (by decide +kernel))) (by decide +kernel)
set_option maxRecDepth 100000 in
theorem wd_56 : (Jvm.Cond.fieldLink "LeadlightHall$Frame" (15 : Nat) "LeadlightHall$Frame" "profile" "I") ∈ am_WS := am_in (am_intb (List.mem_of_getElem? (i := 56) (by decide +kernel))) (by decide +kernel)
set_option maxRecDepth 100000 in
theorem wd_563 : (Jvm.Cond.code yX7_point prog_1_method_7_code (2 : Nat) (Option.some Jvm.ClassFile.FieldType.int)) ∈ am_WS := am_in (am_intb (List.mem_of_getElem? (i := 563) (by decide +kernel))) (by decide +kernel)
set_option maxRecDepth 100000 in
theorem wd_564 : (Jvm.Cond.methodLink "LeadlightHall" (136 : Nat) yX3_longestNarrow) ∈ am_WS := am_in (am_intb (List.mem_of_getElem? (i := 564) (by decide +kernel))) (by decide +kernel)
set_option maxRecDepth 100000 in
theorem wd_565 : (Jvm.Cond.instanceMethod yX3_longestNarrow) ∈ am_WS := am_in (am_intb (List.mem_of_getElem? (i := 565) (by decide +kernel))) (by decide +kernel)
set_option maxRecDepth 100000 in
theorem wd_566 : (Jvm.Cond.selects "LeadlightHall$Shape" yX3_longestNarrow yX3_longestNarrow) ∈ am_WS := am_in (am_intb (List.mem_of_getElem? (i := 566) (by decide +kernel))) (by decide +kernel)
set_option maxRecDepth 100000 in
theorem wd_567 : (Jvm.Cond.code yX3_longestNarrow prog_5_method_11_code (3 : Nat) (Option.some Jvm.ClassFile.FieldType.int)) ∈ am_WS := am_in (am_intb (List.mem_of_getElem? (i := 567) (by decide +kernel))) (by decide +kernel)
set_option maxRecDepth 100000 in
theorem wd_568 : (Jvm.Cond.methodLink "LeadlightHall$Shape" (45 : Nat) yX3_narrowInRow) ∈ am_WS := am_in (am_intb (List.mem_of_getElem? (i := 568) (by decide +kernel))) (by decide +kernel)
set_option maxRecDepth 100000 in
theorem wd_570 : (Jvm.Cond.instanceMethod yX3_narrowInRow) ∈ am_WS := am_in (am_intb (List.mem_of_getElem? (i := 570) (by decide +kernel))) (by decide +kernel)
set_option maxRecDepth 100000 in
theorem wd_571 : (Jvm.Cond.code yX3_narrowInRow prog_5_method_12_code (2 : Nat) (Option.some Jvm.ClassFile.FieldType.int)) ∈ am_WS := am_in (am_intb (List.mem_of_getElem? (i := 571) (by decide +kernel))) (by decide +kernel)
set_option maxRecDepth 100000 in
theorem wd_572 : (Jvm.Cond.methodLink "LeadlightHall$Shape" (60 : Nat) yX3_row) ∈ am_WS := am_in (am_intb (List.mem_of_getElem? (i := 572) (by decide +kernel))) (by decide +kernel)
set_option maxRecDepth 100000 in
theorem wd_573 : (Jvm.Cond.instanceMethod yX3_row) ∈ am_WS := am_in (am_intb (List.mem_of_getElem? (i := 573) (by decide +kernel))) (by decide +kernel)
set_option maxRecDepth 100000 in
theorem wd_574 : (Jvm.Cond.selects "LeadlightHall$Shape" yX3_row yX3_row) ∈ am_WS := am_in (am_intb (List.mem_of_getElem? (i := 574) (by decide +kernel))) (by decide +kernel)
set_option maxRecDepth 100000 in
theorem wd_575 : (Jvm.Cond.code yX3_row prog_5_method_5_code (2 : Nat) (Option.some Jvm.ClassFile.FieldType.int)) ∈ am_WS := am_in (am_intb (List.mem_of_getElem? (i := 575) (by decide +kernel))) (by decide +kernel)
set_option maxRecDepth 100000 in
theorem wd_576 : (Jvm.Cond.methodLink "LeadlightHall$Shape" (48 : Nat) yX3_longestRun) ∈ am_WS := am_in (am_intb (List.mem_of_getElem? (i := 576) (by decide +kernel))) (by decide +kernel)
set_option maxRecDepth 100000 in
theorem wd_577 : (Jvm.Cond.static yX3_longestRun) ∈ am_WS := am_in (am_intb (List.mem_of_getElem? (i := 577) (by decide +kernel))) (by decide +kernel)
set_option maxRecDepth 100000 in
theorem wd_578 : (Jvm.Cond.code yX3_longestRun prog_5_method_14_code (4 : Nat) (Option.some Jvm.ClassFile.FieldType.int)) ∈ am_WS := am_in (am_intb (List.mem_of_getElem? (i := 578) (by decide +kernel))) (by decide +kernel)
set_option maxRecDepth 100000 in
theorem wd_579 : (Jvm.Cond.methodLink "LeadlightHall$Shape" (51 : Nat) yJ9_max_7cf53) ∈ am_WS := am_in (am_intb (List.mem_of_getElem? (i := 579) (by decide +kernel))) (by decide +kernel)
set_option maxRecDepth 100000 in
theorem wd_58 : (Jvm.Cond.fieldLink "LeadlightHall$Frame" (18 : Nat) "LeadlightHall$Frame" "wind" "I") ∈ am_WS := am_in (am_intb (List.mem_of_getElem? (i := 58) (by decide +kernel))) (by decide +kernel)
set_option maxRecDepth 100000 in
theorem wd_580 : (Jvm.Cond.methodLink "LeadlightHall$Shape" (57 : Nat) yX3_narrowInColumn) ∈ am_WS := am_in (am_intb (List.mem_of_getElem? (i := 580) (by decide +kernel))) (by decide +kernel)
set_option maxRecDepth 100000 in
theorem wd_582 : (Jvm.Cond.instanceMethod yX3_narrowInColumn) ∈ am_WS := am_in (am_intb (List.mem_of_getElem? (i := 582) (by decide +kernel))) (by decide +kernel)
set_option maxRecDepth 100000 in
theorem wd_583 : (Jvm.Cond.code yX3_narrowInColumn prog_5_method_13_code (4 : Nat) (Option.some Jvm.ClassFile.FieldType.int)) ∈ am_WS := am_in (am_intb (List.mem_of_getElem? (i := 583) (by decide +kernel))) (by decide +kernel)
set_option maxRecDepth 100000 in
theorem wd_584 : (Jvm.Cond.methodLink "LeadlightHall$Shape" (63 : Nat) yX3_has) ∈ am_WS := am_in (am_intb (List.mem_of_getElem? (i := 584) (by decide +kernel))) (by decide +kernel)
set_option maxRecDepth 100000 in
theorem wd_585 : (Jvm.Cond.instanceMethod yX3_has) ∈ am_WS := am_in (am_intb (List.mem_of_getElem? (i := 585) (by decide +kernel))) (by decide +kernel)
set_option maxRecDepth 100000 in
theorem wd_586 : (Jvm.Cond.selects "LeadlightHall$Shape" yX3_has yX3_has) ∈ am_WS := am_in (am_intb (List.mem_of_getElem? (i := 586) (by decide +kernel))) (by decide +kernel)
set_option maxRecDepth 100000 in
theorem wd_587 : (Jvm.Cond.code yX3_has prog_5_method_4_code (3 : Nat) (Option.some Jvm.ClassFile.FieldType.boolean)) ∈ am_WS := am_in (am_intb (List.mem_of_getElem? (i := 587) (by decide +kernel))) (by decide +kernel)
set_option maxRecDepth 100000 in
theorem wd_594 : (Jvm.Cond.code yX7_hinders prog_1_method_8_code (2 : Nat) (Option.some Jvm.ClassFile.FieldType.char)) ∈ am_WS := am_in (am_intb (List.mem_of_getElem? (i := 594) (by decide +kernel))) (by decide +kernel)
set_option maxRecDepth 100000 in
theorem wd_595 : (Jvm.Cond.methodLink "LeadlightHall" (139 : Nat) yX3_hindrance) ∈ am_WS := am_in (am_intb (List.mem_of_getElem? (i := 595) (by decide +kernel))) (by decide +kernel)
set_option maxRecDepth 100000 in
theorem wd_596 : (Jvm.Cond.instanceMethod yX3_hindrance) ∈ am_WS := am_in (am_intb (List.mem_of_getElem? (i := 596) (by decide +kernel))) (by decide +kernel)
set_option maxRecDepth 100000 in
theorem wd_597 : (Jvm.Cond.selects "LeadlightHall$Shape" yX3_hindrance yX3_hindrance) ∈ am_WS := am_in (am_intb (List.mem_of_getElem? (i := 597) (by decide +kernel))) (by decide +kernel)
set_option maxRecDepth 100000 in
theorem wd_598 : (Jvm.Cond.code yX3_hindrance prog_5_method_7_code (1 : Nat) (Option.some Jvm.ClassFile.FieldType.char)) ∈ am_WS := am_in (am_intb (List.mem_of_getElem? (i := 598) (by decide +kernel))) (by decide +kernel)
set_option maxRecDepth 100000 in
theorem wd_599 : (Jvm.Cond.methodLink "LeadlightHall$Shape" (28 : Nat) yX3_cellCount) ∈ am_WS := am_in (am_intb (List.mem_of_getElem? (i := 599) (by decide +kernel))) (by decide +kernel)
set_option maxRecDepth 100000 in
theorem wd_6 : (Jvm.Cond.initialized "LeadlightHall$Pane") ∈ am_WS := am_in (am_intb (List.mem_of_getElem? (i := 6) (by decide +kernel))) (by decide +kernel)
set_option maxRecDepth 100000 in
theorem wd_600 : (Jvm.Cond.instanceMethod yX3_cellCount) ∈ am_WS := am_in (am_intb (List.mem_of_getElem? (i := 600) (by decide +kernel))) (by decide +kernel)
set_option maxRecDepth 100000 in
theorem wd_601 : (Jvm.Cond.selects "LeadlightHall$Shape" yX3_cellCount yX3_cellCount) ∈ am_WS := am_in (am_intb (List.mem_of_getElem? (i := 601) (by decide +kernel))) (by decide +kernel)
set_option maxRecDepth 100000 in
theorem wd_602 : (Jvm.Cond.code yX3_cellCount prog_5_method_6_code (3 : Nat) (Option.some Jvm.ClassFile.FieldType.int)) ∈ am_WS := am_in (am_intb (List.mem_of_getElem? (i := 602) (by decide +kernel))) (by decide +kernel)
set_option maxRecDepth 100000 in
theorem wd_603 : (Jvm.Cond.methodLink "LeadlightHall$Shape" (32 : Nat) yX3_isWhole) ∈ am_WS := am_in (am_intb (List.mem_of_getElem? (i := 603) (by decide +kernel))) (by decide +kernel)
set_option maxRecDepth 100000 in
theorem wd_604 : (Jvm.Cond.methodLink "LeadlightHall$Shape" (36 : Nat) yX3_innerCorners) ∈ am_WS := am_in (am_intb (List.mem_of_getElem? (i := 604) (by decide +kernel))) (by decide +kernel)
set_option maxRecDepth 100000 in
theorem wd_605 : (Jvm.Cond.methodLink "LeadlightHall$Shape" (39 : Nat) yX3_longestNarrow) ∈ am_WS := am_in (am_intb (List.mem_of_getElem? (i := 605) (by decide +kernel))) (by decide +kernel)
set_option maxRecDepth 100000 in
theorem wd_613 : (Jvm.Cond.code yX7_split prog_1_method_9_code (4 : Nat) (Option.some Jvm.ClassFile.FieldType.int)) ∈ am_WS := am_in (am_intb (List.mem_of_getElem? (i := 613) (by decide +kernel))) (by decide +kernel)
set_option maxRecDepth 100000 in
theorem wd_614 : (Jvm.Cond.methodLink "LeadlightHall" (143 : Nat) yX3_bestLead) ∈ am_WS := am_in (am_intb (List.mem_of_getElem? (i := 614) (by decide +kernel))) (by decide +kernel)
set_option maxRecDepth 100000 in
theorem wd_615 : (Jvm.Cond.instanceMethod yX3_bestLead) ∈ am_WS := am_in (am_intb (List.mem_of_getElem? (i := 615) (by decide +kernel))) (by decide +kernel)
set_option maxRecDepth 100000 in
theorem wd_616 : (Jvm.Cond.selects "LeadlightHall$Shape" yX3_bestLead yX3_bestLead) ∈ am_WS := am_in (am_intb (List.mem_of_getElem? (i := 616) (by decide +kernel))) (by decide +kernel)
set_option maxRecDepth 100000 in
theorem wd_617 : (Jvm.Cond.code yX3_bestLead prog_5_method_15_code (6 : Nat) (Option.some Jvm.ClassFile.FieldType.int)) ∈ am_WS := am_in (am_intb (List.mem_of_getElem? (i := 617) (by decide +kernel))) (by decide +kernel)
set_option maxRecDepth 100000 in
theorem wd_618 : (Jvm.Cond.methodLink "LeadlightHall$Shape" (66 : Nat) yX3_partBy) ∈ am_WS := am_in (am_intb (List.mem_of_getElem? (i := 618) (by decide +kernel))) (by decide +kernel)
set_option maxRecDepth 100000 in
theorem wd_619 : (Jvm.Cond.instanceMethod yX3_partBy) ∈ am_WS := am_in (am_intb (List.mem_of_getElem? (i := 619) (by decide +kernel))) (by decide +kernel)
set_option maxRecDepth 100000 in
theorem wd_620 : (Jvm.Cond.selects "LeadlightHall$Shape" yX3_partBy yX3_partBy) ∈ am_WS := am_in (am_intb (List.mem_of_getElem? (i := 620) (by decide +kernel))) (by decide +kernel)
set_option maxRecDepth 100000 in
theorem wd_621 : (Jvm.Cond.code yX3_partBy prog_5_method_16_code (6 : Nat) (Option.none : Option Jvm.ClassFile.FieldType)) ∈ am_WS := am_in (am_intb (List.mem_of_getElem? (i := 621) (by decide +kernel))) (by decide +kernel)
set_option maxRecDepth 100000 in
theorem wd_622 : (Jvm.Cond.methodLink "LeadlightHall$Shape" (70 : Nat) yX3_hindrance) ∈ am_WS := am_in (am_intb (List.mem_of_getElem? (i := 622) (by decide +kernel))) (by decide +kernel)
set_option maxRecDepth 100000 in
theorem wd_623 : (Jvm.Cond.methodLink "LeadlightHall$Shape" (74 : Nat) yX3_touchesOver) ∈ am_WS := am_in (am_intb (List.mem_of_getElem? (i := 623) (by decide +kernel))) (by decide +kernel)
set_option maxRecDepth 100000 in
theorem wd_625 : (Jvm.Cond.instanceMethod yX3_touchesOver) ∈ am_WS := am_in (am_intb (List.mem_of_getElem? (i := 625) (by decide +kernel))) (by decide +kernel)
set_option maxRecDepth 100000 in
theorem wd_626 : (Jvm.Cond.code yX3_touchesOver prog_5_method_17_code (4 : Nat) (Option.some Jvm.ClassFile.FieldType.int)) ∈ am_WS := am_in (am_intb (List.mem_of_getElem? (i := 626) (by decide +kernel))) (by decide +kernel)
set_option maxRecDepth 100000 in
theorem wd_628 : (Jvm.Cond.methodLink "LeadlightHall" (149 : Nat) yX7_lowestWithoutCells) ∈ am_WS := am_in (am_intb (List.mem_of_getElem? (i := 628) (by decide +kernel))) (by decide +kernel)
set_option maxRecDepth 100000 in
theorem wd_630 : (Jvm.Cond.instanceMethod yX7_lowestWithoutCells) ∈ am_WS := am_in (am_intb (List.mem_of_getElem? (i := 630) (by decide +kernel))) (by decide +kernel)
set_option maxRecDepth 100000 in
theorem wd_631 : (Jvm.Cond.code yX7_lowestWithoutCells prog_1_method_59_code (3 : Nat) (Option.some Jvm.ClassFile.FieldType.int)) ∈ am_WS := am_in (am_intb (List.mem_of_getElem? (i := 631) (by decide +kernel))) (by decide +kernel)
set_option maxRecDepth 100000 in
theorem wd_632 : (Jvm.Cond.classLink "LeadlightHall" (152 : Nat) "java/lang/IllegalStateException") ∈ am_WS := am_in (am_intb (List.mem_of_getElem? (i := 632) (by decide +kernel))) (by decide +kernel)
set_option maxRecDepth 100000 in
theorem wd_648 : (Jvm.Cond.methodLink "LeadlightHall" (157 : Nat) yX3_partBy) ∈ am_WS := am_in (am_intb (List.mem_of_getElem? (i := 648) (by decide +kernel))) (by decide +kernel)
set_option maxRecDepth 100000 in
theorem wd_649 : (Jvm.Cond.methodLink "LeadlightHall" (161 : Nat) yX5_putShape) ∈ am_WS := am_in (am_intb (List.mem_of_getElem? (i := 649) (by decide +kernel))) (by decide +kernel)
set_option maxRecDepth 100000 in
theorem wd_650 : (Jvm.Cond.instanceMethod yX5_putShape) ∈ am_WS := am_in (am_intb (List.mem_of_getElem? (i := 650) (by decide +kernel))) (by decide +kernel)
set_option maxRecDepth 100000 in
theorem wd_651 : (Jvm.Cond.selects "LeadlightHall$Wall" yX5_putShape yX5_putShape) ∈ am_WS := am_in (am_intb (List.mem_of_getElem? (i := 651) (by decide +kernel))) (by decide +kernel)
set_option maxRecDepth 100000 in
theorem wd_652 : (Jvm.Cond.code yX5_putShape prog_7_method_4_code (5 : Nat) (Option.none : Option Jvm.ClassFile.FieldType)) ∈ am_WS := am_in (am_intb (List.mem_of_getElem? (i := 652) (by decide +kernel))) (by decide +kernel)
set_option maxRecDepth 100000 in
theorem wd_653 : (Jvm.Cond.methodLink "LeadlightHall$Wall" (19 : Nat) yX3_has) ∈ am_WS := am_in (am_intb (List.mem_of_getElem? (i := 653) (by decide +kernel))) (by decide +kernel)
set_option maxRecDepth 100000 in
theorem wd_654 : (Jvm.Cond.methodLink "LeadlightHall$Wall" (24 : Nat) yX5_put) ∈ am_WS := am_in (am_intb (List.mem_of_getElem? (i := 654) (by decide +kernel))) (by decide +kernel)
set_option maxRecDepth 100000 in
theorem wd_655 : (Jvm.Cond.methodLink "LeadlightHall" (165 : Nat) yX2_wantLike) ∈ am_WS := am_in (am_intb (List.mem_of_getElem? (i := 655) (by decide +kernel))) (by decide +kernel)
set_option maxRecDepth 100000 in
theorem wd_656 : (Jvm.Cond.instanceMethod yX2_wantLike) ∈ am_WS := am_in (am_intb (List.mem_of_getElem? (i := 656) (by decide +kernel))) (by decide +kernel)
set_option maxRecDepth 100000 in
theorem wd_657 : (Jvm.Cond.selects "LeadlightHall$Pane" yX2_wantLike yX2_wantLike) ∈ am_WS := am_in (am_intb (List.mem_of_getElem? (i := 657) (by decide +kernel))) (by decide +kernel)
set_option maxRecDepth 100000 in
theorem wd_658 : (Jvm.Cond.code yX2_wantLike prog_4_method_4_code (2 : Nat) (Option.none : Option Jvm.ClassFile.FieldType)) ∈ am_WS := am_in (am_intb (List.mem_of_getElem? (i := 658) (by decide +kernel))) (by decide +kernel)
set_option maxRecDepth 100000 in
theorem wd_665 : (Jvm.Cond.code yX7_sheet prog_1_method_12_code (5 : Nat) (Option.some Jvm.ClassFile.FieldType.int)) ∈ am_WS := am_in (am_intb (List.mem_of_getElem? (i := 665) (by decide +kernel))) (by decide +kernel)
set_option maxRecDepth 100000 in
theorem wd_666 : (Jvm.Cond.methodLink "LeadlightHall" (175 : Nat) yX7_isColour) ∈ am_WS := am_in (am_intb (List.mem_of_getElem? (i := 666) (by decide +kernel))) (by decide +kernel)
set_option maxRecDepth 100000 in
theorem wd_667 : (Jvm.Cond.static yX7_isColour) ∈ am_WS := am_in (am_intb (List.mem_of_getElem? (i := 667) (by decide +kernel))) (by decide +kernel)
set_option maxRecDepth 100000 in
theorem wd_668 : (Jvm.Cond.code yX7_isColour prog_1_method_48_code (1 : Nat) (Option.some Jvm.ClassFile.FieldType.boolean)) ∈ am_WS := am_in (am_intb (List.mem_of_getElem? (i := 668) (by decide +kernel))) (by decide +kernel)
set_option maxRecDepth 100000 in
theorem wd_669 : (Jvm.Cond.methodLink "LeadlightHall" (183 : Nat) yX7_isDirection) ∈ am_WS := am_in (am_intb (List.mem_of_getElem? (i := 669) (by decide +kernel))) (by decide +kernel)
set_option maxRecDepth 100000 in
theorem wd_67 : (Jvm.Cond.classLink "LeadlightHall" (58 : Nat) "LeadlightHall$Shape") ∈ am_WS := am_in (am_intb (List.mem_of_getElem? (i := 67) (by decide +kernel))) (by decide +kernel)
set_option maxRecDepth 100000 in
theorem wd_670 : (Jvm.Cond.static yX7_isDirection) ∈ am_WS := am_in (am_intb (List.mem_of_getElem? (i := 670) (by decide +kernel))) (by decide +kernel)
set_option maxRecDepth 100000 in
theorem wd_671 : (Jvm.Cond.code yX7_isDirection prog_1_method_49_code (1 : Nat) (Option.some Jvm.ClassFile.FieldType.boolean)) ∈ am_WS := am_in (am_intb (List.mem_of_getElem? (i := 671) (by decide +kernel))) (by decide +kernel)
set_option maxRecDepth 100000 in
theorem wd_674 : (Jvm.Cond.methodLink "LeadlightHall" (194 : Nat) yX4_become) ∈ am_WS := am_in (am_intb (List.mem_of_getElem? (i := 674) (by decide +kernel))) (by decide +kernel)
set_option maxRecDepth 100000 in
theorem wd_675 : (Jvm.Cond.instanceMethod yX4_become) ∈ am_WS := am_in (am_intb (List.mem_of_getElem? (i := 675) (by decide +kernel))) (by decide +kernel)
set_option maxRecDepth 100000 in
theorem wd_676 : (Jvm.Cond.selects "LeadlightHall$Sheet" yX4_become yX4_become) ∈ am_WS := am_in (am_intb (List.mem_of_getElem? (i := 676) (by decide +kernel))) (by decide +kernel)
set_option maxRecDepth 100000 in
theorem wd_677 : (Jvm.Cond.code yX4_become prog_6_method_2_code (5 : Nat) (Option.none : Option Jvm.ClassFile.FieldType)) ∈ am_WS := am_in (am_intb (List.mem_of_getElem? (i := 677) (by decide +kernel))) (by decide +kernel)
set_option maxRecDepth 100000 in
theorem wd_68 : (Jvm.Cond.instantiable "LeadlightHall$Shape" (2 : Nat)) ∈ am_WS := am_in (am_intb (List.mem_of_getElem? (i := 68) (by decide +kernel))) (by decide +kernel)
set_option maxRecDepth 100000 in
theorem wd_684 : (Jvm.Cond.code yX7_free prog_1_method_13_code (2 : Nat) (Option.some Jvm.ClassFile.FieldType.int)) ∈ am_WS := am_in (am_intb (List.mem_of_getElem? (i := 684) (by decide +kernel))) (by decide +kernel)
set_option maxRecDepth 100000 in
theorem wd_685 : (Jvm.Cond.methodLink "LeadlightHall" (198 : Nat) yX7_requireSheet) ∈ am_WS := am_in (am_intb (List.mem_of_getElem? (i := 685) (by decide +kernel))) (by decide +kernel)
set_option maxRecDepth 100000 in
theorem wd_687 : (Jvm.Cond.instanceMethod yX7_requireSheet) ∈ am_WS := am_in (am_intb (List.mem_of_getElem? (i := 687) (by decide +kernel))) (by decide +kernel)
set_option maxRecDepth 100000 in
theorem wd_688 : (Jvm.Cond.code yX7_requireSheet prog_1_method_51_code (2 : Nat) (Option.none : Option Jvm.ClassFile.FieldType)) ∈ am_WS := am_in (am_intb (List.mem_of_getElem? (i := 688) (by decide +kernel))) (by decide +kernel)
set_option maxRecDepth 100000 in
theorem wd_689 : (Jvm.Cond.methodLink "LeadlightHall" (201 : Nat) yX4_freeCells) ∈ am_WS := am_in (am_intb (List.mem_of_getElem? (i := 689) (by decide +kernel))) (by decide +kernel)
set_option maxRecDepth 100000 in
theorem wd_690 : (Jvm.Cond.instanceMethod yX4_freeCells) ∈ am_WS := am_in (am_intb (List.mem_of_getElem? (i := 690) (by decide +kernel))) (by decide +kernel)
set_option maxRecDepth 100000 in
theorem wd_691 : (Jvm.Cond.selects "LeadlightHall$Sheet" yX4_freeCells yX4_freeCells) ∈ am_WS := am_in (am_intb (List.mem_of_getElem? (i := 691) (by decide +kernel))) (by decide +kernel)
set_option maxRecDepth 100000 in
theorem wd_692 : (Jvm.Cond.code yX4_freeCells prog_6_method_4_code (1 : Nat) (Option.some Jvm.ClassFile.FieldType.int)) ∈ am_WS := am_in (am_intb (List.mem_of_getElem? (i := 692) (by decide +kernel))) (by decide +kernel)
set_option maxRecDepth 100000 in
theorem wd_693 : (Jvm.Cond.methodLink "LeadlightHall$Sheet" (35 : Nat) yX4_usedCells) ∈ am_WS := am_in (am_intb (List.mem_of_getElem? (i := 693) (by decide +kernel))) (by decide +kernel)
set_option maxRecDepth 100000 in
theorem wd_7 : (Jvm.Cond.initialized "LeadlightHall$Paint") ∈ am_WS := am_in (am_intb (List.mem_of_getElem? (i := 7) (by decide +kernel))) (by decide +kernel)
set_option maxRecDepth 100000 in
theorem wd_70 : (Jvm.Cond.instanceMethod yX3_init) ∈ am_WS := am_in (am_intb (List.mem_of_getElem? (i := 70) (by decide +kernel))) (by decide +kernel)
set_option maxRecDepth 100000 in
theorem wd_700 : (Jvm.Cond.code yX7_want prog_1_method_14_code (6 : Nat) (Option.some Jvm.ClassFile.FieldType.boolean)) ∈ am_WS := am_in (am_intb (List.mem_of_getElem? (i := 700) (by decide +kernel))) (by decide +kernel)
set_option maxRecDepth 100000 in
theorem wd_708 : (Jvm.Cond.code yX7_cut prog_1_method_15_code (8 : Nat) (Option.some Jvm.ClassFile.FieldType.boolean)) ∈ am_WS := am_in (am_intb (List.mem_of_getElem? (i := 708) (by decide +kernel))) (by decide +kernel)
set_option maxRecDepth 100000 in
theorem wd_709 : (Jvm.Cond.methodLink "LeadlightHall" (213 : Nat) yX2_wants) ∈ am_WS := am_in (am_intb (List.mem_of_getElem? (i := 709) (by decide +kernel))) (by decide +kernel)
set_option maxRecDepth 100000 in
theorem wd_71 : (Jvm.Cond.code yX3_init prog_5_method_1_code (1 : Nat) (Option.none : Option Jvm.ClassFile.FieldType)) ∈ am_WS := am_in (am_intb (List.mem_of_getElem? (i := 71) (by decide +kernel))) (by decide +kernel)
set_option maxRecDepth 100000 in
theorem wd_710 : (Jvm.Cond.instanceMethod yX2_wants) ∈ am_WS := am_in (am_intb (List.mem_of_getElem? (i := 710) (by decide +kernel))) (by decide +kernel)
set_option maxRecDepth 100000 in
theorem wd_711 : (Jvm.Cond.selects "LeadlightHall$Pane" yX2_wants yX2_wants) ∈ am_WS := am_in (am_intb (List.mem_of_getElem? (i := 711) (by decide +kernel))) (by decide +kernel)
set_option maxRecDepth 100000 in
theorem wd_712 : (Jvm.Cond.code yX2_wants prog_4_method_5_code (3 : Nat) (Option.some Jvm.ClassFile.FieldType.boolean)) ∈ am_WS := am_in (am_intb (List.mem_of_getElem? (i := 712) (by decide +kernel))) (by decide +kernel)
set_option maxRecDepth 100000 in
theorem wd_713 : (Jvm.Cond.methodLink "LeadlightHall$Pane" (45 : Nat) yX4_streaksOf) ∈ am_WS := am_in (am_intb (List.mem_of_getElem? (i := 713) (by decide +kernel))) (by decide +kernel)
set_option maxRecDepth 100000 in
theorem wd_714 : (Jvm.Cond.instanceMethod yX4_streaksOf) ∈ am_WS := am_in (am_intb (List.mem_of_getElem? (i := 714) (by decide +kernel))) (by decide +kernel)
set_option maxRecDepth 100000 in
theorem wd_715 : (Jvm.Cond.selects "LeadlightHall$Sheet" yX4_streaksOf yX4_streaksOf) ∈ am_WS := am_in (am_intb (List.mem_of_getElem? (i := 715) (by decide +kernel))) (by decide +kernel)
set_option maxRecDepth 100000 in
theorem wd_716 : (Jvm.Cond.code yX4_streaksOf prog_6_method_5_code (2 : Nat) (Option.some Jvm.ClassFile.FieldType.char)) ∈ am_WS := am_in (am_intb (List.mem_of_getElem? (i := 716) (by decide +kernel))) (by decide +kernel)
set_option maxRecDepth 100000 in
theorem wd_718 : (Jvm.Cond.methodLink "LeadlightHall" (219 : Nat) yX3_moveToCorner) ∈ am_WS := am_in (am_intb (List.mem_of_getElem? (i := 718) (by decide +kernel))) (by decide +kernel)
set_option maxRecDepth 100000 in
theorem wd_719 : (Jvm.Cond.instanceMethod yX3_moveToCorner) ∈ am_WS := am_in (am_intb (List.mem_of_getElem? (i := 719) (by decide +kernel))) (by decide +kernel)
set_option maxRecDepth 100000 in
theorem wd_72 : (Jvm.Cond.methodLink "LeadlightHall$Shape" (3 : Nat) ({ cls := "java/lang/Object", name := "<init>", desc := "()V" } : Jvm.MethodName)) ∈ am_WS := am_in (am_intb (List.mem_of_getElem? (i := 72) (by decide +kernel))) (by decide +kernel)
set_option maxRecDepth 100000 in
theorem wd_720 : (Jvm.Cond.selects "LeadlightHall$Shape" yX3_moveToCorner yX3_moveToCorner) ∈ am_WS := am_in (am_intb (List.mem_of_getElem? (i := 720) (by decide +kernel))) (by decide +kernel)
set_option maxRecDepth 100000 in
theorem wd_721 : (Jvm.Cond.code yX3_moveToCorner prog_5_method_18_code (5 : Nat) (Option.none : Option Jvm.ClassFile.FieldType)) ∈ am_WS := am_in (am_intb (List.mem_of_getElem? (i := 721) (by decide +kernel))) (by decide +kernel)
set_option maxRecDepth 100000 in
theorem wd_722 : (Jvm.Cond.methodLink "LeadlightHall$Shape" (77 : Nat) yX3_columnsUsed) ∈ am_WS := am_in (am_intb (List.mem_of_getElem? (i := 722) (by decide +kernel))) (by decide +kernel)
set_option maxRecDepth 100000 in
theorem wd_724 : (Jvm.Cond.instanceMethod yX3_columnsUsed) ∈ am_WS := am_in (am_intb (List.mem_of_getElem? (i := 724) (by decide +kernel))) (by decide +kernel)
set_option maxRecDepth 100000 in
theorem wd_725 : (Jvm.Cond.code yX3_columnsUsed prog_5_method_22_code (3 : Nat) (Option.some Jvm.ClassFile.FieldType.int)) ∈ am_WS := am_in (am_intb (List.mem_of_getElem? (i := 725) (by decide +kernel))) (by decide +kernel)
set_option maxRecDepth 100000 in
theorem wd_726 : (Jvm.Cond.methodLink "LeadlightHall" (222 : Nat) yX3_turnInto) ∈ am_WS := am_in (am_intb (List.mem_of_getElem? (i := 726) (by decide +kernel))) (by decide +kernel)
set_option maxRecDepth 100000 in
theorem wd_727 : (Jvm.Cond.instanceMethod yX3_turnInto) ∈ am_WS := am_in (am_intb (List.mem_of_getElem? (i := 727) (by decide +kernel))) (by decide +kernel)
set_option maxRecDepth 100000 in
theorem wd_728 : (Jvm.Cond.selects "LeadlightHall$Shape" yX3_turnInto yX3_turnInto) ∈ am_WS := am_in (am_intb (List.mem_of_getElem? (i := 728) (by decide +kernel))) (by decide +kernel)
set_option maxRecDepth 100000 in
theorem wd_729 : (Jvm.Cond.code yX3_turnInto prog_5_method_19_code (5 : Nat) (Option.none : Option Jvm.ClassFile.FieldType)) ∈ am_WS := am_in (am_intb (List.mem_of_getElem? (i := 729) (by decide +kernel))) (by decide +kernel)
set_option maxRecDepth 100000 in
theorem wd_73 : (Jvm.Cond.fieldLink "LeadlightHall$Shape" (9 : Nat) "LeadlightHall$Shape" "rows" "[I") ∈ am_WS := am_in (am_intb (List.mem_of_getElem? (i := 73) (by decide +kernel))) (by decide +kernel)
set_option maxRecDepth 100000 in
theorem wd_730 : (Jvm.Cond.methodLink "LeadlightHall$Shape" (80 : Nat) yX3_clear) ∈ am_WS := am_in (am_intb (List.mem_of_getElem? (i := 730) (by decide +kernel))) (by decide +kernel)
set_option maxRecDepth 100000 in
theorem wd_731 : (Jvm.Cond.methodLink "LeadlightHall$Shape" (83 : Nat) yX3_height) ∈ am_WS := am_in (am_intb (List.mem_of_getElem? (i := 731) (by decide +kernel))) (by decide +kernel)
set_option maxRecDepth 100000 in
theorem wd_732 : (Jvm.Cond.instanceMethod yX3_height) ∈ am_WS := am_in (am_intb (List.mem_of_getElem? (i := 732) (by decide +kernel))) (by decide +kernel)
set_option maxRecDepth 100000 in
theorem wd_733 : (Jvm.Cond.selects "LeadlightHall$Shape" yX3_height yX3_height) ∈ am_WS := am_in (am_intb (List.mem_of_getElem? (i := 733) (by decide +kernel))) (by decide +kernel)
set_option maxRecDepth 100000 in
theorem wd_734 : (Jvm.Cond.code yX3_height prog_5_method_20_code (2 : Nat) (Option.some Jvm.ClassFile.FieldType.int)) ∈ am_WS := am_in (am_intb (List.mem_of_getElem? (i := 734) (by decide +kernel))) (by decide +kernel)
set_option maxRecDepth 100000 in
theorem wd_735 : (Jvm.Cond.methodLink "LeadlightHall$Shape" (86 : Nat) yX3_add) ∈ am_WS := am_in (am_intb (List.mem_of_getElem? (i := 735) (by decide +kernel))) (by decide +kernel)
set_option maxRecDepth 100000 in
theorem wd_736 : (Jvm.Cond.methodLink "LeadlightHall" (226 : Nat) yX4_placeFor) ∈ am_WS := am_in (am_intb (List.mem_of_getElem? (i := 736) (by decide +kernel))) (by decide +kernel)
set_option maxRecDepth 100000 in
theorem wd_737 : (Jvm.Cond.instanceMethod yX4_placeFor) ∈ am_WS := am_in (am_intb (List.mem_of_getElem? (i := 737) (by decide +kernel))) (by decide +kernel)
set_option maxRecDepth 100000 in
theorem wd_738 : (Jvm.Cond.selects "LeadlightHall$Sheet" yX4_placeFor yX4_placeFor) ∈ am_WS := am_in (am_intb (List.mem_of_getElem? (i := 738) (by decide +kernel))) (by decide +kernel)
set_option maxRecDepth 100000 in
theorem wd_739 : (Jvm.Cond.code yX4_placeFor prog_6_method_6_code (6 : Nat) (Option.some Jvm.ClassFile.FieldType.int)) ∈ am_WS := am_in (am_intb (List.mem_of_getElem? (i := 739) (by decide +kernel))) (by decide +kernel)
set_option maxRecDepth 100000 in
theorem wd_74 : (Jvm.Cond.fieldLink "LeadlightHall$Shape" (15 : Nat) "LeadlightHall$Shape" "reached" "[I") ∈ am_WS := am_in (am_intb (List.mem_of_getElem? (i := 74) (by decide +kernel))) (by decide +kernel)
set_option maxRecDepth 100000 in
theorem wd_740 : (Jvm.Cond.methodLink "LeadlightHall$Sheet" (39 : Nat) yX3_height) ∈ am_WS := am_in (am_intb (List.mem_of_getElem? (i := 740) (by decide +kernel))) (by decide +kernel)
set_option maxRecDepth 100000 in
theorem wd_741 : (Jvm.Cond.methodLink "LeadlightHall$Sheet" (43 : Nat) yX3_width) ∈ am_WS := am_in (am_intb (List.mem_of_getElem? (i := 741) (by decide +kernel))) (by decide +kernel)
set_option maxRecDepth 100000 in
theorem wd_742 : (Jvm.Cond.instanceMethod yX3_width) ∈ am_WS := am_in (am_intb (List.mem_of_getElem? (i := 742) (by decide +kernel))) (by decide +kernel)
set_option maxRecDepth 100000 in
theorem wd_743 : (Jvm.Cond.selects "LeadlightHall$Shape" yX3_width yX3_width) ∈ am_WS := am_in (am_intb (List.mem_of_getElem? (i := 743) (by decide +kernel))) (by decide +kernel)
set_option maxRecDepth 100000 in
theorem wd_744 : (Jvm.Cond.code yX3_width prog_5_method_21_code (3 : Nat) (Option.some Jvm.ClassFile.FieldType.int)) ∈ am_WS := am_in (am_intb (List.mem_of_getElem? (i := 744) (by decide +kernel))) (by decide +kernel)
set_option maxRecDepth 100000 in
theorem wd_745 : (Jvm.Cond.methodLink "LeadlightHall$Sheet" (45 : Nat) yX4_isFreeAt) ∈ am_WS := am_in (am_intb (List.mem_of_getElem? (i := 745) (by decide +kernel))) (by decide +kernel)
set_option maxRecDepth 100000 in
theorem wd_747 : (Jvm.Cond.instanceMethod yX4_isFreeAt) ∈ am_WS := am_in (am_intb (List.mem_of_getElem? (i := 747) (by decide +kernel))) (by decide +kernel)
set_option maxRecDepth 100000 in
theorem wd_748 : (Jvm.Cond.code yX4_isFreeAt prog_6_method_7_code (5 : Nat) (Option.some Jvm.ClassFile.FieldType.boolean)) ∈ am_WS := am_in (am_intb (List.mem_of_getElem? (i := 748) (by decide +kernel))) (by decide +kernel)
set_option maxRecDepth 100000 in
theorem wd_749 : (Jvm.Cond.methodLink "LeadlightHall$Sheet" (49 : Nat) yX3_row) ∈ am_WS := am_in (am_intb (List.mem_of_getElem? (i := 749) (by decide +kernel))) (by decide +kernel)
set_option maxRecDepth 100000 in
theorem wd_751 : (Jvm.Cond.methodLink "LeadlightHall" (232 : Nat) yX7_take) ∈ am_WS := am_in (am_intb (List.mem_of_getElem? (i := 751) (by decide +kernel))) (by decide +kernel)
set_option maxRecDepth 100000 in
theorem wd_753 : (Jvm.Cond.instanceMethod yX7_take) ∈ am_WS := am_in (am_intb (List.mem_of_getElem? (i := 753) (by decide +kernel))) (by decide +kernel)
set_option maxRecDepth 100000 in
theorem wd_754 : (Jvm.Cond.code yX7_take prog_1_method_62_code (4 : Nat) (Option.none : Option Jvm.ClassFile.FieldType)) ∈ am_WS := am_in (am_intb (List.mem_of_getElem? (i := 754) (by decide +kernel))) (by decide +kernel)
set_option maxRecDepth 100000 in
theorem wd_755 : (Jvm.Cond.methodLink "LeadlightHall" (432 : Nat) yX4_use) ∈ am_WS := am_in (am_intb (List.mem_of_getElem? (i := 755) (by decide +kernel))) (by decide +kernel)
set_option maxRecDepth 100000 in
theorem wd_756 : (Jvm.Cond.instanceMethod yX4_use) ∈ am_WS := am_in (am_intb (List.mem_of_getElem? (i := 756) (by decide +kernel))) (by decide +kernel)
set_option maxRecDepth 100000 in
theorem wd_757 : (Jvm.Cond.selects "LeadlightHall$Sheet" yX4_use yX4_use) ∈ am_WS := am_in (am_intb (List.mem_of_getElem? (i := 757) (by decide +kernel))) (by decide +kernel)
set_option maxRecDepth 100000 in
theorem wd_758 : (Jvm.Cond.code yX4_use prog_6_method_8_code (6 : Nat) (Option.none : Option Jvm.ClassFile.FieldType)) ∈ am_WS := am_in (am_intb (List.mem_of_getElem? (i := 758) (by decide +kernel))) (by decide +kernel)
set_option maxRecDepth 100000 in
theorem wd_759 : (Jvm.Cond.methodLink "LeadlightHall" (435 : Nat) yX3_cellCount) ∈ am_WS := am_in (am_intb (List.mem_of_getElem? (i := 759) (by decide +kernel))) (by decide +kernel)
set_option maxRecDepth 100000 in
theorem wd_760 : (Jvm.Cond.constantLong "LeadlightHall" (236 : Nat) (48271 : Int64)) ∈ am_WS := am_in (am_intb (List.mem_of_getElem? (i := 760) (by decide +kernel))) (by decide +kernel)
set_option maxRecDepth 100000 in
theorem wd_761 : (Jvm.Cond.constantLong "LeadlightHall" (238 : Nat) (2147483647 : Int64)) ∈ am_WS := am_in (am_intb (List.mem_of_getElem? (i := 761) (by decide +kernel))) (by decide +kernel)
set_option maxRecDepth 100000 in
theorem wd_762 : (Jvm.Cond.methodLink "LeadlightHall" (243 : Nat) yX2_glaze) ∈ am_WS := am_in (am_intb (List.mem_of_getElem? (i := 762) (by decide +kernel))) (by decide +kernel)
set_option maxRecDepth 100000 in
theorem wd_763 : (Jvm.Cond.instanceMethod yX2_glaze) ∈ am_WS := am_in (am_intb (List.mem_of_getElem? (i := 763) (by decide +kernel))) (by decide +kernel)
set_option maxRecDepth 100000 in
theorem wd_764 : (Jvm.Cond.selects "LeadlightHall$Pane" yX2_glaze yX2_glaze) ∈ am_WS := am_in (am_intb (List.mem_of_getElem? (i := 764) (by decide +kernel))) (by decide +kernel)
set_option maxRecDepth 100000 in
theorem wd_765 : (Jvm.Cond.code yX2_glaze prog_4_method_6_code (4 : Nat) (Option.none : Option Jvm.ClassFile.FieldType)) ∈ am_WS := am_in (am_intb (List.mem_of_getElem? (i := 765) (by decide +kernel))) (by decide +kernel)
set_option maxRecDepth 100000 in
theorem wd_766 : (Jvm.Cond.methodLink "LeadlightHall$Pane" (49 : Nat) yX1_clear) ∈ am_WS := am_in (am_intb (List.mem_of_getElem? (i := 766) (by decide +kernel))) (by decide +kernel)
set_option maxRecDepth 100000 in
theorem wd_767 : (Jvm.Cond.instanceMethod yX1_clear) ∈ am_WS := am_in (am_intb (List.mem_of_getElem? (i := 767) (by decide +kernel))) (by decide +kernel)
set_option maxRecDepth 100000 in
theorem wd_768 : (Jvm.Cond.selects "LeadlightHall$Paint" yX1_clear yX1_clear) ∈ am_WS := am_in (am_intb (List.mem_of_getElem? (i := 768) (by decide +kernel))) (by decide +kernel)
set_option maxRecDepth 100000 in
theorem wd_769 : (Jvm.Cond.code yX1_clear prog_3_method_3_code (2 : Nat) (Option.none : Option Jvm.ClassFile.FieldType)) ∈ am_WS := am_in (am_intb (List.mem_of_getElem? (i := 769) (by decide +kernel))) (by decide +kernel)
set_option maxRecDepth 100000 in
theorem wd_770 : (Jvm.Cond.methodLink "LeadlightHall$Pane" (52 : Nat) yX6_clear) ∈ am_WS := am_in (am_intb (List.mem_of_getElem? (i := 770) (by decide +kernel))) (by decide +kernel)
set_option maxRecDepth 100000 in
theorem wd_777 : (Jvm.Cond.code yX7_glass prog_1_method_16_code (2 : Nat) (Option.some Jvm.ClassFile.FieldType.char)) ∈ am_WS := am_in (am_intb (List.mem_of_getElem? (i := 777) (by decide +kernel))) (by decide +kernel)
set_option maxRecDepth 100000 in
theorem wd_785 : (Jvm.Cond.code yX7_colour prog_1_method_17_code (2 : Nat) (Option.some Jvm.ClassFile.FieldType.int)) ∈ am_WS := am_in (am_intb (List.mem_of_getElem? (i := 785) (by decide +kernel))) (by decide +kernel)
set_option maxRecDepth 100000 in
theorem wd_786 : (Jvm.Cond.methodLink "LeadlightHall" (250 : Nat) yX7_requireGlass) ∈ am_WS := am_in (am_intb (List.mem_of_getElem? (i := 786) (by decide +kernel))) (by decide +kernel)
set_option maxRecDepth 100000 in
theorem wd_788 : (Jvm.Cond.instanceMethod yX7_requireGlass) ∈ am_WS := am_in (am_intb (List.mem_of_getElem? (i := 788) (by decide +kernel))) (by decide +kernel)
set_option maxRecDepth 100000 in
theorem wd_789 : (Jvm.Cond.code yX7_requireGlass prog_1_method_54_code (2 : Nat) (Option.none : Option Jvm.ClassFile.FieldType)) ∈ am_WS := am_in (am_intb (List.mem_of_getElem? (i := 789) (by decide +kernel))) (by decide +kernel)
set_option maxRecDepth 100000 in
theorem wd_790 : (Jvm.Cond.classLink "LeadlightHall" (404 : Nat) "java/util/NoSuchElementException") ∈ am_WS := am_in (am_intb (List.mem_of_getElem? (i := 790) (by decide +kernel))) (by decide +kernel)
set_option maxRecDepth 100000 in
theorem wd_8 : (Jvm.Cond.initialized "LeadlightHall$Sheet") ∈ am_WS := am_in (am_intb (List.mem_of_getElem? (i := 8) (by decide +kernel))) (by decide +kernel)
set_option maxRecDepth 100000 in
theorem wd_80 : (Jvm.Cond.classLink "LeadlightHall" (75 : Nat) "LeadlightHall$YearSet") ∈ am_WS := am_in (am_intb (List.mem_of_getElem? (i := 80) (by decide +kernel))) (by decide +kernel)
set_option maxRecDepth 100000 in
theorem wd_81 : (Jvm.Cond.instantiable "LeadlightHall$YearSet" (1 : Nat)) ∈ am_WS := am_in (am_intb (List.mem_of_getElem? (i := 81) (by decide +kernel))) (by decide +kernel)
set_option maxRecDepth 100000 in
theorem wd_812 : (Jvm.Cond.code yX7_paint prog_1_method_18_code (5 : Nat) (Option.some Jvm.ClassFile.FieldType.int)) ∈ am_WS := am_in (am_intb (List.mem_of_getElem? (i := 812) (by decide +kernel))) (by decide +kernel)
set_option maxRecDepth 100000 in
theorem wd_813 : (Jvm.Cond.methodLink "LeadlightHall" (254 : Nat) yX1_numberOf) ∈ am_WS := am_in (am_intb (List.mem_of_getElem? (i := 813) (by decide +kernel))) (by decide +kernel)
set_option maxRecDepth 100000 in
theorem wd_814 : (Jvm.Cond.static yX1_numberOf) ∈ am_WS := am_in (am_intb (List.mem_of_getElem? (i := 814) (by decide +kernel))) (by decide +kernel)
set_option maxRecDepth 100000 in
theorem wd_815 : (Jvm.Cond.code yX1_numberOf prog_3_method_2_code (2 : Nat) (Option.some Jvm.ClassFile.FieldType.int)) ∈ am_WS := am_in (am_intb (List.mem_of_getElem? (i := 815) (by decide +kernel))) (by decide +kernel)
set_option maxRecDepth 100000 in
theorem wd_816 : (Jvm.Cond.fieldLink "LeadlightHall$Paint" (16 : Nat) "LeadlightHall$Paint" "LETTERS" "[C") ∈ am_WS := am_in (am_intb (List.mem_of_getElem? (i := 816) (by decide +kernel))) (by decide +kernel)
set_option maxRecDepth 100000 in
theorem wd_819 : (Jvm.Cond.methodLink "LeadlightHall" (266 : Nat) yX1_hasStain) ∈ am_WS := am_in (am_intb (List.mem_of_getElem? (i := 819) (by decide +kernel))) (by decide +kernel)
set_option maxRecDepth 100000 in
theorem wd_820 : (Jvm.Cond.instanceMethod yX1_hasStain) ∈ am_WS := am_in (am_intb (List.mem_of_getElem? (i := 820) (by decide +kernel))) (by decide +kernel)
set_option maxRecDepth 100000 in
theorem wd_821 : (Jvm.Cond.selects "LeadlightHall$Paint" yX1_hasStain yX1_hasStain) ∈ am_WS := am_in (am_intb (List.mem_of_getElem? (i := 821) (by decide +kernel))) (by decide +kernel)
set_option maxRecDepth 100000 in
theorem wd_822 : (Jvm.Cond.code yX1_hasStain prog_3_method_4_code (1 : Nat) (Option.some Jvm.ClassFile.FieldType.boolean)) ∈ am_WS := am_in (am_intb (List.mem_of_getElem? (i := 822) (by decide +kernel))) (by decide +kernel)
set_option maxRecDepth 100000 in
theorem wd_824 : (Jvm.Cond.methodLink "LeadlightHall" (271 : Nat) yX1_keptLayers) ∈ am_WS := am_in (am_intb (List.mem_of_getElem? (i := 824) (by decide +kernel))) (by decide +kernel)
set_option maxRecDepth 100000 in
theorem wd_825 : (Jvm.Cond.instanceMethod yX1_keptLayers) ∈ am_WS := am_in (am_intb (List.mem_of_getElem? (i := 825) (by decide +kernel))) (by decide +kernel)
set_option maxRecDepth 100000 in
theorem wd_826 : (Jvm.Cond.selects "LeadlightHall$Paint" yX1_keptLayers yX1_keptLayers) ∈ am_WS := am_in (am_intb (List.mem_of_getElem? (i := 826) (by decide +kernel))) (by decide +kernel)
set_option maxRecDepth 100000 in
theorem wd_827 : (Jvm.Cond.code yX1_keptLayers prog_3_method_6_code (1 : Nat) (Option.some Jvm.ClassFile.FieldType.int)) ∈ am_WS := am_in (am_intb (List.mem_of_getElem? (i := 827) (by decide +kernel))) (by decide +kernel)
set_option maxRecDepth 100000 in
theorem wd_828 : (Jvm.Cond.methodLink "LeadlightHall$Paint" (20 : Nat) yX1_rawLayers) ∈ am_WS := am_in (am_intb (List.mem_of_getElem? (i := 828) (by decide +kernel))) (by decide +kernel)
set_option maxRecDepth 100000 in
theorem wd_829 : (Jvm.Cond.methodLink "LeadlightHall$Paint" (24 : Nat) yX1_fixedLayers) ∈ am_WS := am_in (am_intb (List.mem_of_getElem? (i := 829) (by decide +kernel))) (by decide +kernel)
set_option maxRecDepth 100000 in
theorem wd_83 : (Jvm.Cond.instanceMethod yX6_init) ∈ am_WS := am_in (am_intb (List.mem_of_getElem? (i := 83) (by decide +kernel))) (by decide +kernel)
set_option maxRecDepth 100000 in
theorem wd_831 : (Jvm.Cond.methodLink "LeadlightHall" (276 : Nat) yX1_add) ∈ am_WS := am_in (am_intb (List.mem_of_getElem? (i := 831) (by decide +kernel))) (by decide +kernel)
set_option maxRecDepth 100000 in
theorem wd_832 : (Jvm.Cond.instanceMethod yX1_add) ∈ am_WS := am_in (am_intb (List.mem_of_getElem? (i := 832) (by decide +kernel))) (by decide +kernel)
set_option maxRecDepth 100000 in
theorem wd_833 : (Jvm.Cond.selects "LeadlightHall$Paint" yX1_add yX1_add) ∈ am_WS := am_in (am_intb (List.mem_of_getElem? (i := 833) (by decide +kernel))) (by decide +kernel)
set_option maxRecDepth 100000 in
theorem wd_834 : (Jvm.Cond.code yX1_add prog_3_method_5_code (2 : Nat) (Option.none : Option Jvm.ClassFile.FieldType)) ∈ am_WS := am_in (am_intb (List.mem_of_getElem? (i := 834) (by decide +kernel))) (by decide +kernel)
set_option maxRecDepth 100000 in
theorem wd_84 : (Jvm.Cond.code yX6_init prog_8_method_1_code (1 : Nat) (Option.none : Option Jvm.ClassFile.FieldType)) ∈ am_WS := am_in (am_intb (List.mem_of_getElem? (i := 84) (by decide +kernel))) (by decide +kernel)
set_option maxRecDepth 100000 in
theorem wd_841 : (Jvm.Cond.code yX7_fire prog_1_method_19_code (5 : Nat) (Option.some Jvm.ClassFile.FieldType.int)) ∈ am_WS := am_in (am_intb (List.mem_of_getElem? (i := 841) (by decide +kernel))) (by decide +kernel)
set_option maxRecDepth 100000 in
theorem wd_842 : (Jvm.Cond.methodLink "LeadlightHall" (279 : Nat) yJ6_bitCount_0f7a4) ∈ am_WS := am_in (am_intb (List.mem_of_getElem? (i := 842) (by decide +kernel))) (by decide +kernel)
set_option maxRecDepth 100000 in
theorem wd_845 : (Jvm.Cond.methodLink "LeadlightHall" (291 : Nat) yX1_heat) ∈ am_WS := am_in (am_intb (List.mem_of_getElem? (i := 845) (by decide +kernel))) (by decide +kernel)
set_option maxRecDepth 100000 in
theorem wd_846 : (Jvm.Cond.instanceMethod yX1_heat) ∈ am_WS := am_in (am_intb (List.mem_of_getElem? (i := 846) (by decide +kernel))) (by decide +kernel)
set_option maxRecDepth 100000 in
theorem wd_847 : (Jvm.Cond.selects "LeadlightHall$Paint" yX1_heat yX1_heat) ∈ am_WS := am_in (am_intb (List.mem_of_getElem? (i := 847) (by decide +kernel))) (by decide +kernel)
set_option maxRecDepth 100000 in
theorem wd_848 : (Jvm.Cond.code yX1_heat prog_3_method_9_code (5 : Nat) (Option.some Jvm.ClassFile.FieldType.int)) ∈ am_WS := am_in (am_intb (List.mem_of_getElem? (i := 848) (by decide +kernel))) (by decide +kernel)
set_option maxRecDepth 100000 in
theorem wd_849 : (Jvm.Cond.fieldLink "LeadlightHall$Paint" (27 : Nat) "LeadlightHall$Paint" "HEATS" "[I") ∈ am_WS := am_in (am_intb (List.mem_of_getElem? (i := 849) (by decide +kernel))) (by decide +kernel)
set_option maxRecDepth 100000 in
theorem wd_85 : (Jvm.Cond.methodLink "LeadlightHall$YearSet" (3 : Nat) ({ cls := "java/lang/Object", name := "<init>", desc := "()V" } : Jvm.MethodName)) ∈ am_WS := am_in (am_intb (List.mem_of_getElem? (i := 85) (by decide +kernel))) (by decide +kernel)
set_option maxRecDepth 100000 in
theorem wd_857 : (Jvm.Cond.code yX7_layers prog_1_method_20_code (4 : Nat) (Option.some Jvm.ClassFile.FieldType.int)) ∈ am_WS := am_in (am_intb (List.mem_of_getElem? (i := 857) (by decide +kernel))) (by decide +kernel)
set_option maxRecDepth 100000 in
theorem wd_86 : (Jvm.Cond.fieldLink "LeadlightHall$YearSet" (11 : Nat) "LeadlightHall$YearSet" "words" "[J") ∈ am_WS := am_in (am_intb (List.mem_of_getElem? (i := 86) (by decide +kernel))) (by decide +kernel)
set_option maxRecDepth 100000 in
theorem wd_865 : (Jvm.Cond.code yX7_seed prog_1_method_21_code (3 : Nat) (Option.some Jvm.ClassFile.FieldType.int)) ∈ am_WS := am_in (am_intb (List.mem_of_getElem? (i := 865) (by decide +kernel))) (by decide +kernel)
set_option maxRecDepth 100000 in
theorem wd_866 : (Jvm.Cond.constant "LeadlightHall" (302 : Nat) (2147483646 : Int32)) ∈ am_WS := am_in (am_intb (List.mem_of_getElem? (i := 866) (by decide +kernel))) (by decide +kernel)
set_option maxRecDepth 100000 in
theorem wd_874 : (Jvm.Cond.code yX7_next prog_1_method_23_code (1 : Nat) (Option.some Jvm.ClassFile.FieldType.int)) ∈ am_WS := am_in (am_intb (List.mem_of_getElem? (i := 874) (by decide +kernel))) (by decide +kernel)
set_option maxRecDepth 100000 in
theorem wd_875 : (Jvm.Cond.methodLink "LeadlightHall" (315 : Nat) yX7_requireNext) ∈ am_WS := am_in (am_intb (List.mem_of_getElem? (i := 875) (by decide +kernel))) (by decide +kernel)
set_option maxRecDepth 100000 in
theorem wd_877 : (Jvm.Cond.instanceMethod yX7_requireNext) ∈ am_WS := am_in (am_intb (List.mem_of_getElem? (i := 877) (by decide +kernel))) (by decide +kernel)
set_option maxRecDepth 100000 in
theorem wd_878 : (Jvm.Cond.code yX7_requireNext prog_1_method_56_code (3 : Nat) (Option.some Jvm.ClassFile.FieldType.int)) ∈ am_WS := am_in (am_intb (List.mem_of_getElem? (i := 878) (by decide +kernel))) (by decide +kernel)
set_option maxRecDepth 100000 in
theorem wd_886 : (Jvm.Cond.code yX7_comes prog_1_method_24_code (2 : Nat) (Option.some Jvm.ClassFile.FieldType.int)) ∈ am_WS := am_in (am_intb (List.mem_of_getElem? (i := 886) (by decide +kernel))) (by decide +kernel)
set_option maxRecDepth 100000 in
theorem wd_893 : (Jvm.Cond.code yX7_solder prog_1_method_25_code (2 : Nat) (Option.some Jvm.ClassFile.FieldType.int)) ∈ am_WS := am_in (am_intb (List.mem_of_getElem? (i := 893) (by decide +kernel))) (by decide +kernel)
set_option maxRecDepth 100000 in
theorem wd_90 : (Jvm.Cond.arrayClass Jvm.ClassFile.FieldType.long) ∈ am_WS := am_in (am_intb (List.mem_of_getElem? (i := 90) (by decide +kernel))) (by decide +kernel)
set_option maxRecDepth 100000 in
theorem wd_901 : (Jvm.Cond.code yX7_bar prog_1_method_27_code (4 : Nat) (Option.some Jvm.ClassFile.FieldType.boolean)) ∈ am_WS := am_in (am_intb (List.mem_of_getElem? (i := 901) (by decide +kernel))) (by decide +kernel)
set_option maxRecDepth 100000 in
theorem wd_903 : (Jvm.Cond.methodLink "LeadlightHall" (322 : Nat) yX0_hasBar) ∈ am_WS := am_in (am_intb (List.mem_of_getElem? (i := 903) (by decide +kernel))) (by decide +kernel)
set_option maxRecDepth 100000 in
theorem wd_904 : (Jvm.Cond.methodLink "LeadlightHall" (325 : Nat) yX0_setBar) ∈ am_WS := am_in (am_intb (List.mem_of_getElem? (i := 904) (by decide +kernel))) (by decide +kernel)
set_option maxRecDepth 100000 in
theorem wd_905 : (Jvm.Cond.instanceMethod yX0_setBar) ∈ am_WS := am_in (am_intb (List.mem_of_getElem? (i := 905) (by decide +kernel))) (by decide +kernel)
set_option maxRecDepth 100000 in
theorem wd_906 : (Jvm.Cond.selects "LeadlightHall$Frame" yX0_setBar yX0_setBar) ∈ am_WS := am_in (am_intb (List.mem_of_getElem? (i := 906) (by decide +kernel))) (by decide +kernel)
set_option maxRecDepth 100000 in
theorem wd_907 : (Jvm.Cond.code yX0_setBar prog_2_method_3_code (3 : Nat) (Option.none : Option Jvm.ClassFile.FieldType)) ∈ am_WS := am_in (am_intb (List.mem_of_getElem? (i := 907) (by decide +kernel))) (by decide +kernel)
set_option maxRecDepth 100000 in
theorem wd_91 : (Jvm.Cond.instantiable "LeadlightHall$Pane" (7 : Nat)) ∈ am_WS := am_in (am_intb (List.mem_of_getElem? (i := 91) (by decide +kernel))) (by decide +kernel)
set_option maxRecDepth 100000 in
theorem wd_914 : (Jvm.Cond.code yX7_profile prog_1_method_28_code (3 : Nat) (Option.some Jvm.ClassFile.FieldType.int)) ∈ am_WS := am_in (am_intb (List.mem_of_getElem? (i := 914) (by decide +kernel))) (by decide +kernel)
set_option maxRecDepth 100000 in
theorem wd_923 : (Jvm.Cond.code yX7_wind prog_1_method_29_code (3 : Nat) (Option.some Jvm.ClassFile.FieldType.int)) ∈ am_WS := am_in (am_intb (List.mem_of_getElem? (i := 923) (by decide +kernel))) (by decide +kernel)
set_option maxRecDepth 100000 in
theorem wd_93 : (Jvm.Cond.instanceMethod yX2_init) ∈ am_WS := am_in (am_intb (List.mem_of_getElem? (i := 93) (by decide +kernel))) (by decide +kernel)
set_option maxRecDepth 100000 in
theorem wd_931 : (Jvm.Cond.code yX7_years prog_1_method_32_code (2 : Nat) (Option.some Jvm.ClassFile.FieldType.int)) ∈ am_WS := am_in (am_intb (List.mem_of_getElem? (i := 931) (by decide +kernel))) (by decide +kernel)
set_option maxRecDepth 100000 in
theorem wd_94 : (Jvm.Cond.code yX2_init prog_4_method_1_code (1 : Nat) (Option.none : Option Jvm.ClassFile.FieldType)) ∈ am_WS := am_in (am_intb (List.mem_of_getElem? (i := 94) (by decide +kernel))) (by decide +kernel)
set_option maxRecDepth 100000 in
theorem wd_940 : (Jvm.Cond.code yX7_looks prog_1_method_33_code (7 : Nat) (Option.some Jvm.ClassFile.FieldType.int)) ∈ am_WS := am_in (am_intb (List.mem_of_getElem? (i := 940) (by decide +kernel))) (by decide +kernel)
set_option maxRecDepth 100000 in
theorem wd_942 : (Jvm.Cond.methodLink "LeadlightHall" (353 : Nat) yJ9_abs_0f7a4) ∈ am_WS := am_in (am_intb (List.mem_of_getElem? (i := 942) (by decide +kernel))) (by decide +kernel)
set_option maxRecDepth 100000 in
theorem wd_943 : (Jvm.Cond.static yJ9_abs_0f7a4) ∈ am_WS := am_in (am_intb (List.mem_of_getElem? (i := 943) (by decide +kernel))) (by decide +kernel)
set_option maxRecDepth 100000 in
theorem wd_945 : (Jvm.Cond.methodLink "LeadlightHall" (358 : Nat) yJ9_max_7cf53) ∈ am_WS := am_in (am_intb (List.mem_of_getElem? (i := 945) (by decide +kernel))) (by decide +kernel)
set_option maxRecDepth 100000 in
theorem wd_946 : (Jvm.Cond.methodLink "LeadlightHall" (361 : Nat) yX7_brightness) ∈ am_WS := am_in (am_intb (List.mem_of_getElem? (i := 946) (by decide +kernel))) (by decide +kernel)
set_option maxRecDepth 100000 in
theorem wd_948 : (Jvm.Cond.instanceMethod yX7_brightness) ∈ am_WS := am_in (am_intb (List.mem_of_getElem? (i := 948) (by decide +kernel))) (by decide +kernel)
set_option maxRecDepth 100000 in
theorem wd_949 : (Jvm.Cond.code yX7_brightness prog_1_method_64_code (7 : Nat) (Option.some Jvm.ClassFile.FieldType.int)) ∈ am_WS := am_in (am_intb (List.mem_of_getElem? (i := 949) (by decide +kernel))) (by decide +kernel)
set_option maxRecDepth 100000 in
theorem wd_95 : (Jvm.Cond.methodLink "LeadlightHall$Pane" (3 : Nat) ({ cls := "java/lang/Object", name := "<init>", desc := "()V" } : Jvm.MethodName)) ∈ am_WS := am_in (am_intb (List.mem_of_getElem? (i := 95) (by decide +kernel))) (by decide +kernel)
set_option maxRecDepth 100000 in
theorem wd_950 : (Jvm.Cond.methodLink "LeadlightHall" (393 : Nat) yX2_lacksGlass) ∈ am_WS := am_in (am_intb (List.mem_of_getElem? (i := 950) (by decide +kernel))) (by decide +kernel)
set_option maxRecDepth 100000 in
theorem wd_951 : (Jvm.Cond.instanceMethod yX2_lacksGlass) ∈ am_WS := am_in (am_intb (List.mem_of_getElem? (i := 951) (by decide +kernel))) (by decide +kernel)
set_option maxRecDepth 100000 in
theorem wd_952 : (Jvm.Cond.selects "LeadlightHall$Pane" yX2_lacksGlass yX2_lacksGlass) ∈ am_WS := am_in (am_intb (List.mem_of_getElem? (i := 952) (by decide +kernel))) (by decide +kernel)
set_option maxRecDepth 100000 in
theorem wd_953 : (Jvm.Cond.code yX2_lacksGlass prog_4_method_3_code (1 : Nat) (Option.some Jvm.ClassFile.FieldType.boolean)) ∈ am_WS := am_in (am_intb (List.mem_of_getElem? (i := 953) (by decide +kernel))) (by decide +kernel)
set_option maxRecDepth 100000 in
theorem wd_96 : (Jvm.Cond.classLink "LeadlightHall$Pane" (28 : Nat) "LeadlightHall$Paint") ∈ am_WS := am_in (am_intb (List.mem_of_getElem? (i := 96) (by decide +kernel))) (by decide +kernel)
set_option maxRecDepth 100000 in
theorem wd_960 : (Jvm.Cond.code yX7_hit prog_1_method_34_code (4 : Nat) (Option.some Jvm.ClassFile.FieldType.boolean)) ∈ am_WS := am_in (am_intb (List.mem_of_getElem? (i := 960) (by decide +kernel))) (by decide +kernel)
set_option maxRecDepth 100000 in
theorem wd_968 : (Jvm.Cond.code yX7_mend prog_1_method_35_code (3 : Nat) (Option.some Jvm.ClassFile.FieldType.int)) ∈ am_WS := am_in (am_intb (List.mem_of_getElem? (i := 968) (by decide +kernel))) (by decide +kernel)
set_option maxRecDepth 100000 in
theorem wd_97 : (Jvm.Cond.instantiable "LeadlightHall$Paint" (2 : Nat)) ∈ am_WS := am_in (am_intb (List.mem_of_getElem? (i := 97) (by decide +kernel))) (by decide +kernel)
set_option maxRecDepth 100000 in
theorem wd_976 : (Jvm.Cond.code yX7_stopgap prog_1_method_36_code (6 : Nat) (Option.some Jvm.ClassFile.FieldType.int)) ∈ am_WS := am_in (am_intb (List.mem_of_getElem? (i := 976) (by decide +kernel))) (by decide +kernel)
set_option maxRecDepth 100000 in
theorem wd_985 : (Jvm.Cond.code yX7_year prog_1_method_37_code (2 : Nat) (Option.some Jvm.ClassFile.FieldType.int)) ∈ am_WS := am_in (am_intb (List.mem_of_getElem? (i := 985) (by decide +kernel))) (by decide +kernel)
set_option maxRecDepth 100000 in
theorem wd_99 : (Jvm.Cond.instanceMethod yX1_init) ∈ am_WS := am_in (am_intb (List.mem_of_getElem? (i := 99) (by decide +kernel))) (by decide +kernel)
set_option maxRecDepth 100000 in
theorem wd_992 : (Jvm.Cond.code yX7_fits prog_1_method_39_code (5 : Nat) (Option.some Jvm.ClassFile.FieldType.int)) ∈ am_WS := am_in (am_intb (List.mem_of_getElem? (i := 992) (by decide +kernel))) (by decide +kernel)
set_option maxRecDepth 100000 in
theorem wd_993 : (Jvm.Cond.methodLink "LeadlightHall" (396 : Nat) yX3_isLike) ∈ am_WS := am_in (am_intb (List.mem_of_getElem? (i := 993) (by decide +kernel))) (by decide +kernel)
set_option maxRecDepth 100000 in
theorem wd_994 : (Jvm.Cond.instanceMethod yX3_isLike) ∈ am_WS := am_in (am_intb (List.mem_of_getElem? (i := 994) (by decide +kernel))) (by decide +kernel)
set_option maxRecDepth 100000 in
theorem wd_995 : (Jvm.Cond.selects "LeadlightHall$Shape" yX3_isLike yX3_isLike) ∈ am_WS := am_in (am_intb (List.mem_of_getElem? (i := 995) (by decide +kernel))) (by decide +kernel)
set_option maxRecDepth 100000 in
theorem wd_996 : (Jvm.Cond.code yX3_isLike prog_5_method_23_code (3 : Nat) (Option.some Jvm.ClassFile.FieldType.boolean)) ∈ am_WS := am_in (am_intb (List.mem_of_getElem? (i := 996) (by decide +kernel))) (by decide +kernel)
set_option maxRecDepth 100000 in
theorem ps_X3_columnsUsed : Cond.selects RX3 yX3_columnsUsed yX3_columnsUsed ∈ am_WS := am_in (List.mem_append_left _ (by decide +kernel)) rfl
set_option maxRecDepth 100000 in
theorem ps_X3_grow : Cond.selects RX3 yX3_grow yX3_grow ∈ am_WS := am_in (List.mem_append_left _ (by decide +kernel)) rfl
set_option maxRecDepth 100000 in
theorem ps_X3_narrowInColumn : Cond.selects RX3 yX3_narrowInColumn yX3_narrowInColumn ∈ am_WS := am_in (List.mem_append_left _ (by decide +kernel)) rfl
set_option maxRecDepth 100000 in
theorem ps_X3_narrowInRow : Cond.selects RX3 yX3_narrowInRow yX3_narrowInRow ∈ am_WS := am_in (List.mem_append_left _ (by decide +kernel)) rfl
set_option maxRecDepth 100000 in
theorem ps_X3_touchesOver : Cond.selects RX3 yX3_touchesOver yX3_touchesOver ∈ am_WS := am_in (List.mem_append_left _ (by decide +kernel)) rfl
set_option maxRecDepth 100000 in
theorem ps_X4_isFreeAt : Cond.selects RX4 yX4_isFreeAt yX4_isFreeAt ∈ am_WS := am_in (List.mem_append_left _ (by decide +kernel)) rfl
set_option maxRecDepth 100000 in
theorem ps_X7_brightness : Cond.selects RX7 yX7_brightness yX7_brightness ∈ am_WS := am_in (List.mem_append_left _ (by decide +kernel)) rfl
set_option maxRecDepth 100000 in
theorem ps_X7_isCuttable : Cond.selects RX7 yX7_isCuttable yX7_isCuttable ∈ am_WS := am_in (List.mem_append_left _ (by decide +kernel)) rfl
set_option maxRecDepth 100000 in
theorem ps_X7_isGlassWithin : Cond.selects RX7 yX7_isGlassWithin yX7_isGlassWithin ∈ am_WS := am_in (List.mem_append_left _ (by decide +kernel)) rfl
set_option maxRecDepth 100000 in
theorem ps_X7_isOpenWithin : Cond.selects RX7 yX7_isOpenWithin yX7_isOpenWithin ∈ am_WS := am_in (List.mem_append_left _ (by decide +kernel)) rfl
set_option maxRecDepth 100000 in
theorem ps_X7_lowestFreeOf : Cond.selects RX7 yX7_lowestFreeOf yX7_lowestFreeOf ∈ am_WS := am_in (List.mem_append_left _ (by decide +kernel)) rfl
set_option maxRecDepth 100000 in
theorem ps_X7_lowestWithoutCells : Cond.selects RX7 yX7_lowestWithoutCells yX7_lowestWithoutCells ∈ am_WS := am_in (List.mem_append_left _ (by decide +kernel)) rfl
set_option maxRecDepth 100000 in
theorem ps_X7_panesThatAre : Cond.selects RX7 yX7_panesThatAre yX7_panesThatAre ∈ am_WS := am_in (List.mem_append_left _ (by decide +kernel)) rfl
set_option maxRecDepth 100000 in
theorem ps_X7_requireGlass : Cond.selects RX7 yX7_requireGlass yX7_requireGlass ∈ am_WS := am_in (List.mem_append_left _ (by decide +kernel)) rfl
set_option maxRecDepth 100000 in
theorem ps_X7_requireNext : Cond.selects RX7 yX7_requireNext yX7_requireNext ∈ am_WS := am_in (List.mem_append_left _ (by decide +kernel)) rfl
set_option maxRecDepth 100000 in
theorem ps_X7_requireSheet : Cond.selects RX7 yX7_requireSheet yX7_requireSheet ∈ am_WS := am_in (List.mem_append_left _ (by decide +kernel)) rfl
set_option maxRecDepth 100000 in
theorem ps_X7_take : Cond.selects RX7 yX7_take yX7_take ∈ am_WS := am_in (List.mem_append_left _ (by decide +kernel)) rfl
set_option maxRecDepth 100000 in
theorem ps_X7_yearsUp : Cond.selects RX7 yX7_yearsUp yX7_yearsUp ∈ am_WS := am_in (List.mem_append_left _ (by decide +kernel)) rfl
set_option maxRecDepth 100000 in
theorem inw_X0 : ∀ w ∈ u_ws RX0 TX0 3, w ∈ am_WS := by decide +kernel
set_option maxRecDepth 100000 in
theorem inw_X1 : ∀ w ∈ u_ws RX1 TX1 2, w ∈ am_WS := by decide +kernel
set_option maxRecDepth 100000 in
theorem inw_X2 : ∀ w ∈ u_ws RX2 TX2 7, w ∈ am_WS := by decide +kernel
set_option maxRecDepth 100000 in
theorem inw_X3 : ∀ w ∈ u_ws RX3 TX3 2, w ∈ am_WS := by decide +kernel
set_option maxRecDepth 100000 in
theorem inw_X4 : ∀ w ∈ u_ws RX4 TX4 5, w ∈ am_WS := by decide +kernel
set_option maxRecDepth 100000 in
theorem inw_X5 : ∀ w ∈ u_ws RX5 TX5 1, w ∈ am_WS := by decide +kernel
set_option maxRecDepth 100000 in
theorem inw_X6 : ∀ w ∈ u_ws RX6 TX6 1, w ∈ am_WS := by decide +kernel
set_option maxRecDepth 100000 in
theorem inw_X7 : ∀ w ∈ u_ws RX7 TX7 16, w ∈ am_WS := by decide +kernel
set_option maxRecDepth 100000 in
theorem inw_X8 : ∀ w ∈ u_ws RX8 TX8 22, w ∈ am_WS := by decide +kernel
set_option maxRecDepth 100000 in
theorem at_191 : ∀ w ∈ vx_atS "LeadlightHall" 191 "java/lang/IllegalArgumentException" ["java/lang/RuntimeException", "java/lang/Exception"], w ∈ am_WS ∨ w ∈ am_NW := by decide +kernel
set_option maxRecDepth 100000 in
theorem at_191_g {w1 w2 : Cond} (h1 : vx_ot w1 = true) (h2 : vx_ot w2 = true) : ∀ w ∈ w1 :: w2 :: vx_atS "LeadlightHall" 191 "java/lang/IllegalArgumentException" ["java/lang/RuntimeException", "java/lang/Exception"], vx_ot w = true := List.forall_mem_cons.mpr ⟨h1, List.forall_mem_cons.mpr ⟨h2, by decide +kernel⟩⟩
set_option maxRecDepth 100000 in
theorem at_96 : ∀ w ∈ vx_atS "LeadlightHall" 96 "java/lang/UnsupportedOperationException" ["java/lang/RuntimeException", "java/lang/Exception"], w ∈ am_WS ∨ w ∈ am_NW := by decide +kernel
set_option maxRecDepth 100000 in
theorem at_96_g {w1 w2 : Cond} (h1 : vx_ot w1 = true) (h2 : vx_ot w2 = true) : ∀ w ∈ w1 :: w2 :: vx_atS "LeadlightHall" 96 "java/lang/UnsupportedOperationException" ["java/lang/RuntimeException", "java/lang/Exception"], vx_ot w = true := List.forall_mem_cons.mpr ⟨h1, List.forall_mem_cons.mpr ⟨h2, by decide +kernel⟩⟩
set_option maxRecDepth 100000 in
theorem at_419 : ∀ w ∈ vx_atS "LeadlightHall" 419 "java/lang/IndexOutOfBoundsException" ["java/lang/RuntimeException", "java/lang/Exception"], w ∈ am_WS ∨ w ∈ am_NW := by decide +kernel
set_option maxRecDepth 100000 in
theorem at_419_g {w1 w2 : Cond} (h1 : vx_ot w1 = true) (h2 : vx_ot w2 = true) : ∀ w ∈ w1 :: w2 :: vx_atS "LeadlightHall" 419 "java/lang/IndexOutOfBoundsException" ["java/lang/RuntimeException", "java/lang/Exception"], vx_ot w = true := List.forall_mem_cons.mpr ⟨h1, List.forall_mem_cons.mpr ⟨h2, by decide +kernel⟩⟩
set_option maxRecDepth 100000 in
theorem at_156 : ∀ w ∈ vx_atS "LeadlightHall" 156 "java/lang/IllegalStateException" ["java/lang/RuntimeException", "java/lang/Exception"], w ∈ am_WS ∨ w ∈ am_NW := by decide +kernel
set_option maxRecDepth 100000 in
theorem at_156_g {w1 w2 : Cond} (h1 : vx_ot w1 = true) (h2 : vx_ot w2 = true) : ∀ w ∈ w1 :: w2 :: vx_atS "LeadlightHall" 156 "java/lang/IllegalStateException" ["java/lang/RuntimeException", "java/lang/Exception"], vx_ot w = true := List.forall_mem_cons.mpr ⟨h1, List.forall_mem_cons.mpr ⟨h2, by decide +kernel⟩⟩
set_option maxRecDepth 100000 in
theorem at_406 : ∀ w ∈ vn_atS "LeadlightHall" 406 "java/util/NoSuchElementException" ["java/lang/RuntimeException", "java/lang/Exception"], w ∈ am_WS ∨ w ∈ am_NW := by decide +kernel
set_option maxRecDepth 100000 in
theorem at_406_g {w1 w2 : Cond} (h1 : vx_ot w1 = true) (h2 : vx_ot w2 = true) : ∀ w ∈ w1 :: w2 :: vn_atS "LeadlightHall" 406 "java/util/NoSuchElementException" ["java/lang/RuntimeException", "java/lang/Exception"], vx_ot w = true := List.forall_mem_cons.mpr ⟨h1, List.forall_mem_cons.mpr ⟨h2, by decide +kernel⟩⟩
theorem oi_inst : Cond.instanceMethod Lib.objectInit ∈ am_WS := am_in (am_intb (List.mem_of_getElem? (i := 32) (by decide +kernel))) (by decide +kernel)
theorem oi_code : Cond.code Lib.objectInit ⟨#[0xb1]⟩ 1 none ∈ am_WS := am_in (am_intb (List.mem_of_getElem? (i := 33) (by decide +kernel))) (by decide +kernel)
theorem cm_max : Cond.code Lib.Math.max.name Lib.Math.max.code 2 (some .int) ∈ am_WS := am_in (am_intb (List.mem_of_getElem? (i := 284) (by decide +kernel))) (by decide +kernel)
theorem cm_min : Cond.code Lib.Math.min.name Lib.Math.min.code 2 (some .int) ∈ am_WS := am_in (am_intb (List.mem_of_getElem? (i := 1249) (by decide +kernel))) (by decide +kernel)
theorem cm_abs : Cond.code Lib.Math.abs.name Lib.Math.abs.code 1 (some .int) ∈ am_WS := am_in (am_intb (List.mem_of_getElem? (i := 944) (by decide +kernel))) (by decide +kernel)
