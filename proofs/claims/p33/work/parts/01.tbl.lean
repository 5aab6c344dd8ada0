-- ===== PART A: goes FIRST, ahead of the names: the tables' words, and 'selects' of the private methods out of them =====
theorem am_t1 {w : Cond} (h : w ∈ tables_1_1) : w ∈ tables_1 := List.mem_append_left _ h
theorem am_t2 {w : Cond} (h : w ∈ tables_1_2) : w ∈ tables_1 := List.mem_append_right _ (List.mem_append_left _ h)
theorem am_t3 {w : Cond} (h : w ∈ tables_1_3) : w ∈ tables_1 := List.mem_append_right _ (List.mem_append_right _ (List.mem_append_left _ h))
theorem am_t4 {w : Cond} (h : w ∈ tables_1_4) : w ∈ tables_1 := List.mem_append_right _ (List.mem_append_right _ (List.mem_append_right _ (List.mem_append_left _ h)))
theorem am_t5 {w : Cond} (h : w ∈ tables_1_5) : w ∈ tables_1 := List.mem_append_right _ (List.mem_append_right _ (List.mem_append_right _ (List.mem_append_right _ (List.mem_append_left _ h))))
theorem am_t6 {w : Cond} (h : w ∈ tables_1_6) : w ∈ tables_1 := List.mem_append_right _ (List.mem_append_right _ (List.mem_append_right _ (List.mem_append_right _ (List.mem_append_right _ (List.mem_append_left _ h)))))
theorem am_t7 {w : Cond} (h : w ∈ tables_1_7) : w ∈ tables_1 := List.mem_append_right _ (List.mem_append_right _ (List.mem_append_right _ (List.mem_append_right _ (List.mem_append_right _ (List.mem_append_right _ (h))))))
/-- a private method of a class that the tables say can be made, by its rows of tables_1 -/
def lw_okq (q : MethodName × Nat) : Prop := (q.1.cls ≠ "java/lang/invoke/MethodHandle" ∧ q.1.cls ≠ "java/lang/invoke/VarHandle") ∧ Cond.instantiable q.1.cls q.2 ∈ tables_1 ∧ Cond.privateMethod q.1 ∈ tables_1 ∧ Cond.instanceMethod q.1 ∈ tables_1
theorem lw_p0 : lw_okq (⟨"LeadlightHall", "lowestFreeOf", "(II)I"⟩, 16) := ⟨⟨by decide +kernel, by decide +kernel⟩, am_t1 (List.mem_of_getElem? (i := 27) rfl), am_t2 (List.mem_of_getElem? (i := 19) rfl), am_t2 (List.mem_of_getElem? (i := 20) rfl)⟩
theorem lw_p1 : lw_okq (⟨"LeadlightHall", "yearsUp", "()I"⟩, 16) := ⟨⟨by decide +kernel, by decide +kernel⟩, am_t1 (List.mem_of_getElem? (i := 27) rfl), am_t2 (List.mem_of_getElem? (i := 31) rfl), am_t2 (List.mem_of_getElem? (i := 32) rfl)⟩
theorem lw_p2 : lw_okq (⟨"LeadlightHall", "panesThatAre", "(C)I"⟩, 16) := ⟨⟨by decide +kernel, by decide +kernel⟩, am_t1 (List.mem_of_getElem? (i := 27) rfl), am_t2 (List.mem_of_getElem? (i := 112) rfl), am_t2 (List.mem_of_getElem? (i := 113) rfl)⟩
theorem lw_p3 : lw_okq (⟨"LeadlightHall", "isCuttable", "(I)Z"⟩, 16) := ⟨⟨by decide +kernel, by decide +kernel⟩, am_t1 (List.mem_of_getElem? (i := 27) rfl), am_t2 (List.mem_of_getElem? (i := 116) rfl), am_t2 (List.mem_of_getElem? (i := 117) rfl)⟩
theorem lw_p4 : lw_okq (⟨"LeadlightHall$Shape", "grow", "()Z"⟩, 2) := ⟨⟨by decide +kernel, by decide +kernel⟩, am_t1 (List.mem_of_getElem? (i := 68) rfl), am_t2 (List.mem_of_getElem? (i := 137) rfl), am_t2 (List.mem_of_getElem? (i := 138) rfl)⟩
theorem lw_p5 : lw_okq (⟨"java/lang/Throwable", "fillInStackTrace", "(I)Ljava/lang/Throwable;"⟩, 6) := ⟨⟨by decide +kernel, by decide +kernel⟩, am_t2 (List.mem_of_getElem? (i := 203) rfl), am_t2 (List.mem_of_getElem? (i := 201) rfl), am_t2 (List.mem_of_getElem? (i := 202) rfl)⟩
theorem lw_p6 : lw_okq (⟨"LeadlightHall", "isGlassWithin", "(IIII)Z"⟩, 16) := ⟨⟨by decide +kernel, by decide +kernel⟩, am_t1 (List.mem_of_getElem? (i := 27) rfl), am_t2 (List.mem_of_getElem? (i := 233) rfl), am_t2 (List.mem_of_getElem? (i := 234) rfl)⟩
theorem lw_p7 : lw_okq (⟨"LeadlightHall", "isOpenWithin", "(IIII)Z"⟩, 16) := ⟨⟨by decide +kernel, by decide +kernel⟩, am_t1 (List.mem_of_getElem? (i := 27) rfl), am_t3 (List.mem_of_getElem? (i := 48) rfl), am_t3 (List.mem_of_getElem? (i := 49) rfl)⟩
theorem lw_p8 : lw_okq (⟨"LeadlightHall$Shape", "narrowInRow", "(I)I"⟩, 2) := ⟨⟨by decide +kernel, by decide +kernel⟩, am_t1 (List.mem_of_getElem? (i := 68) rfl), am_t3 (List.mem_of_getElem? (i := 89) rfl), am_t3 (List.mem_of_getElem? (i := 90) rfl)⟩
theorem lw_p9 : lw_okq (⟨"LeadlightHall$Shape", "narrowInColumn", "(I)I"⟩, 2) := ⟨⟨by decide +kernel, by decide +kernel⟩, am_t1 (List.mem_of_getElem? (i := 68) rfl), am_t3 (List.mem_of_getElem? (i := 101) rfl), am_t3 (List.mem_of_getElem? (i := 102) rfl)⟩
theorem lw_p10 : lw_okq (⟨"LeadlightHall$Shape", "touchesOver", "(I)I"⟩, 2) := ⟨⟨by decide +kernel, by decide +kernel⟩, am_t1 (List.mem_of_getElem? (i := 68) rfl), am_t3 (List.mem_of_getElem? (i := 144) rfl), am_t3 (List.mem_of_getElem? (i := 145) rfl)⟩
theorem lw_p11 : lw_okq (⟨"LeadlightHall", "lowestWithoutCells", "()I"⟩, 16) := ⟨⟨by decide +kernel, by decide +kernel⟩, am_t1 (List.mem_of_getElem? (i := 27) rfl), am_t3 (List.mem_of_getElem? (i := 149) rfl), am_t3 (List.mem_of_getElem? (i := 150) rfl)⟩
theorem lw_p12 : lw_okq (⟨"LeadlightHall", "requireSheet", "(I)V"⟩, 16) := ⟨⟨by decide +kernel, by decide +kernel⟩, am_t1 (List.mem_of_getElem? (i := 27) rfl), am_t3 (List.mem_of_getElem? (i := 206) rfl), am_t3 (List.mem_of_getElem? (i := 207) rfl)⟩
theorem lw_p13 : lw_okq (⟨"LeadlightHall$Shape", "columnsUsed", "()I"⟩, 2) := ⟨⟨by decide +kernel, by decide +kernel⟩, am_t1 (List.mem_of_getElem? (i := 68) rfl), am_t4 (List.mem_of_getElem? (i := 3) rfl), am_t4 (List.mem_of_getElem? (i := 4) rfl)⟩
theorem lw_p14 : lw_okq (⟨"LeadlightHall$Sheet", "isFreeAt", "(LLeadlightHall$Shape;II)Z"⟩, 5) := ⟨⟨by decide +kernel, by decide +kernel⟩, am_t1 (List.mem_of_getElem? (i := 140) rfl), am_t4 (List.mem_of_getElem? (i := 26) rfl), am_t4 (List.mem_of_getElem? (i := 27) rfl)⟩
theorem lw_p15 : lw_okq (⟨"LeadlightHall", "take", "(LLeadlightHall$Sheet;LLeadlightHall$Shape;I)V"⟩, 16) := ⟨⟨by decide +kernel, by decide +kernel⟩, am_t1 (List.mem_of_getElem? (i := 27) rfl), am_t4 (List.mem_of_getElem? (i := 32) rfl), am_t4 (List.mem_of_getElem? (i := 33) rfl)⟩
def lw_privs_1 : List (MethodName × Nat) := [(⟨"LeadlightHall", "lowestFreeOf", "(II)I"⟩, 16), (⟨"LeadlightHall", "yearsUp", "()I"⟩, 16), (⟨"LeadlightHall", "panesThatAre", "(C)I"⟩, 16), (⟨"LeadlightHall", "isCuttable", "(I)Z"⟩, 16), (⟨"LeadlightHall$Shape", "grow", "()Z"⟩, 2), (⟨"java/lang/Throwable", "fillInStackTrace", "(I)Ljava/lang/Throwable;"⟩, 6), (⟨"LeadlightHall", "isGlassWithin", "(IIII)Z"⟩, 16), (⟨"LeadlightHall", "isOpenWithin", "(IIII)Z"⟩, 16), (⟨"LeadlightHall$Shape", "narrowInRow", "(I)I"⟩, 2), (⟨"LeadlightHall$Shape", "narrowInColumn", "(I)I"⟩, 2), (⟨"LeadlightHall$Shape", "touchesOver", "(I)I"⟩, 2), (⟨"LeadlightHall", "lowestWithoutCells", "()I"⟩, 16), (⟨"LeadlightHall", "requireSheet", "(I)V"⟩, 16), (⟨"LeadlightHall$Shape", "columnsUsed", "()I"⟩, 2), (⟨"LeadlightHall$Sheet", "isFreeAt", "(LLeadlightHall$Shape;II)Z"⟩, 5), (⟨"LeadlightHall", "take", "(LLeadlightHall$Sheet;LLeadlightHall$Shape;I)V"⟩, 16)]
theorem lw_r1 : ∀ q ∈ lw_privs_1, lw_okq q := List.forall_mem_cons.mpr ⟨lw_p0, List.forall_mem_cons.mpr ⟨lw_p1, List.forall_mem_cons.mpr ⟨lw_p2, List.forall_mem_cons.mpr ⟨lw_p3, List.forall_mem_cons.mpr ⟨lw_p4, List.forall_mem_cons.mpr ⟨lw_p5, List.forall_mem_cons.mpr ⟨lw_p6, List.forall_mem_cons.mpr ⟨lw_p7, List.forall_mem_cons.mpr ⟨lw_p8, List.forall_mem_cons.mpr ⟨lw_p9, List.forall_mem_cons.mpr ⟨lw_p10, List.forall_mem_cons.mpr ⟨lw_p11, List.forall_mem_cons.mpr ⟨lw_p12, List.forall_mem_cons.mpr ⟨lw_p13, List.forall_mem_cons.mpr ⟨lw_p14, List.forall_mem_cons.mpr ⟨lw_p15, fun _ h => absurd h List.not_mem_nil⟩⟩⟩⟩⟩⟩⟩⟩⟩⟩⟩⟩⟩⟩⟩⟩
theorem lw_p16 : lw_okq (⟨"LeadlightHall", "requireGlass", "(I)V"⟩, 16) := ⟨⟨by decide +kernel, by decide +kernel⟩, am_t1 (List.mem_of_getElem? (i := 27) rfl), am_t4 (List.mem_of_getElem? (i := 67) rfl), am_t4 (List.mem_of_getElem? (i := 68) rfl)⟩
theorem lw_p17 : lw_okq (⟨"LeadlightHall", "requireNext", "()I"⟩, 16) := ⟨⟨by decide +kernel, by decide +kernel⟩, am_t1 (List.mem_of_getElem? (i := 27) rfl), am_t4 (List.mem_of_getElem? (i := 156) rfl), am_t4 (List.mem_of_getElem? (i := 157) rfl)⟩
theorem lw_p18 : lw_okq (⟨"LeadlightHall", "brightness", "(III)I"⟩, 16) := ⟨⟨by decide +kernel, by decide +kernel⟩, am_t1 (List.mem_of_getElem? (i := 27) rfl), am_t4 (List.mem_of_getElem? (i := 227) rfl), am_t4 (List.mem_of_getElem? (i := 228) rfl)⟩
theorem lw_p19 : lw_okq (⟨"LeadlightHallModel", "isThrown", "(ZI)Z"⟩, 22) := ⟨⟨by decide +kernel, by decide +kernel⟩, am_t5 (List.mem_of_getElem? (i := 53) rfl), am_t5 (List.mem_of_getElem? (i := 151) rfl), am_t5 (List.mem_of_getElem? (i := 152) rfl)⟩
theorem lw_p20 : lw_okq (⟨"LeadlightHallModel", "isUpNow", "()Z"⟩, 22) := ⟨⟨by decide +kernel, by decide +kernel⟩, am_t5 (List.mem_of_getElem? (i := 53) rfl), am_t5 (List.mem_of_getElem? (i := 155) rfl), am_t5 (List.mem_of_getElem? (i := 156) rfl)⟩
theorem lw_p21 : lw_okq (⟨"LeadlightHallModel", "at", "(II)I"⟩, 22) := ⟨⟨by decide +kernel, by decide +kernel⟩, am_t5 (List.mem_of_getElem? (i := 53) rfl), am_t5 (List.mem_of_getElem? (i := 159) rfl), am_t5 (List.mem_of_getElem? (i := 160) rfl)⟩
theorem lw_p22 : lw_okq (⟨"LeadlightHallModel", "hasGlass", "(I)Z"⟩, 22) := ⟨⟨by decide +kernel, by decide +kernel⟩, am_t5 (List.mem_of_getElem? (i := 53) rfl), am_t5 (List.mem_of_getElem? (i := 163) rfl), am_t5 (List.mem_of_getElem? (i := 164) rfl)⟩
theorem lw_p23 : lw_okq (⟨"LeadlightHallModel", "sizeOf", "(I)I"⟩, 22) := ⟨⟨by decide +kernel, by decide +kernel⟩, am_t5 (List.mem_of_getElem? (i := 53) rfl), am_t5 (List.mem_of_getElem? (i := 174) rfl), am_t5 (List.mem_of_getElem? (i := 175) rfl)⟩
theorem lw_p24 : lw_okq (⟨"LeadlightHallModel", "shapeOf", "(I)[Z"⟩, 22) := ⟨⟨by decide +kernel, by decide +kernel⟩, am_t5 (List.mem_of_getElem? (i := 53) rfl), am_t5 (List.mem_of_getElem? (i := 190) rfl), am_t5 (List.mem_of_getElem? (i := 191) rfl)⟩
theorem lw_p25 : lw_okq (⟨"LeadlightHallModel", "leadNow", "()I"⟩, 22) := ⟨⟨by decide +kernel, by decide +kernel⟩, am_t5 (List.mem_of_getElem? (i := 53) rfl), am_t6 (List.mem_of_getElem? (i := 9) rfl), am_t6 (List.mem_of_getElem? (i := 10) rfl)⟩
theorem lw_p26 : lw_okq (⟨"LeadlightHallModel", "isLead", "(IIII)Z"⟩, 22) := ⟨⟨by decide +kernel, by decide +kernel⟩, am_t5 (List.mem_of_getElem? (i := 53) rfl), am_t6 (List.mem_of_getElem? (i := 13) rfl), am_t6 (List.mem_of_getElem? (i := 14) rfl)⟩
theorem lw_p27 : lw_okq (⟨"LeadlightHallModel", "jointsNow", "()I"⟩, 22) := ⟨⟨by decide +kernel, by decide +kernel⟩, am_t5 (List.mem_of_getElem? (i := 53) rfl), am_t6 (List.mem_of_getElem? (i := 21) rfl), am_t6 (List.mem_of_getElem? (i := 22) rfl)⟩
theorem lw_p28 : lw_okq (⟨"LeadlightHallModel", "isNoSheet", "(I)Z"⟩, 22) := ⟨⟨by decide +kernel, by decide +kernel⟩, am_t5 (List.mem_of_getElem? (i := 53) rfl), am_t6 (List.mem_of_getElem? (i := 33) rfl), am_t6 (List.mem_of_getElem? (i := 34) rfl)⟩
theorem lw_p29 : lw_okq (⟨"LeadlightHallModel", "placeOn", "(I[Z)I"⟩, 22) := ⟨⟨by decide +kernel, by decide +kernel⟩, am_t5 (List.mem_of_getElem? (i := 53) rfl), am_t6 (List.mem_of_getElem? (i := 51) rfl), am_t6 (List.mem_of_getElem? (i := 52) rfl)⟩
theorem lw_p30 : lw_okq (⟨"LeadlightHallModel", "isFreeAt", "(I[ZI)Z"⟩, 22) := ⟨⟨by decide +kernel, by decide +kernel⟩, am_t5 (List.mem_of_getElem? (i := 53) rfl), am_t6 (List.mem_of_getElem? (i := 55) rfl), am_t6 (List.mem_of_getElem? (i := 56) rfl)⟩
theorem lw_p31 : lw_okq (⟨"LeadlightHallModel", "uses", "(II[Z)V"⟩, 22) := ⟨⟨by decide +kernel, by decide +kernel⟩, am_t5 (List.mem_of_getElem? (i := 53) rfl), am_t6 (List.mem_of_getElem? (i := 59) rfl), am_t6 (List.mem_of_getElem? (i := 60) rfl)⟩
def lw_privs_2 : List (MethodName × Nat) := [(⟨"LeadlightHall", "requireGlass", "(I)V"⟩, 16), (⟨"LeadlightHall", "requireNext", "()I"⟩, 16), (⟨"LeadlightHall", "brightness", "(III)I"⟩, 16), (⟨"LeadlightHallModel", "isThrown", "(ZI)Z"⟩, 22), (⟨"LeadlightHallModel", "isUpNow", "()Z"⟩, 22), (⟨"LeadlightHallModel", "at", "(II)I"⟩, 22), (⟨"LeadlightHallModel", "hasGlass", "(I)Z"⟩, 22), (⟨"LeadlightHallModel", "sizeOf", "(I)I"⟩, 22), (⟨"LeadlightHallModel", "shapeOf", "(I)[Z"⟩, 22), (⟨"LeadlightHallModel", "leadNow", "()I"⟩, 22), (⟨"LeadlightHallModel", "isLead", "(IIII)Z"⟩, 22), (⟨"LeadlightHallModel", "jointsNow", "()I"⟩, 22), (⟨"LeadlightHallModel", "isNoSheet", "(I)Z"⟩, 22), (⟨"LeadlightHallModel", "placeOn", "(I[Z)I"⟩, 22), (⟨"LeadlightHallModel", "isFreeAt", "(I[ZI)Z"⟩, 22), (⟨"LeadlightHallModel", "uses", "(II[Z)V"⟩, 22)]
theorem lw_r2 : ∀ q ∈ lw_privs_2, lw_okq q := List.forall_mem_cons.mpr ⟨lw_p16, List.forall_mem_cons.mpr ⟨lw_p17, List.forall_mem_cons.mpr ⟨lw_p18, List.forall_mem_cons.mpr ⟨lw_p19, List.forall_mem_cons.mpr ⟨lw_p20, List.forall_mem_cons.mpr ⟨lw_p21, List.forall_mem_cons.mpr ⟨lw_p22, List.forall_mem_cons.mpr ⟨lw_p23, List.forall_mem_cons.mpr ⟨lw_p24, List.forall_mem_cons.mpr ⟨lw_p25, List.forall_mem_cons.mpr ⟨lw_p26, List.forall_mem_cons.mpr ⟨lw_p27, List.forall_mem_cons.mpr ⟨lw_p28, List.forall_mem_cons.mpr ⟨lw_p29, List.forall_mem_cons.mpr ⟨lw_p30, List.forall_mem_cons.mpr ⟨lw_p31, fun _ h => absurd h List.not_mem_nil⟩⟩⟩⟩⟩⟩⟩⟩⟩⟩⟩⟩⟩⟩⟩⟩
theorem lw_p32 : lw_okq (⟨"LeadlightHallModel", "comesNew", "(IIC)V"⟩, 22) := ⟨⟨by decide +kernel, by decide +kernel⟩, am_t5 (List.mem_of_getElem? (i := 53) rfl), am_t6 (List.mem_of_getElem? (i := 67) rfl), am_t6 (List.mem_of_getElem? (i := 68) rfl)⟩
theorem lw_p33 : lw_okq (⟨"LeadlightHallModel", "hasStain", "(I)Z"⟩, 22) := ⟨⟨by decide +kernel, by decide +kernel⟩, am_t5 (List.mem_of_getElem? (i := 53) rfl), am_t6 (List.mem_of_getElem? (i := 171) rfl), am_t6 (List.mem_of_getElem? (i := 172) rfl)⟩
theorem lw_p34 : lw_okq (⟨"LeadlightHallModel", "fires", "(II)I"⟩, 22) := ⟨⟨by decide +kernel, by decide +kernel⟩, am_t5 (List.mem_of_getElem? (i := 53) rfl), am_t6 (List.mem_of_getElem? (i := 181) rfl), am_t6 (List.mem_of_getElem? (i := 182) rfl)⟩
theorem lw_p35 : lw_okq (⟨"LeadlightHallModel", "layersOf", "(IZ)I"⟩, 22) := ⟨⟨by decide +kernel, by decide +kernel⟩, am_t5 (List.mem_of_getElem? (i := 53) rfl), am_t6 (List.mem_of_getElem? (i := 192) rfl), am_t6 (List.mem_of_getElem? (i := 193) rfl)⟩
theorem lw_p36 : lw_okq (⟨"LeadlightHallModel", "isClear", "(I[Z)Z"⟩, 22) := ⟨⟨by decide +kernel, by decide +kernel⟩, am_t5 (List.mem_of_getElem? (i := 53) rfl), am_t6 (List.mem_of_getElem? (i := 200) rfl), am_t6 (List.mem_of_getElem? (i := 201) rfl)⟩
theorem lw_p37 : lw_okq (⟨"LeadlightHallModel", "hasBare", "()Z"⟩, 22) := ⟨⟨by decide +kernel, by decide +kernel⟩, am_t5 (List.mem_of_getElem? (i := 53) rfl), am_t6 (List.mem_of_getElem? (i := 204) rfl), am_t6 (List.mem_of_getElem? (i := 205) rfl)⟩
theorem lw_p38 : lw_okq (⟨"LeadlightHallModel", "nextNow", "()I"⟩, 22) := ⟨⟨by decide +kernel, by decide +kernel⟩, am_t5 (List.mem_of_getElem? (i := 53) rfl), am_t6 (List.mem_of_getElem? (i := 212) rfl), am_t6 (List.mem_of_getElem? (i := 213) rfl)⟩
theorem lw_p39 : lw_okq (⟨"LeadlightHallModel", "bearsNow", "()I"⟩, 22) := ⟨⟨by decide +kernel, by decide +kernel⟩, am_t5 (List.mem_of_getElem? (i := 53) rfl), am_t7 (List.mem_of_getElem? (i := 4) rfl), am_t7 (List.mem_of_getElem? (i := 5) rfl)⟩
theorem lw_p40 : lw_okq (⟨"LeadlightHallModel", "light", "(III)I"⟩, 22) := ⟨⟨by decide +kernel, by decide +kernel⟩, am_t5 (List.mem_of_getElem? (i := 53) rfl), am_t7 (List.mem_of_getElem? (i := 20) rfl), am_t7 (List.mem_of_getElem? (i := 21) rfl)⟩
def lw_privs_3 : List (MethodName × Nat) := [(⟨"LeadlightHallModel", "comesNew", "(IIC)V"⟩, 22), (⟨"LeadlightHallModel", "hasStain", "(I)Z"⟩, 22), (⟨"LeadlightHallModel", "fires", "(II)I"⟩, 22), (⟨"LeadlightHallModel", "layersOf", "(IZ)I"⟩, 22), (⟨"LeadlightHallModel", "isClear", "(I[Z)Z"⟩, 22), (⟨"LeadlightHallModel", "hasBare", "()Z"⟩, 22), (⟨"LeadlightHallModel", "nextNow", "()I"⟩, 22), (⟨"LeadlightHallModel", "bearsNow", "()I"⟩, 22), (⟨"LeadlightHallModel", "light", "(III)I"⟩, 22)]
theorem lw_r3 : ∀ q ∈ lw_privs_3, lw_okq q := List.forall_mem_cons.mpr ⟨lw_p32, List.forall_mem_cons.mpr ⟨lw_p33, List.forall_mem_cons.mpr ⟨lw_p34, List.forall_mem_cons.mpr ⟨lw_p35, List.forall_mem_cons.mpr ⟨lw_p36, List.forall_mem_cons.mpr ⟨lw_p37, List.forall_mem_cons.mpr ⟨lw_p38, List.forall_mem_cons.mpr ⟨lw_p39, List.forall_mem_cons.mpr ⟨lw_p40, fun _ h => absurd h List.not_mem_nil⟩⟩⟩⟩⟩⟩⟩⟩⟩
def lw_privs : List (MethodName × Nat) := lw_privs_1 ++ (lw_privs_2 ++ (lw_privs_3))
def lw_tbl : List Cond := k2_sels lw_privs ++ tables_1
theorem lw_privs_ok : ∀ q ∈ lw_privs, lw_okq q := by
  show ∀ q ∈ lw_privs_1 ++ (lw_privs_2 ++ (lw_privs_3)), lw_okq q
  exact List.forall_mem_append.mpr ⟨lw_r1, List.forall_mem_append.mpr ⟨lw_r2, lw_r3⟩⟩
/-- the streams that the claim lets the run draw from -/
abbrev lw_cs : List Choice := [Jvm.Choice.named "NaN.bits"]
theorem lw_bits : nanBits ∈ lw_cs := by first | decide | exact List.mem_cons_self | simp [lw_cs, nanBits]

def va_AOA (ty : FieldType) (U : State) : Prop := (Cond.arrayOver (.array ty)).before #[] U = true
theorem va_AOA.use {ty : FieldType} {A : Array Value} {U : State} (h : va_AOA ty U) : (Cond.arrayOver (.array ty)).before A U = true := h
theorem va_AOA.spec {s : State} {t : FieldType} (h : va_AOA t s) : ∃ comp c k, s.vm.findClass (FieldType.array t).toString = some comp ∧ (s.vm.classes.findIdx? fun (x : Class) => match x.kind with | .array component _ => component == comp | _ => false) = some c ∧ s.vm.classes[c]? = some k ∧ k.kind = .array comp (.array t) ∧ s.vm.findClass ("[" ++ (FieldType.array t).toString) = some c := by
  unfold va_AOA Cond.before at h
  simp only [Cond.holds, Cond.value, beq_iff_eq] at h
  cases hc : s.vm.findClass (FieldType.array t).toString with
  | none => simp [hc] at h
  | some comp =>
    rw [hc, Option.bind_some] at h
    generalize hi : (s.vm.classes.findIdx? _) = o at h
    cases o with
    | none => simp at h
    | some c =>
      rw [Option.bind_some] at h
      cases hk : s.vm.classes[c]? with
      | none => rw [hk] at h; simp at h
      | some k =>
        rw [hk] at h
        have h2 := (Array.findIdx?_eq_some_iff_getElem.mp hi)
        obtain ⟨hlt, hp, -⟩ := h2
        have hkk : s.vm.classes[c] = k := by
          have := Array.getElem?_eq_getElem hlt
          rw [hk] at this
          exact (Option.some.inj this).symm
        rw [hkk] at hp
        cases hkd : k.kind with
        | array comp' ty' =>
          rw [Option.map_some] at h
          simp only [hkd] at hp h
          simp only [Option.some.injEq, Bool.and_eq_true, decide_eq_true_eq] at h
          have hcc : comp' = comp := by simpa using hp
          subst hcc
          first
            | exact ⟨comp', c, k, hc, hi, hk, by rw [hkd, h.1], h.2⟩
            | exact ⟨comp', c, k, rfl, hi, hk, by rw [hkd, h.1], h.2⟩
        | _ => rw [hkd] at hp; simp at hp
theorem va_AOA.moved {t : FieldType} {u U : State} (hvm : u.vm.Alike U.vm) (h : va_AOA t u) : va_AOA t U := by
  obtain ⟨comp, c, k, h1, h2, h3, h4, h5⟩ := va_AOA.spec h
  obtain ⟨k', hk', he⟩ := hvm.2.2 _ _ h3
  have hi : (U.vm.classes.findIdx? fun (x : Class) => match x.kind with | .array component _ => component == comp | _ => false) = some c := by
    refine Eq.trans (va_idx_bare U.vm comp).symm ?_
    first | rw [hvm.bare_eq] | rw [← hvm.bare_eq]
    exact Eq.trans (va_idx_bare u.vm comp) h2
  have hkind : k'.kind = .array comp (.array t) := by rw [he]; exact h4
  have f1 : U.vm.findClass (FieldType.array t).toString = some comp := by rw [hvm.findClass]; exact h1
  have f2 : U.vm.findClass ("[" ++ (FieldType.array t).toString) = some c := by rw [hvm.findClass]; exact h5
  unfold va_AOA Cond.before Cond.holds
  simp only [Cond.value]
  rw [f1, Option.bind_some]
  refine (congrArg (fun o : Option Nat => (o.bind (fun c => (U.vm.classes[c]?).map fun (k : Class) => match k.kind with | .array _ ty => decide (ty = FieldType.array t) && decide (U.vm.findClass ("[" ++ (FieldType.array t).toString) = some c) | _ => false) == some true)) hi).trans ?_
  simp [hk', hkind, f2]
