/-! ===== the text KINDS, tables of exceptions, arrays of arrays, a switch ===== -/
def o_ldcK (k : am_C) : am_C := fun ls st n E ca sl => k ls (.retAddr 6 :: st) n E ca sl
theorem ms_ldcK {X : am_X} {cc : ByteArray} {own : String} {ret : Option FieldType} {Ts : List Cond} (F : am_F X cc own ret Ts) {pc : Nat} {k : am_C} (ho : own = "LeadlightHallModel") (hd : decode cc pc = .ok (.ldc am_KN, 2)) (hk : am_imp k (am_G X (pc + 2))) : am_imp (o_ldcK k) (am_G X pc) := by
  obtain ⟨p, l, e, R, s, m, args, below, meth, c, D, dA, ro, ad0, n0, nL, A, Q⟩ := X
  obtain ⟨hx, hb, hml, hown, hts, hK, hA, hE, htr, hlk, hrt, hWS⟩ := F
  obtain ⟨-, -, -, -, -, -, -, -, -, x6⟩ := hE
  intro ls st n E ca sl h ad H locs L h1 h2 h3 h4 h5 h6 h7 h8 h9 hca hsl
  subst ho
  exact va_ldcS hx hb hown x6.2.2.1 hd (hk _ _ _ _ _ _ h ad H locs L h1 h2 h3 (am_cs trivial h4) h5 h6 h7 h8 h9 hca hsl)
def o_getK (k : am_C) : am_C := fun ls st n E ca sl => match st with
  | .retAddr a :: r => a = 6 ∧ k ls (.retAddr 7 :: r) n E ca sl
  | _ => False
theorem ms_getK {X : am_X} {cc : ByteArray} {own : String} {ret : Option FieldType} {Ts : List Cond} (F : am_F X cc own ret Ts) {pc index : Nat} {k : am_C} (hw : Cond.fieldLink own index "java/lang/String" "value" "[B" ∈ Ts) (hd : decode cc pc = .ok (.getfield index, 3)) (hk : am_imp k (am_G X (pc + 3))) : am_imp (o_getK k) (am_G X pc) := by
  obtain ⟨p, l, e, R, s, m, args, below, meth, c, D, dA, ro, ad0, n0, nL, A, Q⟩ := X
  obtain ⟨hx, hb, hml, hown, hts, hK, hA, hE, htr, hlk, hrt, hWS⟩ := F
  obtain ⟨-, -, -, -, -, -, -, -, -, x6⟩ := hE
  intro ls st n E ca sl h ad H locs L h1 h2 h3 h4 h5 h6 h7 h8 h9 hca hsl
  unfold o_getK at h
  split at h
  · obtain ⟨rfl, h⟩ := h
    exact vk_getf hx hb (x6.2.1.1 0 (by decide)).2.2.1 h8 hown (hts _ hw) (fun _ h9 => h9) hd (hk _ _ _ _ _ _ h ad H locs L h1 h2 h3 (am_cs trivial (am_tl h4)) h5 h6 h7 h8 h9 hca hsl)
  · exact h.elim
def o_codK (k : am_C) : am_C := fun ls st n E ca sl => match st with
  | .retAddr a :: r => a = 6 ∧ k ls (.int 0 :: r) n E ca sl
  | _ => False
theorem ms_codK {X : am_X} {cc : ByteArray} {own : String} {ret : Option FieldType} {Ts : List Cond} (F : am_F X cc own ret Ts) {pc index : Nat} {k : am_C} (hw : Cond.fieldLink own index "java/lang/String" "coder" "B" ∈ Ts) (hd : decode cc pc = .ok (.getfield index, 3)) (hk : am_imp k (am_G X (pc + 3))) : am_imp (o_codK k) (am_G X pc) := by
  obtain ⟨p, l, e, R, s, m, args, below, meth, c, D, dA, ro, ad0, n0, nL, A, Q⟩ := X
  obtain ⟨hx, hb, hml, hown, hts, hK, hA, hE, htr, hlk, hrt, hWS⟩ := F
  obtain ⟨-, -, -, -, -, -, -, -, -, x6⟩ := hE
  intro ls st n E ca sl h ad H locs L h1 h2 h3 h4 h5 h6 h7 h8 h9 hca hsl
  unfold o_codK at h
  split at h
  · obtain ⟨rfl, h⟩ := h
    exact vk_getf hx hb (x6.2.1.1 0 (by decide)).2.1 h8 hown (hts _ hw) (fun _ h9 => h9) hd (hk _ _ _ _ _ _ h ad H locs L h1 h2 h3 (am_cs trivial (am_tl h4)) h5 h6 h7 h8 h9 hca hsl)
  · exact h.elim
def o_lenK (k : am_C) : am_C := fun ls st n E ca sl => match st with
  | .retAddr a :: r => a = 7 ∧ k ls (.int 4 :: r) n E ca sl
  | _ => False
theorem ms_lenK {X : am_X} {cc : ByteArray} {own : String} {ret : Option FieldType} {Ts : List Cond} (F : am_F X cc own ret Ts) {pc : Nat} {k : am_C} (hd : decode cc pc = .ok (.arraylength, 1)) (hk : am_imp k (am_G X (pc + 1))) : am_imp (o_lenK k) (am_G X pc) := by
  obtain ⟨p, l, e, R, s, m, args, below, meth, c, D, dA, ro, ad0, n0, nL, A, Q⟩ := X
  obtain ⟨hx, hb, hml, hown, hts, hK, hA, hE, htr, hlk, hrt, hWS⟩ := F
  obtain ⟨-, -, -, -, -, -, -, -, -, x6⟩ := hE
  intro ls st n E ca sl h ad H locs L h1 h2 h3 h4 h5 h6 h7 h8 h9 hca hsl
  unfold o_lenK at h
  split at h
  · obtain ⟨rfl, h⟩ := h
    exact va_tlen hx hb (x6.2.1.1 0 (by decide)).2.2.2 h8 (v := 4) rfl hd (hk _ _ _ _ _ _ h ad H locs L h1 h2 h3 (am_cs trivial (am_tl h4)) h5 h6 h7 h8 h9 hca hsl)
  · exact h.elim
def o_bldK (k : am_C) : am_C := fun ls st n E ca sl => match st with
  | .int i :: .retAddr a :: r => a = 7 ∧ vp_in i 4 ∧ k ls (.int (am_xf 1 i.toNatClampNeg) :: r) n E ca sl
  | _ => False
theorem ms_bldK {X : am_X} {cc : ByteArray} {own : String} {ret : Option FieldType} {Ts : List Cond} (F : am_F X cc own ret Ts) {pc : Nat} {k : am_C} (hd : decode cc pc = .ok (.baload, 1)) (hk : am_imp k (am_G X (pc + 1))) : am_imp (o_bldK k) (am_G X pc) := by
  obtain ⟨p, l, e, R, s, m, args, below, meth, c, D, dA, ro, ad0, n0, nL, A, Q⟩ := X
  obtain ⟨hx, hb, hml, hown, hts, hK, hA, hE, htr, hlk, hrt, hWS⟩ := F
  obtain ⟨-, -, -, -, -, -, -, -, -, x6⟩ := hE
  intro ls st n E ca sl h ad H locs L h1 h2 h3 h4 h5 h6 h7 h8 h9 hca hsl
  unfold o_bldK at h
  split at h
  · obtain ⟨rfl, hin, h⟩ := h
    exact va_tb hx hb (x6.2.1.1 0 (by decide)).2.2.2 h8 hin rfl hd (hk _ _ _ _ _ _ h ad H locs L h1 h2 h3 (am_cs trivial (am_tl (am_tl h4))) h5 h6 h7 h8 h9 hca hsl)
  · exact h.elim
theorem ms_getsC {X : am_X} {cc : ByteArray} {own : String} {ret : Option FieldType} {Ts : List Cond} (F : am_F X cc own ret Ts) {pc index : Nat} {k : am_C} (hw : Cond.fieldLink own index "java/lang/String" "COMPACT_STRINGS" "Z" ∈ Ts) (hd : decode cc pc = .ok (.getstatic index, 3)) (hk : am_imp k (am_G X (pc + 3))) : am_imp (o_pi 1 k) (am_G X pc) := by
  obtain ⟨p, l, e, R, s, m, args, below, meth, c, D, dA, ro, ad0, n0, nL, A, Q⟩ := X
  obtain ⟨hx, hb, hml, hown, hts, hK, hA, hE, htr, hlk, hrt, hWS⟩ := F
  obtain ⟨-, -, -, -, -, -, -, -, -, x6⟩ := hE
  intro ls st n E ca sl h ad H locs L h1 h2 h3 h4 h5 h6 h7 h8 h9 hca hsl
  exact va_gets hx hb x6.2.2.2 h8 hown (hts _ hw) (fun _ h9 => h9) hd (hk _ _ _ _ _ _ h ad H locs L h1 h2 h3 (am_cs trivial h4) h5 h6 h7 h8 h9 hca hsl)
def o_i2b (k : am_C) : am_C := fun ls st n E ca sl => match st with
  | .int x :: r => k ls (.int x.toInt8.toInt32 :: r) n E ca sl
  | _ => False
theorem ms_i2b {X : am_X} {cc : ByteArray} {own : String} {ret : Option FieldType} {Ts : List Cond} (F : am_F X cc own ret Ts) {pc : Nat} {k : am_C} (hd : decode cc pc = .ok (.i2b, 1)) (hk : am_imp k (am_G X (pc + 1))) : am_imp (o_i2b k) (am_G X pc) := by
  obtain ⟨p, l, e, R, s, m, args, below, meth, c, D, dA, ro, ad0, n0, nL, A, Q⟩ := X
  obtain ⟨hx, hb, hml, hown, hts, hK, hA, hE, htr, hlk, hrt, hWS⟩ := F
  intro ls st n E ca sl h ad H locs L h1 h2 h3 h4 h5 h6 h7 h8 h9 hca hsl
  unfold o_i2b at h
  split at h
  · exact lv_i2b hx hb hd rfl (hk _ _ _ _ _ _ h ad H locs L h1 h2 h3 (am_cs trivial (am_tl h4)) h5 h6 h7 h8 h9 hca hsl)
  · exact h.elim
/-- a call of the text's -/
def o_callK (na : Nat) (S : am_S) (rm' rm : Room) (Xh : am_H) (k : am_C) : am_C := fun ls st n E ca sl => (match (st.take na).reverse with
  | .retAddr b :: _ => b = 6
  | _ => False) ∧ o_call na S rm' rm Xh k ls st n E ca sl
theorem ms_callK {X : am_X} {cc : ByteArray} {own : String} {ret : Option FieldType} {Ts : List Cond} (F : am_F X cc own ret Ts) {pc : Nat} {k : am_C} {Xh : am_H} {rm rm' : Room} (hR : am_Rm X rm) {y : MethodName} {bytes : ByteArray} {maxL na index : Nat} {ret' : Option FieldType} {S : am_S} (hM : ∀ l : Launch, l.stackTraces = false → am_Ct l y (am_ws y bytes maxL ret') rm' S)
    (hcode : Cond.code y bytes maxL ret' ∈ am_WS) (hini : Cond.initialized y.cls ∈ am_WS) (hlink : Cond.methodLink own index y ∈ am_WS) (hinst : Cond.instanceMethod y ∈ am_WS) (hsel : Cond.selects "java/lang/String" y y ∈ am_WS) (hy : y.cls ≠ "java/lang/invoke/MethodHandle" ∧ y.cls ≠ "java/lang/invoke/VarHandle" ∧ (parseMethodDescriptor y.desc).map (fun d => d.parameters.length) = some na) (hRR : rm'.frames + 1 ≤ rm.frames ∧ 8 + (maxL + 11) + rm'.locals ≤ rm.locals) (hd : decode cc pc = .ok (.invokevirtual index, 3)) (hX : am_impX Xh (am_XG X pc)) (hk : am_imp k (am_G X (pc + 3))) : am_imp (o_callK (na + 1) S rm' rm Xh k) (am_G X pc) := by
  have hpre := @am_pre X cc own ret Ts
  have hback := @am_back X pc k Xh hk hX
  obtain ⟨p, l, e, R, s, m, args, below, meth, c, D, dA, ro, ad0, n0, nL, A, Q⟩ := X
  have F' := F
  obtain ⟨hx, hb, hml, hown, hts, hK, hA, hE, htr, hlk, hrt, hWS⟩ := F
  have hR : R = rm := hR
  subst hR
  intro ls st n E ca sl h ad H locs L h1 h2 h3 h4 h5 h6 h7 h8 h9 hca hsl
  obtain ⟨hrc, hna, hcat, ⟨hc1, hs1⟩, h⟩ := h
  obtain ⟨ha1, ha2⟩ := am_argsOf (na := na + 1) h4
  have hstk := am_stk (na := na + 1) (st := st) (ad := ad) (ro := ro)
  have hlen : ((st.take (na + 1)).reverse).length = na + 1 := by simp; omega
  generalize hargs : (st.take (na + 1)).reverse = as at hrc h ha1 hstk hlen
  split at hrc
  · rename_i b as'
    subst hrc
    have x6 : am_ex2 ro A s s.heap := hE.2.2.2.2.2.2.2.2.2
    refine hback ad H locs L _ h1 h2 h3 ha2 h5 h7 h8 h9 hc1 hs1 hA (vx_runV (Ts := Ts) (nL := nL) (C := "java/lang/String") (b := ro 6) (As := as'.map (am_tr ad ro)) ⟨hx, hb, hml, hown, hts⟩ (hM l htr D dA ro ad n E H.size _ _ h3 ha1 h) ⟨am_cb (fun w hw => hts w (hWS w hw)) hcode hini hlink hy hRR, hts _ (hWS _ hinst), hts _ (hWS _ hsel)⟩ ⟨am_blind, vk_recv (i := 0) x6.2.1 (by decide) h8, hpre F' ad H locs h3 h6 h7 h8⟩ rfl (by simp at hlen; simp; omega) h9.1 ?_ (lv_room (by rw [am_cats]; exact hcat)) hd ⟨hc1, hs1⟩)
    show st.map (am_tr ad ro) = _
    rw [hstk]
    simp [am_tr]
  · exact hrc.elim
/-! ===== a method with a table of exceptions ===== -/
def am_T (X : am_X) (hh : List (Nat × Nat × Nat × Nat)) : Prop := match X with
  | (_, _, _, _, _, _, _, _, _, c, _, _, _, _, _, _, _, _) => c.exceptionTable.toList = tableOf hh
theorem ms_cat {X : am_X} {cc : ByteArray} {own : String} {ret : Option FieldType} {Ts : List Cond} (F : am_F X cc own ret Ts) {K : am_P} {mc ms : Nat} (FQ : am_FQ X K mc ms) {hh : List (Nat × Nat × Nat × Nat)} (hT : am_T X hh) {pc : Nat} {C name : String} {r : Int32} (pre : List ExceptionTableEntry) (x : ExceptionTableEntry) (suf : List ExceptionTableEntry) (hs : tableOf hh = pre ++ x :: suf) (hp : ∀ z ∈ pre, z.catchType ≠ 0 ∧ ∃ nm : String, Cond.classLink own z.catchType nm ∈ Ts ∧ (C, nm) ∈ am_NC) (hcv : covers x pc = true) (h0 : x.catchType ≠ 0) (hl : Cond.classLink own x.catchType name ∈ Ts) (hc : Cond.castable C name ∈ am_NW)
    {i z hq : Nat} {zr : Int} (hz : am_nL X = z) (hi : i < z) (hst : (∃ j : Fin 4, (j : Nat) = i ∧ decode cc x.handlerPc = .ok (.astore_n j, 1) ∧ hq = x.handlerPc + 1) ∨ (decode cc x.handlerPc = .ok (.astore i, 2) ∧ hq = x.handlerPc + 2)) (d2 : decode cc hq = .ok (.iconst zr, 1)) (hzr : Int32.ofInt zr = r) (d3 : decode cc (hq + 1) = .ok (.ireturn, 1)) (hr : ret = some .int) (ls : am_L) (n : Nat) (E : am_E) (ca sl : Nat) (hKK : K (.inl (some (.int r))) n E) : am_XG X pc ls C n E ca sl := by
  have kret : am_imp (o_pi r (o_iret .int K)) (am_G X hq) := ms_iconst F d2 hzr (ms_iret F FQ hr d3)
  obtain ⟨p, l, e, R, s, m, args, below, meth, c, D, dA, ro, ad0, n0, nL, A, Q⟩ := X
  obtain ⟨hx, hb, hml, hown, hts, hK, hA, hE, htr, hlk, hrt, hWS⟩ := F
  have x6 : am_ex2 ro A s s.heap := hE.2.2.2.2.2.2.2.2.2
  intro ad H locs L st q ce h1 h2 h3 h5 h6 h7 h8 h9 hca hsl hce hvm hcl
  refine vx_catch hown pre x suf (Eq.trans hT hs) (fun z hz => ?_) hcv h0 (hts _ hl) (am_nk_use (List.mem_filter.mp hc).2 (hE.1 _ hc)) hce hvm hcl ?_
  · obtain ⟨a1, nm, a2, a3⟩ := hp z hz
    exact Or.inr ⟨a1, nm, hts _ a2, x6.1 _ a3⟩
  · subst hz
    have key : ∀ L' : Array Slot, lv_has L' nL ((i, Value.ref q) :: (am_al ls ad ro).filter (fun q => !(q.1 == i) && !(q.1 + 1 == i && q.2.category == 2))) → W p l e R s m args below meth c H locs ca sl Q (F0 m hq L' []) := fun L' h' =>
      kret [] [] n E ca sl ⟨(show narrow .int (.int r) = .int r from rfl), hKK⟩ ad H locs L' h1 h2 h3 (fun v hv => by cases hv) (fun v hv => by cases hv) h6 h7 h8 ⟨h'.1, h'.2.1, fun i v hv => by cases hv⟩ hca hsl
    rcases hst with ⟨j, hj, d1, rfl⟩ | ⟨d1, rfl⟩
    · exact lv_astore_n hx hb d1 hj h9.lv hi rfl key
    · exact lv_astore hx hb d1 h9.lv hi rfl key
theorem am_ofH {l : Launch} {y : MethodName} {cc : ByteArray} {maxL : Nat} {ret : Option FieldType} {rm : Room} {S : am_S} {hh : List (Nat × Nat × Nat × Nat)} (htr : l.stackTraces = false) (hy : plainName y.cls = true) (hcode : Cond.codeWith y cc maxL ret hh ∈ am_WS)
    (body : ∀ (X : am_X) (K : am_P), am_F X cc y.cls ret (am_wsT y cc maxL ret hh) → am_FQ X K rm.cells rm.slots → am_Rm X rm → am_T X hh → am_nL X = maxL → ∀ (as : List Value) (n : Nat) (E : am_E), S as n E K → (am_sl as).length ≤ maxL ∧ am_G X 0 (am_inl maxL as) [] n E 0 0) : am_Ct l y (am_wsT y cc maxL ret hh) rm S := by
  intro D dA ro ad n E sz as K h3 hlt hS
  refine vx_ofWH (hh := hh) (cc := cc) (maxL := maxL) (ret := ret) hy rfl ?_
  intro p e s m args below meth c s₁ B hml hP
  obtain ⟨rfl, hsz, hP, hK, hD, hE⟩ := hP
  subst hsz
  have hts := atoms_spec (ws := am_wsT y cc maxL ret hh) B.pre
  have hown : s.vm.findClass y.cls = some m.cls := findClass_of_methodNamed B.named
  have htab := vx_table (x := y) B (hts _ List.mem_cons_self)
  obtain ⟨hle, g⟩ := body (p, l, e, rm, s, m, (as.map (am_tr ad ro)).toArray, below, meth, c, D, dA, ro, ad, n, maxL, am_A ad n s.heap.size, vx_MQ below (am_Qc D dA ro ad n s.heap.size K) (am_Xc D dA ro ad n s.heap.size K) (as.map (am_tr ad ro)).toArray s rm.cells rm.slots (am_A ad n s.heap.size)) K
    ⟨B.exec, B.bytes, hml, hown, hts, hK, fun q hq => Or.inr hq, hE, htr, B.notSynchronized, B.returns, fun w hw => List.mem_cons_of_mem _ hw⟩ ⟨rfl, rfl, rfl, rfl⟩ rfl htab rfl as n E hS
  have g2 := g ad s.heap [] _ (fun _ _ => rfl) (Nat.le_refl _) h3 (fun v hv => by cases hv) (am_inl_lt hlt) hP hD va_S.rf (am_inl_has hle) (Nat.zero_le _) (Nat.zero_le _)
  rw [lg_entry_eq]
  exact g2
def am_hdl (l : List (String × Int32)) (K : am_P) : am_H := fun _ C n E _ _ => ∃ q ∈ l, q.1 = C ∧ K (.inl (some (.int q.2))) n E
theorem ms_hdl_n (K : am_P) (G : am_H) : am_impX (am_hdl [] K) G := fun _ _ _ _ _ _ ⟨_, h, _⟩ => absurd h List.not_mem_nil
theorem ms_hdl_c {K : am_P} {G : am_H} {C : String} {r : Int32} {l : List (String × Int32)} (h1 : ∀ ls n E ca sl, K (.inl (some (.int r))) n E → G ls C n E ca sl) (h2 : am_impX (am_hdl l K) G) : am_impX (am_hdl ((C, r) :: l) K) G := fun ls C' n E ca sl ⟨q, hq, e, hK⟩ => by
  rcases List.mem_cons.mp hq with rfl | hq
  · cases e
    exact h1 ls n E ca sl hK
  · exact h2 ls C' n E ca sl ⟨q, hq, e, hK⟩
/-! ===== arrays of arrays ===== -/
def am_upm (ad : Nat → Nat) (n q : Nat) (r : Nat → Nat) : Nat → Nat := fun k => if k < n then ad k else if k = n then q else r (k - n - 1)
theorem am_upm_lt {ad r : Nat → Nat} {n q : Nat} : ∀ k, k < n → am_upm ad n q r k = ad k := fun k h => by simp [am_upm, h]
def am_um (E : am_E) (n N t ti : Nat) (z : vp_A) : am_E := fun k => if k = n then some (.inl (t, N, .inr (.inr (.inr (.inr (fun i => if i < N then some (n + 1 + i) else none)))))) else if n < k ∧ k ≤ n + N then some (.inl (ti, z)) else E k
theorem am_we_um {n N t ti : Nat} {z : vp_A} {E : am_E} (h : am_we n E) (hz : ∀ n, am_la n z) : am_we (n + 1 + N) (am_um E n N t ti z) := by
  intro k
  unfold am_um
  by_cases h0 : k = n
  · subst h0
    refine ⟨fun _ => by simp, fun e he => ?_⟩
    simp at he
    subst he
    refine ⟨by omega, fun j i hj => ?_⟩
    by_cases hN : j < N
    · simp [hN] at hj
      omega
    · simp [hN] at hj
  · by_cases h1 : n < k ∧ k ≤ n + N
    · refine ⟨fun _ => by simp [h0, h1], fun e he => ?_⟩
      simp [h0, h1] at he
      subst he
      exact ⟨by omega, hz _⟩
    · refine ⟨fun h2 => ?_, fun e he => ?_⟩
      · rw [if_neg h0, if_neg h1]
        exact (h k).1 (by omega)
      · rw [if_neg h0, if_neg h1] at he
        have := (h k).2 e he
        exact ⟨by omega, am_le_mono (by omega) this.2⟩
def o_mna (t ti N M : Nat) (z : vp_A) (mc ms : Nat) (k : am_C) : am_C := fun ls st n E ca sl => match st with
  | .int i :: .int j :: r => i = nI M ∧ j = nI N ∧ (ca + 1 + N ≤ mc ∧ sl + N + N * M ≤ ms) ∧ k ls (.ref n :: r) (n + 1 + N) (am_um E n N t ti z) (ca + 1 + N) (sl + N + N * M)
  | _ => False
theorem ms_mna {X : am_X} {cc : ByteArray} {own : String} {ret : Option FieldType} {Ts : List Cond} (F : am_F X cc own ret Ts) {pc index : Nat} {k : am_C} {rm : Room} (hR : am_Rm X rm) {t ti N M : Nat} {ty : FieldType} {z : vp_A} (ht : (t = 7 ∧ ti = 2 ∧ ty = .char ∨ t = 8 ∧ ti = 3 ∧ ty = .boolean ∨ t = 9 ∧ ti = 0 ∧ ty = .int)) (hz : z = (M, .inl (fun _ => 0))) (hN : N < 3000) (hM : M < 3000) (hcl : Cond.classLink own index ("[" ++ (FieldType.array ty).toString) ∈ Ts) (harr : Cond.arrayClass ty ∈ Ts) (hd : decode cc pc = .ok (.multianewarray index 2, 4)) (hk : am_imp k (am_G X (pc + 4))) : am_imp (o_mna t ti N M z rm.cells rm.slots k) (am_G X pc) := by
  obtain ⟨p, l, e, R, s, m, args, below, meth, c, D, dA, ro, ad0, n0, nL, A, Q⟩ := X
  obtain ⟨hx, hb, hml, hown, hts, hK, hA, hE, htr, hlk, hrt, hWS⟩ := F
  intro ls st n E ca sl h ad H locs L h1 h2 h3 h4 h5 h6 h7 h8 h9 hca hsl
  have hR : R = rm := hR
  subst hR
  unfold o_mna at h
  split at h
  · rename_i i j r
    obtain ⟨rfl, rfl, ⟨hc1, hs1⟩, h⟩ := h
    have hover : va_AOA ty s := by
      obtain ⟨-, -, ⟨-, -, a3, a4, a5⟩, -⟩ := hE
      rcases ht with ⟨-, -, rfl⟩ | ⟨-, -, rfl⟩ | ⟨-, -, rfl⟩
      · exact a3
      · exact a4
      · exact a5
    have hti : (am_tys dA)[ti]? = some (dA ti, ty) := by rcases ht with ⟨-, rfl, rfl⟩ | ⟨-, rfl, rfl⟩ | ⟨-, rfl, rfl⟩ <;> rfl
    have hto : (am_tys dA)[t]? = some (dA t, .array ty) := by rcases ht with ⟨rfl, -, rfl⟩ | ⟨rfl, -, rfl⟩ | ⟨rfl, -, rfl⟩ <;> rfl
    have hcy : s.vm.findClass (FieldType.array ty).toString = some (dA ti) := by
      have g := (hK.2 ti _ hti).2
      rcases ht with ⟨-, rfl, rfl⟩ | ⟨-, rfl, rfl⟩ | ⟨-, rfl, rfl⟩ <;> exact g
    have hcb : componentBytes ty ≤ 8 := by rcases ht with ⟨-, -, rfl⟩ | ⟨-, -, rfl⟩ | ⟨-, -, rfl⟩ <;> decide
    have hle : ∀ n, am_la n z := fun n => by subst hz; trivial
    have nN : (nI N).toNatClampNeg = N := nI_clamp (by omega)
    have nM : (nI M).toNatClampNeg = M := nI_clamp (by omega)
    refine va_mna (X := am_w dA ad ro n E) (L := []) (f := fun _ => .inr (0, [])) hx hb hown (hts _ hcl) hover (hts _ harr) hcy hK (by simpa [va_pl] using h6) (by simpa [va_pl] using h7) h8 hA (n := nI N) (k := nI M) (N' := N) (K' := M) (z := z) (nI_pos (by omega)) (nI_pos (by omega)) nN nM (by omega) (Nat.le_trans (Nat.mul_le_mul_left _ hcb) (by omega)) (by omega) (by rcases ht with ⟨-, -, rfl⟩ | ⟨-, -, rfl⟩ | ⟨-, -, rfl⟩ <;> rfl) (by rcases ht with ⟨-, -, rfl⟩ | ⟨-, -, rfl⟩ | ⟨-, -, rfl⟩ <;> rfl) (by omega) (by omega) (fun c9 => by subst hz; rcases ht with ⟨-, -, rfl⟩ | ⟨-, -, rfl⟩ | ⟨-, -, rfl⟩ <;> (refine Eq.trans (arrV_new _ _ _) ?_; rfl)) hd (fun q rr cA H1 hri hrn hK1 hP1 hD1 hS1 => ?_)
    have hcA : cA = dA t := am_tyA hK hto hK1 10 rfl
    subst hcA
    have e1 : am_w dA (am_upm ad n q rr) ro (n + 1 + N) (am_um E n N t ti z) = (am_w dA ad ro n E ++ [(q, .inl (dA t, N, .inr (.inr (.inr (.inr (fun i => if i < N then some (rr i) else none))))))]) ++ va_pl ([] ++ (List.range N).map rr) (vr_up (fun _ => .inr (0, [])) ((List.range N).map rr) (.inl (dA ti, z))) := by
      unfold am_w va_pl
      rw [show n + 1 + N = n + (1 + N) by omega, List.range_add, List.map_append, List.nil_append, List.append_assoc]
      congr 1
      · apply List.map_congr_left
        intro k hk
        have hk : k < n := List.mem_range.mp hk
        obtain ⟨e', he⟩ := Option.isSome_iff_exists.mp ((h3 k).1 hk)
        have h1 : am_um E n N t ti z k = E k := by
          unfold am_um
          rw [if_neg (by omega), if_neg (by omega)]
        rw [h1, he, am_upm_lt k hk]
        show (ad k, am_te dA (am_upm ad n q rr) ro e') = (ad k, am_te dA ad ro e')
        rw [am_te_cg ((h3 k).2 e' he).2 am_upm_lt]
      · rw [List.range_add, List.map_append, List.map_append, List.map_map, List.map_map, List.map_map]
        congr 1
        · show [(am_upm ad n q rr n, am_te dA (am_upm ad n q rr) ro ((am_um E n N t ti z n).getD (.inr (0, []))))] = _
          have ea : am_upm ad n q rr n = q := by unfold am_upm; rw [if_neg (by omega), if_pos rfl]
          have eb : am_um E n N t ti z n = some (.inl (t, N, .inr (.inr (.inr (.inr (fun i => if i < N then some (n + 1 + i) else none)))))) := by unfold am_um; rw [if_pos rfl]
          rw [ea, eb]
          show [(q, (Sum.inl (dA t, (N, Sum.inr (Sum.inr (Sum.inr (Sum.inr (fun j => (if j < N then some (n + 1 + j) else none).map (am_upm ad n q rr))))))) : va_E))] = _
          have ec : (fun j => (if j < N then some (n + 1 + j) else none).map (am_upm ad n q rr)) = (fun i => if i < N then some (rr i) else none) := by
            funext j
            by_cases hj : j < N
            · rw [if_pos hj, if_pos hj]
              show some (am_upm ad n q rr (n + 1 + j)) = some (rr j)
              unfold am_upm
              rw [if_neg (by omega), if_neg (by omega), show n + 1 + j - n - 1 = j by omega]
            · rw [if_neg hj, if_neg hj]
              rfl
          rw [ec]
        · rw [List.map_map]
          apply List.map_congr_left
          intro j hj
          have hj : j < N := List.mem_range.mp hj
          show (am_upm ad n q rr (n + (1 + j)), am_te dA (am_upm ad n q rr) ro ((am_um E n N t ti z (n + (1 + j))).getD (.inr (0, [])))) = (rr j, vr_up (fun _ => .inr (0, [])) ((List.range N).map rr) (.inl (dA ti, z)) (rr j))
          have ea : am_upm ad n q rr (n + (1 + j)) = rr j := by
            unfold am_upm
            rw [if_neg (by omega), if_neg (by omega), show n + (1 + j) - n - 1 = j by omega]
          have eb : am_um E n N t ti z (n + (1 + j)) = some (.inl (ti, z)) := by
            unfold am_um
            rw [if_neg (by omega), if_pos (by omega)]
          rw [ea, eb, vr_up_in (List.mem_map_of_mem (List.mem_range.mpr hj))]
          subst hz
          rfl
    have h4r : ∀ v ∈ r, am_lt n v := am_tl (am_tl h4)
    have g := hk _ _ _ _ _ _ h (am_upm ad n q rr) H1 locs L (fun k hk => by rw [am_upm_lt k (by omega)]; exact h1 k hk) (by omega) (am_we_um h3 hle) (am_cs (show n < n + 1 + N by omega) (fun v hv => am_lt_mono (by omega) (h4r v hv))) (fun v hv => am_lt_mono (by omega) (h5 v hv)) (by rw [e1]; exact hP1) (by rw [e1]; exact hD1) hS1 (am_has_cg h9 h5 am_upm_lt) hc1 hs1
    rw [List.map_cons, am_st_cg h4r am_upm_lt] at g
    have e2 : am_tr (am_upm ad n q rr) ro (.ref n) = .ref q := by
      show Value.ref (am_upm ad n q rr n) = _
      unfold am_upm
      rw [if_neg (by omega), if_pos rfl]
    rw [e2] at g
    exact g
  · exact h.elim
theorem mna_char : ("[" ++ (FieldType.array FieldType.char).toString) = "[[C" := by decide +kernel
theorem mna_boolean : ("[" ++ (FieldType.array FieldType.boolean).toString) = "[[Z" := by decide +kernel
theorem mna_int : ("[" ++ (FieldType.array FieldType.int).toString) = "[[I" := by decide +kernel
/-! ===== a switch ===== -/
def o_tsw (d : Nat) (tl : List Nat) (G : Nat → am_C) : am_C := fun ls st n E ca sl => match st with
  | .int x :: r => (0 ≤ x ∧ x.toNatClampNeg < tl.length → G (tl.getD x.toNatClampNeg 0) ls r n E ca sl) ∧ (¬ (0 ≤ x ∧ x.toNatClampNeg < tl.length) → G d ls r n E ca sl)
  | _ => False
theorem ms_tsw {X : am_X} {cc : ByteArray} {own : String} {ret : Option FieldType} {Ts : List Cond} (F : am_F X cc own ret Ts) {pc d len : Nat} {dflt hi : Int} {offs : Array Int} {tl : List Nat} (hd : decode cc pc = .ok (.tableswitch dflt 0 hi offs, len)) (h0 : (pc : Int) + dflt = (d : Int)) (hn : hi + 1 = (tl.length : Int)) (ht : (List.range tl.length).all (fun j => decide ((offs[j]?).map (fun o => (pc : Int) + o) = some ((tl.getD j 0 : Nat) : Int))) = true) : am_imp (o_tsw d tl (am_G X)) (am_G X pc) := by
  obtain ⟨p, l, e, R, s, m, args, below, meth, c, D, dA, ro, ad0, n0, nL, A, Q⟩ := X
  obtain ⟨hx, hb, hml, hown, hts, hK, hA, hE, htr, hlk, hrt, hWS⟩ := F
  intro ls st n E ca sl h ad H locs L h1 h2 h3 h4 h5 h6 h7 h8 h9 hca hsl
  unfold o_tsw at h
  split at h
  · rename_i x r
    by_cases hc : 0 ≤ x ∧ x.toNatClampNeg < tl.length
    · have hx0 : 0 ≤ x.toInt := Int32.le_iff_toInt_le.mp hc.1
      have hxi : (x.toNatClampNeg : Int) = x.toInt := Int.toNat_of_nonneg hx0
      have hj := of_decide_eq_true (List.all_eq_true.mp ht x.toNatClampNeg (List.mem_range.mpr hc.2))
      obtain ⟨off, ho, he⟩ := Option.map_eq_some_iff.mp hj
      exact lv_tableIn hx hb hd (by omega) (by omega) (off := off) (by rw [Int.sub_zero]; exact ho) he (h.1 hc ad H locs L h1 h2 h3 (am_tl h4) h5 h6 h7 h8 h9 hca hsl)
    · refine lv_tableOut hx hb hd ?_ h0 (h.2 hc ad H locs L h1 h2 h3 (am_tl h4) h5 h6 h7 h8 h9 hca hsl)
      by_cases hx0 : 0 ≤ x.toInt
      · have hxi : (x.toNatClampNeg : Int) = x.toInt := Int.toNat_of_nonneg hx0
        have : 0 ≤ x := Int32.le_iff_toInt_le.mpr hx0
        have : ¬ x.toNatClampNeg < tl.length := fun q => hc ⟨this, q⟩
        exact Or.inr (by omega)
      · exact Or.inl (by omega)
  · exact h.elim
/-! ===== the script ===== -/
def am_SX (X : am_X) (L : Nat) (xs : Nat → Int32) : Prop := match X with
  | (_, _, _, _, s, _, _, _, _, _, _, _, ro, _, _, _, A, _) => va_X (ro 0) L xs s s.heap ∧ ro 0 < s.heap.size ∧ ¬ A (ro 0)
def o_slen (L : Nat) (k : am_C) : am_C := fun ls st n E ca sl => match st with
  | .retAddr a :: r => a = 0 ∧ k ls (.int (nI L) :: r) n E ca sl
  | _ => False
theorem ms_slen {X : am_X} {cc : ByteArray} {own : String} {ret : Option FieldType} {Ts : List Cond} (F : am_F X cc own ret Ts) {L : Nat} {xs : Nat → Int32} (hS : am_SX X L xs) {pc : Nat} {k : am_C} (hd : decode cc pc = .ok (.arraylength, 1)) (hk : am_imp k (am_G X (pc + 1))) : am_imp (o_slen L k) (am_G X pc) := by
  obtain ⟨p, l, e, R, s, m, args, below, meth, c, D, dA, ro, ad0, n0, nL, A, Q⟩ := X
  obtain ⟨hx, hb, hml, hown, hts, hK, hA, hE, htr, hlk, hrt, hWS⟩ := F
  intro ls st n E ca sl h ad H locs L9 h1 h2 h3 h4 h5 h6 h7 h8 h9 hca hsl
  unfold o_slen at h
  split at h
  · obtain ⟨rfl, h⟩ := h
    exact va_slen hx hb hS.1 hS.2.1 hS.2.2 h8 hd (hk _ _ _ _ _ _ h ad H locs L9 h1 h2 h3 (am_cs trivial (am_tl h4)) h5 h6 h7 h8 h9 hca hsl)
  · exact h.elim
def o_sld (L : Nat) (xs : Nat → Int32) (k : am_C) : am_C := fun ls st n E ca sl => match st with
  | .int i :: .retAddr a :: r => a = 0 ∧ vp_in i L ∧ k ls (.int (xs i.toNatClampNeg) :: r) n E ca sl
  | _ => False
theorem ms_sld {X : am_X} {cc : ByteArray} {own : String} {ret : Option FieldType} {Ts : List Cond} (F : am_F X cc own ret Ts) {L : Nat} {xs : Nat → Int32} (hS : am_SX X L xs) {pc : Nat} {k : am_C} (hd : decode cc pc = .ok (.iaload, 1)) (hk : am_imp k (am_G X (pc + 1))) : am_imp (o_sld L xs k) (am_G X pc) := by
  obtain ⟨p, l, e, R, s, m, args, below, meth, c, D, dA, ro, ad0, n0, nL, A, Q⟩ := X
  obtain ⟨hx, hb, hml, hown, hts, hK, hA, hE, htr, hlk, hrt, hWS⟩ := F
  intro ls st n E ca sl h ad H locs L9 h1 h2 h3 h4 h5 h6 h7 h8 h9 hca hsl
  unfold o_sld at h
  split at h
  · obtain ⟨rfl, hin, h⟩ := h
    exact va_sld hx hb hS.1 hS.2.1 hS.2.2 h8 hin hd (hk _ _ _ _ _ _ h ad H locs L9 h1 h2 h3 (am_cs trivial (am_tl (am_tl h4))) h5 h6 h7 h8 h9 hca hsl)
  · exact h.elim
