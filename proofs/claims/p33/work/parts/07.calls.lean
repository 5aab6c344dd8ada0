/-! ===== calls ===== -/
abbrev am_H : Type := am_L → String → Nat → am_E → Nat → Nat → Prop
def am_kc (ls : am_L) (rest : List Value) (ca sl : Nat) (Xh : am_H) (k : am_C) : am_P := fun o n' E' => match o with
  | .inl none => k ls rest n' E' ca sl
  | .inl (some v) => k ls (v :: rest) n' E' ca sl
  | .inr C => Xh ls C n' E' ca sl
/-- an exception over the frame at pc -/
def am_XG (X : am_X) (pc : Nat) : am_H := match X with
  | (p, l, e, R, s, m, args, below, meth, c, D, dA, ro, ad0, n0, nL, A, Q) => fun ls C n E ca sl =>
    ∀ (ad : Nat → Nat) (H : Heap) (locs : List Loc) (L : Array Slot) (st : List Value) (q : Nat) (ce : Cell), (∀ k, k < n0 → ad k = ad0 k) → n0 ≤ n → am_we n E → (∀ v, some v ∈ ls → am_lt n v) → va_P D vwCl (am_w dA ad ro n E) H → va_D A (am_w dA ad ro n E) → va_S A s.heap H locs → am_has ad ro nL L ls → ca ≤ R.cells → sl ≤ R.slots → H[q]? = some ce → ce.vm = .none → s.vm.findClass C = some ce.cls → vx_W p l e R s m args below meth c H locs ca sl Q (F0 m pc L st) q
def am_impX (Xh G : am_H) : Prop := ∀ ls C n E ca sl, Xh ls C n E ca sl → G ls C n E ca sl
theorem am_incl {D : va_G} {dA ad ro : Nat → Nat} {n : Nat} {E : am_E} {A : Nat → Prop} {H0 H : Heap} {locs : List Loc} (h3 : am_we n E) (h7 : va_D A (am_w dA ad ro n E)) (h8 : va_S A H0 H locs) (hA : ∀ q : Nat, H0.size ≤ q → A q) : ∀ q, am_A ad n H.size q → A q := by
  rintro q (⟨k, hk, rfl⟩ | hq)
  · obtain ⟨e', he⟩ := Option.isSome_iff_exists.mp ((h3 k).1 hk)
    exact h7.2 k _ (am_w_at hk he)
  · exact hA q (Nat.le_trans h8.1 hq)
theorem am_pre {X : am_X} {cc : ByteArray} {own : String} {ret : Option FieldType} {Ts : List Cond} {n : Nat} {E : am_E} {as : List Value} : match X with
  | (p, l, e, R, s, m, args, below, meth, c, D, dA, ro, ad0, n0, nL, A, Q) => am_F (p, l, e, R, s, m, args, below, meth, c, D, dA, ro, ad0, n0, nL, A, Q) cc own ret Ts → ∀ (ad : Nat → Nat) (H : Heap) (locs : List Loc), am_we n E → va_P D vwCl (am_w dA ad ro n E) H → va_D A (am_w dA ad ro n E) → va_S A s.heap H locs → ∀ U : State, U.heap = H → s.WarmedH U.vm → am_Pc D dA ro ad n E H.size as (as.map (am_tr ad ro)).toArray U := by
  obtain ⟨p, l, e, R, s, m, args, below, meth, c, D, dA, ro, ad0, n0, nL, A, Q⟩ := X
  intro F ad H locs h3 h6 h7 h8 U hU hW
  obtain ⟨hx, hb, hml, hown, hts, hK, hA, hE, htr, hlk, hrt, hWS⟩ := F
  have hi := am_incl (D := D) h3 h7 h8 hA
  subst hU
  exact ⟨rfl, rfl, h6, va_K.moved hW.alike hK, ⟨h7.1, fun k q hk => by
    have hlt : k < n := by
      have := (List.getElem?_eq_some_iff.mp hk).1
      rwa [am_w_len] at this
    obtain ⟨e', he⟩ := Option.isSome_iff_exists.mp ((h3 k).1 hlt)
    rw [am_w_at hlt he] at hk
    cases hk
    exact Or.inl ⟨k, hlt, rfl⟩⟩, hE.step hW hi (fun a ha hb => h8.2.1 a ha hb)⟩
theorem am_blind {D : va_G} {dA ro ad : Nat → Nat} {n : Nat} {E : am_E} {sz : Nat} {as : List Value} : FrameBlind (am_Pc D dA ro ad n E sz as) := by
  intro a U g mk h
  obtain ⟨h0, h1, h2, h3, h4, h5⟩ := h
  exact ⟨h0, h1, h2, va_K.moved (u := U) (U := U.calling g mk a) (Vm.Alike.refl U.vm) h3, h4, am_ext.step (s := U) (U := U.calling g mk a) h5 (State.WarmedH.refl U) (fun _ q => q) (fun _ _ _ => rfl)⟩
theorem am_back {X : am_X} {pc : Nat} {k : am_C} {Xh : am_H} (hk : am_imp k (am_G X (pc + 3))) (hX : am_impX Xh (am_XG X pc)) {n : Nat} {E : am_E} {ls : am_L} {rest : List Value} {ca sl mc ms : Nat} {a : Array Value} : match X with
  | (p, l, e, R, s, m, args, below, meth, c, D, dA, ro, ad0, n0, nL, A, Q) => ∀ (ad : Nat → Nat) (H : Heap) (locs : List Loc) (L : Array Slot) (st0 : List Value), (∀ k, k < n0 → ad k = ad0 k) → n0 ≤ n → am_we n E → (∀ v ∈ rest, am_lt n v) → (∀ v, some v ∈ ls → am_lt n v) → va_D A (am_w dA ad ro n E) → va_S A s.heap H locs → am_has ad ro nL L ls → ca + mc ≤ R.cells → sl + ms ≤ R.slots → (∀ q : Nat, s.heap.size ≤ q → A q) →
    vx_Run p l e R s m args below meth c H locs ca sl mc ms (F0 m pc L st0) (rest.map (am_tr ad ro)) (am_Qc D dA ro ad n H.size (am_kc ls rest (ca + mc) (sl + ms) Xh k) a) (am_Xc D dA ro ad n H.size (am_kc ls rest (ca + mc) (sl + ms) Xh k)) (am_A ad n H.size) → W p l e R s m args below meth c H locs ca sl Q (F0 m pc L st0) := by
  obtain ⟨p, l, e, R, s, m, args, below, meth, c, D, dA, ro, ad0, n0, nL, A, Q⟩ := X
  intro ad H locs L st0 h1 h2 h3 h4 h5 h7 h8 h9 hca hsl hA hr T hT Xs
  have hi := am_incl (D := D) h3 h7 h8 hA
  rcases hr T hT Xs with ⟨v, st₀, t, T', Lc, g0, X', hL, e1, e2, ⟨⟨v9, n', E', hK9, hlt9, ad', had, hnn, hwe, hP', hD', hret⟩, hF⟩, hgo⟩ | ⟨q, st₀, t, T', Lc, Ex, ce, g0, X', hL, e1, e2, ⟨⟨n', E', hK9, ad', had, hnn, hwe, hP', hD', -⟩, hF⟩, hce, hcv, hcl, hst⟩
  · obtain ⟨k1, k2, k3⟩ := vx_keep g0 e1 h8 (fun q _ hq => hi q hq) hi hL hF
    have hv : v = v9.map (am_tr ad' ro) := by cases hret; rfl
    subst hv
    have hD9 : va_D A (am_w dA ad' ro n' E') := ⟨hD'.1, fun k q hk => hi _ (hD'.2 k q hk)⟩
    have hP9 : va_P D vwCl (am_w dA ad' ro n' E') T'.heap := by rw [e1]; exact hP'
    have hrest : rest.map (am_tr ad' ro) = rest.map (am_tr ad ro) := am_st_cg h4 had
    have hlv : ∀ v ∈ rest, am_lt n' v := fun v hv => am_lt_mono hnn (h4 v hv)
    have hll : ∀ v, some v ∈ ls → am_lt n' v := fun v hv => am_lt_mono hnn (h5 v hv)
    have had0 : ∀ k, k < n0 → ad' k = ad0 k := fun k hk => (had k (by omega)).trans (h1 k hk)
    cases v9 with
    | none =>
      have g := hk _ _ _ _ _ _ hK9 ad' T'.heap (locs ++ Lc) L had0 (by omega) hwe hlv hll hP9 hD9 k3 (am_has_cg h9 h5 had) hca hsl
      rw [hrest] at g
      obtain ⟨t2, a1, b1⟩ := g T' rfl X'
      exact ⟨t2, hgo t2 a1, b1⟩
    | some w =>
      have g := hk _ _ _ _ _ _ hK9 ad' T'.heap (locs ++ Lc) L had0 (by omega) hwe (am_cs (hlt9 w rfl) hlv) hll hP9 hD9 k3 (am_has_cg h9 h5 had) hca hsl
      rw [List.map_cons, hrest] at g
      obtain ⟨t2, a1, b1⟩ := g T' rfl X'
      exact ⟨t2, hgo t2 a1, b1⟩
  · obtain ⟨k1, k2, k3⟩ := vx_keep g0 e1 h8 (fun q _ hq => hi q hq) hi hL hF
    have hD9 : va_D A (am_w dA ad' ro n' E') := ⟨hD'.1, fun k q hk => hi _ (hD'.2 k q hk)⟩
    have hP9 : va_P D vwCl (am_w dA ad' ro n' E') T'.heap := by rw [e1]; exact hP'
    obtain ⟨t2, a1, b1⟩ := hX _ _ _ _ _ _ hK9 ad' T'.heap (locs ++ Lc) L (rest.map (am_tr ad ro)) q ce (fun k hk => (had k (by omega)).trans (h1 k hk)) (by omega) hwe (fun v hv => am_lt_mono hnn (h5 v hv)) hP9 hD9 k3 (am_has_cg h9 h5 had) hca hsl (by rw [e1]; exact hce) hcv hcl T' rfl X'
    exact ⟨t2, hst.trans a1, b1⟩
/-- no table: it goes on to the caller -/
def am_noX (K : am_P) : am_H := fun _ C n E _ _ => K (.inr C) n E
theorem ms_noX {X : am_X} {cc : ByteArray} {own : String} {ret : Option FieldType} {Ts : List Cond} (F : am_F X cc own ret Ts) {pc : Nat} {K : am_P} {mc ms : Nat} (FQ : am_FQ X K mc ms) (hT : am_noT X) : am_impX (am_noX K) (am_XG X pc) := by
  obtain ⟨p, l, e, R, s, m, args, below, meth, c, D, dA, ro, ad0, n0, nL, A, Q⟩ := X
  obtain ⟨hx, hb, hml, hown, hts, hK, hA, hE, htr, hlk, hrt, hWS⟩ := F
  obtain ⟨hQ, hAe, hRc, hRs⟩ := FQ
  intro ls C n E ca sl h ad H locs L st q ce h1 h2 h3 h5 h6 h7 h8 h9 hca hsl hce hcv hcl
  subst hQ
  exact vx_out (fun x hx => (hT x hx).elim) hlk hce hcv hcl (fun t ht _ => am_xc h1 h2 h3 h6 h7 h8 hAe (by rw [ht]; exact Nat.le_refl _) (fun q _ => by rw [ht]) h) h8.2.2 (hRc ▸ hca) (hRs ▸ hsl)
def am_ws (y : MethodName) (cc : ByteArray) (maxL : Nat) (ret : Option FieldType) : List Cond := Cond.code y cc maxL ret :: am_WS
def am_wsT (y : MethodName) (cc : ByteArray) (maxL : Nat) (ret : Option FieldType) (hh : List (Nat × Nat × Nat × Nat)) : List Cond := Cond.codeWith y cc maxL ret hh :: am_WS
theorem am_good {w : Cond} (h : w ∈ am_WS) : (w.onTables && w.keeps) = true ∨ ∃ ty, w = .arrayClass ty := good_of_word (List.mem_filter.mp h).2
theorem am_cb {R : Room} {s : State} {args : Array Value} {own : String} {index maxL n : Nat} {y : MethodName} {bytes : ByteArray} {ret : Option FieldType} {rm : Room} (ht : ∀ w ∈ am_WS, w.before args s = true) (hcode : Cond.code y bytes maxL ret ∈ am_WS) (hini : Cond.initialized y.cls ∈ am_WS) (hlink : Cond.methodLink own index y ∈ am_WS)
    (hd : y.cls ≠ "java/lang/invoke/MethodHandle" ∧ y.cls ≠ "java/lang/invoke/VarHandle" ∧ (parseMethodDescriptor y.desc).map (fun d => d.parameters.length) = some n) (hR : rm.frames + 1 ≤ R.frames ∧ 8 + (maxL + 11) + rm.locals ≤ R.locals) : CallB R s args own index y bytes maxL ret (am_ws y bytes maxL ret) rm rm.cells rm.slots n := by
  refine ⟨rfl, rfl, hR.1, hR.2, fun w hw a' U hW => ?_, List.mem_cons_self, ht _ hcode, ht _ hini, ⟨hd.1, hd.2.1⟩, fun sig h => ?_, ht _ hlink⟩
  · rcases List.mem_cons.mp hw with rfl | hw
    · exact word_at hW (am_good hcode) (ht _ hcode)
    · exact word_at hW (am_good hw) (ht _ hw)
  · have h2 := hd.2.2
    rw [h] at h2
    exact (Option.some.inj h2).symm
theorem am_cbN {R : Room} {s : State} {args : Array Value} {own host : String} {index maxL n : Nat} {y : MethodName} {bytes : ByteArray} {ret : Option FieldType} {rm : Room} (ht : ∀ w ∈ am_WS, w.before args s = true) (hcode : Cond.code y bytes maxL ret ∈ am_WS) (hini : Cond.initialized y.cls ∈ am_WS) (hlink : va_Nw (.methodLinkNest own index y host) s)
    (hd : y.cls ≠ "java/lang/invoke/MethodHandle" ∧ y.cls ≠ "java/lang/invoke/VarHandle" ∧ (parseMethodDescriptor y.desc).map (fun d => d.parameters.length) = some n) (hR : rm.frames + 1 ≤ R.frames ∧ 8 + (maxL + 11) + rm.locals ≤ R.locals) : va_CN R s args own index y host bytes maxL ret (am_ws y bytes maxL ret) rm rm.cells rm.slots n := by
  refine ⟨⟨rfl, rfl, hR.1, hR.2, fun w hw a' U hW => ?_, List.mem_cons_self⟩, ht _ hcode, ht _ hini, ⟨hd.1, hd.2.1⟩, fun sig h => ?_, va_Nw.use rfl hlink⟩
  · rcases List.mem_cons.mp hw with rfl | hw
    · exact word_at hW (am_good hcode) (ht _ hcode)
    · exact word_at hW (am_good hw) (ht _ hw)
  · have h2 := hd.2.2
    rw [h] at h2
    exact (Option.some.inj h2).symm
theorem am_cbT {R : Room} {s : State} {args : Array Value} {own : String} {index maxL n : Nat} {y : MethodName} {bytes : ByteArray} {ret : Option FieldType} {hh : List (Nat × Nat × Nat × Nat)} {rm : Room} (ht : ∀ w ∈ am_WS, w.before args s = true) (hcode : Cond.codeWith y bytes maxL ret hh ∈ am_WS) (hini : Cond.initialized y.cls ∈ am_WS) (hlink : Cond.methodLink own index y ∈ am_WS) (hstat : Cond.static y ∈ am_WS)
    (hd : y.cls ≠ "java/lang/invoke/MethodHandle" ∧ y.cls ≠ "java/lang/invoke/VarHandle" ∧ (parseMethodDescriptor y.desc).map (fun d => d.parameters.length) = some n) (hR : rm.frames + 1 ≤ R.frames ∧ 8 + (maxL + 11) + rm.locals ≤ R.locals) : vx_CSW R s args own index y bytes maxL ret hh (am_wsT y bytes maxL ret hh) rm rm.cells rm.slots n := by
  refine ⟨⟨rfl, rfl, hR.1, hR.2, fun w hw a' U hW => ?_, List.mem_cons_self⟩, ht _ hcode, ht _ hini, ⟨hd.1, hd.2.1⟩, fun sig h => ?_, ht _ hlink, ht _ hstat⟩
  · rcases List.mem_cons.mp hw with rfl | hw
    · exact word_at hW (am_good hcode) (ht _ hcode)
    · exact word_at hW (am_good hw) (ht _ hw)
  · have h2 := hd.2.2
    rw [h] at h2
    exact (Option.some.inj h2).symm
def o_call (na : Nat) (S : am_S) (rm' rm : Room) (Xh : am_H) (k : am_C) : am_C := fun ls st n E ca sl =>
  na ≤ st.length ∧ ((st.drop na).map fun v => v.category).sum ≤ 8 ∧ (ca + rm'.cells ≤ rm.cells ∧ sl + rm'.slots ≤ rm.slots) ∧ S (st.take na).reverse n E (am_kc ls (st.drop na) (ca + rm'.cells) (sl + rm'.slots) Xh k)
/-- .. of an object of kind ci -/
def o_callV (ci na : Nat) (S : am_S) (rm' rm : Room) (Xh : am_H) (k : am_C) : am_C := fun ls st n E ca sl => (match (st.take na).reverse with
  | .ref b :: _ => (match E b with
    | some (.inr (c, _)) => c = ci
    | _ => False)
  | _ => False) ∧ o_call na S rm' rm Xh k ls st n E ca sl
theorem am_argsOf {na : Nat} {st : List Value} {n : Nat} (h4 : ∀ v ∈ st, am_lt n v) : (∀ v ∈ (st.take na).reverse, am_lt n v) ∧ ∀ v ∈ st.drop na, am_lt n v :=
  ⟨fun v hv => h4 v (List.mem_of_mem_take (List.mem_reverse.mp hv)), fun v hv => h4 v (List.mem_of_mem_drop hv)⟩
theorem am_stk {na : Nat} {st : List Value} {ad ro : Nat → Nat} : st.map (am_tr ad ro) = (((st.take na).reverse).map (am_tr ad ro)).reverse ++ (st.drop na).map (am_tr ad ro) := by
  rw [← List.map_reverse, List.reverse_reverse, ← List.map_append, List.take_append_drop]
theorem ms_callS {X : am_X} {cc : ByteArray} {own : String} {ret : Option FieldType} {Ts : List Cond} (F : am_F X cc own ret Ts) {pc : Nat} {k : am_C} {Xh : am_H} {rm rm' : Room} (hR : am_Rm X rm) {y : MethodName} {bytes : ByteArray} {maxL na index : Nat} {ret' : Option FieldType} {S : am_S} (hM : ∀ l : Launch, l.stackTraces = false → am_Ct l y (am_ws y bytes maxL ret') rm' S)
    (hcode : Cond.code y bytes maxL ret' ∈ am_WS) (hini : Cond.initialized y.cls ∈ am_WS) (hlink : Cond.methodLink own index y ∈ am_WS) (hstat : Cond.static y ∈ am_WS) (hy : y.cls ≠ "java/lang/invoke/MethodHandle" ∧ y.cls ≠ "java/lang/invoke/VarHandle" ∧ (parseMethodDescriptor y.desc).map (fun d => d.parameters.length) = some na) (hRR : rm'.frames + 1 ≤ rm.frames ∧ 8 + (maxL + 11) + rm'.locals ≤ rm.locals) (hd : decode cc pc = .ok (.invokestatic index, 3)) (hX : am_impX Xh (am_XG X pc)) (hk : am_imp k (am_G X (pc + 3))) : am_imp (o_call na S rm' rm Xh k) (am_G X pc) := by
  have hpre := @am_pre X cc own ret Ts
  have hback := @am_back X pc k Xh hk hX
  obtain ⟨p, l, e, R, s, m, args, below, meth, c, D, dA, ro, ad0, n0, nL, A, Q⟩ := X
  have F' := F
  obtain ⟨hx, hb, hml, hown, hts, hK, hA, hE, htr, hlk, hrt, hWS⟩ := F
  have hR : R = rm := hR
  subst hR
  intro ls st n E ca sl h ad H locs L h1 h2 h3 h4 h5 h6 h7 h8 h9 hca hsl
  obtain ⟨hna, hcat, ⟨hc1, hs1⟩, h⟩ := h
  obtain ⟨ha1, ha2⟩ := am_argsOf (na := na) h4
  refine hback ad H locs L _ h1 h2 h3 ha2 h5 h7 h8 h9 hc1 hs1 hA (vx_runS (Ts := Ts) (nL := nL) (As := ((st.take na).reverse).map (am_tr ad ro)) ⟨hx, hb, hml, hown, hts⟩ (hM l htr D dA ro ad n E H.size _ _ h3 ha1 h) ⟨am_cb (fun w hw => hts w (hWS w hw)) hcode hini hlink hy hRR, hts _ (hWS _ hstat)⟩ ⟨am_blind, hpre F' ad H locs h3 h6 h7 h8⟩ rfl (by simp; omega) h9.1 (by exact am_stk) (lv_room (by rw [am_cats]; exact hcat)) hd ⟨hc1, hs1⟩)
theorem ms_callSN {X : am_X} {cc : ByteArray} {own : String} {ret : Option FieldType} {Ts : List Cond} (F : am_F X cc own ret Ts) {pc : Nat} {k : am_C} {Xh : am_H} {rm rm' : Room} (hR : am_Rm X rm) {y : MethodName} {bytes : ByteArray} {maxL na index : Nat} {ret' : Option FieldType} {S : am_S} {host : String} (hM : ∀ l : Launch, l.stackTraces = false → am_Ct l y (am_ws y bytes maxL ret') rm' S)
    (hcode : Cond.code y bytes maxL ret' ∈ am_WS) (hini : Cond.initialized y.cls ∈ am_WS) (hlink : Cond.methodLinkNest own index y host ∈ am_NW) (hstat : Cond.static y ∈ am_WS) (hy : y.cls ≠ "java/lang/invoke/MethodHandle" ∧ y.cls ≠ "java/lang/invoke/VarHandle" ∧ (parseMethodDescriptor y.desc).map (fun d => d.parameters.length) = some na) (hRR : rm'.frames + 1 ≤ rm.frames ∧ 8 + (maxL + 11) + rm'.locals ≤ rm.locals) (hd : decode cc pc = .ok (.invokestatic index, 3)) (hX : am_impX Xh (am_XG X pc)) (hk : am_imp k (am_G X (pc + 3))) : am_imp (o_call na S rm' rm Xh k) (am_G X pc) := by
  have hpre := @am_pre X cc own ret Ts
  have hback := @am_back X pc k Xh hk hX
  obtain ⟨p, l, e, R, s, m, args, below, meth, c, D, dA, ro, ad0, n0, nL, A, Q⟩ := X
  have F' := F
  obtain ⟨hx, hb, hml, hown, hts, hK, hA, hE, htr, hlk, hrt, hWS⟩ := F
  have hR : R = rm := hR
  subst hR
  intro ls st n E ca sl h ad H locs L h1 h2 h3 h4 h5 h6 h7 h8 h9 hca hsl
  obtain ⟨hna, hcat, ⟨hc1, hs1⟩, h⟩ := h
  obtain ⟨ha1, ha2⟩ := am_argsOf (na := na) h4
  refine hback ad H locs L _ h1 h2 h3 ha2 h5 h7 h8 h9 hc1 hs1 hA (vx_runSN (Ts := Ts) (nL := nL) (As := ((st.take na).reverse).map (am_tr ad ro)) ⟨hx, hb, hml, hown, hts⟩ (hM l htr D dA ro ad n E H.size _ _ h3 ha1 h) ⟨am_cbN (fun w hw => hts w (hWS w hw)) hcode hini (hE.1 _ hlink) hy hRR, hts _ (hWS _ hstat), trivial⟩ ⟨am_blind, hpre F' ad H locs h3 h6 h7 h8⟩ rfl (by simp; omega) h9.1 (by exact am_stk) (lv_room (by rw [am_cats]; exact hcat)) hd ⟨hc1, hs1⟩)
theorem ms_callSX {X : am_X} {cc : ByteArray} {own : String} {ret : Option FieldType} {Ts : List Cond} (F : am_F X cc own ret Ts) {pc : Nat} {k : am_C} {Xh : am_H} {rm rm' : Room} (hR : am_Rm X rm) {y : MethodName} {bytes : ByteArray} {maxL na index : Nat} {ret' : Option FieldType} {hh : List (Nat × Nat × Nat × Nat)} {S : am_S} (hM : ∀ l : Launch, l.stackTraces = false → am_Ct l y (am_wsT y bytes maxL ret' hh) rm' S)
    (hcode : Cond.codeWith y bytes maxL ret' hh ∈ am_WS) (hini : Cond.initialized y.cls ∈ am_WS) (hlink : Cond.methodLink own index y ∈ am_WS) (hstat : Cond.static y ∈ am_WS) (hy : y.cls ≠ "java/lang/invoke/MethodHandle" ∧ y.cls ≠ "java/lang/invoke/VarHandle" ∧ (parseMethodDescriptor y.desc).map (fun d => d.parameters.length) = some na) (hRR : rm'.frames + 1 ≤ rm.frames ∧ 8 + (maxL + 11) + rm'.locals ≤ rm.locals) (hd : decode cc pc = .ok (.invokestatic index, 3)) (hX : am_impX Xh (am_XG X pc)) (hk : am_imp k (am_G X (pc + 3))) : am_imp (o_call na S rm' rm Xh k) (am_G X pc) := by
  have hpre := @am_pre X cc own ret Ts
  have hback := @am_back X pc k Xh hk hX
  obtain ⟨p, l, e, R, s, m, args, below, meth, c, D, dA, ro, ad0, n0, nL, A, Q⟩ := X
  have F' := F
  obtain ⟨hx, hb, hml, hown, hts, hK, hA, hE, htr, hlk, hrt, hWS⟩ := F
  have hR : R = rm := hR
  subst hR
  intro ls st n E ca sl h ad H locs L h1 h2 h3 h4 h5 h6 h7 h8 h9 hca hsl
  obtain ⟨hna, hcat, ⟨hc1, hs1⟩, h⟩ := h
  obtain ⟨ha1, ha2⟩ := am_argsOf (na := na) h4
  refine hback ad H locs L _ h1 h2 h3 ha2 h5 h7 h8 h9 hc1 hs1 hA (vx_runSX (Ts := Ts) (nL := nL) (As := ((st.take na).reverse).map (am_tr ad ro)) ⟨hx, hb, hml, hown, hts⟩ (hM l htr D dA ro ad n E H.size _ _ h3 ha1 h) (am_cbT (fun w hw => hts w (hWS w hw)) hcode hini hlink hstat hy hRR) ⟨am_blind, hpre F' ad H locs h3 h6 h7 h8⟩ rfl (by simp; omega) h9.1 (by exact am_stk) (lv_room (by rw [am_cats]; exact hcat)) hd ⟨hc1, hs1⟩)
theorem ms_callV {X : am_X} {cc : ByteArray} {own : String} {ret : Option FieldType} {Ts : List Cond} (F : am_F X cc own ret Ts) {pc : Nat} {k : am_C} {Xh : am_H} {rm rm' : Room} (hR : am_Rm X rm) {y : MethodName} {bytes : ByteArray} {maxL na index ci : Nat} {ret' : Option FieldType} {S : am_S} {r9 : vw_C} (hM : ∀ l : Launch, l.stackTraces = false → am_Ct l y (am_ws y bytes maxL ret') rm' S)
    (hcode : Cond.code y bytes maxL ret' ∈ am_WS) (hini : Cond.initialized y.cls ∈ am_WS) (hlink : Cond.methodLink own index y ∈ am_WS) (hinst : Cond.instanceMethod y ∈ am_WS) (hsel : Cond.selects r9.1 y y ∈ am_WS) (hc : vwCl[ci]? = some r9) (hy : y.cls ≠ "java/lang/invoke/MethodHandle" ∧ y.cls ≠ "java/lang/invoke/VarHandle" ∧ (parseMethodDescriptor y.desc).map (fun d => d.parameters.length) = some na) (hRR : rm'.frames + 1 ≤ rm.frames ∧ 8 + (maxL + 11) + rm'.locals ≤ rm.locals) (hd : decode cc pc = .ok (.invokevirtual index, 3)) (hX : am_impX Xh (am_XG X pc)) (hk : am_imp k (am_G X (pc + 3))) : am_imp (o_callV ci (na + 1) S rm' rm Xh k) (am_G X pc) := by
  have hpre := @am_pre X cc own ret Ts
  have hback := @am_back X pc k Xh hk hX
  obtain ⟨p, l, e, R, s, m, args, below, meth, c, D, dA, ro, ad0, n0, nL, A, Q⟩ := X
  have F' := F
  obtain ⟨hx, hb, hml, hown, hts, hK, hA, hE, htr, hlk, hrt, hWS⟩ := F
  have hR : R = rm := hR
  subst hR
  intro ls st n E ca sl h ad H locs L h1 h2 h3 h4 h5 h6 h7 h8 h9 hca hsl
  obtain ⟨hrc, hna, hcat, ⟨hc1, hs1⟩, h⟩ := h
  obtain ⟨ha1, ha2⟩ := am_argsOf (na := na + 1) h4
  have hstk := am_stk (na := na + 1) (st := st) (ad := ad) (ro := ro)
  have hlen : ((st.take (na + 1)).reverse).length = na + 1 := by simp; omega
  generalize hargs : (st.take (na + 1)).reverse = as at hrc h ha1 hstk hlen
  split at hrc
  · rename_i b as'
    split at hrc
    · rename_i cb fs hbe
      subst hrc
      obtain ⟨hltb, hleb⟩ := (h3 b).2 _ hbe
      refine hback ad H locs L _ h1 h2 h3 ha2 h5 h7 h8 h9 hc1 hs1 hA (vx_runV (Ts := Ts) (nL := nL) (C := r9.1) (b := ad b) (As := as'.map (am_tr ad ro)) ⟨hx, hb, hml, hown, hts⟩ (hM l htr D dA ro ad n E H.size _ _ h3 ha1 h) ⟨am_cb (fun w hw => hts w (hWS w hw)) hcode hini hlink hy hRR, hts _ (hWS _ hinst), hts _ (hWS _ hsel)⟩ ⟨am_blind, va_recv hK h6 hc (am_w_at hltb hbe), hpre F' ad H locs h3 h6 h7 h8⟩ rfl (by simp at hlen; simp; omega) h9.1 ?_ (lv_room (by rw [am_cats]; exact hcat)) hd ⟨hc1, hs1⟩)
      show st.map (am_tr ad ro) = _
      rw [hstk]
      simp [am_tr]
    · exact hrc.elim
  · exact hrc.elim
theorem ms_callI {X : am_X} {cc : ByteArray} {own : String} {ret : Option FieldType} {Ts : List Cond} (F : am_F X cc own ret Ts) {pc : Nat} {k : am_C} {Xh : am_H} {rm rm' : Room} (hR : am_Rm X rm) {y : MethodName} {bytes : ByteArray} {maxL na index ci : Nat} {S : am_S} (hM : ∀ l : Launch, l.stackTraces = false → am_Ct l y (am_ws y bytes maxL none) rm' S)
    (hcode : Cond.code y bytes maxL none ∈ am_WS) (hini : Cond.initialized y.cls ∈ am_WS) (hlink : Cond.methodLink own index y ∈ am_WS) (hinst : Cond.instanceMethod y ∈ am_WS) (hyn : y.name = "<init>") (hy : y.cls ≠ "java/lang/invoke/MethodHandle" ∧ y.cls ≠ "java/lang/invoke/VarHandle" ∧ (parseMethodDescriptor y.desc).map (fun d => d.parameters.length) = some na) (hRR : rm'.frames + 1 ≤ rm.frames ∧ 8 + (maxL + 11) + rm'.locals ≤ rm.locals) (hd : decode cc pc = .ok (.invokespecial index, 3)) (hX : am_impX Xh (am_XG X pc)) (hk : am_imp k (am_G X (pc + 3))) : am_imp (o_callV ci (na + 1) S rm' rm Xh k) (am_G X pc) := by
  have hpre := @am_pre X cc own ret Ts
  have hback := @am_back X pc k Xh hk hX
  obtain ⟨p, l, e, R, s, m, args, below, meth, c, D, dA, ro, ad0, n0, nL, A, Q⟩ := X
  have F' := F
  obtain ⟨hx, hb, hml, hown, hts, hK, hA, hE, htr, hlk, hrt, hWS⟩ := F
  have hR : R = rm := hR
  subst hR
  intro ls st n E ca sl h ad H locs L h1 h2 h3 h4 h5 h6 h7 h8 h9 hca hsl
  obtain ⟨hrc, hna, hcat, ⟨hc1, hs1⟩, h⟩ := h
  obtain ⟨ha1, ha2⟩ := am_argsOf (na := na + 1) h4
  have hstk := am_stk (na := na + 1) (st := st) (ad := ad) (ro := ro)
  have hlen : ((st.take (na + 1)).reverse).length = na + 1 := by simp; omega
  generalize hargs : (st.take (na + 1)).reverse = as at hrc h ha1 hstk hlen
  split at hrc
  · rename_i b as'
    refine hback ad H locs L _ h1 h2 h3 ha2 h5 h7 h8 h9 hc1 hs1 hA (vx_runI (Ts := Ts) (nL := nL) (b := ad b) (As := as'.map (am_tr ad ro)) ⟨hx, hb, hml, hown, hts⟩ (hM l htr D dA ro ad n E H.size _ _ h3 ha1 h) ⟨am_cb (fun w hw => hts w (hWS w hw)) hcode hini hlink hy hRR, hyn, hts _ (hWS _ hinst)⟩ ⟨am_blind, hpre F' ad H locs h3 h6 h7 h8⟩ rfl (by simp at hlen; simp; omega) h9.1 ?_ (lv_room (by rw [am_cats]; exact hcat)) hd ⟨hc1, hs1⟩)
    show st.map (am_tr ad ro) = _
    rw [hstk]
    simp [am_tr]
  · exact hrc.elim
theorem ms_callIN {X : am_X} {cc : ByteArray} {own : String} {ret : Option FieldType} {Ts : List Cond} (F : am_F X cc own ret Ts) {pc : Nat} {k : am_C} {Xh : am_H} {rm rm' : Room} (hR : am_Rm X rm) {y : MethodName} {bytes : ByteArray} {maxL na index ci : Nat} {S : am_S} {host : String} (hM : ∀ l : Launch, l.stackTraces = false → am_Ct l y (am_ws y bytes maxL none) rm' S)
    (hcode : Cond.code y bytes maxL none ∈ am_WS) (hini : Cond.initialized y.cls ∈ am_WS) (hlink : Cond.methodLinkNest own index y host ∈ am_NW) (hinst : Cond.instanceMethod y ∈ am_WS) (hyn : y.name = "<init>") (hy : y.cls ≠ "java/lang/invoke/MethodHandle" ∧ y.cls ≠ "java/lang/invoke/VarHandle" ∧ (parseMethodDescriptor y.desc).map (fun d => d.parameters.length) = some na) (hRR : rm'.frames + 1 ≤ rm.frames ∧ 8 + (maxL + 11) + rm'.locals ≤ rm.locals) (hd : decode cc pc = .ok (.invokespecial index, 3)) (hX : am_impX Xh (am_XG X pc)) (hk : am_imp k (am_G X (pc + 3))) : am_imp (o_callV ci (na + 1) S rm' rm Xh k) (am_G X pc) := by
  have hpre := @am_pre X cc own ret Ts
  have hback := @am_back X pc k Xh hk hX
  obtain ⟨p, l, e, R, s, m, args, below, meth, c, D, dA, ro, ad0, n0, nL, A, Q⟩ := X
  have F' := F
  obtain ⟨hx, hb, hml, hown, hts, hK, hA, hE, htr, hlk, hrt, hWS⟩ := F
  have hR : R = rm := hR
  subst hR
  intro ls st n E ca sl h ad H locs L h1 h2 h3 h4 h5 h6 h7 h8 h9 hca hsl
  obtain ⟨hrc, hna, hcat, ⟨hc1, hs1⟩, h⟩ := h
  obtain ⟨ha1, ha2⟩ := am_argsOf (na := na + 1) h4
  have hstk := am_stk (na := na + 1) (st := st) (ad := ad) (ro := ro)
  have hlen : ((st.take (na + 1)).reverse).length = na + 1 := by simp; omega
  generalize hargs : (st.take (na + 1)).reverse = as at hrc h ha1 hstk hlen
  split at hrc
  · rename_i b as'
    refine hback ad H locs L _ h1 h2 h3 ha2 h5 h7 h8 h9 hc1 hs1 hA (vx_runIN (Ts := Ts) (nL := nL) (b := ad b) (As := as'.map (am_tr ad ro)) ⟨hx, hb, hml, hown, hts⟩ (hM l htr D dA ro ad n E H.size _ _ h3 ha1 h) ⟨am_cbN (fun w hw => hts w (hWS w hw)) hcode hini (hE.1 _ hlink) hy hRR, hyn, hts _ (hWS _ hinst)⟩ ⟨am_blind, hpre F' ad H locs h3 h6 h7 h8⟩ rfl (by simp at hlen; simp; omega) h9.1 ?_ (lv_room (by rw [am_cats]; exact hcat)) hd ⟨hc1, hs1⟩)
    show st.map (am_tr ad ro) = _
    rw [hstk]
    simp [am_tr]
  · exact hrc.elim
/-! ===== Math, static arrays ===== -/
def o_im (f : Int32 → Int32 → Int32) (k : am_C) : am_C := fun ls st n E ca sl => match st with
  | .int y :: .int x :: r => (r.map fun v => v.category).sum ≤ 8 ∧ k ls (.int (f x y) :: r) n E ca sl
  | _ => False
def o_ia (f : Int32 → Int32) (k : am_C) : am_C := fun ls st n E ca sl => match st with
  | .int x :: r => (r.map fun v => v.category).sum ≤ 8 ∧ k ls (.int (f x) :: r) n E ca sl
  | _ => False
def am_max (x y : Int32) : Int32 := if x < y then y else x
theorem ms_max {X : am_X} {cc : ByteArray} {own : String} {ret : Option FieldType} {Ts : List Cond} (F : am_F X cc own ret Ts) {pc index : Nat} {k : am_C} {rm : Room} (hR : am_Rm X rm) (hf : 1 ≤ rm.frames) (hlo : 21 ≤ rm.locals) (hw : Cond.methodLink own index Lib.Math.max.name ∈ Ts) (hs : Cond.static Lib.Math.max.name ∈ Ts) (hi : Cond.initialized "java/lang/Math" ∈ Ts) (hc : Cond.code Lib.Math.max.name Lib.Math.max.code 2 (some .int) ∈ Ts) (hd : decode cc pc = .ok (.invokestatic index, 3)) (hk : am_imp k (am_G X (pc + 3))) : am_imp (o_im am_max k) (am_G X pc) := by
  obtain ⟨p, l, e, R, s, m, args, below, meth, c, D, dA, ro, ad0, n0, nL, A, Q⟩ := X
  obtain ⟨hx, hb, hml, hown, hts, hK, hA, hE, htr, hlk, hrt, hWS⟩ := F
  have hR : R = rm := hR
  subst hR
  intro ls st n E ca sl h ad H locs L h1 h2 h3 h4 h5 h6 h7 h8 h9 hca hsl
  unfold o_im at h
  split at h
  · rename_i y x r
    obtain ⟨hcat, h⟩ := h
    exact va_mmax hx hb (hml.trans h9.1.symm) hown (hts _ hw) (hts _ hs) (hts _ hi) (hts _ hc) hf (by rw [am_cats]; omega) hca hsl hd (hk _ _ _ _ _ _ h ad H locs L h1 h2 h3 (am_cs trivial (am_tl (am_tl h4))) h5 h6 h7 h8 h9 hca hsl)
  · exact h.elim
def am_min (x y : Int32) : Int32 := if y < x then y else x
theorem ms_min {X : am_X} {cc : ByteArray} {own : String} {ret : Option FieldType} {Ts : List Cond} (F : am_F X cc own ret Ts) {pc index : Nat} {k : am_C} {rm : Room} (hR : am_Rm X rm) (hf : 1 ≤ rm.frames) (hlo : 21 ≤ rm.locals) (hw : Cond.methodLink own index Lib.Math.min.name ∈ Ts) (hs : Cond.static Lib.Math.min.name ∈ Ts) (hi : Cond.initialized "java/lang/Math" ∈ Ts) (hc : Cond.code Lib.Math.min.name Lib.Math.min.code 2 (some .int) ∈ Ts) (hd : decode cc pc = .ok (.invokestatic index, 3)) (hk : am_imp k (am_G X (pc + 3))) : am_imp (o_im am_min k) (am_G X pc) := by
  obtain ⟨p, l, e, R, s, m, args, below, meth, c, D, dA, ro, ad0, n0, nL, A, Q⟩ := X
  obtain ⟨hx, hb, hml, hown, hts, hK, hA, hE, htr, hlk, hrt, hWS⟩ := F
  have hR : R = rm := hR
  subst hR
  intro ls st n E ca sl h ad H locs L h1 h2 h3 h4 h5 h6 h7 h8 h9 hca hsl
  unfold o_im at h
  split at h
  · rename_i y x r
    obtain ⟨hcat, h⟩ := h
    exact va_mmin hx hb (hml.trans h9.1.symm) hown (hts _ hw) (hts _ hs) (hts _ hi) (hts _ hc) hf (by rw [am_cats]; omega) hca hsl hd (hk _ _ _ _ _ _ h ad H locs L h1 h2 h3 (am_cs trivial (am_tl (am_tl h4))) h5 h6 h7 h8 h9 hca hsl)
  · exact h.elim
def am_abs (x : Int32) : Int32 := if 0 ≤ x then x else 0 - x
theorem ms_abs {X : am_X} {cc : ByteArray} {own : String} {ret : Option FieldType} {Ts : List Cond} (F : am_F X cc own ret Ts) {pc index : Nat} {k : am_C} {rm : Room} (hR : am_Rm X rm) (hf : 1 ≤ rm.frames) (hlo : 21 ≤ rm.locals) (hw : Cond.methodLink own index Lib.Math.abs.name ∈ Ts) (hs : Cond.static Lib.Math.abs.name ∈ Ts) (hi : Cond.initialized "java/lang/Math" ∈ Ts) (hc : Cond.code Lib.Math.abs.name Lib.Math.abs.code 1 (some .int) ∈ Ts) (hd : decode cc pc = .ok (.invokestatic index, 3)) (hk : am_imp k (am_G X (pc + 3))) : am_imp (o_ia am_abs k) (am_G X pc) := by
  obtain ⟨p, l, e, R, s, m, args, below, meth, c, D, dA, ro, ad0, n0, nL, A, Q⟩ := X
  obtain ⟨hx, hb, hml, hown, hts, hK, hA, hE, htr, hlk, hrt, hWS⟩ := F
  have hR : R = rm := hR
  subst hR
  intro ls st n E ca sl h ad H locs L h1 h2 h3 h4 h5 h6 h7 h8 h9 hca hsl
  unfold o_ia at h
  split at h
  · rename_i x r
    obtain ⟨hcat, h⟩ := h
    exact va_mabs hx hb (hml.trans h9.1.symm) hown (hts _ hw) (hts _ hs) (hts _ hi) (hts _ hc) hf (by rw [am_cats]; omega) hca hsl hd (hk _ _ _ _ _ _ h ad H locs L h1 h2 h3 (am_cs trivial (am_tl h4)) h5 h6 h7 h8 h9 hca hsl)
  · exact h.elim
def o_gets (j : Nat) (k : am_C) : am_C := fun ls st n E ca sl => k ls (.retAddr j :: st) n E ca sl
theorem ms_gets {X : am_X} {cc : ByteArray} {own : String} {ret : Option FieldType} {Ts : List Cond} (F : am_F X cc own ret Ts) {pc index : Nat} {k : am_C} {C nm d : String} {j : Nat} (hj : j = 1 ∧ C = "LeadlightHall$Paint" ∧ nm = "LETTERS" ∧ d = "[C" ∨ j = 2 ∧ C = "LeadlightHall$Paint" ∧ nm = "HEATS" ∧ d = "[I" ∨ j = 3 ∧ C = "LeadlightHallModel" ∧ nm = "DX" ∧ d = "[I" ∨ j = 4 ∧ C = "LeadlightHallModel" ∧ nm = "DY" ∧ d = "[I" ∨ j = 5 ∧ C = "LeadlightHallModel" ∧ nm = "HEATS" ∧ d = "[I") (hw : Cond.fieldLink own index C nm d ∈ Ts) (hd : decode cc pc = .ok (.getstatic index, 3)) (hk : am_imp k (am_G X (pc + 3))) : am_imp (o_gets j k) (am_G X pc) := by
  obtain ⟨p, l, e, R, s, m, args, below, meth, c, D, dA, ro, ad0, n0, nL, A, Q⟩ := X
  obtain ⟨hx, hb, hml, hown, hts, hK, hA, hE, htr, hlk, hrt, hWS⟩ := F
  intro ls st n E ca sl h ad H locs L h1 h2 h3 h4 h5 h6 h7 h8 h9 hca hsl
  have hZ : va_Z C nm d (.ref (ro j)) A s s.heap := by
    obtain ⟨-, -, -, -, x1, x2, x3, x4, x5, -⟩ := hE
    rcases hj with ⟨rfl, rfl, rfl, rfl⟩ | ⟨rfl, rfl, rfl, rfl⟩ | ⟨rfl, rfl, rfl, rfl⟩ | ⟨rfl, rfl, rfl, rfl⟩ | ⟨rfl, rfl, rfl, rfl⟩
    · exact x1.1
    · exact x2.1
    · exact x3.1
    · exact x4.1
    · exact x5.1
  exact va_gets hx hb hZ h8 hown (hts _ hw) (fun _ h9 => h9) hd (hk _ _ _ _ _ _ h ad H locs L h1 h2 h3 (am_cs trivial h4) h5 h6 h7 h8 h9 hca hsl)
/-! ===== a method's start ===== -/
def am_sl (as : List Value) : am_L := match as with
  | [] => []
  | v :: r => if v.category = 2 then some v :: none :: am_sl r else some v :: am_sl r
def am_inl (maxL : Nat) (as : List Value) : am_L := am_sl as ++ List.replicate (maxL - (am_sl as).length) none
theorem am_sl_at {as : List Value} {ad ro : Nat → Nat} : (lg_sl (as.map (am_tr ad ro))).length = (am_sl as).length ∧ ∀ (i : Nat) (v : Value), (am_sl as)[i]? = some (some v) → (lg_sl (as.map (am_tr ad ro)))[i]? = some (.val (am_tr ad ro v)) := by
  induction as with
  | nil => exact ⟨rfl, fun i v h => by simp [am_sl] at h⟩
  | cons w r ih =>
    obtain ⟨ih1, ih2⟩ := ih
    have e : lg_sl ((w :: r).map (am_tr ad ro)) = (if w.category = 2 then [.val (am_tr ad ro w), .second] else [.val (am_tr ad ro w)]) ++ lg_sl (r.map (am_tr ad ro)) := by
      simp [lg_sl, am_tr_cat]
    rw [e]
    by_cases hc : w.category = 2
    · rw [if_pos hc]
      simp only [am_sl, if_pos hc]
      refine ⟨by simp [ih1], fun i v h => ?_⟩
      match i, h with
      | 0, h => cases h; rfl
      | 1, h => cases h
      | i + 2, h => exact ih2 i v h
    · rw [if_neg hc]
      simp only [am_sl, if_neg hc]
      refine ⟨by simp [ih1], fun i v h => ?_⟩
      match i, h with
      | 0, h => cases h; rfl
      | i + 1, h => exact ih2 i v h
theorem am_inl_lt {n maxL : Nat} {as : List Value} (h : ∀ v ∈ as, am_lt n v) : ∀ v, some v ∈ am_inl maxL as → am_lt n v := by
  intro v hv
  rcases List.mem_append.mp hv with h1 | h1
  · have key : ∀ as : List Value, some v ∈ am_sl as → v ∈ as := by
      intro as
      induction as with
      | nil => intro q; simp [am_sl] at q
      | cons w r ih =>
        intro q
        by_cases hc : w.category = 2
        · simp [am_sl, hc] at q
          rcases q with q | q
          · exact List.mem_cons.mpr (Or.inl q)
          · exact List.mem_cons_of_mem _ (ih q)
        · simp [am_sl, hc] at q
          rcases q with q | q
          · exact List.mem_cons.mpr (Or.inl q)
          · exact List.mem_cons_of_mem _ (ih q)
    exact h v (key as h1)
  · have := List.eq_of_mem_replicate h1
    cases this
theorem am_inl_has {as : List Value} {ad ro : Nat → Nat} {maxL : Nat} (h : (am_sl as).length ≤ maxL) : am_has ad ro maxL ((lg_sl (as.map (am_tr ad ro)) ++ List.replicate (maxL - (lg_sl (as.map (am_tr ad ro))).length) Slot.unset).toArray) (am_inl maxL as) := by
  obtain ⟨e1, e2⟩ := am_sl_at (as := as) (ad := ad) (ro := ro)
  have hl := lv_entry (as.map (am_tr ad ro)) (n := maxL) (by rw [e1]; exact h)
  refine ⟨hl.1, hl.2.1, fun i v hv => ?_⟩
  unfold am_inl at hv
  by_cases hi : i < (am_sl as).length
  · rw [List.getElem?_append_left hi] at hv
    have h9 := e2 i v hv
    rw [List.getElem?_toArray, List.getElem?_append_left (by rw [e1]; exact hi)]
    exact h9
  · rw [List.getElem?_append_right (by omega)] at hv
    have := List.mem_of_getElem? hv
    have := List.eq_of_mem_replicate this
    cases this
theorem am_of {l : Launch} {y : MethodName} {cc : ByteArray} {maxL : Nat} {ret : Option FieldType} {rm : Room} {S : am_S} (htr : l.stackTraces = false) (hy : plainName y.cls = true) (hcode : Cond.code y cc maxL ret ∈ am_WS)
    (body : ∀ (X : am_X) (K : am_P), am_F X cc y.cls ret (am_ws y cc maxL ret) → am_FQ X K rm.cells rm.slots → am_Rm X rm → am_noT X → am_nL X = maxL → (y.name = "<init>" → am_ini X) → ∀ (as : List Value) (n : Nat) (E : am_E), S as n E K → (am_sl as).length ≤ maxL ∧ am_G X 0 (am_inl maxL as) [] n E 0 0) : am_Ct l y (am_ws y cc maxL ret) rm S := by
  intro D dA ro ad n E sz as K h3 hlt hS
  refine vx_ofW (cc := cc) (maxL := maxL) (ret := ret) hy rfl ?_
  intro p e s m args below meth c s₁ B hml htab hP
  obtain ⟨rfl, hsz, hP, hK, hD, hE⟩ := hP
  subst hsz
  have hts := atoms_spec (ws := am_ws y cc maxL ret) B.pre
  have hown : s.vm.findClass y.cls = some m.cls := findClass_of_methodNamed B.named
  have hin := (name_of_methodNamed B.named B.method).1
  obtain ⟨hle, g⟩ := body (p, l, e, rm, s, m, (as.map (am_tr ad ro)).toArray, below, meth, c, D, dA, ro, ad, n, maxL, am_A ad n s.heap.size, vx_MQ below (am_Qc D dA ro ad n s.heap.size K) (am_Xc D dA ro ad n s.heap.size K) (as.map (am_tr ad ro)).toArray s rm.cells rm.slots (am_A ad n s.heap.size)) K
    ⟨B.exec, B.bytes, hml, hown, hts, hK, fun q hq => Or.inr hq, hE, htr, B.notSynchronized, B.returns, fun w hw => List.mem_cons_of_mem _ hw⟩ ⟨rfl, rfl, rfl, rfl⟩ rfl htab rfl (fun q => hin.trans q) as n E hS
  have g2 := g ad s.heap [] _ (fun _ _ => rfl) (Nat.le_refl _) h3 (fun v hv => by cases hv) (am_inl_lt hlt) hP hD va_S.rf (am_inl_has hle) (Nat.zero_le _) (Nat.zero_le _)
  rw [lg_entry_eq]
  exact g2
