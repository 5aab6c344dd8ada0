/-! ===== what else a method's start gives: words that are not good ones, texts, statics ===== -/
def am_xf (k j : Nat) : Int32 := match k with
  | 1 => [116, 109, 115, 101].getD j 0
  | 2 => [660, 620, 580, 540].getD j 0
  | 3 => [1, -1, 0, 0].getD j 0
  | 4 => [0, 0, 1, -1].getD j 0
  | _ => [660, 620, 580, 540].getD j 0
def am_sta (ro : Nat → Nat) (A : Nat → Prop) (U : State) (H : Heap) (C n d : String) (ty : FieldType) (k : Nat) : Prop := va_Z C n d (.ref (ro k)) A U H ∧ va_T ty (ro k) 4 (fun j => .int (am_xf k j)) A U H
/-- what cannot be cast, the text KINDS, strings are compact -/
def am_ex2 (ro : Nat → Nat) (A : Nat → Prop) (U : State) (H : Heap) : Prop :=
  (∀ q ∈ am_NC, va_Nc q.1 q.2 U) ∧ vk_S 1 [4] [[116, 109, 115, 101]] (fun _ => ro 6) (fun _ => ro 7) A U H ∧ vk_R "LeadlightHallModel" am_KN "tmse" (ro 6) U ∧ va_Z "java/lang/String" "COMPACT_STRINGS" "Z" (.int 1) A U H
theorem am_ex2.step {ro : Nat → Nat} {A B : Nat → Prop} {s U : State} {H0 H : Heap} (h : am_ex2 ro A s H0) (hW : s.WarmedH U.vm) (hB : ∀ q, B q → A q) (hq : ∀ a : Nat, a < H0.size → ¬ A a → H[a]? = H0[a]?) : am_ex2 ro B U H :=
  ⟨fun q w => va_Nc.moved hW.alike (h.1 q w), vk_S.narrow (vk_S.moved hW.alike (h.2.1.kept hq)) hB, vk_R.warm hW h.2.2.1, va_Z.narrow (va_Z.moved hW.alike (h.2.2.2.kept hq)) hB⟩
def am_ext (ro : Nat → Nat) (A : Nat → Prop) (U : State) (H : Heap) : Prop :=
  (∀ w ∈ am_NW, va_Nw w U) ∧ (∀ q ∈ am_SR, ∃ a : Nat, vk_R q.1 q.2.1 q.2.2 a U) ∧
  (va_AO "LeadlightHall$Pane" U ∧ va_AO "LeadlightHall$Sheet" U ∧ va_AOA .char U ∧ va_AOA .boolean U ∧ va_AOA .int U) ∧
  (vx_Zq Bundle.tN "UNASSIGNED_STACK" Bundle.steD A U H ∧ vx_Zq Bundle.tN "SUPPRESSED_SENTINEL" Bundle.listD A U H) ∧
  am_sta ro A U H "LeadlightHall$Paint" "LETTERS" "[C" .char 1 ∧ am_sta ro A U H "LeadlightHall$Paint" "HEATS" "[I" .int 2 ∧
  am_sta ro A U H "LeadlightHallModel" "DX" "[I" .int 3 ∧ am_sta ro A U H "LeadlightHallModel" "DY" "[I" .int 4 ∧ am_sta ro A U H "LeadlightHallModel" "HEATS" "[I" .int 5 ∧ am_ex2 ro A U H
theorem am_sta.step {ro : Nat → Nat} {A B : Nat → Prop} {s U : State} {H0 H : Heap} {C n d : String} {ty : FieldType} {k : Nat} (h : am_sta ro A s H0 C n d ty k) (hW : s.WarmedH U.vm) (hB : ∀ q, B q → A q) (hq : ∀ a : Nat, a < H0.size → ¬ A a → H[a]? = H0[a]?) : am_sta ro B U H C n d ty k :=
  ⟨va_Z.narrow (va_Z.moved hW.alike (h.1.kept hq)) hB, va_T.narrow (va_T.moved hW.alike (h.2.kept hq)) hB⟩
theorem am_ext.step {ro : Nat → Nat} {A B : Nat → Prop} {s U : State} {H0 H : Heap} (h : am_ext ro A s H0) (hW : s.WarmedH U.vm) (hB : ∀ q, B q → A q) (hq : ∀ a : Nat, a < H0.size → ¬ A a → H[a]? = H0[a]?) : am_ext ro B U H := by
  obtain ⟨h1, h2, ⟨a1, a2, a3, a4, a5⟩, ⟨z1, z2⟩, t1, t2, t3, t4, t5, t6⟩ := h
  refine ⟨fun w hw => am_nk_warm (List.mem_filter.mp hw).2 hW (h1 w hw), fun q hq => ?_, ⟨va_AO.moved hW.alike a1, va_AO.moved hW.alike a2, va_AOA.moved hW.alike a3, va_AOA.moved hW.alike a4, va_AOA.moved hW.alike a5⟩, ⟨vx_Zq.narrow (vx_Zq.moved hW.alike (z1.kept hq)) hB, vx_Zq.narrow (vx_Zq.moved hW.alike (z2.kept hq)) hB⟩, t1.step hW hB hq, t2.step hW hB hq, t3.step hW hB hq, t4.step hW hB hq, t5.step hW hB hq, t6.step hW hB hq⟩
  obtain ⟨a, ha⟩ := h2 q hq
  exact ⟨a, vk_R.warm hW ha⟩
/-! ===== a method's contract over the abstract machine ===== -/
def am_A (ad : Nat → Nat) (n sz : Nat) : Nat → Prop := fun q => (∃ k : Nat, k < n ∧ ad k = q) ∨ sz ≤ q
def am_Pc (D : va_G) (dA ro ad : Nat → Nat) (n : Nat) (E : am_E) (sz : Nat) (as : List Value) : Array Value → State → Prop := va_Pc (as.map (am_tr ad ro)) (fun U => U.heap.size = sz ∧ va_P D vwCl (am_w dA ad ro n E) U.heap ∧ va_K D vwCl (am_tys dA) U ∧ va_D (am_A ad n sz) (am_w dA ad ro n E) ∧ am_ext ro (am_A ad n sz) U U.heap)
def am_end (D : va_G) (dA ro ad : Nat → Nat) (n sz n' : Nat) (E' : am_E) (ok : (Nat → Nat) → Prop) (t : State) : Prop := ∃ ad' : Nat → Nat, (∀ k, k < n → ad' k = ad k) ∧ n ≤ n' ∧ am_we n' E' ∧ va_P D vwCl (am_w dA ad' ro n' E') t.heap ∧ va_D (am_A ad n sz) (am_w dA ad' ro n' E') ∧ ok ad'
def am_Qc (D : va_G) (dA ro ad : Nat → Nat) (n sz : Nat) (K : am_P) : Array Value → State → Outcome → State → Prop := fun _ st o t => (∃ (v : Option Value) (n' : Nat) (E' : am_E), K (.inl v) n' E' ∧ (∀ w, v = some w → am_lt n' w) ∧ am_end D dA ro ad n sz n' E' (fun ad' => o = .returned (v.map (am_tr ad' ro))) t) ∧ va_F (am_A ad n sz) st t
def am_Xc (D : va_G) (dA ro ad : Nat → Nat) (n sz : Nat) (K : am_P) : String → State → State → Prop := fun C st t => (∃ (n' : Nat) (E' : am_E), K (.inr C) n' E' ∧ am_end D dA ro ad n sz n' E' (fun _ => True) t) ∧ va_F (am_A ad n sz) st t
def am_Ct (l : Launch) (y : MethodName) (ws : List Cond) (rm : Room) (S : am_S) : Prop := ∀ (D : va_G) (dA ro ad : Nat → Nat) (n : Nat) (E : am_E) (sz : Nat) (as : List Value) (K : am_P), am_we n E → (∀ v ∈ as, am_lt n v) → S as n E K → vx_Met l y ws rm (am_Pc D dA ro ad n E sz as) (am_Qc D dA ro ad n sz K) (am_Xc D dA ro ad n sz K) rm.cells rm.slots (am_A ad n sz)
/-! a walk's standing facts -/
abbrev am_X : Type := Program × Launch × Env × Room × State × MethodId × Array Value × List Frame × Method × Code × va_G × (Nat → Nat) × (Nat → Nat) × (Nat → Nat) × Nat × Nat × (Nat → Prop) × (State → Prop)
def am_G (X : am_X) (pc : Nat) : am_C := match X with
  | (p, l, e, R, s, m, args, below, meth, c, D, dA, ro, ad0, n0, nL, A, Q) => fun ls st n E ca sl =>
    ∀ (ad : Nat → Nat) (H : Heap) (locs : List Loc) (L : Array Slot), (∀ k, k < n0 → ad k = ad0 k) → n0 ≤ n → am_we n E → (∀ v ∈ st, am_lt n v) → (∀ v, some v ∈ ls → am_lt n v) → va_P D vwCl (am_w dA ad ro n E) H → va_D A (am_w dA ad ro n E) → va_S A s.heap H locs → am_has ad ro nL L ls → ca ≤ R.cells → sl ≤ R.slots → W p l e R s m args below meth c H locs ca sl Q (F0 m pc L (st.map (am_tr ad ro)))
def am_F (X : am_X) (cc : ByteArray) (own : String) (ret : Option FieldType) (Ts : List Cond) : Prop := match X with
  | (p, l, _, _, s, m, args, _, meth, c, D, dA, ro, _, _, nL, A, _) => p.tables.exec = Jvm.exec ∧ c.code = cc ∧ c.maxLocals = nL ∧ s.vm.findClass own = some m.cls ∧ (∀ w ∈ Ts, w.before args s = true) ∧ va_K D vwCl (am_tys dA) s ∧ (∀ q : Nat, s.heap.size ≤ q → A q) ∧ am_ext ro A s s.heap ∧ l.stackTraces = false ∧ meth.locks = false ∧ meth.sig.returnType = ret ∧ ∀ w ∈ am_WS, w ∈ Ts
def am_FQ (X : am_X) (K : am_P) (mc ms : Nat) : Prop := match X with
  | (_, _, _, R, s, _, args, below, _, _, D, dA, ro, ad0, n0, _, A, Q) => Q = vx_MQ below (am_Qc D dA ro ad0 n0 s.heap.size K) (am_Xc D dA ro ad0 n0 s.heap.size K) args s mc ms A ∧ A = am_A ad0 n0 s.heap.size ∧ R.cells = mc ∧ R.slots = ms
def am_imp (k G : am_C) : Prop := ∀ ls st n E ca sl, k ls st n E ca sl → G ls st n E ca sl
theorem am_id (G : am_C) : am_imp G G := fun _ _ _ _ _ _ h => h
theorem am_dk {b : ByteArray} {L : List (Nat × Instr × Nat)} (h : L.all (fun q => decide (decode b q.1 = .ok (q.2.1, q.2.2))) = true) (i : Nat) {q : Nat × Instr × Nat} (hq : L[i]? = some q) : decode b q.1 = .ok (q.2.1, q.2.2) := of_decide_eq_true (List.all_eq_true.mp h q (List.mem_of_getElem? hq))
def am_nL (X : am_X) : Nat := match X with
  | (_, _, _, _, _, _, _, _, _, _, _, _, _, _, _, nL, _, _) => nL
def am_ini (X : am_X) : Prop := match X with
  | (_, _, _, _, _, _, _, _, meth, _, _, _, _, _, _, _, _, _) => meth.name = "<init>"
/-! ===== locals ===== -/
def am_al (ls : am_L) (ad ro : Nat → Nat) : List (Nat × Value) := (List.range ls.length).filterMap (fun i => match ls[i]? with
  | some (some v) => some (i, am_tr ad ro v)
  | _ => none)
theorem am_al_mem {ls : am_L} {ad ro : Nat → Nat} {q : Nat × Value} : q ∈ am_al ls ad ro ↔ ∃ v, ls[q.1]? = some (some v) ∧ q.2 = am_tr ad ro v := by
  unfold am_al
  rw [List.mem_filterMap]
  constructor
  · rintro ⟨i, -, hi⟩
    split at hi
    · rename_i v hv
      cases hi
      exact ⟨v, hv, rfl⟩
    · cases hi
  · rintro ⟨v, hv, h2⟩
    refine ⟨q.1, List.mem_range.mpr (List.getElem?_eq_some_iff.mp hv).1, ?_⟩
    rw [hv]
    exact congrArg some (Prod.ext rfl h2.symm)
theorem am_has.lv {ad ro : Nat → Nat} {nL : Nat} {L : Array Slot} {ls : am_L} (h : am_has ad ro nL L ls) : lv_has L nL (am_al ls ad ro) := ⟨h.1, h.2.1, fun q hq => by
  obtain ⟨v, hv, h2⟩ := am_al_mem.mp hq
  rw [h.2.2 q.1 v hv, h2]⟩
/-- a long's first half at i stands no longer -/
def am_kill (ls : am_L) (i : Nat) : am_L := match i with
  | 0 => ls
  | j + 1 => match ls[j]? with
    | some (some (.long _)) => ls.set j none
    | some (some (.double _)) => ls.set j none
    | _ => ls
def am_s1 (ls : am_L) (i : Nat) (v : Value) : am_L := (am_kill ls i).set i (some v)
def am_s2 (ls : am_L) (i : Nat) (v : Value) : am_L := ((am_kill ls i).set i (some v)).set (i + 1) none
theorem am_kill_at {ls : am_L} {i j : Nat} {v : Value} (h : (am_kill ls i)[j]? = some (some v)) : ls[j]? = some (some v) ∧ ¬ (j + 1 = i ∧ v.category = 2) := by
  cases i with
  | zero => exact ⟨h, by omega⟩
  | succ k =>
    simp only [am_kill] at h
    split at h
    · rename_i y hy
      by_cases hk : k = j
      · subst hk
        rw [List.getElem?_set_self (List.getElem?_eq_some_iff.mp hy).1] at h
        cases h
      · rw [List.getElem?_set_ne hk] at h
        exact ⟨h, by omega⟩
    · rename_i y hy
      by_cases hk : k = j
      · subst hk
        rw [List.getElem?_set_self (List.getElem?_eq_some_iff.mp hy).1] at h
        cases h
      · rw [List.getElem?_set_ne hk] at h
        exact ⟨h, by omega⟩
    · rename_i n1 n2
      refine ⟨h, ?_⟩
      rintro ⟨e, hc⟩
      have hjk : j = k := by omega
      subst hjk
      cases v with
      | long y => exact n1 _ h
      | double y => exact n2 _ h
      | _ => simp [Value.category] at hc
theorem am_has_s1 {ad ro : Nat → Nat} {nL i : Nat} {L L' : Array Slot} {ls : am_L} {v : Value} (h : lv_has L' nL ((i, am_tr ad ro v) :: (am_al ls ad ro).filter (fun q => !(q.1 == i) && !(q.1 + 1 == i && q.2.category == 2)))) : am_has ad ro nL L' (am_s1 ls i v) := by
  refine ⟨h.1, h.2.1, fun j w hw => ?_⟩
  unfold am_s1 at hw
  by_cases hj : j = i
  · subst hj
    have hl : j < (am_kill ls j).length := by
      have := (List.getElem?_eq_some_iff.mp hw).1
      simpa using this
    rw [List.getElem?_set_self hl] at hw
    cases hw
    exact h.2.2 (j, am_tr ad ro v) List.mem_cons_self
  · rw [List.getElem?_set_ne (fun q => hj q.symm)] at hw
    obtain ⟨h1, h2⟩ := am_kill_at hw
    refine h.2.2 (j, am_tr ad ro w) (List.mem_cons_of_mem _ (List.mem_filter.mpr ⟨am_al_mem.mpr ⟨w, h1, rfl⟩, ?_⟩))
    have e : (am_tr ad ro w).category = w.category := am_tr_cat ad ro w
    simp only [e]
    by_cases hc : j + 1 = i
    · have hc2 : ¬ w.category = 2 := fun q => h2 ⟨hc, q⟩
      simp [hj, hc, hc2]
    · simp [hj, hc]
theorem am_has_s2 {ad ro : Nat → Nat} {nL i : Nat} {L L' : Array Slot} {ls : am_L} {v : Value} (h : lv_has L' nL ((i, am_tr ad ro v) :: (am_al ls ad ro).filter (fun q => !(q.1 == i) && (!(q.1 == i + 1) && !(q.1 + 1 == i && q.2.category == 2))))) : am_has ad ro nL L' (am_s2 ls i v) := by
  refine ⟨h.1, h.2.1, fun j w hw => ?_⟩
  unfold am_s2 at hw
  by_cases hj1 : j = i + 1
  · subst hj1
    exfalso
    have hl : i + 1 < ((am_kill ls i).set i (some v)).length := by
      have := (List.getElem?_eq_some_iff.mp hw).1
      simpa using this
    rw [List.getElem?_set_self hl] at hw
    cases hw
  rw [List.getElem?_set_ne (fun q => hj1 q.symm)] at hw
  by_cases hj : j = i
  · subst hj
    have hl : j < (am_kill ls j).length := by
      have := (List.getElem?_eq_some_iff.mp hw).1
      simpa using this
    rw [List.getElem?_set_self hl] at hw
    cases hw
    exact h.2.2 (j, am_tr ad ro v) List.mem_cons_self
  · rw [List.getElem?_set_ne (fun q => hj q.symm)] at hw
    obtain ⟨h1, h2⟩ := am_kill_at hw
    refine h.2.2 (j, am_tr ad ro w) (List.mem_cons_of_mem _ (List.mem_filter.mpr ⟨am_al_mem.mpr ⟨w, h1, rfl⟩, ?_⟩))
    have e : (am_tr ad ro w).category = w.category := am_tr_cat ad ro w
    simp only [e]
    by_cases hc : j + 1 = i
    · have hc2 : ¬ w.category = 2 := fun q => h2 ⟨hc, q⟩
      simp [hj, hj1, hc, hc2]
    · simp [hj, hj1, hc]
theorem am_kill_len {ls : am_L} {i : Nat} : (am_kill ls i).length = ls.length := by
  unfold am_kill
  split
  · rfl
  · split <;> simp
theorem am_kill_mem {ls : am_L} {i : Nat} {w : Value} (h : some w ∈ am_kill ls i) : some w ∈ ls := by
  obtain ⟨j, hj⟩ := List.getElem?_of_mem h
  exact List.mem_of_getElem? (am_kill_at hj).1
theorem am_s1_lt {n i : Nat} {ls : am_L} {v : Value} (h : ∀ w, some w ∈ ls → am_lt n w) (hv : am_lt n v) : ∀ w, some w ∈ am_s1 ls i v → am_lt n w := by
  intro w hw
  rcases List.mem_or_eq_of_mem_set hw with h1 | h1
  · exact h w (am_kill_mem h1)
  · cases h1
    exact hv
theorem am_s2_lt {n i : Nat} {ls : am_L} {v : Value} (h : ∀ w, some w ∈ ls → am_lt n w) (hv : am_lt n v) : ∀ w, some w ∈ am_s2 ls i v → am_lt n w := by
  intro w hw
  rcases List.mem_or_eq_of_mem_set hw with h1 | h1
  · rcases List.mem_or_eq_of_mem_set h1 with h2 | h2
    · exact h w (am_kill_mem h2)
    · cases h2
      exact hv
  · cases h1

def o_pi (x : Int32) (k : am_C) : am_C := fun ls st n E ca sl => k ls (.int x :: st) n E ca sl
def o_pl (x : Int64) (k : am_C) : am_C := fun ls st n E ca sl => k ls (.long x :: st) n E ca sl
def o_pf (x : UInt32) (k : am_C) : am_C := fun ls st n E ca sl => k ls (.float x :: st) n E ca sl
def o_pd (x : UInt64) (k : am_C) : am_C := fun ls st n E ca sl => k ls (.double x :: st) n E ca sl
theorem ms_iconst {X : am_X} {cc : ByteArray} {own : String} {ret : Option FieldType} {Ts : List Cond} (F : am_F X cc own ret Ts) {pc : Nat} {k : am_C} {z : Int} {v : Int32} (hd : decode cc pc = .ok (.iconst z, 1)) (hv : Int32.ofInt z = v) (hk : am_imp k (am_G X (pc + 1))) : am_imp (o_pi v k) (am_G X pc) := by
  obtain ⟨p, l, e, R, s, m, args, below, meth, c, D, dA, ro, ad0, n0, nL, A, Q⟩ := X
  obtain ⟨hx, hb, hml, hown, hts, hK, hA, hE, htr, hlk, hrt, hWS⟩ := F
  intro ls st n E ca sl h ad H locs L h1 h2 h3 h4 h5 h6 h7 h8 h9 hca hsl
  exact lv_iconst hx hb hd hv (hk _ _ _ _ _ _ h ad H locs L h1 h2 h3 (am_cs trivial h4) h5 h6 h7 h8 h9 hca hsl)
theorem ms_bipush {X : am_X} {cc : ByteArray} {own : String} {ret : Option FieldType} {Ts : List Cond} (F : am_F X cc own ret Ts) {pc : Nat} {k : am_C} {z : Int} {v : Int32} (hd : decode cc pc = .ok (.bipush z, 2)) (hv : (Int8.ofInt z).toInt32 = v) (hk : am_imp k (am_G X (pc + 2))) : am_imp (o_pi v k) (am_G X pc) := by
  obtain ⟨p, l, e, R, s, m, args, below, meth, c, D, dA, ro, ad0, n0, nL, A, Q⟩ := X
  obtain ⟨hx, hb, hml, hown, hts, hK, hA, hE, htr, hlk, hrt, hWS⟩ := F
  intro ls st n E ca sl h ad H locs L h1 h2 h3 h4 h5 h6 h7 h8 h9 hca hsl
  exact lv_bipush hx hb hd hv (hk _ _ _ _ _ _ h ad H locs L h1 h2 h3 (am_cs trivial h4) h5 h6 h7 h8 h9 hca hsl)
theorem ms_sipush {X : am_X} {cc : ByteArray} {own : String} {ret : Option FieldType} {Ts : List Cond} (F : am_F X cc own ret Ts) {pc : Nat} {k : am_C} {z : Int} {v : Int32} (hd : decode cc pc = .ok (.sipush z, 3)) (hv : (Int16.ofInt z).toInt32 = v) (hk : am_imp k (am_G X (pc + 3))) : am_imp (o_pi v k) (am_G X pc) := by
  obtain ⟨p, l, e, R, s, m, args, below, meth, c, D, dA, ro, ad0, n0, nL, A, Q⟩ := X
  obtain ⟨hx, hb, hml, hown, hts, hK, hA, hE, htr, hlk, hrt, hWS⟩ := F
  intro ls st n E ca sl h ad H locs L h1 h2 h3 h4 h5 h6 h7 h8 h9 hca hsl
  exact lv_sipush hx hb hd hv (hk _ _ _ _ _ _ h ad H locs L h1 h2 h3 (am_cs trivial h4) h5 h6 h7 h8 h9 hca hsl)
theorem ms_ldc {X : am_X} {cc : ByteArray} {own : String} {ret : Option FieldType} {Ts : List Cond} (F : am_F X cc own ret Ts) {pc : Nat} {k : am_C} {index : Nat} {v : Int32} (hw : Cond.constant own index v ∈ Ts) (hd : decode cc pc = .ok (.ldc index, 2)) (hk : am_imp k (am_G X (pc + 2))) : am_imp (o_pi v k) (am_G X pc) := by
  obtain ⟨p, l, e, R, s, m, args, below, meth, c, D, dA, ro, ad0, n0, nL, A, Q⟩ := X
  obtain ⟨hx, hb, hml, hown, hts, hK, hA, hE, htr, hlk, hrt, hWS⟩ := F
  intro ls st n E ca sl h ad H locs L h1 h2 h3 h4 h5 h6 h7 h8 h9 hca hsl
  exact lv_ldc hx hb hown (hts _ hw) hd (hk _ _ _ _ _ _ h ad H locs L h1 h2 h3 (am_cs trivial h4) h5 h6 h7 h8 h9 hca hsl)
theorem ms_ldcw {X : am_X} {cc : ByteArray} {own : String} {ret : Option FieldType} {Ts : List Cond} (F : am_F X cc own ret Ts) {pc : Nat} {k : am_C} {index : Nat} {v : Int32} (hw : Cond.constant own index v ∈ Ts) (hd : decode cc pc = .ok (.ldc_w index, 3)) (hk : am_imp k (am_G X (pc + 3))) : am_imp (o_pi v k) (am_G X pc) := by
  obtain ⟨p, l, e, R, s, m, args, below, meth, c, D, dA, ro, ad0, n0, nL, A, Q⟩ := X
  obtain ⟨hx, hb, hml, hown, hts, hK, hA, hE, htr, hlk, hrt, hWS⟩ := F
  intro ls st n E ca sl h ad H locs L h1 h2 h3 h4 h5 h6 h7 h8 h9 hca hsl
  exact lv_ldcw hx hb hown (hts _ hw) hd (hk _ _ _ _ _ _ h ad H locs L h1 h2 h3 (am_cs trivial h4) h5 h6 h7 h8 h9 hca hsl)
theorem ms_ldc2 {X : am_X} {cc : ByteArray} {own : String} {ret : Option FieldType} {Ts : List Cond} (F : am_F X cc own ret Ts) {pc : Nat} {k : am_C} {index : Nat} {v : Int64} (hw : Cond.constantLong own index v ∈ Ts) (hd : decode cc pc = .ok (.ldc2_w index, 3)) (hk : am_imp k (am_G X (pc + 3))) : am_imp (o_pl v k) (am_G X pc) := by
  obtain ⟨p, l, e, R, s, m, args, below, meth, c, D, dA, ro, ad0, n0, nL, A, Q⟩ := X
  obtain ⟨hx, hb, hml, hown, hts, hK, hA, hE, htr, hlk, hrt, hWS⟩ := F
  intro ls st n E ca sl h ad H locs L h1 h2 h3 h4 h5 h6 h7 h8 h9 hca hsl
  exact lv_ldc2 hx hb hown (hts _ hw) hd (hk _ _ _ _ _ _ h ad H locs L h1 h2 h3 (am_cs trivial h4) h5 h6 h7 h8 h9 hca hsl)
theorem ms_lconst {X : am_X} {cc : ByteArray} {own : String} {ret : Option FieldType} {Ts : List Cond} (F : am_F X cc own ret Ts) {pc : Nat} {k : am_C} {z : Fin 2} {v : Int64} (hd : decode cc pc = .ok (.lconst z, 1)) (hv : Int64.ofNat (z : Nat) = v) (hk : am_imp k (am_G X (pc + 1))) : am_imp (o_pl v k) (am_G X pc) := by
  obtain ⟨p, l, e, R, s, m, args, below, meth, c, D, dA, ro, ad0, n0, nL, A, Q⟩ := X
  obtain ⟨hx, hb, hml, hown, hts, hK, hA, hE, htr, hlk, hrt, hWS⟩ := F
  intro ls st n E ca sl h ad H locs L h1 h2 h3 h4 h5 h6 h7 h8 h9 hca hsl
  exact lv_lconst hx hb hd hv (hk _ _ _ _ _ _ h ad H locs L h1 h2 h3 (am_cs trivial h4) h5 h6 h7 h8 h9 hca hsl)
theorem ms_fconst0 {X : am_X} {cc : ByteArray} {own : String} {ret : Option FieldType} {Ts : List Cond} (F : am_F X cc own ret Ts) {pc : Nat} {k : am_C} (hd : decode cc pc = .ok (.fconst 0, 1)) (hk : am_imp k (am_G X (pc + 1))) : am_imp (o_pf FP.fconst0 k) (am_G X pc) := by
  obtain ⟨p, l, e, R, s, m, args, below, meth, c, D, dA, ro, ad0, n0, nL, A, Q⟩ := X
  obtain ⟨hx, hb, hml, hown, hts, hK, hA, hE, htr, hlk, hrt, hWS⟩ := F
  intro ls st n E ca sl h ad H locs L h1 h2 h3 h4 h5 h6 h7 h8 h9 hca hsl
  exact lv_fconst0 hx hb hd (hk _ _ _ _ _ _ h ad H locs L h1 h2 h3 (am_cs trivial h4) h5 h6 h7 h8 h9 hca hsl)
theorem ms_dconst0 {X : am_X} {cc : ByteArray} {own : String} {ret : Option FieldType} {Ts : List Cond} (F : am_F X cc own ret Ts) {pc : Nat} {k : am_C} (hd : decode cc pc = .ok (.dconst 0, 1)) (hk : am_imp k (am_G X (pc + 1))) : am_imp (o_pd FP.dconst0 k) (am_G X pc) := by
  obtain ⟨p, l, e, R, s, m, args, below, meth, c, D, dA, ro, ad0, n0, nL, A, Q⟩ := X
  obtain ⟨hx, hb, hml, hown, hts, hK, hA, hE, htr, hlk, hrt, hWS⟩ := F
  intro ls st n E ca sl h ad H locs L h1 h2 h3 h4 h5 h6 h7 h8 h9 hca hsl
  exact lv_dconst0 hx hb hd (hk _ _ _ _ _ _ h ad H locs L h1 h2 h3 (am_cs trivial h4) h5 h6 h7 h8 h9 hca hsl)
def o_iload (i : Nat) (k : am_C) : am_C := fun ls st n E ca sl => match ls[i]? with
  | some (some (.int x)) => k ls (.int x :: st) n E ca sl
  | _ => False
theorem ms_iload_n {X : am_X} {cc : ByteArray} {own : String} {ret : Option FieldType} {Ts : List Cond} (F : am_F X cc own ret Ts) {pc : Nat} {k : am_C} {j : Fin 4} {i : Nat} (hd : decode cc pc = .ok (.iload_n j, 1)) (hi : (j : Nat) = i) (hk : am_imp k (am_G X (pc + 1))) : am_imp (o_iload i k) (am_G X pc) := by
  obtain ⟨p, l, e, R, s, m, args, below, meth, c, D, dA, ro, ad0, n0, nL, A, Q⟩ := X
  obtain ⟨hx, hb, hml, hown, hts, hK, hA, hE, htr, hlk, hrt, hWS⟩ := F
  intro ls st n E ca sl h ad H locs L h1 h2 h3 h4 h5 h6 h7 h8 h9 hca hsl
  unfold o_iload at h
  split at h
  · rename_i x hl
    exact lv_iload_n hx hb hd hi (h9.2.2 i _ hl) (hk _ _ _ _ _ _ h ad H locs L h1 h2 h3 (am_cs trivial h4) h5 h6 h7 h8 h9 hca hsl)
  · exact h.elim
theorem ms_iload {X : am_X} {cc : ByteArray} {own : String} {ret : Option FieldType} {Ts : List Cond} (F : am_F X cc own ret Ts) {pc : Nat} {k : am_C} {i : Nat} (hd : decode cc pc = .ok (.iload i, 2)) (hk : am_imp k (am_G X (pc + 2))) : am_imp (o_iload i k) (am_G X pc) := by
  obtain ⟨p, l, e, R, s, m, args, below, meth, c, D, dA, ro, ad0, n0, nL, A, Q⟩ := X
  obtain ⟨hx, hb, hml, hown, hts, hK, hA, hE, htr, hlk, hrt, hWS⟩ := F
  intro ls st n E ca sl h ad H locs L h1 h2 h3 h4 h5 h6 h7 h8 h9 hca hsl
  unfold o_iload at h
  split at h
  · rename_i x hl
    exact lv_iload hx hb hd (h9.2.2 i _ hl) (hk _ _ _ _ _ _ h ad H locs L h1 h2 h3 (am_cs trivial h4) h5 h6 h7 h8 h9 hca hsl)
  · exact h.elim
def o_lload (i : Nat) (k : am_C) : am_C := fun ls st n E ca sl => match ls[i]? with
  | some (some (.long x)) => k ls (.long x :: st) n E ca sl
  | _ => False
theorem ms_lload_n {X : am_X} {cc : ByteArray} {own : String} {ret : Option FieldType} {Ts : List Cond} (F : am_F X cc own ret Ts) {pc : Nat} {k : am_C} {j : Fin 4} {i : Nat} (hd : decode cc pc = .ok (.lload_n j, 1)) (hi : (j : Nat) = i) (hk : am_imp k (am_G X (pc + 1))) : am_imp (o_lload i k) (am_G X pc) := by
  obtain ⟨p, l, e, R, s, m, args, below, meth, c, D, dA, ro, ad0, n0, nL, A, Q⟩ := X
  obtain ⟨hx, hb, hml, hown, hts, hK, hA, hE, htr, hlk, hrt, hWS⟩ := F
  intro ls st n E ca sl h ad H locs L h1 h2 h3 h4 h5 h6 h7 h8 h9 hca hsl
  unfold o_lload at h
  split at h
  · rename_i x hl
    exact lv_lload_n hx hb hd hi (h9.2.2 i _ hl) (hk _ _ _ _ _ _ h ad H locs L h1 h2 h3 (am_cs trivial h4) h5 h6 h7 h8 h9 hca hsl)
  · exact h.elim
theorem ms_lload {X : am_X} {cc : ByteArray} {own : String} {ret : Option FieldType} {Ts : List Cond} (F : am_F X cc own ret Ts) {pc : Nat} {k : am_C} {i : Nat} (hd : decode cc pc = .ok (.lload i, 2)) (hk : am_imp k (am_G X (pc + 2))) : am_imp (o_lload i k) (am_G X pc) := by
  obtain ⟨p, l, e, R, s, m, args, below, meth, c, D, dA, ro, ad0, n0, nL, A, Q⟩ := X
  obtain ⟨hx, hb, hml, hown, hts, hK, hA, hE, htr, hlk, hrt, hWS⟩ := F
  intro ls st n E ca sl h ad H locs L h1 h2 h3 h4 h5 h6 h7 h8 h9 hca hsl
  unfold o_lload at h
  split at h
  · rename_i x hl
    exact lv_lload hx hb hd (h9.2.2 i _ hl) (hk _ _ _ _ _ _ h ad H locs L h1 h2 h3 (am_cs trivial h4) h5 h6 h7 h8 h9 hca hsl)
  · exact h.elim
def o_fload (i : Nat) (k : am_C) : am_C := fun ls st n E ca sl => match ls[i]? with
  | some (some (.float x)) => k ls (.float x :: st) n E ca sl
  | _ => False
theorem ms_fload_n {X : am_X} {cc : ByteArray} {own : String} {ret : Option FieldType} {Ts : List Cond} (F : am_F X cc own ret Ts) {pc : Nat} {k : am_C} {j : Fin 4} {i : Nat} (hd : decode cc pc = .ok (.fload_n j, 1)) (hi : (j : Nat) = i) (hk : am_imp k (am_G X (pc + 1))) : am_imp (o_fload i k) (am_G X pc) := by
  obtain ⟨p, l, e, R, s, m, args, below, meth, c, D, dA, ro, ad0, n0, nL, A, Q⟩ := X
  obtain ⟨hx, hb, hml, hown, hts, hK, hA, hE, htr, hlk, hrt, hWS⟩ := F
  intro ls st n E ca sl h ad H locs L h1 h2 h3 h4 h5 h6 h7 h8 h9 hca hsl
  unfold o_fload at h
  split at h
  · rename_i x hl
    exact lv_fload_n hx hb hd hi (h9.2.2 i _ hl) (hk _ _ _ _ _ _ h ad H locs L h1 h2 h3 (am_cs trivial h4) h5 h6 h7 h8 h9 hca hsl)
  · exact h.elim
theorem ms_fload {X : am_X} {cc : ByteArray} {own : String} {ret : Option FieldType} {Ts : List Cond} (F : am_F X cc own ret Ts) {pc : Nat} {k : am_C} {i : Nat} (hd : decode cc pc = .ok (.fload i, 2)) (hk : am_imp k (am_G X (pc + 2))) : am_imp (o_fload i k) (am_G X pc) := by
  obtain ⟨p, l, e, R, s, m, args, below, meth, c, D, dA, ro, ad0, n0, nL, A, Q⟩ := X
  obtain ⟨hx, hb, hml, hown, hts, hK, hA, hE, htr, hlk, hrt, hWS⟩ := F
  intro ls st n E ca sl h ad H locs L h1 h2 h3 h4 h5 h6 h7 h8 h9 hca hsl
  unfold o_fload at h
  split at h
  · rename_i x hl
    exact lv_fload hx hb hd (h9.2.2 i _ hl) (hk _ _ _ _ _ _ h ad H locs L h1 h2 h3 (am_cs trivial h4) h5 h6 h7 h8 h9 hca hsl)
  · exact h.elim
def o_dload (i : Nat) (k : am_C) : am_C := fun ls st n E ca sl => match ls[i]? with
  | some (some (.double x)) => k ls (.double x :: st) n E ca sl
  | _ => False
theorem ms_dload_n {X : am_X} {cc : ByteArray} {own : String} {ret : Option FieldType} {Ts : List Cond} (F : am_F X cc own ret Ts) {pc : Nat} {k : am_C} {j : Fin 4} {i : Nat} (hd : decode cc pc = .ok (.dload_n j, 1)) (hi : (j : Nat) = i) (hk : am_imp k (am_G X (pc + 1))) : am_imp (o_dload i k) (am_G X pc) := by
  obtain ⟨p, l, e, R, s, m, args, below, meth, c, D, dA, ro, ad0, n0, nL, A, Q⟩ := X
  obtain ⟨hx, hb, hml, hown, hts, hK, hA, hE, htr, hlk, hrt, hWS⟩ := F
  intro ls st n E ca sl h ad H locs L h1 h2 h3 h4 h5 h6 h7 h8 h9 hca hsl
  unfold o_dload at h
  split at h
  · rename_i x hl
    exact lv_dload_n hx hb hd hi (h9.2.2 i _ hl) (hk _ _ _ _ _ _ h ad H locs L h1 h2 h3 (am_cs trivial h4) h5 h6 h7 h8 h9 hca hsl)
  · exact h.elim
theorem ms_dload {X : am_X} {cc : ByteArray} {own : String} {ret : Option FieldType} {Ts : List Cond} (F : am_F X cc own ret Ts) {pc : Nat} {k : am_C} {i : Nat} (hd : decode cc pc = .ok (.dload i, 2)) (hk : am_imp k (am_G X (pc + 2))) : am_imp (o_dload i k) (am_G X pc) := by
  obtain ⟨p, l, e, R, s, m, args, below, meth, c, D, dA, ro, ad0, n0, nL, A, Q⟩ := X
  obtain ⟨hx, hb, hml, hown, hts, hK, hA, hE, htr, hlk, hrt, hWS⟩ := F
  intro ls st n E ca sl h ad H locs L h1 h2 h3 h4 h5 h6 h7 h8 h9 hca hsl
  unfold o_dload at h
  split at h
  · rename_i x hl
    exact lv_dload hx hb hd (h9.2.2 i _ hl) (hk _ _ _ _ _ _ h ad H locs L h1 h2 h3 (am_cs trivial h4) h5 h6 h7 h8 h9 hca hsl)
  · exact h.elim
def o_aload (i : Nat) (k : am_C) : am_C := fun ls st n E ca sl => match ls[i]? with
  | some (some (.ref x)) => k ls (.ref x :: st) n E ca sl
  | some (some (.retAddr x)) => k ls (.retAddr x :: st) n E ca sl
  | _ => False
theorem ms_aload_n {X : am_X} {cc : ByteArray} {own : String} {ret : Option FieldType} {Ts : List Cond} (F : am_F X cc own ret Ts) {pc : Nat} {k : am_C} {j : Fin 4} {i : Nat} (hd : decode cc pc = .ok (.aload_n j, 1)) (hi : (j : Nat) = i) (hk : am_imp k (am_G X (pc + 1))) : am_imp (o_aload i k) (am_G X pc) := by
  obtain ⟨p, l, e, R, s, m, args, below, meth, c, D, dA, ro, ad0, n0, nL, A, Q⟩ := X
  obtain ⟨hx, hb, hml, hown, hts, hK, hA, hE, htr, hlk, hrt, hWS⟩ := F
  intro ls st n E ca sl h ad H locs L h1 h2 h3 h4 h5 h6 h7 h8 h9 hca hsl
  unfold o_aload at h
  split at h
  · rename_i x hl
    exact lv_aload_n hx hb hd hi (h9.2.2 i _ hl) (hk _ _ _ _ _ _ h ad H locs L h1 h2 h3 (am_cs (h5 _ (List.mem_of_getElem? hl)) h4) h5 h6 h7 h8 h9 hca hsl)
  · rename_i x hl
    exact lv_aload_n hx hb hd hi (h9.2.2 i _ hl) (hk _ _ _ _ _ _ h ad H locs L h1 h2 h3 (am_cs (h5 _ (List.mem_of_getElem? hl)) h4) h5 h6 h7 h8 h9 hca hsl)
  · exact h.elim
theorem ms_aload {X : am_X} {cc : ByteArray} {own : String} {ret : Option FieldType} {Ts : List Cond} (F : am_F X cc own ret Ts) {pc : Nat} {k : am_C} {i : Nat} (hd : decode cc pc = .ok (.aload i, 2)) (hk : am_imp k (am_G X (pc + 2))) : am_imp (o_aload i k) (am_G X pc) := by
  obtain ⟨p, l, e, R, s, m, args, below, meth, c, D, dA, ro, ad0, n0, nL, A, Q⟩ := X
  obtain ⟨hx, hb, hml, hown, hts, hK, hA, hE, htr, hlk, hrt, hWS⟩ := F
  intro ls st n E ca sl h ad H locs L h1 h2 h3 h4 h5 h6 h7 h8 h9 hca hsl
  unfold o_aload at h
  split at h
  · rename_i x hl
    exact lv_aload hx hb hd (h9.2.2 i _ hl) (hk _ _ _ _ _ _ h ad H locs L h1 h2 h3 (am_cs (h5 _ (List.mem_of_getElem? hl)) h4) h5 h6 h7 h8 h9 hca hsl)
  · rename_i x hl
    exact lv_aload hx hb hd (h9.2.2 i _ hl) (hk _ _ _ _ _ _ h ad H locs L h1 h2 h3 (am_cs (h5 _ (List.mem_of_getElem? hl)) h4) h5 h6 h7 h8 h9 hca hsl)
  · exact h.elim
def o_istore (i : Nat) (k : am_C) : am_C := fun ls st n E ca sl => match st with
  | .int x :: r => k (am_s1 ls i (.int x)) r n E ca sl
  | _ => False
theorem ms_istore_n {X : am_X} {cc : ByteArray} {own : String} {ret : Option FieldType} {Ts : List Cond} (F : am_F X cc own ret Ts) {pc : Nat} {k : am_C} {j : Fin 4} {i z : Nat} (hd : decode cc pc = .ok (.istore_n j, 1)) (hi : (j : Nat) = i) (hz : am_nL X = z) (hn : i < z) (hk : am_imp k (am_G X (pc + 1))) : am_imp (o_istore i k) (am_G X pc) := by
  obtain ⟨p, l, e, R, s, m, args, below, meth, c, D, dA, ro, ad0, n0, nL, A, Q⟩ := X
  obtain ⟨hx, hb, hml, hown, hts, hK, hA, hE, htr, hlk, hrt, hWS⟩ := F
  intro ls st n E ca sl h ad H locs L h1 h2 h3 h4 h5 h6 h7 h8 h9 hca hsl
  unfold o_istore at h
  split at h
  · rename_i x r
    subst hz
    exact lv_istore_n hx hb hd hi h9.lv hn rfl (fun L' h' => hk _ _ _ _ _ _ h ad H locs L' h1 h2 h3 (am_tl h4) (am_s1_lt h5 trivial) h6 h7 h8 (am_has_s1 (L := L) h') hca hsl)
  · exact h.elim
theorem ms_istore {X : am_X} {cc : ByteArray} {own : String} {ret : Option FieldType} {Ts : List Cond} (F : am_F X cc own ret Ts) {pc : Nat} {k : am_C} {i z : Nat} (hd : decode cc pc = .ok (.istore i, 2)) (hz : am_nL X = z) (hn : i < z) (hk : am_imp k (am_G X (pc + 2))) : am_imp (o_istore i k) (am_G X pc) := by
  obtain ⟨p, l, e, R, s, m, args, below, meth, c, D, dA, ro, ad0, n0, nL, A, Q⟩ := X
  obtain ⟨hx, hb, hml, hown, hts, hK, hA, hE, htr, hlk, hrt, hWS⟩ := F
  intro ls st n E ca sl h ad H locs L h1 h2 h3 h4 h5 h6 h7 h8 h9 hca hsl
  unfold o_istore at h
  split at h
  · rename_i x r
    subst hz
    exact lv_istore hx hb hd h9.lv hn rfl (fun L' h' => hk _ _ _ _ _ _ h ad H locs L' h1 h2 h3 (am_tl h4) (am_s1_lt h5 trivial) h6 h7 h8 (am_has_s1 (L := L) h') hca hsl)
  · exact h.elim
def o_lstore (i : Nat) (k : am_C) : am_C := fun ls st n E ca sl => match st with
  | .long x :: r => k (am_s2 ls i (.long x)) r n E ca sl
  | _ => False
theorem ms_lstore_n {X : am_X} {cc : ByteArray} {own : String} {ret : Option FieldType} {Ts : List Cond} (F : am_F X cc own ret Ts) {pc : Nat} {k : am_C} {j : Fin 4} {i z : Nat} (hd : decode cc pc = .ok (.lstore_n j, 1)) (hi : (j : Nat) = i) (hz : am_nL X = z) (hn : i + 1 < z) (hk : am_imp k (am_G X (pc + 1))) : am_imp (o_lstore i k) (am_G X pc) := by
  obtain ⟨p, l, e, R, s, m, args, below, meth, c, D, dA, ro, ad0, n0, nL, A, Q⟩ := X
  obtain ⟨hx, hb, hml, hown, hts, hK, hA, hE, htr, hlk, hrt, hWS⟩ := F
  intro ls st n E ca sl h ad H locs L h1 h2 h3 h4 h5 h6 h7 h8 h9 hca hsl
  unfold o_lstore at h
  split at h
  · rename_i x r
    subst hz
    exact lv_lstore_n hx hb hd hi h9.lv hn rfl (fun L' h' => hk _ _ _ _ _ _ h ad H locs L' h1 h2 h3 (am_tl h4) (am_s2_lt h5 trivial) h6 h7 h8 (am_has_s2 (L := L) h') hca hsl)
  · exact h.elim
theorem ms_lstore {X : am_X} {cc : ByteArray} {own : String} {ret : Option FieldType} {Ts : List Cond} (F : am_F X cc own ret Ts) {pc : Nat} {k : am_C} {i z : Nat} (hd : decode cc pc = .ok (.lstore i, 2)) (hz : am_nL X = z) (hn : i + 1 < z) (hk : am_imp k (am_G X (pc + 2))) : am_imp (o_lstore i k) (am_G X pc) := by
  obtain ⟨p, l, e, R, s, m, args, below, meth, c, D, dA, ro, ad0, n0, nL, A, Q⟩ := X
  obtain ⟨hx, hb, hml, hown, hts, hK, hA, hE, htr, hlk, hrt, hWS⟩ := F
  intro ls st n E ca sl h ad H locs L h1 h2 h3 h4 h5 h6 h7 h8 h9 hca hsl
  unfold o_lstore at h
  split at h
  · rename_i x r
    subst hz
    exact lv_lstore hx hb hd h9.lv hn rfl (fun L' h' => hk _ _ _ _ _ _ h ad H locs L' h1 h2 h3 (am_tl h4) (am_s2_lt h5 trivial) h6 h7 h8 (am_has_s2 (L := L) h') hca hsl)
  · exact h.elim
def o_fstore (i : Nat) (k : am_C) : am_C := fun ls st n E ca sl => match st with
  | .float x :: r => k (am_s1 ls i (.float x)) r n E ca sl
  | _ => False
theorem ms_fstore_n {X : am_X} {cc : ByteArray} {own : String} {ret : Option FieldType} {Ts : List Cond} (F : am_F X cc own ret Ts) {pc : Nat} {k : am_C} {j : Fin 4} {i z : Nat} (hd : decode cc pc = .ok (.fstore_n j, 1)) (hi : (j : Nat) = i) (hz : am_nL X = z) (hn : i < z) (hk : am_imp k (am_G X (pc + 1))) : am_imp (o_fstore i k) (am_G X pc) := by
  obtain ⟨p, l, e, R, s, m, args, below, meth, c, D, dA, ro, ad0, n0, nL, A, Q⟩ := X
  obtain ⟨hx, hb, hml, hown, hts, hK, hA, hE, htr, hlk, hrt, hWS⟩ := F
  intro ls st n E ca sl h ad H locs L h1 h2 h3 h4 h5 h6 h7 h8 h9 hca hsl
  unfold o_fstore at h
  split at h
  · rename_i x r
    subst hz
    exact lv_fstore_n hx hb hd hi h9.lv hn rfl (fun L' h' => hk _ _ _ _ _ _ h ad H locs L' h1 h2 h3 (am_tl h4) (am_s1_lt h5 trivial) h6 h7 h8 (am_has_s1 (L := L) h') hca hsl)
  · exact h.elim
theorem ms_fstore {X : am_X} {cc : ByteArray} {own : String} {ret : Option FieldType} {Ts : List Cond} (F : am_F X cc own ret Ts) {pc : Nat} {k : am_C} {i z : Nat} (hd : decode cc pc = .ok (.fstore i, 2)) (hz : am_nL X = z) (hn : i < z) (hk : am_imp k (am_G X (pc + 2))) : am_imp (o_fstore i k) (am_G X pc) := by
  obtain ⟨p, l, e, R, s, m, args, below, meth, c, D, dA, ro, ad0, n0, nL, A, Q⟩ := X
  obtain ⟨hx, hb, hml, hown, hts, hK, hA, hE, htr, hlk, hrt, hWS⟩ := F
  intro ls st n E ca sl h ad H locs L h1 h2 h3 h4 h5 h6 h7 h8 h9 hca hsl
  unfold o_fstore at h
  split at h
  · rename_i x r
    subst hz
    exact lv_fstore hx hb hd h9.lv hn rfl (fun L' h' => hk _ _ _ _ _ _ h ad H locs L' h1 h2 h3 (am_tl h4) (am_s1_lt h5 trivial) h6 h7 h8 (am_has_s1 (L := L) h') hca hsl)
  · exact h.elim
def o_dstore (i : Nat) (k : am_C) : am_C := fun ls st n E ca sl => match st with
  | .double x :: r => k (am_s2 ls i (.double x)) r n E ca sl
  | _ => False
theorem ms_dstore_n {X : am_X} {cc : ByteArray} {own : String} {ret : Option FieldType} {Ts : List Cond} (F : am_F X cc own ret Ts) {pc : Nat} {k : am_C} {j : Fin 4} {i z : Nat} (hd : decode cc pc = .ok (.dstore_n j, 1)) (hi : (j : Nat) = i) (hz : am_nL X = z) (hn : i + 1 < z) (hk : am_imp k (am_G X (pc + 1))) : am_imp (o_dstore i k) (am_G X pc) := by
  obtain ⟨p, l, e, R, s, m, args, below, meth, c, D, dA, ro, ad0, n0, nL, A, Q⟩ := X
  obtain ⟨hx, hb, hml, hown, hts, hK, hA, hE, htr, hlk, hrt, hWS⟩ := F
  intro ls st n E ca sl h ad H locs L h1 h2 h3 h4 h5 h6 h7 h8 h9 hca hsl
  unfold o_dstore at h
  split at h
  · rename_i x r
    subst hz
    exact lv_dstore_n hx hb hd hi h9.lv hn rfl (fun L' h' => hk _ _ _ _ _ _ h ad H locs L' h1 h2 h3 (am_tl h4) (am_s2_lt h5 trivial) h6 h7 h8 (am_has_s2 (L := L) h') hca hsl)
  · exact h.elim
theorem ms_dstore {X : am_X} {cc : ByteArray} {own : String} {ret : Option FieldType} {Ts : List Cond} (F : am_F X cc own ret Ts) {pc : Nat} {k : am_C} {i z : Nat} (hd : decode cc pc = .ok (.dstore i, 2)) (hz : am_nL X = z) (hn : i + 1 < z) (hk : am_imp k (am_G X (pc + 2))) : am_imp (o_dstore i k) (am_G X pc) := by
  obtain ⟨p, l, e, R, s, m, args, below, meth, c, D, dA, ro, ad0, n0, nL, A, Q⟩ := X
  obtain ⟨hx, hb, hml, hown, hts, hK, hA, hE, htr, hlk, hrt, hWS⟩ := F
  intro ls st n E ca sl h ad H locs L h1 h2 h3 h4 h5 h6 h7 h8 h9 hca hsl
  unfold o_dstore at h
  split at h
  · rename_i x r
    subst hz
    exact lv_dstore hx hb hd h9.lv hn rfl (fun L' h' => hk _ _ _ _ _ _ h ad H locs L' h1 h2 h3 (am_tl h4) (am_s2_lt h5 trivial) h6 h7 h8 (am_has_s2 (L := L) h') hca hsl)
  · exact h.elim
def o_astore (i : Nat) (k : am_C) : am_C := fun ls st n E ca sl => match st with
  | .ref x :: r => k (am_s1 ls i (.ref x)) r n E ca sl
  | _ => False
theorem ms_astore_n {X : am_X} {cc : ByteArray} {own : String} {ret : Option FieldType} {Ts : List Cond} (F : am_F X cc own ret Ts) {pc : Nat} {k : am_C} {j : Fin 4} {i z : Nat} (hd : decode cc pc = .ok (.astore_n j, 1)) (hi : (j : Nat) = i) (hz : am_nL X = z) (hn : i < z) (hk : am_imp k (am_G X (pc + 1))) : am_imp (o_astore i k) (am_G X pc) := by
  obtain ⟨p, l, e, R, s, m, args, below, meth, c, D, dA, ro, ad0, n0, nL, A, Q⟩ := X
  obtain ⟨hx, hb, hml, hown, hts, hK, hA, hE, htr, hlk, hrt, hWS⟩ := F
  intro ls st n E ca sl h ad H locs L h1 h2 h3 h4 h5 h6 h7 h8 h9 hca hsl
  unfold o_astore at h
  split at h
  · rename_i x r
    subst hz
    exact lv_astore_n hx hb hd hi h9.lv hn rfl (fun L' h' => hk _ _ _ _ _ _ h ad H locs L' h1 h2 h3 (am_tl h4) (am_s1_lt h5 (am_hd h4)) h6 h7 h8 (am_has_s1 (L := L) (v := .ref x) h') hca hsl)
  · exact h.elim
theorem ms_astore {X : am_X} {cc : ByteArray} {own : String} {ret : Option FieldType} {Ts : List Cond} (F : am_F X cc own ret Ts) {pc : Nat} {k : am_C} {i z : Nat} (hd : decode cc pc = .ok (.astore i, 2)) (hz : am_nL X = z) (hn : i < z) (hk : am_imp k (am_G X (pc + 2))) : am_imp (o_astore i k) (am_G X pc) := by
  obtain ⟨p, l, e, R, s, m, args, below, meth, c, D, dA, ro, ad0, n0, nL, A, Q⟩ := X
  obtain ⟨hx, hb, hml, hown, hts, hK, hA, hE, htr, hlk, hrt, hWS⟩ := F
  intro ls st n E ca sl h ad H locs L h1 h2 h3 h4 h5 h6 h7 h8 h9 hca hsl
  unfold o_astore at h
  split at h
  · rename_i x r
    subst hz
    exact lv_astore hx hb hd h9.lv hn rfl (fun L' h' => hk _ _ _ _ _ _ h ad H locs L' h1 h2 h3 (am_tl h4) (am_s1_lt h5 (am_hd h4)) h6 h7 h8 (am_has_s1 (L := L) (v := .ref x) h') hca hsl)
  · exact h.elim
def o_iinc (i : Nat) (z : Int32) (k : am_C) : am_C := fun ls st n E ca sl => match ls[i]? with
  | some (some (.int x)) => k (am_s1 ls i (.int (x + z))) st n E ca sl
  | _ => False
theorem ms_iinc {X : am_X} {cc : ByteArray} {own : String} {ret : Option FieldType} {Ts : List Cond} (F : am_F X cc own ret Ts) {pc : Nat} {k : am_C} {i w : Nat} {z : Int} {v : Int32} (hd : decode cc pc = .ok (.iinc i z, 3)) (hv : Int32.ofInt z = v) (hz : am_nL X = w) (hn : i < w) (hk : am_imp k (am_G X (pc + 3))) : am_imp (o_iinc i v k) (am_G X pc) := by
  obtain ⟨p, l, e, R, s, m, args, below, meth, c, D, dA, ro, ad0, n0, nL, A, Q⟩ := X
  obtain ⟨hx, hb, hml, hown, hts, hK, hA, hE, htr, hlk, hrt, hWS⟩ := F
  intro ls st n E ca sl h ad H locs L h1 h2 h3 h4 h5 h6 h7 h8 h9 hca hsl
  unfold o_iinc at h
  split at h
  · rename_i x hl
    subst hz
    obtain ⟨j, hj⟩ := List.getElem?_of_mem (am_al_mem (ad := ad) (ro := ro) (q := (i, .int x)) |>.mpr ⟨.int x, hl, rfl⟩)
    exact lv_iinc (v := x + v) hx hb hd h9.lv hj (by rw [hv]) hn rfl (fun L' h' => hk _ _ _ _ _ _ h ad H locs L' h1 h2 h3 h4 (am_s1_lt h5 trivial) h6 h7 h8 (am_has_s1 (L := L) (v := .int (x + v)) h') hca hsl)
  · exact h.elim
def o_ib (f : Int32 → Int32 → Int32) (k : am_C) : am_C := fun ls st n E ca sl => match st with
  | .int y :: .int x :: r => k ls (.int (f x y) :: r) n E ca sl
  | _ => False
def o_ibz (f : Int32 → Int32 → Int32) (k : am_C) : am_C := fun ls st n E ca sl => match st with
  | .int y :: .int x :: r => ¬ y = 0 ∧ k ls (.int (f x y) :: r) n E ca sl
  | _ => False
def o_lb (f : Int64 → Int64 → Int64) (k : am_C) : am_C := fun ls st n E ca sl => match st with
  | .long y :: .long x :: r => k ls (.long (f x y) :: r) n E ca sl
  | _ => False
def o_lbz (f : Int64 → Int64 → Int64) (k : am_C) : am_C := fun ls st n E ca sl => match st with
  | .long y :: .long x :: r => ¬ y = 0 ∧ k ls (.long (f x y) :: r) n E ca sl
  | _ => False
theorem ms_iadd {X : am_X} {cc : ByteArray} {own : String} {ret : Option FieldType} {Ts : List Cond} (F : am_F X cc own ret Ts) {pc : Nat} {k : am_C} (hd : decode cc pc = .ok (.iadd, 1)) (hk : am_imp k (am_G X (pc + 1))) : am_imp (o_ib (fun x y => x + y) k) (am_G X pc) := by
  obtain ⟨p, l, e, R, s, m, args, below, meth, c, D, dA, ro, ad0, n0, nL, A, Q⟩ := X
  obtain ⟨hx, hb, hml, hown, hts, hK, hA, hE, htr, hlk, hrt, hWS⟩ := F
  intro ls st n E ca sl h ad H locs L h1 h2 h3 h4 h5 h6 h7 h8 h9 hca hsl
  unfold o_ib at h
  split at h
  · exact lv_iadd hx hb hd (hk _ _ _ _ _ _ h ad H locs L h1 h2 h3 (am_cs trivial (am_tl (am_tl h4))) h5 h6 h7 h8 h9 hca hsl)
  · exact h.elim
theorem ms_isub {X : am_X} {cc : ByteArray} {own : String} {ret : Option FieldType} {Ts : List Cond} (F : am_F X cc own ret Ts) {pc : Nat} {k : am_C} (hd : decode cc pc = .ok (.isub, 1)) (hk : am_imp k (am_G X (pc + 1))) : am_imp (o_ib (fun x y => x - y) k) (am_G X pc) := by
  obtain ⟨p, l, e, R, s, m, args, below, meth, c, D, dA, ro, ad0, n0, nL, A, Q⟩ := X
  obtain ⟨hx, hb, hml, hown, hts, hK, hA, hE, htr, hlk, hrt, hWS⟩ := F
  intro ls st n E ca sl h ad H locs L h1 h2 h3 h4 h5 h6 h7 h8 h9 hca hsl
  unfold o_ib at h
  split at h
  · exact lv_isub hx hb hd (hk _ _ _ _ _ _ h ad H locs L h1 h2 h3 (am_cs trivial (am_tl (am_tl h4))) h5 h6 h7 h8 h9 hca hsl)
  · exact h.elim
theorem ms_imul {X : am_X} {cc : ByteArray} {own : String} {ret : Option FieldType} {Ts : List Cond} (F : am_F X cc own ret Ts) {pc : Nat} {k : am_C} (hd : decode cc pc = .ok (.imul, 1)) (hk : am_imp k (am_G X (pc + 1))) : am_imp (o_ib (fun x y => x * y) k) (am_G X pc) := by
  obtain ⟨p, l, e, R, s, m, args, below, meth, c, D, dA, ro, ad0, n0, nL, A, Q⟩ := X
  obtain ⟨hx, hb, hml, hown, hts, hK, hA, hE, htr, hlk, hrt, hWS⟩ := F
  intro ls st n E ca sl h ad H locs L h1 h2 h3 h4 h5 h6 h7 h8 h9 hca hsl
  unfold o_ib at h
  split at h
  · exact lv_imul hx hb hd (hk _ _ _ _ _ _ h ad H locs L h1 h2 h3 (am_cs trivial (am_tl (am_tl h4))) h5 h6 h7 h8 h9 hca hsl)
  · exact h.elim
theorem ms_iand {X : am_X} {cc : ByteArray} {own : String} {ret : Option FieldType} {Ts : List Cond} (F : am_F X cc own ret Ts) {pc : Nat} {k : am_C} (hd : decode cc pc = .ok (.iand, 1)) (hk : am_imp k (am_G X (pc + 1))) : am_imp (o_ib (fun x y => x &&& y) k) (am_G X pc) := by
  obtain ⟨p, l, e, R, s, m, args, below, meth, c, D, dA, ro, ad0, n0, nL, A, Q⟩ := X
  obtain ⟨hx, hb, hml, hown, hts, hK, hA, hE, htr, hlk, hrt, hWS⟩ := F
  intro ls st n E ca sl h ad H locs L h1 h2 h3 h4 h5 h6 h7 h8 h9 hca hsl
  unfold o_ib at h
  split at h
  · exact lv_iand hx hb hd (hk _ _ _ _ _ _ h ad H locs L h1 h2 h3 (am_cs trivial (am_tl (am_tl h4))) h5 h6 h7 h8 h9 hca hsl)
  · exact h.elim
theorem ms_ior {X : am_X} {cc : ByteArray} {own : String} {ret : Option FieldType} {Ts : List Cond} (F : am_F X cc own ret Ts) {pc : Nat} {k : am_C} (hd : decode cc pc = .ok (.ior, 1)) (hk : am_imp k (am_G X (pc + 1))) : am_imp (o_ib (fun x y => x ||| y) k) (am_G X pc) := by
  obtain ⟨p, l, e, R, s, m, args, below, meth, c, D, dA, ro, ad0, n0, nL, A, Q⟩ := X
  obtain ⟨hx, hb, hml, hown, hts, hK, hA, hE, htr, hlk, hrt, hWS⟩ := F
  intro ls st n E ca sl h ad H locs L h1 h2 h3 h4 h5 h6 h7 h8 h9 hca hsl
  unfold o_ib at h
  split at h
  · exact lv_ior hx hb hd (hk _ _ _ _ _ _ h ad H locs L h1 h2 h3 (am_cs trivial (am_tl (am_tl h4))) h5 h6 h7 h8 h9 hca hsl)
  · exact h.elim
theorem ms_ixor {X : am_X} {cc : ByteArray} {own : String} {ret : Option FieldType} {Ts : List Cond} (F : am_F X cc own ret Ts) {pc : Nat} {k : am_C} (hd : decode cc pc = .ok (.ixor, 1)) (hk : am_imp k (am_G X (pc + 1))) : am_imp (o_ib (fun x y => x ^^^ y) k) (am_G X pc) := by
  obtain ⟨p, l, e, R, s, m, args, below, meth, c, D, dA, ro, ad0, n0, nL, A, Q⟩ := X
  obtain ⟨hx, hb, hml, hown, hts, hK, hA, hE, htr, hlk, hrt, hWS⟩ := F
  intro ls st n E ca sl h ad H locs L h1 h2 h3 h4 h5 h6 h7 h8 h9 hca hsl
  unfold o_ib at h
  split at h
  · exact lv_ixor hx hb hd (hk _ _ _ _ _ _ h ad H locs L h1 h2 h3 (am_cs trivial (am_tl (am_tl h4))) h5 h6 h7 h8 h9 hca hsl)
  · exact h.elim
theorem ms_ishl {X : am_X} {cc : ByteArray} {own : String} {ret : Option FieldType} {Ts : List Cond} (F : am_F X cc own ret Ts) {pc : Nat} {k : am_C} (hd : decode cc pc = .ok (.ishl, 1)) (hk : am_imp k (am_G X (pc + 1))) : am_imp (o_ib (fun x y => x <<< (y &&& 31)) k) (am_G X pc) := by
  obtain ⟨p, l, e, R, s, m, args, below, meth, c, D, dA, ro, ad0, n0, nL, A, Q⟩ := X
  obtain ⟨hx, hb, hml, hown, hts, hK, hA, hE, htr, hlk, hrt, hWS⟩ := F
  intro ls st n E ca sl h ad H locs L h1 h2 h3 h4 h5 h6 h7 h8 h9 hca hsl
  unfold o_ib at h
  split at h
  · exact lv_ishl hx hb hd (hk _ _ _ _ _ _ h ad H locs L h1 h2 h3 (am_cs trivial (am_tl (am_tl h4))) h5 h6 h7 h8 h9 hca hsl)
  · exact h.elim
theorem ms_ishr {X : am_X} {cc : ByteArray} {own : String} {ret : Option FieldType} {Ts : List Cond} (F : am_F X cc own ret Ts) {pc : Nat} {k : am_C} (hd : decode cc pc = .ok (.ishr, 1)) (hk : am_imp k (am_G X (pc + 1))) : am_imp (o_ib (fun x y => x >>> (y &&& 31)) k) (am_G X pc) := by
  obtain ⟨p, l, e, R, s, m, args, below, meth, c, D, dA, ro, ad0, n0, nL, A, Q⟩ := X
  obtain ⟨hx, hb, hml, hown, hts, hK, hA, hE, htr, hlk, hrt, hWS⟩ := F
  intro ls st n E ca sl h ad H locs L h1 h2 h3 h4 h5 h6 h7 h8 h9 hca hsl
  unfold o_ib at h
  split at h
  · exact lv_ishr hx hb hd (hk _ _ _ _ _ _ h ad H locs L h1 h2 h3 (am_cs trivial (am_tl (am_tl h4))) h5 h6 h7 h8 h9 hca hsl)
  · exact h.elim
theorem ms_iushr {X : am_X} {cc : ByteArray} {own : String} {ret : Option FieldType} {Ts : List Cond} (F : am_F X cc own ret Ts) {pc : Nat} {k : am_C} (hd : decode cc pc = .ok (.iushr, 1)) (hk : am_imp k (am_G X (pc + 1))) : am_imp (o_ib (fun x y => (x.toUInt32 >>> (y.toUInt32 &&& Int32.toUInt32 31)).toInt32) k) (am_G X pc) := by
  obtain ⟨p, l, e, R, s, m, args, below, meth, c, D, dA, ro, ad0, n0, nL, A, Q⟩ := X
  obtain ⟨hx, hb, hml, hown, hts, hK, hA, hE, htr, hlk, hrt, hWS⟩ := F
  intro ls st n E ca sl h ad H locs L h1 h2 h3 h4 h5 h6 h7 h8 h9 hca hsl
  unfold o_ib at h
  split at h
  · exact lv_iushr hx hb hd rfl (hk _ _ _ _ _ _ h ad H locs L h1 h2 h3 (am_cs trivial (am_tl (am_tl h4))) h5 h6 h7 h8 h9 hca hsl)
  · exact h.elim
theorem ms_idiv {X : am_X} {cc : ByteArray} {own : String} {ret : Option FieldType} {Ts : List Cond} (F : am_F X cc own ret Ts) {pc : Nat} {k : am_C} (hd : decode cc pc = .ok (.idiv, 1)) (hk : am_imp k (am_G X (pc + 1))) : am_imp (o_ibz (fun x y => x / y) k) (am_G X pc) := by
  obtain ⟨p, l, e, R, s, m, args, below, meth, c, D, dA, ro, ad0, n0, nL, A, Q⟩ := X
  obtain ⟨hx, hb, hml, hown, hts, hK, hA, hE, htr, hlk, hrt, hWS⟩ := F
  intro ls st n E ca sl h ad H locs L h1 h2 h3 h4 h5 h6 h7 h8 h9 hca hsl
  unfold o_ibz at h
  split at h
  · exact lv_idiv hx hb hd h.1 (hk _ _ _ _ _ _ h.2 ad H locs L h1 h2 h3 (am_cs trivial (am_tl (am_tl h4))) h5 h6 h7 h8 h9 hca hsl)
  · exact h.elim
theorem ms_irem {X : am_X} {cc : ByteArray} {own : String} {ret : Option FieldType} {Ts : List Cond} (F : am_F X cc own ret Ts) {pc : Nat} {k : am_C} (hd : decode cc pc = .ok (.irem, 1)) (hk : am_imp k (am_G X (pc + 1))) : am_imp (o_ibz (fun x y => x - x / y * y) k) (am_G X pc) := by
  obtain ⟨p, l, e, R, s, m, args, below, meth, c, D, dA, ro, ad0, n0, nL, A, Q⟩ := X
  obtain ⟨hx, hb, hml, hown, hts, hK, hA, hE, htr, hlk, hrt, hWS⟩ := F
  intro ls st n E ca sl h ad H locs L h1 h2 h3 h4 h5 h6 h7 h8 h9 hca hsl
  unfold o_ibz at h
  split at h
  · exact lv_irem hx hb hd h.1 (hk _ _ _ _ _ _ h.2 ad H locs L h1 h2 h3 (am_cs trivial (am_tl (am_tl h4))) h5 h6 h7 h8 h9 hca hsl)
  · exact h.elim
theorem ms_ladd {X : am_X} {cc : ByteArray} {own : String} {ret : Option FieldType} {Ts : List Cond} (F : am_F X cc own ret Ts) {pc : Nat} {k : am_C} (hd : decode cc pc = .ok (.ladd, 1)) (hk : am_imp k (am_G X (pc + 1))) : am_imp (o_lb (fun x y => x + y) k) (am_G X pc) := by
  obtain ⟨p, l, e, R, s, m, args, below, meth, c, D, dA, ro, ad0, n0, nL, A, Q⟩ := X
  obtain ⟨hx, hb, hml, hown, hts, hK, hA, hE, htr, hlk, hrt, hWS⟩ := F
  intro ls st n E ca sl h ad H locs L h1 h2 h3 h4 h5 h6 h7 h8 h9 hca hsl
  unfold o_lb at h
  split at h
  · exact lv_ladd hx hb hd (hk _ _ _ _ _ _ h ad H locs L h1 h2 h3 (am_cs trivial (am_tl (am_tl h4))) h5 h6 h7 h8 h9 hca hsl)
  · exact h.elim
theorem ms_lsub {X : am_X} {cc : ByteArray} {own : String} {ret : Option FieldType} {Ts : List Cond} (F : am_F X cc own ret Ts) {pc : Nat} {k : am_C} (hd : decode cc pc = .ok (.lsub, 1)) (hk : am_imp k (am_G X (pc + 1))) : am_imp (o_lb (fun x y => x - y) k) (am_G X pc) := by
  obtain ⟨p, l, e, R, s, m, args, below, meth, c, D, dA, ro, ad0, n0, nL, A, Q⟩ := X
  obtain ⟨hx, hb, hml, hown, hts, hK, hA, hE, htr, hlk, hrt, hWS⟩ := F
  intro ls st n E ca sl h ad H locs L h1 h2 h3 h4 h5 h6 h7 h8 h9 hca hsl
  unfold o_lb at h
  split at h
  · exact lv_lsub hx hb hd (hk _ _ _ _ _ _ h ad H locs L h1 h2 h3 (am_cs trivial (am_tl (am_tl h4))) h5 h6 h7 h8 h9 hca hsl)
  · exact h.elim
theorem ms_lmul {X : am_X} {cc : ByteArray} {own : String} {ret : Option FieldType} {Ts : List Cond} (F : am_F X cc own ret Ts) {pc : Nat} {k : am_C} (hd : decode cc pc = .ok (.lmul, 1)) (hk : am_imp k (am_G X (pc + 1))) : am_imp (o_lb (fun x y => x * y) k) (am_G X pc) := by
  obtain ⟨p, l, e, R, s, m, args, below, meth, c, D, dA, ro, ad0, n0, nL, A, Q⟩ := X
  obtain ⟨hx, hb, hml, hown, hts, hK, hA, hE, htr, hlk, hrt, hWS⟩ := F
  intro ls st n E ca sl h ad H locs L h1 h2 h3 h4 h5 h6 h7 h8 h9 hca hsl
  unfold o_lb at h
  split at h
  · exact lv_lmul hx hb hd (hk _ _ _ _ _ _ h ad H locs L h1 h2 h3 (am_cs trivial (am_tl (am_tl h4))) h5 h6 h7 h8 h9 hca hsl)
  · exact h.elim
theorem ms_lor {X : am_X} {cc : ByteArray} {own : String} {ret : Option FieldType} {Ts : List Cond} (F : am_F X cc own ret Ts) {pc : Nat} {k : am_C} (hd : decode cc pc = .ok (.lor, 1)) (hk : am_imp k (am_G X (pc + 1))) : am_imp (o_lb (fun x y => x ||| y) k) (am_G X pc) := by
  obtain ⟨p, l, e, R, s, m, args, below, meth, c, D, dA, ro, ad0, n0, nL, A, Q⟩ := X
  obtain ⟨hx, hb, hml, hown, hts, hK, hA, hE, htr, hlk, hrt, hWS⟩ := F
  intro ls st n E ca sl h ad H locs L h1 h2 h3 h4 h5 h6 h7 h8 h9 hca hsl
  unfold o_lb at h
  split at h
  · exact lv_lor hx hb hd (hk _ _ _ _ _ _ h ad H locs L h1 h2 h3 (am_cs trivial (am_tl (am_tl h4))) h5 h6 h7 h8 h9 hca hsl)
  · exact h.elim
theorem ms_land {X : am_X} {cc : ByteArray} {own : String} {ret : Option FieldType} {Ts : List Cond} (F : am_F X cc own ret Ts) {pc : Nat} {k : am_C} (hd : decode cc pc = .ok (.land, 1)) (hk : am_imp k (am_G X (pc + 1))) : am_imp (o_lb (fun x y => x &&& y) k) (am_G X pc) := by
  obtain ⟨p, l, e, R, s, m, args, below, meth, c, D, dA, ro, ad0, n0, nL, A, Q⟩ := X
  obtain ⟨hx, hb, hml, hown, hts, hK, hA, hE, htr, hlk, hrt, hWS⟩ := F
  intro ls st n E ca sl h ad H locs L h1 h2 h3 h4 h5 h6 h7 h8 h9 hca hsl
  unfold o_lb at h
  split at h
  · exact lv_land hx hb hd (hk _ _ _ _ _ _ h ad H locs L h1 h2 h3 (am_cs trivial (am_tl (am_tl h4))) h5 h6 h7 h8 h9 hca hsl)
  · exact h.elim
theorem ms_ldiv {X : am_X} {cc : ByteArray} {own : String} {ret : Option FieldType} {Ts : List Cond} (F : am_F X cc own ret Ts) {pc : Nat} {k : am_C} (hd : decode cc pc = .ok (.ldiv, 1)) (hk : am_imp k (am_G X (pc + 1))) : am_imp (o_lbz (fun x y => x / y) k) (am_G X pc) := by
  obtain ⟨p, l, e, R, s, m, args, below, meth, c, D, dA, ro, ad0, n0, nL, A, Q⟩ := X
  obtain ⟨hx, hb, hml, hown, hts, hK, hA, hE, htr, hlk, hrt, hWS⟩ := F
  intro ls st n E ca sl h ad H locs L h1 h2 h3 h4 h5 h6 h7 h8 h9 hca hsl
  unfold o_lbz at h
  split at h
  · exact lv_ldiv hx hb hd h.1 (hk _ _ _ _ _ _ h.2 ad H locs L h1 h2 h3 (am_cs trivial (am_tl (am_tl h4))) h5 h6 h7 h8 h9 hca hsl)
  · exact h.elim
theorem ms_lrem {X : am_X} {cc : ByteArray} {own : String} {ret : Option FieldType} {Ts : List Cond} (F : am_F X cc own ret Ts) {pc : Nat} {k : am_C} (hd : decode cc pc = .ok (.lrem, 1)) (hk : am_imp k (am_G X (pc + 1))) : am_imp (o_lbz (fun x y => x - x / y * y) k) (am_G X pc) := by
  obtain ⟨p, l, e, R, s, m, args, below, meth, c, D, dA, ro, ad0, n0, nL, A, Q⟩ := X
  obtain ⟨hx, hb, hml, hown, hts, hK, hA, hE, htr, hlk, hrt, hWS⟩ := F
  intro ls st n E ca sl h ad H locs L h1 h2 h3 h4 h5 h6 h7 h8 h9 hca hsl
  unfold o_lbz at h
  split at h
  · exact lv_lrem hx hb hd h.1 (hk _ _ _ _ _ _ h.2 ad H locs L h1 h2 h3 (am_cs trivial (am_tl (am_tl h4))) h5 h6 h7 h8 h9 hca hsl)
  · exact h.elim
def o_lsh (f : Int64 → Int32 → Int64) (k : am_C) : am_C := fun ls st n E ca sl => match st with
  | .int y :: .long x :: r => k ls (.long (f x y) :: r) n E ca sl
  | _ => False
theorem ms_lshl {X : am_X} {cc : ByteArray} {own : String} {ret : Option FieldType} {Ts : List Cond} (F : am_F X cc own ret Ts) {pc : Nat} {k : am_C} (hd : decode cc pc = .ok (.lshl, 1)) (hk : am_imp k (am_G X (pc + 1))) : am_imp (o_lsh (fun x y => x <<< (y.toInt64 &&& 63)) k) (am_G X pc) := by
  obtain ⟨p, l, e, R, s, m, args, below, meth, c, D, dA, ro, ad0, n0, nL, A, Q⟩ := X
  obtain ⟨hx, hb, hml, hown, hts, hK, hA, hE, htr, hlk, hrt, hWS⟩ := F
  intro ls st n E ca sl h ad H locs L h1 h2 h3 h4 h5 h6 h7 h8 h9 hca hsl
  unfold o_lsh at h
  split at h
  · exact lv_lshl hx hb hd rfl (hk _ _ _ _ _ _ h ad H locs L h1 h2 h3 (am_cs trivial (am_tl (am_tl h4))) h5 h6 h7 h8 h9 hca hsl)
  · exact h.elim
theorem ms_lushr {X : am_X} {cc : ByteArray} {own : String} {ret : Option FieldType} {Ts : List Cond} (F : am_F X cc own ret Ts) {pc : Nat} {k : am_C} (hd : decode cc pc = .ok (.lushr, 1)) (hk : am_imp k (am_G X (pc + 1))) : am_imp (o_lsh (fun x y => (x.toUInt64 >>> (y.toInt64.toUInt64 &&& Int64.toUInt64 63)).toInt64) k) (am_G X pc) := by
  obtain ⟨p, l, e, R, s, m, args, below, meth, c, D, dA, ro, ad0, n0, nL, A, Q⟩ := X
  obtain ⟨hx, hb, hml, hown, hts, hK, hA, hE, htr, hlk, hrt, hWS⟩ := F
  intro ls st n E ca sl h ad H locs L h1 h2 h3 h4 h5 h6 h7 h8 h9 hca hsl
  unfold o_lsh at h
  split at h
  · exact lv_lushr hx hb hd rfl (hk _ _ _ _ _ _ h ad H locs L h1 h2 h3 (am_cs trivial (am_tl (am_tl h4))) h5 h6 h7 h8 h9 hca hsl)
  · exact h.elim
def o_lcmp (k : am_C) : am_C := fun ls st n E ca sl => match st with
  | .long y :: .long x :: r => k ls (.int (lg_cmp x y) :: r) n E ca sl
  | _ => False
theorem ms_lcmp {X : am_X} {cc : ByteArray} {own : String} {ret : Option FieldType} {Ts : List Cond} (F : am_F X cc own ret Ts) {pc : Nat} {k : am_C} (hd : decode cc pc = .ok (.lcmp, 1)) (hk : am_imp k (am_G X (pc + 1))) : am_imp (o_lcmp k) (am_G X pc) := by
  obtain ⟨p, l, e, R, s, m, args, below, meth, c, D, dA, ro, ad0, n0, nL, A, Q⟩ := X
  obtain ⟨hx, hb, hml, hown, hts, hK, hA, hE, htr, hlk, hrt, hWS⟩ := F
  intro ls st n E ca sl h ad H locs L h1 h2 h3 h4 h5 h6 h7 h8 h9 hca hsl
  unfold o_lcmp at h
  split at h
  · exact W.lcmp hx hb hd (hk _ _ _ _ _ _ h ad H locs L h1 h2 h3 (am_cs trivial (am_tl (am_tl h4))) h5 h6 h7 h8 h9 hca hsl)
  · exact h.elim
def o_ineg (k : am_C) : am_C := fun ls st n E ca sl => match st with
  | .int x :: r => k ls (.int (-x) :: r) n E ca sl
  | _ => False
theorem ms_ineg {X : am_X} {cc : ByteArray} {own : String} {ret : Option FieldType} {Ts : List Cond} (F : am_F X cc own ret Ts) {pc : Nat} {k : am_C} (hd : decode cc pc = .ok (.ineg, 1)) (hk : am_imp k (am_G X (pc + 1))) : am_imp (o_ineg k) (am_G X pc) := by
  obtain ⟨p, l, e, R, s, m, args, below, meth, c, D, dA, ro, ad0, n0, nL, A, Q⟩ := X
  obtain ⟨hx, hb, hml, hown, hts, hK, hA, hE, htr, hlk, hrt, hWS⟩ := F
  intro ls st n E ca sl h ad H locs L h1 h2 h3 h4 h5 h6 h7 h8 h9 hca hsl
  unfold o_ineg at h
  split at h
  · exact lv_ineg hx hb hd  (hk _ _ _ _ _ _ h ad H locs L h1 h2 h3 (am_cs trivial (am_tl h4)) h5 h6 h7 h8 h9 hca hsl)
  · exact h.elim
def o_i2l (k : am_C) : am_C := fun ls st n E ca sl => match st with
  | .int x :: r => k ls (.long (x.toInt64) :: r) n E ca sl
  | _ => False
theorem ms_i2l {X : am_X} {cc : ByteArray} {own : String} {ret : Option FieldType} {Ts : List Cond} (F : am_F X cc own ret Ts) {pc : Nat} {k : am_C} (hd : decode cc pc = .ok (.i2l, 1)) (hk : am_imp k (am_G X (pc + 1))) : am_imp (o_i2l k) (am_G X pc) := by
  obtain ⟨p, l, e, R, s, m, args, below, meth, c, D, dA, ro, ad0, n0, nL, A, Q⟩ := X
  obtain ⟨hx, hb, hml, hown, hts, hK, hA, hE, htr, hlk, hrt, hWS⟩ := F
  intro ls st n E ca sl h ad H locs L h1 h2 h3 h4 h5 h6 h7 h8 h9 hca hsl
  unfold o_i2l at h
  split at h
  · exact lv_i2l hx hb hd rfl (hk _ _ _ _ _ _ h ad H locs L h1 h2 h3 (am_cs trivial (am_tl h4)) h5 h6 h7 h8 h9 hca hsl)
  · exact h.elim
def o_l2i (k : am_C) : am_C := fun ls st n E ca sl => match st with
  | .long x :: r => k ls (.int (x.toInt32) :: r) n E ca sl
  | _ => False
theorem ms_l2i {X : am_X} {cc : ByteArray} {own : String} {ret : Option FieldType} {Ts : List Cond} (F : am_F X cc own ret Ts) {pc : Nat} {k : am_C} (hd : decode cc pc = .ok (.l2i, 1)) (hk : am_imp k (am_G X (pc + 1))) : am_imp (o_l2i k) (am_G X pc) := by
  obtain ⟨p, l, e, R, s, m, args, below, meth, c, D, dA, ro, ad0, n0, nL, A, Q⟩ := X
  obtain ⟨hx, hb, hml, hown, hts, hK, hA, hE, htr, hlk, hrt, hWS⟩ := F
  intro ls st n E ca sl h ad H locs L h1 h2 h3 h4 h5 h6 h7 h8 h9 hca hsl
  unfold o_l2i at h
  split at h
  · exact lv_l2i hx hb hd rfl (hk _ _ _ _ _ _ h ad H locs L h1 h2 h3 (am_cs trivial (am_tl h4)) h5 h6 h7 h8 h9 hca hsl)
  · exact h.elim
def o_i2c (k : am_C) : am_C := fun ls st n E ca sl => match st with
  | .int x :: r => k ls (.int ((x.toUInt32 % 65536).toInt32) :: r) n E ca sl
  | _ => False
theorem ms_i2c {X : am_X} {cc : ByteArray} {own : String} {ret : Option FieldType} {Ts : List Cond} (F : am_F X cc own ret Ts) {pc : Nat} {k : am_C} (hd : decode cc pc = .ok (.i2c, 1)) (hk : am_imp k (am_G X (pc + 1))) : am_imp (o_i2c k) (am_G X pc) := by
  obtain ⟨p, l, e, R, s, m, args, below, meth, c, D, dA, ro, ad0, n0, nL, A, Q⟩ := X
  obtain ⟨hx, hb, hml, hown, hts, hK, hA, hE, htr, hlk, hrt, hWS⟩ := F
  intro ls st n E ca sl h ad H locs L h1 h2 h3 h4 h5 h6 h7 h8 h9 hca hsl
  unfold o_i2c at h
  split at h
  · exact lv_i2c hx hb hd rfl (hk _ _ _ _ _ _ h ad H locs L h1 h2 h3 (am_cs trivial (am_tl h4)) h5 h6 h7 h8 h9 hca hsl)
  · exact h.elim
def o_i2f (k : am_C) : am_C := fun ls st n E ca sl => match st with
  | .int x :: r => k ls (.float (FP.i2f x) :: r) n E ca sl
  | _ => False
theorem ms_i2f {X : am_X} {cc : ByteArray} {own : String} {ret : Option FieldType} {Ts : List Cond} (F : am_F X cc own ret Ts) {pc : Nat} {k : am_C} (hd : decode cc pc = .ok (.i2f, 1)) (hk : am_imp k (am_G X (pc + 1))) : am_imp (o_i2f k) (am_G X pc) := by
  obtain ⟨p, l, e, R, s, m, args, below, meth, c, D, dA, ro, ad0, n0, nL, A, Q⟩ := X
  obtain ⟨hx, hb, hml, hown, hts, hK, hA, hE, htr, hlk, hrt, hWS⟩ := F
  intro ls st n E ca sl h ad H locs L h1 h2 h3 h4 h5 h6 h7 h8 h9 hca hsl
  unfold o_i2f at h
  split at h
  · exact lv_i2f hx hb hd  (hk _ _ _ _ _ _ h ad H locs L h1 h2 h3 (am_cs trivial (am_tl h4)) h5 h6 h7 h8 h9 hca hsl)
  · exact h.elim
def o_i2d (k : am_C) : am_C := fun ls st n E ca sl => match st with
  | .int x :: r => k ls (.double (FP.i2d x) :: r) n E ca sl
  | _ => False
theorem ms_i2d {X : am_X} {cc : ByteArray} {own : String} {ret : Option FieldType} {Ts : List Cond} (F : am_F X cc own ret Ts) {pc : Nat} {k : am_C} (hd : decode cc pc = .ok (.i2d, 1)) (hk : am_imp k (am_G X (pc + 1))) : am_imp (o_i2d k) (am_G X pc) := by
  obtain ⟨p, l, e, R, s, m, args, below, meth, c, D, dA, ro, ad0, n0, nL, A, Q⟩ := X
  obtain ⟨hx, hb, hml, hown, hts, hK, hA, hE, htr, hlk, hrt, hWS⟩ := F
  intro ls st n E ca sl h ad H locs L h1 h2 h3 h4 h5 h6 h7 h8 h9 hca hsl
  unfold o_i2d at h
  split at h
  · exact lv_i2d hx hb hd  (hk _ _ _ _ _ _ h ad H locs L h1 h2 h3 (am_cs trivial (am_tl h4)) h5 h6 h7 h8 h9 hca hsl)
  · exact h.elim
def o_f2d (k : am_C) : am_C := fun ls st n E ca sl => match st with
  | .float x :: r => vf_n64 (FP.f2d x) ∧ k ls (.double (FP.f2d x) :: r) n E ca sl
  | _ => False
theorem ms_f2d {X : am_X} {cc : ByteArray} {own : String} {ret : Option FieldType} {Ts : List Cond} (F : am_F X cc own ret Ts) {pc : Nat} {k : am_C} (hd : decode cc pc = .ok (.f2d, 1)) (hk : am_imp k (am_G X (pc + 1))) : am_imp (o_f2d k) (am_G X pc) := by
  obtain ⟨p, l, e, R, s, m, args, below, meth, c, D, dA, ro, ad0, n0, nL, A, Q⟩ := X
  obtain ⟨hx, hb, hml, hown, hts, hK, hA, hE, htr, hlk, hrt, hWS⟩ := F
  intro ls st n E ca sl h ad H locs L h1 h2 h3 h4 h5 h6 h7 h8 h9 hca hsl
  unfold o_f2d at h
  split at h
  · exact lv_f2d hx hb hd h.1 (hk _ _ _ _ _ _ h.2 ad H locs L h1 h2 h3 (am_cs trivial (am_tl h4)) h5 h6 h7 h8 h9 hca hsl)
  · exact h.elim
def o_fdiv (k : am_C) : am_C := fun ls st n E ca sl => match st with
  | .float y :: .float x :: r => vf_n32 (FP.fdiv x y) ∧ k ls (.float (FP.fdiv x y) :: r) n E ca sl
  | _ => False
theorem ms_fdiv {X : am_X} {cc : ByteArray} {own : String} {ret : Option FieldType} {Ts : List Cond} (F : am_F X cc own ret Ts) {pc : Nat} {k : am_C} (hd : decode cc pc = .ok (.fdiv, 1)) (hk : am_imp k (am_G X (pc + 1))) : am_imp (o_fdiv k) (am_G X pc) := by
  obtain ⟨p, l, e, R, s, m, args, below, meth, c, D, dA, ro, ad0, n0, nL, A, Q⟩ := X
  obtain ⟨hx, hb, hml, hown, hts, hK, hA, hE, htr, hlk, hrt, hWS⟩ := F
  intro ls st n E ca sl h ad H locs L h1 h2 h3 h4 h5 h6 h7 h8 h9 hca hsl
  unfold o_fdiv at h
  split at h
  · exact lv_fdiv hx hb hd h.1 (hk _ _ _ _ _ _ h.2 ad H locs L h1 h2 h3 (am_cs trivial (am_tl (am_tl h4))) h5 h6 h7 h8 h9 hca hsl)
  · exact h.elim
def o_ddiv (k : am_C) : am_C := fun ls st n E ca sl => match st with
  | .double y :: .double x :: r => vf_n64 (FP.ddiv x y) ∧ k ls (.double (FP.ddiv x y) :: r) n E ca sl
  | _ => False
theorem ms_ddiv {X : am_X} {cc : ByteArray} {own : String} {ret : Option FieldType} {Ts : List Cond} (F : am_F X cc own ret Ts) {pc : Nat} {k : am_C} (hd : decode cc pc = .ok (.ddiv, 1)) (hk : am_imp k (am_G X (pc + 1))) : am_imp (o_ddiv k) (am_G X pc) := by
  obtain ⟨p, l, e, R, s, m, args, below, meth, c, D, dA, ro, ad0, n0, nL, A, Q⟩ := X
  obtain ⟨hx, hb, hml, hown, hts, hK, hA, hE, htr, hlk, hrt, hWS⟩ := F
  intro ls st n E ca sl h ad H locs L h1 h2 h3 h4 h5 h6 h7 h8 h9 hca hsl
  unfold o_ddiv at h
  split at h
  · exact lv_ddiv hx hb hd h.1 (hk _ _ _ _ _ _ h.2 ad H locs L h1 h2 h3 (am_cs trivial (am_tl (am_tl h4))) h5 h6 h7 h8 h9 hca hsl)
  · exact h.elim
def o_fcmp (op : CmpOp) (k : am_C) : am_C := fun ls st n E ca sl => match st with
  | .float y :: .float x :: r => k ls (.int (Op.cmpValue (FP.fcmp x y) op) :: r) n E ca sl
  | _ => False
theorem ms_fcmp {X : am_X} {cc : ByteArray} {own : String} {ret : Option FieldType} {Ts : List Cond} (F : am_F X cc own ret Ts) {pc : Nat} {k : am_C} {op : CmpOp} (hd : decode cc pc = .ok (.fcmp op, 1)) (hk : am_imp k (am_G X (pc + 1))) : am_imp (o_fcmp op k) (am_G X pc) := by
  obtain ⟨p, l, e, R, s, m, args, below, meth, c, D, dA, ro, ad0, n0, nL, A, Q⟩ := X
  obtain ⟨hx, hb, hml, hown, hts, hK, hA, hE, htr, hlk, hrt, hWS⟩ := F
  intro ls st n E ca sl h ad H locs L h1 h2 h3 h4 h5 h6 h7 h8 h9 hca hsl
  unfold o_fcmp at h
  split at h
  · exact lv_fcmp hx hb hd (hk _ _ _ _ _ _ h ad H locs L h1 h2 h3 (am_cs trivial (am_tl (am_tl h4))) h5 h6 h7 h8 h9 hca hsl)
  · exact h.elim
def o_dcmp (op : CmpOp) (k : am_C) : am_C := fun ls st n E ca sl => match st with
  | .double y :: .double x :: r => k ls (.int (Op.cmpValue (FP.dcmp x y) op) :: r) n E ca sl
  | _ => False
theorem ms_dcmp {X : am_X} {cc : ByteArray} {own : String} {ret : Option FieldType} {Ts : List Cond} (F : am_F X cc own ret Ts) {pc : Nat} {k : am_C} {op : CmpOp} (hd : decode cc pc = .ok (.dcmp op, 1)) (hk : am_imp k (am_G X (pc + 1))) : am_imp (o_dcmp op k) (am_G X pc) := by
  obtain ⟨p, l, e, R, s, m, args, below, meth, c, D, dA, ro, ad0, n0, nL, A, Q⟩ := X
  obtain ⟨hx, hb, hml, hown, hts, hK, hA, hE, htr, hlk, hrt, hWS⟩ := F
  intro ls st n E ca sl h ad H locs L h1 h2 h3 h4 h5 h6 h7 h8 h9 hca hsl
  unfold o_dcmp at h
  split at h
  · exact lv_dcmp hx hb hd (hk _ _ _ _ _ _ h ad H locs L h1 h2 h3 (am_cs trivial (am_tl (am_tl h4))) h5 h6 h7 h8 h9 hca hsl)
  · exact h.elim
def o_dup (k : am_C) : am_C := fun ls st n E ca sl => match st with
  | v :: r => v.category = 1 ∧ k ls (v :: v :: r) n E ca sl
  | _ => False
theorem ms_dup {X : am_X} {cc : ByteArray} {own : String} {ret : Option FieldType} {Ts : List Cond} (F : am_F X cc own ret Ts) {pc : Nat} {k : am_C} (hd : decode cc pc = .ok (.dup, 1)) (hk : am_imp k (am_G X (pc + 1))) : am_imp (o_dup k) (am_G X pc) := by
  obtain ⟨p, l, e, R, s, m, args, below, meth, c, D, dA, ro, ad0, n0, nL, A, Q⟩ := X
  obtain ⟨hx, hb, hml, hown, hts, hK, hA, hE, htr, hlk, hrt, hWS⟩ := F
  intro ls st n E ca sl h ad H locs L h1 h2 h3 h4 h5 h6 h7 h8 h9 hca hsl
  unfold o_dup at h
  split at h
  · exact lv_dup hx hb hd (by rw [am_tr_cat]; exact h.1) (hk _ _ _ _ _ _ h.2 ad H locs L h1 h2 h3 (am_cs (am_hd h4) h4) h5 h6 h7 h8 h9 hca hsl)
  · exact h.elim
def o_dup2 (k : am_C) : am_C := fun ls st n E ca sl => match st with
  | v :: w :: r => (v.category = 1 ∧ w.category = 1) ∧ k ls (v :: w :: v :: w :: r) n E ca sl
  | _ => False
theorem ms_dup2 {X : am_X} {cc : ByteArray} {own : String} {ret : Option FieldType} {Ts : List Cond} (F : am_F X cc own ret Ts) {pc : Nat} {k : am_C} (hd : decode cc pc = .ok (.dup2, 1)) (hk : am_imp k (am_G X (pc + 1))) : am_imp (o_dup2 k) (am_G X pc) := by
  obtain ⟨p, l, e, R, s, m, args, below, meth, c, D, dA, ro, ad0, n0, nL, A, Q⟩ := X
  obtain ⟨hx, hb, hml, hown, hts, hK, hA, hE, htr, hlk, hrt, hWS⟩ := F
  intro ls st n E ca sl h ad H locs L h1 h2 h3 h4 h5 h6 h7 h8 h9 hca hsl
  unfold o_dup2 at h
  split at h
  · exact lv_dup2_11 hx hb hd (by rw [am_tr_cat]; exact h.1.1) (by rw [am_tr_cat]; exact h.1.2) (hk _ _ _ _ _ _ h.2 ad H locs L h1 h2 h3 (am_cs (am_hd h4) (am_cs (am_hd (am_tl h4)) h4)) h5 h6 h7 h8 h9 hca hsl)
  · exact h.elim
def o_pop (k : am_C) : am_C := fun ls st n E ca sl => match st with
  | v :: r => v.category = 1 ∧ k ls r n E ca sl
  | _ => False
theorem ms_pop {X : am_X} {cc : ByteArray} {own : String} {ret : Option FieldType} {Ts : List Cond} (F : am_F X cc own ret Ts) {pc : Nat} {k : am_C} (hd : decode cc pc = .ok (.pop, 1)) (hk : am_imp k (am_G X (pc + 1))) : am_imp (o_pop k) (am_G X pc) := by
  obtain ⟨p, l, e, R, s, m, args, below, meth, c, D, dA, ro, ad0, n0, nL, A, Q⟩ := X
  obtain ⟨hx, hb, hml, hown, hts, hK, hA, hE, htr, hlk, hrt, hWS⟩ := F
  intro ls st n E ca sl h ad H locs L h1 h2 h3 h4 h5 h6 h7 h8 h9 hca hsl
  unfold o_pop at h
  split at h
  · exact lv_pop hx hb hd (by rw [am_tr_cat]; exact h.1) (hk _ _ _ _ _ _ h.2 ad H locs L h1 h2 h3 (am_tl h4) h5 h6 h7 h8 h9 hca hsl)
  · exact h.elim
def o_if (c : Int32 → Prop) (dc : ∀ x, Decidable (c x)) (kt kf : am_C) : am_C := fun ls st n E ca sl => match st with
  | .int x :: r => @ite Prop (c x) (dc x) (kt ls r n E ca sl) (kf ls r n E ca sl)
  | _ => False
def o_ic (c : Int32 → Int32 → Prop) (dc : ∀ x y, Decidable (c x y)) (kt kf : am_C) : am_C := fun ls st n E ca sl => match st with
  | .int y :: .int x :: r => @ite Prop (c x y) (dc x y) (kt ls r n E ca sl) (kf ls r n E ca sl)
  | _ => False
abbrev o_if_eq (kt kf : am_C) : am_C := o_if (fun x => x = 0) (fun _ => inferInstance) kt kf
theorem ms_if_eq {X : am_X} {cc : ByteArray} {own : String} {ret : Option FieldType} {Ts : List Cond} (F : am_F X cc own ret Ts) {pc tgt : Nat} {k k2 : am_C} {off : Int} (hd : decode cc pc = .ok (.ifCond .eq off, 3)) (ht : (pc : Int) + off = (tgt : Int)) (hk : am_imp k (am_G X tgt)) (hk2 : am_imp k2 (am_G X (pc + 3))) : am_imp (o_if_eq k k2) (am_G X pc) := by
  obtain ⟨p, l, e, R, s, m, args, below, meth, c, D, dA, ro, ad0, n0, nL, A, Q⟩ := X
  obtain ⟨hx, hb, hml, hown, hts, hK, hA, hE, htr, hlk, hrt, hWS⟩ := F
  intro ls st n E ca sl h ad H locs L h1 h2 h3 h4 h5 h6 h7 h8 h9 hca hsl
  unfold o_if_eq o_if at h
  split at h
  · rename_i x r
    exact lv_if_eq hx hb hd ht (fun q => hk _ _ _ _ _ _ (by rw [if_pos q] at h; exact h) ad H locs L h1 h2 h3 (am_tl h4) h5 h6 h7 h8 h9 hca hsl) (fun q => hk2 _ _ _ _ _ _ (by rw [if_neg q] at h; exact h) ad H locs L h1 h2 h3 (am_tl h4) h5 h6 h7 h8 h9 hca hsl)
  · exact h.elim
abbrev o_if_ne (kt kf : am_C) : am_C := o_if (fun x => ¬ x = 0) (fun _ => inferInstance) kt kf
theorem ms_if_ne {X : am_X} {cc : ByteArray} {own : String} {ret : Option FieldType} {Ts : List Cond} (F : am_F X cc own ret Ts) {pc tgt : Nat} {k k2 : am_C} {off : Int} (hd : decode cc pc = .ok (.ifCond .ne off, 3)) (ht : (pc : Int) + off = (tgt : Int)) (hk : am_imp k (am_G X tgt)) (hk2 : am_imp k2 (am_G X (pc + 3))) : am_imp (o_if_ne k k2) (am_G X pc) := by
  obtain ⟨p, l, e, R, s, m, args, below, meth, c, D, dA, ro, ad0, n0, nL, A, Q⟩ := X
  obtain ⟨hx, hb, hml, hown, hts, hK, hA, hE, htr, hlk, hrt, hWS⟩ := F
  intro ls st n E ca sl h ad H locs L h1 h2 h3 h4 h5 h6 h7 h8 h9 hca hsl
  unfold o_if_ne o_if at h
  split at h
  · rename_i x r
    exact lv_if_ne hx hb hd ht (fun q => hk _ _ _ _ _ _ (by rw [if_pos q] at h; exact h) ad H locs L h1 h2 h3 (am_tl h4) h5 h6 h7 h8 h9 hca hsl) (fun q => hk2 _ _ _ _ _ _ (by rw [if_neg (fun z => z q)] at h; exact h) ad H locs L h1 h2 h3 (am_tl h4) h5 h6 h7 h8 h9 hca hsl)
  · exact h.elim
abbrev o_if_lt (kt kf : am_C) : am_C := o_if (fun x => x < 0) (fun _ => inferInstance) kt kf
theorem ms_if_lt {X : am_X} {cc : ByteArray} {own : String} {ret : Option FieldType} {Ts : List Cond} (F : am_F X cc own ret Ts) {pc tgt : Nat} {k k2 : am_C} {off : Int} (hd : decode cc pc = .ok (.ifCond .lt off, 3)) (ht : (pc : Int) + off = (tgt : Int)) (hk : am_imp k (am_G X tgt)) (hk2 : am_imp k2 (am_G X (pc + 3))) : am_imp (o_if_lt k k2) (am_G X pc) := by
  obtain ⟨p, l, e, R, s, m, args, below, meth, c, D, dA, ro, ad0, n0, nL, A, Q⟩ := X
  obtain ⟨hx, hb, hml, hown, hts, hK, hA, hE, htr, hlk, hrt, hWS⟩ := F
  intro ls st n E ca sl h ad H locs L h1 h2 h3 h4 h5 h6 h7 h8 h9 hca hsl
  unfold o_if_lt o_if at h
  split at h
  · rename_i x r
    exact lv_if_lt hx hb hd ht (fun q => hk _ _ _ _ _ _ (by rw [if_pos q] at h; exact h) ad H locs L h1 h2 h3 (am_tl h4) h5 h6 h7 h8 h9 hca hsl) (fun q => hk2 _ _ _ _ _ _ (by rw [if_neg q] at h; exact h) ad H locs L h1 h2 h3 (am_tl h4) h5 h6 h7 h8 h9 hca hsl)
  · exact h.elim
abbrev o_if_ge (kt kf : am_C) : am_C := o_if (fun x => 0 ≤ x) (fun _ => inferInstance) kt kf
theorem ms_if_ge {X : am_X} {cc : ByteArray} {own : String} {ret : Option FieldType} {Ts : List Cond} (F : am_F X cc own ret Ts) {pc tgt : Nat} {k k2 : am_C} {off : Int} (hd : decode cc pc = .ok (.ifCond .ge off, 3)) (ht : (pc : Int) + off = (tgt : Int)) (hk : am_imp k (am_G X tgt)) (hk2 : am_imp k2 (am_G X (pc + 3))) : am_imp (o_if_ge k k2) (am_G X pc) := by
  obtain ⟨p, l, e, R, s, m, args, below, meth, c, D, dA, ro, ad0, n0, nL, A, Q⟩ := X
  obtain ⟨hx, hb, hml, hown, hts, hK, hA, hE, htr, hlk, hrt, hWS⟩ := F
  intro ls st n E ca sl h ad H locs L h1 h2 h3 h4 h5 h6 h7 h8 h9 hca hsl
  unfold o_if_ge o_if at h
  split at h
  · rename_i x r
    exact lv_if_ge hx hb hd ht (fun q => hk _ _ _ _ _ _ (by rw [if_pos q] at h; exact h) ad H locs L h1 h2 h3 (am_tl h4) h5 h6 h7 h8 h9 hca hsl) (fun q => hk2 _ _ _ _ _ _ (by rw [if_neg q] at h; exact h) ad H locs L h1 h2 h3 (am_tl h4) h5 h6 h7 h8 h9 hca hsl)
  · exact h.elim
abbrev o_if_gt (kt kf : am_C) : am_C := o_if (fun x => 0 < x) (fun _ => inferInstance) kt kf
theorem ms_if_gt {X : am_X} {cc : ByteArray} {own : String} {ret : Option FieldType} {Ts : List Cond} (F : am_F X cc own ret Ts) {pc tgt : Nat} {k k2 : am_C} {off : Int} (hd : decode cc pc = .ok (.ifCond .gt off, 3)) (ht : (pc : Int) + off = (tgt : Int)) (hk : am_imp k (am_G X tgt)) (hk2 : am_imp k2 (am_G X (pc + 3))) : am_imp (o_if_gt k k2) (am_G X pc) := by
  obtain ⟨p, l, e, R, s, m, args, below, meth, c, D, dA, ro, ad0, n0, nL, A, Q⟩ := X
  obtain ⟨hx, hb, hml, hown, hts, hK, hA, hE, htr, hlk, hrt, hWS⟩ := F
  intro ls st n E ca sl h ad H locs L h1 h2 h3 h4 h5 h6 h7 h8 h9 hca hsl
  unfold o_if_gt o_if at h
  split at h
  · rename_i x r
    exact lv_if_gt hx hb hd ht (fun q => hk _ _ _ _ _ _ (by rw [if_pos q] at h; exact h) ad H locs L h1 h2 h3 (am_tl h4) h5 h6 h7 h8 h9 hca hsl) (fun q => hk2 _ _ _ _ _ _ (by rw [if_neg q] at h; exact h) ad H locs L h1 h2 h3 (am_tl h4) h5 h6 h7 h8 h9 hca hsl)
  · exact h.elim
abbrev o_if_le (kt kf : am_C) : am_C := o_if (fun x => x ≤ 0) (fun _ => inferInstance) kt kf
theorem ms_if_le {X : am_X} {cc : ByteArray} {own : String} {ret : Option FieldType} {Ts : List Cond} (F : am_F X cc own ret Ts) {pc tgt : Nat} {k k2 : am_C} {off : Int} (hd : decode cc pc = .ok (.ifCond .le off, 3)) (ht : (pc : Int) + off = (tgt : Int)) (hk : am_imp k (am_G X tgt)) (hk2 : am_imp k2 (am_G X (pc + 3))) : am_imp (o_if_le k k2) (am_G X pc) := by
  obtain ⟨p, l, e, R, s, m, args, below, meth, c, D, dA, ro, ad0, n0, nL, A, Q⟩ := X
  obtain ⟨hx, hb, hml, hown, hts, hK, hA, hE, htr, hlk, hrt, hWS⟩ := F
  intro ls st n E ca sl h ad H locs L h1 h2 h3 h4 h5 h6 h7 h8 h9 hca hsl
  unfold o_if_le o_if at h
  split at h
  · rename_i x r
    exact lv_if_le hx hb hd ht (fun q => hk _ _ _ _ _ _ (by rw [if_pos q] at h; exact h) ad H locs L h1 h2 h3 (am_tl h4) h5 h6 h7 h8 h9 hca hsl) (fun q => hk2 _ _ _ _ _ _ (by rw [if_neg q] at h; exact h) ad H locs L h1 h2 h3 (am_tl h4) h5 h6 h7 h8 h9 hca hsl)
  · exact h.elim
abbrev o_ic_eq (kt kf : am_C) : am_C := o_ic (fun x y => x = y) (fun _ _ => inferInstance) kt kf
theorem ms_ic_eq {X : am_X} {cc : ByteArray} {own : String} {ret : Option FieldType} {Ts : List Cond} (F : am_F X cc own ret Ts) {pc tgt : Nat} {k k2 : am_C} {off : Int} (hd : decode cc pc = .ok (.if_icmp .eq off, 3)) (ht : (pc : Int) + off = (tgt : Int)) (hk : am_imp k (am_G X tgt)) (hk2 : am_imp k2 (am_G X (pc + 3))) : am_imp (o_ic_eq k k2) (am_G X pc) := by
  obtain ⟨p, l, e, R, s, m, args, below, meth, c, D, dA, ro, ad0, n0, nL, A, Q⟩ := X
  obtain ⟨hx, hb, hml, hown, hts, hK, hA, hE, htr, hlk, hrt, hWS⟩ := F
  intro ls st n E ca sl h ad H locs L h1 h2 h3 h4 h5 h6 h7 h8 h9 hca hsl
  unfold o_ic_eq o_ic at h
  split at h
  · rename_i y x r
    exact lv_icmp_eq hx hb hd ht (fun q => hk _ _ _ _ _ _ (by rw [if_pos q] at h; exact h) ad H locs L h1 h2 h3 (am_tl (am_tl h4)) h5 h6 h7 h8 h9 hca hsl) (fun q => hk2 _ _ _ _ _ _ (by rw [if_neg q] at h; exact h) ad H locs L h1 h2 h3 (am_tl (am_tl h4)) h5 h6 h7 h8 h9 hca hsl)
  · exact h.elim
abbrev o_ic_ne (kt kf : am_C) : am_C := o_ic (fun x y => ¬ x = y) (fun _ _ => inferInstance) kt kf
theorem ms_ic_ne {X : am_X} {cc : ByteArray} {own : String} {ret : Option FieldType} {Ts : List Cond} (F : am_F X cc own ret Ts) {pc tgt : Nat} {k k2 : am_C} {off : Int} (hd : decode cc pc = .ok (.if_icmp .ne off, 3)) (ht : (pc : Int) + off = (tgt : Int)) (hk : am_imp k (am_G X tgt)) (hk2 : am_imp k2 (am_G X (pc + 3))) : am_imp (o_ic_ne k k2) (am_G X pc) := by
  obtain ⟨p, l, e, R, s, m, args, below, meth, c, D, dA, ro, ad0, n0, nL, A, Q⟩ := X
  obtain ⟨hx, hb, hml, hown, hts, hK, hA, hE, htr, hlk, hrt, hWS⟩ := F
  intro ls st n E ca sl h ad H locs L h1 h2 h3 h4 h5 h6 h7 h8 h9 hca hsl
  unfold o_ic_ne o_ic at h
  split at h
  · rename_i y x r
    exact lv_icmp_ne hx hb hd ht (fun q => hk _ _ _ _ _ _ (by rw [if_pos q] at h; exact h) ad H locs L h1 h2 h3 (am_tl (am_tl h4)) h5 h6 h7 h8 h9 hca hsl) (fun q => hk2 _ _ _ _ _ _ (by rw [if_neg (fun z => z q)] at h; exact h) ad H locs L h1 h2 h3 (am_tl (am_tl h4)) h5 h6 h7 h8 h9 hca hsl)
  · exact h.elim
abbrev o_ic_lt (kt kf : am_C) : am_C := o_ic (fun x y => x < y) (fun _ _ => inferInstance) kt kf
theorem ms_ic_lt {X : am_X} {cc : ByteArray} {own : String} {ret : Option FieldType} {Ts : List Cond} (F : am_F X cc own ret Ts) {pc tgt : Nat} {k k2 : am_C} {off : Int} (hd : decode cc pc = .ok (.if_icmp .lt off, 3)) (ht : (pc : Int) + off = (tgt : Int)) (hk : am_imp k (am_G X tgt)) (hk2 : am_imp k2 (am_G X (pc + 3))) : am_imp (o_ic_lt k k2) (am_G X pc) := by
  obtain ⟨p, l, e, R, s, m, args, below, meth, c, D, dA, ro, ad0, n0, nL, A, Q⟩ := X
  obtain ⟨hx, hb, hml, hown, hts, hK, hA, hE, htr, hlk, hrt, hWS⟩ := F
  intro ls st n E ca sl h ad H locs L h1 h2 h3 h4 h5 h6 h7 h8 h9 hca hsl
  unfold o_ic_lt o_ic at h
  split at h
  · rename_i y x r
    exact lv_icmp_lt hx hb hd ht (fun q => hk _ _ _ _ _ _ (by rw [if_pos q] at h; exact h) ad H locs L h1 h2 h3 (am_tl (am_tl h4)) h5 h6 h7 h8 h9 hca hsl) (fun q => hk2 _ _ _ _ _ _ (by rw [if_neg q] at h; exact h) ad H locs L h1 h2 h3 (am_tl (am_tl h4)) h5 h6 h7 h8 h9 hca hsl)
  · exact h.elim
abbrev o_ic_ge (kt kf : am_C) : am_C := o_ic (fun x y => y ≤ x) (fun _ _ => inferInstance) kt kf
theorem ms_ic_ge {X : am_X} {cc : ByteArray} {own : String} {ret : Option FieldType} {Ts : List Cond} (F : am_F X cc own ret Ts) {pc tgt : Nat} {k k2 : am_C} {off : Int} (hd : decode cc pc = .ok (.if_icmp .ge off, 3)) (ht : (pc : Int) + off = (tgt : Int)) (hk : am_imp k (am_G X tgt)) (hk2 : am_imp k2 (am_G X (pc + 3))) : am_imp (o_ic_ge k k2) (am_G X pc) := by
  obtain ⟨p, l, e, R, s, m, args, below, meth, c, D, dA, ro, ad0, n0, nL, A, Q⟩ := X
  obtain ⟨hx, hb, hml, hown, hts, hK, hA, hE, htr, hlk, hrt, hWS⟩ := F
  intro ls st n E ca sl h ad H locs L h1 h2 h3 h4 h5 h6 h7 h8 h9 hca hsl
  unfold o_ic_ge o_ic at h
  split at h
  · rename_i y x r
    exact lv_icmp_ge hx hb hd ht (fun q => hk _ _ _ _ _ _ (by rw [if_pos q] at h; exact h) ad H locs L h1 h2 h3 (am_tl (am_tl h4)) h5 h6 h7 h8 h9 hca hsl) (fun q => hk2 _ _ _ _ _ _ (by rw [if_neg q] at h; exact h) ad H locs L h1 h2 h3 (am_tl (am_tl h4)) h5 h6 h7 h8 h9 hca hsl)
  · exact h.elim
abbrev o_ic_gt (kt kf : am_C) : am_C := o_ic (fun x y => y < x) (fun _ _ => inferInstance) kt kf
theorem ms_ic_gt {X : am_X} {cc : ByteArray} {own : String} {ret : Option FieldType} {Ts : List Cond} (F : am_F X cc own ret Ts) {pc tgt : Nat} {k k2 : am_C} {off : Int} (hd : decode cc pc = .ok (.if_icmp .gt off, 3)) (ht : (pc : Int) + off = (tgt : Int)) (hk : am_imp k (am_G X tgt)) (hk2 : am_imp k2 (am_G X (pc + 3))) : am_imp (o_ic_gt k k2) (am_G X pc) := by
  obtain ⟨p, l, e, R, s, m, args, below, meth, c, D, dA, ro, ad0, n0, nL, A, Q⟩ := X
  obtain ⟨hx, hb, hml, hown, hts, hK, hA, hE, htr, hlk, hrt, hWS⟩ := F
  intro ls st n E ca sl h ad H locs L h1 h2 h3 h4 h5 h6 h7 h8 h9 hca hsl
  unfold o_ic_gt o_ic at h
  split at h
  · rename_i y x r
    exact lv_icmp_gt hx hb hd ht (fun q => hk _ _ _ _ _ _ (by rw [if_pos q] at h; exact h) ad H locs L h1 h2 h3 (am_tl (am_tl h4)) h5 h6 h7 h8 h9 hca hsl) (fun q => hk2 _ _ _ _ _ _ (by rw [if_neg q] at h; exact h) ad H locs L h1 h2 h3 (am_tl (am_tl h4)) h5 h6 h7 h8 h9 hca hsl)
  · exact h.elim
abbrev o_ic_le (kt kf : am_C) : am_C := o_ic (fun x y => x ≤ y) (fun _ _ => inferInstance) kt kf
theorem ms_ic_le {X : am_X} {cc : ByteArray} {own : String} {ret : Option FieldType} {Ts : List Cond} (F : am_F X cc own ret Ts) {pc tgt : Nat} {k k2 : am_C} {off : Int} (hd : decode cc pc = .ok (.if_icmp .le off, 3)) (ht : (pc : Int) + off = (tgt : Int)) (hk : am_imp k (am_G X tgt)) (hk2 : am_imp k2 (am_G X (pc + 3))) : am_imp (o_ic_le k k2) (am_G X pc) := by
  obtain ⟨p, l, e, R, s, m, args, below, meth, c, D, dA, ro, ad0, n0, nL, A, Q⟩ := X
  obtain ⟨hx, hb, hml, hown, hts, hK, hA, hE, htr, hlk, hrt, hWS⟩ := F
  intro ls st n E ca sl h ad H locs L h1 h2 h3 h4 h5 h6 h7 h8 h9 hca hsl
  unfold o_ic_le o_ic at h
  split at h
  · rename_i y x r
    exact lv_icmp_le hx hb hd ht (fun q => hk _ _ _ _ _ _ (by rw [if_pos q] at h; exact h) ad H locs L h1 h2 h3 (am_tl (am_tl h4)) h5 h6 h7 h8 h9 hca hsl) (fun q => hk2 _ _ _ _ _ _ (by rw [if_neg q] at h; exact h) ad H locs L h1 h2 h3 (am_tl (am_tl h4)) h5 h6 h7 h8 h9 hca hsl)
  · exact h.elim
theorem ms_goto {X : am_X} {cc : ByteArray} {own : String} {ret : Option FieldType} {Ts : List Cond} (F : am_F X cc own ret Ts) {pc tgt : Nat} {k : am_C} {off : Int} (hd : decode cc pc = .ok (.goto off, 3)) (ht : (pc : Int) + off = (tgt : Int)) (hk : am_imp k (am_G X tgt)) : am_imp k (am_G X pc) := by
  obtain ⟨p, l, e, R, s, m, args, below, meth, c, D, dA, ro, ad0, n0, nL, A, Q⟩ := X
  obtain ⟨hx, hb, hml, hown, hts, hK, hA, hE, htr, hlk, hrt, hWS⟩ := F
  intro ls st n E ca sl h ad H locs L h1 h2 h3 h4 h5 h6 h7 h8 h9 hca hsl
  exact lv_goto hx hb hd ht (hk _ _ _ _ _ _ h ad H locs L h1 h2 h3 h4 h5 h6 h7 h8 h9 hca hsl)
/-! ===== the heap ===== -/
def am_fit (ty : FieldType) (v : Value) : Prop := ∀ ad ro : Nat → Nat, narrow ty (am_tr ad ro v) = am_tr ad ro v ∧ fits ty (am_tr ad ro v) = true
def o_getf (ci j : Nat) (k : am_C) : am_C := fun ls st n E ca sl => match st with
  | .ref a :: r => match E a with
    | some (.inr (c, fs)) => c = ci ∧ match fs[j]? with
      | some v => k ls (v :: r) n E ca sl
      | none => False
    | _ => False
  | _ => False
def o_putf (ci j : Nat) (ty : FieldType) (k : am_C) : am_C := fun ls st n E ca sl => match st with
  | v :: .ref a :: r => match E a with
    | some (.inr (c, fs)) => c = ci ∧ j < fs.length ∧ am_fit ty v ∧ k ls r n (am_u E a (.inr (ci, fs.set j v))) ca sl
    | _ => False
  | _ => False
theorem ms_getf {X : am_X} {cc : ByteArray} {own : String} {ret : Option FieldType} {Ts : List Cond} (F : am_F X cc own ret Ts) {pc : Nat} {k : am_C} {C : String} {T : u_T} {N ci j index : Nat} (hin : ∀ w ∈ u_ws C T N, w ∈ Ts) (hc : vwCl[ci]? = some (C, T, N)) (hj : j < N) (hw : Cond.fieldLink own index (T j).1 (T j).2.1 (T j).2.2.1 ∈ Ts) (hd : decode cc pc = .ok (.getfield index, 3)) (hk : am_imp k (am_G X (pc + 3))) : am_imp (o_getf ci j k) (am_G X pc) := by
  obtain ⟨p, l, e, R, s, m, args, below, meth, c, D, dA, ro, ad0, n0, nL, A, Q⟩ := X
  obtain ⟨hx, hb, hml, hown, hts, hK, hA, hE, htr, hlk, hrt, hWS⟩ := F
  intro ls st n E ca sl h ad H locs L h1 h2 h3 h4 h5 h6 h7 h8 h9 hca hsl
  unfold o_getf at h
  split at h
  · rename_i a r
    split at h
    · rename_i c fs he
      obtain ⟨rfl, h⟩ := h
      split at h
      · rename_i v hv
        obtain ⟨hlt, hle⟩ := (h3 a).2 _ he
        have hvm : v ∈ fs := List.mem_of_getElem? hv
        exact va_get hx hb hts hin hown hK h6 a (am_w_at hlt he) hc j hj (hts _ hw) (fun _ h9 => h9) (v := am_tr ad ro v) (by rw [List.getElem?_map, hv]; rfl) hd (hk _ _ _ _ _ _ h ad H locs L h1 h2 h3 (am_cs (hle v hvm) (am_tl h4)) h5 h6 h7 h8 h9 hca hsl)
      · exact h.elim
    · exact h.elim
  · exact h.elim
theorem ms_getfN {X : am_X} {cc : ByteArray} {own : String} {ret : Option FieldType} {Ts : List Cond} (F : am_F X cc own ret Ts) {pc : Nat} {k : am_C} {C : String} {T : u_T} {N ci j index : Nat} (hin : ∀ w ∈ u_ws C T N, w ∈ Ts) (hc : vwCl[ci]? = some (C, T, N)) (hj : j < N) {host : String} (hw : Cond.fieldLinkNest own index (T j).1 (T j).2.1 (T j).2.2.1 host ∈ am_NW) (hd : decode cc pc = .ok (.getfield index, 3)) (hk : am_imp k (am_G X (pc + 3))) : am_imp (o_getf ci j k) (am_G X pc) := by
  obtain ⟨p, l, e, R, s, m, args, below, meth, c, D, dA, ro, ad0, n0, nL, A, Q⟩ := X
  obtain ⟨hx, hb, hml, hown, hts, hK, hA, hE, htr, hlk, hrt, hWS⟩ := F
  intro ls st n E ca sl h ad H locs L h1 h2 h3 h4 h5 h6 h7 h8 h9 hca hsl
  unfold o_getf at h
  split at h
  · rename_i a r
    split at h
    · rename_i c fs he
      obtain ⟨rfl, h⟩ := h
      split at h
      · rename_i v hv
        obtain ⟨hlt, hle⟩ := (h3 a).2 _ he
        have hvm : v ∈ fs := List.mem_of_getElem? hv
        exact va_getN hx hb hts hin hown hK h6 a (am_w_at hlt he) hc j hj (am_nk_use (by exact (List.mem_filter.mp hw).2) (hE.1 _ hw)) (fun _ h9 => h9) (v := am_tr ad ro v) (by rw [List.getElem?_map, hv]; rfl) hd (hk _ _ _ _ _ _ h ad H locs L h1 h2 h3 (am_cs (hle v hvm) (am_tl h4)) h5 h6 h7 h8 h9 hca hsl)
      · exact h.elim
    · exact h.elim
  · exact h.elim
theorem ms_putf {X : am_X} {cc : ByteArray} {own : String} {ret : Option FieldType} {Ts : List Cond} (F : am_F X cc own ret Ts) {pc : Nat} {k : am_C} {C : String} {T : u_T} {N ci j index : Nat} {ty : FieldType} {ty0 : Nat → FieldType} (hin : ∀ w ∈ u_ws C T N, w ∈ Ts) (hc : vwCl[ci]? = some (C, T, N)) (hj : j < N) (hty : ∀ k, k < N → parseFieldDescriptor (T k).2.2.1 = some (ty0 k)) (hnm : ∀ a, a < N → ∀ b, b < N → a ≠ b → (T a).2.1 ≠ (T b).2.1) (hpd : parseFieldDescriptor (T j).2.2.1 = some ty) (hfin : (T j).2.2.2 = false) (hw : Cond.fieldLink own index (T j).1 (T j).2.1 (T j).2.2.1 ∈ Ts) (hd : decode cc pc = .ok (.putfield index, 3)) (hk : am_imp k (am_G X (pc + 3))) : am_imp (o_putf ci j ty k) (am_G X pc) := by
  obtain ⟨p, l, e, R, s, m, args, below, meth, c, D, dA, ro, ad0, n0, nL, A, Q⟩ := X
  obtain ⟨hx, hb, hml, hown, hts, hK, hA, hE, htr, hlk, hrt, hWS⟩ := F
  intro ls st n E ca sl h ad H locs L h1 h2 h3 h4 h5 h6 h7 h8 h9 hca hsl
  unfold o_putf at h
  split at h
  · rename_i v a r
    split at h
    · rename_i c fs he
      obtain ⟨rfl, hl, hf, h⟩ := h
      obtain ⟨hlt, hle⟩ := (h3 a).2 _ he
      have hle2 : am_le n (.inr (c, fs.set j v)) := fun w hw => (List.mem_or_eq_of_mem_set hw).elim (hle w) (fun q => by rw [q]; exact am_hd h4)
      have hset : ∀ x : Nat × va_E, x = (ad a, .inr (c, (fs.map (am_tr ad ro)).set j (am_tr ad ro v))) → x = (ad a, am_te dA ad ro (.inr (c, fs.set j v))) := by
        intro x hx9
        rw [hx9]
        show _ = (ad a, (.inr (c, (fs.set j v).map (am_tr ad ro)) : va_E))
        rw [List.map_set]
      exact va_put hx hb hts hin ty0 hty hnm hown hK h6 h7 h8 a (am_w_at hlt he) hc j hj (hts _ hw) (fun _ h9 => h9) hfin hpd (hf ad ro).1 (hf ad ro).2 (by rw [List.length_map]; exact hl) hd (fun H1 locs1 hP1 hD1 hS1 => by
        rw [hset _ rfl, am_w_set hlt] at hP1 hD1
        exact hk _ _ _ _ _ _ h ad H1 locs1 L h1 h2 (am_we_u h3 hlt hle2) (am_tl (am_tl h4)) h5 hP1 hD1 hS1 h9 hca hsl)
    · exact h.elim
  · exact h.elim
theorem ms_putfN {X : am_X} {cc : ByteArray} {own : String} {ret : Option FieldType} {Ts : List Cond} (F : am_F X cc own ret Ts) {pc : Nat} {k : am_C} {C : String} {T : u_T} {N ci j index : Nat} {ty : FieldType} {ty0 : Nat → FieldType} (hin : ∀ w ∈ u_ws C T N, w ∈ Ts) (hc : vwCl[ci]? = some (C, T, N)) (hj : j < N) (hty : ∀ k, k < N → parseFieldDescriptor (T k).2.2.1 = some (ty0 k)) (hnm : ∀ a, a < N → ∀ b, b < N → a ≠ b → (T a).2.1 ≠ (T b).2.1) (hpd : parseFieldDescriptor (T j).2.2.1 = some ty) (hfin : (T j).2.2.2 = false) {host : String} (hw : Cond.fieldLinkNest own index (T j).1 (T j).2.1 (T j).2.2.1 host ∈ am_NW) (hd : decode cc pc = .ok (.putfield index, 3)) (hk : am_imp k (am_G X (pc + 3))) : am_imp (o_putf ci j ty k) (am_G X pc) := by
  obtain ⟨p, l, e, R, s, m, args, below, meth, c, D, dA, ro, ad0, n0, nL, A, Q⟩ := X
  obtain ⟨hx, hb, hml, hown, hts, hK, hA, hE, htr, hlk, hrt, hWS⟩ := F
  intro ls st n E ca sl h ad H locs L h1 h2 h3 h4 h5 h6 h7 h8 h9 hca hsl
  unfold o_putf at h
  split at h
  · rename_i v a r
    split at h
    · rename_i c fs he
      obtain ⟨rfl, hl, hf, h⟩ := h
      obtain ⟨hlt, hle⟩ := (h3 a).2 _ he
      have hle2 : am_le n (.inr (c, fs.set j v)) := fun w hw => (List.mem_or_eq_of_mem_set hw).elim (hle w) (fun q => by rw [q]; exact am_hd h4)
      have hset : ∀ x : Nat × va_E, x = (ad a, .inr (c, (fs.map (am_tr ad ro)).set j (am_tr ad ro v))) → x = (ad a, am_te dA ad ro (.inr (c, fs.set j v))) := by
        intro x hx9
        rw [hx9]
        show _ = (ad a, (.inr (c, (fs.set j v).map (am_tr ad ro)) : va_E))
        rw [List.map_set]
      exact va_putN hx hb hts hin ty0 hty hnm hown hK h6 h7 h8 a (am_w_at hlt he) hc j hj (am_nk_use (by exact (List.mem_filter.mp hw).2) (hE.1 _ hw)) (fun _ h9 => h9) hfin hpd (hf ad ro).1 (hf ad ro).2 (by rw [List.length_map]; exact hl) hd (fun H1 locs1 hP1 hD1 hS1 => by
        rw [hset _ rfl, am_w_set hlt] at hP1 hD1
        exact hk _ _ _ _ _ _ h ad H1 locs1 L h1 h2 (am_we_u h3 hlt hle2) (am_tl (am_tl h4)) h5 hP1 hD1 hS1 h9 hca hsl)
    · exact h.elim
  · exact h.elim
theorem ms_putfF {X : am_X} {cc : ByteArray} {own : String} {ret : Option FieldType} {Ts : List Cond} (F : am_F X cc own ret Ts) {pc : Nat} {k : am_C} {C : String} {T : u_T} {N ci j index : Nat} {ty : FieldType} {ty0 : Nat → FieldType} (hin : ∀ w ∈ u_ws C T N, w ∈ Ts) (hc : vwCl[ci]? = some (C, T, N)) (hj : j < N) (hty : ∀ k, k < N → parseFieldDescriptor (T k).2.2.1 = some (ty0 k)) (hnm : ∀ a, a < N → ∀ b, b < N → a ≠ b → (T a).2.1 ≠ (T b).2.1) (hpd : parseFieldDescriptor (T j).2.2.1 = some ty) (hfin : (T j).2.2.2 = true) (hin2 : am_ini X) (hdecl : (T j).1 = own) (hw : Cond.fieldLink own index (T j).1 (T j).2.1 (T j).2.2.1 ∈ Ts) (hd : decode cc pc = .ok (.putfield index, 3)) (hk : am_imp k (am_G X (pc + 3))) : am_imp (o_putf ci j ty k) (am_G X pc) := by
  obtain ⟨p, l, e, R, s, m, args, below, meth, c, D, dA, ro, ad0, n0, nL, A, Q⟩ := X
  obtain ⟨hx, hb, hml, hown, hts, hK, hA, hE, htr, hlk, hrt, hWS⟩ := F
  intro ls st n E ca sl h ad H locs L h1 h2 h3 h4 h5 h6 h7 h8 h9 hca hsl
  unfold o_putf at h
  split at h
  · rename_i v a r
    split at h
    · rename_i c fs he
      obtain ⟨rfl, hl, hf, h⟩ := h
      obtain ⟨hlt, hle⟩ := (h3 a).2 _ he
      have hle2 : am_le n (.inr (c, fs.set j v)) := fun w hw => (List.mem_or_eq_of_mem_set hw).elim (hle w) (fun q => by rw [q]; exact am_hd h4)
      have hset : ∀ x : Nat × va_E, x = (ad a, .inr (c, (fs.map (am_tr ad ro)).set j (am_tr ad ro v))) → x = (ad a, am_te dA ad ro (.inr (c, fs.set j v))) := by
        intro x hx9
        rw [hx9]
        show _ = (ad a, (.inr (c, (fs.set j v).map (am_tr ad ro)) : va_E))
        rw [List.map_set]
      exact va_putF hx hb hts hin ty0 hty hnm hown hK h6 h7 h8 a (am_w_at hlt he) hc j hj (hts _ hw) (fun _ h9 => h9) hfin hin2 hdecl hpd (hf ad ro).1 (hf ad ro).2 (by rw [List.length_map]; exact hl) hd (fun H1 locs1 hP1 hD1 hS1 => by
        rw [hset _ rfl, am_w_set hlt] at hP1 hD1
        exact hk _ _ _ _ _ _ h ad H1 locs1 L h1 h2 (am_we_u h3 hlt hle2) (am_tl (am_tl h4)) h5 hP1 hD1 hS1 h9 hca hsl)
    · exact h.elim
  · exact h.elim
def o_ild (t : Nat) (k : am_C) : am_C := fun ls st n E ca sl => match st with
  | .int i :: .ref a :: r => match E a with
    | some (.inl (t', N, .inl f)) => t' = t ∧ vp_in i N ∧ k ls (.int (f i.toNatClampNeg) :: r) n E ca sl
    | _ => False
  | .int i :: .retAddr a :: r => (1 ≤ a ∧ a ≤ 5) ∧ vp_in i 4 ∧ (if a = 1 then t = 2 else t = 0) ∧ k ls (.int (am_xf a i.toNatClampNeg) :: r) n E ca sl
  | _ => False
def o_ist (t : Nat) (ty : FieldType) (k : am_C) : am_C := fun ls st n E ca sl => match st with
  | .int x :: .int i :: .ref a :: r => match E a with
    | some (.inl (t', N, .inl f)) => t' = t ∧ vp_in i N ∧ k ls r n (am_u E a (.inl (t, N, .inl (upd f i.toNatClampNeg (vp_nar ty x))))) ca sl
    | _ => False
  | _ => False
def o_lld (k : am_C) : am_C := fun ls st n E ca sl => match st with
  | .int i :: .ref a :: r => match E a with
    | some (.inl (t', N, .inr (.inl f))) => t' = 1 ∧ vp_in i N ∧ k ls (.long (f i.toNatClampNeg) :: r) n E ca sl
    | _ => False
  | _ => False
def o_lst (k : am_C) : am_C := fun ls st n E ca sl => match st with
  | .long x :: .int i :: .ref a :: r => match E a with
    | some (.inl (t', N, .inr (.inl f))) => t' = 1 ∧ vp_in i N ∧ k ls r n (am_u E a (.inl (1, N, .inr (.inl (vp_updL f i.toNatClampNeg x))))) ca sl
    | _ => False
  | _ => False
def o_dld (k : am_C) : am_C := fun ls st n E ca sl => match st with
  | .int i :: .ref a :: r => match E a with
    | some (.inl (t', N, .inr (.inr (.inr (.inl f))))) => t' = 4 ∧ vp_in i N ∧ k ls (.double (f i.toNatClampNeg) :: r) n E ca sl
    | _ => False
  | _ => False
def o_dst (k : am_C) : am_C := fun ls st n E ca sl => match st with
  | .double x :: .int i :: .ref a :: r => match E a with
    | some (.inl (t', N, .inr (.inr (.inr (.inl f))))) => t' = 4 ∧ vp_in i N ∧ k ls r n (am_u E a (.inl (4, N, .inr (.inr (.inr (.inl (vf_upd f i.toNatClampNeg x))))))) ca sl
    | _ => False
  | _ => False
def o_ald (t : Nat) (k : am_C) : am_C := fun ls st n E ca sl => match st with
  | .int i :: .ref a :: r => match E a with
    | some (.inl (t', N, .inr (.inr (.inr (.inr f))))) => t' = t ∧ vp_in i N ∧ k ls (va_rf (f i.toNatClampNeg) :: r) n E ca sl
    | _ => False
  | _ => False
def o_alen (k : am_C) : am_C := fun ls st n E ca sl => match st with
  | .ref a :: r => match E a with
    | some (.inl (t', N, _)) => t' < 10 ∧ k ls (.int (Int32.ofNat N) :: r) n E ca sl
    | _ => False
  | _ => False
theorem ms_iaload {X : am_X} {cc : ByteArray} {own : String} {ret : Option FieldType} {Ts : List Cond} (F : am_F X cc own ret Ts) {pc : Nat} {k : am_C} (hd : decode cc pc = .ok (.iaload, 1)) (hk : am_imp k (am_G X (pc + 1))) : am_imp (o_ild 0 k) (am_G X pc) := by
  obtain ⟨p, l, e, R, s, m, args, below, meth, c, D, dA, ro, ad0, n0, nL, A, Q⟩ := X
  obtain ⟨hx, hb, hml, hown, hts, hK, hA, hE, htr, hlk, hrt, hWS⟩ := F
  intro ls st n E ca sl h ad H locs L h1 h2 h3 h4 h5 h6 h7 h8 h9 hca hsl
  unfold o_ild at h
  split at h
  · rename_i i a r
    split at h
    · rename_i t' N f he
      obtain ⟨rfl, hin, h⟩ := h
      obtain ⟨hlt, hle⟩ := (h3 a).2 _ he
      exact va_iald hx hb hK h6 a 0 (am_w_at hlt he) rfl hin hd (hk _ _ _ _ _ _ h ad H locs L h1 h2 h3 (am_cs trivial (am_tl (am_tl h4))) h5 h6 h7 h8 h9 hca hsl)
    · exact h.elim
  · rename_i i a r
    obtain ⟨⟨ha1, ha2⟩, hin, hk9, h⟩ := h
    obtain ⟨-, -, -, -, x1, x2, x3, x4, x5, -⟩ := hE
    rcases (show a = 1 ∨ a = 2 ∨ a = 3 ∨ a = 4 ∨ a = 5 by omega) with rfl | rfl | rfl | rfl | rfl
    · simp at hk9
    · exact va_ti hx hb x2.2 h8 hin rfl hd (hk _ _ _ _ _ _ h ad H locs L h1 h2 h3 (am_cs trivial (am_tl (am_tl h4))) h5 h6 h7 h8 h9 hca hsl)
    · exact va_ti hx hb x3.2 h8 hin rfl hd (hk _ _ _ _ _ _ h ad H locs L h1 h2 h3 (am_cs trivial (am_tl (am_tl h4))) h5 h6 h7 h8 h9 hca hsl)
    · exact va_ti hx hb x4.2 h8 hin rfl hd (hk _ _ _ _ _ _ h ad H locs L h1 h2 h3 (am_cs trivial (am_tl (am_tl h4))) h5 h6 h7 h8 h9 hca hsl)
    · exact va_ti hx hb x5.2 h8 hin rfl hd (hk _ _ _ _ _ _ h ad H locs L h1 h2 h3 (am_cs trivial (am_tl (am_tl h4))) h5 h6 h7 h8 h9 hca hsl)
  · exact h.elim
theorem ms_caload {X : am_X} {cc : ByteArray} {own : String} {ret : Option FieldType} {Ts : List Cond} (F : am_F X cc own ret Ts) {pc : Nat} {k : am_C} (hd : decode cc pc = .ok (.caload, 1)) (hk : am_imp k (am_G X (pc + 1))) : am_imp (o_ild 2 k) (am_G X pc) := by
  obtain ⟨p, l, e, R, s, m, args, below, meth, c, D, dA, ro, ad0, n0, nL, A, Q⟩ := X
  obtain ⟨hx, hb, hml, hown, hts, hK, hA, hE, htr, hlk, hrt, hWS⟩ := F
  intro ls st n E ca sl h ad H locs L h1 h2 h3 h4 h5 h6 h7 h8 h9 hca hsl
  unfold o_ild at h
  split at h
  · rename_i i a r
    split at h
    · rename_i t' N f he
      obtain ⟨rfl, hin, h⟩ := h
      obtain ⟨hlt, hle⟩ := (h3 a).2 _ he
      exact va_cald hx hb hK h6 a 2 (am_w_at hlt he) rfl hin hd (hk _ _ _ _ _ _ h ad H locs L h1 h2 h3 (am_cs trivial (am_tl (am_tl h4))) h5 h6 h7 h8 h9 hca hsl)
    · exact h.elim
  · rename_i i a r
    obtain ⟨⟨ha1, ha2⟩, hin, hk9, h⟩ := h
    obtain ⟨-, -, -, -, x1, x2, x3, x4, x5, -⟩ := hE
    rcases (show a = 1 ∨ a = 2 ∨ a = 3 ∨ a = 4 ∨ a = 5 by omega) with rfl | rfl | rfl | rfl | rfl
    · exact va_tc hx hb x1.2 h8 hin rfl hd (hk _ _ _ _ _ _ h ad H locs L h1 h2 h3 (am_cs trivial (am_tl (am_tl h4))) h5 h6 h7 h8 h9 hca hsl)
    · simp at hk9
    · simp at hk9
    · simp at hk9
    · simp at hk9
  · exact h.elim
theorem ms_baload {X : am_X} {cc : ByteArray} {own : String} {ret : Option FieldType} {Ts : List Cond} (F : am_F X cc own ret Ts) {pc : Nat} {k : am_C} (hd : decode cc pc = .ok (.baload, 1)) (hk : am_imp k (am_G X (pc + 1))) : am_imp (o_ild 3 k) (am_G X pc) := by
  obtain ⟨p, l, e, R, s, m, args, below, meth, c, D, dA, ro, ad0, n0, nL, A, Q⟩ := X
  obtain ⟨hx, hb, hml, hown, hts, hK, hA, hE, htr, hlk, hrt, hWS⟩ := F
  intro ls st n E ca sl h ad H locs L h1 h2 h3 h4 h5 h6 h7 h8 h9 hca hsl
  unfold o_ild at h
  split at h
  · rename_i i a r
    split at h
    · rename_i t' N f he
      obtain ⟨rfl, hin, h⟩ := h
      obtain ⟨hlt, hle⟩ := (h3 a).2 _ he
      exact va_zald hx hb hK h6 a 3 (am_w_at hlt he) rfl hin hd (hk _ _ _ _ _ _ h ad H locs L h1 h2 h3 (am_cs trivial (am_tl (am_tl h4))) h5 h6 h7 h8 h9 hca hsl)
    · exact h.elim
  · rename_i i a r
    obtain ⟨⟨ha1, ha2⟩, hin, hk9, h⟩ := h
    obtain ⟨-, -, -, -, x1, x2, x3, x4, x5, -⟩ := hE
    rcases (show a = 1 ∨ a = 2 ∨ a = 3 ∨ a = 4 ∨ a = 5 by omega) with rfl | rfl | rfl | rfl | rfl
    · simp at hk9
    · simp at hk9
    · simp at hk9
    · simp at hk9
    · simp at hk9
  · exact h.elim
theorem ms_iastore {X : am_X} {cc : ByteArray} {own : String} {ret : Option FieldType} {Ts : List Cond} (F : am_F X cc own ret Ts) {pc : Nat} {k : am_C} (hd : decode cc pc = .ok (.iastore, 1)) (hk : am_imp k (am_G X (pc + 1))) : am_imp (o_ist 0 .int k) (am_G X pc) := by
  obtain ⟨p, l, e, R, s, m, args, below, meth, c, D, dA, ro, ad0, n0, nL, A, Q⟩ := X
  obtain ⟨hx, hb, hml, hown, hts, hK, hA, hE, htr, hlk, hrt, hWS⟩ := F
  intro ls st n E ca sl h ad H locs L h1 h2 h3 h4 h5 h6 h7 h8 h9 hca hsl
  unfold o_ist at h
  split at h
  · rename_i x i a r
    split at h
    · rename_i t' N f he
      obtain ⟨rfl, hin, h⟩ := h
      obtain ⟨hlt, hle⟩ := (h3 a).2 _ he
      rw [show vp_nar .int x = x from rfl] at h
      exact va_iast hx hb hK h6 h7 h8 a 0 (am_w_at hlt he) rfl hin hd (fun H1 locs1 hP1 hD1 hS1 => by
        have hz := am_w_set (dA := dA) (ad := ad) (ro := ro) (E := E) (e := .inl (0, N, .inl (upd f i.toNatClampNeg x))) hlt
        exact hk _ _ _ _ _ _ h ad H1 locs1 L h1 h2 (am_we_u h3 hlt trivial) (am_tl (am_tl (am_tl h4))) h5 (hz ▸ hP1) (hz ▸ hD1) hS1 h9 hca hsl)
    · exact h.elim
  · exact h.elim
theorem ms_castore {X : am_X} {cc : ByteArray} {own : String} {ret : Option FieldType} {Ts : List Cond} (F : am_F X cc own ret Ts) {pc : Nat} {k : am_C} (hd : decode cc pc = .ok (.castore, 1)) (hk : am_imp k (am_G X (pc + 1))) : am_imp (o_ist 2 .char k) (am_G X pc) := by
  obtain ⟨p, l, e, R, s, m, args, below, meth, c, D, dA, ro, ad0, n0, nL, A, Q⟩ := X
  obtain ⟨hx, hb, hml, hown, hts, hK, hA, hE, htr, hlk, hrt, hWS⟩ := F
  intro ls st n E ca sl h ad H locs L h1 h2 h3 h4 h5 h6 h7 h8 h9 hca hsl
  unfold o_ist at h
  split at h
  · rename_i x i a r
    split at h
    · rename_i t' N f he
      obtain ⟨rfl, hin, h⟩ := h
      obtain ⟨hlt, hle⟩ := (h3 a).2 _ he
      exact va_cast hx hb hK h6 h7 h8 a 2 (am_w_at hlt he) rfl hin hd (fun H1 locs1 hP1 hD1 hS1 => by
        have hz := am_w_set (dA := dA) (ad := ad) (ro := ro) (E := E) (e := .inl (2, N, .inl (upd f i.toNatClampNeg (vp_nar .char x)))) hlt
        exact hk _ _ _ _ _ _ h ad H1 locs1 L h1 h2 (am_we_u h3 hlt trivial) (am_tl (am_tl (am_tl h4))) h5 (hz ▸ hP1) (hz ▸ hD1) hS1 h9 hca hsl)
    · exact h.elim
  · exact h.elim
theorem ms_bastore {X : am_X} {cc : ByteArray} {own : String} {ret : Option FieldType} {Ts : List Cond} (F : am_F X cc own ret Ts) {pc : Nat} {k : am_C} (hd : decode cc pc = .ok (.bastore, 1)) (hk : am_imp k (am_G X (pc + 1))) : am_imp (o_ist 3 .boolean k) (am_G X pc) := by
  obtain ⟨p, l, e, R, s, m, args, below, meth, c, D, dA, ro, ad0, n0, nL, A, Q⟩ := X
  obtain ⟨hx, hb, hml, hown, hts, hK, hA, hE, htr, hlk, hrt, hWS⟩ := F
  intro ls st n E ca sl h ad H locs L h1 h2 h3 h4 h5 h6 h7 h8 h9 hca hsl
  unfold o_ist at h
  split at h
  · rename_i x i a r
    split at h
    · rename_i t' N f he
      obtain ⟨rfl, hin, h⟩ := h
      obtain ⟨hlt, hle⟩ := (h3 a).2 _ he
      exact va_zast hx hb hK h6 h7 h8 a 3 (am_w_at hlt he) rfl hin hd (fun H1 locs1 hP1 hD1 hS1 => by
        have hz := am_w_set (dA := dA) (ad := ad) (ro := ro) (E := E) (e := .inl (3, N, .inl (upd f i.toNatClampNeg (vp_nar .boolean x)))) hlt
        exact hk _ _ _ _ _ _ h ad H1 locs1 L h1 h2 (am_we_u h3 hlt trivial) (am_tl (am_tl (am_tl h4))) h5 (hz ▸ hP1) (hz ▸ hD1) hS1 h9 hca hsl)
    · exact h.elim
  · exact h.elim
theorem ms_laload {X : am_X} {cc : ByteArray} {own : String} {ret : Option FieldType} {Ts : List Cond} (F : am_F X cc own ret Ts) {pc : Nat} {k : am_C} (hd : decode cc pc = .ok (.laload, 1)) (hk : am_imp k (am_G X (pc + 1))) : am_imp (o_lld k) (am_G X pc) := by
  obtain ⟨p, l, e, R, s, m, args, below, meth, c, D, dA, ro, ad0, n0, nL, A, Q⟩ := X
  obtain ⟨hx, hb, hml, hown, hts, hK, hA, hE, htr, hlk, hrt, hWS⟩ := F
  intro ls st n E ca sl h ad H locs L h1 h2 h3 h4 h5 h6 h7 h8 h9 hca hsl
  unfold o_lld at h
  split at h
  · rename_i i a r
    split at h
    · rename_i t' N f he
      obtain ⟨rfl, hin, h⟩ := h
      obtain ⟨hlt, hle⟩ := (h3 a).2 _ he
      exact va_lald hx hb hK h6 a 1 (am_w_at hlt he) rfl hin hd (hk _ _ _ _ _ _ h ad H locs L h1 h2 h3 (am_cs trivial (am_tl (am_tl h4))) h5 h6 h7 h8 h9 hca hsl)
    · exact h.elim
  · exact h.elim
theorem ms_daload {X : am_X} {cc : ByteArray} {own : String} {ret : Option FieldType} {Ts : List Cond} (F : am_F X cc own ret Ts) {pc : Nat} {k : am_C} (hd : decode cc pc = .ok (.daload, 1)) (hk : am_imp k (am_G X (pc + 1))) : am_imp (o_dld k) (am_G X pc) := by
  obtain ⟨p, l, e, R, s, m, args, below, meth, c, D, dA, ro, ad0, n0, nL, A, Q⟩ := X
  obtain ⟨hx, hb, hml, hown, hts, hK, hA, hE, htr, hlk, hrt, hWS⟩ := F
  intro ls st n E ca sl h ad H locs L h1 h2 h3 h4 h5 h6 h7 h8 h9 hca hsl
  unfold o_dld at h
  split at h
  · rename_i i a r
    split at h
    · rename_i t' N f he
      obtain ⟨rfl, hin, h⟩ := h
      obtain ⟨hlt, hle⟩ := (h3 a).2 _ he
      exact va_dald hx hb hK h6 a 4 (am_w_at hlt he) rfl hin hd (hk _ _ _ _ _ _ h ad H locs L h1 h2 h3 (am_cs trivial (am_tl (am_tl h4))) h5 h6 h7 h8 h9 hca hsl)
    · exact h.elim
  · exact h.elim
theorem ms_lastore {X : am_X} {cc : ByteArray} {own : String} {ret : Option FieldType} {Ts : List Cond} (F : am_F X cc own ret Ts) {pc : Nat} {k : am_C} (hd : decode cc pc = .ok (.lastore, 1)) (hk : am_imp k (am_G X (pc + 1))) : am_imp (o_lst k) (am_G X pc) := by
  obtain ⟨p, l, e, R, s, m, args, below, meth, c, D, dA, ro, ad0, n0, nL, A, Q⟩ := X
  obtain ⟨hx, hb, hml, hown, hts, hK, hA, hE, htr, hlk, hrt, hWS⟩ := F
  intro ls st n E ca sl h ad H locs L h1 h2 h3 h4 h5 h6 h7 h8 h9 hca hsl
  unfold o_lst at h
  split at h
  · rename_i x i a r
    split at h
    · rename_i t' N f he
      obtain ⟨rfl, hin, h⟩ := h
      obtain ⟨hlt, hle⟩ := (h3 a).2 _ he
      exact va_last hx hb hK h6 h7 h8 a 1 (am_w_at hlt he) rfl hin hd (fun H1 locs1 hP1 hD1 hS1 => by
        have hz := am_w_set (dA := dA) (ad := ad) (ro := ro) (E := E) (e := .inl (1, N, .inr (.inl (vp_updL f i.toNatClampNeg x)))) hlt
        exact hk _ _ _ _ _ _ h ad H1 locs1 L h1 h2 (am_we_u h3 hlt trivial) (am_tl (am_tl (am_tl h4))) h5 (hz ▸ hP1) (hz ▸ hD1) hS1 h9 hca hsl)
    · exact h.elim
  · exact h.elim
theorem ms_dastore {X : am_X} {cc : ByteArray} {own : String} {ret : Option FieldType} {Ts : List Cond} (F : am_F X cc own ret Ts) {pc : Nat} {k : am_C} (hd : decode cc pc = .ok (.dastore, 1)) (hk : am_imp k (am_G X (pc + 1))) : am_imp (o_dst k) (am_G X pc) := by
  obtain ⟨p, l, e, R, s, m, args, below, meth, c, D, dA, ro, ad0, n0, nL, A, Q⟩ := X
  obtain ⟨hx, hb, hml, hown, hts, hK, hA, hE, htr, hlk, hrt, hWS⟩ := F
  intro ls st n E ca sl h ad H locs L h1 h2 h3 h4 h5 h6 h7 h8 h9 hca hsl
  unfold o_dst at h
  split at h
  · rename_i x i a r
    split at h
    · rename_i t' N f he
      obtain ⟨rfl, hin, h⟩ := h
      obtain ⟨hlt, hle⟩ := (h3 a).2 _ he
      exact va_dast hx hb hK h6 h7 h8 a 4 (am_w_at hlt he) rfl hin hd (fun H1 locs1 hP1 hD1 hS1 => by
        have hz := am_w_set (dA := dA) (ad := ad) (ro := ro) (E := E) (e := .inl (4, N, .inr (.inr (.inr (.inl (vf_upd f i.toNatClampNeg x)))))) hlt
        exact hk _ _ _ _ _ _ h ad H1 locs1 L h1 h2 (am_we_u h3 hlt trivial) (am_tl (am_tl (am_tl h4))) h5 (hz ▸ hP1) (hz ▸ hD1) hS1 h9 hca hsl)
    · exact h.elim
  · exact h.elim
theorem ms_aaload {X : am_X} {cc : ByteArray} {own : String} {ret : Option FieldType} {Ts : List Cond} (F : am_F X cc own ret Ts) {pc : Nat} {k : am_C} {t : Nat} {ty : FieldType} (ht : t = 5 ∧ ty = .object "LeadlightHall$Pane" ∨ t = 6 ∧ ty = .object "LeadlightHall$Sheet" ∨ t = 7 ∧ ty = .array .char ∨ t = 8 ∧ ty = .array .boolean ∨ t = 9 ∧ ty = .array .int) (hd : decode cc pc = .ok (.aaload, 1)) (hk : am_imp k (am_G X (pc + 1))) : am_imp (o_ald t k) (am_G X pc) := by
  obtain ⟨p, l, e, R, s, m, args, below, meth, c, D, dA, ro, ad0, n0, nL, A, Q⟩ := X
  obtain ⟨hx, hb, hml, hown, hts, hK, hA, hE, htr, hlk, hrt, hWS⟩ := F
  intro ls st n E ca sl h ad H locs L h1 h2 h3 h4 h5 h6 h7 h8 h9 hca hsl
  unfold o_ald at h
  split at h
  · rename_i i a r
    split at h
    · rename_i t' N f he
      obtain ⟨rfl, hin, h⟩ := h
      obtain ⟨hlt, hle⟩ := (h3 a).2 _ he
      have hlt2 : i.toNatClampNeg < N := Nat.not_le.mp fun q => hin (Or.inr q)
      have hrf : am_tr ad ro (va_rf (f i.toNatClampNeg)) = va_rf ((f i.toNatClampNeg).map ad) := by cases f i.toNatClampNeg <;> rfl
      have hvl : am_lt n (va_rf (f i.toNatClampNeg)) := by
        cases hf : f i.toNatClampNeg with
        | none => trivial
        | some b => exact hle _ b hf
      have ht9 : (am_tys dA)[t']? = some (dA t', ty) := by rcases ht with ⟨rfl, rfl⟩ | ⟨rfl, rfl⟩ | ⟨rfl, rfl⟩ | ⟨rfl, rfl⟩ | ⟨rfl, rfl⟩ <;> rfl
      have kk := hk _ _ _ _ _ _ h ad H locs L h1 h2 h3 (am_cs hvl (am_tl (am_tl h4))) h5 h6 h7 h8 h9 hca hsl
      rw [List.map_cons, hrf] at kk
      have hcell := h6 a _ (am_w_at hlt he)
      have harr := ((hK.2 t' _ ht9).1 N (fun j => va_rf ((f j).map ad)))
      have hsl9 : (arrV (dA t') N (fun j => va_rf ((f j).map ad))).slots[i.toNatClampNeg]? = some (va_rf ((f i.toNatClampNeg).map ad)) := by rw [arrV_read _ _ hlt2]
      rcases ht with ⟨rfl, rfl⟩ | ⟨rfl, rfl⟩ | ⟨rfl, rfl⟩ | ⟨rfl, rfl⟩ | ⟨rfl, rfl⟩ <;> exact W.aald (v := va_rf ((f i.toNatClampNeg).map ad)) hx hb hcell harr rfl (fun q => by cases q) (by show ¬ (i < 0 ∨ (arrV _ _ _).slots.size ≤ _); rw [arrV_size]; exact hin) hsl9 rfl rfl hd kk
    · exact h.elim
  · exact h.elim
theorem ms_alen {X : am_X} {cc : ByteArray} {own : String} {ret : Option FieldType} {Ts : List Cond} (F : am_F X cc own ret Ts) {pc : Nat} {k : am_C} (hd : decode cc pc = .ok (.arraylength, 1)) (hk : am_imp k (am_G X (pc + 1))) : am_imp (o_alen k) (am_G X pc) := by
  obtain ⟨p, l, e, R, s, m, args, below, meth, c, D, dA, ro, ad0, n0, nL, A, Q⟩ := X
  obtain ⟨hx, hb, hml, hown, hts, hK, hA, hE, htr, hlk, hrt, hWS⟩ := F
  intro ls st n E ca sl h ad H locs L h1 h2 h3 h4 h5 h6 h7 h8 h9 hca hsl
  unfold o_alen at h
  split at h
  · rename_i a r
    split at h
    · rename_i t' N x he
      obtain ⟨ht, h⟩ := h
      obtain ⟨hlt, hle⟩ := (h3 a).2 _ he
      have hall : ∀ t : Nat, t < 10 → ∃ ty, (am_tys dA)[t]? = some (dA t, ty) := by
        intro t ht
        rcases (show t = 0 ∨ t = 1 ∨ t = 2 ∨ t = 3 ∨ t = 4 ∨ t = 5 ∨ t = 6 ∨ t = 7 ∨ t = 8 ∨ t = 9 by omega) with rfl | rfl | rfl | rfl | rfl | rfl | rfl | rfl | rfl | rfl <;> exact ⟨_, rfl⟩
      obtain ⟨ty, hty⟩ := hall t' ht
      exact va_alen hx hb hK h6 a t' (am_w_at hlt he) hty rfl hd (hk _ _ _ _ _ _ h ad H locs L h1 h2 h3 (am_cs trivial (am_tl h4)) h5 h6 h7 h8 h9 hca hsl)
    · exact h.elim
  · exact h.elim
