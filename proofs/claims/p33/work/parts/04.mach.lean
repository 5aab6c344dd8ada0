/-! ===== the abstract machine: values and memory with logical addresses ===== -/
abbrev am_E : Type := Nat → Option va_E
abbrev am_L : Type := List (Option Value)
abbrev am_C : Type := am_L → List Value → Nat → am_E → Nat → Nat → Prop
abbrev am_O : Type := Option Value ⊕ String
abbrev am_P : Type := am_O → Nat → am_E → Prop
abbrev am_S : Type := List Value → Nat → am_E → am_P → Prop
def am_u (E : am_E) (k : Nat) (e : va_E) : am_E := fun j => if j = k then some e else E j
def am_tr (ad ro : Nat → Nat) (v : Value) : Value := match v with
  | .ref k => .ref (ad k)
  | .retAddr k => .ref (ro k)
  | .int x => .int x
  | .long x => .long x
  | .float x => .float x
  | .double x => .double x
  | .null => .null
def am_lt (n : Nat) (v : Value) : Prop := match v with
  | .ref k => k < n
  | _ => True
def am_ta (ad : Nat → Nat) (a : vp_A) : vp_A := (a.1, match a.2 with
  | .inl f => .inl f
  | .inr (.inl f) => .inr (.inl f)
  | .inr (.inr (.inl f)) => .inr (.inr (.inl f))
  | .inr (.inr (.inr (.inl f))) => .inr (.inr (.inr (.inl f)))
  | .inr (.inr (.inr (.inr f))) => .inr (.inr (.inr (.inr (fun j => (f j).map ad)))))
def am_te (dA : Nat → Nat) (ad ro : Nat → Nat) (e : va_E) : va_E := match e with
  | .inl (t, a) => .inl (dA t, am_ta ad a)
  | .inr (c, fs) => .inr (c, fs.map (am_tr ad ro))
def am_la (n : Nat) (a : vp_A) : Prop := match a.2 with
  | .inr (.inr (.inr (.inr f))) => ∀ (j k : Nat), f j = some k → k < n
  | _ => True
def am_le (n : Nat) (e : va_E) : Prop := match e with
  | .inl (_, a) => am_la n a
  | .inr (_, fs) => ∀ v ∈ fs, am_lt n v
def am_we (n : Nat) (E : am_E) : Prop := ∀ k : Nat, (k < n → (E k).isSome = true) ∧ ∀ e : va_E, E k = some e → k < n ∧ am_le n e
def am_w (dA : Nat → Nat) (ad ro : Nat → Nat) (n : Nat) (E : am_E) : va_W := (List.range n).map (fun k => (ad k, am_te dA ad ro ((E k).getD (.inr (0, [])))))
def am_has (ad ro : Nat → Nat) (nL : Nat) (L : Array Slot) (ls : am_L) : Prop := L.size = nL ∧ lv_wf L ∧ ∀ (i : Nat) (v : Value), ls[i]? = some (some v) → L[i]? = some (.val (am_tr ad ro v))
theorem am_w_at {dA ad ro : Nat → Nat} {n k : Nat} {E : am_E} {e : va_E} (h : k < n) (he : E k = some e) : (am_w dA ad ro n E)[k]? = some (ad k, am_te dA ad ro e) := by
  simp [am_w, h, he]
theorem am_w_len {dA ad ro : Nat → Nat} {n : Nat} {E : am_E} : (am_w dA ad ro n E).length = n := by simp [am_w]
theorem am_w_set {dA ad ro : Nat → Nat} {n k : Nat} {E : am_E} {e : va_E} (h : k < n) : (am_w dA ad ro n E).set k (ad k, am_te dA ad ro e) = am_w dA ad ro n (am_u E k e) := by
  apply List.ext_getElem?
  intro j
  by_cases hj : j = k
  · subst hj
    rw [List.getElem?_set_self (by rw [am_w_len]; exact h), am_w_at h (e := e) (by simp [am_u])]
  · rw [List.getElem?_set_ne (Ne.symm hj)]
    by_cases hn : j < n
    · simp [am_w, am_u, hj, hn]
    · simp [am_w, am_u, hn]
theorem am_tr_cat (ad ro : Nat → Nat) (v : Value) : (am_tr ad ro v).category = v.category := by cases v <;> rfl
theorem am_tr_cg {ad ad' ro : Nat → Nat} {n : Nat} {v : Value} (h : am_lt n v) (ha : ∀ k, k < n → ad' k = ad k) : am_tr ad' ro v = am_tr ad ro v := by
  cases v with
  | ref k => exact congrArg Value.ref (ha k h)
  | _ => rfl
theorem am_st_cg {ad ad' ro : Nat → Nat} {n : Nat} {st : List Value} (h : ∀ v ∈ st, am_lt n v) (ha : ∀ k, k < n → ad' k = ad k) : st.map (am_tr ad' ro) = st.map (am_tr ad ro) :=
  List.map_congr_left fun v hv => am_tr_cg (h v hv) ha
theorem am_te_cg {dA ad ad' ro : Nat → Nat} {n : Nat} {e : va_E} (h : am_le n e) (ha : ∀ k, k < n → ad' k = ad k) : am_te dA ad' ro e = am_te dA ad ro e := by
  cases e with
  | inl x =>
    obtain ⟨t, N, f | f | f | f | f⟩ := x
    · rfl
    · rfl
    · rfl
    · rfl
    · have h9 : (fun j => (f j).map ad') = (fun j => (f j).map ad) := by
        funext j
        cases hf : f j with
        | none => rfl
        | some k => exact congrArg some (ha k (h j k hf))
      show (Sum.inl (dA t, (N, Sum.inr (Sum.inr (Sum.inr (Sum.inr (fun j => (f j).map ad')))))) : va_E) = _
      rw [h9]
      rfl
  | inr x =>
    obtain ⟨c, fs⟩ := x
    show (Sum.inr (c, fs.map (am_tr ad' ro)) : va_E) = Sum.inr (c, fs.map (am_tr ad ro))
    rw [am_st_cg h ha]
theorem am_has_cg {ad ad' ro : Nat → Nat} {n nL : Nat} {L : Array Slot} {ls : am_L} (h : am_has ad ro nL L ls) (hl : ∀ v, some v ∈ ls → am_lt n v) (ha : ∀ k, k < n → ad' k = ad k) : am_has ad' ro nL L ls :=
  ⟨h.1, h.2.1, fun i v hv => by rw [h.2.2 i v hv, am_tr_cg (hl v (List.mem_of_getElem? hv)) ha]⟩
theorem am_lt_mono {n n' : Nat} (h : n ≤ n') {v : Value} (hv : am_lt n v) : am_lt n' v := by
  cases v with
  | ref k => exact Nat.lt_of_lt_of_le hv h
  | _ => trivial
theorem am_le_mono {n n' : Nat} (h : n ≤ n') {e : va_E} (he : am_le n e) : am_le n' e := by
  cases e with
  | inl x =>
    obtain ⟨t, N, f | f | f | f | f⟩ := x
    · trivial
    · trivial
    · trivial
    · trivial
    · exact fun j k hf => Nat.lt_of_lt_of_le (he j k hf) h
  | inr x => exact fun v hv => am_lt_mono h (he v hv)
theorem am_we_u {n k : Nat} {E : am_E} {e : va_E} (h : am_we n E) (hk : k < n) (he : am_le n e) : am_we n (am_u E k e) := by
  intro j
  by_cases hj : j = k
  · subst hj
    refine ⟨fun _ => by simp [am_u], fun e' h' => ?_⟩
    simp [am_u] at h'
    subst h'
    exact ⟨hk, he⟩
  · simpa [am_u, hj] using h j
theorem am_we_push {n : Nat} {E : am_E} {e : va_E} (h : am_we n E) (he : am_le (n + 1) e) : am_we (n + 1) (am_u E n e) := by
  intro j
  by_cases hj : j = n
  · subst hj
    refine ⟨fun _ => by simp [am_u], fun e' h' => ?_⟩
    simp [am_u] at h'
    subst h'
    exact ⟨Nat.lt_succ_self _, he⟩
  · refine ⟨fun h1 => ?_, fun e' h' => ?_⟩
    · simpa [am_u, hj] using (h j).1 (by omega)
    · have h2 := (h j).2 e' (by simpa [am_u, hj] using h')
      exact ⟨by omega, am_le_mono (Nat.le_succ n) h2.2⟩
def am_up (ad : Nat → Nat) (n q : Nat) : Nat → Nat := fun k => if k = n then q else ad k
theorem am_up_lt {ad : Nat → Nat} {n q : Nat} : ∀ k, k < n → am_up ad n q k = ad k := fun k h => by simp [am_up, Nat.ne_of_lt h]
theorem am_up_eq {ad : Nat → Nat} {n q : Nat} : am_up ad n q n = q := by simp [am_up]
theorem am_w_push {dA ad ro : Nat → Nat} {n q : Nat} {E : am_E} {e : va_E} (h : am_we n E) : am_w dA (am_up ad n q) ro (n + 1) (am_u E n e) = am_w dA ad ro n E ++ [(q, am_te dA (am_up ad n q) ro e)] := by
  unfold am_w
  rw [List.range_succ, List.map_append]
  congr 1
  · apply List.map_congr_left
    intro k hk
    have hk : k < n := List.mem_range.mp hk
    obtain ⟨e', he⟩ := Option.isSome_iff_exists.mp ((h k).1 hk)
    have h1 : am_u E n e k = E k := by simp [am_u, Nat.ne_of_lt hk]
    rw [h1, he, am_up_lt k hk]
    show (ad k, am_te dA (am_up ad n q) ro e') = (ad k, am_te dA ad ro e')
    rw [am_te_cg ((h k).2 e' he).2 am_up_lt]
  · simp [am_u, am_up_eq]
theorem am_cs {n : Nat} {w : Value} {r : List Value} (hw : am_lt n w) (h : ∀ v ∈ r, am_lt n v) : ∀ v ∈ w :: r, am_lt n v := fun v hv => (List.mem_cons.mp hv).elim (fun e => e ▸ hw) (h v)
theorem am_tl {n : Nat} {w : Value} {r : List Value} (h : ∀ v ∈ w :: r, am_lt n v) : ∀ v ∈ r, am_lt n v := fun v hv => h v (List.mem_cons_of_mem _ hv)
theorem am_hd {n : Nat} {w : Value} {r : List Value} (h : ∀ v ∈ w :: r, am_lt n v) : am_lt n w := h w List.mem_cons_self
/-! the array types of this claim; the tables' good words -/
def am_tys (dA : Nat → Nat) : List (ClassId × FieldType) := [(dA 0, .int), (dA 1, .long), (dA 2, .char), (dA 3, .boolean), (dA 4, .double), (dA 5, .object "LeadlightHall$Pane"), (dA 6, .object "LeadlightHall$Sheet"), (dA 7, .array .char), (dA 8, .array .boolean), (dA 9, .array .int)]
def am_WS : List Cond := lw_tbl.filter goodWord
theorem am_in {w : Cond} (h : w ∈ lw_tbl) (g : goodWord w = true) : w ∈ am_WS := List.mem_filter.mpr ⟨h, g⟩
theorem am_intb {w : Cond} (h : w ∈ tables_1) : w ∈ lw_tbl := List.mem_append_right _ h
theorem am_tb1 {w : Cond} (h : w ∈ tables_1_1) : w ∈ lw_tbl := am_intb (am_t1 h)
theorem am_tb2 {w : Cond} (h : w ∈ tables_1_2) : w ∈ lw_tbl := am_intb (am_t2 h)
theorem am_tb3 {w : Cond} (h : w ∈ tables_1_3) : w ∈ lw_tbl := am_intb (am_t3 h)
theorem am_tb4 {w : Cond} (h : w ∈ tables_1_4) : w ∈ lw_tbl := am_intb (am_t4 h)
theorem am_tb5 {w : Cond} (h : w ∈ tables_1_5) : w ∈ lw_tbl := am_intb (am_t5 h)
theorem am_tb6 {w : Cond} (h : w ∈ tables_1_6) : w ∈ lw_tbl := am_intb (am_t6 h)
theorem am_tb7 {w : Cond} (h : w ∈ tables_1_7) : w ∈ lw_tbl := am_intb (am_t7 h)
/-! the other words: they speak of the tables alone, and stay as these grow -/
def am_nk : Cond → Bool
  | .fieldLinkNest .. | .methodLinkNest .. | .castable .. | .declares _ => true
  | _ => false
def am_NW : List Cond := tables_1.filter am_nk
theorem am_nk_warm {w : Cond} (g : am_nk w = true) {s U : State} (hW : s.WarmedH U.vm) (h : va_Nw w s) : va_Nw w U := by
  cases w <;> first | (cases g; done) | exact va_Nw.warmF hW h | exact va_Nw.warmM hW h | exact va_Nw.warmC hW h | exact va_Nw.warmD hW h
theorem am_nk_same {w : Cond} (g : am_nk w = true) {s U : State} (hv : s.vm = U.vm) (h : va_Nw w s) : va_Nw w U := by
  cases w <;> first | (cases g; done) | exact va_Nw.same rfl hv h
theorem am_nk_use {w : Cond} (g : am_nk w = true) {A : Array Value} {U : State} (h : va_Nw w U) : w.before A U = true := by
  cases w <;> first | (cases g; done) | exact va_Nw.use rfl h
theorem am_nk_of {w : Cond} (g : am_nk w = true) {A : Array Value} {U : State} (h : w.before A U = true) : va_Nw w U := by
  cases w <;> first | (cases g; done) | exact va_Nw.of rfl h
def am_SR : List (String × Nat × String) := [("LeadlightHall", 426, "there are no such cells"), ("LeadlightHall", 94, "there is glass, or the window is up"), ("LeadlightHall", 417, "there is no such number of a piece"), ("LeadlightHall", 118, "no cell is open"), ("LeadlightHall", 424, "there is no such cell"), ("LeadlightHall", 147, "no lead can be"), ("LeadlightHall", 154, "all numbers have cells"), ("LeadlightHall", 189, "there is no such sheet"), ("LeadlightHall", 192, "there are 8 sheets"), ("LeadlightHall", 204, "there is no such colour, or no such streaks"), ("LeadlightHall", 217, "it can't be cut out of this sheet"), ("LeadlightHall", 230, "it is nowhere free, or the window is up"), ("LeadlightHall", 428, "it has no glass"), ("LeadlightHall", 260, "there is no such kind"), ("LeadlightHall", 269, "it can't have this layer"), ("LeadlightHall", 274, "it has 5 layers"), ("LeadlightHall", 284, "there is no such firing"), ("LeadlightHall", 289, "one has no glass, or is leaded, or the window is up"), ("LeadlightHall", 294, "there is no such letter"), ("LeadlightHall", 303, "there is no such z"), ("LeadlightHall", 430, "none can come"), ("LeadlightHall", 318, "it can't be soldered"), ("LeadlightHall", 320, "there can be no bar"), ("LeadlightHall", 329, "there is no such profile"), ("LeadlightHall", 331, "the window is up"), ("LeadlightHall", 336, "there is no such wind"), ("LeadlightHall", 347, "so many years can't go by"), ("LeadlightHall", 349, "it would be above 2000"), ("LeadlightHall", 351, "there is no such hour"), ("LeadlightHall", 365, "the window is not up"), ("LeadlightHall", 370, "it is not broken"), ("LeadlightHall", 379, "it is not broken, or too old"), ("LeadlightHall", 381, "it is nowhere free"), ("LeadlightHall", 407, "there are no pieces"), ("LeadlightHallModel", 214, "tmse")]
def am_NC : List (String × String) := [("LeadlightHall", "java/lang/IllegalArgumentException"), ("LeadlightHall", "java/lang/IllegalStateException"), ("LeadlightHall", "java/lang/IndexOutOfBoundsException"), ("LeadlightHall", "java/lang/UnsupportedOperationException"), ("LeadlightHall", "java/util/NoSuchElementException"), ("LeadlightHall$Frame", "java/lang/IllegalArgumentException"), ("LeadlightHall$Frame", "java/lang/IllegalStateException"), ("LeadlightHall$Frame", "java/lang/IndexOutOfBoundsException"), ("LeadlightHall$Frame", "java/lang/UnsupportedOperationException"), ("LeadlightHall$Frame", "java/util/NoSuchElementException"), ("LeadlightHall$Paint", "java/lang/IllegalArgumentException"), ("LeadlightHall$Paint", "java/lang/IllegalStateException"), ("LeadlightHall$Paint", "java/lang/IndexOutOfBoundsException"), ("LeadlightHall$Paint", "java/lang/UnsupportedOperationException"), ("LeadlightHall$Paint", "java/util/NoSuchElementException"), ("LeadlightHall$Pane", "java/lang/IllegalArgumentException"), ("LeadlightHall$Pane", "java/lang/IllegalStateException"), ("LeadlightHall$Pane", "java/lang/IndexOutOfBoundsException"), ("LeadlightHall$Pane", "java/lang/UnsupportedOperationException"), ("LeadlightHall$Pane", "java/util/NoSuchElementException"), ("LeadlightHall$Shape", "java/lang/IllegalArgumentException"), ("LeadlightHall$Shape", "java/lang/IllegalStateException"), ("LeadlightHall$Shape", "java/lang/IndexOutOfBoundsException"), ("LeadlightHall$Shape", "java/lang/UnsupportedOperationException"), ("LeadlightHall$Shape", "java/util/NoSuchElementException"), ("LeadlightHall$Sheet", "java/lang/IllegalArgumentException"), ("LeadlightHall$Sheet", "java/lang/IllegalStateException"), ("LeadlightHall$Sheet", "java/lang/IndexOutOfBoundsException"), ("LeadlightHall$Sheet", "java/lang/UnsupportedOperationException"), ("LeadlightHall$Sheet", "java/util/NoSuchElementException"), ("LeadlightHall$Wall", "java/lang/IllegalArgumentException"), ("LeadlightHall$Wall", "java/lang/IllegalStateException"), ("LeadlightHall$Wall", "java/lang/IndexOutOfBoundsException"), ("LeadlightHall$Wall", "java/lang/UnsupportedOperationException"), ("LeadlightHall$Wall", "java/util/NoSuchElementException"), ("LeadlightHall$YearSet", "java/lang/IllegalArgumentException"), ("LeadlightHall$YearSet", "java/lang/IllegalStateException"), ("LeadlightHall$YearSet", "java/lang/IndexOutOfBoundsException"), ("LeadlightHall$YearSet", "java/lang/UnsupportedOperationException"), ("LeadlightHall$YearSet", "java/util/NoSuchElementException"), ("LeadlightHallModel", "java/lang/IllegalArgumentException"), ("LeadlightHallModel", "java/lang/IllegalStateException"), ("LeadlightHallModel", "java/lang/IndexOutOfBoundsException"), ("LeadlightHallModel", "java/lang/UnsupportedOperationException"), ("LeadlightHallModel", "java/util/NoSuchElementException"), ("java/lang/IllegalArgumentException", "java/lang/IllegalStateException"), ("java/lang/IllegalArgumentException", "java/lang/IndexOutOfBoundsException"), ("java/lang/IllegalArgumentException", "java/lang/UnsupportedOperationException"), ("java/lang/IllegalArgumentException", "java/util/NoSuchElementException"), ("java/lang/IllegalStateException", "java/lang/IllegalArgumentException"), ("java/lang/IllegalStateException", "java/lang/IndexOutOfBoundsException"), ("java/lang/IllegalStateException", "java/lang/UnsupportedOperationException"), ("java/lang/IllegalStateException", "java/util/NoSuchElementException"), ("java/lang/IndexOutOfBoundsException", "java/lang/IllegalArgumentException"), ("java/lang/IndexOutOfBoundsException", "java/lang/IllegalStateException"), ("java/lang/IndexOutOfBoundsException", "java/lang/UnsupportedOperationException"), ("java/lang/IndexOutOfBoundsException", "java/util/NoSuchElementException"), ("java/lang/UnsupportedOperationException", "java/lang/IllegalArgumentException"), ("java/lang/UnsupportedOperationException", "java/lang/IllegalStateException"), ("java/lang/UnsupportedOperationException", "java/lang/IndexOutOfBoundsException"), ("java/lang/UnsupportedOperationException", "java/util/NoSuchElementException"), ("java/util/NoSuchElementException", "java/lang/IllegalArgumentException"), ("java/util/NoSuchElementException", "java/lang/IllegalStateException"), ("java/util/NoSuchElementException", "java/lang/IndexOutOfBoundsException"), ("java/util/NoSuchElementException", "java/lang/UnsupportedOperationException")]
abbrev am_KN : Nat := 214
