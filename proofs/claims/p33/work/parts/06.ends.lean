def am_Rm (X : am_X) (rm : Room) : Prop := match X with
  | (_, _, _, R, _, _, _, _, _, _, _, _, _, _, _, _, _, _) => R = rm
def am_noT (X : am_X) : Prop := match X with
  | (_, _, _, _, _, _, _, _, _, c, _, _, _, _, _, _, _, _) => ∀ x ∈ c.exceptionTable.toList, False
/-! ===== new cells ===== -/
theorem am_tyA {s : State} {D : va_G} {dA : Nat → Nat} {tys' : List (ClassId × FieldType)} {t : Nat} {cA : ClassId} {ty : FieldType} (hK : va_K D vwCl (am_tys dA) s) (ht : (am_tys dA)[t]? = some (dA t, ty)) (hK' : va_K D vwCl tys' s) (j : Nat) (ht' : tys'[j]? = some (cA, ty)) : cA = dA t := by
  have h1 := (hK.2 t _ ht).2
  have h2 := (hK'.2 j _ ht').2
  cases ty with
  | object C =>
    obtain ⟨k1, c1, -, -, -, e1⟩ := h1
    obtain ⟨k2, c2, -, -, -, e2⟩ := h2
    exact Option.some.inj (e2.symm.trans e1)
  | _ => exact Option.some.inj (h2.symm.trans h1)
theorem am_K0 {s : State} {D : va_G} {dA : Nat → Nat} {tys' : List (ClassId × FieldType)} (hK : va_K D vwCl (am_tys dA ++ tys') s) : va_K D vwCl (am_tys dA) s := ⟨hK.1, fun k q hk => hK.2 k q (by rw [List.getElem?_append_left (List.getElem?_eq_some_iff.mp hk).1]; exact hk)⟩
def o_new (ci : Nat) (fs : List Value) (mc ms : Nat) (k : am_C) : am_C := fun ls st n E ca sl => (ca + 1 ≤ mc ∧ sl + fs.length ≤ ms) ∧ k ls (.ref n :: st) (n + 1) (am_u E n (.inr (ci, fs))) (ca + 1) (sl + fs.length)
theorem ms_new {X : am_X} {cc : ByteArray} {own : String} {ret : Option FieldType} {Ts : List Cond} (F : am_F X cc own ret Ts) {pc : Nat} {k : am_C} {rm : Room} (hR : am_Rm X rm) {C : String} {T : u_T} {N ci index : Nat} {ty : Nat → FieldType} {fs : List Value} (hin : ∀ w ∈ u_ws C T N, w ∈ Ts) (hty : ∀ k, k < N → parseFieldDescriptor (T k).2.2.1 = some (ty k)) (hw : Cond.classLink own index C ∈ Ts) (hi : Cond.instantiable C N ∈ Ts) (hini : Cond.initialized C ∈ Ts) (hc : vwCl[ci]? = some (C, T, N)) (hfs : ∀ j, j < N → defaultValue (ty j) = vp_V fs j) (hN : fs.length = N) (hz : ∀ v ∈ fs, v = .null ∨ (∃ x, v = .int x) ∨ ∃ x, v = .long x) (hd : decode cc pc = .ok (.new index, 3)) (hk : am_imp k (am_G X (pc + 3))) : am_imp (o_new ci fs rm.cells rm.slots k) (am_G X pc) := by
  obtain ⟨p, l, e, R, s, m, args, below, meth, c, D, dA, ro, ad0, n0, nL, A, Q⟩ := X
  obtain ⟨hx, hb, hml, hown, hts, hK, hA, hE, htr, hlk, hrt, hWS⟩ := F
  intro ls st n E ca sl h ad H locs L h1 h2 h3 h4 h5 h6 h7 h8 h9 hca hsl
  have hR : R = rm := hR
  subst hR
  obtain ⟨⟨hc1, hs1⟩, h⟩ := h
  have hz2 : ∀ ad' : Nat → Nat, fs.map (am_tr ad' ro) = fs := fun ad' => by
    conv => rhs; rw [← List.map_id fs]
    apply List.map_congr_left
    intro v hv
    rcases hz v hv with rfl | ⟨x, rfl⟩ | ⟨x, rfl⟩ <;> rfl
  have hle : am_le (n + 1) (.inr (ci, fs)) := fun v hv => by rcases hz v hv with rfl | ⟨x, rfl⟩ | ⟨x, rfl⟩ <;> trivial
  refine va_new (fs := fs) hx hb hts hin ty hty hown (hts _ hw) (hts _ hi) (hts _ hini) hK h6 h7 h8 hA hc hfs hc1 (by rw [← hN]; exact hs1) hd (fun q H1 hP1 hD1 hS1 => ?_)
  have e1 : am_w dA (am_up ad n q) ro (n + 1) (am_u E n (.inr (ci, fs))) = am_w dA ad ro n E ++ [(q, .inr (ci, fs))] := by
    rw [am_w_push h3]
    show am_w dA ad ro n E ++ [(q, (.inr (ci, fs.map (am_tr (am_up ad n q) ro)) : va_E))] = _
    rw [hz2]
  have g := hk _ _ _ _ _ _ h (am_up ad n q) H1 locs L (fun k hk => by rw [am_up_lt k (by omega)]; exact h1 k hk) (by omega) (am_we_push h3 hle) (am_cs (Nat.lt_succ_self n) (fun v hv => am_lt_mono (Nat.le_succ n) (h4 v hv))) (fun v hv => am_lt_mono (Nat.le_succ n) (h5 v hv)) (by rw [e1]; exact hP1) (by rw [e1]; exact hD1) hS1 (am_has_cg h9 h5 am_up_lt) hc1 hs1
  rw [List.map_cons, am_st_cg h4 am_up_lt] at g
  rw [← hN]
  have e2 : am_tr (am_up ad n q) ro (.ref n) = .ref q := congrArg Value.ref am_up_eq
  rw [e2] at g
  exact g
/-- the element types that newarray makes here: their zeros -/
def am_z (t N : Nat) : vp_A := match t with
  | 1 => (N, .inr (.inl (fun _ => 0)))
  | 4 => (N, .inr (.inr (.inr (.inl (fun _ => 0)))))
  | 5 => (N, .inr (.inr (.inr (.inr (fun _ => none)))))
  | 6 => (N, .inr (.inr (.inr (.inr (fun _ => none)))))
  | _ => (N, .inl (fun _ => 0))
def o_newa (t : Nat) (mc ms : Nat) (k : am_C) : am_C := fun ls st n E ca sl => match st with
  | .int i :: r => ¬ i < 0 ∧ i.toNatClampNeg * 8 ≤ 536870912 ∧ (ca + 1 ≤ mc ∧ sl + i.toNatClampNeg ≤ ms) ∧ k ls (.ref n :: r) (n + 1) (am_u E n (.inl (t, am_z t i.toNatClampNeg))) (ca + 1) (sl + i.toNatClampNeg)
  | _ => False
theorem ms_newa {X : am_X} {cc : ByteArray} {own : String} {ret : Option FieldType} {Ts : List Cond} (F : am_F X cc own ret Ts) {pc : Nat} {k : am_C} {rm : Room} (hR : am_Rm X rm) {t : Nat} {atype : ArrayType} (ht : t = 0 ∧ atype = .int ∨ t = 1 ∧ atype = .long ∨ t = 2 ∧ atype = .char ∨ t = 3 ∧ atype = .boolean ∨ t = 4 ∧ atype = .double) (hw : Cond.arrayClass (newarray.typeOf atype) ∈ Ts) (hd : decode cc pc = .ok (.newarray atype, 2)) (hk : am_imp k (am_G X (pc + 2))) : am_imp (o_newa t rm.cells rm.slots k) (am_G X pc) := by
  obtain ⟨p, l, e, R, s, m, args, below, meth, c, D, dA, ro, ad0, n0, nL, A, Q⟩ := X
  obtain ⟨hx, hb, hml, hown, hts, hK, hA, hE, htr, hlk, hrt, hWS⟩ := F
  intro ls st n E ca sl h ad H locs L h1 h2 h3 h4 h5 h6 h7 h8 h9 hca hsl
  have hR : R = rm := hR
  subst hR
  unfold o_newa at h
  split at h
  · rename_i i r
    obtain ⟨hn, hbb, ⟨hc1, hs1⟩, h⟩ := h
    have hle : am_le (n + 1) (.inl (t, am_z t i.toNatClampNeg)) := by rcases ht with ⟨rfl, -⟩ | ⟨rfl, -⟩ | ⟨rfl, -⟩ | ⟨rfl, -⟩ | ⟨rfl, -⟩ <;> trivial
    have hta : ∀ ad' : Nat → Nat, am_te dA ad' ro (.inl (t, am_z t i.toNatClampNeg)) = .inl (dA t, am_z t i.toNatClampNeg) := fun ad' => by rcases ht with ⟨rfl, -⟩ | ⟨rfl, -⟩ | ⟨rfl, -⟩ | ⟨rfl, -⟩ | ⟨rfl, -⟩ <;> rfl
    have htt : (am_tys dA)[t]? = some (dA t, newarray.typeOf atype) := by rcases ht with ⟨rfl, rfl⟩ | ⟨rfl, rfl⟩ | ⟨rfl, rfl⟩ | ⟨rfl, rfl⟩ | ⟨rfl, rfl⟩ <;> rfl
    have hbytes : i.toNatClampNeg * componentBytes (newarray.typeOf atype) ≤ 536870912 := by
      refine Nat.le_trans (Nat.mul_le_mul_left _ ?_) hbb
      rcases ht with ⟨-, rfl⟩ | ⟨-, rfl⟩ | ⟨-, rfl⟩ | ⟨-, rfl⟩ | ⟨-, rfl⟩ <;> decide
    refine va_newa (a0 := am_z t i.toNatClampNeg) hx hb (hts _ hw) rfl hK h6 h7 h8 hA (fun cA => by rcases ht with ⟨rfl, rfl⟩ | ⟨rfl, rfl⟩ | ⟨rfl, rfl⟩ | ⟨rfl, rfl⟩ | ⟨rfl, rfl⟩ <;> rfl) hn rfl hbytes hc1 hs1 hd (fun q cA H1 hK1 hP1 hD1 hS1 => ?_)
    have hcA : cA = dA t := am_tyA hK htt hK1 10 rfl
    subst hcA
    have e1 : am_w dA (am_up ad n q) ro (n + 1) (am_u E n (.inl (t, am_z t i.toNatClampNeg))) = am_w dA ad ro n E ++ [(q, .inl (dA t, am_z t i.toNatClampNeg))] := by
      rw [am_w_push h3, hta]
    have h4r : ∀ v ∈ r, am_lt n v := am_tl h4
    have g := hk _ _ _ _ _ _ h (am_up ad n q) H1 locs L (fun k hk => by rw [am_up_lt k (by omega)]; exact h1 k hk) (by omega) (am_we_push h3 hle) (am_cs (Nat.lt_succ_self n) (fun v hv => am_lt_mono (Nat.le_succ n) (h4r v hv))) (fun v hv => am_lt_mono (Nat.le_succ n) (h5 v hv)) (by rw [e1]; exact hP1) (by rw [e1]; exact hD1) hS1 (am_has_cg h9 h5 am_up_lt) hc1 hs1
    rw [List.map_cons, am_st_cg h4r am_up_lt] at g
    have e2 : am_tr (am_up ad n q) ro (.ref n) = .ref q := congrArg Value.ref am_up_eq
    rw [e2] at g
    exact g
  · exact h.elim
theorem ms_newq {X : am_X} {cc : ByteArray} {own : String} {ret : Option FieldType} {Ts : List Cond} (F : am_F X cc own ret Ts) {pc : Nat} {k : am_C} {rm : Room} (hR : am_Rm X rm) {t index : Nat} {C : String} (ht : t = 5 ∧ C = "LeadlightHall$Pane" ∨ t = 6 ∧ C = "LeadlightHall$Sheet") (hw : Cond.classLink own index C ∈ Ts) (hd : decode cc pc = .ok (.anewarray index, 3)) (hk : am_imp k (am_G X (pc + 3))) : am_imp (o_newa t rm.cells rm.slots k) (am_G X pc) := by
  obtain ⟨p, l, e, R, s, m, args, below, meth, c, D, dA, ro, ad0, n0, nL, A, Q⟩ := X
  obtain ⟨hx, hb, hml, hown, hts, hK, hA, hE, htr, hlk, hrt, hWS⟩ := F
  intro ls st n E ca sl h ad H locs L h1 h2 h3 h4 h5 h6 h7 h8 h9 hca hsl
  have hR : R = rm := hR
  subst hR
  unfold o_newa at h
  split at h
  · rename_i i r
    obtain ⟨hn, hbb, ⟨hc1, hs1⟩, h⟩ := h
    have hover : va_AO C s := by
      obtain ⟨-, -, ⟨a1, a2, -⟩, -⟩ := hE
      rcases ht with ⟨-, rfl⟩ | ⟨-, rfl⟩
      · exact a1
      · exact a2
    have hle : am_le (n + 1) (.inl (t, am_z t i.toNatClampNeg)) := by rcases ht with ⟨rfl, -⟩ | ⟨rfl, -⟩ <;> exact fun j k hk => by cases hk
    have hta : ∀ ad' : Nat → Nat, am_te dA ad' ro (.inl (t, am_z t i.toNatClampNeg)) = .inl (dA t, am_z t i.toNatClampNeg) := fun ad' => by rcases ht with ⟨rfl, -⟩ | ⟨rfl, -⟩ <;> rfl
    have htt : (am_tys dA)[t]? = some (dA t, .object C) := by rcases ht with ⟨rfl, rfl⟩ | ⟨rfl, rfl⟩ <;> rfl
    refine va_newq hx hb hown (hts _ hw) hover hK h6 h7 h8 hA hn rfl (by omega) hc1 hs1 hd (fun q cA H1 hK1 hP1 hD1 hS1 => ?_)
    have hcA : cA = dA t := am_tyA hK htt hK1 10 rfl
    subst hcA
    have hzz : am_z t i.toNatClampNeg = (i.toNatClampNeg, .inr (.inr (.inr (.inr (fun _ => none))))) := by rcases ht with ⟨rfl, -⟩ | ⟨rfl, -⟩ <;> rfl
    have e1 : am_w dA (am_up ad n q) ro (n + 1) (am_u E n (.inl (t, am_z t i.toNatClampNeg))) = am_w dA ad ro n E ++ [(q, .inl (dA t, (i.toNatClampNeg, .inr (.inr (.inr (.inr (fun _ => none)))))))] := by
      rw [am_w_push h3, hta, hzz]
    have h4r : ∀ v ∈ r, am_lt n v := am_tl h4
    have g := hk _ _ _ _ _ _ h (am_up ad n q) H1 locs L (fun k hk => by rw [am_up_lt k (by omega)]; exact h1 k hk) (by omega) (am_we_push h3 hle) (am_cs (Nat.lt_succ_self n) (fun v hv => am_lt_mono (Nat.le_succ n) (h4r v hv))) (fun v hv => am_lt_mono (Nat.le_succ n) (h5 v hv)) (by rw [e1]; exact hP1) (by rw [e1]; exact hD1) hS1 (am_has_cg h9 h5 am_up_lt) hc1 hs1
    rw [List.map_cons, am_st_cg h4r am_up_lt] at g
    have e2 : am_tr (am_up ad n q) ro (.ref n) = .ref q := congrArg Value.ref am_up_eq
    rw [e2] at g
    exact g
  · exact h.elim
/-- an object into an array of such -/
def o_ast (t ci : Nat) (k : am_C) : am_C := fun ls st n E ca sl => match st with
  | .ref b :: .int i :: .ref a :: r => match E a with
    | some (.inl (t', N, .inr (.inr (.inr (.inr f))))) => t' = t ∧ vp_in i N ∧ (match E b with
      | some (.inr (c, _)) => c = ci
      | _ => False) ∧ k ls r n (am_u E a (.inl (t, N, .inr (.inr (.inr (.inr (va_up f i.toNatClampNeg (some b)))))))) ca sl
    | _ => False
  | _ => False
theorem am_up_map {f : Nat → Option Nat} {ad : Nat → Nat} {i b : Nat} : (fun j => (va_up f i (some b) j).map ad) = va_up (fun j => (f j).map ad) i (some (ad b)) := by
  funext j
  by_cases h : j = i
  · subst h
    simp [va_up]
  · simp [va_up, h]
theorem ms_aastore {X : am_X} {cc : ByteArray} {own : String} {ret : Option FieldType} {Ts : List Cond} (F : am_F X cc own ret Ts) {pc : Nat} {k : am_C} {t ci : Nat} {r9 : vw_C} (ht : t = 5 ∧ r9.1 = "LeadlightHall$Pane" ∨ t = 6 ∧ r9.1 = "LeadlightHall$Sheet") (hc : vwCl[ci]? = some r9) (hd : decode cc pc = .ok (.aastore, 1)) (hk : am_imp k (am_G X (pc + 1))) : am_imp (o_ast t ci k) (am_G X pc) := by
  obtain ⟨p, l, e, R, s, m, args, below, meth, c, D, dA, ro, ad0, n0, nL, A, Q⟩ := X
  obtain ⟨hx, hb, hml, hown, hts, hK, hA, hE, htr, hlk, hrt, hWS⟩ := F
  intro ls st n E ca sl h ad H locs L h1 h2 h3 h4 h5 h6 h7 h8 h9 hca hsl
  unfold o_ast at h
  split at h
  · rename_i b i a r
    split at h
    · rename_i t' N f he
      obtain ⟨rfl, hin, hbc, h⟩ := h
      obtain ⟨hlt, hle⟩ := (h3 a).2 _ he
      have hle : ∀ (j k : Nat), f j = some k → k < n := hle
      split at hbc
      · rename_i cb vs hbe
        subst hbc
        obtain ⟨hltb, hleb⟩ := (h3 b).2 _ hbe
        have htt : (am_tys dA)[t']? = some (dA t', .object r9.1) := by rcases ht with ⟨rfl, q⟩ | ⟨rfl, q⟩ <;> (rw [q]; rfl)
        have hle2 : am_le n (.inl (t', N, .inr (.inr (.inr (.inr (va_up f i.toNatClampNeg (some b))))))) := by
          intro j k hk
          by_cases hj : j = i.toNatClampNeg
          · simp [va_up, hj] at hk
            omega
          · simp [va_up, hj] at hk
            exact hle j k hk
        have hz := am_w_set (dA := dA) (ad := ad) (ro := ro) (E := E) (e := .inl (t', N, .inr (.inr (.inr (.inr (va_up f i.toNatClampNeg (some b))))))) hlt
        have hz2 : am_te dA ad ro (.inl (t', N, .inr (.inr (.inr (.inr (va_up f i.toNatClampNeg (some b))))))) = .inl (dA t', N, .inr (.inr (.inr (.inr (va_up (fun j => (f j).map ad) i.toNatClampNeg (some (ad b))))))) := by
          show (Sum.inl (dA t', (N, Sum.inr (Sum.inr (Sum.inr (Sum.inr (fun j => (va_up f i.toNatClampNeg (some b) j).map ad)))))) : va_E) = _
          rw [am_up_map]
        rw [hz2] at hz
        exact va_astq hx hb hK h6 h7 h8 a t' b cb (am_w_at hlt he) htt (am_w_at hltb hbe) hc hin hd (fun H1 locs1 hP1 hD1 hS1 => hk _ _ _ _ _ _ h ad H1 locs1 L h1 h2 (am_we_u h3 hlt hle2) (am_tl (am_tl (am_tl h4))) h5 (hz ▸ hP1) (hz ▸ hD1) hS1 h9 hca hsl)
      · exact hbc.elim
    · exact h.elim
  · exact h.elim
/-- Object's own constructor -/
def o_oinit (k : am_C) : am_C := fun ls st n E ca sl => match st with
  | .ref _ :: r => (r.map fun v => v.category).sum ≤ 8 ∧ k ls r n E ca sl
  | _ => False
theorem am_cats (ad ro : Nat → Nat) (r : List Value) : ((r.map (am_tr ad ro)).map fun v => v.category).sum = (r.map fun v => v.category).sum := by
  rw [List.map_map]
  congr 1
  exact List.map_congr_left fun v _ => am_tr_cat ad ro v
theorem ms_oinit {X : am_X} {cc : ByteArray} {own : String} {ret : Option FieldType} {Ts : List Cond} (F : am_F X cc own ret Ts) {pc index : Nat} {k : am_C} {rm : Room} (hR : am_Rm X rm) (hf : 1 ≤ rm.frames) (hlo : 20 ≤ rm.locals) (hw : Cond.methodLink own index Lib.objectInit ∈ Ts) (hi : Cond.instanceMethod Lib.objectInit ∈ Ts) (hc : Cond.code Lib.objectInit ⟨#[0xb1]⟩ 1 none ∈ Ts) (hd : decode cc pc = .ok (.invokespecial index, 3)) (hk : am_imp k (am_G X (pc + 3))) : am_imp (o_oinit k) (am_G X pc) := by
  obtain ⟨p, l, e, R, s, m, args, below, meth, c, D, dA, ro, ad0, n0, nL, A, Q⟩ := X
  obtain ⟨hx, hb, hml, hown, hts, hK, hA, hE, htr, hlk, hrt, hWS⟩ := F
  intro ls st n E ca sl h ad H locs L h1 h2 h3 h4 h5 h6 h7 h8 h9 hca hsl
  have hR : R = rm := hR
  subst hR
  unfold o_oinit at h
  split at h
  · rename_i b r
    obtain ⟨hcat, h⟩ := h
    refine W.objInit (g := F0 m pc L ((Value.ref b :: r).map (am_tr ad ro))) hx hb hown (hts _ hw) (hts _ hi) (hts _ hc) rfl (by rw [hml]; exact h9.1) rfl hd hf ?_ ?_
    · have h0 := lv_room (m := m) (pc := pc) (ls := L) (rest := r.map (am_tr ad ro)) (st := r.map (am_tr ad ro)) (by rw [am_cats]; exact hcat)
      have e0 : (F0 m pc L ((Value.ref b :: r).map (am_tr ad ro))).monitorRoom = (F0 m pc L (r.map (am_tr ad ro))).monitorRoom := rfl
      rw [e0]
      omega
    · exact hk _ _ _ _ _ _ h ad H locs L h1 h2 h3 (am_tl h4) h5 h6 h7 h8 h9 hca hsl
  · exact h.elim
/-! ===== the ends ===== -/
def o_iret (ty : FieldType) (K : am_P) : am_C := fun _ st n E _ _ => match st with
  | [.int v] => narrow ty (.int v) = .int v ∧ K (.inl (some (.int v))) n E
  | _ => False
def o_lret (K : am_P) : am_C := fun _ st n E _ _ => match st with
  | [.long v] => K (.inl (some (.long v))) n E
  | _ => False
def o_fret (K : am_P) : am_C := fun _ st n E _ _ => match st with
  | [.float v] => K (.inl (some (.float v))) n E
  | _ => False
def o_dret (K : am_P) : am_C := fun _ st n E _ _ => match st with
  | [.double v] => K (.inl (some (.double v))) n E
  | _ => False
def o_aret (K : am_P) : am_C := fun _ st n E _ _ => match st with
  | [.ref v] => K (.inl (some (.ref v))) n E
  | _ => False
def o_vret (K : am_P) : am_C := fun _ st n E _ _ => match st with
  | [] => K (.inl none) n E
  | _ => False
theorem am_qc {D : va_G} {dA ro ad ad0 : Nat → Nat} {n n0 : Nat} {E : am_E} {s t : State} {H : Heap} {locs : List Loc} {A : Nat → Prop} {K : am_P} {v : Option Value} {a : Array Value} (h1 : ∀ k, k < n0 → ad k = ad0 k) (h2 : n0 ≤ n) (h3 : am_we n E) (h6 : va_P D vwCl (am_w dA ad ro n E) H) (h7 : va_D A (am_w dA ad ro n E)) (h8 : va_S A s.heap H locs) (hAe : A = am_A ad0 n0 s.heap.size) (ht : t.heap = H) (hv : ∀ w, v = some w → am_lt n w) (hK : K (.inl v) n E) : am_Qc D dA ro ad0 n0 s.heap.size K a s (.returned (v.map (am_tr ad ro))) t := by
  subst hAe
  exact ⟨⟨v, n, E, hK, hv, ad, h1, h2, h3, by rw [ht]; exact h6, h7, rfl⟩, h8.F ht⟩
theorem ms_iret {X : am_X} {cc : ByteArray} {own : String} {ret : Option FieldType} {Ts : List Cond} (F : am_F X cc own ret Ts) {pc : Nat} {K : am_P} {mc ms : Nat} (FQ : am_FQ X K mc ms) {ty : FieldType} (hr : ret = some ty) (hd : decode cc pc = .ok (.ireturn, 1)) : am_imp (o_iret ty K) (am_G X pc) := by
  obtain ⟨p, l, e, R, s, m, args, below, meth, c, D, dA, ro, ad0, n0, nL, A, Q⟩ := X
  obtain ⟨hx, hb, hml, hown, hts, hK, hA, hE, htr, hlk, hrt, hWS⟩ := F
  obtain ⟨hQ, hAe, hRc, hRs⟩ := FQ
  intro ls st n E ca sl h ad H locs L h1 h2 h3 h4 h5 h6 h7 h8 h9 hca hsl
  unfold o_iret at h
  split at h
  · rename_i v
    subst hQ
    exact W.widen (hRc ▸ hca) (hRs ▸ hsl) (vx_ret (W.zret hx hb (hrt.trans hr) h.1 (fun t ht hW => am_qc (v := some (.int v)) h1 h2 h3 h6 h7 h8 hAe ht (fun w hw => by cases hw; trivial) h.2) h8.2.2 hd hlk))
  · exact h.elim
theorem ms_lret {X : am_X} {cc : ByteArray} {own : String} {ret : Option FieldType} {Ts : List Cond} (F : am_F X cc own ret Ts) {pc : Nat} {K : am_P} {mc ms : Nat} (FQ : am_FQ X K mc ms) (hr : ret = some .long) (hd : decode cc pc = .ok (.lreturn, 1)) : am_imp (o_lret K) (am_G X pc) := by
  obtain ⟨p, l, e, R, s, m, args, below, meth, c, D, dA, ro, ad0, n0, nL, A, Q⟩ := X
  obtain ⟨hx, hb, hml, hown, hts, hK, hA, hE, htr, hlk, hrt, hWS⟩ := F
  obtain ⟨hQ, hAe, hRc, hRs⟩ := FQ
  intro ls st n E ca sl h ad H locs L h1 h2 h3 h4 h5 h6 h7 h8 h9 hca hsl
  unfold o_lret at h
  split at h
  · rename_i v
    subst hQ
    exact W.widen (hRc ▸ hca) (hRs ▸ hsl) (vx_ret (W.lret hx hb (hrt.trans hr) (fun t ht hW => am_qc (v := some (.long v)) h1 h2 h3 h6 h7 h8 hAe ht (fun w hw => by cases hw; trivial) h) h8.2.2 hd hlk))
  · exact h.elim
theorem ms_fret {X : am_X} {cc : ByteArray} {own : String} {ret : Option FieldType} {Ts : List Cond} (F : am_F X cc own ret Ts) {pc : Nat} {K : am_P} {mc ms : Nat} (FQ : am_FQ X K mc ms) (hr : ret = some .float) (hd : decode cc pc = .ok (.freturn, 1)) : am_imp (o_fret K) (am_G X pc) := by
  obtain ⟨p, l, e, R, s, m, args, below, meth, c, D, dA, ro, ad0, n0, nL, A, Q⟩ := X
  obtain ⟨hx, hb, hml, hown, hts, hK, hA, hE, htr, hlk, hrt, hWS⟩ := F
  obtain ⟨hQ, hAe, hRc, hRs⟩ := FQ
  intro ls st n E ca sl h ad H locs L h1 h2 h3 h4 h5 h6 h7 h8 h9 hca hsl
  unfold o_fret at h
  split at h
  · rename_i v
    subst hQ
    exact W.widen (hRc ▸ hca) (hRs ▸ hsl) (vx_ret (W.fret hx hb (hrt.trans hr) (fun t ht hW => am_qc (v := some (.float v)) h1 h2 h3 h6 h7 h8 hAe ht (fun w hw => by cases hw; trivial) h) h8.2.2 hd hlk))
  · exact h.elim
theorem ms_dret {X : am_X} {cc : ByteArray} {own : String} {ret : Option FieldType} {Ts : List Cond} (F : am_F X cc own ret Ts) {pc : Nat} {K : am_P} {mc ms : Nat} (FQ : am_FQ X K mc ms) (hr : ret = some .double) (hd : decode cc pc = .ok (.dreturn, 1)) : am_imp (o_dret K) (am_G X pc) := by
  obtain ⟨p, l, e, R, s, m, args, below, meth, c, D, dA, ro, ad0, n0, nL, A, Q⟩ := X
  obtain ⟨hx, hb, hml, hown, hts, hK, hA, hE, htr, hlk, hrt, hWS⟩ := F
  obtain ⟨hQ, hAe, hRc, hRs⟩ := FQ
  intro ls st n E ca sl h ad H locs L h1 h2 h3 h4 h5 h6 h7 h8 h9 hca hsl
  unfold o_dret at h
  split at h
  · rename_i v
    subst hQ
    exact W.widen (hRc ▸ hca) (hRs ▸ hsl) (vx_ret (W.dret hx hb (hrt.trans hr) (fun t ht hW => am_qc (v := some (.double v)) h1 h2 h3 h6 h7 h8 hAe ht (fun w hw => by cases hw; trivial) h) h8.2.2 hd hlk))
  · exact h.elim
theorem ms_aret {X : am_X} {cc : ByteArray} {own : String} {ret : Option FieldType} {Ts : List Cond} (F : am_F X cc own ret Ts) {pc : Nat} {K : am_P} {mc ms : Nat} (FQ : am_FQ X K mc ms) {ty : FieldType} (hr : ret = some (.array ty)) (hd : decode cc pc = .ok (.areturn, 1)) : am_imp (o_aret K) (am_G X pc) := by
  obtain ⟨p, l, e, R, s, m, args, below, meth, c, D, dA, ro, ad0, n0, nL, A, Q⟩ := X
  obtain ⟨hx, hb, hml, hown, hts, hK, hA, hE, htr, hlk, hrt, hWS⟩ := F
  obtain ⟨hQ, hAe, hRc, hRs⟩ := FQ
  intro ls st n E ca sl h ad H locs L h1 h2 h3 h4 h5 h6 h7 h8 h9 hca hsl
  unfold o_aret at h
  split at h
  · rename_i v
    subst hQ
    exact W.widen (hRc ▸ hca) (hRs ▸ hsl) (vx_ret (W.aret hx hb (hrt.trans hr) (Or.inr ⟨ty, rfl⟩) (Or.inr ⟨ad v, rfl⟩) (fun t ht hW => am_qc (v := some (.ref v)) h1 h2 h3 h6 h7 h8 hAe ht (fun w hw => by cases hw; exact am_hd h4) h) h8.2.2 hd hlk))
  · exact h.elim
theorem ms_vret {X : am_X} {cc : ByteArray} {own : String} {ret : Option FieldType} {Ts : List Cond} (F : am_F X cc own ret Ts) {pc : Nat} {K : am_P} {mc ms : Nat} (FQ : am_FQ X K mc ms) (hr : ret = none) (hd : decode cc pc = .ok (.return_, 1)) : am_imp (o_vret K) (am_G X pc) := by
  obtain ⟨p, l, e, R, s, m, args, below, meth, c, D, dA, ro, ad0, n0, nL, A, Q⟩ := X
  obtain ⟨hx, hb, hml, hown, hts, hK, hA, hE, htr, hlk, hrt, hWS⟩ := F
  obtain ⟨hQ, hAe, hRc, hRs⟩ := FQ
  intro ls st n E ca sl h ad H locs L h1 h2 h3 h4 h5 h6 h7 h8 h9 hca hsl
  unfold o_vret at h
  split at h
  · subst hQ
    exact W.widen (hRc ▸ hca) (hRs ▸ hsl) (vx_ret (W.vret hx hb (hrt.trans hr) (fun t ht hW => am_qc (v := none) h1 h2 h3 h6 h7 h8 hAe ht (fun w hw => by cases hw) h) h8.2.2 hd hlk))
  · exact h.elim
/-! ===== throw new E("text") ===== -/
def o_throw (C : String) (mc ms : Nat) (K : am_P) : am_C := fun _ st n E ca sl => match st with
  | [] => (ca + 1 ≤ mc ∧ sl + 6 ≤ ms) ∧ K (.inr C) n E
  | _ => False
theorem am_xc {D : va_G} {dA ro ad ad0 : Nat → Nat} {n n0 : Nat} {E : am_E} {s t : State} {H : Heap} {locs : List Loc} {A : Nat → Prop} {K : am_P} {C : String} (h1 : ∀ k, k < n0 → ad k = ad0 k) (h2 : n0 ≤ n) (h3 : am_we n E) (h6 : va_P D vwCl (am_w dA ad ro n E) H) (h7 : va_D A (am_w dA ad ro n E)) (h8 : va_S A s.heap H locs) (hAe : A = am_A ad0 n0 s.heap.size) (hz : H.size ≤ t.heap.size) (hq : ∀ q : Nat, q < H.size → t.heap[q]? = H[q]?) (hK : K (.inr C) n E) : am_Xc D dA ro ad0 n0 s.heap.size K C s t := by
  subst hAe
  exact ⟨⟨n, E, hK, ad, h1, h2, h3, h6.kept (fun k q hk => hq q.1 (h6 k q hk).lt), h7, trivial⟩, Nat.le_trans h8.1 hz, fun q ha hb => by rw [hq q (Nat.lt_of_lt_of_le ha h8.1)]; exact h8.2.1 q ha hb⟩
theorem ms_throw {X : am_X} {cc : ByteArray} {own : String} {ret : Option FieldType} {Ts : List Cond} (F : am_F X cc own ret Ts) {pc : Nat} {K : am_P} {rm : Room} (hR : am_Rm X rm) (FQ : am_FQ X K rm.cells rm.slots) (hT : am_noT X) (hf : 5 < rm.frames) (hlo : 82 ≤ rm.locals) {cls text : String} {n1 n2 : String} {ik is ic : Nat} (hcls : Bundle.fit cls = true) (hnames : ∀ n ∈ [n1, n2], Bundle.fit n = true)
    (hk : Cond.classLink own ik cls ∈ Ts) (hini : Cond.initialized cls ∈ Ts) (hstr : (own, is, text) ∈ am_SR) (hat : ∀ w ∈ vx_atS own ic cls [n1, n2], w ∈ am_WS ∨ w ∈ am_NW) (hgood : ∀ w ∈ Cond.classLink own ik cls :: Cond.initialized cls :: vx_atS own ic cls [n1, n2], vx_ot w = true)
    (d0 : decode cc pc = .ok (.new ik, 3)) (d3 : decode cc (pc + 3) = .ok (.dup, 1)) (d4 : decode cc (pc + 4) = .ok (.ldc is, 2)) (d6 : decode cc (pc + 6) = .ok (.invokespecial ic, 3)) (d9 : decode cc (pc + 9) = .ok (.athrow, 1)) : am_imp (o_throw cls rm.cells rm.slots K) (am_G X pc) := by
  obtain ⟨p, l, e, R, s, m, args, below, meth, c, D, dA, ro, ad0, n0, nL, A, Q⟩ := X
  obtain ⟨hx, hb, hml, hown, hts, hK, hA, hE, htr, hlk, hrt, hWS⟩ := F
  obtain ⟨hQ, hAe, hRc, hRs⟩ := FQ
  have hR : R = rm := hR
  subst hR
  intro ls st n E ca sl h ad H locs L h1 h2 h3 h4 h5 h6 h7 h8 h9 hca hsl
  unfold o_throw at h
  split at h
  · obtain ⟨⟨hc1, hs1⟩, h⟩ := h
    obtain ⟨sa, hsa⟩ := hE.2.1 _ hstr
    subst hQ
    have hat' : ∀ w ∈ vx_atS own ic cls [n1, n2], w.before args s = true := fun w hw => (hat w hw).elim (fun q => hts w (hWS w q)) (fun q => am_nk_use (List.mem_filter.mp q).2 (hE.1 w q))
    exact vx_throwS (names := [n1, n2]) (sa := sa) hx hb htr hown hcls hnames (hts _ hk) (hts _ hini) hsa hat' hgood hE.2.2.2.1.1 hE.2.2.2.1.2 h8 (h9.1.trans hml.symm) d0 d3 d4 d6 d9 (fun x hx => (hT x hx).elim) (by simpa using hf) (by simpa using hlo) hc1 hs1 hlk (fun t _ hz hq => am_xc h1 h2 h3 h6 h7 h8 hAe hz hq h) h8.2.2 hc1 hs1
  · exact h.elim
theorem ms_throwW {X : am_X} {cc : ByteArray} {own : String} {ret : Option FieldType} {Ts : List Cond} (F : am_F X cc own ret Ts) {pc : Nat} {K : am_P} {rm : Room} (hR : am_Rm X rm) (FQ : am_FQ X K rm.cells rm.slots) (hT : am_noT X) (hf : 5 < rm.frames) (hlo : 82 ≤ rm.locals) {cls text : String} {n1 n2 : String} {ik is ic : Nat} (hcls : Bundle.fit cls = true) (hnames : ∀ n ∈ [n1, n2], Bundle.fit n = true)
    (hk : Cond.classLink own ik cls ∈ Ts) (hini : Cond.initialized cls ∈ Ts) (hstr : (own, is, text) ∈ am_SR) (hat : ∀ w ∈ vx_atS own ic cls [n1, n2], w ∈ am_WS ∨ w ∈ am_NW) (hgood : ∀ w ∈ Cond.classLink own ik cls :: Cond.initialized cls :: vx_atS own ic cls [n1, n2], vx_ot w = true)
    (d0 : decode cc pc = .ok (.new ik, 3)) (d3 : decode cc (pc + 3) = .ok (.dup, 1)) (d4 : decode cc (pc + 4) = .ok (.ldc_w is, 3)) (d6 : decode cc (pc + 7) = .ok (.invokespecial ic, 3)) (d9 : decode cc (pc + 10) = .ok (.athrow, 1)) : am_imp (o_throw cls rm.cells rm.slots K) (am_G X pc) := by
  obtain ⟨p, l, e, R, s, m, args, below, meth, c, D, dA, ro, ad0, n0, nL, A, Q⟩ := X
  obtain ⟨hx, hb, hml, hown, hts, hK, hA, hE, htr, hlk, hrt, hWS⟩ := F
  obtain ⟨hQ, hAe, hRc, hRs⟩ := FQ
  have hR : R = rm := hR
  subst hR
  intro ls st n E ca sl h ad H locs L h1 h2 h3 h4 h5 h6 h7 h8 h9 hca hsl
  unfold o_throw at h
  split at h
  · obtain ⟨⟨hc1, hs1⟩, h⟩ := h
    obtain ⟨sa, hsa⟩ := hE.2.1 _ hstr
    subst hQ
    have hat' : ∀ w ∈ vx_atS own ic cls [n1, n2], w.before args s = true := fun w hw => (hat w hw).elim (fun q => hts w (hWS w q)) (fun q => am_nk_use (List.mem_filter.mp q).2 (hE.1 w q))
    exact vx_throwSW (names := [n1, n2]) (sa := sa) hx hb htr hown hcls hnames (hts _ hk) (hts _ hini) hsa hat' hgood hE.2.2.2.1.1 hE.2.2.2.1.2 h8 (h9.1.trans hml.symm) d0 d3 d4 d6 d9 (fun x hx => (hT x hx).elim) (by simpa using hf) (by simpa using hlo) hc1 hs1 hlk (fun t _ hz hq => am_xc h1 h2 h3 h6 h7 h8 hAe hz hq h) h8.2.2 hc1 hs1
  · exact h.elim
