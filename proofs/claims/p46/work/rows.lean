section
-- ===== PART A: goes FIRST, ahead of the names: the tables' words, and 'selects' of the private methods out of them =====
/-- a private method of a class that the tables say can be made, by its rows of tables_1 -/
def lw_okq (q : MethodName × Nat) : Prop := (q.1.cls ≠ "java/lang/invoke/MethodHandle" ∧ q.1.cls ≠ "java/lang/invoke/VarHandle") ∧ Cond.instantiable q.1.cls q.2 ∈ tables_1 ∧ Cond.privateMethod q.1 ∈ tables_1 ∧ Cond.instanceMethod q.1 ∈ tables_1
theorem lw_p0 : lw_okq (⟨"java/lang/Throwable", "fillInStackTrace", "(I)Ljava/lang/Throwable;"⟩, 6) := ⟨⟨by decide +kernel, by decide +kernel⟩, List.mem_of_getElem? (i := 277) (by decide +kernel), List.mem_of_getElem? (i := 275) (by decide +kernel), List.mem_of_getElem? (i := 276) (by decide +kernel)⟩
theorem lw_p1 : lw_okq (⟨"LeadlightHall", "panesThatAre", "(C)I"⟩, 16) := ⟨⟨by decide +kernel, by decide +kernel⟩, List.mem_of_getElem? (i := 20) (by decide +kernel), List.mem_of_getElem? (i := 328) (by decide +kernel), List.mem_of_getElem? (i := 329) (by decide +kernel)⟩
theorem lw_p2 : lw_okq (⟨"LeadlightHall", "isCuttable", "(I)Z"⟩, 16) := ⟨⟨by decide +kernel, by decide +kernel⟩, List.mem_of_getElem? (i := 20) (by decide +kernel), List.mem_of_getElem? (i := 336) (by decide +kernel), List.mem_of_getElem? (i := 337) (by decide +kernel)⟩
theorem lw_p3 : lw_okq (⟨"LeadlightHall$Shape", "grow", "()Z"⟩, 2) := ⟨⟨by decide +kernel, by decide +kernel⟩, List.mem_of_getElem? (i := 59) (by decide +kernel), List.mem_of_getElem? (i := 357) (by decide +kernel), List.mem_of_getElem? (i := 358) (by decide +kernel)⟩
theorem lw_p4 : lw_okq (⟨"LeadlightHall", "isGlassWithin", "(IIII)Z"⟩, 16) := ⟨⟨by decide +kernel, by decide +kernel⟩, List.mem_of_getElem? (i := 20) (by decide +kernel), List.mem_of_getElem? (i := 399) (by decide +kernel), List.mem_of_getElem? (i := 400) (by decide +kernel)⟩
theorem lw_p5 : lw_okq (⟨"LeadlightHall", "isOpenWithin", "(IIII)Z"⟩, 16) := ⟨⟨by decide +kernel, by decide +kernel⟩, List.mem_of_getElem? (i := 20) (by decide +kernel), List.mem_of_getElem? (i := 459) (by decide +kernel), List.mem_of_getElem? (i := 460) (by decide +kernel)⟩
theorem lw_p6 : lw_okq (⟨"LeadlightHall$Shape", "narrowInRow", "(I)I"⟩, 2) := ⟨⟨by decide +kernel, by decide +kernel⟩, List.mem_of_getElem? (i := 59) (by decide +kernel), List.mem_of_getElem? (i := 501) (by decide +kernel), List.mem_of_getElem? (i := 502) (by decide +kernel)⟩
theorem lw_p7 : lw_okq (⟨"LeadlightHall$Shape", "narrowInColumn", "(I)I"⟩, 2) := ⟨⟨by decide +kernel, by decide +kernel⟩, List.mem_of_getElem? (i := 59) (by decide +kernel), List.mem_of_getElem? (i := 515) (by decide +kernel), List.mem_of_getElem? (i := 516) (by decide +kernel)⟩
theorem lw_p8 : lw_okq (⟨"LeadlightHall$Shape", "touchesOver", "(I)I"⟩, 2) := ⟨⟨by decide +kernel, by decide +kernel⟩, List.mem_of_getElem? (i := 59) (by decide +kernel), List.mem_of_getElem? (i := 558) (by decide +kernel), List.mem_of_getElem? (i := 559) (by decide +kernel)⟩
theorem lw_p9 : lw_okq (⟨"LeadlightHall", "lowestWithoutCells", "()I"⟩, 16) := ⟨⟨by decide +kernel, by decide +kernel⟩, List.mem_of_getElem? (i := 20) (by decide +kernel), List.mem_of_getElem? (i := 563) (by decide +kernel), List.mem_of_getElem? (i := 564) (by decide +kernel)⟩
def lw_privs_1 : List (MethodName × Nat) := [(⟨"java/lang/Throwable", "fillInStackTrace", "(I)Ljava/lang/Throwable;"⟩, 6), (⟨"LeadlightHall", "panesThatAre", "(C)I"⟩, 16), (⟨"LeadlightHall", "isCuttable", "(I)Z"⟩, 16), (⟨"LeadlightHall$Shape", "grow", "()Z"⟩, 2), (⟨"LeadlightHall", "isGlassWithin", "(IIII)Z"⟩, 16), (⟨"LeadlightHall", "isOpenWithin", "(IIII)Z"⟩, 16), (⟨"LeadlightHall$Shape", "narrowInRow", "(I)I"⟩, 2), (⟨"LeadlightHall$Shape", "narrowInColumn", "(I)I"⟩, 2), (⟨"LeadlightHall$Shape", "touchesOver", "(I)I"⟩, 2), (⟨"LeadlightHall", "lowestWithoutCells", "()I"⟩, 16)]
theorem lw_r1 : ∀ q ∈ lw_privs_1, lw_okq q := List.forall_mem_cons.mpr ⟨lw_p0, List.forall_mem_cons.mpr ⟨lw_p1, List.forall_mem_cons.mpr ⟨lw_p2, List.forall_mem_cons.mpr ⟨lw_p3, List.forall_mem_cons.mpr ⟨lw_p4, List.forall_mem_cons.mpr ⟨lw_p5, List.forall_mem_cons.mpr ⟨lw_p6, List.forall_mem_cons.mpr ⟨lw_p7, List.forall_mem_cons.mpr ⟨lw_p8, List.forall_mem_cons.mpr ⟨lw_p9, fun _ h => absurd h List.not_mem_nil⟩⟩⟩⟩⟩⟩⟩⟩⟩⟩
def lw_privs : List (MethodName × Nat) := lw_privs_1
def lw_tbl : List Cond := k2_sels lw_privs ++ tables_1
theorem lw_privs_ok : ∀ q ∈ lw_privs, lw_okq q := lw_r1
/-- the streams that the claim lets the run draw from -/
abbrev lw_cs : List Choice := [Jvm.Choice.named "NaN.bits"]
theorem lw_bits : nanBits ∈ lw_cs := by first | decide | exact List.mem_cons_self | simp [lw_cs, nanBits]

def va_AOA (ty : FieldType) (U : State) : Prop := (Cond.arrayOver (.array ty)).before #[] U = true
theorem va_AOA.use {ty : FieldType} {A : Array Value} {U : State} (h : va_AOA ty U) : (Cond.arrayOver (.array ty)).before A U = true := h
theorem va_AOA.spec {s : State} {t : FieldType} (h : va_AOA t s) : ∃ comp c k, s.vm.findClass (FieldType.array t).toString = some comp ∧ (s.vm.classes.findIdx? fun (x : Class) => match x.kind with | .array component _ => component == comp | _ => false) = some c ∧ s.vm.classes[c]? = some k ∧ k.kind = .array comp (.array t) ∧ s.vm.findClass ("[" ++ (FieldType.array t).toString) = some c := by
  unfold va_AOA Cond.before at h
  simp only [Cond.holds, Cond.value, beq_iff_eq] at h
  cases hc : s.vm.findClass (FieldType.array t).toString with
  | none => simp [hc] at h
  | some comp =>
    rw [hc, Option.bind_some] at h
    generalize hi : (s.vm.classes.findIdx? _) = o at h
    cases o with
    | none => simp at h
    | some c =>
      rw [Option.bind_some] at h
      cases hk : s.vm.classes[c]? with
      | none => rw [hk] at h; simp at h
      | some k =>
        rw [hk] at h
        have h2 := (Array.findIdx?_eq_some_iff_getElem.mp hi)
        obtain ⟨hlt, hp, -⟩ := h2
        have hkk : s.vm.classes[c] = k := by
          have := Array.getElem?_eq_getElem hlt
          rw [hk] at this
          exact (Option.some.inj this).symm
        rw [hkk] at hp
        cases hkd : k.kind with
        | array comp' ty' =>
          rw [Option.map_some] at h
          simp only [hkd] at hp h
          simp only [Option.some.injEq, Bool.and_eq_true, decide_eq_true_eq] at h
          have hcc : comp' = comp := by simpa using hp
          subst hcc
          first
            | exact ⟨comp', c, k, hc, hi, hk, by rw [hkd, h.1], h.2⟩
            | exact ⟨comp', c, k, rfl, hi, hk, by rw [hkd, h.1], h.2⟩
        | _ => rw [hkd] at hp; simp at hp
theorem va_AOA.moved {t : FieldType} {u U : State} (hvm : u.vm.Alike U.vm) (h : va_AOA t u) : va_AOA t U := by
  obtain ⟨comp, c, k, h1, h2, h3, h4, h5⟩ := va_AOA.spec h
  obtain ⟨k', hk', he⟩ := hvm.2.2 _ _ h3
  have hi : (U.vm.classes.findIdx? fun (x : Class) => match x.kind with | .array component _ => component == comp | _ => false) = some c := by
    refine Eq.trans (va_idx_bare U.vm comp).symm ?_
    first | rw [hvm.bare_eq] | rw [← hvm.bare_eq]
    exact Eq.trans (va_idx_bare u.vm comp) h2
  have hkind : k'.kind = .array comp (.array t) := by rw [he]; exact h4
  have f1 : U.vm.findClass (FieldType.array t).toString = some comp := by rw [hvm.findClass]; exact h1
  have f2 : U.vm.findClass ("[" ++ (FieldType.array t).toString) = some c := by rw [hvm.findClass]; exact h5
  unfold va_AOA Cond.before Cond.holds
  simp only [Cond.value]
  rw [f1, Option.bind_some]
  refine (congrArg (fun o : Option Nat => (o.bind (fun c => (U.vm.classes[c]?).map fun (k : Class) => match k.kind with | .array _ ty => decide (ty = FieldType.array t) && decide (U.vm.findClass ("[" ++ (FieldType.array t).toString) = some c) | _ => false) == some true)) hi).trans ?_
  simp [hk', hkind, f2]
end
section
/-! ===== BEGIN words of one list among another's, by their places ===== -/
theorem goodIn_r {big : List Cond} (ws : List Cond) (ps : List Nat) (hp : ws = ps.filterMap (fun i => big[i]?)) (h : ws.all goodWord = true) : GoodIn big ws := by
  intro w hw
  have h1 := List.all_eq_true.mp h w hw
  rw [hp] at hw
  obtain ⟨i, -, hi⟩ := List.mem_filterMap.mp hw
  have hm : w ∈ big := by first | exact List.mem_of_getElem? hi | exact List.getElem?_mem hi
  exact ⟨hm, good_of_word h1⟩
theorem goodIn_app {big a b : List Cond} (ha : GoodIn big a) (hb : GoodIn big b) : GoodIn big (a ++ b) := fun w h => (List.mem_append.mp h).elim (ha w) (hb w)
theorem goodIn_ca {big a b : List Cond} {c : Cond} (ha : GoodIn big (c :: a)) (hb : GoodIn big b) : GoodIn big (c :: (a ++ b)) := fun w h => (List.mem_cons.mp h).elim (fun e => ha w (List.mem_cons.mpr (Or.inl e))) (fun h => (List.mem_append.mp h).elim (fun h => ha w (List.mem_cons.mpr (Or.inr h))) (hb w))
theorem goodIn_sub {big ws : List Cond} (hm : ∀ w ∈ ws, w ∈ big) (h : ws.all goodWord = true) : GoodIn big ws := fun w hw => ⟨hm w hw, good_of_word (List.all_eq_true.mp h w hw)⟩
/-! ===== END ===== -/

/-! ===== BEGIN new T[n][m]: the outer array a place, the inner ones among the pooled ===== -/
/-- f, but v at every address of l -/
def vr_up {α : Type} (f : Nat → α) (l : List Nat) (v : α) : Nat → α := fun a => if a ∈ l then v else f a
theorem vr_up_in {α : Type} {f : Nat → α} {l : List Nat} {v : α} {a : Nat} (h : a ∈ l) : vr_up f l v a = v := if_pos h
theorem vr_up_ne {α : Type} {f : Nat → α} {l : List Nat} {v : α} {a : Nat} (h : a ∉ l) : vr_up f l v a = f a := if_neg h
theorem vr_rows {L l : List Nat} {f : Nat → va_E} {e : va_E} (h : ∀ a, a ∈ l → a ∉ L) : va_pl L f ++ l.map (fun a => (a, e)) = va_pl (L ++ l) (vr_up f l e) := by
  unfold va_pl
  rw [List.map_append]
  congr 1
  · apply List.map_congr_left
    intro a ha
    rw [vr_up_ne (fun q => h a q ha)]
  · apply List.map_congr_left
    intro a ha
    rw [vr_up_in ha]
theorem vr_lay {X rows : va_W} {x : Nat × va_E} {pl : va_W} {D : va_G} {cl : List vw_C} {H : Heap} (hP : va_P D cl (((X ++ pl) ++ [x]) ++ rows) H) : va_P D cl ((X ++ [x]) ++ (pl ++ rows)) H := by
  rw [List.append_assoc (X ++ pl)] at hP
  have h := va_P.swap hP
  rw [← List.append_assoc X] at h
  have h2 := va_P.swap h
  rw [List.append_assoc (X ++ [x])] at h2
  exact h2
theorem vr_layD {X rows : va_W} {x : Nat × va_E} {pl : va_W} {A : Nat → Prop} (hD : va_D A (((X ++ pl) ++ [x]) ++ rows)) : va_D A ((X ++ [x]) ++ (pl ++ rows)) := by
  rw [List.append_assoc (X ++ pl)] at hD
  have h := va_D.swap hD
  rw [← List.append_assoc X] at h
  have h2 := va_D.swap h
  rw [List.append_assoc (X ++ [x])] at h2
  exact h2
theorem vr_outer (c : ClassId) (N h0 : Nat) : ∀ i : Nat, Jvm.Free.Multi.outerC c N h0 i = arrV c N (fun j => va_rf (if j < i then some (h0 + 1 + j) else none))
  | 0 => by
    show ({ cls := c, slots := Array.replicate N .null, vm := .none } : Cell) = _
    rw [arrV_new]
    refine congrArg (arrV c N) (funext fun j => ?_)
    simp [va_rf]
  | i + 1 => by
    show (Jvm.Free.Multi.outerC c N h0 i).setSlot i (.ref (h0 + 1 + i)) = _
    rw [vr_outer c N h0 i, arrV_store]
    refine congrArg (arrV c N) (funext fun j => ?_)
    by_cases e : j = i
    · subst e
      simp [updV, va_rf]
    · by_cases h : j < i
      · simp [updV, e, h, Nat.lt_succ_of_lt h]
      · simp [updV, e, h, show ¬ j < i + 1 by omega]
section VGM
variable {p : Program} {l : Launch} {e : Env} {R : Room} {s : State} {m : MethodId} {args : Array Value} {below : List Frame} {meth : Method} {c : Code} {H : Heap} {locs : List Loc} {cells slots : Nat} {Q : State → Prop}
variable {cc : ByteArray} {pc : Nat} {ls : Array Slot} {rest : List Value} {D : va_G} {cl : List vw_C} {A : Nat → Prop} {a : Nat} {tys : List (ClassId × FieldType)} {ws : va_W} {H0 : Heap}
theorem va_mna {X : va_W} {L : List Nat} {f : Nat → va_E} {cc : ByteArray} (hexec : p.tables.exec = Jvm.exec) (hb : c.code = cc) {own : String} {index : Nat} {ty : FieldType} {cy : ClassId} (hown : s.vm.findClass own = some m.cls) (hclink : (Cond.classLink own index ("[" ++ (FieldType.array ty).toString)).before args s = true) (hover : va_AOA ty s) (harr : (Cond.arrayClass ty).before args s = true) (hcy : s.vm.findClass (FieldType.array ty).toString = some cy)
    (hK : va_K D cl tys s) (hP : va_P D cl (X ++ va_pl L f) H) (hD : va_D A (X ++ va_pl L f)) (hS : va_S A H0 H locs) (hA : ∀ q, H0.size ≤ q → A q) {n k : Int32} {N' K' : Nat} {z : vp_A} (hn : ¬ n < 0) (hk : ¬ k < 0) (hN : n.toNatClampNeg = N') (hM : k.toNatClampNeg = K')
    (hb1 : N' * 4 ≤ 536870912) (hb2 : K' * componentBytes ty ≤ 536870912) (hb3 : K' ≤ 536870912) (hdf : fits ty (defaultValue ty) = true) (hdd : (defaultValue ty).isDefault = true) (hcells : cells + (1 + N') ≤ R.cells) (hslots : slots + (N' + N' * K') ≤ R.slots) (hz : ∀ c : ClassId, Jvm.Free.Multi.innerC c K' (defaultValue ty) = vp_cell c z) (hdg : decode cc pc = .ok (.multianewarray index 2, 4))
    (kk : ∀ (q : Nat) (r : Nat → Nat) (cA : ClassId) (H1 : Heap), (∀ i j : Nat, i < N' → j < N' → r i = r j → i = j) → (∀ i : Nat, i < N' → r i ∉ L) → va_K D cl (tys ++ [(cA, .array ty)]) s →
      va_P D cl ((X ++ [(q, .inl (cA, N', .inr (.inr (.inr (.inr (fun i => if i < N' then some (r i) else none))))))]) ++ va_pl (L ++ (List.range N').map r) (vr_up f ((List.range N').map r) (.inl (cy, z)))) H1 → va_D A ((X ++ [(q, .inl (cA, N', .inr (.inr (.inr (.inr (fun i => if i < N' then some (r i) else none))))))]) ++ va_pl (L ++ (List.range N').map r) (vr_up f ((List.range N').map r) (.inl (cy, z)))) → va_S A H0 H1 locs →
      W p l e R s m args below meth c H1 locs (cells + 1 + N') (slots + N' + N' * K') Q (F0 m (pc + 4) ls (.ref q :: rest))) : W p l e R s m args below meth c H locs cells slots Q (F0 m pc ls (.int k :: .int n :: rest)) := by
  subst hN
  subst hM
  intro T hT Xs
  obtain ⟨vm₁, cA, comp, -, fA, fC, hO, -, X', step⟩ := Xs.multianewarray2F hexec hown hclink (va_AOA.use hover) harr (g := F0 m pc ls (.int k :: .int n :: rest)) rfl (by rw [hb]; exact hdg) rfl hn hk hb1 hb2 hb3 hdf hdd hcells hslots
  have ec : some cy = some comp := hcy.symm.trans fC
  cases ec
  generalize hF : Jvm.Free.Multi.fill (T.setVm vm₁) cA cy n.toNatClampNeg k.toNatClampNeg (defaultValue ty) n.toNatClampNeg = F at X' step
  have hTh : (T.setVm vm₁).heap = H := hT
  obtain ⟨f1, f2, -, -⟩ := Jvm.Free.Multi.fill_facts (T.setVm vm₁) cA cy n.toNatClampNeg k.toNatClampNeg (defaultValue ty) n.toNatClampNeg
  rw [hF, hTh] at f1 f2
  have hold : ∀ x : Nat, x < H.size → F.heap[x]? = H[x]? := fun x hx => by
    have := Jvm.Free.Multi.fill_old (T.setVm vm₁) cA cy n.toNatClampNeg k.toNatClampNeg (defaultValue ty) (a := x) (by rw [hTh]; exact hx) n.toNatClampNeg
    rw [hF, hTh] at this
    exact this
  have hrow : ∀ j : Nat, j < n.toNatClampNeg → F.heap[H.size + 1 + j]? = some (vp_cell cy z) := fun j hj => by
    have := Jvm.Free.Multi.fill_inner (T.setVm vm₁) cA cy n.toNatClampNeg k.toNatClampNeg (defaultValue ty) n.toNatClampNeg j hj
    rw [hF, hTh, hz] at this
    exact this
  have hout : Jvm.Free.Multi.outerC cA n.toNatClampNeg H.size n.toNatClampNeg = vp_cell cA (n.toNatClampNeg, .inr (.inr (.inr (.inr (fun i => if i < n.toNatClampNeg then some (H.size + 1 + i) else none))))) := by
    rw [vp_cell_q]
    exact vr_outer cA n.toNatClampNeg H.size n.toNatClampNeg
  rw [hout] at f2
  have hlt : ∀ a, a ∈ L → a < H.size := fun a ha => by
    obtain ⟨k9, hk9⟩ := va_pl_get (X := X) (f := f) ha
    exact (hP k9 _ hk9).lt
  have hnl : ∀ i : Nat, i < n.toNatClampNeg → H.size + 1 + i ∉ L := fun i _ h => by
    have := hlt _ h
    omega
  have hnm : ∀ a, a ∈ (List.range n.toNatClampNeg).map (fun i => H.size + 1 + i) → a ∉ L := fun a ha h => by
    obtain ⟨i, -, rfl⟩ := List.mem_map.mp ha
    have := hlt _ h
    omega
  have hP0 : va_P D cl (X ++ va_pl L f) F.heap := hP.kept (fun k9 x hx => hold x.1 ((hP k9 x hx).lt))
  have hP1 : va_P D cl ((X ++ va_pl L f) ++ [(H.size, .inl (cA, n.toNatClampNeg, .inr (.inr (.inr (.inr (fun i => if i < n.toNatClampNeg then some (H.size + 1 + i) else none))))))]) F.heap := hP0.app (fun k9 x hx => by
    have h0 : k9 < 1 := (List.getElem?_eq_some_iff.mp hx).1
    rw [show k9 = 0 by omega] at hx
    cases hx
    exact f2)
  have hP2 : va_P D cl (((X ++ va_pl L f) ++ [(H.size, .inl (cA, n.toNatClampNeg, .inr (.inr (.inr (.inr (fun i => if i < n.toNatClampNeg then some (H.size + 1 + i) else none))))))]) ++ ((List.range n.toNatClampNeg).map (fun i => H.size + 1 + i)).map (fun a => (a, .inl (cy, z)))) F.heap := hP1.app (fun k9 x hx => by
    obtain ⟨a, ha, rfl⟩ := List.mem_map.mp (List.mem_of_getElem? hx)
    obtain ⟨i, hi, rfl⟩ := List.mem_map.mp ha
    exact hrow i (List.mem_range.mp hi))
  have hD2 : va_D A (((X ++ va_pl L f) ++ [(H.size, .inl (cA, n.toNatClampNeg, .inr (.inr (.inr (.inr (fun i => if i < n.toNatClampNeg then some (H.size + 1 + i) else none))))))]) ++ ((List.range n.toNatClampNeg).map (fun i => H.size + 1 + i)).map (fun a => (a, .inl (cy, z)))) := by
    have hD1 := hD.push (e := .inl (cA, n.toNatClampNeg, .inr (.inr (.inr (.inr (fun i => if i < n.toNatClampNeg then some (H.size + 1 + i) else none)))))) hP rfl (hA _ hS.1)
    generalize hW1 : (X ++ va_pl L f) ++ [(H.size, .inl (cA, n.toNatClampNeg, .inr (.inr (.inr (.inr (fun i => if i < n.toNatClampNeg then some (H.size + 1 + i) else none))))))] = W1 at hD1 hP1 ⊢
    have hle : ∀ (k9 : Nat) (x : Nat × va_E), W1[k9]? = some x → x.1 ≤ H.size := fun k9 x hx => by
      rw [← hW1] at hx
      by_cases hl : k9 < (X ++ va_pl L f).length
      · rw [List.getElem?_append_left hl] at hx
        exact Nat.le_of_lt ((hP k9 x hx).lt)
      · rw [List.getElem?_append_right (by omega)] at hx
        have h0 : k9 - (X ++ va_pl L f).length < 1 := (List.getElem?_eq_some_iff.mp hx).1
        rw [show k9 - (X ++ va_pl L f).length = 0 by omega] at hx
        cases hx
        exact Nat.le_refl _
    have hr : ∀ (k9 : Nat) (x : Nat × va_E), (((List.range n.toNatClampNeg).map (fun i => H.size + 1 + i)).map (fun a => ((a, .inl (cy, z)) : Nat × va_E)))[k9]? = some x → x.1 = H.size + 1 + k9 := fun k9 x hx => by
      rw [List.getElem?_map, List.getElem?_map] at hx
      by_cases h9 : k9 < n.toNatClampNeg
      · rw [List.getElem?_range h9] at hx
        cases hx
        rfl
      · have hn0 : (List.range n.toNatClampNeg)[k9]? = none := List.getElem?_eq_none (by rw [List.length_range]; omega)
        rw [hn0] at hx
        cases hx
    refine ⟨fun i j x y hi hj hxy => ?_, fun k9 x hx => ?_⟩
    · by_cases h1 : i < W1.length <;> by_cases h2 : j < W1.length
      · rw [List.getElem?_append_left h1] at hi
        rw [List.getElem?_append_left h2] at hj
        exact hD1.1 i j x y hi hj hxy
      · rw [List.getElem?_append_left h1] at hi
        rw [List.getElem?_append_right (by omega)] at hj
        have := hle _ _ hi
        have := hr _ _ hj
        omega
      · rw [List.getElem?_append_right (by omega)] at hi
        rw [List.getElem?_append_left h2] at hj
        have := hle _ _ hj
        have := hr _ _ hi
        omega
      · rw [List.getElem?_append_right (by omega)] at hi hj
        have := hr _ _ hi
        have := hr _ _ hj
        omega
    · by_cases h1 : k9 < W1.length
      · rw [List.getElem?_append_left h1] at hx
        exact hD1.2 k9 x hx
      · rw [List.getElem?_append_right (by omega)] at hx
        have := hr _ _ hx
        exact hA _ (by have := hS.1; omega)
  have hAr : ArrOfT s cA (.array ty) := fun N9 z9 => by
    obtain ⟨-, k9, hk9, cm9, hkk9⟩ := (hO 0 0 0).1
    exact ⟨(fun q hq => by cases hq), k9, hk9, cm9, hkk9⟩
  have hK2 : va_K D cl (tys ++ [(cA, .array ty)]) s := ⟨hK.1, fun k9 x hx => by
    by_cases hl : k9 < tys.length
    · rw [List.getElem?_append_left hl] at hx
      exact hK.2 k9 x hx
    · rw [List.getElem?_append_right (by omega)] at hx
      have h0 : k9 - tys.length < 1 := (List.getElem?_eq_some_iff.mp hx).1
      rw [show k9 - tys.length = 0 by omega] at hx
      cases hx
      exact ⟨hAr, fA⟩⟩
  obtain ⟨t, a1, b1⟩ := kk H.size (fun i => H.size + 1 + i) cA F.heap (fun i j _ _ h => by have h9 : H.size + 1 + i = H.size + 1 + j := h; omega) hnl hK2 (by rw [← vr_rows hnm]; exact vr_lay hP2) (by rw [← vr_rows hnm]; exact vr_layD hD2) ⟨by rw [f1]; have := hS.1; omega, fun x h1 h2 => (hold x (Nat.lt_of_lt_of_le h1 hS.1)).trans (hS.2.1 x h1 h2), hS.2.2⟩ F rfl X'
  refine ⟨t, step t ?_, b1⟩
  have e : T.heap.size = H.size := by rw [hT]
  rw [e]
  exact a1
end VGM
/-! ===== END ===== -/

/-! ===== BEGIN exceptions that leave a method, and their catching by the caller (launches without stack traces) ===== -/
section VXA
/-! The laws vx_back, vx_callV, vx_callS, vx_callSW, vx_throw0, vx_throwS follow proofs of the library, with one case more: JvmDerived/Free/Laws.lean (Back.of_free), Shelf42/LK1.lean (callV, callS), Shelf/KitTraced.lean (throwNew0V, throwNewS). -/
/-- where a method has thrown q: the class by its name, the cell, what was written, the world -/
def vx_T (XC : String → State → State → Prop) (st : State) (q : Addr) (t : State) (mc ms : Nat) (free : Addr → Prop) : Prop :=
  ∃ (E : String) (ce : Cell) (L : List Loc), XC E st t ∧ t.heap[q]? = some ce ∧ ce.vm = .none ∧ st.vm.findClass E = some ce.cls ∧ st.WarmedH t.vm ∧ st.sameButNew ({ t with vm := st.vm } : State) L mc ms ∧ ∀ z ∈ L, free z.base
def vx_Q (Qc : Array Value → State → Outcome → State → Prop) (XC : String → State → State → Prop) (mc ms : Nat) (free : Addr → Prop) : Array Value → State → Outcome → State → Prop := fun a st o t =>
  (Qc a st o t ∧ ∃ L, FrameEnd st o t L mc ms ∧ ∀ q ∈ L, free q.base) ∨ ∃ q, o = .threw q ∧ vx_T XC st q t mc ms free
/-- a callee that returns or throws -/
def vx_Met (l : Launch) (y : MethodName) (ws : List Cond) (rm : Room) (Pc : Array Value → State → Prop) (Qc : Array Value → State → Outcome → State → Prop) (XC : String → State → State → Prop) (mc ms : Nat) (free : Addr → Prop) : Prop :=
  MetFree l y (headSpec ws rm) Pc (fun _ _ _ _ _ => True) (vx_Q Qc XC mc ms free)
def vx_Post (XC : String → State → State → Prop) (mc ms : Nat) (free : Addr → Prop) : Pt → Array Value → Addr → Pt → Prop := fun A a q B =>
  ∃ (g : JFrame) (mk : MethodId) (t : State) (L : List Loc) (E : String) (ce : Cell), B.U.heap = t.heap ∧ B.U.vm = t.vm ∧ XC E (A.U.calling g mk a) t ∧ t.heap[q]? = some ce ∧ ce.vm = .none ∧ A.U.vm.findClass E = some ce.cls ∧ B.locs = A.locs ++ L ∧ (∀ z ∈ L, free z.base) ∧ B.cells = A.cells + mc ∧ B.slots = A.slots + ms
def vx_Back (l : Launch) (R : Room) (p : Program) (e : Env) (below : List Frame) (s : State) (sargs : Array Value) (y : MethodName) (len W9 : Nat)
    (Pre : Pt → Array Value → Prop) (Post : Pt → Array Value → Option Value → Pt → Prop) (PostX : Pt → Array Value → Addr → Pt → Prop) : Prop :=
  ∀ (m : MethodId) (meth : Method) (c : Code) (A : Pt) (g : JFrame) (ig : Instr) (mk : MethodId) (a : Array Value),
    Stand p l e R s m sargs below meth c A.U A.locs A.cells A.slots → g.method = m → g.locals.size = c.maxLocals → decode c.code g.pc = .ok (ig, len) →
    2 * g.monitorRoom + (g.stack.map fun v => v.category).sum ≤ W9 → A.U.methodNamed? y = some mk → Pre A a →
    (∃ (v : Option Value) (B : Pt), Stand p l e R s m sargs below meth c B.U B.locs B.cells B.slots ∧ Post A a v B ∧
      Steps p.tables e below (doInvoke e (A.U.setTop g) [] mk a).1 (B.U.setTop { g with pc := g.pc + len, stack := v.toList ++ g.stack })) ∨
    (∃ (q : Addr) (B : Pt), Stand p l e R s m sargs below meth c B.U B.locs B.cells B.slots ∧ PostX A a q B ∧
      Steps p.tables e below (doInvoke e (A.U.setTop g) [] mk a).1 ((B.U.setTop g).pushFrame (.throwing q)))
section Payer
variable {l : Launch} {R : Room} {p : Program} {e : Env} {below : List Frame} {s : State} {sargs : Array Value} {y : MethodName} {len W9 : Nat}
theorem vx_back {ws : List Cond} {rm : Room} {Pc : Array Value → State → Prop} {Qc : Array Value → State → Outcome → State → Prop} {XC : String → State → State → Prop} {mc ms : Nat} {free : Addr → Prop} {bytes : ByteArray} {maxL : Nat} {ret : Option FieldType}
    (hM : vx_Met l y ws rm Pc Qc XC mc ms free) (hblind : FrameBlind Pc) (hrc : rm.cells = mc) (hrs : rm.slots = ms)
    (hframes : rm.frames + 1 ≤ R.frames) (hlocals : W9 + (maxL + 11) + rm.locals ≤ R.locals)
    (hws : ∀ w ∈ ws, ∀ a' U, s.WarmedH U.vm → w.before a' U = true) (hcode : Cond.code y bytes maxL ret ∈ ws) (hinit : ∀ a' U, s.WarmedH U.vm → (Cond.initialized y.cls).before a' U = true) :
    vx_Back l R p e below s sargs y len W9 (PreOf R mc ms Pc) (PostOf Qc mc ms free) (vx_Post XC mc ms free) := by
  intro m meth c A g ig mk a X hg hsize hdg hW hn hp
  have h1 : (headSpec ws rm).pre.before a A.U = true := atoms_intro fun w hw => hws w hw _ _ X.warmed
  have h2 : (Cond.code y bytes maxL ret).before a A.U = true := hws _ hcode _ _ X.warmed
  have h3 : (Cond.initialized y.cls).before a A.U = true := hinit _ _ X.warmed
  have h4 : A.cells + (headSpec ws rm).room.cells ≤ R.cells := by rw [show (headSpec ws rm).room.cells = mc from hrc]; exact hp.1
  have h5 : A.slots + (headSpec ws rm).room.slots ≤ R.slots := by rw [show (headSpec ws rm).room.slots = ms from hrs]; exact hp.2.1
  have hPc : Pc a (A.U.calling g mk a) := hblind _ _ _ _ hp.2.2
  obtain ⟨U, Ls, c0, s0⟩ := A
  dsimp only [Pt.U, Pt.locs, Pt.cells, Pt.slots] at h1 h2 h3 h4 h5 X hn hPc ⊢
  obtain ⟨methY, cY, hmY, hcY, -, hlY, -, -, -, -⟩ := Cond.code_spec hn h2
  obtain ⟨kY, hkY, -⟩ := className_of_methodNamed hn
  have hinitY : kY.init = .initialized := Cond.initialized_spec (findClass_of_methodNamed hn) hkY h3
  have h : At U g.method c below := by rw [hg]; exact X.here
  have hlocals9 : W9 + (maxL + 11) + (headSpec ws rm).room.locals ≤ R.locals := hlocals
  have happ : (headSpec ws rm).appliesLoose y e.platform (U.calling g mk a) = true :=
    Spec.appliesLoose_calling (g := g) h hdg hn hkY hinitY
      (X.room_calling (g := g) (R' := (headSpec ws rm).room) hsize hmY hcY hframes (by rw [hlY]; omega) h4 h5) h1
  obtain ⟨mid, hmid⟩ := h.above
  have hfr : (U.setTop g).frames = (.java g :: mid) ++ below := by rw [State.frames_setTop' g h.top, hmid]; rfl
  obtain ⟨o, s₂, hsteps, -, hend, hq⟩ := Steps.callFree hM p X.admits X.cas X.clock (acts := []) hfr happ hPc trivial
  have hq' : vx_Q Qc XC mc ms free a (U.calling g mk a) o s₂ := hq
  rw [State.frames_setTop' g h.top] at hend
  obtain ⟨g₀, hg0⟩ := Option.isSome_iff_exists.mp h.top
  obtain ⟨r, hr⟩ := State.topJava?_eq_some.mp hg0
  have hr' : (({ U with heap := s₂.heap, slotsUsed := s₂.slotsUsed } : State).setVm s₂.vm).frames = .java g₀ :: r := hr
  rcases hq' with ⟨hqc, L, hfe, hL⟩ | ⟨q, rfl, E, ce, L, hx, hce, hcv, hcl, hW₂, hsm, hL⟩
  · obtain ⟨⟨v, rfl⟩, hW₂, e2, q2, q3, q4, q5, q6⟩ := id hfe
    have e3 : s₂ = ({ (U.calling g mk a).setFrames s₂.frames with heap := s₂.heap, slotsUsed := s₂.slotsUsed } : State).setVm s₂.vm := by
      have : s₂ = ({ s₂ with vm := (U.calling g mk a).vm } : State).setVm s₂.vm := rfl
      rw [e2] at this
      exact this
    obtain ⟨c₂, i₂, len₂, hc₂, hd₂, hf₂⟩ := hend
    have hW' : U.WarmedH s₂.vm := hW₂
    have hcc : c₂ = c := by
      have h1 : s₂.code? g.method = U.code? g.method := by
        rw [State.code?_eq, State.code?_eq, hW'.alike.method?]
      exact Option.some.inj (hc₂.symm.trans (h1.trans h.code))
    subst hcc
    have hlen : len₂ = len := by rw [hdg] at hd₂; cases hd₂; rfl
    subst hlen
    have hs₂ : s₂ = (({ U with heap := s₂.heap, slotsUsed := s₂.slotsUsed } : State).setVm s₂.vm).setTop { g with pc := g.pc + len₂, stack := v.toList ++ g.stack } := by
      refine e3.trans ?_
      rw [hf₂, State.calling_eq h.top, State.setFrames_setFrames, State.setTop_of_frames _ hr', hr]
      rfl
    have hsame : U.sameButNew ({ U with heap := s₂.heap, slotsUsed := s₂.slotsUsed } : State) L mc ms := by
      refine ⟨?_, q2, q3, q4, q5, q6⟩
      obtain ⟨t, ht, -⟩ := State.frames_cons hr
      show ({ U with heap := s₂.heap, slotsUsed := s₂.slotsUsed } : State) = { U.setFrames U.frames with heap := s₂.heap, slotsUsed := s₂.slotsUsed }
      rw [State.setFrames_self ht]
    subst hg
    refine Or.inl ⟨v, ⟨(({ U with heap := s₂.heap, slotsUsed := s₂.slotsUsed } : State).setVm s₂.vm), Ls ++ L, c0 + mc, s0 + ms⟩,
      ⟨X.admits, X.cas, X.clock, X.frames, X.room, X.hears, X.method, X.code, (X.here.setHeapUsed s₂.heap s₂.slotsUsed).setVm hW'.alike, X.tail, State.WarmedH.trans X.warmed hW', X.limits, X.bytes, X.same.trans (hsame.setVm s.vm)⟩,
      ⟨g, mk, s₂, L, rfl, rfl, hqc, rfl, hL, rfl, rfl⟩, ?_⟩
    show Steps p.tables e below _ ((({ U with heap := s₂.heap, slotsUsed := s₂.slotsUsed } : State).setVm s₂.vm).setTop { g with pc := g.pc + len₂, stack := v.toList ++ g.stack })
    rw [← hs₂]
    exact hsteps
  · obtain ⟨e2, q2, q3, q4, q5, q6⟩ := id hsm
    have e3 : s₂ = ({ (U.calling g mk a).setFrames s₂.frames with heap := s₂.heap, slotsUsed := s₂.slotsUsed } : State).setVm s₂.vm := by
      have : s₂ = ({ s₂ with vm := (U.calling g mk a).vm } : State).setVm s₂.vm := rfl
      rw [e2] at this
      exact this
    have hf₂ : s₂.frames = .throwing q :: .java g :: U.frames.tail := hend
    have hW' : U.WarmedH s₂.vm := hW₂
    have hs₂ : s₂ = ((({ U with heap := s₂.heap, slotsUsed := s₂.slotsUsed } : State).setVm s₂.vm).setTop g).pushFrame (.throwing q) := by
      refine e3.trans ?_
      rw [hf₂, State.calling_eq h.top, State.setFrames_setFrames, State.pushFrame, State.frames_setTop _ hr', State.setTop_of_frames _ hr', State.setFrames_setFrames, hr]
      rfl
    have hsame : U.sameButNew ({ U with heap := s₂.heap, slotsUsed := s₂.slotsUsed } : State) L mc ms := by
      refine ⟨?_, q2, q3, q4, q5, q6⟩
      obtain ⟨t, ht, -⟩ := State.frames_cons hr
      show ({ U with heap := s₂.heap, slotsUsed := s₂.slotsUsed } : State) = { U.setFrames U.frames with heap := s₂.heap, slotsUsed := s₂.slotsUsed }
      rw [State.setFrames_self ht]
    subst hg
    refine Or.inr ⟨q, ⟨(({ U with heap := s₂.heap, slotsUsed := s₂.slotsUsed } : State).setVm s₂.vm), Ls ++ L, c0 + mc, s0 + ms⟩,
      ⟨X.admits, X.cas, X.clock, X.frames, X.room, X.hears, X.method, X.code, (X.here.setHeapUsed s₂.heap s₂.slotsUsed).setVm hW'.alike, X.tail, State.WarmedH.trans X.warmed hW', X.limits, X.bytes, X.same.trans (hsame.setVm s.vm)⟩,
      ⟨g, mk, s₂, L, E, ce, rfl, rfl, hx, hce, hcv, hcl, rfl, hL, rfl, rfl⟩, ?_⟩
    show Steps p.tables e below _ (((({ U with heap := s₂.heap, slotsUsed := s₂.slotsUsed } : State).setVm s₂.vm).setTop g).pushFrame (.throwing q))
    rw [← hs₂]
    exact hsteps
end Payer
section Calls
variable {p : Program} {l : Launch} {e : Env} {R : Room} {s : State} {m : MethodId} {args : Array Value} {below : List Frame} {meth : Method} {c : Code} {T : State} {locs : List Loc} {cells slots : Nat}
theorem vx_callV (X : Stand p l e R s m args below meth c T locs cells slots) (hexec : p.tables.exec = Jvm.exec) {own C : String} {index : Nat} {y : MethodName} {bytes : ByteArray} {maxL : Nat} {ret : Option FieldType}
    (hown : s.vm.findClass own = some m.cls) (hlink : (Cond.methodLink own index y).before args s = true) (hinst : (Cond.instanceMethod y).before args s = true) (hsel : (Cond.selects C y y).before args s = true)
    (hcode : (Cond.code y bytes maxL ret).before args s = true) (hy : y.cls ≠ "java/lang/invoke/MethodHandle" ∧ y.cls ≠ "java/lang/invoke/VarHandle")
    {W9 : Nat} {Pre : Pt → Array Value → Prop} {Post : Pt → Array Value → Option Value → Pt → Prop} {PostX : Pt → Array Value → Addr → Pt → Prop} (hK : vx_Back l R p e below s args y 3 W9 Pre Post PostX)
    {b : Addr} {cellB : Cell} (hcell : T.heap[b]? = some cellB) (hobj : cellB.vm.isStatics = false) (hcls : s.vm.findClass C = some cellB.cls)
    {g : JFrame} (hg : g.method = m) (hsize : g.locals.size = c.maxLocals) {argsL rest : List Value} (hlen : ∀ sig, parseMethodDescriptor y.desc = some sig → argsL.length = sig.parameters.length)
    (hstack : g.stack = argsL.reverse ++ .ref b :: rest) (hW : 2 * g.monitorRoom + (rest.map fun v => v.category).sum ≤ W9) (hdg : decode c.code g.pc = .ok (.invokevirtual index, 3))
    (hpre : ∀ vm₁, s.WarmedH vm₁ → Pre ⟨T.setVm vm₁, locs, cells, slots⟩ (Value.ref b :: argsL).toArray) :
    (∃ (v : Option Value) (vm₁ : Vm) (B : Pt), s.WarmedH vm₁ ∧ Stand p l e R s m args below meth c B.U B.locs B.cells B.slots ∧ Post ⟨T.setVm vm₁, locs, cells, slots⟩ (Value.ref b :: argsL).toArray v B ∧
      ∀ target, Steps p.tables e below (B.U.setTop { g with pc := g.pc + 3, stack := v.toList ++ rest }) target → Steps p.tables e below (T.setTop g) target) ∨
    (∃ (q : Addr) (vm₁ : Vm) (B : Pt), s.WarmedH vm₁ ∧ Stand p l e R s m args below meth c B.U B.locs B.cells B.slots ∧ PostX ⟨T.setVm vm₁, locs, cells, slots⟩ (Value.ref b :: argsL).toArray q B ∧
      Steps p.tables e below (T.setTop g) ((B.U.setTop { g with stack := rest }).pushFrame (.throwing q))) := by
  obtain ⟨mk, methM, hnamed, hmethM, hstM, habM⟩ := Cond.instanceMethod_spec hinst
  obtain ⟨methM', cM, hmethM', -, -, -, -, -, -, hsigM⟩ := Cond.code_spec hnamed hcode
  cases hmethM.symm.trans hmethM'
  obtain ⟨c2, r2, m2, q1, q2, q3, q4, kP, hkP, hkPi⟩ := Cond.selects_spec hsel
  cases hcls.symm.trans q1
  cases (State.methodFound?_of_named hnamed hy).symm.trans q2
  cases hnamed.symm.trans q3
  have hselP : selectMethod e.platform s.vm cellB.cls mk = .method mk := by rw [Launch.admits_selectMethod X.admits]; exact q4
  obtain ⟨vm₁, X₁, hstep₁⟩ := X.invokevirtual hexec hown hlink hnamed hmethM hstM hkP hkPi hy (a := b) (cell := cellB) hcell
    (fun z h => by rw [h] at hobj; cases hobj) hselP hmethM habM hkP hkPi (g := g) hg (argsL := argsL) (rest := rest) (hlen _ hsigM) hstack hdg
  rcases hK m meth c ⟨T.setVm vm₁, locs, cells, slots⟩ { g with stack := rest } (.invokevirtual index) mk (Value.ref b :: argsL).toArray X₁ hg hsize hdg hW (X₁.named hnamed) (hpre vm₁ X₁.warmed) with ⟨v, B, X', hpost, hsteps⟩ | ⟨q, B, X', hpost, hsteps⟩
  · exact Or.inl ⟨v, vm₁, B, X₁.warmed, X', hpost, fun target h => hstep₁ _ fun acts => by rw [doInvoke_state]; exact hsteps.trans h⟩
  · exact Or.inr ⟨q, vm₁, B, X₁.warmed, X', hpost, hstep₁ _ fun acts => by rw [doInvoke_state]; exact hsteps⟩
theorem vx_callS (X : Stand p l e R s m args below meth c T locs cells slots) (hexec : p.tables.exec = Jvm.exec) {own : String} {index : Nat} {y : MethodName} {bytes : ByteArray} {maxL : Nat} {ret : Option FieldType}
    (hown : s.vm.findClass own = some m.cls) (hlink : (Cond.methodLink own index y).before args s = true) (hstat : (Cond.static y).before args s = true) (hinit : (Cond.initialized y.cls).before args s = true)
    (hcode : (Cond.code y bytes maxL ret).before args s = true) (hy : y.cls ≠ "java/lang/invoke/MethodHandle" ∧ y.cls ≠ "java/lang/invoke/VarHandle")
    {W9 : Nat} {Pre : Pt → Array Value → Prop} {Post : Pt → Array Value → Option Value → Pt → Prop} {PostX : Pt → Array Value → Addr → Pt → Prop} (hK : vx_Back l R p e below s args y 3 W9 Pre Post PostX)
    {g : JFrame} (hg : g.method = m) (hsize : g.locals.size = c.maxLocals) {argsL rest : List Value} (hlen : ∀ sig, parseMethodDescriptor y.desc = some sig → argsL.length = sig.parameters.length)
    (hstack : g.stack = argsL.reverse ++ rest) (hW : 2 * g.monitorRoom + (rest.map fun v => v.category).sum ≤ W9) (hdg : decode c.code g.pc = .ok (.invokestatic index, 3))
    (hpre : ∀ vm₁, s.WarmedH vm₁ → Pre ⟨T.setVm vm₁, locs, cells, slots⟩ argsL.toArray) :
    (∃ (v : Option Value) (vm₁ : Vm) (B : Pt), s.WarmedH vm₁ ∧ Stand p l e R s m args below meth c B.U B.locs B.cells B.slots ∧ Post ⟨T.setVm vm₁, locs, cells, slots⟩ argsL.toArray v B ∧
      ∀ target, Steps p.tables e below (B.U.setTop { g with pc := g.pc + 3, stack := v.toList ++ rest }) target → Steps p.tables e below (T.setTop g) target) ∨
    (∃ (q : Addr) (vm₁ : Vm) (B : Pt), s.WarmedH vm₁ ∧ Stand p l e R s m args below meth c B.U B.locs B.cells B.slots ∧ PostX ⟨T.setVm vm₁, locs, cells, slots⟩ argsL.toArray q B ∧
      Steps p.tables e below (T.setTop g) ((B.U.setTop { g with stack := rest }).pushFrame (.throwing q))) := by
  obtain ⟨mk, hnamed⟩ := Cond.code_named hcode
  obtain ⟨methM, cM, hmethM, -, -, -, -, -, -, hsigM⟩ := Cond.code_spec hnamed hcode
  have hstatic : methM.isStatic = true := Cond.static_spec hnamed hmethM hstat
  obtain ⟨kP, hkP, -⟩ := className_of_methodNamed hnamed
  have hinitP : kP.init = .initialized := Cond.initialized_spec (findClass_of_methodNamed hnamed) hkP hinit
  obtain ⟨vm₁, X₁, hstep₁⟩ := X.invokestatic hexec hown hlink hnamed hmethM hstatic hkP hinitP hy (g := g) hg (argsL := argsL) (rest := rest) (hlen _ hsigM) hstack hdg
  rcases hK m meth c ⟨T.setVm vm₁, locs, cells, slots⟩ { g with stack := rest } (.invokestatic index) mk argsL.toArray X₁ hg hsize hdg hW (X₁.named hnamed) (hpre vm₁ X₁.warmed) with ⟨v, B, X', hpost, hsteps⟩ | ⟨q, B, X', hpost, hsteps⟩
  · exact Or.inl ⟨v, vm₁, B, X₁.warmed, X', hpost, fun target h => hstep₁ _ fun acts => by rw [doInvoke_state]; exact hsteps.trans h⟩
  · exact Or.inr ⟨q, vm₁, B, X₁.warmed, X', hpost, hstep₁ _ fun acts => by rw [doInvoke_state]; exact hsteps⟩
end Calls
theorem vx_cls {s : State} {T : State} {vm₁ : Vm} {E : String} {k : ClassId} (hW : s.WarmedH vm₁) (h : (T.setVm vm₁).vm.findClass E = some k) : s.vm.findClass E = some k := by
  have h1 : vm₁.findClass E = some k := h
  rw [hW.alike.findClass] at h1
  exact h1
/-- the method's frame g, with q thrown over it -/
def vx_W (p : Program) (l : Launch) (e : Env) (R : Room) (s : State) (m : MethodId) (args : Array Value) (below : List Frame) (meth : Method) (c : Code) (H : Heap) (locs : List Loc) (cells slots : Nat) (Q : State → Prop) (g : JFrame) (q : Addr) : Prop :=
  ∀ T : State, T.heap = H → Stand p l e R s m args below meth c T locs cells slots → ∃ t, Steps p.tables e below ((T.setTop g).pushFrame (.throwing q)) t ∧ Q t
def vx_Run (p : Program) (l : Launch) (e : Env) (R : Room) (s : State) (m : MethodId) (args : Array Value) (below : List Frame) (meth : Method) (c : Code) (H : Heap) (locs : List Loc) (cells slots mc ms : Nat) (g : JFrame) (rest : List Value) (Qa : State → Outcome → State → Prop) (XC : String → State → State → Prop) (free : Addr → Prop) : Prop :=
  ∀ T : State, T.heap = H → Stand p l e R s m args below meth c T locs cells slots →
    (∃ (v : Option Value) (st₀ t T' : State) (L : List Loc), st₀.heap = H ∧ Stand p l e R s m args below meth c T' (locs ++ L) (cells + mc) (slots + ms) ∧ (∀ q ∈ L, free q.base) ∧ T'.heap = t.heap ∧ T'.vm = t.vm ∧ Qa st₀ (.returned v) t ∧
      Goes p e below T g T' { g with pc := g.pc + 3, stack := v.toList ++ rest }) ∨
    (∃ (q : Addr) (st₀ t T' : State) (L : List Loc) (E : String) (ce : Cell), st₀.heap = H ∧ Stand p l e R s m args below meth c T' (locs ++ L) (cells + mc) (slots + ms) ∧ (∀ z ∈ L, free z.base) ∧ T'.heap = t.heap ∧ T'.vm = t.vm ∧ XC E st₀ t ∧ t.heap[q]? = some ce ∧ ce.vm = .none ∧ s.vm.findClass E = some ce.cls ∧
      Steps p.tables e below (T.setTop g) ((T'.setTop { g with stack := rest }).pushFrame (.throwing q)))
def vx_X {S : Type} (px : S → Prop) (B : String → S → State → Prop) (A : Nat → Prop) : String → State → State → Prop := fun E st t => ∃ u : S, px u ∧ B E u t ∧ va_F A st t
section Runs
variable {p : Program} {l : Launch} {e : Env} {R : Room} {s : State} {m : MethodId} {args : Array Value} {below : List Frame} {meth : Method} {c : Code} {H : Heap} {locs : List Loc} {cells slots : Nat}
variable {y : MethodName} {bytes cc : ByteArray} {maxL nL mc ms n index : Nat} {ret : Option FieldType} {ws : List Cond} {rm : Room} {Pc : Array Value → State → Prop} {Qc : Array Value → State → Outcome → State → Prop} {XC : String → State → State → Prop} {free : Addr → Prop} {Ts : List Cond} {own C : String} {b : Addr} {As rest : List Value} {g : JFrame}
theorem vx_callBack (cb : CallB R s args own index y bytes maxL ret ws rm mc ms n) (hM : vx_Met l y ws rm Pc Qc XC mc ms free) (hbl : FrameBlind Pc) : vx_Back l R p e below s args y 3 8 (PreOf R mc ms Pc) (PostOf Qc mc ms free) (vx_Post XC mc ms free) := by
  obtain ⟨hrc, hrs, hfr, hlo, hws, hcw, -, hini, -⟩ := cb
  exact vx_back (bytes := bytes) (maxL := maxL) (ret := ret) hM hbl hrc hrs hfr hlo hws hcw (fun a' U hW => word_at hW (Or.inl (by first | rfl | simp [Cond.onTables, Cond.keeps, Cond.steady])) hini)
theorem vx_runV (S : CallFix p m c cc nL s args Ts own) (hM : vx_Met l y ws rm Pc Qc XC mc ms free) (cw : CallW R s args own C index y bytes maxL ret ws rm mc ms n) (hp : PreV s H C b Pc As)
    (hg : g.method = m) (hn : As.length = n) (hsize : g.locals.size = nL) (hstack : g.stack = As.reverse ++ .ref b :: rest) (hW : 2 * g.monitorRoom + (rest.map fun v => v.category).sum ≤ 8) (hdg : decode cc g.pc = .ok (.invokevirtual index, 3)) (hf : cells + mc ≤ R.cells ∧ slots + ms ≤ R.slots) :
    vx_Run p l e R s m args below meth c H locs cells slots mc ms g rest (Qc (Value.ref b :: As).toArray) XC free := by
  have hK : vx_Back l R p e below s args y 3 8 (PreOf R mc ms Pc) (PostOf Qc mc ms free) (vx_Post XC mc ms free) := vx_callBack cw.1 hM hp.1
  obtain ⟨⟨-, -, -, -, -, -, hcode, -, hy, hlen, hl⟩, hin, hse⟩ := cw
  obtain ⟨hx, hb, hml, ho, -⟩ := S
  obtain ⟨-, ⟨cellB, hcB, hoB, hclB⟩, hPc⟩ := hp
  intro T hT X
  rcases vx_callV X hx (C := C) (bytes := bytes) (maxL := maxL) (ret := ret) ho hl hin hse hcode hy hK (by rw [hT]; exact hcB) hoB hclB hg (hsize.trans hml.symm) (argsL := As) (rest := rest) (fun sig h => hn.trans (hlen sig h)) hstack hW (by rw [hb]; exact hdg)
    (fun vm₁ hW₁ => ⟨hf.1, hf.2, hPc (T.setVm vm₁) hT hW₁⟩) with ⟨v, vm₁, ⟨U', l2, c2, s2⟩, hW₁, X', ⟨g', mk, t, L, e1, e2, hq, h1, hL, h2, h3⟩, st⟩ | ⟨q, vm₁, ⟨U', l2, c2, s2⟩, hW₁, X', ⟨g', mk, t, L, E, ce, e1, e2, hq, hce, hcv, hcl, h1, hL, h2, h3⟩, st⟩
  · dsimp only [Pt.U, Pt.locs, Pt.cells, Pt.slots] at X' e1 e2 h1 h2 h3 st
    subst h1; subst h2; subst h3
    exact Or.inl ⟨v, (T.setVm vm₁).calling g' mk (Value.ref b :: As).toArray, t, U', L, hT, X', hL, e1, e2, hq, st⟩
  · dsimp only [Pt.U, Pt.locs, Pt.cells, Pt.slots] at X' e1 e2 h1 h2 h3 st hcl
    subst h1; subst h2; subst h3
    exact Or.inr ⟨q, (T.setVm vm₁).calling g' mk (Value.ref b :: As).toArray, t, U', L, E, ce, hT, X', hL, e1, e2, hq, hce, hcv, vx_cls hW₁ hcl, st⟩
theorem vx_runS (S : CallFix p m c cc nL s args Ts own) (hM : vx_Met l y ws rm Pc Qc XC mc ms free) (cw : CallB R s args own index y bytes maxL ret ws rm mc ms n ∧ (Cond.static y).before args s = true) (hp : PreS s H Pc As)
    (hg : g.method = m) (hn : As.length = n) (hsize : g.locals.size = nL) (hstack : g.stack = As.reverse ++ rest) (hW : 2 * g.monitorRoom + (rest.map fun v => v.category).sum ≤ 8) (hdg : decode cc g.pc = .ok (.invokestatic index, 3)) (hf : cells + mc ≤ R.cells ∧ slots + ms ≤ R.slots) :
    vx_Run p l e R s m args below meth c H locs cells slots mc ms g rest (Qc As.toArray) XC free := by
  have hK : vx_Back l R p e below s args y 3 8 (PreOf R mc ms Pc) (PostOf Qc mc ms free) (vx_Post XC mc ms free) := vx_callBack cw.1 hM hp.1
  obtain ⟨⟨-, -, -, -, -, -, hcode, hini, hy, hlen, hl⟩, hstt⟩ := cw
  obtain ⟨hx, hb, hml, ho, -⟩ := S
  intro T hT X
  rcases vx_callS X hx (bytes := bytes) (maxL := maxL) (ret := ret) ho hl hstt hini hcode hy hK hg (hsize.trans hml.symm) (argsL := As) (rest := rest) (fun sig h => hn.trans (hlen sig h)) hstack hW (by rw [hb]; exact hdg)
    (fun vm₁ hW₁ => ⟨hf.1, hf.2, hp.2 (T.setVm vm₁) hT hW₁⟩) with ⟨v, vm₁, ⟨U', l2, c2, s2⟩, hW₁, X', ⟨g', mk, t, L, e1, e2, hq, h1, hL, h2, h3⟩, st⟩ | ⟨q, vm₁, ⟨U', l2, c2, s2⟩, hW₁, X', ⟨g', mk, t, L, E, ce, e1, e2, hq, hce, hcv, hcl, h1, hL, h2, h3⟩, st⟩
  · dsimp only [Pt.U, Pt.locs, Pt.cells, Pt.slots] at X' e1 e2 h1 h2 h3 st
    subst h1; subst h2; subst h3
    exact Or.inl ⟨v, (T.setVm vm₁).calling g' mk As.toArray, t, U', L, hT, X', hL, e1, e2, hq, st⟩
  · dsimp only [Pt.U, Pt.locs, Pt.cells, Pt.slots] at X' e1 e2 h1 h2 h3 st hcl
    subst h1; subst h2; subst h3
    exact Or.inr ⟨q, (T.setVm vm₁).calling g' mk As.toArray, t, U', L, E, ce, hT, X', hL, e1, e2, hq, hce, hcv, vx_cls hW₁ hcl, st⟩
end Runs
section Rows
variable {p : Program} {l : Launch} {e : Env} {R : Room} {s : State} {m : MethodId} {args : Array Value} {below : List Frame} {meth : Method} {c : Code} {H : Heap} {locs : List Loc} {cells slots : Nat} {Q : State → Prop}
variable {mc ms : Nat} {free : Addr → Prop} {A0 A1 : Nat → Prop} {H0 : Heap} {a : Array Value} {pc : Nat} {ls : Array Slot} {st0 rest : List Value}
theorem vx_keep {st₀ t T' : State} {L : List Loc} (h0 : st₀.heap = H) (e1 : T'.heap = t.heap) (hS : va_S A0 H0 H locs) (hA : ∀ q, q < H.size → A1 q → A0 q) (hf : ∀ q, free q → A0 q) (hL : ∀ q ∈ L, free q.base) (hF : va_F A1 st₀ t) :
    H.size ≤ T'.heap.size ∧ (∀ q : Nat, q < H.size → ¬ A1 q → T'.heap[q]? = H[q]?) ∧ va_S A0 H0 T'.heap (locs ++ L) := by
  obtain ⟨hz, hk⟩ := hF
  rw [h0] at hz hk
  exact ⟨by rw [e1]; exact hz, fun q h1 h2 => by rw [e1]; exact hk q h1 h2,
    ⟨Nat.le_trans hS.1 (by rw [e1]; exact hz), fun q h1 h2 => by rw [e1, hk q (Nat.lt_of_lt_of_le h1 hS.1) (fun z => h2 (hA q (Nat.lt_of_lt_of_le h1 hS.1) z))]; exact hS.2.1 q h1 h2, fun q hq => by
      rcases List.mem_append.mp hq with h | h
      · exact hS.2.2 q h
      · exact hf _ (hL q h)⟩⟩
theorem vx_calli {S SX : Type} {post : Int32 → S → Prop} {px : SX → Prop} {B : S → State → Prop} {BX : String → SX → State → Prop} {AX : Nat → Prop} (hr : vx_Run p l e R s m args below meth c H locs cells slots mc ms (F0 m pc ls st0) rest (va_Qi post B A1 a) (vx_X px BX AX) free) (hS : va_S A0 H0 H locs) (hA : ∀ q, q < H.size → A1 q → A0 q) (hf : ∀ q, free q → A0 q) (hAX : ∀ q, q < H.size → AX q → A0 q)
    (kx : ∀ (E : String) (ce : Cell) (q9 : Addr) (u : SX) (t : State) (H1 : Heap) (locs1 : List Loc), t.heap = H1 → s.vm.Alike t.vm → px u → BX E u t → H.size ≤ H1.size → (∀ q : Nat, q < H.size → ¬ AX q → H1[q]? = H[q]?) → va_S A0 H0 H1 locs1 → H1[q9]? = some ce → ce.vm = .none → s.vm.findClass E = some ce.cls → vx_W p l e R s m args below meth c H1 locs1 (cells + mc) (slots + ms) Q (F0 m pc ls rest) q9)
    (kk : ∀ (r : Int32) (u : S) (t : State) (H1 : Heap) (locs1 : List Loc), t.heap = H1 → s.vm.Alike t.vm → post r u → B u t → H.size ≤ H1.size → (∀ q : Nat, q < H.size → ¬ A1 q → H1[q]? = H[q]?) → va_S A0 H0 H1 locs1 → W p l e R s m args below meth c H1 locs1 (cells + mc) (slots + ms) Q (F0 m (pc + 3) ls (.int r :: rest))) : W p l e R s m args below meth c H locs cells slots Q (F0 m pc ls st0) := by
  intro T hT X
  rcases hr T hT X with ⟨v, st₀, t, T', L, h0, X', hL, e1, e2, ⟨⟨r, u, hv, hp, hb⟩, hF⟩, st⟩ | ⟨q, st₀, t, T', L, E, ce, h0, X', hL, e1, e2, ⟨u, hp, hb, hF⟩, hce, hcv, hcl, st⟩
  · cases hv
    obtain ⟨k1, k2, k3⟩ := vx_keep h0 e1 hS hA hf hL hF
    obtain ⟨t2, a1, b1⟩ := kk r u t T'.heap (locs ++ L) e1.symm (by rw [← e2]; exact X'.warmed.alike) hp hb k1 k2 k3 T' rfl X'
    exact ⟨t2, st t2 a1, b1⟩
  · obtain ⟨k1, k2, k3⟩ := vx_keep h0 e1 hS hAX hf hL hF
    obtain ⟨t2, a1, b1⟩ := kx E ce q u t T'.heap (locs ++ L) e1.symm (by rw [← e2]; exact X'.warmed.alike) hp hb k1 k2 k3 (by rw [e1]; exact hce) hcv hcl T' rfl X'
    exact ⟨t2, st.trans a1, b1⟩
theorem vx_calll {S SX : Type} {post : Int64 → S → Prop} {px : SX → Prop} {B : S → State → Prop} {BX : String → SX → State → Prop} {AX : Nat → Prop} (hr : vx_Run p l e R s m args below meth c H locs cells slots mc ms (F0 m pc ls st0) rest (va_Ql post B A1 a) (vx_X px BX AX) free) (hS : va_S A0 H0 H locs) (hA : ∀ q, q < H.size → A1 q → A0 q) (hf : ∀ q, free q → A0 q) (hAX : ∀ q, q < H.size → AX q → A0 q)
    (kx : ∀ (E : String) (ce : Cell) (q9 : Addr) (u : SX) (t : State) (H1 : Heap) (locs1 : List Loc), t.heap = H1 → s.vm.Alike t.vm → px u → BX E u t → H.size ≤ H1.size → (∀ q : Nat, q < H.size → ¬ AX q → H1[q]? = H[q]?) → va_S A0 H0 H1 locs1 → H1[q9]? = some ce → ce.vm = .none → s.vm.findClass E = some ce.cls → vx_W p l e R s m args below meth c H1 locs1 (cells + mc) (slots + ms) Q (F0 m pc ls rest) q9)
    (kk : ∀ (r : Int64) (u : S) (t : State) (H1 : Heap) (locs1 : List Loc), t.heap = H1 → s.vm.Alike t.vm → post r u → B u t → H.size ≤ H1.size → (∀ q : Nat, q < H.size → ¬ A1 q → H1[q]? = H[q]?) → va_S A0 H0 H1 locs1 → W p l e R s m args below meth c H1 locs1 (cells + mc) (slots + ms) Q (F0 m (pc + 3) ls (.long r :: rest))) : W p l e R s m args below meth c H locs cells slots Q (F0 m pc ls st0) := by
  intro T hT X
  rcases hr T hT X with ⟨v, st₀, t, T', L, h0, X', hL, e1, e2, ⟨⟨r, u, hv, hp, hb⟩, hF⟩, st⟩ | ⟨q, st₀, t, T', L, E, ce, h0, X', hL, e1, e2, ⟨u, hp, hb, hF⟩, hce, hcv, hcl, st⟩
  · cases hv
    obtain ⟨k1, k2, k3⟩ := vx_keep h0 e1 hS hA hf hL hF
    obtain ⟨t2, a1, b1⟩ := kk r u t T'.heap (locs ++ L) e1.symm (by rw [← e2]; exact X'.warmed.alike) hp hb k1 k2 k3 T' rfl X'
    exact ⟨t2, st t2 a1, b1⟩
  · obtain ⟨k1, k2, k3⟩ := vx_keep h0 e1 hS hAX hf hL hF
    obtain ⟨t2, a1, b1⟩ := kx E ce q u t T'.heap (locs ++ L) e1.symm (by rw [← e2]; exact X'.warmed.alike) hp hb k1 k2 k3 (by rw [e1]; exact hce) hcv hcl T' rfl X'
    exact ⟨t2, st.trans a1, b1⟩
theorem vx_callf {S SX : Type} {post : UInt32 → S → Prop} {px : SX → Prop} {B : S → State → Prop} {BX : String → SX → State → Prop} {AX : Nat → Prop} (hr : vx_Run p l e R s m args below meth c H locs cells slots mc ms (F0 m pc ls st0) rest (va_Qf post B A1 a) (vx_X px BX AX) free) (hS : va_S A0 H0 H locs) (hA : ∀ q, q < H.size → A1 q → A0 q) (hf : ∀ q, free q → A0 q) (hAX : ∀ q, q < H.size → AX q → A0 q)
    (kx : ∀ (E : String) (ce : Cell) (q9 : Addr) (u : SX) (t : State) (H1 : Heap) (locs1 : List Loc), t.heap = H1 → s.vm.Alike t.vm → px u → BX E u t → H.size ≤ H1.size → (∀ q : Nat, q < H.size → ¬ AX q → H1[q]? = H[q]?) → va_S A0 H0 H1 locs1 → H1[q9]? = some ce → ce.vm = .none → s.vm.findClass E = some ce.cls → vx_W p l e R s m args below meth c H1 locs1 (cells + mc) (slots + ms) Q (F0 m pc ls rest) q9)
    (kk : ∀ (r : UInt32) (u : S) (t : State) (H1 : Heap) (locs1 : List Loc), t.heap = H1 → s.vm.Alike t.vm → post r u → B u t → H.size ≤ H1.size → (∀ q : Nat, q < H.size → ¬ A1 q → H1[q]? = H[q]?) → va_S A0 H0 H1 locs1 → W p l e R s m args below meth c H1 locs1 (cells + mc) (slots + ms) Q (F0 m (pc + 3) ls (.float r :: rest))) : W p l e R s m args below meth c H locs cells slots Q (F0 m pc ls st0) := by
  intro T hT X
  rcases hr T hT X with ⟨v, st₀, t, T', L, h0, X', hL, e1, e2, ⟨⟨r, u, hv, hp, hb⟩, hF⟩, st⟩ | ⟨q, st₀, t, T', L, E, ce, h0, X', hL, e1, e2, ⟨u, hp, hb, hF⟩, hce, hcv, hcl, st⟩
  · cases hv
    obtain ⟨k1, k2, k3⟩ := vx_keep h0 e1 hS hA hf hL hF
    obtain ⟨t2, a1, b1⟩ := kk r u t T'.heap (locs ++ L) e1.symm (by rw [← e2]; exact X'.warmed.alike) hp hb k1 k2 k3 T' rfl X'
    exact ⟨t2, st t2 a1, b1⟩
  · obtain ⟨k1, k2, k3⟩ := vx_keep h0 e1 hS hAX hf hL hF
    obtain ⟨t2, a1, b1⟩ := kx E ce q u t T'.heap (locs ++ L) e1.symm (by rw [← e2]; exact X'.warmed.alike) hp hb k1 k2 k3 (by rw [e1]; exact hce) hcv hcl T' rfl X'
    exact ⟨t2, st.trans a1, b1⟩
theorem vx_calld {S SX : Type} {post : UInt64 → S → Prop} {px : SX → Prop} {B : S → State → Prop} {BX : String → SX → State → Prop} {AX : Nat → Prop} (hr : vx_Run p l e R s m args below meth c H locs cells slots mc ms (F0 m pc ls st0) rest (va_Qd post B A1 a) (vx_X px BX AX) free) (hS : va_S A0 H0 H locs) (hA : ∀ q, q < H.size → A1 q → A0 q) (hf : ∀ q, free q → A0 q) (hAX : ∀ q, q < H.size → AX q → A0 q)
    (kx : ∀ (E : String) (ce : Cell) (q9 : Addr) (u : SX) (t : State) (H1 : Heap) (locs1 : List Loc), t.heap = H1 → s.vm.Alike t.vm → px u → BX E u t → H.size ≤ H1.size → (∀ q : Nat, q < H.size → ¬ AX q → H1[q]? = H[q]?) → va_S A0 H0 H1 locs1 → H1[q9]? = some ce → ce.vm = .none → s.vm.findClass E = some ce.cls → vx_W p l e R s m args below meth c H1 locs1 (cells + mc) (slots + ms) Q (F0 m pc ls rest) q9)
    (kk : ∀ (r : UInt64) (u : S) (t : State) (H1 : Heap) (locs1 : List Loc), t.heap = H1 → s.vm.Alike t.vm → post r u → B u t → H.size ≤ H1.size → (∀ q : Nat, q < H.size → ¬ A1 q → H1[q]? = H[q]?) → va_S A0 H0 H1 locs1 → W p l e R s m args below meth c H1 locs1 (cells + mc) (slots + ms) Q (F0 m (pc + 3) ls (.double r :: rest))) : W p l e R s m args below meth c H locs cells slots Q (F0 m pc ls st0) := by
  intro T hT X
  rcases hr T hT X with ⟨v, st₀, t, T', L, h0, X', hL, e1, e2, ⟨⟨r, u, hv, hp, hb⟩, hF⟩, st⟩ | ⟨q, st₀, t, T', L, E, ce, h0, X', hL, e1, e2, ⟨u, hp, hb, hF⟩, hce, hcv, hcl, st⟩
  · cases hv
    obtain ⟨k1, k2, k3⟩ := vx_keep h0 e1 hS hA hf hL hF
    obtain ⟨t2, a1, b1⟩ := kk r u t T'.heap (locs ++ L) e1.symm (by rw [← e2]; exact X'.warmed.alike) hp hb k1 k2 k3 T' rfl X'
    exact ⟨t2, st t2 a1, b1⟩
  · obtain ⟨k1, k2, k3⟩ := vx_keep h0 e1 hS hAX hf hL hF
    obtain ⟨t2, a1, b1⟩ := kx E ce q u t T'.heap (locs ++ L) e1.symm (by rw [← e2]; exact X'.warmed.alike) hp hb k1 k2 k3 (by rw [e1]; exact hce) hcv hcl T' rfl X'
    exact ⟨t2, st.trans a1, b1⟩
theorem vx_callv {S SX : Type} {post : S → Prop} {px : SX → Prop} {B : S → State → Prop} {BX : String → SX → State → Prop} {AX : Nat → Prop} (hr : vx_Run p l e R s m args below meth c H locs cells slots mc ms (F0 m pc ls st0) rest (va_Qv post B A1 a) (vx_X px BX AX) free) (hS : va_S A0 H0 H locs) (hA : ∀ q, q < H.size → A1 q → A0 q) (hf : ∀ q, free q → A0 q) (hAX : ∀ q, q < H.size → AX q → A0 q)
    (kx : ∀ (E : String) (ce : Cell) (q9 : Addr) (u : SX) (t : State) (H1 : Heap) (locs1 : List Loc), t.heap = H1 → s.vm.Alike t.vm → px u → BX E u t → H.size ≤ H1.size → (∀ q : Nat, q < H.size → ¬ AX q → H1[q]? = H[q]?) → va_S A0 H0 H1 locs1 → H1[q9]? = some ce → ce.vm = .none → s.vm.findClass E = some ce.cls → vx_W p l e R s m args below meth c H1 locs1 (cells + mc) (slots + ms) Q (F0 m pc ls rest) q9)
    (kk : ∀ (u : S) (t : State) (H1 : Heap) (locs1 : List Loc), t.heap = H1 → s.vm.Alike t.vm → post u → B u t → H.size ≤ H1.size → (∀ q : Nat, q < H.size → ¬ A1 q → H1[q]? = H[q]?) → va_S A0 H0 H1 locs1 → W p l e R s m args below meth c H1 locs1 (cells + mc) (slots + ms) Q (F0 m (pc + 3) ls (rest))) : W p l e R s m args below meth c H locs cells slots Q (F0 m pc ls st0) := by
  intro T hT X
  rcases hr T hT X with ⟨v, st₀, t, T', L, h0, X', hL, e1, e2, ⟨⟨u, hv, hp, hb⟩, hF⟩, st⟩ | ⟨q, st₀, t, T', L, E, ce, h0, X', hL, e1, e2, ⟨u, hp, hb, hF⟩, hce, hcv, hcl, st⟩
  · cases hv
    obtain ⟨k1, k2, k3⟩ := vx_keep h0 e1 hS hA hf hL hF
    obtain ⟨t2, a1, b1⟩ := kk u t T'.heap (locs ++ L) e1.symm (by rw [← e2]; exact X'.warmed.alike) hp hb k1 k2 k3 T' rfl X'
    exact ⟨t2, st t2 a1, b1⟩
  · obtain ⟨k1, k2, k3⟩ := vx_keep h0 e1 hS hAX hf hL hF
    obtain ⟨t2, a1, b1⟩ := kx E ce q u t T'.heap (locs ++ L) e1.symm (by rw [← e2]; exact X'.warmed.alike) hp hb k1 k2 k3 (by rw [e1]; exact hce) hcv hcl T' rfl X'
    exact ⟨t2, st.trans a1, b1⟩
/-- caught by the row x of this method's table; the rows ahead don't take it -/
theorem vx_catch {own name : String} {E : String} {ce : Cell} {q : Addr} (hown : s.vm.findClass own = some m.cls) (pre : List ExceptionTableEntry) (x : ExceptionTableEntry) (suf : List ExceptionTableEntry) (hsplit : c.exceptionTable.toList = pre ++ x :: suf)
    (hpass : ∀ z ∈ pre, covers z pc = false ∨ (z.catchType ≠ 0 ∧ ∃ nm : String, (Cond.classLink own z.catchType nm).before args s = true ∧ va_Nc E nm s)) (hx : covers x pc = true) (h0 : x.catchType ≠ 0)
    (hlink : (Cond.classLink own x.catchType name).before args s = true) (hcast : (Cond.castable E name).before args s = true) (hcell : H[q]? = some ce) (hv : ce.vm = .none) (hcl : s.vm.findClass E = some ce.cls)
    (kk : W p l e R s m args below meth c H locs cells slots Q (F0 m x.handlerPc ls [.ref q])) : vx_W p l e R s m args below meth c H locs cells slots Q (F0 m pc ls rest) q := by
  intro T hT X
  have hpl : e.platform.magicAccessors = ({} : Platform).magicAccessors := by rw [X.admits.platform]
  obtain ⟨c3, c4, hc3, hc4, hasg⟩ := Cond.castable_spec hcast
  cases Option.some.inj (hc3.symm.trans hcl)
  obtain ⟨c5, hc5, hcl5⟩ := Cond.classLink_spec hown hlink e.platform hpl
  cases Option.some.inj (hc4.symm.trans hc5)
  obtain ⟨vm', X', st⟩ := X.thenCaughtThrough q (g := F0 m pc ls rest) rfl (Steps.refl _) (by rw [hT]; exact hcell) (by rw [hv]; rfl) (by obtain ⟨k9, h9, -⟩ := Vm.findClass_spec hcl; exact ⟨k9, h9⟩) pre x suf hsplit
    (fun z hz => by
      rcases hpass z hz with h | ⟨hz0, nm, hl1, hn1⟩
      · exact Or.inl h
      · obtain ⟨c6, hc6, hcl6⟩ := Cond.classLink_spec hown hl1 e.platform hpl
        obtain ⟨a8, b8, h1, h2, h3⟩ := hn1
        cases Option.some.inj (h1.symm.trans hcl)
        cases Option.some.inj (h2.symm.trans hc6)
        exact Or.inr ⟨hz0, _, hcl6, h3⟩) hx (Or.inr ⟨h0, c4, hcl5, hasg⟩)
  obtain ⟨t, a1, b1⟩ := kk (T.setVm vm') hT X'
  exact ⟨t, st.trans a1, b1⟩
end Rows
section Ends
variable {p : Program} {l : Launch} {e : Env} {R : Room} {s : State} {m : MethodId} {args : Array Value} {below : List Frame} {meth : Method} {c : Code} {H : Heap} {locs : List Loc} {cells slots : Nat} {Q : State → Prop}
variable {mc ms : Nat} {free : Addr → Prop} {A0 A1 : Nat → Prop} {H0 : Heap} {a : Array Value} {ls : Array Slot} {st0 rest : List Value}
variable {Qc : Array Value → State → Outcome → State → Prop} {XC : String → State → State → Prop}
/-- what a body that may throw owes at its end -/
def vx_MQ (below : List Frame) (Qc : Array Value → State → Outcome → State → Prop) (XC : String → State → State → Prop) (a : Array Value) (s : State) (mc ms : Nat) (free : Addr → Prop) : State → Prop := fun t =>
  ∃ o, t.status = .running ∧ Ended t below o ∧ vx_Q Qc XC mc ms free a s o t
theorem vx_ret {g : JFrame} {mc ms : Nat} (k : W p l e R s m args below meth c H locs cells slots (MQ below Qc args s mc ms free) g) : W p l e R s m args below meth c H locs cells slots (vx_MQ below Qc XC args s mc ms free) g := by
  intro T hT X
  obtain ⟨t, a1, o, b1, b2, b3, b4⟩ := k T hT X
  exact ⟨t, a1, o, b1, b2, Or.inl ⟨b3, b4⟩⟩
/-- not caught here: it goes on to the caller -/
theorem vx_widen {g : JFrame} {q : Addr} {k n : Nat} (h1 : cells ≤ k) (h2 : slots ≤ n) (kk : vx_W p l e R s m args below meth c H locs k n Q g q) : vx_W p l e R s m args below meth c H locs cells slots Q g q := fun T hT X => kk T hT (stand_widen X h1 h2)
theorem vx_out {pc : Nat} {E : String} {ce : Cell} {q : Addr} {mc ms : Nat} (hout : ∀ x ∈ c.exceptionTable.toList, covers x pc = false) (hlocks : meth.locks = false) (hcell : H[q]? = some ce) (hv : ce.vm = .none) (hcl : s.vm.findClass E = some ce.cls)
    (hx : ∀ t : State, t.heap = H → s.vm.Alike t.vm → XC E s t) (hf : ∀ z ∈ locs, free z.base) (hc : cells ≤ mc) (hs : slots ≤ ms) :
    vx_W p l e R s m args below meth c H locs cells slots (vx_MQ below Qc XC args s mc ms free) (F0 m pc ls rest) q := by
  intro T hT X
  obtain ⟨st1, hrun, hend, hW, hsm⟩ := X.leaveThrown q (g := F0 m pc ls rest) rfl rfl rfl hout hlocks
  have hcell9 : (T.setFrames (.throwing q :: below)).heap[q]? = some ce := by
    show T.heap[q]? = some ce
    rw [hT]; exact hcell
  exact ⟨_, st1, .threw q, hrun, hend, Or.inr ⟨q, rfl, E, ce, locs, hx _ hT hW.alike, hcell9, hv, hcl, hW, hsm.mono hc hs, hf⟩⟩
theorem vx_frame {U : State} {k n : Nat} (h : s.sameButNew ({ U with vm := s.vm } : State) locs k n) : s.heap.size ≤ U.heap.size ∧ ∀ q : Nat, q < s.heap.size → (∀ z ∈ locs, z.base ≠ q) → U.heap[q]? = s.heap[q]? := by
  obtain ⟨-, h2, -, -, -, h6⟩ := h
  refine ⟨h2, fun q hq hz => ?_⟩
  obtain ⟨c9, e1, e2, e3, e4⟩ := h6 q _ (Array.getElem?_eq_getElem hq)
  have hs : c9.slots = (s.heap[q]).slots := Array.ext_getElem? fun i => e4 i fun hm => hz _ hm rfl
  have h9 : c9 = s.heap[q] := by
    rw [hs] at e2
    exact e2
  have e5 : U.heap[q]? = some c9 := e1
  rw [e5, h9, Array.getElem?_eq_getElem hq]
/-- the words of a throw but the four that speak of the heap -/
def vx_no (w : Cond) : Bool := decide (w ≠ .isRef (.static Bundle.tN "UNASSIGNED_STACK" Bundle.steD)) && decide (w ≠ .isRef (.static Bundle.tN "SUPPRESSED_SENTINEL" Bundle.listD)) && decide (w ≠ .laysStatic Bundle.tN "UNASSIGNED_STACK" Bundle.steD) && decide (w ≠ .laysStatic Bundle.tN "SUPPRESSED_SENTINEL" Bundle.listD)
def vx_at0 (own : String) (ic : Nat) (X : String) (names : List String) : List Cond := (Bundle.ownAtoms0 own ic X names).filter vx_no
def vx_atS (own : String) (ic : Nat) (X : String) (names : List String) : List Cond := (Bundle.ownAtoms own ic X names).filter vx_no
/-- a word that the tables alone decide, or a good one -/
def vx_ot (w : Cond) : Bool := w.onTables || goodWord w
theorem vx_ot_at {args a' : Array Value} {s U : State} {w : Cond} (hW : s.WarmedH U.vm) (hvm : s.vm = U.vm) (hg : vx_ot w = true) (h : w.before args s = true) : w.before a' U = true := by
  simp only [vx_ot, Bool.or_eq_true] at hg
  rcases hg with hg | hg
  · exact va_tabs hg hvm h
  · exact word_at hW (good_of_word hg) h
/-- a list's words: the good ones out of the method's own list, the others by premises of their own -/
theorem vx_hat {args : Array Value} {s : State} {L B : List Cond} (h1 : ∀ w ∈ L.filter goodWord, w.before args s = true) (h2 : ∀ w ∈ L.filter (fun w => !goodWord w), w ∈ B) (h3 : ∀ w ∈ B, w.before args s = true) : ∀ w ∈ L, w.before args s = true := by
  intro w hw
  by_cases g : goodWord w = true
  · exact h1 w (List.mem_filter.mpr ⟨hw, g⟩)
  · refine h3 w (h2 w (List.mem_filter.mpr ⟨hw, ?_⟩))
    show (!goodWord w) = true
    cases hgw : goodWord w
    · rfl
    · exact absurd hgw g
theorem vx_c {args : Array Value} {s : State} {w : Cond} {B : List Cond} (h : w.before args s = true) (t : ∀ w ∈ B, w.before args s = true) : ∀ w' ∈ w :: B, w'.before args s = true := fun w' h' => (List.mem_cons.mp h').elim (fun e => by rw [e]; exact h) (t w')
theorem vx_n {args : Array Value} {s : State} : ∀ w ∈ ([] : List Cond), w.before args s = true := fun _ h => nomatch h
theorem vx_own {args : Array Value} {s : State} {L : List Cond} (h1 : ∀ w ∈ L.filter vx_no, w.before args s = true)
    (hU : (Cond.isRef (.static Bundle.tN "UNASSIGNED_STACK" Bundle.steD)).before args s = true) (hN : (Cond.isRef (.static Bundle.tN "SUPPRESSED_SENTINEL" Bundle.listD)).before args s = true)
    (lU : (Cond.laysStatic Bundle.tN "UNASSIGNED_STACK" Bundle.steD).before args s = true) (lN : (Cond.laysStatic Bundle.tN "SUPPRESSED_SENTINEL" Bundle.listD).before args s = true) : ∀ w ∈ L, w.before args s = true := by
  intro w hw
  by_cases e1 : w = .isRef (.static Bundle.tN "UNASSIGNED_STACK" Bundle.steD)
  · rw [e1]; exact hU
  · by_cases e2 : w = .isRef (.static Bundle.tN "SUPPRESSED_SENTINEL" Bundle.listD)
    · rw [e2]; exact hN
    · by_cases e3 : w = .laysStatic Bundle.tN "UNASSIGNED_STACK" Bundle.steD
      · rw [e3]; exact lU
      · by_cases e4 : w = .laysStatic Bundle.tN "SUPPRESSED_SENTINEL" Bundle.listD
        · rw [e4]; exact lN
        · exact h1 w (List.mem_filter.mpr ⟨hw, by unfold vx_no; rw [decide_eq_true e1, decide_eq_true e2, decide_eq_true e3, decide_eq_true e4]; rfl⟩)
/-- where a static field lies, its class's statics cell in H -/
def vx_L (C n d : String) (A : Nat → Prop) (U : State) (H : Heap) : Prop := ∃ (c : ClassId) (k : Class) (i : Nat) (f : Field) (a : Nat) (cell : Cell), U.vm.findClass C = some c ∧ U.fieldFound? C n d = some (c, k, i, f) ∧ f.isStatic = true ∧ k.statics = some a ∧ H[a]? = some cell ∧ cell.vm.isStatics = true ∧ cell.cls = c ∧ f.slot < cell.slots.size ∧ k.staticTypes[f.slot]? = some f.type ∧ ¬ A a
theorem vx_L.moved {C n d : String} {A : Nat → Prop} {u U : State} {H : Heap} (hvm : u.vm.Alike U.vm) (h : vx_L C n d A u H) : vx_L C n d A U H := by
  obtain ⟨c, k, i, f, a, cell, h1, h2, h3, h4, h5, h6, h7, h8, h9, h10⟩ := h
  obtain ⟨k', hi', he⟩ := State.fieldFound?_setVm hvm h2
  exact ⟨c, k', i, f, a, cell, by rw [hvm.findClass]; exact h1, hi', h3, by rw [he]; exact h4, h5, h6, h7, h8, by rw [he]; exact h9, h10⟩
theorem vx_L.kept {C n d : String} {A : Nat → Prop} {U : State} {H H1 : Heap} (h : vx_L C n d A U H) (hq : ∀ a : Nat, a < H.size → ¬ A a → H1[a]? = H[a]?) : vx_L C n d A U H1 := by
  obtain ⟨c, k, i, f, a, cell, h1, h2, h3, h4, h5, h6, h7, h8, h9, h10⟩ := h
  exact ⟨c, k, i, f, a, cell, h1, h2, h3, h4, by rw [hq a (Array.getElem?_eq_some_iff.mp h5).1 h10]; exact h5, h6, h7, h8, h9, h10⟩
theorem vx_L.narrow {C n d : String} {A B : Nat → Prop} {U : State} {H : Heap} (h : vx_L C n d A U H) (hAB : ∀ q, B q → A q) : vx_L C n d B U H := by
  obtain ⟨c, k, i, f, a, cell, h1, h2, h3, h4, h5, h6, h7, h8, h9, h10⟩ := h
  exact ⟨c, k, i, f, a, cell, h1, h2, h3, h4, h5, h6, h7, h8, h9, fun z => h10 (hAB _ z)⟩
theorem vx_L.word {C n d : String} {A : Nat → Prop} {s : State} {args : Array Value} (h : vx_L C n d A s s.heap) : (Cond.laysStatic C n d).before args s = true := by
  obtain ⟨c, k, i, f, a, cell, h1, h2, h3, h4, h5, h6, h7, h8, h9, -⟩ := h
  show (Cond.laysStatic C n d).holds args s none s [] = true
  exact Cond.laysStatic_of h1 h2 h3 h4 h5 h6 h7 h8 h9
/-- .. and what it holds: null or some reference -/
def vx_Zq (C n d : String) (A : Nat → Prop) (U : State) (H : Heap) : Prop := va_Zq C n d A U H ∧ vx_L C n d A U H
theorem vx_Zq.moved {C n d : String} {A : Nat → Prop} {u U : State} {H : Heap} (hvm : u.vm.Alike U.vm) (h : vx_Zq C n d A u H) : vx_Zq C n d A U H := ⟨va_Zq.moved hvm h.1, vx_L.moved hvm h.2⟩
theorem vx_Zq.kept {C n d : String} {A : Nat → Prop} {U : State} {H H1 : Heap} (h : vx_Zq C n d A U H) (hq : ∀ a : Nat, a < H.size → ¬ A a → H1[a]? = H[a]?) : vx_Zq C n d A U H1 := ⟨va_Zq.kept h.1 hq, vx_L.kept h.2 hq⟩
theorem vx_Zq.narrow {C n d : String} {A B : Nat → Prop} {U : State} {H : Heap} (h : vx_Zq C n d A U H) (hAB : ∀ q, B q → A q) : vx_Zq C n d B U H := ⟨va_Zq.narrow h.1 hAB, vx_L.narrow h.2 hAB⟩
theorem vx_Zqof {args : Array Value} {s : State} {C n d : String} {A : Nat → Prop} (hl : (Cond.laysStatic C n d).before args s = true) (hini : (Cond.initialized C).before args s = true) (h : (Cond.isRef (.static C n d)).before args s = true) (hA : ∀ a : Nat, a < s.heap.size → ¬ A a) : vx_Zq C n d A s s.heap := by
  refine ⟨va_Zqof hl hini h hA, ?_⟩
  obtain ⟨c, k, i, f, a, cell, h1, h2, h3, h4, h5, h6, h7, h8, h9⟩ := Cond.laysStatic_spec hl
  exact ⟨c, k, i, f, a, cell, h1, h2, h3, h4, h5, h6, h7, h8, h9, hA a (Array.getElem?_eq_some_iff.mp h5).1⟩
theorem vx_isRef {C n d : String} {v : Value} {A : Nat → Prop} {s : State} {args : Array Value} (h : va_Z C n d v A s s.heap) (hv : v.isRef = true) : (Cond.isRef (.static C n d)).before args s = true := by
  obtain ⟨cf, kf, fi, f, a, cell, h1, h2, h3, h4, h5, h6, h7, -⟩ := h
  have he : (Term.static C n d).eval args s none [] s = some v := by
    simp [Term.eval, State.fieldNamed?, h1, h2, h4, h5, h6, h7]
  simp only [Cond.before, Cond.holds, Cond.value, he]
  cases v <;> simp_all [Value.isRef]
theorem vx_isRefq {C n d : String} {A : Nat → Prop} {s : State} {args : Array Value} (h : va_Zq C n d A s s.heap) : (Cond.isRef (.static C n d)).before args s = true := by
  rcases h with h | ⟨t, h⟩
  · exact vx_isRef h rfl
  · exact vx_isRef h rfl
/-- the same frame, seen from here: as if the method were called anew in this heap -/
theorem vx_rebase {T : State} (X : Stand p l e R s m args below meth c T locs cells slots) {R' : Room} (hf : R'.frames ≤ R.frames) (hl : R'.locals ≤ R.locals) (hc : cells + R'.cells ≤ R.cells) (hs : slots + R'.slots ≤ R.slots) :
    Stand p l e R' ((T.setVm s.vm).setFrames (.invoking m args :: below)) m args below meth c T [] 0 0 := by
  have htop : (T.setVm s.vm).topJava?.isSome := X.here.top
  have hF : ((T.setVm s.vm).setFrames (.invoking m args :: below)).frames = .invoking m args :: below := State.frames_setFrames _ (State.cur_lt_of_top htop)
  obtain ⟨g₀, hg0⟩ := Option.isSome_iff_exists.mp htop
  obtain ⟨r, hr⟩ := State.topJava?_eq_some.mp hg0
  have hl9 : e.platform.stackLimits (T.setVm s.vm).me = e.platform.stackLimits s.me := X.limits
  have hb9 : (T.setVm s.vm).me.stackBytes = s.me.stackBytes := X.bytes
  refine ⟨X.admits, X.cas, X.clock, hF, ?_, X.hears, X.method, X.code, X.here, X.tail, X.warmed, ?_, ?_, ?_⟩
  · have h := X.room
    have hU : ((T.setVm s.vm).setFrames (.invoking m args :: below)).localsInUse = s.localsInUse := by
      rw [State.localsInUse_invoking hF (meth := meth) (c := c) X.method X.code, State.localsInUse_invoking X.frames X.method X.code]
    simp only [State.hasRoom, Bool.and_eq_true, decide_eq_true_eq] at h ⊢
    obtain ⟨⟨⟨⟨h1, h2, h3, h4, h5, h6⟩, h7⟩, h8⟩, h9⟩ := h
    rw [X.frames, List.length_cons] at h2 h3
    have q1 := X.heapSize
    have q2 := X.used
    simp only [hF, hU, List.length_cons, State.stackLimits_setFrames, State.stackBytes_setFrames, hl9, hb9]
    refine ⟨⟨⟨⟨by omega, by omega, by omega, by omega, by omega, h6⟩, ?_⟩, ?_⟩, X.book⟩
    · show T.heap.size + R'.cells ≤ e.platform.maxCells
      omega
    · show T.slotsUsed + R'.slots ≤ e.platform.maxSlots
      omega
  · rw [State.stackLimits_setFrames]; rfl
  · rw [State.stackBytes_setFrames]; rfl
  · refine ⟨?_, Nat.le_refl _, Nat.le_refl _, ?_, ?_, fun a c9 h9 => ⟨c9, h9, rfl, rfl, fun _ _ => rfl⟩⟩
    · obtain ⟨t, ht, -⟩ := State.frames_cons hr
      show T.setVm s.vm = { ((T.setVm s.vm).setFrames (.invoking m args :: below)).setFrames (T.setVm s.vm).frames with heap := T.heap, slotsUsed := T.slotsUsed }
      rw [State.setFrames_setFrames, State.setFrames_self ht]
      rfl
    · show T.slotsUsed = T.slotsUsed + ((T.heap.toList.drop T.heap.size).map (·.slots.size)).sum
      rw [List.drop_eq_nil_of_le (Nat.le_of_eq Array.length_toList)]
      rfl
    · show ((T.heap.toList.drop T.heap.size).map (·.slots.size)).sum ≤ 0
      rw [List.drop_eq_nil_of_le (Nat.le_of_eq Array.length_toList)]
      exact Nat.le_refl _
/-- 'throw new E()': new; dup; invokespecial; athrow -/
theorem vx_throw0 {cc : ByteArray} {pc : Nat} (hexec : p.tables.exec = Jvm.exec) (hb : c.code = cc) (hl : l.stackTraces = false) {own cls : String} {names : List String} {ik ic mc ms : Nat} {A : Nat → Prop}
    (hown : s.vm.findClass own = some m.cls) (hcls : Bundle.fit cls = true) (hnames : ∀ n ∈ names, Bundle.fit n = true)
    (hk : (Cond.classLink own ik cls).before args s = true) (hini : (Cond.initialized cls).before args s = true) (hat : ∀ w ∈ vx_at0 own ic cls names, w.before args s = true)
    (hgood : ∀ w ∈ Cond.classLink own ik cls :: Cond.initialized cls :: vx_at0 own ic cls names, vx_ot w = true)
    (hU : vx_Zq Bundle.tN "UNASSIGNED_STACK" Bundle.steD A s s.heap) (hN : vx_Zq Bundle.tN "SUPPRESSED_SENTINEL" Bundle.listD A s s.heap) (hS : va_S A s.heap H locs) (hsize : ls.size = c.maxLocals)
    (d0 : decode cc pc = .ok (.new ik, 3)) (d3 : decode cc (pc + 3) = .ok (.dup, 1)) (d4 : decode cc (pc + 4) = .ok (.invokespecial ic, 3)) (d7 : decode cc (pc + 7) = .ok (.athrow, 1))
    (hout : ∀ x ∈ c.exceptionTable.toList, covers x (pc + 7) = false)
    (hRframes : names.length + 3 < R.frames) (hRlocals : (rest.map fun v => v.category).sum + (13 * (names.length + 1) + 42) ≤ R.locals) (hRcells : cells + 1 ≤ R.cells) (hRslots : slots + 6 ≤ R.slots) (hlocks : meth.locks = false)
    (hx : ∀ t : State, s.vm.Alike t.vm → H.size ≤ t.heap.size → (∀ q : Nat, q < H.size → t.heap[q]? = H[q]?) → XC cls s t)
    (hf : ∀ z ∈ locs, free z.base) (hc : cells + 1 ≤ mc) (hs : slots + 6 ≤ ms) :
    W p l e R s m args below meth c H locs cells slots (vx_MQ below Qc XC args s mc ms free) (F0 m pc ls rest) := by
  intro T hT X
  have htr : e.platform.stackTraces = false := (show e.platform.stackTraces = l.stackTraces by rw [X.admits.platform]).trans hl
  have Y := vx_rebase X (R' := { frames := R.frames, locals := R.locals, cells := 1, slots := 6 }) (Nat.le_refl _) (Nat.le_refl _) hRcells hRslots
  obtain ⟨s', hA⟩ : ∃ z, z = (T.setVm s.vm).setFrames (.invoking m args :: below) := ⟨_, rfl⟩
  rw [← hA] at Y
  have hvm : s'.vm = s.vm := by rw [hA]; rfl
  have hhp : s'.heap = H := by rw [hA]; exact hT
  have hW0 : s.WarmedH s'.vm := by rw [hvm]; exact State.WarmedH.refl s
  have hat' : ∀ w ∈ vx_at0 own ic cls names, w.before args s' = true := fun w hw => vx_ot_at hW0 hvm.symm (hgood w (List.mem_cons_of_mem _ (List.mem_cons_of_mem _ hw))) (hat w hw)
  have hk' : (Cond.classLink own ik cls).before args s' = true := vx_ot_at hW0 hvm.symm (hgood _ List.mem_cons_self) hk
  have hini' : (Cond.initialized cls).before args s' = true := vx_ot_at hW0 hvm.symm (hgood _ (List.mem_cons_of_mem _ List.mem_cons_self)) hini
  have hU' : vx_Zq Bundle.tN "UNASSIGNED_STACK" Bundle.steD A s' s'.heap := by rw [hhp]; exact vx_Zq.moved hW0.alike (hU.kept hS.2.1)
  have hN' : vx_Zq Bundle.tN "SUPPRESSED_SENTINEL" Bundle.listD A s' s'.heap := by rw [hhp]; exact vx_Zq.moved hW0.alike (hN.kept hS.2.1)
  have h : ∀ w ∈ Bundle.ownAtoms0 own ic cls names, w.before args s' = true := vx_own hat' (vx_isRefq hU'.1) (vx_isRefq hN'.1) hU'.2.word hN'.2.word
  have hown' : s'.vm.findClass own = some m.cls := by rw [hvm]; exact hown
  have hins : (Cond.instantiable cls 6).before args s' = true := h _ (by simp [Bundle.ownAtoms0])
  obtain ⟨vm₁, cX, kX, hfX, hkX, -, -, X₁, st1⟩ := Y.newCold hexec (own := own) (C := cls) (index := ik) (n := 6) hown' hk' hins hini'
    (g := F0 m pc ls rest) rfl (by rw [hb]; exact d0) (Nat.le_refl _) (Nat.le_refl _)
  generalize hT1 : (T.setVm vm₁).pushCell { cls := cX, slots := kX.instanceTypes.map defaultValue, vm := .none } = T1 at X₁ st1
  have hcat : (Value.ref T.heap.size).category = 1 := rfl
  have hcellA : T1.heap[T.heap.size]? = some (freshCell cX kX) := by rw [← hT1]; exact State.heap_pushCell_size _ _
  have d3' : decode c.code (pc + 3) = .ok (.dup, 1) := by rw [hb]; exact d3
  obtain ⟨U, hsteps, hrun, hend, hW, hsame, ce, hce, hO⟩ := X₁.ctorThrow0 hexec htr (own := own) (cls := cls) (names := names) (ic := ic) hown' hcls hnames h (fun x hx => nomatch hx) hfX hkX hcellA (by rw [hhp, hT]; exact Nat.le_refl _)
    (g := { method := m, pc := pc + 4, locals := ls, stack := .ref T.heap.size :: .ref T.heap.size :: rest, locked := none }) rfl hsize rfl rfl (rest := rest) rfl
    (by rw [hb]; exact d4) (by rw [hb]; exact d7) hout hRframes (by simp only [List.map_cons, List.sum_cons, hcat]; omega) hlocks
  obtain ⟨f1, f2⟩ := vx_frame hsame
  rw [hhp] at f1 f2
  have hWs : s.WarmedH U.vm := State.WarmedH.trans hW0 hW
  have hcl : s.vm.findClass cls = some ce.cls := by
    have h9 := hO.cls
    rw [hvm] at h9
    exact h9
  have hall : s.sameButNew ({ U with vm := s.vm } : State) locs mc ms := by
    subst hA
    obtain ⟨e1, e2⟩ := hsame
    rw [State.setFrames_setFrames] at e1
    have h2 : (T.setVm s.vm).sameButNew ({ U with vm := s.vm } : State) [] (0 + 1) (0 + 6) := ⟨e1, e2⟩
    have h3 := X.same.trans h2
    rw [List.append_nil] at h3
    exact h3.mono hc hs
  refine ⟨U, ?_, .threw T.heap.size, hrun, hend, Or.inr ⟨T.heap.size, rfl, cls, ce, locs, hx U hWs.alike f1 (fun q hq => f2 q hq (fun z hz => nomatch hz)), hce, hO.vm, hcl, hWs, hall, hf⟩⟩
  refine st1 _ ?_
  show Steps p.tables e below (T1.setTop { method := m, pc := pc + 3, locals := ls, stack := .ref T.heap.size :: rest, locked := none }) _
  jvm_step X₁.here [X₁.here.top, hexec, d3', Value.category]
  exact hsteps
/-- 'throw new E("text")': new; dup; ldc; invokespecial; athrow -/
theorem vx_throwS {cc : ByteArray} {pc : Nat} (hexec : p.tables.exec = Jvm.exec) (hb : c.code = cc) (hl : l.stackTraces = false) {own cls text : String} {names : List String} {ik is ic mc ms sa : Nat} {A : Nat → Prop}
    (hown : s.vm.findClass own = some m.cls) (hcls : Bundle.fit cls = true) (hnames : ∀ n ∈ names, Bundle.fit n = true)
    (hk : (Cond.classLink own ik cls).before args s = true) (hini : (Cond.initialized cls).before args s = true) (hstr : vk_R own is text sa s) (hat : ∀ w ∈ vx_atS own ic cls names, w.before args s = true)
    (hgood : ∀ w ∈ Cond.classLink own ik cls :: Cond.initialized cls :: vx_atS own ic cls names, vx_ot w = true)
    (hU : vx_Zq Bundle.tN "UNASSIGNED_STACK" Bundle.steD A s s.heap) (hN : vx_Zq Bundle.tN "SUPPRESSED_SENTINEL" Bundle.listD A s s.heap) (hS : va_S A s.heap H locs) (hsize : ls.size = c.maxLocals)
    (d0 : decode cc pc = .ok (.new ik, 3)) (d3 : decode cc (pc + 3) = .ok (.dup, 1)) (d4 : decode cc (pc + 4) = .ok (.ldc is, 2)) (d6 : decode cc (pc + 6) = .ok (.invokespecial ic, 3)) (d9 : decode cc (pc + 9) = .ok (.athrow, 1))
    (hout : ∀ x ∈ c.exceptionTable.toList, covers x (pc + 9) = false)
    (hRframes : names.length + 3 < R.frames) (hRlocals : (rest.map fun v => v.category).sum + (13 * (names.length + 1) + 43) ≤ R.locals) (hRcells : cells + 1 ≤ R.cells) (hRslots : slots + 6 ≤ R.slots) (hlocks : meth.locks = false)
    (hx : ∀ t : State, s.vm.Alike t.vm → H.size ≤ t.heap.size → (∀ q : Nat, q < H.size → t.heap[q]? = H[q]?) → XC cls s t)
    (hf : ∀ z ∈ locs, free z.base) (hc : cells + 1 ≤ mc) (hs : slots + 6 ≤ ms) :
    W p l e R s m args below meth c H locs cells slots (vx_MQ below Qc XC args s mc ms free) (F0 m pc ls rest) := by
  intro T hT X
  have htr : e.platform.stackTraces = false := (show e.platform.stackTraces = l.stackTraces by rw [X.admits.platform]).trans hl
  have Y := vx_rebase X (R' := { frames := R.frames, locals := R.locals, cells := 1, slots := 6 }) (Nat.le_refl _) (Nat.le_refl _) hRcells hRslots
  obtain ⟨s', hA⟩ : ∃ z, z = (T.setVm s.vm).setFrames (.invoking m args :: below) := ⟨_, rfl⟩
  rw [← hA] at Y
  have hvm : s'.vm = s.vm := by rw [hA]; rfl
  have hhp : s'.heap = H := by rw [hA]; exact hT
  have hW0 : s.WarmedH s'.vm := by rw [hvm]; exact State.WarmedH.refl s
  have hat' : ∀ w ∈ vx_atS own ic cls names, w.before args s' = true := fun w hw => vx_ot_at hW0 hvm.symm (hgood w (List.mem_cons_of_mem _ (List.mem_cons_of_mem _ hw))) (hat w hw)
  have hk' : (Cond.classLink own ik cls).before args s' = true := vx_ot_at hW0 hvm.symm (hgood _ List.mem_cons_self) hk
  have hini' : (Cond.initialized cls).before args s' = true := vx_ot_at hW0 hvm.symm (hgood _ (List.mem_cons_of_mem _ List.mem_cons_self)) hini
  have hU' : vx_Zq Bundle.tN "UNASSIGNED_STACK" Bundle.steD A s' s'.heap := by rw [hhp]; exact vx_Zq.moved hW0.alike (hU.kept hS.2.1)
  have hN' : vx_Zq Bundle.tN "SUPPRESSED_SENTINEL" Bundle.listD A s' s'.heap := by rw [hhp]; exact vx_Zq.moved hW0.alike (hN.kept hS.2.1)
  have h : ∀ w ∈ Bundle.ownAtoms own ic cls names, w.before args s' = true := vx_own hat' (vx_isRefq hU'.1) (vx_isRefq hN'.1) hU'.2.word hN'.2.word
  have hown' : s'.vm.findClass own = some m.cls := by rw [hvm]; exact hown
  have hins : (Cond.instantiable cls 6).before args s' = true := h _ (by simp [Bundle.ownAtoms])
  obtain ⟨vm₁, cX, kX, hfX, hkX, -, -, X₁, st1⟩ := Y.newCold hexec (own := own) (C := cls) (index := ik) (n := 6) hown' hk' hins hini'
    (g := F0 m pc ls rest) rfl (by rw [hb]; exact d0) (Nat.le_refl _) (Nat.le_refl _)
  generalize hT1 : (T.setVm vm₁).pushCell { cls := cX, slots := kX.instanceTypes.map defaultValue, vm := .none } = T1 at X₁ st1
  have hcat : (Value.ref T.heap.size).category = 1 := rfl
  have hcellA : T1.heap[T.heap.size]? = some (freshCell cX kX) := by rw [← hT1]; exact State.heap_pushCell_size _ _
  have d3' : decode c.code (pc + 3) = .ok (.dup, 1) := by rw [hb]; exact d3
  have d4' : decode c.code (pc + 4) = .ok (.ldc is, 2) := by rw [hb]; exact d4
  have hstr' : vk_R own is text sa s' := vk_R.warm hW0 hstr
  obtain ⟨U, hsteps, hrun, hend, hW, hsame, ce, hce, hO⟩ := X₁.ctorThrowS hexec htr (own := own) (cls := cls) (names := names) (ic := ic) hown' hcls hnames h (fun x hx => nomatch hx) hfX hkX hcellA (by rw [hhp, hT]; exact Nat.le_refl _) (msg := .ref sa) rfl
    (g := { method := m, pc := pc + 6, locals := ls, stack := .ref sa :: .ref T.heap.size :: .ref T.heap.size :: rest, locked := none }) rfl hsize rfl rfl (rest := rest) rfl
    (by rw [hb]; exact d6) (by rw [hb]; exact d9) hout hRframes (by simp only [List.map_cons, List.sum_cons, hcat]; omega) hlocks
  obtain ⟨f1, f2⟩ := vx_frame hsame
  rw [hhp] at f1 f2
  have hWs : s.WarmedH U.vm := State.WarmedH.trans hW0 hW
  have hcl : s.vm.findClass cls = some ce.cls := by
    have h9 := hO.cls
    rw [hvm] at h9
    exact h9
  have hall : s.sameButNew ({ U with vm := s.vm } : State) locs mc ms := by
    subst hA
    obtain ⟨e1, e2⟩ := hsame
    rw [State.setFrames_setFrames] at e1
    have h2 : (T.setVm s.vm).sameButNew ({ U with vm := s.vm } : State) [] (0 + 1) (0 + 6) := ⟨e1, e2⟩
    have h3 := X.same.trans h2
    rw [List.append_nil] at h3
    exact h3.mono hc hs
  refine ⟨U, ?_, .threw T.heap.size, hrun, hend, Or.inr ⟨T.heap.size, rfl, cls, ce, locs, hx U hWs.alike f1 (fun q hq => f2 q hq (fun z hz => nomatch hz)), hce, hO.vm, hcl, hWs, hall, hf⟩⟩
  refine st1 _ ?_
  show Steps p.tables e below (T1.setTop { method := m, pc := pc + 3, locals := ls, stack := .ref T.heap.size :: rest, locked := none }) _
  jvm_step X₁.here [X₁.here.top, hexec, d3', Value.category]
  exact X₁.ldcString hexec (own := own) (text := text) (index := is) (a := sa) hown' hstr'.1 hstr'.2
    (g := { method := m, pc := pc + 4, locals := ls, stack := .ref T.heap.size :: .ref T.heap.size :: rest, locked := none }) rfl d4' _ hsteps
/-- 'throw new E("text")', the text by a wide index -/
theorem vx_throwSW {cc : ByteArray} {pc : Nat} (hexec : p.tables.exec = Jvm.exec) (hb : c.code = cc) (hl : l.stackTraces = false) {own cls text : String} {names : List String} {ik is ic mc ms sa : Nat} {A : Nat → Prop}
    (hown : s.vm.findClass own = some m.cls) (hcls : Bundle.fit cls = true) (hnames : ∀ n ∈ names, Bundle.fit n = true)
    (hk : (Cond.classLink own ik cls).before args s = true) (hini : (Cond.initialized cls).before args s = true) (hstr : vk_R own is text sa s) (hat : ∀ w ∈ vx_atS own ic cls names, w.before args s = true)
    (hgood : ∀ w ∈ Cond.classLink own ik cls :: Cond.initialized cls :: vx_atS own ic cls names, vx_ot w = true)
    (hU : vx_Zq Bundle.tN "UNASSIGNED_STACK" Bundle.steD A s s.heap) (hN : vx_Zq Bundle.tN "SUPPRESSED_SENTINEL" Bundle.listD A s s.heap) (hS : va_S A s.heap H locs) (hsize : ls.size = c.maxLocals)
    (d0 : decode cc pc = .ok (.new ik, 3)) (d3 : decode cc (pc + 3) = .ok (.dup, 1)) (d4 : decode cc (pc + 4) = .ok (.ldc_w is, 3)) (d7 : decode cc (pc + 7) = .ok (.invokespecial ic, 3)) (d10 : decode cc (pc + 10) = .ok (.athrow, 1))
    (hout : ∀ x ∈ c.exceptionTable.toList, covers x (pc + 10) = false)
    (hRframes : names.length + 3 < R.frames) (hRlocals : (rest.map fun v => v.category).sum + (13 * (names.length + 1) + 43) ≤ R.locals) (hRcells : cells + 1 ≤ R.cells) (hRslots : slots + 6 ≤ R.slots) (hlocks : meth.locks = false)
    (hx : ∀ t : State, s.vm.Alike t.vm → H.size ≤ t.heap.size → (∀ q : Nat, q < H.size → t.heap[q]? = H[q]?) → XC cls s t)
    (hf : ∀ z ∈ locs, free z.base) (hc : cells + 1 ≤ mc) (hs : slots + 6 ≤ ms) :
    W p l e R s m args below meth c H locs cells slots (vx_MQ below Qc XC args s mc ms free) (F0 m pc ls rest) := by
  intro T hT X
  have htr : e.platform.stackTraces = false := (show e.platform.stackTraces = l.stackTraces by rw [X.admits.platform]).trans hl
  have Y := vx_rebase X (R' := { frames := R.frames, locals := R.locals, cells := 1, slots := 6 }) (Nat.le_refl _) (Nat.le_refl _) hRcells hRslots
  obtain ⟨s', hA⟩ : ∃ z, z = (T.setVm s.vm).setFrames (.invoking m args :: below) := ⟨_, rfl⟩
  rw [← hA] at Y
  have hvm : s'.vm = s.vm := by rw [hA]; rfl
  have hhp : s'.heap = H := by rw [hA]; exact hT
  have hW0 : s.WarmedH s'.vm := by rw [hvm]; exact State.WarmedH.refl s
  have hat' : ∀ w ∈ vx_atS own ic cls names, w.before args s' = true := fun w hw => vx_ot_at hW0 hvm.symm (hgood w (List.mem_cons_of_mem _ (List.mem_cons_of_mem _ hw))) (hat w hw)
  have hk' : (Cond.classLink own ik cls).before args s' = true := vx_ot_at hW0 hvm.symm (hgood _ List.mem_cons_self) hk
  have hini' : (Cond.initialized cls).before args s' = true := vx_ot_at hW0 hvm.symm (hgood _ (List.mem_cons_of_mem _ List.mem_cons_self)) hini
  have hU' : vx_Zq Bundle.tN "UNASSIGNED_STACK" Bundle.steD A s' s'.heap := by rw [hhp]; exact vx_Zq.moved hW0.alike (hU.kept hS.2.1)
  have hN' : vx_Zq Bundle.tN "SUPPRESSED_SENTINEL" Bundle.listD A s' s'.heap := by rw [hhp]; exact vx_Zq.moved hW0.alike (hN.kept hS.2.1)
  have h : ∀ w ∈ Bundle.ownAtoms own ic cls names, w.before args s' = true := vx_own hat' (vx_isRefq hU'.1) (vx_isRefq hN'.1) hU'.2.word hN'.2.word
  have hown' : s'.vm.findClass own = some m.cls := by rw [hvm]; exact hown
  have hins : (Cond.instantiable cls 6).before args s' = true := h _ (by simp [Bundle.ownAtoms])
  obtain ⟨vm₁, cX, kX, hfX, hkX, -, -, X₁, st1⟩ := Y.newCold hexec (own := own) (C := cls) (index := ik) (n := 6) hown' hk' hins hini'
    (g := F0 m pc ls rest) rfl (by rw [hb]; exact d0) (Nat.le_refl _) (Nat.le_refl _)
  generalize hT1 : (T.setVm vm₁).pushCell { cls := cX, slots := kX.instanceTypes.map defaultValue, vm := .none } = T1 at X₁ st1
  have hcat : (Value.ref T.heap.size).category = 1 := rfl
  have hcellA : T1.heap[T.heap.size]? = some (freshCell cX kX) := by rw [← hT1]; exact State.heap_pushCell_size _ _
  have d3' : decode c.code (pc + 3) = .ok (.dup, 1) := by rw [hb]; exact d3
  have d4' : decode c.code (pc + 4) = .ok (.ldc_w is, 3) := by rw [hb]; exact d4
  have hstr' : vk_R own is text sa s' := vk_R.warm hW0 hstr
  obtain ⟨U, hsteps, hrun, hend, hW, hsame, ce, hce, hO⟩ := X₁.ctorThrowS hexec htr (own := own) (cls := cls) (names := names) (ic := ic) hown' hcls hnames h (fun x hx => nomatch hx) hfX hkX hcellA (by rw [hhp, hT]; exact Nat.le_refl _) (msg := .ref sa) rfl
    (g := { method := m, pc := pc + 7, locals := ls, stack := .ref sa :: .ref T.heap.size :: .ref T.heap.size :: rest, locked := none }) rfl hsize rfl rfl (rest := rest) rfl
    (by rw [hb]; exact d7) (by rw [hb]; exact d10) hout hRframes (by simp only [List.map_cons, List.sum_cons, hcat]; omega) hlocks
  obtain ⟨f1, f2⟩ := vx_frame hsame
  rw [hhp] at f1 f2
  have hWs : s.WarmedH U.vm := State.WarmedH.trans hW0 hW
  have hcl : s.vm.findClass cls = some ce.cls := by
    have h9 := hO.cls
    rw [hvm] at h9
    exact h9
  have hall : s.sameButNew ({ U with vm := s.vm } : State) locs mc ms := by
    subst hA
    obtain ⟨e1, e2⟩ := hsame
    rw [State.setFrames_setFrames] at e1
    have h2 : (T.setVm s.vm).sameButNew ({ U with vm := s.vm } : State) [] (0 + 1) (0 + 6) := ⟨e1, e2⟩
    have h3 := X.same.trans h2
    rw [List.append_nil] at h3
    exact h3.mono hc hs
  refine ⟨U, ?_, .threw T.heap.size, hrun, hend, Or.inr ⟨T.heap.size, rfl, cls, ce, locs, hx U hWs.alike f1 (fun q hq => f2 q hq (fun z hz => nomatch hz)), hce, hO.vm, hcl, hWs, hall, hf⟩⟩
  refine st1 _ ?_
  show Steps p.tables e below (T1.setTop { method := m, pc := pc + 3, locals := ls, stack := .ref T.heap.size :: rest, locked := none }) _
  jvm_step X₁.here [X₁.here.top, hexec, d3', Value.category]
  exact X₁.ldcStringW hexec (own := own) (text := text) (index := is) (a := sa) hown' hstr'.1 hstr'.2
    (g := { method := m, pc := pc + 4, locals := ls, stack := .ref T.heap.size :: .ref T.heap.size :: rest, locked := none }) rfl d4' _ hsteps
end Ends
section Bodies
variable {l : Launch}
theorem vx_ofW {y : MethodName} {ws ws' : List Cond} {rm : Room} {Pc : Array Value → State → Prop} {Qc : Array Value → State → Outcome → State → Prop} {XC : String → State → State → Prop} {mc ms : Nat} {free : Addr → Prop} {cc : ByteArray} {maxL : Nat} {ret : Option FieldType}
    (hy : plainName y.cls = true) (hw : ws = Cond.code y cc maxL ret :: ws')
    (body : ∀ p e s m args below meth c s₁, BodyLoose p l y (headSpec ws rm) cc maxL ret e s m args below meth c s₁ → c.maxLocals = maxL → (∀ x ∈ c.exceptionTable.toList, False) → Pc args s →
      W p l e (headSpec ws rm).room s m args below meth c s.heap [] 0 0 (vx_MQ below Qc XC args s mc ms free) (entryFrame m args maxL)) : vx_Met l y ws rm Pc Qc XC mc ms free := by
  refine MetFree.of_bodyS (code := cc) (maxLocals := maxL) (ret := ret) hy ?_ ?_
  · intro args s m h hn
    obtain ⟨meth, c, h1, h2, h3, h4, h5, h6, -, -⟩ := Cond.code_spec hn (atoms_spec (ws := ws) h _ (by rw [hw]; exact List.mem_cons_self))
    exact ⟨meth, c, h1, h2, h3, h4, h5, h6⟩
  · intro p e s m args below meth c s₁ B hml hP _
    have hh0 : s₁.heap = s.heap := by rw [B.state]; rfl
    have ht : ∀ x ∈ c.exceptionTable.toList, False := by
      obtain ⟨meth9, c9, h1, h2, -, -, -, -, h7, -⟩ := Cond.code_spec B.named (atoms_spec (ws := ws) B.pre _ (by rw [hw]; exact List.mem_cons_self))
      cases Option.some.inj (h1.symm.trans B.method)
      cases Option.some.inj (h2.symm.trans (Stand.of_body B).code)
      intro x hx
      rw [Array.isEmpty_iff.mp h7] at hx
      cases hx
    obtain ⟨t, a1, o, b1, b2, b3⟩ := body p e s m args below meth c s₁ B hml ht hP s₁ hh0 (Stand.of_body B)
    exact ⟨t, o, a1, b1, b2, b3⟩
/-- the table of a body with handlers -/
theorem vx_table {p : Program} {x y : MethodName} {S : Spec} {cc bytes : ByteArray} {maxL maxL' : Nat} {ret ret' : Option FieldType} {e : Env} {s s₁ : State} {m : MethodId} {args : Array Value} {below : List Frame} {meth : Method} {c : Code} {hh : List (Nat × Nat × Nat × Nat)}
    (B : BodyLoose p l y S cc maxL ret e s m args below meth c s₁) (h : (Cond.codeWith y bytes maxL' ret' hh).before args s = true) : c.exceptionTable.toList = tableOf hh := by
  obtain ⟨m9, meth9, c9, hn9, h1, h2, -, -, h6, -⟩ := Cond.codeWith_spec h
  cases Option.some.inj (hn9.symm.trans B.named)
  cases Option.some.inj (h1.symm.trans B.method)
  cases Option.some.inj (h2.symm.trans (Stand.of_body B).code)
  rw [← h6, table_eq]
end Bodies
end VXA
/-! ===== END ===== -/
/-! ===== BEGIN a static call of a method with an exception table ===== -/
section VXS
variable {p : Program} {l : Launch} {e : Env} {R : Room} {s : State} {m : MethodId} {args : Array Value} {below : List Frame} {meth : Method} {c : Code} {T : State} {H : Heap} {locs : List Loc} {cells slots : Nat}
abbrev vx_CSW (R : Room) (s : State) (args : Array Value) (own : String) (index : Nat) (y : MethodName) (bytes : ByteArray) (maxL : Nat) (ret : Option FieldType) (hh : List (Nat × Nat × Nat × Nat)) (ws : List Cond) (rm : Room) (mc ms n : Nat) : Prop :=
  (rm.cells = mc ∧ rm.slots = ms ∧ rm.frames + 1 ≤ R.frames ∧ 8 + (maxL + 11) + rm.locals ≤ R.locals ∧ (∀ w ∈ ws, ∀ (a' : Array Value) (U : State), s.WarmedH U.vm → w.before a' U = true) ∧ Cond.codeWith y bytes maxL ret hh ∈ ws) ∧
  (Cond.codeWith y bytes maxL ret hh).before args s = true ∧ (Cond.initialized y.cls).before args s = true ∧ (y.cls ≠ "java/lang/invoke/MethodHandle" ∧ y.cls ≠ "java/lang/invoke/VarHandle") ∧
  (∀ sig, parseMethodDescriptor y.desc = some sig → n = sig.parameters.length) ∧ (Cond.methodLink own index y).before args s = true ∧ (Cond.static y).before args s = true
theorem vx_cwSW {own : String} {index maxL mc ms : Nat} {y : MethodName} {bytes : ByteArray} {ret : Option FieldType} {hh : List (Nat × Nat × Nat × Nat)} {Ts ws ws' : List Cond} {rm : Room} (n : Nat) (ht : ∀ w ∈ Ts, w.before args s = true) (hT : GoodIn Ts (va_wsS own index y ws)) (hw : ws = Cond.codeWith y bytes maxL ret hh :: ws') (hrc : rm.cells = mc) (hrs : rm.slots = ms)
    (hd : y.cls ≠ "java/lang/invoke/MethodHandle" ∧ y.cls ≠ "java/lang/invoke/VarHandle" ∧ (parseMethodDescriptor y.desc).map (fun d => d.parameters.length) = some n) (hR : rm.frames + 1 ≤ R.frames ∧ 8 + (maxL + 11) + rm.locals ≤ R.locals) :
    vx_CSW R s args own index y bytes maxL ret hh ws rm mc ms n := by
  have ok : ∀ w ∈ va_wsS own index y ws, w.before args s = true := fun w h => ht w (hT w h).1
  have hG : GoodIn Ts ws := fun w h => hT w (by unfold va_wsS; exact List.mem_append_right _ h)
  have hc : Cond.codeWith y bytes maxL ret hh ∈ ws := by rw [hw]; exact List.mem_cons_self
  refine ⟨⟨hrc, hrs, hR.1, hR.2, pay_in ht hG, hc⟩, ht _ (hG _ hc).1, ok _ (by simp [va_wsS]), ⟨hd.1, hd.2.1⟩, fun sig h => ?_, ok _ (by simp [va_wsS]), ok _ (by simp [va_wsS])⟩
  have h2 := hd.2.2
  rw [h] at h2
  exact (Option.some.inj h2).symm
theorem vx_callSW (X : Stand p l e R s m args below meth c T locs cells slots) (hexec : p.tables.exec = Jvm.exec) {own : String} {index : Nat} {y : MethodName} {bytes : ByteArray} {maxL : Nat} {ret : Option FieldType} {hh : List (Nat × Nat × Nat × Nat)}
    (hown : s.vm.findClass own = some m.cls) (hlink : (Cond.methodLink own index y).before args s = true) (hstat : (Cond.static y).before args s = true) (hinit : (Cond.initialized y.cls).before args s = true)
    (hcode : (Cond.codeWith y bytes maxL ret hh).before args s = true) (hy : y.cls ≠ "java/lang/invoke/MethodHandle" ∧ y.cls ≠ "java/lang/invoke/VarHandle")
    {W9 : Nat} {Pre : Pt → Array Value → Prop} {Post : Pt → Array Value → Option Value → Pt → Prop} (hK : Back l R p e below s args y 3 W9 Pre Post)
    {g : JFrame} (hg : g.method = m) (hsize : g.locals.size = c.maxLocals) {argsL rest : List Value} (hlen : ∀ sig, parseMethodDescriptor y.desc = some sig → argsL.length = sig.parameters.length)
    (hstack : g.stack = argsL.reverse ++ rest) (hW : 2 * g.monitorRoom + (rest.map fun v => v.category).sum ≤ W9) (hdg : decode c.code g.pc = .ok (.invokestatic index, 3))
    (hpre : ∀ vm₁, s.WarmedH vm₁ → Pre ⟨T.setVm vm₁, locs, cells, slots⟩ argsL.toArray) :
    ∃ (v : Option Value) (vm₁ : Vm) (B : Pt), s.WarmedH vm₁ ∧ Stand p l e R s m args below meth c B.U B.locs B.cells B.slots ∧ Post ⟨T.setVm vm₁, locs, cells, slots⟩ argsL.toArray v B ∧
      ∀ target, Steps p.tables e below (B.U.setTop { g with pc := g.pc + 3, stack := v.toList ++ rest }) target → Steps p.tables e below (T.setTop g) target := by
  obtain ⟨mk, methM, cM, hnamed, hmethM, -, -, -, -, -, -, hsigM⟩ := Cond.codeWith_spec hcode
  have hstatic : methM.isStatic = true := Cond.static_spec hnamed hmethM hstat
  obtain ⟨kP, hkP, -⟩ := className_of_methodNamed hnamed
  have hinitP : kP.init = .initialized := Cond.initialized_spec (findClass_of_methodNamed hnamed) hkP hinit
  obtain ⟨vm₁, X₁, hstep₁⟩ := X.invokestatic hexec hown hlink hnamed hmethM hstatic hkP hinitP hy (g := g) hg (argsL := argsL) (rest := rest) (hlen _ hsigM) hstack hdg
  obtain ⟨v, B, X', hpost, hsteps⟩ := hK m meth c ⟨T.setVm vm₁, locs, cells, slots⟩ { g with stack := rest } (.invokestatic index) mk argsL.toArray X₁ hg hsize hdg hW (X₁.named hnamed) (hpre vm₁ X₁.warmed)
  exact ⟨v, vm₁, B, X₁.warmed, X', hpost, fun target h => hstep₁ _ fun acts => by rw [doInvoke_state]; exact hsteps.trans h⟩
theorem vx_runSW {y : MethodName} {bytes cc : ByteArray} {maxL nL mc ms n index : Nat} {ret : Option FieldType} {hh : List (Nat × Nat × Nat × Nat)} {ws : List Cond} {rm : Room} {Pc : Array Value → State → Prop} {Qc : Array Value → State → Outcome → State → Prop} {free : Addr → Prop} {Ts : List Cond} {own : String} {As rest : List Value} {g : JFrame}
    (S : CallFix p m c cc nL s args Ts own) (hM : Met l y ws rm Pc Qc mc ms free) (cw : vx_CSW R s args own index y bytes maxL ret hh ws rm mc ms n) (hp : PreS s H Pc As)
    (hg : g.method = m) (hn : As.length = n) (hsize : g.locals.size = nL) (hstack : g.stack = As.reverse ++ rest) (hW : 2 * g.monitorRoom + (rest.map fun v => v.category).sum ≤ 8) (hdg : decode cc g.pc = .ok (.invokestatic index, 3)) (hf : cells + mc ≤ R.cells ∧ slots + ms ≤ R.slots) :
    va_Run p l e R s m args below meth c H locs cells slots mc ms g rest (Qc As.toArray) (free) := by
  obtain ⟨⟨hrc, hrs, hfr, hlo, hws, hcw⟩, hcode, hini, hy, hlen, hl, hstt⟩ := cw
  have hK : Back l R p e below s args y 3 8 (PreOf R mc ms Pc) (PostOf Qc mc ms free) := va_backW (hh := hh) (bytes := bytes) (maxL := maxL) (ret := ret) hM hp.1 hrc hrs hfr hlo hws hcw (fun a' U hW => word_at hW (Or.inl (by first | rfl | simp [Cond.onTables, Cond.keeps, Cond.steady])) hini)
  obtain ⟨hx, hb, hml, ho, -⟩ := S
  intro T hT X
  obtain ⟨v, vm₁, ⟨U', l2, c2, s2⟩, hW₁, X', ⟨g', mk, t, L, e1, e2, hq, h1, hL, h2, h3⟩, st⟩ := vx_callSW X hx (hh := hh) (bytes := bytes) (maxL := maxL) (ret := ret) ho hl hstt hini hcode hy hK hg (hsize.trans hml.symm) (argsL := As) (rest := rest) (fun sig h => hn.trans (hlen sig h)) hstack hW (by rw [hb]; exact hdg)
    (fun vm₁ hW₁ => ⟨hf.1, hf.2, hp.2 (T.setVm vm₁) hT hW₁⟩)
  dsimp only [Pt.U, Pt.locs, Pt.cells, Pt.slots] at X' e1 e2 h1 h2 h3 st
  subst h1; subst h2; subst h3
  exact ⟨v, (T.setVm vm₁).calling g' mk As.toArray, t, U', L, hT, X', hL, e1, e2, hq, st⟩
/-- not caught here, past rows that name other classes: it goes on to the caller -/
theorem vx_outP {p : Program} {l : Launch} {e : Env} {R : Room} {s : State} {m : MethodId} {args : Array Value} {below : List Frame} {meth : Method} {c : Code} {H : Heap} {locs : List Loc} {cells slots : Nat} {free : Addr → Prop} {ls : Array Slot} {rest : List Value} {Qc : Array Value → State → Outcome → State → Prop} {XC : String → State → State → Prop}
    {pc : Nat} {own E : String} {ce : Cell} {q : Addr} {mc ms : Nat} (hown : s.vm.findClass own = some m.cls) (hlocks : meth.locks = false)
    (hpass : ∀ z ∈ c.exceptionTable.toList, covers z pc = false ∨ (z.catchType ≠ 0 ∧ ∃ nm : String, (Cond.classLink own z.catchType nm).before args s = true ∧ va_Nc E nm s)) (hcell : H[q]? = some ce) (hv : ce.vm = .none) (hcl : s.vm.findClass E = some ce.cls)
    (hx : ∀ t : State, t.heap = H → s.vm.Alike t.vm → XC E s t) (hf : ∀ z ∈ locs, free z.base) (hc : cells ≤ mc) (hs : slots ≤ ms) :
    vx_W p l e R s m args below meth c H locs cells slots (vx_MQ below Qc XC args s mc ms free) (F0 m pc ls rest) q := by
  intro T hT X
  have hpl : e.platform.magicAccessors = ({} : Platform).magicAccessors := by rw [X.admits.platform]
  obtain ⟨vm', hW', X', st⟩ := X.outThrough hlocks q (g := F0 m pc ls rest) rfl rfl rfl (cell := ce) (by rw [hT]; exact hcell) (by rw [hv]; rfl)
    (by obtain ⟨k9, h9, -⟩ := Vm.findClass_spec hcl; exact ⟨k9, h9⟩) (fun z hz => by
      rcases hpass z hz with h | ⟨hz0, nm, hl1, hn1⟩
      · exact Or.inl h
      · obtain ⟨c6, hc6, hcl6⟩ := Cond.classLink_spec hown hl1 e.platform hpl
        obtain ⟨a8, b8, h1, h2, h3⟩ := hn1
        cases Option.some.inj (h1.symm.trans hcl)
        cases Option.some.inj (h2.symm.trans hc6)
        exact Or.inr ⟨hz0, _, hcl6, h3⟩)
  obtain ⟨g₀, hfr⟩ := X'.frames_eq
  have hcell9 : ((T.setVm vm').setFrames (.throwing q :: below)).heap[q]? = some ce := by
    show T.heap[q]? = some ce
    rw [hT]; exact hcell
  have hend : Ended ((T.setVm vm').setFrames (.throwing q :: below)) below (.threw q) := State.frames_setFrames _ (State.cur_lt_of_frames hfr)
  refine ⟨(T.setVm vm').setFrames (.throwing q :: below), ?_, .threw q, X'.here.running, hend, Or.inr ⟨q, rfl, E, ce, locs, hx _ hT (X'.ends _).1.alike, hcell9, hv, hcl, (X'.ends _).1, (X'.ends _).2.mono hc hs, hf⟩⟩
  rw [X.pushThrowing_eq]
  exact st
/-- a thing of a world lies in the heap -/
theorem vx_lt {D : va_G} {cl : List vw_C} {ws : va_W} {H1 : Heap} (h : va_P D cl ws H1) {k : Nat} {q : Nat × va_E} (hk : ws[k]? = some q) : q.1 < H1.size := (h k q hk).lt
end VXS
/-! ===== END ===== -/
/-! ===== BEGIN methods with a table of their own: called by a name, returning or throwing ===== -/
section VXH
/-! vx_backW, vx_callVX, vx_callSX, vx_callVW, vx_runVW, vx_runVX, vx_runSX, vx_ofWH follow the same proofs as their sisters above (Free/Laws.lean, Shelf42/LK1.lean); vx_outP calls Shelf42/NT130.lean (outThrough). -/
section
variable {l : Launch} {R : Room} {p : Program} {e : Env} {below : List Frame} {s : State} {sargs : Array Value} {y : MethodName} {len W9 : Nat}
theorem vx_backW {ws : List Cond} {rm : Room} {Pc : Array Value → State → Prop} {Qc : Array Value → State → Outcome → State → Prop} {XC : String → State → State → Prop} {mc ms : Nat} {free : Addr → Prop} {bytes : ByteArray} {maxL : Nat} {ret : Option FieldType} {hh : List (Nat × Nat × Nat × Nat)}
    (hM : vx_Met l y ws rm Pc Qc XC mc ms free) (hblind : FrameBlind Pc) (hrc : rm.cells = mc) (hrs : rm.slots = ms)
    (hframes : rm.frames + 1 ≤ R.frames) (hlocals : W9 + (maxL + 11) + rm.locals ≤ R.locals)
    (hws : ∀ w ∈ ws, ∀ a' U, s.WarmedH U.vm → w.before a' U = true) (hcode : Cond.codeWith y bytes maxL ret hh ∈ ws) (hinit : ∀ a' U, s.WarmedH U.vm → (Cond.initialized y.cls).before a' U = true) :
    vx_Back l R p e below s sargs y len W9 (PreOf R mc ms Pc) (PostOf Qc mc ms free) (vx_Post XC mc ms free) := by
  intro m meth c A g ig mk a X hg hsize hdg hW hn hp
  have h1 : (headSpec ws rm).pre.before a A.U = true := atoms_intro fun w hw => hws w hw _ _ X.warmed
  have h2 : (Cond.codeWith y bytes maxL ret hh).before a A.U = true := hws _ hcode _ _ X.warmed
  have h3 : (Cond.initialized y.cls).before a A.U = true := hinit _ _ X.warmed
  have h4 : A.cells + (headSpec ws rm).room.cells ≤ R.cells := by rw [show (headSpec ws rm).room.cells = mc from hrc]; exact hp.1
  have h5 : A.slots + (headSpec ws rm).room.slots ≤ R.slots := by rw [show (headSpec ws rm).room.slots = ms from hrs]; exact hp.2.1
  have hPc : Pc a (A.U.calling g mk a) := hblind _ _ _ _ hp.2.2
  obtain ⟨U, Ls, c0, s0⟩ := A
  dsimp only [Pt.U, Pt.locs, Pt.cells, Pt.slots] at h1 h2 h3 h4 h5 X hn hPc ⊢
  obtain ⟨m9, methY, cY, hn9, hmY, hcY, -, hlY, -⟩ := Cond.codeWith_spec h2
  cases Option.some.inj (hn9.symm.trans hn)
  obtain ⟨kY, hkY, -⟩ := className_of_methodNamed hn
  have hinitY : kY.init = .initialized := Cond.initialized_spec (findClass_of_methodNamed hn) hkY h3
  have h : At U g.method c below := by rw [hg]; exact X.here
  have hlocals9 : W9 + (maxL + 11) + (headSpec ws rm).room.locals ≤ R.locals := hlocals
  have happ : (headSpec ws rm).appliesLoose y e.platform (U.calling g mk a) = true :=
    Spec.appliesLoose_calling (g := g) h hdg hn hkY hinitY
      (X.room_calling (g := g) (R' := (headSpec ws rm).room) hsize hmY hcY hframes (by rw [hlY]; omega) h4 h5) h1
  obtain ⟨mid, hmid⟩ := h.above
  have hfr : (U.setTop g).frames = (.java g :: mid) ++ below := by rw [State.frames_setTop' g h.top, hmid]; rfl
  obtain ⟨o, s₂, hsteps, -, hend, hq⟩ := Steps.callFree hM p X.admits X.cas X.clock (acts := []) hfr happ hPc trivial
  have hq' : vx_Q Qc XC mc ms free a (U.calling g mk a) o s₂ := hq
  rw [State.frames_setTop' g h.top] at hend
  obtain ⟨g₀, hg0⟩ := Option.isSome_iff_exists.mp h.top
  obtain ⟨r, hr⟩ := State.topJava?_eq_some.mp hg0
  have hr' : (({ U with heap := s₂.heap, slotsUsed := s₂.slotsUsed } : State).setVm s₂.vm).frames = .java g₀ :: r := hr
  rcases hq' with ⟨hqc, L, hfe, hL⟩ | ⟨q, rfl, E, ce, L, hx, hce, hcv, hcl, hW₂, hsm, hL⟩
  · obtain ⟨⟨v, rfl⟩, hW₂, e2, q2, q3, q4, q5, q6⟩ := id hfe
    have e3 : s₂ = ({ (U.calling g mk a).setFrames s₂.frames with heap := s₂.heap, slotsUsed := s₂.slotsUsed } : State).setVm s₂.vm := by
      have : s₂ = ({ s₂ with vm := (U.calling g mk a).vm } : State).setVm s₂.vm := rfl
      rw [e2] at this
      exact this
    obtain ⟨c₂, i₂, len₂, hc₂, hd₂, hf₂⟩ := hend
    have hW' : U.WarmedH s₂.vm := hW₂
    have hcc : c₂ = c := by
      have h1 : s₂.code? g.method = U.code? g.method := by
        rw [State.code?_eq, State.code?_eq, hW'.alike.method?]
      exact Option.some.inj (hc₂.symm.trans (h1.trans h.code))
    subst hcc
    have hlen : len₂ = len := by rw [hdg] at hd₂; cases hd₂; rfl
    subst hlen
    have hs₂ : s₂ = (({ U with heap := s₂.heap, slotsUsed := s₂.slotsUsed } : State).setVm s₂.vm).setTop { g with pc := g.pc + len₂, stack := v.toList ++ g.stack } := by
      refine e3.trans ?_
      rw [hf₂, State.calling_eq h.top, State.setFrames_setFrames, State.setTop_of_frames _ hr', hr]
      rfl
    have hsame : U.sameButNew ({ U with heap := s₂.heap, slotsUsed := s₂.slotsUsed } : State) L mc ms := by
      refine ⟨?_, q2, q3, q4, q5, q6⟩
      obtain ⟨t, ht, -⟩ := State.frames_cons hr
      show ({ U with heap := s₂.heap, slotsUsed := s₂.slotsUsed } : State) = { U.setFrames U.frames with heap := s₂.heap, slotsUsed := s₂.slotsUsed }
      rw [State.setFrames_self ht]
    subst hg
    refine Or.inl ⟨v, ⟨(({ U with heap := s₂.heap, slotsUsed := s₂.slotsUsed } : State).setVm s₂.vm), Ls ++ L, c0 + mc, s0 + ms⟩,
      ⟨X.admits, X.cas, X.clock, X.frames, X.room, X.hears, X.method, X.code, (X.here.setHeapUsed s₂.heap s₂.slotsUsed).setVm hW'.alike, X.tail, State.WarmedH.trans X.warmed hW', X.limits, X.bytes, X.same.trans (hsame.setVm s.vm)⟩,
      ⟨g, mk, s₂, L, rfl, rfl, hqc, rfl, hL, rfl, rfl⟩, ?_⟩
    show Steps p.tables e below _ ((({ U with heap := s₂.heap, slotsUsed := s₂.slotsUsed } : State).setVm s₂.vm).setTop { g with pc := g.pc + len₂, stack := v.toList ++ g.stack })
    rw [← hs₂]
    exact hsteps
  · obtain ⟨e2, q2, q3, q4, q5, q6⟩ := id hsm
    have e3 : s₂ = ({ (U.calling g mk a).setFrames s₂.frames with heap := s₂.heap, slotsUsed := s₂.slotsUsed } : State).setVm s₂.vm := by
      have : s₂ = ({ s₂ with vm := (U.calling g mk a).vm } : State).setVm s₂.vm := rfl
      rw [e2] at this
      exact this
    have hf₂ : s₂.frames = .throwing q :: .java g :: U.frames.tail := hend
    have hW' : U.WarmedH s₂.vm := hW₂
    have hs₂ : s₂ = ((({ U with heap := s₂.heap, slotsUsed := s₂.slotsUsed } : State).setVm s₂.vm).setTop g).pushFrame (.throwing q) := by
      refine e3.trans ?_
      rw [hf₂, State.calling_eq h.top, State.setFrames_setFrames, State.pushFrame, State.frames_setTop _ hr', State.setTop_of_frames _ hr', State.setFrames_setFrames, hr]
      rfl
    have hsame : U.sameButNew ({ U with heap := s₂.heap, slotsUsed := s₂.slotsUsed } : State) L mc ms := by
      refine ⟨?_, q2, q3, q4, q5, q6⟩
      obtain ⟨t, ht, -⟩ := State.frames_cons hr
      show ({ U with heap := s₂.heap, slotsUsed := s₂.slotsUsed } : State) = { U.setFrames U.frames with heap := s₂.heap, slotsUsed := s₂.slotsUsed }
      rw [State.setFrames_self ht]
    subst hg
    refine Or.inr ⟨q, ⟨(({ U with heap := s₂.heap, slotsUsed := s₂.slotsUsed } : State).setVm s₂.vm), Ls ++ L, c0 + mc, s0 + ms⟩,
      ⟨X.admits, X.cas, X.clock, X.frames, X.room, X.hears, X.method, X.code, (X.here.setHeapUsed s₂.heap s₂.slotsUsed).setVm hW'.alike, X.tail, State.WarmedH.trans X.warmed hW', X.limits, X.bytes, X.same.trans (hsame.setVm s.vm)⟩,
      ⟨g, mk, s₂, L, E, ce, rfl, rfl, hx, hce, hcv, hcl, rfl, hL, rfl, rfl⟩, ?_⟩
    show Steps p.tables e below _ (((({ U with heap := s₂.heap, slotsUsed := s₂.slotsUsed } : State).setVm s₂.vm).setTop g).pushFrame (.throwing q))
    rw [← hs₂]
    exact hsteps
end
variable {p : Program} {l : Launch} {e : Env} {R : Room} {s : State} {m : MethodId} {args : Array Value} {below : List Frame} {meth : Method} {c : Code} {T : State} {H : Heap} {locs : List Loc} {cells slots : Nat}
theorem vx_callVX (X : Stand p l e R s m args below meth c T locs cells slots) (hexec : p.tables.exec = Jvm.exec) {own C : String} {index : Nat} {y : MethodName} {bytes : ByteArray} {maxL : Nat} {ret : Option FieldType} {hh : List (Nat × Nat × Nat × Nat)}
    (hown : s.vm.findClass own = some m.cls) (hlink : (Cond.methodLink own index y).before args s = true) (hinst : (Cond.instanceMethod y).before args s = true) (hsel : (Cond.selects C y y).before args s = true)
    (hcode : (Cond.codeWith y bytes maxL ret hh).before args s = true) (hy : y.cls ≠ "java/lang/invoke/MethodHandle" ∧ y.cls ≠ "java/lang/invoke/VarHandle")
    {W9 : Nat} {Pre : Pt → Array Value → Prop} {Post : Pt → Array Value → Option Value → Pt → Prop} {PostX : Pt → Array Value → Addr → Pt → Prop} (hK : vx_Back l R p e below s args y 3 W9 Pre Post PostX)
    {b : Addr} {cellB : Cell} (hcell : T.heap[b]? = some cellB) (hobj : cellB.vm.isStatics = false) (hcls : s.vm.findClass C = some cellB.cls)
    {g : JFrame} (hg : g.method = m) (hsize : g.locals.size = c.maxLocals) {argsL rest : List Value} (hlen : ∀ sig, parseMethodDescriptor y.desc = some sig → argsL.length = sig.parameters.length)
    (hstack : g.stack = argsL.reverse ++ .ref b :: rest) (hW : 2 * g.monitorRoom + (rest.map fun v => v.category).sum ≤ W9) (hdg : decode c.code g.pc = .ok (.invokevirtual index, 3))
    (hpre : ∀ vm₁, s.WarmedH vm₁ → Pre ⟨T.setVm vm₁, locs, cells, slots⟩ (Value.ref b :: argsL).toArray) :
    (∃ (v : Option Value) (vm₁ : Vm) (B : Pt), s.WarmedH vm₁ ∧ Stand p l e R s m args below meth c B.U B.locs B.cells B.slots ∧ Post ⟨T.setVm vm₁, locs, cells, slots⟩ (Value.ref b :: argsL).toArray v B ∧
      ∀ target, Steps p.tables e below (B.U.setTop { g with pc := g.pc + 3, stack := v.toList ++ rest }) target → Steps p.tables e below (T.setTop g) target) ∨
    (∃ (q : Addr) (vm₁ : Vm) (B : Pt), s.WarmedH vm₁ ∧ Stand p l e R s m args below meth c B.U B.locs B.cells B.slots ∧ PostX ⟨T.setVm vm₁, locs, cells, slots⟩ (Value.ref b :: argsL).toArray q B ∧
      Steps p.tables e below (T.setTop g) ((B.U.setTop { g with stack := rest }).pushFrame (.throwing q))) := by
  obtain ⟨mk, methM, hnamed, hmethM, hstM, habM⟩ := Cond.instanceMethod_spec hinst
  obtain ⟨m8, methM', cM, hn8, hmethM', -, -, -, -, -, -, hsigM⟩ := Cond.codeWith_spec hcode
  cases Option.some.inj (hn8.symm.trans hnamed)
  cases hmethM.symm.trans hmethM'
  obtain ⟨c2, r2, m2, q1, q2, q3, q4, kP, hkP, hkPi⟩ := Cond.selects_spec hsel
  cases hcls.symm.trans q1
  cases (State.methodFound?_of_named hnamed hy).symm.trans q2
  cases hnamed.symm.trans q3
  have hselP : selectMethod e.platform s.vm cellB.cls mk = .method mk := by rw [Launch.admits_selectMethod X.admits]; exact q4
  obtain ⟨vm₁, X₁, hstep₁⟩ := X.invokevirtual hexec hown hlink hnamed hmethM hstM hkP hkPi hy (a := b) (cell := cellB) hcell
    (fun z h => by rw [h] at hobj; cases hobj) hselP hmethM habM hkP hkPi (g := g) hg (argsL := argsL) (rest := rest) (hlen _ hsigM) hstack hdg
  rcases hK m meth c ⟨T.setVm vm₁, locs, cells, slots⟩ { g with stack := rest } (.invokevirtual index) mk (Value.ref b :: argsL).toArray X₁ hg hsize hdg hW (X₁.named hnamed) (hpre vm₁ X₁.warmed) with ⟨v, B, X', hpost, hsteps⟩ | ⟨q, B, X', hpost, hsteps⟩
  · exact Or.inl ⟨v, vm₁, B, X₁.warmed, X', hpost, fun target h => hstep₁ _ fun acts => by rw [doInvoke_state]; exact hsteps.trans h⟩
  · exact Or.inr ⟨q, vm₁, B, X₁.warmed, X', hpost, hstep₁ _ fun acts => by rw [doInvoke_state]; exact hsteps⟩
theorem vx_callSX (X : Stand p l e R s m args below meth c T locs cells slots) (hexec : p.tables.exec = Jvm.exec) {own : String} {index : Nat} {y : MethodName} {bytes : ByteArray} {maxL : Nat} {ret : Option FieldType} {hh : List (Nat × Nat × Nat × Nat)}
    (hown : s.vm.findClass own = some m.cls) (hlink : (Cond.methodLink own index y).before args s = true) (hstat : (Cond.static y).before args s = true) (hinit : (Cond.initialized y.cls).before args s = true)
    (hcode : (Cond.codeWith y bytes maxL ret hh).before args s = true) (hy : y.cls ≠ "java/lang/invoke/MethodHandle" ∧ y.cls ≠ "java/lang/invoke/VarHandle")
    {W9 : Nat} {Pre : Pt → Array Value → Prop} {Post : Pt → Array Value → Option Value → Pt → Prop} {PostX : Pt → Array Value → Addr → Pt → Prop} (hK : vx_Back l R p e below s args y 3 W9 Pre Post PostX)
    {g : JFrame} (hg : g.method = m) (hsize : g.locals.size = c.maxLocals) {argsL rest : List Value} (hlen : ∀ sig, parseMethodDescriptor y.desc = some sig → argsL.length = sig.parameters.length)
    (hstack : g.stack = argsL.reverse ++ rest) (hW : 2 * g.monitorRoom + (rest.map fun v => v.category).sum ≤ W9) (hdg : decode c.code g.pc = .ok (.invokestatic index, 3))
    (hpre : ∀ vm₁, s.WarmedH vm₁ → Pre ⟨T.setVm vm₁, locs, cells, slots⟩ argsL.toArray) :
    (∃ (v : Option Value) (vm₁ : Vm) (B : Pt), s.WarmedH vm₁ ∧ Stand p l e R s m args below meth c B.U B.locs B.cells B.slots ∧ Post ⟨T.setVm vm₁, locs, cells, slots⟩ argsL.toArray v B ∧
      ∀ target, Steps p.tables e below (B.U.setTop { g with pc := g.pc + 3, stack := v.toList ++ rest }) target → Steps p.tables e below (T.setTop g) target) ∨
    (∃ (q : Addr) (vm₁ : Vm) (B : Pt), s.WarmedH vm₁ ∧ Stand p l e R s m args below meth c B.U B.locs B.cells B.slots ∧ PostX ⟨T.setVm vm₁, locs, cells, slots⟩ argsL.toArray q B ∧
      Steps p.tables e below (T.setTop g) ((B.U.setTop { g with stack := rest }).pushFrame (.throwing q))) := by
  obtain ⟨mk, methM, cM, hnamed, hmethM, -, -, -, -, -, -, hsigM⟩ := Cond.codeWith_spec hcode
  have hstatic : methM.isStatic = true := Cond.static_spec hnamed hmethM hstat
  obtain ⟨kP, hkP, -⟩ := className_of_methodNamed hnamed
  have hinitP : kP.init = .initialized := Cond.initialized_spec (findClass_of_methodNamed hnamed) hkP hinit
  obtain ⟨vm₁, X₁, hstep₁⟩ := X.invokestatic hexec hown hlink hnamed hmethM hstatic hkP hinitP hy (g := g) hg (argsL := argsL) (rest := rest) (hlen _ hsigM) hstack hdg
  rcases hK m meth c ⟨T.setVm vm₁, locs, cells, slots⟩ { g with stack := rest } (.invokestatic index) mk argsL.toArray X₁ hg hsize hdg hW (X₁.named hnamed) (hpre vm₁ X₁.warmed) with ⟨v, B, X', hpost, hsteps⟩ | ⟨q, B, X', hpost, hsteps⟩
  · exact Or.inl ⟨v, vm₁, B, X₁.warmed, X', hpost, fun target h => hstep₁ _ fun acts => by rw [doInvoke_state]; exact hsteps.trans h⟩
  · exact Or.inr ⟨q, vm₁, B, X₁.warmed, X', hpost, hstep₁ _ fun acts => by rw [doInvoke_state]; exact hsteps⟩
theorem vx_callVW (X : Stand p l e R s m args below meth c T locs cells slots) (hexec : p.tables.exec = Jvm.exec) {own C : String} {index : Nat} {y : MethodName} {bytes : ByteArray} {maxL : Nat} {ret : Option FieldType} {hh : List (Nat × Nat × Nat × Nat)}
    (hown : s.vm.findClass own = some m.cls) (hlink : (Cond.methodLink own index y).before args s = true) (hinst : (Cond.instanceMethod y).before args s = true) (hsel : (Cond.selects C y y).before args s = true)
    (hcode : (Cond.codeWith y bytes maxL ret hh).before args s = true) (hy : y.cls ≠ "java/lang/invoke/MethodHandle" ∧ y.cls ≠ "java/lang/invoke/VarHandle")
    {W9 : Nat} {Pre : Pt → Array Value → Prop} {Post : Pt → Array Value → Option Value → Pt → Prop} (hK : Back l R p e below s args y 3 W9 Pre Post)
    {b : Addr} {cellB : Cell} (hcell : T.heap[b]? = some cellB) (hobj : cellB.vm.isStatics = false) (hcls : s.vm.findClass C = some cellB.cls)
    {g : JFrame} (hg : g.method = m) (hsize : g.locals.size = c.maxLocals) {argsL rest : List Value} (hlen : ∀ sig, parseMethodDescriptor y.desc = some sig → argsL.length = sig.parameters.length)
    (hstack : g.stack = argsL.reverse ++ .ref b :: rest) (hW : 2 * g.monitorRoom + (rest.map fun v => v.category).sum ≤ W9) (hdg : decode c.code g.pc = .ok (.invokevirtual index, 3))
    (hpre : ∀ vm₁, s.WarmedH vm₁ → Pre ⟨T.setVm vm₁, locs, cells, slots⟩ (Value.ref b :: argsL).toArray) :
    ∃ (v : Option Value) (vm₁ : Vm) (B : Pt), s.WarmedH vm₁ ∧ Stand p l e R s m args below meth c B.U B.locs B.cells B.slots ∧ Post ⟨T.setVm vm₁, locs, cells, slots⟩ (Value.ref b :: argsL).toArray v B ∧
      ∀ target, Steps p.tables e below (B.U.setTop { g with pc := g.pc + 3, stack := v.toList ++ rest }) target → Steps p.tables e below (T.setTop g) target := by
  obtain ⟨mk, methM, hnamed, hmethM, hstM, habM⟩ := Cond.instanceMethod_spec hinst
  obtain ⟨m8, methM', cM, hn8, hmethM', -, -, -, -, -, -, hsigM⟩ := Cond.codeWith_spec hcode
  cases Option.some.inj (hn8.symm.trans hnamed)
  cases hmethM.symm.trans hmethM'
  obtain ⟨c2, r2, m2, q1, q2, q3, q4, kP, hkP, hkPi⟩ := Cond.selects_spec hsel
  cases hcls.symm.trans q1
  cases (State.methodFound?_of_named hnamed hy).symm.trans q2
  cases hnamed.symm.trans q3
  have hselP : selectMethod e.platform s.vm cellB.cls mk = .method mk := by rw [Launch.admits_selectMethod X.admits]; exact q4
  obtain ⟨vm₁, X₁, hstep₁⟩ := X.invokevirtual hexec hown hlink hnamed hmethM hstM hkP hkPi hy (a := b) (cell := cellB) hcell
    (fun z h => by rw [h] at hobj; cases hobj) hselP hmethM habM hkP hkPi (g := g) hg (argsL := argsL) (rest := rest) (hlen _ hsigM) hstack hdg
  obtain ⟨v, B, X', hpost, hsteps⟩ := hK m meth c ⟨T.setVm vm₁, locs, cells, slots⟩ { g with stack := rest } (.invokevirtual index) mk (Value.ref b :: argsL).toArray X₁ hg hsize hdg hW (X₁.named hnamed) (hpre vm₁ X₁.warmed)
  exact ⟨v, vm₁, B, X₁.warmed, X', hpost, fun target h => hstep₁ _ fun acts => by rw [doInvoke_state]; exact hsteps.trans h⟩
abbrev vx_CVW (R : Room) (s : State) (args : Array Value) (own C : String) (index : Nat) (y : MethodName) (bytes : ByteArray) (maxL : Nat) (ret : Option FieldType) (hh : List (Nat × Nat × Nat × Nat)) (ws : List Cond) (rm : Room) (mc ms n : Nat) : Prop :=
  (rm.cells = mc ∧ rm.slots = ms ∧ rm.frames + 1 ≤ R.frames ∧ 8 + (maxL + 11) + rm.locals ≤ R.locals ∧ (∀ w ∈ ws, ∀ (a' : Array Value) (U : State), s.WarmedH U.vm → w.before a' U = true) ∧ Cond.codeWith y bytes maxL ret hh ∈ ws) ∧
  (Cond.codeWith y bytes maxL ret hh).before args s = true ∧ (Cond.initialized y.cls).before args s = true ∧ (y.cls ≠ "java/lang/invoke/MethodHandle" ∧ y.cls ≠ "java/lang/invoke/VarHandle") ∧
  (∀ sig, parseMethodDescriptor y.desc = some sig → n = sig.parameters.length) ∧ (Cond.methodLink own index y).before args s = true ∧ (Cond.instanceMethod y).before args s = true ∧ (Cond.selects C y y).before args s = true
theorem vx_cwVW {own C : String} {index maxL mc ms : Nat} {y : MethodName} {bytes : ByteArray} {ret : Option FieldType} {hh : List (Nat × Nat × Nat × Nat)} {Ts ws ws' : List Cond} {rm : Room} (n : Nat) (ht : ∀ w ∈ Ts, w.before args s = true) (hT : GoodIn Ts (wsV own index C y ws)) (hw : ws = Cond.codeWith y bytes maxL ret hh :: ws') (hrc : rm.cells = mc) (hrs : rm.slots = ms)
    (hd : y.cls = C ∧ y.cls ≠ "java/lang/invoke/MethodHandle" ∧ y.cls ≠ "java/lang/invoke/VarHandle" ∧ (parseMethodDescriptor y.desc).map (fun d => d.parameters.length) = some n) (hR : rm.frames + 1 ≤ R.frames ∧ 8 + (maxL + 11) + rm.locals ≤ R.locals) :
    vx_CVW R s args own C index y bytes maxL ret hh ws rm mc ms n := by
  obtain ⟨hC, hd⟩ := hd
  subst hC
  have ok : ∀ w ∈ wsV own index y.cls y ws, w.before args s = true := fun w h => ht w (hT w h).1
  have hG : GoodIn Ts ws := fun w h => hT w (by unfold wsV; exact List.mem_append_right _ h)
  have hc : Cond.codeWith y bytes maxL ret hh ∈ ws := by rw [hw]; exact List.mem_cons_self
  refine ⟨⟨hrc, hrs, hR.1, hR.2, pay_in ht hG, hc⟩, ht _ (hG _ hc).1, ok _ (by simp [wsV]), ⟨hd.1, hd.2.1⟩, fun sig h => ?_, ok _ (by simp [wsV]), ok _ (by simp [wsV]), ok _ (by simp [wsV])⟩
  have h2 := hd.2.2
  rw [h] at h2
  exact (Option.some.inj h2).symm
theorem vx_runVW {y : MethodName} {bytes cc : ByteArray} {maxL nL mc ms n index : Nat} {ret : Option FieldType} {hh : List (Nat × Nat × Nat × Nat)} {ws : List Cond} {rm : Room} {Pc : Array Value → State → Prop} {Qc : Array Value → State → Outcome → State → Prop} {free : Addr → Prop} {Ts : List Cond} {own C : String} {b : Addr} {As rest : List Value} {g : JFrame}
    (S : CallFix p m c cc nL s args Ts own) (hM : Met l y ws rm Pc Qc mc ms free) (cw : vx_CVW R s args own C index y bytes maxL ret hh ws rm mc ms n) (hp : PreV s H C b Pc As)
    (hg : g.method = m) (hn : As.length = n) (hsize : g.locals.size = nL) (hstack : g.stack = As.reverse ++ .ref b :: rest) (hW : 2 * g.monitorRoom + (rest.map fun v => v.category).sum ≤ 8) (hdg : decode cc g.pc = .ok (.invokevirtual index, 3)) (hf : cells + mc ≤ R.cells ∧ slots + ms ≤ R.slots) :
    va_Run p l e R s m args below meth c H locs cells slots mc ms g rest (Qc (Value.ref b :: As).toArray) free := by
  obtain ⟨⟨hrc, hrs, hfr, hlo, hws, hcw⟩, hcode, hini, hy, hlen, hl, hin, hse⟩ := cw
  have hK : Back l R p e below s args y 3 8 (PreOf R mc ms Pc) (PostOf Qc mc ms free) := va_backW (hh := hh) (bytes := bytes) (maxL := maxL) (ret := ret) hM hp.1 hrc hrs hfr hlo hws hcw (fun a' U hW => word_at hW (Or.inl (by first | rfl | simp [Cond.onTables, Cond.keeps, Cond.steady])) hini)
  obtain ⟨hx, hb, hml, ho, -⟩ := S
  obtain ⟨-, ⟨cellB, hcB, hoB, hclB⟩, hPc⟩ := hp
  intro T hT X
  obtain ⟨v, vm₁, ⟨U', l2, c2, s2⟩, hW₁, X', ⟨g', mk, t, L, e1, e2, hq, h1, hL, h2, h3⟩, st⟩ := vx_callVW X hx (C := C) (hh := hh) (bytes := bytes) (maxL := maxL) (ret := ret) ho hl hin hse hcode hy hK (by rw [hT]; exact hcB) hoB hclB hg (hsize.trans hml.symm) (argsL := As) (rest := rest) (fun sig h => hn.trans (hlen sig h)) hstack hW (by rw [hb]; exact hdg)
    (fun vm₁ hW₁ => ⟨hf.1, hf.2, hPc (T.setVm vm₁) hT hW₁⟩)
  dsimp only [Pt.U, Pt.locs, Pt.cells, Pt.slots] at X' e1 e2 h1 h2 h3 st
  subst h1; subst h2; subst h3
  exact ⟨v, (T.setVm vm₁).calling g' mk (Value.ref b :: As).toArray, t, U', L, hT, X', hL, e1, e2, hq, st⟩
section
variable {y : MethodName} {bytes cc : ByteArray} {maxL nL mc ms n index : Nat} {ret : Option FieldType} {ws : List Cond} {rm : Room} {Pc : Array Value → State → Prop} {Qc : Array Value → State → Outcome → State → Prop} {XC : String → State → State → Prop} {free : Addr → Prop} {Ts : List Cond} {own C : String} {b : Addr} {As rest : List Value} {g : JFrame}
theorem vx_runVX {hh : List (Nat × Nat × Nat × Nat)} (S : CallFix p m c cc nL s args Ts own) (hM : vx_Met l y ws rm Pc Qc XC mc ms free) (cw : vx_CVW R s args own C index y bytes maxL ret hh ws rm mc ms n) (hp : PreV s H C b Pc As)
    (hg : g.method = m) (hn : As.length = n) (hsize : g.locals.size = nL) (hstack : g.stack = As.reverse ++ .ref b :: rest) (hW : 2 * g.monitorRoom + (rest.map fun v => v.category).sum ≤ 8) (hdg : decode cc g.pc = .ok (.invokevirtual index, 3)) (hf : cells + mc ≤ R.cells ∧ slots + ms ≤ R.slots) :
    vx_Run p l e R s m args below meth c H locs cells slots mc ms g rest (Qc (Value.ref b :: As).toArray) XC free := by
  obtain ⟨⟨hrc, hrs, hfr, hlo, hws, hcw⟩, hcode, hini, hy, hlen, hl, hin, hse⟩ := cw
  have hK : vx_Back l R p e below s args y 3 8 (PreOf R mc ms Pc) (PostOf Qc mc ms free) (vx_Post XC mc ms free) := vx_backW (hh := hh) (bytes := bytes) (maxL := maxL) (ret := ret) hM hp.1 hrc hrs hfr hlo hws hcw (fun a' U hW => word_at hW (Or.inl (by first | rfl | simp [Cond.onTables, Cond.keeps, Cond.steady])) hini)
  obtain ⟨hx, hb, hml, ho, -⟩ := S
  obtain ⟨-, ⟨cellB, hcB, hoB, hclB⟩, hPc⟩ := hp
  intro T hT X
  rcases vx_callVX X hx (C := C) (hh := hh) (bytes := bytes) (maxL := maxL) (ret := ret) ho hl hin hse hcode hy hK (by rw [hT]; exact hcB) hoB hclB hg (hsize.trans hml.symm) (argsL := As) (rest := rest) (fun sig h => hn.trans (hlen sig h)) hstack hW (by rw [hb]; exact hdg)
    (fun vm₁ hW₁ => ⟨hf.1, hf.2, hPc (T.setVm vm₁) hT hW₁⟩) with ⟨v, vm₁, ⟨U', l2, c2, s2⟩, hW₁, X', ⟨g', mk, t, L, e1, e2, hq, h1, hL, h2, h3⟩, st⟩ | ⟨q, vm₁, ⟨U', l2, c2, s2⟩, hW₁, X', ⟨g', mk, t, L, E, ce, e1, e2, hq, hce, hcv, hcl, h1, hL, h2, h3⟩, st⟩
  · dsimp only [Pt.U, Pt.locs, Pt.cells, Pt.slots] at X' e1 e2 h1 h2 h3 st
    subst h1; subst h2; subst h3
    exact Or.inl ⟨v, (T.setVm vm₁).calling g' mk (Value.ref b :: As).toArray, t, U', L, hT, X', hL, e1, e2, hq, st⟩
  · dsimp only [Pt.U, Pt.locs, Pt.cells, Pt.slots] at X' e1 e2 h1 h2 h3 st hcl
    subst h1; subst h2; subst h3
    exact Or.inr ⟨q, (T.setVm vm₁).calling g' mk (Value.ref b :: As).toArray, t, U', L, E, ce, hT, X', hL, e1, e2, hq, hce, hcv, vx_cls hW₁ hcl, st⟩
theorem vx_runSX {hh : List (Nat × Nat × Nat × Nat)} (S : CallFix p m c cc nL s args Ts own) (hM : vx_Met l y ws rm Pc Qc XC mc ms free) (cw : vx_CSW R s args own index y bytes maxL ret hh ws rm mc ms n) (hp : PreS s H Pc As)
    (hg : g.method = m) (hn : As.length = n) (hsize : g.locals.size = nL) (hstack : g.stack = As.reverse ++ rest) (hW : 2 * g.monitorRoom + (rest.map fun v => v.category).sum ≤ 8) (hdg : decode cc g.pc = .ok (.invokestatic index, 3)) (hf : cells + mc ≤ R.cells ∧ slots + ms ≤ R.slots) :
    vx_Run p l e R s m args below meth c H locs cells slots mc ms g rest (Qc As.toArray) XC free := by
  obtain ⟨⟨hrc, hrs, hfr, hlo, hws, hcw⟩, hcode, hini, hy, hlen, hl, hstt⟩ := cw
  have hK : vx_Back l R p e below s args y 3 8 (PreOf R mc ms Pc) (PostOf Qc mc ms free) (vx_Post XC mc ms free) := vx_backW (hh := hh) (bytes := bytes) (maxL := maxL) (ret := ret) hM hp.1 hrc hrs hfr hlo hws hcw (fun a' U hW => word_at hW (Or.inl (by first | rfl | simp [Cond.onTables, Cond.keeps, Cond.steady])) hini)
  obtain ⟨hx, hb, hml, ho, -⟩ := S
  intro T hT X
  rcases vx_callSX X hx (hh := hh) (bytes := bytes) (maxL := maxL) (ret := ret) ho hl hstt hini hcode hy hK hg (hsize.trans hml.symm) (argsL := As) (rest := rest) (fun sig h => hn.trans (hlen sig h)) hstack hW (by rw [hb]; exact hdg)
    (fun vm₁ hW₁ => ⟨hf.1, hf.2, hp.2 (T.setVm vm₁) hT hW₁⟩) with ⟨v, vm₁, ⟨U', l2, c2, s2⟩, hW₁, X', ⟨g', mk, t, L, e1, e2, hq, h1, hL, h2, h3⟩, st⟩ | ⟨q, vm₁, ⟨U', l2, c2, s2⟩, hW₁, X', ⟨g', mk, t, L, E, ce, e1, e2, hq, hce, hcv, hcl, h1, hL, h2, h3⟩, st⟩
  · dsimp only [Pt.U, Pt.locs, Pt.cells, Pt.slots] at X' e1 e2 h1 h2 h3 st
    subst h1; subst h2; subst h3
    exact Or.inl ⟨v, (T.setVm vm₁).calling g' mk As.toArray, t, U', L, hT, X', hL, e1, e2, hq, st⟩
  · dsimp only [Pt.U, Pt.locs, Pt.cells, Pt.slots] at X' e1 e2 h1 h2 h3 st hcl
    subst h1; subst h2; subst h3
    exact Or.inr ⟨q, (T.setVm vm₁).calling g' mk As.toArray, t, U', L, E, ce, hT, X', hL, e1, e2, hq, hce, hcv, vx_cls hW₁ hcl, st⟩
end
end VXH
theorem vx_ofWH {l : Launch} {y : MethodName} {ws ws' : List Cond} {rm : Room} {Pc : Array Value → State → Prop} {Qc : Array Value → State → Outcome → State → Prop} {XC : String → State → State → Prop} {mc ms : Nat} {free : Addr → Prop} {cc : ByteArray} {maxL : Nat} {ret : Option FieldType} {hh : List (Nat × Nat × Nat × Nat)}
    (hy : plainName y.cls = true) (hw : ws = Cond.codeWith y cc maxL ret hh :: ws')
    (body : ∀ p e s m args below meth c s₁, BodyLoose p l y (headSpec ws rm) cc maxL ret e s m args below meth c s₁ → c.maxLocals = maxL → Pc args s →
      W p l e (headSpec ws rm).room s m args below meth c s.heap [] 0 0 (vx_MQ below Qc XC args s mc ms free) (entryFrame m args maxL)) : vx_Met l y ws rm Pc Qc XC mc ms free := by
  refine MetFree.of_bodyS (code := cc) (maxLocals := maxL) (ret := ret) hy ?_ ?_
  · intro args s m h hn
    obtain ⟨m9, meth, c, hn9, h1, h2, h3, h4, -, h5, h6, -⟩ := Cond.codeWith_spec (atoms_spec (ws := ws) h _ (by rw [hw]; exact List.mem_cons_self))
    cases hn.symm.trans hn9
    exact ⟨meth, c, h1, h2, h3, h4, h5, h6⟩
  · intro p e s m args below meth c s₁ B hml hP _
    have hh0 : s₁.heap = s.heap := by rw [B.state]; rfl
    obtain ⟨t, a1, o, b1, b2, b3⟩ := body p e s m args below meth c s₁ B hml hP s₁ hh0 (Stand.of_body B)
    exact ⟨t, o, a1, b1, b2, b3⟩
/-! ===== END ===== -/

/-! ===== BEGIN a constructor that throws (launches without stack traces) ===== -/
section VXIA
variable {p : Program} {l : Launch} {e : Env} {R : Room} {s : State} {m : MethodId} {args : Array Value} {below : List Frame} {meth : Method} {c : Code} {T : State} {locs : List Loc} {cells slots : Nat}
theorem vx_callI (X : Stand p l e R s m args below meth c T locs cells slots) (hexec : p.tables.exec = Jvm.exec) {own : String} {index : Nat} {y : MethodName} {bytes : ByteArray} {maxL : Nat}
    (hown : s.vm.findClass own = some m.cls) (hy1 : y.name = "<init>") (hlink : (Cond.methodLink own index y).before args s = true) (hinst : (Cond.instanceMethod y).before args s = true)
    (hcode : (Cond.code y bytes maxL none).before args s = true) (hy : y.cls ≠ "java/lang/invoke/MethodHandle" ∧ y.cls ≠ "java/lang/invoke/VarHandle")
    {W9 : Nat} {Pre : Pt → Array Value → Prop} {Post : Pt → Array Value → Option Value → Pt → Prop} {PostX : Pt → Array Value → Addr → Pt → Prop} (hK : vx_Back l R p e below s args y 3 W9 Pre Post PostX)
    {g : JFrame} (hg : g.method = m) (hsize : g.locals.size = c.maxLocals) {a : Addr} {argsL rest : List Value} (hlen : ∀ sig, parseMethodDescriptor y.desc = some sig → argsL.length = sig.parameters.length)
    (hstack : g.stack = argsL.reverse ++ .ref a :: rest) (hW : 2 * g.monitorRoom + (rest.map fun v => v.category).sum ≤ W9) (hdg : decode c.code g.pc = .ok (.invokespecial index, 3))
    (hpre : ∀ vm₁, s.WarmedH vm₁ → Pre ⟨T.setVm vm₁, locs, cells, slots⟩ (Value.ref a :: argsL).toArray) :
    (∃ (v : Option Value) (vm₁ : Vm) (B : Pt), s.WarmedH vm₁ ∧ Stand p l e R s m args below meth c B.U B.locs B.cells B.slots ∧ Post ⟨T.setVm vm₁, locs, cells, slots⟩ (Value.ref a :: argsL).toArray v B ∧
      ∀ target, Steps p.tables e below (B.U.setTop { g with pc := g.pc + 3, stack := v.toList ++ rest }) target → Steps p.tables e below (T.setTop g) target) ∨
    (∃ (q : Addr) (vm₁ : Vm) (B : Pt), s.WarmedH vm₁ ∧ Stand p l e R s m args below meth c B.U B.locs B.cells B.slots ∧ PostX ⟨T.setVm vm₁, locs, cells, slots⟩ (Value.ref a :: argsL).toArray q B ∧
      Steps p.tables e below (T.setTop g) ((B.U.setTop { g with stack := rest }).pushFrame (.throwing q))) := by
  subst hg
  have hpl : e.platform.magicAccessors = ({} : Platform).magicAccessors := by rw [X.admits.platform]
  obtain ⟨mk, methM, cM, kP, vm₁, hnamed, hmethM, hcodeM, -, hlocalsM, -, hkP, -, hW₁, hstep₁⟩ := Steps.initColdArgs (e := e) X.here hexec X.warmed hpl hown hy1 hy hlink hinst hcode (f := g) rfl hlen hstack hdg
  have X₁ := X.noted hW₁
  rcases hK g.method meth c ⟨T.setVm vm₁, locs, cells, slots⟩ { g with stack := rest } (.invokespecial index) mk (Value.ref a :: argsL).toArray X₁ rfl hsize hdg hW (X₁.named hnamed) (hpre vm₁ X₁.warmed) with ⟨v, B, X', hpost, hsteps⟩ | ⟨q, B, X', hpost, hsteps⟩
  · exact Or.inl ⟨v, vm₁, B, X₁.warmed, X', hpost, fun target h => hstep₁ _ fun acts => by rw [doInvoke_state]; exact hsteps.trans h⟩
  · exact Or.inr ⟨q, vm₁, B, X₁.warmed, X', hpost, hstep₁ _ fun acts => by rw [doInvoke_state]; exact hsteps⟩
end VXIA
section VXIB
variable {p : Program} {l : Launch} {e : Env} {R : Room} {s : State} {m : MethodId} {args : Array Value} {below : List Frame} {meth : Method} {c : Code} {H : Heap} {locs : List Loc} {cells slots : Nat}
variable {y : MethodName} {bytes cc : ByteArray} {maxL nL mc ms n index : Nat} {ret : Option FieldType} {ws : List Cond} {rm : Room} {Pc : Array Value → State → Prop} {Qc : Array Value → State → Outcome → State → Prop} {XC : String → State → State → Prop} {free : Addr → Prop} {Ts : List Cond} {own C : String} {b : Addr} {As rest : List Value} {g : JFrame}
theorem vx_runI (S : CallFix p m c cc nL s args Ts own) (hM : vx_Met l y ws rm Pc Qc XC mc ms free) (cw : CallB R s args own index y bytes maxL none ws rm mc ms n ∧ y.name = "<init>" ∧ (Cond.instanceMethod y).before args s = true) (hp : PreS s H Pc (.ref b :: As))
    (hg : g.method = m) (hn : As.length = n) (hsize : g.locals.size = nL) (hstack : g.stack = As.reverse ++ .ref b :: rest) (hW : 2 * g.monitorRoom + (rest.map fun v => v.category).sum ≤ 8) (hdg : decode cc g.pc = .ok (.invokespecial index, 3)) (hf : cells + mc ≤ R.cells ∧ slots + ms ≤ R.slots) :
    vx_Run p l e R s m args below meth c H locs cells slots mc ms g rest (Qc (Value.ref b :: As).toArray) XC free := by
  have hK : vx_Back l R p e below s args y 3 8 (PreOf R mc ms Pc) (PostOf Qc mc ms free) (vx_Post XC mc ms free) := vx_callBack cw.1 hM hp.1
  obtain ⟨⟨-, -, -, -, -, -, hcode, -, hy, hlen, hl⟩, hy1, hin⟩ := cw
  obtain ⟨hx, hb, hml, ho, -⟩ := S
  have hPc := hp.2
  intro T hT X
  rcases vx_callI X hx (bytes := bytes) (maxL := maxL) ho hy1 hl hin hcode hy hK hg (hsize.trans hml.symm) (a := b) (argsL := As) (rest := rest) (fun sig h => hn.trans (hlen sig h)) hstack hW (by rw [hb]; exact hdg)
    (fun vm₁ hW₁ => ⟨hf.1, hf.2, hPc (T.setVm vm₁) hT hW₁⟩) with ⟨v, vm₁, ⟨U', l2, c2, s2⟩, hW₁, X', ⟨g', mk, t, L, e1, e2, hq, h1, hL, h2, h3⟩, st⟩ | ⟨q, vm₁, ⟨U', l2, c2, s2⟩, hW₁, X', ⟨g', mk, t, L, E, ce, e1, e2, hq, hce, hcv, hcl, h1, hL, h2, h3⟩, st⟩
  · dsimp only [Pt.U, Pt.locs, Pt.cells, Pt.slots] at X' e1 e2 h1 h2 h3 st
    subst h1; subst h2; subst h3
    exact Or.inl ⟨v, (T.setVm vm₁).calling g' mk (Value.ref b :: As).toArray, t, U', L, hT, X', hL, e1, e2, hq, st⟩
  · dsimp only [Pt.U, Pt.locs, Pt.cells, Pt.slots] at X' e1 e2 h1 h2 h3 st hcl
    subst h1; subst h2; subst h3
    exact Or.inr ⟨q, (T.setVm vm₁).calling g' mk (Value.ref b :: As).toArray, t, U', L, E, ce, hT, X', hL, e1, e2, hq, hce, hcv, vx_cls hW₁ hcl, st⟩
end VXIB
/-! ===== END ===== -/
/-! ===== BEGIN a private constructor of a nest mate that throws ===== -/
section VXIC
variable {p : Program} {l : Launch} {e : Env} {R : Room} {s : State} {m : MethodId} {args : Array Value} {below : List Frame} {meth : Method} {c : Code} {T : State} {locs : List Loc} {cells slots : Nat}
theorem vx_callIN (X : Stand p l e R s m args below meth c T locs cells slots) (hexec : p.tables.exec = Jvm.exec) {own : String} {index : Nat} {host : String} {y : MethodName} {bytes : ByteArray} {maxL : Nat}
    (hown : s.vm.findClass own = some m.cls) (hy1 : y.name = "<init>") (hlink : (Cond.methodLinkNest own index y host).before args s = true) (hinst : (Cond.instanceMethod y).before args s = true)
    (hcode : (Cond.code y bytes maxL none).before args s = true) (hy : y.cls ≠ "java/lang/invoke/MethodHandle" ∧ y.cls ≠ "java/lang/invoke/VarHandle")
    {W9 : Nat} {Pre : Pt → Array Value → Prop} {Post : Pt → Array Value → Option Value → Pt → Prop} {PostX : Pt → Array Value → Addr → Pt → Prop} (hK : vx_Back l R p e below s args y 3 W9 Pre Post PostX)
    {g : JFrame} (hg : g.method = m) (hsize : g.locals.size = c.maxLocals) {a : Addr} {argsL rest : List Value} (hlen : ∀ sig, parseMethodDescriptor y.desc = some sig → argsL.length = sig.parameters.length)
    (hstack : g.stack = argsL.reverse ++ .ref a :: rest) (hW : 2 * g.monitorRoom + (rest.map fun v => v.category).sum ≤ W9) (hdg : decode c.code g.pc = .ok (.invokespecial index, 3))
    (hpre : ∀ vm₁, s.WarmedH vm₁ → Pre ⟨T.setVm vm₁, locs, cells, slots⟩ (Value.ref a :: argsL).toArray) :
    (∃ (v : Option Value) (vm₁ : Vm) (B : Pt), s.WarmedH vm₁ ∧ Stand p l e R s m args below meth c B.U B.locs B.cells B.slots ∧ Post ⟨T.setVm vm₁, locs, cells, slots⟩ (Value.ref a :: argsL).toArray v B ∧
      ∀ target, Steps p.tables e below (B.U.setTop { g with pc := g.pc + 3, stack := v.toList ++ rest }) target → Steps p.tables e below (T.setTop g) target) ∨
    (∃ (q : Addr) (vm₁ : Vm) (B : Pt), s.WarmedH vm₁ ∧ Stand p l e R s m args below meth c B.U B.locs B.cells B.slots ∧ PostX ⟨T.setVm vm₁, locs, cells, slots⟩ (Value.ref a :: argsL).toArray q B ∧
      Steps p.tables e below (T.setTop g) ((B.U.setTop { g with stack := rest }).pushFrame (.throwing q))) := by
  subst hg
  have hpl : e.platform.magicAccessors = ({} : Platform).magicAccessors := by rw [X.admits.platform]
  obtain ⟨mk, methM, cM, kP, vm₁, hnamed, hmethM, hcodeM, -, hlocalsM, -, hkP, -, hW₁, hstep₁⟩ := Steps.initColdArgsNest (e := e) X.here hexec X.warmed hpl hown hy1 hy hlink hinst hcode (f := g) rfl hlen hstack hdg
  have X₁ := X.noted hW₁
  rcases hK g.method meth c ⟨T.setVm vm₁, locs, cells, slots⟩ { g with stack := rest } (.invokespecial index) mk (Value.ref a :: argsL).toArray X₁ rfl hsize hdg hW (X₁.named hnamed) (hpre vm₁ X₁.warmed) with ⟨v, B, X', hpost, hsteps⟩ | ⟨q, B, X', hpost, hsteps⟩
  · exact Or.inl ⟨v, vm₁, B, X₁.warmed, X', hpost, fun target h => hstep₁ _ fun acts => by rw [doInvoke_state]; exact hsteps.trans h⟩
  · exact Or.inr ⟨q, vm₁, B, X₁.warmed, X', hpost, hstep₁ _ fun acts => by rw [doInvoke_state]; exact hsteps⟩
end VXIC
section VXID
variable {p : Program} {l : Launch} {e : Env} {R : Room} {s : State} {m : MethodId} {args : Array Value} {below : List Frame} {meth : Method} {c : Code} {H : Heap} {locs : List Loc} {cells slots : Nat}
theorem vx_runIN {y : MethodName} {bytes cc : ByteArray} {maxL nL mc ms n index : Nat} {ws : List Cond} {rm : Room} {Pc : Array Value → State → Prop} {Qc : Array Value → State → Outcome → State → Prop} {XC : String → State → State → Prop} {free : Addr → Prop} {Ts : List Cond} {own host : String} {b : Addr} {As rest : List Value} {g : JFrame}
    (S : CallFix p m c cc nL s args Ts own) (hM : vx_Met l y ws rm Pc Qc XC mc ms free) (cw : va_CN R s args own index y host bytes maxL none ws rm mc ms n ∧ y.name = "<init>" ∧ (Cond.instanceMethod y).before args s = true) (hp : PreS s H Pc (.ref b :: As))
    (hg : g.method = m) (hn : As.length = n) (hsize : g.locals.size = nL) (hstack : g.stack = As.reverse ++ .ref b :: rest) (hW : 2 * g.monitorRoom + (rest.map fun v => v.category).sum ≤ 8) (hdg : decode cc g.pc = .ok (.invokespecial index, 3)) (hf : cells + mc ≤ R.cells ∧ slots + ms ≤ R.slots) :
    vx_Run p l e R s m args below meth c H locs cells slots mc ms g rest (Qc (Value.ref b :: As).toArray) XC free := by
  obtain ⟨⟨⟨hrc, hrs, hfr, hlo, hws, hcw⟩, hcode, hini, hy, hlen, hl⟩, hx1, hx2⟩ := cw
  have hK : vx_Back l R p e below s args y 3 8 (PreOf R mc ms Pc) (PostOf Qc mc ms free) (vx_Post XC mc ms free) := vx_back (bytes := bytes) (maxL := maxL) (ret := none) hM hp.1 hrc hrs hfr hlo hws hcw (fun a' U hW => word_at hW (Or.inl (by first | rfl | simp [Cond.onTables, Cond.keeps, Cond.steady])) hini)
  obtain ⟨hx, hb, hml, ho, -⟩ := S
  have hPc := hp.2
  intro T hT X
  rcases vx_callIN X hx (bytes := bytes) (maxL := maxL) ho hx1 hl hx2 hcode hy hK hg (hsize.trans hml.symm) (a := b) (argsL := As) (rest := rest) (fun sig h => hn.trans (hlen sig h)) hstack hW (by rw [hb]; exact hdg)
    (fun vm₁ hW₁ => ⟨hf.1, hf.2, hPc (T.setVm vm₁) hT hW₁⟩) with ⟨v, vm₁, ⟨U', l2, c2, s2⟩, hW₁, X', ⟨g', mk, t, L, e1, e2, hq, h1, hL, h2, h3⟩, st⟩ | ⟨q, vm₁, ⟨U', l2, c2, s2⟩, hW₁, X', ⟨g', mk, t, L, E, ce, e1, e2, hq, hce, hcv, hcl, h1, hL, h2, h3⟩, st⟩
  · dsimp only [Pt.U, Pt.locs, Pt.cells, Pt.slots] at X' e1 e2 h1 h2 h3 st
    subst h1; subst h2; subst h3
    exact Or.inl ⟨v, (T.setVm vm₁).calling g' mk (Value.ref b :: As).toArray, t, U', L, hT, X', hL, e1, e2, hq, st⟩
  · dsimp only [Pt.U, Pt.locs, Pt.cells, Pt.slots] at X' e1 e2 h1 h2 h3 st hcl
    subst h1; subst h2; subst h3
    exact Or.inr ⟨q, (T.setVm vm₁).calling g' mk (Value.ref b :: As).toArray, t, U', L, E, ce, hT, X', hL, e1, e2, hq, hce, hcv, vx_cls hW₁ hcl, st⟩
end VXID
/-! ===== END ===== -/
/-! ===== BEGIN a private method of a nest mate that may throw (follows va_callVN, va_callSN, va_runVN, va_runSN) ===== -/
section
variable {p : Program} {l : Launch} {e : Env} {R : Room} {s : State} {m : MethodId} {args : Array Value} {below : List Frame} {meth : Method} {c : Code} {H : Heap} {locs : List Loc} {cells slots : Nat}
variable {T : State}
theorem vx_callVN (X : Stand p l e R s m args below meth c T locs cells slots) (hexec : p.tables.exec = Jvm.exec) {own C : String} {index : Nat} {host : String} {y : MethodName} {bytes : ByteArray} {maxL : Nat} {ret : Option FieldType}
    (hown : s.vm.findClass own = some m.cls) (hlink : (Cond.methodLinkNest own index y host).before args s = true) (hinst : (Cond.instanceMethod y).before args s = true) (hsel : (Cond.selects C y y).before args s = true)
    (hcode : (Cond.code y bytes maxL ret).before args s = true) (hy : y.cls ≠ "java/lang/invoke/MethodHandle" ∧ y.cls ≠ "java/lang/invoke/VarHandle")
    {W : Nat} {Pre : Pt → Array Value → Prop} {Post : Pt → Array Value → Option Value → Pt → Prop} {PostX : Pt → Array Value → Addr → Pt → Prop} (hK : vx_Back l R p e below s args y 3 W Pre Post PostX)
    {b : Addr} {cellB : Cell} (hcell : T.heap[b]? = some cellB) (hobj : cellB.vm.isStatics = false) (hcls : s.vm.findClass C = some cellB.cls)
    {g : JFrame} (hg : g.method = m) (hsize : g.locals.size = c.maxLocals) {argsL rest : List Value} (hlen : ∀ sig, parseMethodDescriptor y.desc = some sig → argsL.length = sig.parameters.length)
    (hstack : g.stack = argsL.reverse ++ .ref b :: rest) (hW : 2 * g.monitorRoom + (rest.map fun v => v.category).sum ≤ W) (hdg : decode c.code g.pc = .ok (.invokevirtual index, 3))
    (hpre : ∀ vm₁, s.WarmedH vm₁ → Pre ⟨T.setVm vm₁, locs, cells, slots⟩ (Value.ref b :: argsL).toArray) :
    (∃ (v : Option Value) (vm₁ : Vm) (B : Pt), s.WarmedH vm₁ ∧ Stand p l e R s m args below meth c B.U B.locs B.cells B.slots ∧ Post ⟨T.setVm vm₁, locs, cells, slots⟩ (Value.ref b :: argsL).toArray v B ∧
      ∀ target, Steps p.tables e below (B.U.setTop { g with pc := g.pc + 3, stack := v.toList ++ rest }) target → Steps p.tables e below (T.setTop g) target) ∨
    (∃ (q : Addr) (vm₁ : Vm) (B : Pt), s.WarmedH vm₁ ∧ Stand p l e R s m args below meth c B.U B.locs B.cells B.slots ∧ PostX ⟨T.setVm vm₁, locs, cells, slots⟩ (Value.ref b :: argsL).toArray q B ∧
      Steps p.tables e below (T.setTop g) ((B.U.setTop { g with stack := rest }).pushFrame (.throwing q))) := by
  obtain ⟨mk, methM, hnamed, hmethM, hstM, habM⟩ := Cond.instanceMethod_spec hinst
  obtain ⟨methM', cM, hmethM', -, -, -, -, -, -, hsigM⟩ := Cond.code_spec hnamed hcode
  cases hmethM.symm.trans hmethM'
  obtain ⟨c2, r2, m2, q1, q2, q3, q4, kP, hkP, hkPi⟩ := Cond.selects_spec hsel
  cases hcls.symm.trans q1
  cases (State.methodFound?_of_named hnamed hy).symm.trans q2
  cases hnamed.symm.trans q3
  have hselP : selectMethod e.platform s.vm cellB.cls mk = .method mk := by rw [Launch.admits_selectMethod X.admits]; exact q4
  obtain ⟨vm₁, X₁, hstep₁⟩ := X.invokevirtualNest hexec hown hlink hnamed hmethM hstM hkP hkPi hy (a := b) (cell := cellB) hcell
    (fun z h => by rw [h] at hobj; cases hobj) hselP hmethM habM hkP hkPi (g := g) hg (argsL := argsL) (rest := rest) (hlen _ hsigM) hstack hdg
  rcases hK m meth c ⟨T.setVm vm₁, locs, cells, slots⟩ { g with stack := rest } (.invokevirtual index) mk (Value.ref b :: argsL).toArray X₁ hg hsize hdg hW (X₁.named hnamed) (hpre vm₁ X₁.warmed) with ⟨v, B, X', hpost, hsteps⟩ | ⟨q, B, X', hpost, hsteps⟩
  · exact Or.inl ⟨v, vm₁, B, X₁.warmed, X', hpost, fun target h => hstep₁ _ fun acts => by rw [doInvoke_state]; exact hsteps.trans h⟩
  · exact Or.inr ⟨q, vm₁, B, X₁.warmed, X', hpost, hstep₁ _ fun acts => by rw [doInvoke_state]; exact hsteps⟩
theorem vx_callSN (X : Stand p l e R s m args below meth c T locs cells slots) (hexec : p.tables.exec = Jvm.exec) {own : String} {index : Nat} {host : String} {y : MethodName} {bytes : ByteArray} {maxL : Nat} {ret : Option FieldType}
    (hown : s.vm.findClass own = some m.cls) (hlink : (Cond.methodLinkNest own index y host).before args s = true) (hstat : (Cond.static y).before args s = true) (hinit : (Cond.initialized y.cls).before args s = true)
    (hcode : (Cond.code y bytes maxL ret).before args s = true) (hy : y.cls ≠ "java/lang/invoke/MethodHandle" ∧ y.cls ≠ "java/lang/invoke/VarHandle")
    {W : Nat} {Pre : Pt → Array Value → Prop} {Post : Pt → Array Value → Option Value → Pt → Prop} {PostX : Pt → Array Value → Addr → Pt → Prop} (hK : vx_Back l R p e below s args y 3 W Pre Post PostX)
    {g : JFrame} (hg : g.method = m) (hsize : g.locals.size = c.maxLocals) {argsL rest : List Value} (hlen : ∀ sig, parseMethodDescriptor y.desc = some sig → argsL.length = sig.parameters.length)
    (hstack : g.stack = argsL.reverse ++ rest) (hW : 2 * g.monitorRoom + (rest.map fun v => v.category).sum ≤ W) (hdg : decode c.code g.pc = .ok (.invokestatic index, 3))
    (hpre : ∀ vm₁, s.WarmedH vm₁ → Pre ⟨T.setVm vm₁, locs, cells, slots⟩ argsL.toArray) :
    (∃ (v : Option Value) (vm₁ : Vm) (B : Pt), s.WarmedH vm₁ ∧ Stand p l e R s m args below meth c B.U B.locs B.cells B.slots ∧ Post ⟨T.setVm vm₁, locs, cells, slots⟩ argsL.toArray v B ∧
      ∀ target, Steps p.tables e below (B.U.setTop { g with pc := g.pc + 3, stack := v.toList ++ rest }) target → Steps p.tables e below (T.setTop g) target) ∨
    (∃ (q : Addr) (vm₁ : Vm) (B : Pt), s.WarmedH vm₁ ∧ Stand p l e R s m args below meth c B.U B.locs B.cells B.slots ∧ PostX ⟨T.setVm vm₁, locs, cells, slots⟩ argsL.toArray q B ∧
      Steps p.tables e below (T.setTop g) ((B.U.setTop { g with stack := rest }).pushFrame (.throwing q))) := by
  obtain ⟨mk, hnamed⟩ := Cond.code_named hcode
  obtain ⟨methM, cM, hmethM, -, -, -, -, -, -, hsigM⟩ := Cond.code_spec hnamed hcode
  have hstatic : methM.isStatic = true := Cond.static_spec hnamed hmethM hstat
  obtain ⟨kP, hkP, -⟩ := className_of_methodNamed hnamed
  have hinitP : kP.init = .initialized := Cond.initialized_spec (findClass_of_methodNamed hnamed) hkP hinit
  obtain ⟨vm₁, X₁, hstep₁⟩ := X.invokestaticNest hexec hown hlink hnamed hmethM hstatic hkP hinitP hy (g := g) hg (argsL := argsL) (rest := rest) (hlen _ hsigM) hstack hdg
  rcases hK m meth c ⟨T.setVm vm₁, locs, cells, slots⟩ { g with stack := rest } (.invokestatic index) mk argsL.toArray X₁ hg hsize hdg hW (X₁.named hnamed) (hpre vm₁ X₁.warmed) with ⟨v, B, X', hpost, hsteps⟩ | ⟨q, B, X', hpost, hsteps⟩
  · exact Or.inl ⟨v, vm₁, B, X₁.warmed, X', hpost, fun target h => hstep₁ _ fun acts => by rw [doInvoke_state]; exact hsteps.trans h⟩
  · exact Or.inr ⟨q, vm₁, B, X₁.warmed, X', hpost, hstep₁ _ fun acts => by rw [doInvoke_state]; exact hsteps⟩
theorem vx_runVN {y : MethodName} {bytes cc : ByteArray} {maxL nL mc ms n index : Nat} {ret : Option FieldType} {ws : List Cond} {rm : Room} {Pc : Array Value → State → Prop} {Qc : Array Value → State → Outcome → State → Prop} {XC : String → State → State → Prop} {free : Addr → Prop} {Ts : List Cond} {own C host : String} {b : Addr} {As rest : List Value} {g : JFrame}
    (S : CallFix p m c cc nL s args Ts own) (hM : vx_Met l y ws rm Pc Qc XC mc ms free) (cw : va_CN R s args own index y host bytes maxL ret ws rm mc ms n ∧ (Cond.instanceMethod y).before args s = true ∧ (Cond.selects C y y).before args s = true) (hp : PreV s H C b Pc As)
    (hg : g.method = m) (hn : As.length = n) (hsize : g.locals.size = nL) (hstack : g.stack = As.reverse ++ .ref b :: rest) (hW : 2 * g.monitorRoom + (rest.map fun v => v.category).sum ≤ 8) (hdg : decode cc g.pc = .ok (.invokevirtual index, 3)) (hf : cells + mc ≤ R.cells ∧ slots + ms ≤ R.slots) :
    vx_Run p l e R s m args below meth c H locs cells slots mc ms g rest (Qc (Value.ref b :: As).toArray) XC free := by
  obtain ⟨⟨⟨hrc, hrs, hfr, hlo, hws, hcw⟩, hcode, hini, hy, hlen, hl⟩, hx1, hx2⟩ := cw
  have hK : vx_Back l R p e below s args y 3 8 (PreOf R mc ms Pc) (PostOf Qc mc ms free) (vx_Post XC mc ms free) := vx_back (bytes := bytes) (maxL := maxL) (ret := ret) hM hp.1 hrc hrs hfr hlo hws hcw (fun a' U hW => word_at hW (Or.inl (by first | rfl | simp [Cond.onTables, Cond.keeps, Cond.steady])) hini)
  obtain ⟨hx, hb, hml, ho, -⟩ := S
  obtain ⟨-, ⟨cellB, hcB, hoB, hclB⟩, hPc⟩ := hp
  intro T hT X
  rcases vx_callVN X hx (C := C) (bytes := bytes) (maxL := maxL) (ret := ret) ho hl hx1 hx2 hcode hy hK (by rw [hT]; exact hcB) hoB hclB hg (hsize.trans hml.symm) (argsL := As) (rest := rest) (fun sig h => hn.trans (hlen sig h)) hstack hW (by rw [hb]; exact hdg)
    (fun vm₁ hW₁ => ⟨hf.1, hf.2, hPc (T.setVm vm₁) hT hW₁⟩) with ⟨v, vm₁, ⟨U', l2, c2, s2⟩, hW₁, X', ⟨g', mk, t, L, e1, e2, hq, h1, hL, h2, h3⟩, st⟩ | ⟨q, vm₁, ⟨U', l2, c2, s2⟩, hW₁, X', ⟨g', mk, t, L, E, ce, e1, e2, hq, hce, hcv, hcl, h1, hL, h2, h3⟩, st⟩
  · dsimp only [Pt.U, Pt.locs, Pt.cells, Pt.slots] at X' e1 e2 h1 h2 h3 st
    subst h1; subst h2; subst h3
    exact Or.inl ⟨v, (T.setVm vm₁).calling g' mk (Value.ref b :: As).toArray, t, U', L, hT, X', hL, e1, e2, hq, st⟩
  · dsimp only [Pt.U, Pt.locs, Pt.cells, Pt.slots] at X' e1 e2 h1 h2 h3 st hcl
    subst h1; subst h2; subst h3
    exact Or.inr ⟨q, (T.setVm vm₁).calling g' mk (Value.ref b :: As).toArray, t, U', L, E, ce, hT, X', hL, e1, e2, hq, hce, hcv, vx_cls hW₁ hcl, st⟩
theorem vx_runSN {y : MethodName} {bytes cc : ByteArray} {maxL nL mc ms n index : Nat} {ret : Option FieldType} {ws : List Cond} {rm : Room} {Pc : Array Value → State → Prop} {Qc : Array Value → State → Outcome → State → Prop} {XC : String → State → State → Prop} {free : Addr → Prop} {Ts : List Cond} {own host : String} {As rest : List Value} {g : JFrame}
    (S : CallFix p m c cc nL s args Ts own) (hM : vx_Met l y ws rm Pc Qc XC mc ms free) (cw : va_CN R s args own index y host bytes maxL ret ws rm mc ms n ∧ (Cond.static y).before args s = true ∧ True) (hp : PreS s H Pc As)
    (hg : g.method = m) (hn : As.length = n) (hsize : g.locals.size = nL) (hstack : g.stack = As.reverse ++ rest) (hW : 2 * g.monitorRoom + (rest.map fun v => v.category).sum ≤ 8) (hdg : decode cc g.pc = .ok (.invokestatic index, 3)) (hf : cells + mc ≤ R.cells ∧ slots + ms ≤ R.slots) :
    vx_Run p l e R s m args below meth c H locs cells slots mc ms g rest (Qc As.toArray) XC free := by
  obtain ⟨⟨⟨hrc, hrs, hfr, hlo, hws, hcw⟩, hcode, hini, hy, hlen, hl⟩, hx1, hx2⟩ := cw
  have hK : vx_Back l R p e below s args y 3 8 (PreOf R mc ms Pc) (PostOf Qc mc ms free) (vx_Post XC mc ms free) := vx_back (bytes := bytes) (maxL := maxL) (ret := ret) hM hp.1 hrc hrs hfr hlo hws hcw (fun a' U hW => word_at hW (Or.inl (by first | rfl | simp [Cond.onTables, Cond.keeps, Cond.steady])) hini)
  obtain ⟨hx, hb, hml, ho, -⟩ := S
  have hPc := hp.2
  intro T hT X
  rcases vx_callSN X hx (bytes := bytes) (maxL := maxL) (ret := ret) ho hl hx1 hini hcode hy hK hg (hsize.trans hml.symm) (argsL := As) (rest := rest) (fun sig h => hn.trans (hlen sig h)) hstack hW (by rw [hb]; exact hdg)
    (fun vm₁ hW₁ => ⟨hf.1, hf.2, hPc (T.setVm vm₁) hT hW₁⟩) with ⟨v, vm₁, ⟨U', l2, c2, s2⟩, hW₁, X', ⟨g', mk, t, L, e1, e2, hq, h1, hL, h2, h3⟩, st⟩ | ⟨q, vm₁, ⟨U', l2, c2, s2⟩, hW₁, X', ⟨g', mk, t, L, E, ce, e1, e2, hq, hce, hcv, hcl, h1, hL, h2, h3⟩, st⟩
  · dsimp only [Pt.U, Pt.locs, Pt.cells, Pt.slots] at X' e1 e2 h1 h2 h3 st
    subst h1; subst h2; subst h3
    exact Or.inl ⟨v, (T.setVm vm₁).calling g' mk As.toArray, t, U', L, hT, X', hL, e1, e2, hq, st⟩
  · dsimp only [Pt.U, Pt.locs, Pt.cells, Pt.slots] at X' e1 e2 h1 h2 h3 st hcl
    subst h1; subst h2; subst h3
    exact Or.inr ⟨q, (T.setVm vm₁).calling g' mk As.toArray, t, U', L, E, ce, hT, X', hL, e1, e2, hq, hce, hcv, vx_cls hW₁ hcl, st⟩
end
/-! ===== END ===== -/
end
section
theorem dq_get {c : ByteArray} {p : Nat} {a : UInt8} {r : List UInt8} (h : c.data.toList.drop p = a :: r) : (∃ hp : p < c.size, c[p] = a) ∧ c.data.toList.drop (p + 1) = r := by
  have hl : p < c.data.toList.length := by
    rcases Nat.lt_or_ge p c.data.toList.length with h1 | h1
    · exact h1
    · rw [List.drop_eq_nil_of_le h1] at h; cases h
  have h2 := List.drop_eq_getElem_cons hl
  rw [h] at h2
  injection h2 with h3 h4
  refine ⟨⟨by simpa using hl, ?_⟩, h4.symm⟩
  rw [h3]; rfl
theorem dq_1 {c : ByteArray} {p : Nat} {a : UInt8} {r : List UInt8} (h : c.data.toList.drop p = a :: r) : (Reader.u1 : Decoder Nat) c p = .ok (a.toNat, p + 1) := by
  obtain ⟨⟨hp, ha⟩, -⟩ := dq_get h
  have e : (Reader.u1 : Decoder Nat) c p = (dite (p < c.size) (fun h => (do set (p + 1); pure c[p].toNat : Decoder Nat)) (fun _ => throw (HasTruncated.truncated p))) c p := rfl
  rw [e, dif_pos hp]
  show Except.ok (c[p].toNat, p + 1) = _
  rw [ha]
theorem dq_b {A B : Type} {x : Decoder A} {f : A → Decoder B} {c : ByteArray} {p : Nat} {a : A} {q : Nat} (h : x c p = .ok (a, q)) : (x >>= f) c p = f a c q := by
  show Except.bind (x c p) (fun z => f z.1 c z.2) = _
  rw [h]; rfl
theorem dq_2 {c : ByteArray} {p : Nat} {a b : UInt8} {r : List UInt8} (h : c.data.toList.drop p = a :: b :: r) : (Reader.u2 : Decoder Nat) c p = .ok (a.toNat * 256 + b.toNat, p + 1 + 1) := by
  unfold Reader.u2
  refine (dq_b (dq_1 h)).trans ?_
  exact dq_b (dq_1 (dq_get h).2)
theorem dq_s1 {c : ByteArray} {p : Nat} {a : UInt8} {r : List UInt8} (h : c.data.toList.drop p = a :: r) : (Reader.s1 : Decoder Int) c p = .ok (Reader.signed 8 a.toNat, p + 1) := by
  show Except.bind ((Reader.u1 : Decoder Nat) c p) (fun z => Except.ok (Reader.signed 8 z.1, z.2)) = _
  rw [dq_1 h]; rfl
theorem dq_s2 {c : ByteArray} {p : Nat} {a b : UInt8} {r : List UInt8} (h : c.data.toList.drop p = a :: b :: r) : (Reader.s2 : Decoder Int) c p = .ok (Reader.signed 16 (a.toNat * 256 + b.toNat), p + 1 + 1) := by
  show Except.bind ((Reader.u2 : Decoder Nat) c p) (fun z => Except.ok (Reader.signed 16 z.1, z.2)) = _
  rw [dq_2 h]; rfl
theorem dq_d {c : ByteArray} {pc : Nat} {i : Instr} {k : Nat} (h : Decoder.instr pc c pc = .ok (i, pc + k)) : decode c pc = .ok (i, k) := by
  show Except.bind (Decoder.instr pc c pc) (fun z => Except.ok (z.1, z.2 - pc)) = _
  rw [h]
  show Except.ok (i, pc + k - pc) = _
  rw [Nat.add_sub_cancel_left]
def dq_P (n : Nat) (f : List UInt8 → Option (Instr × Nat)) : Prop := ∀ (c : ByteArray) (pc : Nat) (r : List UInt8) (i : Instr) (k : Nat), (Reader.u1 : Decoder Nat) c pc = .ok (n, pc + 1) → c.data.toList.drop (pc + 1) = r → f r = some (i, k) → decode c pc = .ok (i, k)
def dq_no : List UInt8 → Option (Instr × Nat) := fun _ => none
theorem dq_noP (n : Nat) : dq_P n dq_no := fun _ _ _ _ _ _ _ h => nomatch h
def dq_s (i : Instr) : List UInt8 → Option (Instr × Nat) := fun _ => some (i, 1)
def dq_a1 (F : Nat → Instr) : List UInt8 → Option (Instr × Nat) := fun r => match r with | a :: _ => some (F a.toNat, 2) | [] => none
def dq_b1 (F : Int → Instr) : List UInt8 → Option (Instr × Nat) := fun r => match r with | a :: _ => some (F (Reader.signed 8 a.toNat), 2) | [] => none
def dq_a2 (F : Nat → Instr) : List UInt8 → Option (Instr × Nat) := fun r => match r with | a :: b :: _ => some (F (a.toNat * 256 + b.toNat), 3) | _ => none
def dq_b2 (F : Int → Instr) : List UInt8 → Option (Instr × Nat) := fun r => match r with | a :: b :: _ => some (F (Reader.signed 16 (a.toNat * 256 + b.toNat)), 3) | _ => none
def dq_ii : List UInt8 → Option (Instr × Nat) := fun r => match r with | a :: b :: _ => some (.iinc a.toNat (Reader.signed 8 b.toNat), 3) | _ => none
theorem dq_sP {n : Nat} {j : Instr} (e : ∀ c pc, (Reader.u1 : Decoder Nat) c pc = .ok (n, pc + 1) → Decoder.instr pc c pc = (pure j : Decoder Instr) c (pc + 1)) : dq_P n (dq_s j) := by
  intro c pc r i k h1 h2 h3
  simp only [dq_s, Option.some.injEq, Prod.mk.injEq] at h3
  obtain ⟨rfl, rfl⟩ := h3
  exact dq_d (e c pc h1)
theorem dq_a1P {n : Nat} {F : Nat → Instr} (e : ∀ c pc, (Reader.u1 : Decoder Nat) c pc = .ok (n, pc + 1) → Decoder.instr pc c pc = (Reader.u1 >>= fun x => pure (F x) : Decoder Instr) c (pc + 1)) : dq_P n (dq_a1 F) := by
  intro c pc r i k h1 h2 h3
  cases r with
  | nil => simp [dq_a1] at h3
  | cons a r =>
    simp only [dq_a1, Option.some.injEq, Prod.mk.injEq] at h3
    obtain ⟨rfl, rfl⟩ := h3
    exact dq_d ((e c pc h1).trans (dq_b (dq_1 h2)))
theorem dq_b1P {n : Nat} {F : Int → Instr} (e : ∀ c pc, (Reader.u1 : Decoder Nat) c pc = .ok (n, pc + 1) → Decoder.instr pc c pc = (Reader.s1 >>= fun x => pure (F x) : Decoder Instr) c (pc + 1)) : dq_P n (dq_b1 F) := by
  intro c pc r i k h1 h2 h3
  cases r with
  | nil => simp [dq_b1] at h3
  | cons a r =>
    simp only [dq_b1, Option.some.injEq, Prod.mk.injEq] at h3
    obtain ⟨rfl, rfl⟩ := h3
    exact dq_d ((e c pc h1).trans (dq_b (dq_s1 h2)))
theorem dq_a2P {n : Nat} {F : Nat → Instr} (e : ∀ c pc, (Reader.u1 : Decoder Nat) c pc = .ok (n, pc + 1) → Decoder.instr pc c pc = (Reader.u2 >>= fun x => pure (F x) : Decoder Instr) c (pc + 1)) : dq_P n (dq_a2 F) := by
  intro c pc r i k h1 h2 h3
  match r, h2, h3 with
  | [], _, h3 => simp [dq_a2] at h3
  | [_], _, h3 => simp [dq_a2] at h3
  | a :: b :: r, h2, h3 =>
    simp only [dq_a2, Option.some.injEq, Prod.mk.injEq] at h3
    obtain ⟨rfl, rfl⟩ := h3
    exact dq_d ((e c pc h1).trans (dq_b (dq_2 h2)))
theorem dq_b2P {n : Nat} {F : Int → Instr} (e : ∀ c pc, (Reader.u1 : Decoder Nat) c pc = .ok (n, pc + 1) → Decoder.instr pc c pc = (Reader.s2 >>= fun x => pure (F x) : Decoder Instr) c (pc + 1)) : dq_P n (dq_b2 F) := by
  intro c pc r i k h1 h2 h3
  match r, h2, h3 with
  | [], _, h3 => simp [dq_b2] at h3
  | [_], _, h3 => simp [dq_b2] at h3
  | a :: b :: r, h2, h3 =>
    simp only [dq_b2, Option.some.injEq, Prod.mk.injEq] at h3
    obtain ⟨rfl, rfl⟩ := h3
    exact dq_d ((e c pc h1).trans (dq_b (dq_s2 h2)))
theorem dq_iiP {n : Nat} (e : ∀ c pc, (Reader.u1 : Decoder Nat) c pc = .ok (n, pc + 1) → Decoder.instr pc c pc = (Reader.u1 >>= fun x => Reader.s1 >>= fun y => pure (.iinc x y) : Decoder Instr) c (pc + 1)) : dq_P n dq_ii := by
  intro c pc r i k h1 h2 h3
  match r, h2, h3 with
  | [], _, h3 => simp [dq_ii] at h3
  | [_], _, h3 => simp [dq_ii] at h3
  | a :: b :: r, h2, h3 =>
    simp only [dq_ii, Option.some.injEq, Prod.mk.injEq] at h3
    obtain ⟨rfl, rfl⟩ := h3
    refine dq_d ((e c pc h1).trans ((dq_b (dq_1 h2)).trans (dq_b (dq_s1 (dq_get h2).2))))

def dq_nat (n : Nat) : Option (Instr × Nat) := match n with | 4 => some (.newarray .boolean, 2) | 5 => some (.newarray .char, 2) | 6 => some (.newarray .float, 2) | 7 => some (.newarray .double, 2) | 8 => some (.newarray .byte, 2) | 9 => some (.newarray .short, 2) | 10 => some (.newarray .int, 2) | 11 => some (.newarray .long, 2) | _ => none
def dq_na : List UInt8 → Option (Instr × Nat) := fun r => match r with | a :: _ => dq_nat a.toNat | [] => none
theorem dq_naP {n : Nat} (e : ∀ c pc, (Reader.u1 : Decoder Nat) c pc = .ok (n, pc + 1) → Decoder.instr pc c pc = Decoder.newarray pc c (pc + 1)) : dq_P n dq_na := by
  intro c pc r i k h1 h2 h3
  cases r with
  | nil => simp [dq_na] at h3
  | cons a r =>
    have h4 := dq_1 h2
    have h5 := e c pc h1
    simp only [dq_na] at h3
    unfold Decoder.newarray at h5
    generalize a.toNat = m at h3 h4
    unfold dq_nat at h3
    split at h3
    all_goals first
      | (simp only [Option.some.injEq, Prod.mk.injEq] at h3; obtain ⟨rfl, rfl⟩ := h3; exact dq_d (h5.trans ((dq_b h4).trans rfl)))
      | cases h3

theorem dq_o0 : dq_P 0 (dq_s .nop) := by
  refine dq_sP ?_
  intro c pc h
  unfold Decoder.instr
  exact (dq_b h).trans rfl
theorem dq_o1 : dq_P 1 (dq_s .aconst_null) := by
  refine dq_sP ?_
  intro c pc h
  unfold Decoder.instr
  exact (dq_b h).trans rfl
theorem dq_o2 : dq_P 2 (dq_s (.iconst (-1))) := by
  refine dq_sP ?_
  intro c pc h
  unfold Decoder.instr
  exact (dq_b h).trans rfl
theorem dq_o3 : dq_P 3 (dq_s (.iconst 0)) := by
  refine dq_sP ?_
  intro c pc h
  unfold Decoder.instr
  exact (dq_b h).trans rfl
theorem dq_o4 : dq_P 4 (dq_s (.iconst 1)) := by
  refine dq_sP ?_
  intro c pc h
  unfold Decoder.instr
  exact (dq_b h).trans rfl
theorem dq_o5 : dq_P 5 (dq_s (.iconst 2)) := by
  refine dq_sP ?_
  intro c pc h
  unfold Decoder.instr
  exact (dq_b h).trans rfl
theorem dq_o6 : dq_P 6 (dq_s (.iconst 3)) := by
  refine dq_sP ?_
  intro c pc h
  unfold Decoder.instr
  exact (dq_b h).trans rfl
theorem dq_o7 : dq_P 7 (dq_s (.iconst 4)) := by
  refine dq_sP ?_
  intro c pc h
  unfold Decoder.instr
  exact (dq_b h).trans rfl
theorem dq_o8 : dq_P 8 (dq_s (.iconst 5)) := by
  refine dq_sP ?_
  intro c pc h
  unfold Decoder.instr
  exact (dq_b h).trans rfl
theorem dq_o9 : dq_P 9 (dq_s (.lconst 0)) := by
  refine dq_sP ?_
  intro c pc h
  unfold Decoder.instr
  exact (dq_b h).trans rfl
theorem dq_o10 : dq_P 10 (dq_s (.lconst 1)) := by
  refine dq_sP ?_
  intro c pc h
  unfold Decoder.instr
  exact (dq_b h).trans rfl
theorem dq_o11 : dq_P 11 (dq_s (.fconst 0)) := by
  refine dq_sP ?_
  intro c pc h
  unfold Decoder.instr
  exact (dq_b h).trans rfl
theorem dq_o12 : dq_P 12 (dq_s (.fconst 1)) := by
  refine dq_sP ?_
  intro c pc h
  unfold Decoder.instr
  exact (dq_b h).trans rfl
theorem dq_o13 : dq_P 13 (dq_s (.fconst 2)) := by
  refine dq_sP ?_
  intro c pc h
  unfold Decoder.instr
  exact (dq_b h).trans rfl
theorem dq_o14 : dq_P 14 (dq_s (.dconst 0)) := by
  refine dq_sP ?_
  intro c pc h
  unfold Decoder.instr
  exact (dq_b h).trans rfl
theorem dq_o15 : dq_P 15 (dq_s (.dconst 1)) := by
  refine dq_sP ?_
  intro c pc h
  unfold Decoder.instr
  exact (dq_b h).trans rfl
theorem dq_o16 : dq_P 16 (dq_b1 (fun x => .bipush x)) := by
  refine dq_b1P ?_
  intro c pc h
  unfold Decoder.instr
  exact (dq_b h).trans rfl
theorem dq_o17 : dq_P 17 (dq_b2 (fun x => .sipush x)) := by
  refine dq_b2P ?_
  intro c pc h
  unfold Decoder.instr
  exact (dq_b h).trans rfl
theorem dq_o18 : dq_P 18 (dq_a1 (fun x => .ldc x)) := by
  refine dq_a1P ?_
  intro c pc h
  unfold Decoder.instr
  exact (dq_b h).trans rfl
theorem dq_o19 : dq_P 19 (dq_a2 (fun x => .ldc_w x)) := by
  refine dq_a2P ?_
  intro c pc h
  unfold Decoder.instr
  exact (dq_b h).trans rfl
theorem dq_o20 : dq_P 20 (dq_a2 (fun x => .ldc2_w x)) := by
  refine dq_a2P ?_
  intro c pc h
  unfold Decoder.instr
  exact (dq_b h).trans rfl
theorem dq_o21 : dq_P 21 (dq_a1 (fun x => .iload x)) := by
  refine dq_a1P ?_
  intro c pc h
  unfold Decoder.instr
  exact (dq_b h).trans rfl
theorem dq_o22 : dq_P 22 (dq_a1 (fun x => .lload x)) := by
  refine dq_a1P ?_
  intro c pc h
  unfold Decoder.instr
  exact (dq_b h).trans rfl
theorem dq_o23 : dq_P 23 (dq_a1 (fun x => .fload x)) := by
  refine dq_a1P ?_
  intro c pc h
  unfold Decoder.instr
  exact (dq_b h).trans rfl
theorem dq_o24 : dq_P 24 (dq_a1 (fun x => .dload x)) := by
  refine dq_a1P ?_
  intro c pc h
  unfold Decoder.instr
  exact (dq_b h).trans rfl
theorem dq_o25 : dq_P 25 (dq_a1 (fun x => .aload x)) := by
  refine dq_a1P ?_
  intro c pc h
  unfold Decoder.instr
  exact (dq_b h).trans rfl
theorem dq_o26 : dq_P 26 (dq_s (.iload_n 0)) := by
  refine dq_sP ?_
  intro c pc h
  unfold Decoder.instr
  exact (dq_b h).trans rfl
theorem dq_o27 : dq_P 27 (dq_s (.iload_n 1)) := by
  refine dq_sP ?_
  intro c pc h
  unfold Decoder.instr
  exact (dq_b h).trans rfl
theorem dq_o28 : dq_P 28 (dq_s (.iload_n 2)) := by
  refine dq_sP ?_
  intro c pc h
  unfold Decoder.instr
  exact (dq_b h).trans rfl
theorem dq_o29 : dq_P 29 (dq_s (.iload_n 3)) := by
  refine dq_sP ?_
  intro c pc h
  unfold Decoder.instr
  exact (dq_b h).trans rfl
theorem dq_o30 : dq_P 30 (dq_s (.lload_n 0)) := by
  refine dq_sP ?_
  intro c pc h
  unfold Decoder.instr
  exact (dq_b h).trans rfl
theorem dq_o31 : dq_P 31 (dq_s (.lload_n 1)) := by
  refine dq_sP ?_
  intro c pc h
  unfold Decoder.instr
  exact (dq_b h).trans rfl
theorem dq_o32 : dq_P 32 (dq_s (.lload_n 2)) := by
  refine dq_sP ?_
  intro c pc h
  unfold Decoder.instr
  exact (dq_b h).trans rfl
theorem dq_o33 : dq_P 33 (dq_s (.lload_n 3)) := by
  refine dq_sP ?_
  intro c pc h
  unfold Decoder.instr
  exact (dq_b h).trans rfl
theorem dq_o34 : dq_P 34 (dq_s (.fload_n 0)) := by
  refine dq_sP ?_
  intro c pc h
  unfold Decoder.instr
  exact (dq_b h).trans rfl
theorem dq_o35 : dq_P 35 (dq_s (.fload_n 1)) := by
  refine dq_sP ?_
  intro c pc h
  unfold Decoder.instr
  exact (dq_b h).trans rfl
theorem dq_o36 : dq_P 36 (dq_s (.fload_n 2)) := by
  refine dq_sP ?_
  intro c pc h
  unfold Decoder.instr
  exact (dq_b h).trans rfl
theorem dq_o37 : dq_P 37 (dq_s (.fload_n 3)) := by
  refine dq_sP ?_
  intro c pc h
  unfold Decoder.instr
  exact (dq_b h).trans rfl
theorem dq_o38 : dq_P 38 (dq_s (.dload_n 0)) := by
  refine dq_sP ?_
  intro c pc h
  unfold Decoder.instr
  exact (dq_b h).trans rfl
theorem dq_o39 : dq_P 39 (dq_s (.dload_n 1)) := by
  refine dq_sP ?_
  intro c pc h
  unfold Decoder.instr
  exact (dq_b h).trans rfl
theorem dq_o40 : dq_P 40 (dq_s (.dload_n 2)) := by
  refine dq_sP ?_
  intro c pc h
  unfold Decoder.instr
  exact (dq_b h).trans rfl
theorem dq_o41 : dq_P 41 (dq_s (.dload_n 3)) := by
  refine dq_sP ?_
  intro c pc h
  unfold Decoder.instr
  exact (dq_b h).trans rfl
theorem dq_o42 : dq_P 42 (dq_s (.aload_n 0)) := by
  refine dq_sP ?_
  intro c pc h
  unfold Decoder.instr
  exact (dq_b h).trans rfl
theorem dq_o43 : dq_P 43 (dq_s (.aload_n 1)) := by
  refine dq_sP ?_
  intro c pc h
  unfold Decoder.instr
  exact (dq_b h).trans rfl
theorem dq_o44 : dq_P 44 (dq_s (.aload_n 2)) := by
  refine dq_sP ?_
  intro c pc h
  unfold Decoder.instr
  exact (dq_b h).trans rfl
theorem dq_o45 : dq_P 45 (dq_s (.aload_n 3)) := by
  refine dq_sP ?_
  intro c pc h
  unfold Decoder.instr
  exact (dq_b h).trans rfl
theorem dq_o46 : dq_P 46 (dq_s .iaload) := by
  refine dq_sP ?_
  intro c pc h
  unfold Decoder.instr
  exact (dq_b h).trans rfl
theorem dq_o47 : dq_P 47 (dq_s .laload) := by
  refine dq_sP ?_
  intro c pc h
  unfold Decoder.instr
  exact (dq_b h).trans rfl
theorem dq_o48 : dq_P 48 (dq_s .faload) := by
  refine dq_sP ?_
  intro c pc h
  unfold Decoder.instr
  exact (dq_b h).trans rfl
theorem dq_o49 : dq_P 49 (dq_s .daload) := by
  refine dq_sP ?_
  intro c pc h
  unfold Decoder.instr
  exact (dq_b h).trans rfl
theorem dq_o50 : dq_P 50 (dq_s .aaload) := by
  refine dq_sP ?_
  intro c pc h
  unfold Decoder.instr
  exact (dq_b h).trans rfl
theorem dq_o51 : dq_P 51 (dq_s .baload) := by
  refine dq_sP ?_
  intro c pc h
  unfold Decoder.instr
  exact (dq_b h).trans rfl
theorem dq_o52 : dq_P 52 (dq_s .caload) := by
  refine dq_sP ?_
  intro c pc h
  unfold Decoder.instr
  exact (dq_b h).trans rfl
theorem dq_o53 : dq_P 53 (dq_s .saload) := by
  refine dq_sP ?_
  intro c pc h
  unfold Decoder.instr
  exact (dq_b h).trans rfl
theorem dq_o54 : dq_P 54 (dq_a1 (fun x => .istore x)) := by
  refine dq_a1P ?_
  intro c pc h
  unfold Decoder.instr
  exact (dq_b h).trans rfl
theorem dq_o55 : dq_P 55 (dq_a1 (fun x => .lstore x)) := by
  refine dq_a1P ?_
  intro c pc h
  unfold Decoder.instr
  exact (dq_b h).trans rfl
theorem dq_o56 : dq_P 56 (dq_a1 (fun x => .fstore x)) := by
  refine dq_a1P ?_
  intro c pc h
  unfold Decoder.instr
  exact (dq_b h).trans rfl
theorem dq_o57 : dq_P 57 (dq_a1 (fun x => .dstore x)) := by
  refine dq_a1P ?_
  intro c pc h
  unfold Decoder.instr
  exact (dq_b h).trans rfl
theorem dq_o58 : dq_P 58 (dq_a1 (fun x => .astore x)) := by
  refine dq_a1P ?_
  intro c pc h
  unfold Decoder.instr
  exact (dq_b h).trans rfl
theorem dq_o59 : dq_P 59 (dq_s (.istore_n 0)) := by
  refine dq_sP ?_
  intro c pc h
  unfold Decoder.instr
  exact (dq_b h).trans rfl
theorem dq_o60 : dq_P 60 (dq_s (.istore_n 1)) := by
  refine dq_sP ?_
  intro c pc h
  unfold Decoder.instr
  exact (dq_b h).trans rfl
theorem dq_o61 : dq_P 61 (dq_s (.istore_n 2)) := by
  refine dq_sP ?_
  intro c pc h
  unfold Decoder.instr
  exact (dq_b h).trans rfl
theorem dq_o62 : dq_P 62 (dq_s (.istore_n 3)) := by
  refine dq_sP ?_
  intro c pc h
  unfold Decoder.instr
  exact (dq_b h).trans rfl
theorem dq_o63 : dq_P 63 (dq_s (.lstore_n 0)) := by
  refine dq_sP ?_
  intro c pc h
  unfold Decoder.instr
  exact (dq_b h).trans rfl
theorem dq_o64 : dq_P 64 (dq_s (.lstore_n 1)) := by
  refine dq_sP ?_
  intro c pc h
  unfold Decoder.instr
  exact (dq_b h).trans rfl
theorem dq_o65 : dq_P 65 (dq_s (.lstore_n 2)) := by
  refine dq_sP ?_
  intro c pc h
  unfold Decoder.instr
  exact (dq_b h).trans rfl
theorem dq_o66 : dq_P 66 (dq_s (.lstore_n 3)) := by
  refine dq_sP ?_
  intro c pc h
  unfold Decoder.instr
  exact (dq_b h).trans rfl
theorem dq_o67 : dq_P 67 (dq_s (.fstore_n 0)) := by
  refine dq_sP ?_
  intro c pc h
  unfold Decoder.instr
  exact (dq_b h).trans rfl
theorem dq_o68 : dq_P 68 (dq_s (.fstore_n 1)) := by
  refine dq_sP ?_
  intro c pc h
  unfold Decoder.instr
  exact (dq_b h).trans rfl
theorem dq_o69 : dq_P 69 (dq_s (.fstore_n 2)) := by
  refine dq_sP ?_
  intro c pc h
  unfold Decoder.instr
  exact (dq_b h).trans rfl
theorem dq_o70 : dq_P 70 (dq_s (.fstore_n 3)) := by
  refine dq_sP ?_
  intro c pc h
  unfold Decoder.instr
  exact (dq_b h).trans rfl
theorem dq_o71 : dq_P 71 (dq_s (.dstore_n 0)) := by
  refine dq_sP ?_
  intro c pc h
  unfold Decoder.instr
  exact (dq_b h).trans rfl
theorem dq_o72 : dq_P 72 (dq_s (.dstore_n 1)) := by
  refine dq_sP ?_
  intro c pc h
  unfold Decoder.instr
  exact (dq_b h).trans rfl
theorem dq_o73 : dq_P 73 (dq_s (.dstore_n 2)) := by
  refine dq_sP ?_
  intro c pc h
  unfold Decoder.instr
  exact (dq_b h).trans rfl
theorem dq_o74 : dq_P 74 (dq_s (.dstore_n 3)) := by
  refine dq_sP ?_
  intro c pc h
  unfold Decoder.instr
  exact (dq_b h).trans rfl
theorem dq_o75 : dq_P 75 (dq_s (.astore_n 0)) := by
  refine dq_sP ?_
  intro c pc h
  unfold Decoder.instr
  exact (dq_b h).trans rfl
theorem dq_o76 : dq_P 76 (dq_s (.astore_n 1)) := by
  refine dq_sP ?_
  intro c pc h
  unfold Decoder.instr
  exact (dq_b h).trans rfl
theorem dq_o77 : dq_P 77 (dq_s (.astore_n 2)) := by
  refine dq_sP ?_
  intro c pc h
  unfold Decoder.instr
  exact (dq_b h).trans rfl
theorem dq_o78 : dq_P 78 (dq_s (.astore_n 3)) := by
  refine dq_sP ?_
  intro c pc h
  unfold Decoder.instr
  exact (dq_b h).trans rfl
theorem dq_o79 : dq_P 79 (dq_s .iastore) := by
  refine dq_sP ?_
  intro c pc h
  unfold Decoder.instr
  exact (dq_b h).trans rfl
theorem dq_o80 : dq_P 80 (dq_s .lastore) := by
  refine dq_sP ?_
  intro c pc h
  unfold Decoder.instr
  exact (dq_b h).trans rfl
theorem dq_o81 : dq_P 81 (dq_s .fastore) := by
  refine dq_sP ?_
  intro c pc h
  unfold Decoder.instr
  exact (dq_b h).trans rfl
theorem dq_o82 : dq_P 82 (dq_s .dastore) := by
  refine dq_sP ?_
  intro c pc h
  unfold Decoder.instr
  exact (dq_b h).trans rfl
theorem dq_o83 : dq_P 83 (dq_s .aastore) := by
  refine dq_sP ?_
  intro c pc h
  unfold Decoder.instr
  exact (dq_b h).trans rfl
theorem dq_o84 : dq_P 84 (dq_s .bastore) := by
  refine dq_sP ?_
  intro c pc h
  unfold Decoder.instr
  exact (dq_b h).trans rfl
theorem dq_o85 : dq_P 85 (dq_s .castore) := by
  refine dq_sP ?_
  intro c pc h
  unfold Decoder.instr
  exact (dq_b h).trans rfl
theorem dq_o86 : dq_P 86 (dq_s .sastore) := by
  refine dq_sP ?_
  intro c pc h
  unfold Decoder.instr
  exact (dq_b h).trans rfl
theorem dq_o87 : dq_P 87 (dq_s .pop) := by
  refine dq_sP ?_
  intro c pc h
  unfold Decoder.instr
  exact (dq_b h).trans rfl
theorem dq_o88 : dq_P 88 (dq_s .pop2) := by
  refine dq_sP ?_
  intro c pc h
  unfold Decoder.instr
  exact (dq_b h).trans rfl
theorem dq_o89 : dq_P 89 (dq_s .dup) := by
  refine dq_sP ?_
  intro c pc h
  unfold Decoder.instr
  exact (dq_b h).trans rfl
theorem dq_o90 : dq_P 90 (dq_s .dup_x1) := by
  refine dq_sP ?_
  intro c pc h
  unfold Decoder.instr
  exact (dq_b h).trans rfl
theorem dq_o91 : dq_P 91 (dq_s .dup_x2) := by
  refine dq_sP ?_
  intro c pc h
  unfold Decoder.instr
  exact (dq_b h).trans rfl
theorem dq_o92 : dq_P 92 (dq_s .dup2) := by
  refine dq_sP ?_
  intro c pc h
  unfold Decoder.instr
  exact (dq_b h).trans rfl
theorem dq_o93 : dq_P 93 (dq_s .dup2_x1) := by
  refine dq_sP ?_
  intro c pc h
  unfold Decoder.instr
  exact (dq_b h).trans rfl
theorem dq_o94 : dq_P 94 (dq_s .dup2_x2) := by
  refine dq_sP ?_
  intro c pc h
  unfold Decoder.instr
  exact (dq_b h).trans rfl
theorem dq_o95 : dq_P 95 (dq_s .swap) := by
  refine dq_sP ?_
  intro c pc h
  unfold Decoder.instr
  exact (dq_b h).trans rfl
theorem dq_o96 : dq_P 96 (dq_s .iadd) := by
  refine dq_sP ?_
  intro c pc h
  unfold Decoder.instr
  exact (dq_b h).trans rfl
theorem dq_o97 : dq_P 97 (dq_s .ladd) := by
  refine dq_sP ?_
  intro c pc h
  unfold Decoder.instr
  exact (dq_b h).trans rfl
theorem dq_o98 : dq_P 98 (dq_s .fadd) := by
  refine dq_sP ?_
  intro c pc h
  unfold Decoder.instr
  exact (dq_b h).trans rfl
theorem dq_o99 : dq_P 99 (dq_s .dadd) := by
  refine dq_sP ?_
  intro c pc h
  unfold Decoder.instr
  exact (dq_b h).trans rfl
theorem dq_o100 : dq_P 100 (dq_s .isub) := by
  refine dq_sP ?_
  intro c pc h
  unfold Decoder.instr
  exact (dq_b h).trans rfl
theorem dq_o101 : dq_P 101 (dq_s .lsub) := by
  refine dq_sP ?_
  intro c pc h
  unfold Decoder.instr
  exact (dq_b h).trans rfl
theorem dq_o102 : dq_P 102 (dq_s .fsub) := by
  refine dq_sP ?_
  intro c pc h
  unfold Decoder.instr
  exact (dq_b h).trans rfl
theorem dq_o103 : dq_P 103 (dq_s .dsub) := by
  refine dq_sP ?_
  intro c pc h
  unfold Decoder.instr
  exact (dq_b h).trans rfl
theorem dq_o104 : dq_P 104 (dq_s .imul) := by
  refine dq_sP ?_
  intro c pc h
  unfold Decoder.instr
  exact (dq_b h).trans rfl
theorem dq_o105 : dq_P 105 (dq_s .lmul) := by
  refine dq_sP ?_
  intro c pc h
  unfold Decoder.instr
  exact (dq_b h).trans rfl
theorem dq_o106 : dq_P 106 (dq_s .fmul) := by
  refine dq_sP ?_
  intro c pc h
  unfold Decoder.instr
  exact (dq_b h).trans rfl
theorem dq_o107 : dq_P 107 (dq_s .dmul) := by
  refine dq_sP ?_
  intro c pc h
  unfold Decoder.instr
  exact (dq_b h).trans rfl
theorem dq_o108 : dq_P 108 (dq_s .idiv) := by
  refine dq_sP ?_
  intro c pc h
  unfold Decoder.instr
  exact (dq_b h).trans rfl
theorem dq_o109 : dq_P 109 (dq_s .ldiv) := by
  refine dq_sP ?_
  intro c pc h
  unfold Decoder.instr
  exact (dq_b h).trans rfl
theorem dq_o110 : dq_P 110 (dq_s .fdiv) := by
  refine dq_sP ?_
  intro c pc h
  unfold Decoder.instr
  exact (dq_b h).trans rfl
theorem dq_o111 : dq_P 111 (dq_s .ddiv) := by
  refine dq_sP ?_
  intro c pc h
  unfold Decoder.instr
  exact (dq_b h).trans rfl
theorem dq_o112 : dq_P 112 (dq_s .irem) := by
  refine dq_sP ?_
  intro c pc h
  unfold Decoder.instr
  exact (dq_b h).trans rfl
theorem dq_o113 : dq_P 113 (dq_s .lrem) := by
  refine dq_sP ?_
  intro c pc h
  unfold Decoder.instr
  exact (dq_b h).trans rfl
theorem dq_o114 : dq_P 114 (dq_s .frem) := by
  refine dq_sP ?_
  intro c pc h
  unfold Decoder.instr
  exact (dq_b h).trans rfl
theorem dq_o115 : dq_P 115 (dq_s .drem) := by
  refine dq_sP ?_
  intro c pc h
  unfold Decoder.instr
  exact (dq_b h).trans rfl
theorem dq_o116 : dq_P 116 (dq_s .ineg) := by
  refine dq_sP ?_
  intro c pc h
  unfold Decoder.instr
  exact (dq_b h).trans rfl
theorem dq_o117 : dq_P 117 (dq_s .lneg) := by
  refine dq_sP ?_
  intro c pc h
  unfold Decoder.instr
  exact (dq_b h).trans rfl
theorem dq_o118 : dq_P 118 (dq_s .fneg) := by
  refine dq_sP ?_
  intro c pc h
  unfold Decoder.instr
  exact (dq_b h).trans rfl
theorem dq_o119 : dq_P 119 (dq_s .dneg) := by
  refine dq_sP ?_
  intro c pc h
  unfold Decoder.instr
  exact (dq_b h).trans rfl
theorem dq_o120 : dq_P 120 (dq_s .ishl) := by
  refine dq_sP ?_
  intro c pc h
  unfold Decoder.instr
  exact (dq_b h).trans rfl
theorem dq_o121 : dq_P 121 (dq_s .lshl) := by
  refine dq_sP ?_
  intro c pc h
  unfold Decoder.instr
  exact (dq_b h).trans rfl
theorem dq_o122 : dq_P 122 (dq_s .ishr) := by
  refine dq_sP ?_
  intro c pc h
  unfold Decoder.instr
  exact (dq_b h).trans rfl
theorem dq_o123 : dq_P 123 (dq_s .lshr) := by
  refine dq_sP ?_
  intro c pc h
  unfold Decoder.instr
  exact (dq_b h).trans rfl
theorem dq_o124 : dq_P 124 (dq_s .iushr) := by
  refine dq_sP ?_
  intro c pc h
  unfold Decoder.instr
  exact (dq_b h).trans rfl
theorem dq_o125 : dq_P 125 (dq_s .lushr) := by
  refine dq_sP ?_
  intro c pc h
  unfold Decoder.instr
  exact (dq_b h).trans rfl
theorem dq_o126 : dq_P 126 (dq_s .iand) := by
  refine dq_sP ?_
  intro c pc h
  unfold Decoder.instr
  exact (dq_b h).trans rfl
theorem dq_o127 : dq_P 127 (dq_s .land) := by
  refine dq_sP ?_
  intro c pc h
  unfold Decoder.instr
  exact (dq_b h).trans rfl
theorem dq_o128 : dq_P 128 (dq_s .ior) := by
  refine dq_sP ?_
  intro c pc h
  unfold Decoder.instr
  exact (dq_b h).trans rfl
theorem dq_o129 : dq_P 129 (dq_s .lor) := by
  refine dq_sP ?_
  intro c pc h
  unfold Decoder.instr
  exact (dq_b h).trans rfl
theorem dq_o130 : dq_P 130 (dq_s .ixor) := by
  refine dq_sP ?_
  intro c pc h
  unfold Decoder.instr
  exact (dq_b h).trans rfl
theorem dq_o131 : dq_P 131 (dq_s .lxor) := by
  refine dq_sP ?_
  intro c pc h
  unfold Decoder.instr
  exact (dq_b h).trans rfl
theorem dq_o132 : dq_P 132 dq_ii := by
  refine dq_iiP ?_
  intro c pc h
  unfold Decoder.instr
  exact (dq_b h).trans rfl
theorem dq_o133 : dq_P 133 (dq_s .i2l) := by
  refine dq_sP ?_
  intro c pc h
  unfold Decoder.instr
  exact (dq_b h).trans rfl
theorem dq_o134 : dq_P 134 (dq_s .i2f) := by
  refine dq_sP ?_
  intro c pc h
  unfold Decoder.instr
  exact (dq_b h).trans rfl
theorem dq_o135 : dq_P 135 (dq_s .i2d) := by
  refine dq_sP ?_
  intro c pc h
  unfold Decoder.instr
  exact (dq_b h).trans rfl
theorem dq_o136 : dq_P 136 (dq_s .l2i) := by
  refine dq_sP ?_
  intro c pc h
  unfold Decoder.instr
  exact (dq_b h).trans rfl
theorem dq_o137 : dq_P 137 (dq_s .l2f) := by
  refine dq_sP ?_
  intro c pc h
  unfold Decoder.instr
  exact (dq_b h).trans rfl
theorem dq_o138 : dq_P 138 (dq_s .l2d) := by
  refine dq_sP ?_
  intro c pc h
  unfold Decoder.instr
  exact (dq_b h).trans rfl
theorem dq_o139 : dq_P 139 (dq_s .f2i) := by
  refine dq_sP ?_
  intro c pc h
  unfold Decoder.instr
  exact (dq_b h).trans rfl
theorem dq_o140 : dq_P 140 (dq_s .f2l) := by
  refine dq_sP ?_
  intro c pc h
  unfold Decoder.instr
  exact (dq_b h).trans rfl
theorem dq_o141 : dq_P 141 (dq_s .f2d) := by
  refine dq_sP ?_
  intro c pc h
  unfold Decoder.instr
  exact (dq_b h).trans rfl
theorem dq_o142 : dq_P 142 (dq_s .d2i) := by
  refine dq_sP ?_
  intro c pc h
  unfold Decoder.instr
  exact (dq_b h).trans rfl
theorem dq_o143 : dq_P 143 (dq_s .d2l) := by
  refine dq_sP ?_
  intro c pc h
  unfold Decoder.instr
  exact (dq_b h).trans rfl
theorem dq_o144 : dq_P 144 (dq_s .d2f) := by
  refine dq_sP ?_
  intro c pc h
  unfold Decoder.instr
  exact (dq_b h).trans rfl
theorem dq_o145 : dq_P 145 (dq_s .i2b) := by
  refine dq_sP ?_
  intro c pc h
  unfold Decoder.instr
  exact (dq_b h).trans rfl
theorem dq_o146 : dq_P 146 (dq_s .i2c) := by
  refine dq_sP ?_
  intro c pc h
  unfold Decoder.instr
  exact (dq_b h).trans rfl
theorem dq_o147 : dq_P 147 (dq_s .i2s) := by
  refine dq_sP ?_
  intro c pc h
  unfold Decoder.instr
  exact (dq_b h).trans rfl
theorem dq_o148 : dq_P 148 (dq_s .lcmp) := by
  refine dq_sP ?_
  intro c pc h
  unfold Decoder.instr
  exact (dq_b h).trans rfl
theorem dq_o149 : dq_P 149 (dq_s (.fcmp .l)) := by
  refine dq_sP ?_
  intro c pc h
  unfold Decoder.instr
  exact (dq_b h).trans rfl
theorem dq_o150 : dq_P 150 (dq_s (.fcmp .g)) := by
  refine dq_sP ?_
  intro c pc h
  unfold Decoder.instr
  exact (dq_b h).trans rfl
theorem dq_o151 : dq_P 151 (dq_s (.dcmp .l)) := by
  refine dq_sP ?_
  intro c pc h
  unfold Decoder.instr
  exact (dq_b h).trans rfl
theorem dq_o152 : dq_P 152 (dq_s (.dcmp .g)) := by
  refine dq_sP ?_
  intro c pc h
  unfold Decoder.instr
  exact (dq_b h).trans rfl
theorem dq_o153 : dq_P 153 (dq_b2 (fun x => .ifCond .eq x)) := by
  refine dq_b2P ?_
  intro c pc h
  unfold Decoder.instr
  exact (dq_b h).trans rfl
theorem dq_o154 : dq_P 154 (dq_b2 (fun x => .ifCond .ne x)) := by
  refine dq_b2P ?_
  intro c pc h
  unfold Decoder.instr
  exact (dq_b h).trans rfl
theorem dq_o155 : dq_P 155 (dq_b2 (fun x => .ifCond .lt x)) := by
  refine dq_b2P ?_
  intro c pc h
  unfold Decoder.instr
  exact (dq_b h).trans rfl
theorem dq_o156 : dq_P 156 (dq_b2 (fun x => .ifCond .ge x)) := by
  refine dq_b2P ?_
  intro c pc h
  unfold Decoder.instr
  exact (dq_b h).trans rfl
theorem dq_o157 : dq_P 157 (dq_b2 (fun x => .ifCond .gt x)) := by
  refine dq_b2P ?_
  intro c pc h
  unfold Decoder.instr
  exact (dq_b h).trans rfl
theorem dq_o158 : dq_P 158 (dq_b2 (fun x => .ifCond .le x)) := by
  refine dq_b2P ?_
  intro c pc h
  unfold Decoder.instr
  exact (dq_b h).trans rfl
theorem dq_o159 : dq_P 159 (dq_b2 (fun x => .if_icmp .eq x)) := by
  refine dq_b2P ?_
  intro c pc h
  unfold Decoder.instr
  exact (dq_b h).trans rfl
theorem dq_o160 : dq_P 160 (dq_b2 (fun x => .if_icmp .ne x)) := by
  refine dq_b2P ?_
  intro c pc h
  unfold Decoder.instr
  exact (dq_b h).trans rfl
theorem dq_o161 : dq_P 161 (dq_b2 (fun x => .if_icmp .lt x)) := by
  refine dq_b2P ?_
  intro c pc h
  unfold Decoder.instr
  exact (dq_b h).trans rfl
theorem dq_o162 : dq_P 162 (dq_b2 (fun x => .if_icmp .ge x)) := by
  refine dq_b2P ?_
  intro c pc h
  unfold Decoder.instr
  exact (dq_b h).trans rfl
theorem dq_o163 : dq_P 163 (dq_b2 (fun x => .if_icmp .gt x)) := by
  refine dq_b2P ?_
  intro c pc h
  unfold Decoder.instr
  exact (dq_b h).trans rfl
theorem dq_o164 : dq_P 164 (dq_b2 (fun x => .if_icmp .le x)) := by
  refine dq_b2P ?_
  intro c pc h
  unfold Decoder.instr
  exact (dq_b h).trans rfl
theorem dq_o165 : dq_P 165 (dq_b2 (fun x => .if_acmp .eq x)) := by
  refine dq_b2P ?_
  intro c pc h
  unfold Decoder.instr
  exact (dq_b h).trans rfl
theorem dq_o166 : dq_P 166 (dq_b2 (fun x => .if_acmp .ne x)) := by
  refine dq_b2P ?_
  intro c pc h
  unfold Decoder.instr
  exact (dq_b h).trans rfl
theorem dq_o167 : dq_P 167 (dq_b2 (fun x => .goto x)) := by
  refine dq_b2P ?_
  intro c pc h
  unfold Decoder.instr
  exact (dq_b h).trans rfl
theorem dq_o172 : dq_P 172 (dq_s .ireturn) := by
  refine dq_sP ?_
  intro c pc h
  unfold Decoder.instr
  exact (dq_b h).trans rfl
theorem dq_o173 : dq_P 173 (dq_s .lreturn) := by
  refine dq_sP ?_
  intro c pc h
  unfold Decoder.instr
  exact (dq_b h).trans rfl
theorem dq_o174 : dq_P 174 (dq_s .freturn) := by
  refine dq_sP ?_
  intro c pc h
  unfold Decoder.instr
  exact (dq_b h).trans rfl
theorem dq_o175 : dq_P 175 (dq_s .dreturn) := by
  refine dq_sP ?_
  intro c pc h
  unfold Decoder.instr
  exact (dq_b h).trans rfl
theorem dq_o176 : dq_P 176 (dq_s .areturn) := by
  refine dq_sP ?_
  intro c pc h
  unfold Decoder.instr
  exact (dq_b h).trans rfl
theorem dq_o177 : dq_P 177 (dq_s .return_) := by
  refine dq_sP ?_
  intro c pc h
  unfold Decoder.instr
  exact (dq_b h).trans rfl
theorem dq_o178 : dq_P 178 (dq_a2 (fun x => .getstatic x)) := by
  refine dq_a2P ?_
  intro c pc h
  unfold Decoder.instr
  exact (dq_b h).trans rfl
theorem dq_o179 : dq_P 179 (dq_a2 (fun x => .putstatic x)) := by
  refine dq_a2P ?_
  intro c pc h
  unfold Decoder.instr
  exact (dq_b h).trans rfl
theorem dq_o180 : dq_P 180 (dq_a2 (fun x => .getfield x)) := by
  refine dq_a2P ?_
  intro c pc h
  unfold Decoder.instr
  exact (dq_b h).trans rfl
theorem dq_o181 : dq_P 181 (dq_a2 (fun x => .putfield x)) := by
  refine dq_a2P ?_
  intro c pc h
  unfold Decoder.instr
  exact (dq_b h).trans rfl
theorem dq_o182 : dq_P 182 (dq_a2 (fun x => .invokevirtual x)) := by
  refine dq_a2P ?_
  intro c pc h
  unfold Decoder.instr
  exact (dq_b h).trans rfl
theorem dq_o183 : dq_P 183 (dq_a2 (fun x => .invokespecial x)) := by
  refine dq_a2P ?_
  intro c pc h
  unfold Decoder.instr
  exact (dq_b h).trans rfl
theorem dq_o184 : dq_P 184 (dq_a2 (fun x => .invokestatic x)) := by
  refine dq_a2P ?_
  intro c pc h
  unfold Decoder.instr
  exact (dq_b h).trans rfl
theorem dq_o187 : dq_P 187 (dq_a2 (fun x => .new x)) := by
  refine dq_a2P ?_
  intro c pc h
  unfold Decoder.instr
  exact (dq_b h).trans rfl
theorem dq_o188 : dq_P 188 dq_na := by
  refine dq_naP ?_
  intro c pc h
  unfold Decoder.instr
  exact (dq_b h).trans rfl
theorem dq_o189 : dq_P 189 (dq_a2 (fun x => .anewarray x)) := by
  refine dq_a2P ?_
  intro c pc h
  unfold Decoder.instr
  exact (dq_b h).trans rfl
theorem dq_o190 : dq_P 190 (dq_s .arraylength) := by
  refine dq_sP ?_
  intro c pc h
  unfold Decoder.instr
  exact (dq_b h).trans rfl
theorem dq_o191 : dq_P 191 (dq_s .athrow) := by
  refine dq_sP ?_
  intro c pc h
  unfold Decoder.instr
  exact (dq_b h).trans rfl
theorem dq_o192 : dq_P 192 (dq_a2 (fun x => .checkcast x)) := by
  refine dq_a2P ?_
  intro c pc h
  unfold Decoder.instr
  exact (dq_b h).trans rfl
theorem dq_o193 : dq_P 193 (dq_a2 (fun x => .instanceof x)) := by
  refine dq_a2P ?_
  intro c pc h
  unfold Decoder.instr
  exact (dq_b h).trans rfl
theorem dq_o198 : dq_P 198 (dq_b2 (fun x => .ifnull x)) := by
  refine dq_b2P ?_
  intro c pc h
  unfold Decoder.instr
  exact (dq_b h).trans rfl
theorem dq_o199 : dq_P 199 (dq_b2 (fun x => .ifnonnull x)) := by
  refine dq_b2P ?_
  intro c pc h
  unfold Decoder.instr
  exact (dq_b h).trans rfl
noncomputable def dq_at {A : Type} (l : List A) : Nat → Option A := List.rec (fun _ => none) (fun a _ ih n => Nat.rec (some a) (fun m _ => ih m) n) l
theorem dq_at_cons {A : Type} (a : A) (l : List A) (n : Nat) : dq_at (a :: l) (n + 1) = dq_at l n := rfl
def dq_A (n : Nat) : List (List UInt8 → Option (Instr × Nat)) → Prop := fun l => ∀ k f, dq_at l k = some f → dq_P (n + k) f
theorem dq_An (n : Nat) : dq_A n [] := fun _ _ h => nomatch h
theorem dq_Ac {n : Nat} {f} {l : List (List UInt8 → Option (Instr × Nat))} (h : dq_P n f) (hl : dq_A (n + 1) l) : dq_A n (f :: l) := by
  intro k g hk
  cases k with
  | zero => cases (Option.some.inj hk); exact h
  | succ k =>
    rw [dq_at_cons] at hk
    have := hl k g hk
    rw [show n + (k + 1) = n + 1 + k by omega]
    exact this

def dq_r0 : List (List UInt8 → Option (Instr × Nat)) := [(dq_s .nop), (dq_s .aconst_null), (dq_s (.iconst (-1))), (dq_s (.iconst 0)), (dq_s (.iconst 1)), (dq_s (.iconst 2)), (dq_s (.iconst 3)), (dq_s (.iconst 4)), (dq_s (.iconst 5)), (dq_s (.lconst 0)), (dq_s (.lconst 1)), (dq_s (.fconst 0)), (dq_s (.fconst 1)), (dq_s (.fconst 2)), (dq_s (.dconst 0)), (dq_s (.dconst 1))]
theorem dq_r0_ok : dq_A 0 dq_r0 := dq_Ac dq_o0 (dq_Ac dq_o1 (dq_Ac dq_o2 (dq_Ac dq_o3 (dq_Ac dq_o4 (dq_Ac dq_o5 (dq_Ac dq_o6 (dq_Ac dq_o7 (dq_Ac dq_o8 (dq_Ac dq_o9 (dq_Ac dq_o10 (dq_Ac dq_o11 (dq_Ac dq_o12 (dq_Ac dq_o13 (dq_Ac dq_o14 (dq_Ac dq_o15 (dq_An 16))))))))))))))))
def dq_r1 : List (List UInt8 → Option (Instr × Nat)) := [(dq_b1 (fun x => .bipush x)), (dq_b2 (fun x => .sipush x)), (dq_a1 (fun x => .ldc x)), (dq_a2 (fun x => .ldc_w x)), (dq_a2 (fun x => .ldc2_w x)), (dq_a1 (fun x => .iload x)), (dq_a1 (fun x => .lload x)), (dq_a1 (fun x => .fload x)), (dq_a1 (fun x => .dload x)), (dq_a1 (fun x => .aload x)), (dq_s (.iload_n 0)), (dq_s (.iload_n 1)), (dq_s (.iload_n 2)), (dq_s (.iload_n 3)), (dq_s (.lload_n 0)), (dq_s (.lload_n 1))]
theorem dq_r1_ok : dq_A 16 dq_r1 := dq_Ac dq_o16 (dq_Ac dq_o17 (dq_Ac dq_o18 (dq_Ac dq_o19 (dq_Ac dq_o20 (dq_Ac dq_o21 (dq_Ac dq_o22 (dq_Ac dq_o23 (dq_Ac dq_o24 (dq_Ac dq_o25 (dq_Ac dq_o26 (dq_Ac dq_o27 (dq_Ac dq_o28 (dq_Ac dq_o29 (dq_Ac dq_o30 (dq_Ac dq_o31 (dq_An 32))))))))))))))))
def dq_r2 : List (List UInt8 → Option (Instr × Nat)) := [(dq_s (.lload_n 2)), (dq_s (.lload_n 3)), (dq_s (.fload_n 0)), (dq_s (.fload_n 1)), (dq_s (.fload_n 2)), (dq_s (.fload_n 3)), (dq_s (.dload_n 0)), (dq_s (.dload_n 1)), (dq_s (.dload_n 2)), (dq_s (.dload_n 3)), (dq_s (.aload_n 0)), (dq_s (.aload_n 1)), (dq_s (.aload_n 2)), (dq_s (.aload_n 3)), (dq_s .iaload), (dq_s .laload)]
theorem dq_r2_ok : dq_A 32 dq_r2 := dq_Ac dq_o32 (dq_Ac dq_o33 (dq_Ac dq_o34 (dq_Ac dq_o35 (dq_Ac dq_o36 (dq_Ac dq_o37 (dq_Ac dq_o38 (dq_Ac dq_o39 (dq_Ac dq_o40 (dq_Ac dq_o41 (dq_Ac dq_o42 (dq_Ac dq_o43 (dq_Ac dq_o44 (dq_Ac dq_o45 (dq_Ac dq_o46 (dq_Ac dq_o47 (dq_An 48))))))))))))))))
def dq_r3 : List (List UInt8 → Option (Instr × Nat)) := [(dq_s .faload), (dq_s .daload), (dq_s .aaload), (dq_s .baload), (dq_s .caload), (dq_s .saload), (dq_a1 (fun x => .istore x)), (dq_a1 (fun x => .lstore x)), (dq_a1 (fun x => .fstore x)), (dq_a1 (fun x => .dstore x)), (dq_a1 (fun x => .astore x)), (dq_s (.istore_n 0)), (dq_s (.istore_n 1)), (dq_s (.istore_n 2)), (dq_s (.istore_n 3)), (dq_s (.lstore_n 0))]
theorem dq_r3_ok : dq_A 48 dq_r3 := dq_Ac dq_o48 (dq_Ac dq_o49 (dq_Ac dq_o50 (dq_Ac dq_o51 (dq_Ac dq_o52 (dq_Ac dq_o53 (dq_Ac dq_o54 (dq_Ac dq_o55 (dq_Ac dq_o56 (dq_Ac dq_o57 (dq_Ac dq_o58 (dq_Ac dq_o59 (dq_Ac dq_o60 (dq_Ac dq_o61 (dq_Ac dq_o62 (dq_Ac dq_o63 (dq_An 64))))))))))))))))
def dq_r4 : List (List UInt8 → Option (Instr × Nat)) := [(dq_s (.lstore_n 1)), (dq_s (.lstore_n 2)), (dq_s (.lstore_n 3)), (dq_s (.fstore_n 0)), (dq_s (.fstore_n 1)), (dq_s (.fstore_n 2)), (dq_s (.fstore_n 3)), (dq_s (.dstore_n 0)), (dq_s (.dstore_n 1)), (dq_s (.dstore_n 2)), (dq_s (.dstore_n 3)), (dq_s (.astore_n 0)), (dq_s (.astore_n 1)), (dq_s (.astore_n 2)), (dq_s (.astore_n 3)), (dq_s .iastore)]
theorem dq_r4_ok : dq_A 64 dq_r4 := dq_Ac dq_o64 (dq_Ac dq_o65 (dq_Ac dq_o66 (dq_Ac dq_o67 (dq_Ac dq_o68 (dq_Ac dq_o69 (dq_Ac dq_o70 (dq_Ac dq_o71 (dq_Ac dq_o72 (dq_Ac dq_o73 (dq_Ac dq_o74 (dq_Ac dq_o75 (dq_Ac dq_o76 (dq_Ac dq_o77 (dq_Ac dq_o78 (dq_Ac dq_o79 (dq_An 80))))))))))))))))
def dq_r5 : List (List UInt8 → Option (Instr × Nat)) := [(dq_s .lastore), (dq_s .fastore), (dq_s .dastore), (dq_s .aastore), (dq_s .bastore), (dq_s .castore), (dq_s .sastore), (dq_s .pop), (dq_s .pop2), (dq_s .dup), (dq_s .dup_x1), (dq_s .dup_x2), (dq_s .dup2), (dq_s .dup2_x1), (dq_s .dup2_x2), (dq_s .swap)]
theorem dq_r5_ok : dq_A 80 dq_r5 := dq_Ac dq_o80 (dq_Ac dq_o81 (dq_Ac dq_o82 (dq_Ac dq_o83 (dq_Ac dq_o84 (dq_Ac dq_o85 (dq_Ac dq_o86 (dq_Ac dq_o87 (dq_Ac dq_o88 (dq_Ac dq_o89 (dq_Ac dq_o90 (dq_Ac dq_o91 (dq_Ac dq_o92 (dq_Ac dq_o93 (dq_Ac dq_o94 (dq_Ac dq_o95 (dq_An 96))))))))))))))))
def dq_r6 : List (List UInt8 → Option (Instr × Nat)) := [(dq_s .iadd), (dq_s .ladd), (dq_s .fadd), (dq_s .dadd), (dq_s .isub), (dq_s .lsub), (dq_s .fsub), (dq_s .dsub), (dq_s .imul), (dq_s .lmul), (dq_s .fmul), (dq_s .dmul), (dq_s .idiv), (dq_s .ldiv), (dq_s .fdiv), (dq_s .ddiv)]
theorem dq_r6_ok : dq_A 96 dq_r6 := dq_Ac dq_o96 (dq_Ac dq_o97 (dq_Ac dq_o98 (dq_Ac dq_o99 (dq_Ac dq_o100 (dq_Ac dq_o101 (dq_Ac dq_o102 (dq_Ac dq_o103 (dq_Ac dq_o104 (dq_Ac dq_o105 (dq_Ac dq_o106 (dq_Ac dq_o107 (dq_Ac dq_o108 (dq_Ac dq_o109 (dq_Ac dq_o110 (dq_Ac dq_o111 (dq_An 112))))))))))))))))
def dq_r7 : List (List UInt8 → Option (Instr × Nat)) := [(dq_s .irem), (dq_s .lrem), (dq_s .frem), (dq_s .drem), (dq_s .ineg), (dq_s .lneg), (dq_s .fneg), (dq_s .dneg), (dq_s .ishl), (dq_s .lshl), (dq_s .ishr), (dq_s .lshr), (dq_s .iushr), (dq_s .lushr), (dq_s .iand), (dq_s .land)]
theorem dq_r7_ok : dq_A 112 dq_r7 := dq_Ac dq_o112 (dq_Ac dq_o113 (dq_Ac dq_o114 (dq_Ac dq_o115 (dq_Ac dq_o116 (dq_Ac dq_o117 (dq_Ac dq_o118 (dq_Ac dq_o119 (dq_Ac dq_o120 (dq_Ac dq_o121 (dq_Ac dq_o122 (dq_Ac dq_o123 (dq_Ac dq_o124 (dq_Ac dq_o125 (dq_Ac dq_o126 (dq_Ac dq_o127 (dq_An 128))))))))))))))))
def dq_r8 : List (List UInt8 → Option (Instr × Nat)) := [(dq_s .ior), (dq_s .lor), (dq_s .ixor), (dq_s .lxor), dq_ii, (dq_s .i2l), (dq_s .i2f), (dq_s .i2d), (dq_s .l2i), (dq_s .l2f), (dq_s .l2d), (dq_s .f2i), (dq_s .f2l), (dq_s .f2d), (dq_s .d2i), (dq_s .d2l)]
theorem dq_r8_ok : dq_A 128 dq_r8 := dq_Ac dq_o128 (dq_Ac dq_o129 (dq_Ac dq_o130 (dq_Ac dq_o131 (dq_Ac dq_o132 (dq_Ac dq_o133 (dq_Ac dq_o134 (dq_Ac dq_o135 (dq_Ac dq_o136 (dq_Ac dq_o137 (dq_Ac dq_o138 (dq_Ac dq_o139 (dq_Ac dq_o140 (dq_Ac dq_o141 (dq_Ac dq_o142 (dq_Ac dq_o143 (dq_An 144))))))))))))))))
def dq_r9 : List (List UInt8 → Option (Instr × Nat)) := [(dq_s .d2f), (dq_s .i2b), (dq_s .i2c), (dq_s .i2s), (dq_s .lcmp), (dq_s (.fcmp .l)), (dq_s (.fcmp .g)), (dq_s (.dcmp .l)), (dq_s (.dcmp .g)), (dq_b2 (fun x => .ifCond .eq x)), (dq_b2 (fun x => .ifCond .ne x)), (dq_b2 (fun x => .ifCond .lt x)), (dq_b2 (fun x => .ifCond .ge x)), (dq_b2 (fun x => .ifCond .gt x)), (dq_b2 (fun x => .ifCond .le x)), (dq_b2 (fun x => .if_icmp .eq x))]
theorem dq_r9_ok : dq_A 144 dq_r9 := dq_Ac dq_o144 (dq_Ac dq_o145 (dq_Ac dq_o146 (dq_Ac dq_o147 (dq_Ac dq_o148 (dq_Ac dq_o149 (dq_Ac dq_o150 (dq_Ac dq_o151 (dq_Ac dq_o152 (dq_Ac dq_o153 (dq_Ac dq_o154 (dq_Ac dq_o155 (dq_Ac dq_o156 (dq_Ac dq_o157 (dq_Ac dq_o158 (dq_Ac dq_o159 (dq_An 160))))))))))))))))
def dq_r10 : List (List UInt8 → Option (Instr × Nat)) := [(dq_b2 (fun x => .if_icmp .ne x)), (dq_b2 (fun x => .if_icmp .lt x)), (dq_b2 (fun x => .if_icmp .ge x)), (dq_b2 (fun x => .if_icmp .gt x)), (dq_b2 (fun x => .if_icmp .le x)), (dq_b2 (fun x => .if_acmp .eq x)), (dq_b2 (fun x => .if_acmp .ne x)), (dq_b2 (fun x => .goto x)), dq_no, dq_no, dq_no, dq_no, (dq_s .ireturn), (dq_s .lreturn), (dq_s .freturn), (dq_s .dreturn)]
theorem dq_r10_ok : dq_A 160 dq_r10 := dq_Ac dq_o160 (dq_Ac dq_o161 (dq_Ac dq_o162 (dq_Ac dq_o163 (dq_Ac dq_o164 (dq_Ac dq_o165 (dq_Ac dq_o166 (dq_Ac dq_o167 (dq_Ac (dq_noP 168) (dq_Ac (dq_noP 169) (dq_Ac (dq_noP 170) (dq_Ac (dq_noP 171) (dq_Ac dq_o172 (dq_Ac dq_o173 (dq_Ac dq_o174 (dq_Ac dq_o175 (dq_An 176))))))))))))))))
def dq_r11 : List (List UInt8 → Option (Instr × Nat)) := [(dq_s .areturn), (dq_s .return_), (dq_a2 (fun x => .getstatic x)), (dq_a2 (fun x => .putstatic x)), (dq_a2 (fun x => .getfield x)), (dq_a2 (fun x => .putfield x)), (dq_a2 (fun x => .invokevirtual x)), (dq_a2 (fun x => .invokespecial x)), (dq_a2 (fun x => .invokestatic x)), dq_no, dq_no, (dq_a2 (fun x => .new x)), dq_na, (dq_a2 (fun x => .anewarray x)), (dq_s .arraylength), (dq_s .athrow)]
theorem dq_r11_ok : dq_A 176 dq_r11 := dq_Ac dq_o176 (dq_Ac dq_o177 (dq_Ac dq_o178 (dq_Ac dq_o179 (dq_Ac dq_o180 (dq_Ac dq_o181 (dq_Ac dq_o182 (dq_Ac dq_o183 (dq_Ac dq_o184 (dq_Ac (dq_noP 185) (dq_Ac (dq_noP 186) (dq_Ac dq_o187 (dq_Ac dq_o188 (dq_Ac dq_o189 (dq_Ac dq_o190 (dq_Ac dq_o191 (dq_An 192))))))))))))))))
def dq_r12 : List (List UInt8 → Option (Instr × Nat)) := [(dq_a2 (fun x => .checkcast x)), (dq_a2 (fun x => .instanceof x)), dq_no, dq_no, dq_no, dq_no, (dq_b2 (fun x => .ifnull x)), (dq_b2 (fun x => .ifnonnull x)), dq_no, dq_no]
theorem dq_r12_ok : dq_A 192 dq_r12 := dq_Ac dq_o192 (dq_Ac dq_o193 (dq_Ac (dq_noP 194) (dq_Ac (dq_noP 195) (dq_Ac (dq_noP 196) (dq_Ac (dq_noP 197) (dq_Ac dq_o198 (dq_Ac dq_o199 (dq_Ac (dq_noP 200) (dq_Ac (dq_noP 201) (dq_An 202))))))))))
def dq_T : List (List (List UInt8 → Option (Instr × Nat))) := [dq_r0, dq_r1, dq_r2, dq_r3, dq_r4, dq_r5, dq_r6, dq_r7, dq_r8, dq_r9, dq_r10, dq_r11, dq_r12]
def dq_B (n : Nat) : List (List (List UInt8 → Option (Instr × Nat))) → Prop := fun l => ∀ k f, dq_at l k = some f → dq_A (16 * (n + k)) f
theorem dq_Bn (n : Nat) : dq_B n [] := fun _ _ h => nomatch h
theorem dq_Bc {n : Nat} {f} {l : List (List (List UInt8 → Option (Instr × Nat)))} (h : dq_A (16 * n) f) (hl : dq_B (n + 1) l) : dq_B n (f :: l) := by
  intro k g hk
  cases k with
  | zero => cases (Option.some.inj hk); exact h
  | succ k =>
    rw [dq_at_cons] at hk
    have := hl k g hk
    rw [show n + (k + 1) = n + 1 + k by omega]
    exact this

theorem dq_T_ok : dq_B 0 dq_T := dq_Bc dq_r0_ok (dq_Bc dq_r1_ok (dq_Bc dq_r2_ok (dq_Bc dq_r3_ok (dq_Bc dq_r4_ok (dq_Bc dq_r5_ok (dq_Bc dq_r6_ok (dq_Bc dq_r7_ok (dq_Bc dq_r8_ok (dq_Bc dq_r9_ok (dq_Bc dq_r10_ok (dq_Bc dq_r11_ok (dq_Bc dq_r12_ok (dq_Bn 13)))))))))))))
noncomputable def dq_i (n : Nat) (r : List UInt8) : Option (Instr × Nat) := match dq_at dq_T (n / 16) with | some row => (match dq_at row (n % 16) with | some f => f r | none => none) | none => none
theorem dq_iP {n : Nat} {c : ByteArray} {pc : Nat} {r : List UInt8} {i : Instr} {k : Nat} (h1 : (Reader.u1 : Decoder Nat) c pc = .ok (n, pc + 1)) (h2 : c.data.toList.drop (pc + 1) = r) (h : dq_i n r = some (i, k)) : decode c pc = .ok (i, k) := by
  unfold dq_i at h
  cases hA : dq_at dq_T (n / 16) with
  | none => rw [hA] at h; cases h
  | some row =>
    rw [hA] at h
    cases hB : dq_at row (n % 16) with
    | none => simp only [hB] at h; cases h
    | some f =>
      simp only [hB] at h
      have := dq_T_ok _ _ hA _ _ hB
      rw [show 16 * (0 + n / 16) + n % 16 = n by omega] at this
      exact this c pc r i k h1 h2 h
noncomputable def dq_w (L : List (Nat × Instr × Nat)) : List UInt8 → Nat → Bool := List.rec (fun _ _ => true) (fun q _ ih l pc => match l with
  | [] => false
  | a :: r => match dq_i a.toNat r with
    | none => false
    | some (i, n) => and (Nat.beq q.1 pc) (and (Nat.beq q.2.2 n) (and (decide (q.2.1 = i)) (ih ((a :: r).drop n) (pc + n))))) L
theorem dq_wc (q : Nat × Instr × Nat) (L : List (Nat × Instr × Nat)) (l : List UInt8) (pc : Nat) : dq_w (q :: L) l pc = (match l with
  | [] => false
  | a :: r => match dq_i a.toNat r with
    | none => false
    | some (i, n) => and (Nat.beq q.1 pc) (and (Nat.beq q.2.2 n) (and (decide (q.2.1 = i)) (dq_w L ((a :: r).drop n) (pc + n))))) := rfl
theorem dq_wP {c : ByteArray} : ∀ (L : List (Nat × Instr × Nat)) (l : List UInt8) (pc : Nat), c.data.toList.drop pc = l → dq_w L l pc = true → L.all (fun q => decide (decode c q.1 = .ok (q.2.1, q.2.2))) = true := by
  intro L
  induction L with
  | nil => intro _ _ _ _; rfl
  | cons q L ih =>
    intro l pc hl h
    rw [dq_wc] at h
    cases l with
    | nil => cases h
    | cons a r =>
      dsimp only at h
      cases hd : dq_i a.toNat r with
      | none => simp only [hd] at h; cases h
      | some z =>
        obtain ⟨i, n⟩ := z
        simp only [hd, Bool.and_eq_true, decide_eq_true_eq] at h
        obtain ⟨h1, h2, h3, h4⟩ := h
        have e1 := Nat.eq_of_beq_eq_true h1
        have e2 := Nat.eq_of_beq_eq_true h2
        rw [List.all_cons, Bool.and_eq_true]
        refine ⟨decide_eq_true ?_, ih _ _ ?_ h4⟩
        · rw [e1, e2, h3]
          exact dq_iP (dq_1 hl) (dq_get hl).2 hd
        · rw [← hl, List.drop_drop]
theorem dq_all {c : ByteArray} {L : List (Nat × Instr × Nat)} (pc : Nat) (h : dq_w L (c.data.toList.drop pc) pc = true) : L.all (fun q => decide (decode c q.1 = .ok (q.2.1, q.2.2))) = true := dq_wP L _ pc rfl h
end
section
def RX0 : String := "LeadlightHall$Frame"
def TX0 : u_T := fun k => match k with
  | 0 => ("LeadlightHall$Frame", "bars", "I", false)
  | 1 => ("LeadlightHall$Frame", "profile", "I", false)
  | _ => ("LeadlightHall$Frame", "wind", "I", false)
def tyX0 : Nat → FieldType := fun k => match k with
  | 0 => .int
  | 1 => .int
  | _ => .int
abbrev wsX00 : List Cond := u_ws RX0 TX0 3
theorem nmX0 : ∀ a, a < 3 → ∀ b, b < 3 → a ≠ b → (TX0 a).2.1 ≠ (TX0 b).2.1 := by decide +kernel
theorem tyX0_ok : ∀ k, k < 3 → parseFieldDescriptor (TX0 k).2.2.1 = some (tyX0 k) := by decide +kernel
abbrev cX0_init : ByteArray := prog_2_method_1_code
def yX0_init : MethodName := ⟨RX0, "<init>", "()V"⟩
def RX1 : String := "LeadlightHall$Paint"
def TX1 : u_T := fun k => match k with
  | 0 => ("LeadlightHall$Paint", "raw", "[I", true)
  | _ => ("LeadlightHall$Paint", "fixed", "[I", true)
def tyX1 : Nat → FieldType := fun k => match k with
  | 0 => .array .int
  | _ => .array .int
abbrev wsX10 : List Cond := u_ws RX1 TX1 2
theorem nmX1 : ∀ a, a < 2 → ∀ b, b < 2 → a ≠ b → (TX1 a).2.1 ≠ (TX1 b).2.1 := by decide +kernel
theorem tyX1_ok : ∀ k, k < 2 → parseFieldDescriptor (TX1 k).2.2.1 = some (tyX1 k) := by decide +kernel
abbrev cX1_init : ByteArray := prog_3_method_1_code
def yX1_init : MethodName := ⟨RX1, "<init>", "()V"⟩
abbrev cX1_rawLayers : ByteArray := prog_3_method_7_code
def yX1_rawLayers : MethodName := ⟨RX1, "rawLayers", "()I"⟩
def RX2 : String := "LeadlightHall$Pane"
def TX2 : u_T := fun k => match k with
  | 0 => ("LeadlightHall$Pane", "wantedColour", "I", false)
  | 1 => ("LeadlightHall$Pane", "wantedStreaks", "C", false)
  | 2 => ("LeadlightHall$Pane", "state", "C", false)
  | 3 => ("LeadlightHall$Pane", "colour", "I", false)
  | 4 => ("LeadlightHall$Pane", "year", "I", false)
  | 5 => ("LeadlightHall$Pane", "paint", "LLeadlightHall$Paint;", true)
  | _ => ("LeadlightHall$Pane", "leadYears", "LLeadlightHall$YearSet;", true)
def tyX2 : Nat → FieldType := fun k => match k with
  | 0 => .int
  | 1 => .char
  | 2 => .char
  | 3 => .int
  | 4 => .int
  | 5 => .object "LeadlightHall$Paint"
  | _ => .object "LeadlightHall$YearSet"
abbrev wsX20 : List Cond := u_ws RX2 TX2 7
theorem nmX2 : ∀ a, a < 7 → ∀ b, b < 7 → a ≠ b → (TX2 a).2.1 ≠ (TX2 b).2.1 := by decide +kernel
theorem tyX2_ok : ∀ k, k < 7 → parseFieldDescriptor (TX2 k).2.2.1 = some (tyX2 k) := by decide +kernel
abbrev cX2_init : ByteArray := prog_4_method_1_code
def yX2_init : MethodName := ⟨RX2, "<init>", "()V"⟩
abbrev cX2_hasGlass : ByteArray := prog_4_method_2_code
def yX2_hasGlass : MethodName := ⟨RX2, "hasGlass", "()Z"⟩
abbrev cX2_wantLike : ByteArray := prog_4_method_4_code
def yX2_wantLike : MethodName := ⟨RX2, "wantLike", "(LLeadlightHall$Pane;)V"⟩
def RX3 : String := "LeadlightHall$Shape"
def TX3 : u_T := fun k => match k with
  | 0 => ("LeadlightHall$Shape", "rows", "[I", true)
  | _ => ("LeadlightHall$Shape", "reached", "[I", true)
def tyX3 : Nat → FieldType := fun k => match k with
  | 0 => .array .int
  | _ => .array .int
abbrev wsX30 : List Cond := u_ws RX3 TX3 2
theorem nmX3 : ∀ a, a < 2 → ∀ b, b < 2 → a ≠ b → (TX3 a).2.1 ≠ (TX3 b).2.1 := by decide +kernel
theorem tyX3_ok : ∀ k, k < 2 → parseFieldDescriptor (TX3 k).2.2.1 = some (tyX3 k) := by decide +kernel
abbrev cX3_init : ByteArray := prog_5_method_1_code
def yX3_init : MethodName := ⟨RX3, "<init>", "()V"⟩
abbrev cX3_clear : ByteArray := prog_5_method_2_code
def yX3_clear : MethodName := ⟨RX3, "clear", "()V"⟩
abbrev cX3_add : ByteArray := prog_5_method_3_code
def yX3_add : MethodName := ⟨RX3, "add", "(II)V"⟩
abbrev cX3_has : ByteArray := prog_5_method_4_code
def yX3_has : MethodName := ⟨RX3, "has", "(II)Z"⟩
abbrev cX3_row : ByteArray := prog_5_method_5_code
def yX3_row : MethodName := ⟨RX3, "row", "(I)I"⟩
abbrev cX3_cellCount : ByteArray := prog_5_method_6_code
def yX3_cellCount : MethodName := ⟨RX3, "cellCount", "()I"⟩
abbrev cX3_hindrance : ByteArray := prog_5_method_7_code
def yX3_hindrance : MethodName := ⟨RX3, "hindrance", "()C"⟩
abbrev cX3_isWhole : ByteArray := prog_5_method_8_code
def yX3_isWhole : MethodName := ⟨RX3, "isWhole", "()Z"⟩
abbrev cX3_grow : ByteArray := prog_5_method_9_code
def yX3_grow : MethodName := ⟨RX3, "grow", "()Z"⟩
abbrev cX3_innerCorners : ByteArray := prog_5_method_10_code
def yX3_innerCorners : MethodName := ⟨RX3, "innerCorners", "()I"⟩
abbrev cX3_longestNarrow : ByteArray := prog_5_method_11_code
def yX3_longestNarrow : MethodName := ⟨RX3, "longestNarrow", "()I"⟩
abbrev cX3_narrowInRow : ByteArray := prog_5_method_12_code
def yX3_narrowInRow : MethodName := ⟨RX3, "narrowInRow", "(I)I"⟩
abbrev cX3_narrowInColumn : ByteArray := prog_5_method_13_code
def yX3_narrowInColumn : MethodName := ⟨RX3, "narrowInColumn", "(I)I"⟩
abbrev cX3_longestRun : ByteArray := prog_5_method_14_code
def yX3_longestRun : MethodName := ⟨RX3, "longestRun", "(I)I"⟩
abbrev cX3_bestLead : ByteArray := prog_5_method_15_code
def yX3_bestLead : MethodName := ⟨RX3, "bestLead", "(LLeadlightHall$Shape;LLeadlightHall$Shape;)I"⟩
abbrev cX3_partBy : ByteArray := prog_5_method_16_code
def yX3_partBy : MethodName := ⟨RX3, "partBy", "(ILLeadlightHall$Shape;LLeadlightHall$Shape;)V"⟩
abbrev cX3_touchesOver : ByteArray := prog_5_method_17_code
def yX3_touchesOver : MethodName := ⟨RX3, "touchesOver", "(I)I"⟩
def RX4 : String := "LeadlightHall$Sheet"
def TX4 : u_T := fun k => match k with
  | 0 => ("LeadlightHall$Sheet", "colour", "I", false)
  | 1 => ("LeadlightHall$Sheet", "width", "I", false)
  | 2 => ("LeadlightHall$Sheet", "height", "I", false)
  | 3 => ("LeadlightHall$Sheet", "streaks", "C", false)
  | _ => ("LeadlightHall$Sheet", "used", "[I", true)
def tyX4 : Nat → FieldType := fun k => match k with
  | 0 => .int
  | 1 => .int
  | 2 => .int
  | 3 => .char
  | _ => .array .int
abbrev wsX40 : List Cond := u_ws RX4 TX4 5
theorem nmX4 : ∀ a, a < 5 → ∀ b, b < 5 → a ≠ b → (TX4 a).2.1 ≠ (TX4 b).2.1 := by decide +kernel
theorem tyX4_ok : ∀ k, k < 5 → parseFieldDescriptor (TX4 k).2.2.1 = some (tyX4 k) := by decide +kernel
abbrev cX4_init : ByteArray := prog_6_method_1_code
def yX4_init : MethodName := ⟨RX4, "<init>", "()V"⟩
abbrev cX4_usedCells : ByteArray := prog_6_method_3_code
def yX4_usedCells : MethodName := ⟨RX4, "usedCells", "()I"⟩
def RX5 : String := "LeadlightHall$Wall"
def TX5 : u_T := fun k => match k with
  | _ => ("LeadlightHall$Wall", "cells", "[I", true)
def tyX5 : Nat → FieldType := fun k => match k with
  | _ => .array .int
abbrev wsX50 : List Cond := u_ws RX5 TX5 1
theorem nmX5 : ∀ a, a < 1 → ∀ b, b < 1 → a ≠ b → (TX5 a).2.1 ≠ (TX5 b).2.1 := by decide +kernel
theorem tyX5_ok : ∀ k, k < 1 → parseFieldDescriptor (TX5 k).2.2.1 = some (tyX5 k) := by decide +kernel
abbrev cX5_init : ByteArray := prog_7_method_1_code
def yX5_init : MethodName := ⟨RX5, "<init>", "()V"⟩
abbrev cX5_at : ByteArray := prog_7_method_2_code
def yX5_at : MethodName := ⟨RX5, "at", "(II)I"⟩
abbrev cX5_put : ByteArray := prog_7_method_3_code
def yX5_put : MethodName := ⟨RX5, "put", "(III)V"⟩
abbrev cX5_putShape : ByteArray := prog_7_method_4_code
def yX5_putShape : MethodName := ⟨RX5, "putShape", "(LLeadlightHall$Shape;I)V"⟩
abbrev cX5_cellsOf : ByteArray := prog_7_method_5_code
def yX5_cellsOf : MethodName := ⟨RX5, "cellsOf", "(I)I"⟩
abbrev cX5_piecesWithCells : ByteArray := prog_7_method_6_code
def yX5_piecesWithCells : MethodName := ⟨RX5, "piecesWithCells", "()I"⟩
abbrev cX5_shapeInto : ByteArray := prog_7_method_7_code
def yX5_shapeInto : MethodName := ⟨RX5, "shapeInto", "(ILLeadlightHall$Shape;)V"⟩
abbrev cX5_leadedSides : ByteArray := prog_7_method_8_code
def yX5_leadedSides : MethodName := ⟨RX5, "leadedSides", "()I"⟩
abbrev cX5_meetingPoints : ByteArray := prog_7_method_9_code
def yX5_meetingPoints : MethodName := ⟨RX5, "meetingPoints", "()I"⟩
abbrev cX5_waitsInto : ByteArray := prog_7_method_10_code
def yX5_waitsInto : MethodName := ⟨RX5, "waitsInto", "([I)V"⟩
abbrev cX5_bitOf : ByteArray := prog_7_method_11_code
def yX5_bitOf : MethodName := ⟨RX5, "bitOf", "(II)I"⟩
abbrev cX5_leadBetween : ByteArray := prog_7_method_12_code
def yX5_leadBetween : MethodName := ⟨RX5, "leadBetween", "(II)I"⟩
def RX6 : String := "LeadlightHall$YearSet"
def TX6 : u_T := fun k => match k with
  | _ => ("LeadlightHall$YearSet", "words", "[J", true)
def tyX6 : Nat → FieldType := fun k => match k with
  | _ => .array .long
abbrev wsX60 : List Cond := u_ws RX6 TX6 1
theorem nmX6 : ∀ a, a < 1 → ∀ b, b < 1 → a ≠ b → (TX6 a).2.1 ≠ (TX6 b).2.1 := by decide +kernel
theorem tyX6_ok : ∀ k, k < 1 → parseFieldDescriptor (TX6 k).2.2.1 = some (tyX6 k) := by decide +kernel
abbrev cX6_init : ByteArray := prog_8_method_1_code
def yX6_init : MethodName := ⟨RX6, "<init>", "()V"⟩
def RX7 : String := "LeadlightHall"
def TX7 : u_T := fun k => match k with
  | 0 => ("LeadlightHall", "wall", "LLeadlightHall$Wall;", true)
  | 1 => ("LeadlightHall", "panes", "[LLeadlightHall$Pane;", true)
  | 2 => ("LeadlightHall", "sheets", "[LLeadlightHall$Sheet;", true)
  | 3 => ("LeadlightHall", "frame", "LLeadlightHall$Frame;", true)
  | 4 => ("LeadlightHall", "sheetCount", "I", false)
  | 5 => ("LeadlightHall", "cellsTaken", "I", false)
  | 6 => ("LeadlightHall", "z", "I", false)
  | 7 => ("LeadlightHall", "isSoldered", "Z", false)
  | 8 => ("LeadlightHall", "upYear", "I", false)
  | 9 => ("LeadlightHall", "now", "I", false)
  | 10 => ("LeadlightHall", "mends", "I", false)
  | 11 => ("LeadlightHall", "shape", "LLeadlightHall$Shape;", true)
  | 12 => ("LeadlightHall", "near", "LLeadlightHall$Shape;", true)
  | 13 => ("LeadlightHall", "far", "LLeadlightHall$Shape;", true)
  | 14 => ("LeadlightHall", "waits", "[I", true)
  | _ => ("LeadlightHall", "unlike", "LLeadlightHall$YearSet;", true)
def tyX7 : Nat → FieldType := fun k => match k with
  | 0 => .object "LeadlightHall$Wall"
  | 1 => .array (.object "LeadlightHall$Pane")
  | 2 => .array (.object "LeadlightHall$Sheet")
  | 3 => .object "LeadlightHall$Frame"
  | 4 => .int
  | 5 => .int
  | 6 => .int
  | 7 => .boolean
  | 8 => .int
  | 9 => .int
  | 10 => .int
  | 11 => .object "LeadlightHall$Shape"
  | 12 => .object "LeadlightHall$Shape"
  | 13 => .object "LeadlightHall$Shape"
  | 14 => .array .int
  | _ => .object "LeadlightHall$YearSet"
abbrev wsX70 : List Cond := u_ws RX7 TX7 16
theorem nmX7 : ∀ a, a < 16 → ∀ b, b < 16 → a ≠ b → (TX7 a).2.1 ≠ (TX7 b).2.1 := by decide +kernel
theorem tyX7_ok : ∀ k, k < 16 → parseFieldDescriptor (TX7 k).2.2.1 = some (tyX7 k) := by decide +kernel
abbrev cX7_init : ByteArray := prog_1_method_1_code
def yX7_init : MethodName := ⟨RX7, "<init>", "()V"⟩
abbrev cX7_open : ByteArray := prog_1_method_2_code
def yX7_open : MethodName := ⟨RX7, "open", "(IIIIZ)I"⟩
abbrev cX7_lay : ByteArray := prog_1_method_3_code
def yX7_lay : MethodName := ⟨RX7, "lay", "(IIIII)I"⟩
abbrev cX7_pieceAt : ByteArray := prog_1_method_4_code
def yX7_pieceAt : MethodName := ⟨RX7, "pieceAt", "(II)I"⟩
abbrev cX7_size : ByteArray := prog_1_method_5_code
def yX7_size : MethodName := ⟨RX7, "size", "(I)I"⟩
abbrev cX7_corners : ByteArray := prog_1_method_6_code
def yX7_corners : MethodName := ⟨RX7, "corners", "(I)I"⟩
abbrev cX7_point : ByteArray := prog_1_method_7_code
def yX7_point : MethodName := ⟨RX7, "point", "(I)I"⟩
abbrev cX7_hinders : ByteArray := prog_1_method_8_code
def yX7_hinders : MethodName := ⟨RX7, "hinders", "(I)C"⟩
abbrev cX7_split : ByteArray := prog_1_method_9_code
def yX7_split : MethodName := ⟨RX7, "split", "(I)I"⟩
abbrev cX7_lead : ByteArray := prog_1_method_10_code
def yX7_lead : MethodName := ⟨RX7, "lead", "()I"⟩
abbrev cX7_joints : ByteArray := prog_1_method_11_code
def yX7_joints : MethodName := ⟨RX7, "joints", "()I"⟩
abbrev cX7_meanCells : ByteArray := prog_1_method_43_code
def yX7_meanCells : MethodName := ⟨RX7, "meanCells", "()D"⟩
abbrev cX7_isSound : ByteArray := prog_1_method_44_code
def yX7_isSound : MethodName := ⟨RX7, "isSound", "()Z"⟩
abbrev cX7_isWithin : ByteArray := prog_1_method_45_code
def yX7_isWithin : MethodName := ⟨RX7, "isWithin", "(III)Z"⟩
abbrev cX7_isInside : ByteArray := prog_1_method_46_code
def yX7_isInside : MethodName := ⟨RX7, "isInside", "(II)Z"⟩
abbrev cX7_isPiece : ByteArray := prog_1_method_47_code
def yX7_isPiece : MethodName := ⟨RX7, "isPiece", "(I)Z"⟩
abbrev cX7_requirePiece : ByteArray := prog_1_method_50_code
def yX7_requirePiece : MethodName := ⟨RX7, "requirePiece", "(I)V"⟩
abbrev cX7_requireCell : ByteArray := prog_1_method_52_code
def yX7_requireCell : MethodName := ⟨RX7, "requireCell", "(II)V"⟩
abbrev cX7_requireCells : ByteArray := prog_1_method_53_code
def yX7_requireCells : MethodName := ⟨RX7, "requireCells", "(IIII)V"⟩
abbrev cX7_panesThatAre : ByteArray := prog_1_method_58_code
def yX7_panesThatAre : MethodName := ⟨RX7, "panesThatAre", "(C)I"⟩
abbrev cX7_lowestWithoutCells : ByteArray := prog_1_method_59_code
def yX7_lowestWithoutCells : MethodName := ⟨RX7, "lowestWithoutCells", "()I"⟩
abbrev cX7_isGlassWithin : ByteArray := prog_1_method_60_code
def yX7_isGlassWithin : MethodName := ⟨RX7, "isGlassWithin", "(IIII)Z"⟩
abbrev cX7_isOpenWithin : ByteArray := prog_1_method_61_code
def yX7_isOpenWithin : MethodName := ⟨RX7, "isOpenWithin", "(IIII)Z"⟩
abbrev cX7_isCuttable : ByteArray := prog_1_method_63_code
def yX7_isCuttable : MethodName := ⟨RX7, "isCuttable", "(I)Z"⟩
def RX8 : String := "LeadlightHallModel"
def TX8 : u_T := fun k => match k with
  | _ => ("", "", "", false)
def tyX8 : Nat → FieldType := fun k => match k with
  | _ => .int
abbrev wsX80 : List Cond := u_ws RX8 TX8 0
theorem nmX8 : ∀ a, a < 0 → ∀ b, b < 0 → a ≠ b → (TX8 a).2.1 ≠ (TX8 b).2.1 := by decide +kernel
theorem tyX8_ok : ∀ k, k < 0 → parseFieldDescriptor (TX8 k).2.2.1 = some (tyX8 k) := by decide +kernel
def RJx145de : String := "java/io/Serializable"
def TJx145de : u_T := fun k => match k with
  | _ => ("", "", "", false)
def tyJx145de : Nat → FieldType := fun k => match k with
  | _ => .int
theorem nmJx145de : ∀ a, a < 0 → ∀ b, b < 0 → a ≠ b → (TJx145de a).2.1 ≠ (TJx145de b).2.1 := by decide +kernel
def RJ6 : String := "java/lang/Integer"
def TJ6 : u_T := fun k => match k with
  | _ => ("", "", "", false)
def tyJ6 : Nat → FieldType := fun k => match k with
  | _ => .int
abbrev wsJ60 : List Cond := u_ws RJ6 TJ6 0
theorem nmJ6 : ∀ a, a < 0 → ∀ b, b < 0 → a ≠ b → (TJ6 a).2.1 ≠ (TJ6 b).2.1 := by decide +kernel
theorem tyJ6_ok : ∀ k, k < 0 → parseFieldDescriptor (TJ6 k).2.2.1 = some (tyJ6 k) := by decide +kernel
abbrev cJ6_bitCount_0f7a4 : ByteArray := prog_16_method_49_code
def yJ6_bitCount_0f7a4 : MethodName := ⟨RJ6, "bitCount", "(I)I"⟩
def RJ9 : String := "java/lang/Math"
def TJ9 : u_T := fun k => match k with
  | _ => ("", "", "", false)
def tyJ9 : Nat → FieldType := fun k => match k with
  | _ => .int
abbrev wsJ90 : List Cond := u_ws RJ9 TJ9 0
theorem nmJ9 : ∀ a, a < 0 → ∀ b, b < 0 → a ≠ b → (TJ9 a).2.1 ≠ (TJ9 b).2.1 := by decide +kernel
theorem tyJ9_ok : ∀ k, k < 0 → parseFieldDescriptor (TJ9 k).2.2.1 = some (tyJ9 k) := by decide +kernel
abbrev cJ9_max_7cf53 : ByteArray := prog_17_method_65_code
def yJ9_max_7cf53 : MethodName := ⟨RJ9, "max", "(II)I"⟩
def RJ0 : String := "java/lang/String"
def TJ0 : u_T := fun k => match k with
  | _ => ("", "", "", false)
def tyJ0 : Nat → FieldType := fun k => match k with
  | _ => .int
abbrev wsJ00 : List Cond := u_ws RJ0 TJ0 0
theorem nmJ0 : ∀ a, a < 0 → ∀ b, b < 0 → a ≠ b → (TJ0 a).2.1 ≠ (TJ0 b).2.1 := by decide +kernel
theorem tyJ0_ok : ∀ k, k < 0 → parseFieldDescriptor (TJ0 k).2.2.1 = some (tyJ0 k) := by decide +kernel
def RL : String := "LeadlightHallLaw"
abbrev cL_cell : ByteArray := method_2_code
def yL_cell : MethodName := ⟨RL, "cell", "([II)I"⟩
abbrev cL_open : ByteArray := method_3_code
def yL_open : MethodName := ⟨RL, "open", "(LLeadlightHall;IIIIZ)I"⟩
abbrev cL_lay : ByteArray := method_4_code
def yL_lay : MethodName := ⟨RL, "lay", "(LLeadlightHall;IIIII)I"⟩
abbrev cL_pieceAt : ByteArray := method_5_code
def yL_pieceAt : MethodName := ⟨RL, "pieceAt", "(LLeadlightHall;II)I"⟩
abbrev cL_size : ByteArray := method_6_code
def yL_size : MethodName := ⟨RL, "size", "(LLeadlightHall;I)I"⟩
abbrev cL_corners : ByteArray := method_7_code
def yL_corners : MethodName := ⟨RL, "corners", "(LLeadlightHall;I)I"⟩
abbrev cL_point : ByteArray := method_8_code
def yL_point : MethodName := ⟨RL, "point", "(LLeadlightHall;I)I"⟩
abbrev cL_hinders : ByteArray := method_9_code
def yL_hinders : MethodName := ⟨RL, "hinders", "(LLeadlightHall;I)I"⟩
abbrev cL_split : ByteArray := method_10_code
def yL_split : MethodName := ⟨RL, "split", "(LLeadlightHall;I)I"⟩
abbrev cL_in : ByteArray := method_11_code
def yL_in : MethodName := ⟨RL, "in", "([III)I"⟩
abbrev cL_at : ByteArray := method_12_code
def yL_at : MethodName := ⟨RL, "at", "([[III)I"⟩
abbrev cL_law : ByteArray := code
def yL_law : MethodName := ⟨RL, "law", "([I)Z"⟩
abbrev vwCl : List vw_C := [(RX0, TX0, 3), (RX1, TX1, 2), (RX2, TX2, 7), (RX3, TX3, 2), (RX4, TX4, 5), (RX5, TX5, 1), (RX6, TX6, 1), (RX7, TX7, 16)]
def dl_X0_init_0 : List (Nat × Instr × Nat) := [(0, .aload_n 0, 1), (1, .invokespecial 3, 3), (4, .aload_n 0, 1), (5, .iconst 0, 1), (6, .putfield 9, 3), (9, .aload_n 0, 1), (10, .iconst 1, 1), (11, .putfield 15, 3), (14, .aload_n 0, 1), (15, .iconst 0, 1), (16, .putfield 18, 3), (19, .return_, 1)]
set_option maxRecDepth 20000 in
theorem dk_X0_init_0 : dl_X0_init_0.all (fun q => decide (decode cX0_init q.1 = .ok (q.2.1, q.2.2))) = true := dq_all 0 (by decide +kernel)
def dl_X1_init_0 : List (Nat × Instr × Nat) := [(0, .aload_n 0, 1), (1, .invokespecial 1, 3), (4, .aload_n 0, 1), (5, .iconst 4, 1), (6, .newarray .int, 2), (8, .putfield 9, 3), (11, .aload_n 0, 1), (12, .iconst 4, 1), (13, .newarray .int, 2), (15, .putfield 13, 3), (18, .return_, 1)]
set_option maxRecDepth 20000 in
theorem dk_X1_init_0 : dl_X1_init_0.all (fun q => decide (decode cX1_init q.1 = .ok (q.2.1, q.2.2))) = true := dq_all 0 (by decide +kernel)
def dl_X1_rawLayers_0 : List (Nat × Instr × Nat) := [(0, .iconst 0, 1), (1, .istore_n 1, 1), (2, .iconst 0, 1), (3, .istore_n 2, 1), (4, .iload_n 2, 1), (5, .iconst 4, 1), (6, .if_icmp .ge 18, 3), (9, .iload_n 1, 1), (10, .aload_n 0, 1), (11, .getfield 9, 3), (14, .iload_n 2, 1), (15, .iaload, 1), (16, .iadd, 1), (17, .istore_n 1, 1), (18, .iinc 2 1, 3), (21, .goto (-17), 3), (24, .iload_n 1, 1), (25, .ireturn, 1)]
set_option maxRecDepth 20000 in
theorem dk_X1_rawLayers_0 : dl_X1_rawLayers_0.all (fun q => decide (decode cX1_rawLayers q.1 = .ok (q.2.1, q.2.2))) = true := dq_all 0 (by decide +kernel)
def dl_X2_init_0 : List (Nat × Instr × Nat) := [(0, .aload_n 0, 1), (1, .invokespecial 3, 3), (4, .aload_n 0, 1), (5, .iconst 0, 1), (6, .putfield 9, 3), (9, .aload_n 0, 1), (10, .bipush 45, 2), (12, .putfield 15, 3), (15, .aload_n 0, 1), (16, .bipush 45, 2), (18, .putfield 19, 3), (21, .aload_n 0, 1), (22, .iconst 0, 1), (23, .putfield 22, 3), (26, .aload_n 0, 1), (27, .iconst 0, 1), (28, .putfield 25, 3), (31, .aload_n 0, 1), (32, .new 28, 3), (35, .dup, 1), (36, .invokespecial 30, 3), (39, .putfield 31, 3), (42, .aload_n 0, 1), (43, .new 35, 3), (46, .dup, 1), (47, .invokespecial 37, 3), (50, .putfield 38, 3), (53, .return_, 1)]
set_option maxRecDepth 20000 in
theorem dk_X2_init_0 : dl_X2_init_0.all (fun q => decide (decode cX2_init q.1 = .ok (q.2.1, q.2.2))) = true := dq_all 0 (by decide +kernel)
def dl_X2_hasGlass_0 : List (Nat × Instr × Nat) := [(0, .aload_n 0, 1), (1, .getfield 19, 3), (4, .bipush 45, 2), (6, .if_icmp .eq 7, 3), (9, .iconst 1, 1), (10, .goto 4, 3), (13, .iconst 0, 1), (14, .ireturn, 1)]
set_option maxRecDepth 20000 in
theorem dk_X2_hasGlass_0 : dl_X2_hasGlass_0.all (fun q => decide (decode cX2_hasGlass q.1 = .ok (q.2.1, q.2.2))) = true := dq_all 0 (by decide +kernel)
def dl_X2_wantLike_0 : List (Nat × Instr × Nat) := [(0, .aload_n 0, 1), (1, .aload_n 1, 1), (2, .getfield 9, 3), (5, .putfield 9, 3), (8, .aload_n 0, 1), (9, .aload_n 1, 1), (10, .getfield 15, 3), (13, .putfield 15, 3), (16, .return_, 1)]
set_option maxRecDepth 20000 in
theorem dk_X2_wantLike_0 : dl_X2_wantLike_0.all (fun q => decide (decode cX2_wantLike q.1 = .ok (q.2.1, q.2.2))) = true := dq_all 0 (by decide +kernel)
def dl_X3_init_0 : List (Nat × Instr × Nat) := [(0, .aload_n 0, 1), (1, .invokespecial 3, 3), (4, .aload_n 0, 1), (5, .bipush 12, 2), (7, .newarray .int, 2), (9, .putfield 9, 3), (12, .aload_n 0, 1), (13, .bipush 12, 2), (15, .newarray .int, 2), (17, .putfield 15, 3), (20, .return_, 1)]
set_option maxRecDepth 20000 in
theorem dk_X3_init_0 : dl_X3_init_0.all (fun q => decide (decode cX3_init q.1 = .ok (q.2.1, q.2.2))) = true := dq_all 0 (by decide +kernel)
def dl_X3_clear_0 : List (Nat × Instr × Nat) := [(0, .iconst 0, 1), (1, .istore_n 1, 1), (2, .iload_n 1, 1), (3, .bipush 12, 2), (5, .if_icmp .ge 16, 3), (8, .aload_n 0, 1), (9, .getfield 9, 3), (12, .iload_n 1, 1), (13, .iconst 0, 1), (14, .iastore, 1), (15, .iinc 1 1, 3), (18, .goto (-16), 3), (21, .return_, 1)]
set_option maxRecDepth 20000 in
theorem dk_X3_clear_0 : dl_X3_clear_0.all (fun q => decide (decode cX3_clear q.1 = .ok (q.2.1, q.2.2))) = true := dq_all 0 (by decide +kernel)
def dl_X3_add_0 : List (Nat × Instr × Nat) := [(0, .iload_n 1, 1), (1, .iload_n 2, 1), (2, .invokestatic 18, 3), (5, .ifCond .eq 15, 3), (8, .aload_n 0, 1), (9, .getfield 9, 3), (12, .iload_n 2, 1), (13, .dup2, 1), (14, .iaload, 1), (15, .iconst 1, 1), (16, .iload_n 1, 1), (17, .ishl, 1), (18, .ior, 1), (19, .iastore, 1), (20, .return_, 1)]
set_option maxRecDepth 20000 in
theorem dk_X3_add_0 : dl_X3_add_0.all (fun q => decide (decode cX3_add q.1 = .ok (q.2.1, q.2.2))) = true := dq_all 0 (by decide +kernel)
def dl_X3_has_0 : List (Nat × Instr × Nat) := [(0, .iload_n 1, 1), (1, .iload_n 2, 1), (2, .invokestatic 18, 3), (5, .ifCond .eq 21, 3), (8, .aload_n 0, 1), (9, .getfield 9, 3), (12, .iload_n 2, 1), (13, .iaload, 1), (14, .iload_n 1, 1), (15, .ishr, 1), (16, .iconst 1, 1), (17, .iand, 1), (18, .iconst 1, 1), (19, .if_icmp .ne 7, 3), (22, .iconst 1, 1), (23, .goto 4, 3), (26, .iconst 0, 1), (27, .ireturn, 1)]
set_option maxRecDepth 20000 in
theorem dk_X3_has_0 : dl_X3_has_0.all (fun q => decide (decode cX3_has q.1 = .ok (q.2.1, q.2.2))) = true := dq_all 0 (by decide +kernel)
def dl_X3_row_0 : List (Nat × Instr × Nat) := [(0, .iload_n 1, 1), (1, .ifCond .lt 18, 3), (4, .iload_n 1, 1), (5, .bipush 12, 2), (7, .if_icmp .ge 12, 3), (10, .aload_n 0, 1), (11, .getfield 9, 3), (14, .iload_n 1, 1), (15, .iaload, 1), (16, .goto 4, 3), (19, .iconst 0, 1), (20, .ireturn, 1)]
set_option maxRecDepth 20000 in
theorem dk_X3_row_0 : dl_X3_row_0.all (fun q => decide (decode cX3_row q.1 = .ok (q.2.1, q.2.2))) = true := dq_all 0 (by decide +kernel)
def dl_X3_cellCount_0 : List (Nat × Instr × Nat) := [(0, .iconst 0, 1), (1, .istore_n 1, 1), (2, .iconst 0, 1), (3, .istore_n 2, 1), (4, .iload_n 2, 1), (5, .bipush 12, 2), (7, .if_icmp .ge 21, 3), (10, .iload_n 1, 1), (11, .aload_n 0, 1), (12, .getfield 9, 3), (15, .iload_n 2, 1), (16, .iaload, 1), (17, .invokestatic 22, 3), (20, .iadd, 1), (21, .istore_n 1, 1), (22, .iinc 2 1, 3), (25, .goto (-21), 3), (28, .iload_n 1, 1), (29, .ireturn, 1)]
set_option maxRecDepth 20000 in
theorem dk_X3_cellCount_0 : dl_X3_cellCount_0.all (fun q => decide (decode cX3_cellCount q.1 = .ok (q.2.1, q.2.2))) = true := dq_all 0 (by decide +kernel)
def dl_X3_hindrance_0 : List (Nat × Instr × Nat) := [(0, .aload_n 0, 1), (1, .invokevirtual 28, 3), (4, .ifCond .ne 6, 3), (7, .bipush 101, 2), (9, .ireturn, 1), (10, .aload_n 0, 1), (11, .invokevirtual 32, 3), (14, .ifCond .ne 6, 3), (17, .bipush 119, 2), (19, .ireturn, 1), (20, .aload_n 0, 1), (21, .invokevirtual 36, 3), (24, .iconst 2, 1), (25, .if_icmp .le 6, 3), (28, .bipush 99, 2), (30, .ireturn, 1), (31, .aload_n 0, 1), (32, .invokevirtual 39, 3), (35, .iconst 4, 1), (36, .if_icmp .le 8, 3), (39, .bipush 112, 2), (41, .goto 5, 3), (44, .bipush 45, 2), (46, .ireturn, 1)]
set_option maxRecDepth 20000 in
theorem dk_X3_hindrance_0 : dl_X3_hindrance_0.all (fun q => decide (decode cX3_hindrance q.1 = .ok (q.2.1, q.2.2))) = true := dq_all 0 (by decide +kernel)
def dl_X3_isWhole_0 : List (Nat × Instr × Nat) := [(0, .iconst 0, 1), (1, .istore_n 1, 1), (2, .iconst 0, 1), (3, .istore_n 2, 1), (4, .iload_n 2, 1), (5, .bipush 12, 2), (7, .if_icmp .ge 56, 3), (10, .aload_n 0, 1), (11, .getfield 15, 3), (14, .iload_n 2, 1), (15, .iload_n 1, 1), (16, .ifCond .eq 7, 3), (19, .iconst 0, 1), (20, .goto 17, 3), (23, .aload_n 0, 1), (24, .getfield 9, 3), (27, .iload_n 2, 1), (28, .iaload, 1), (29, .aload_n 0, 1), (30, .getfield 9, 3), (33, .iload_n 2, 1), (34, .iaload, 1), (35, .ineg, 1), (36, .iand, 1), (37, .iastore, 1), (38, .iload_n 1, 1), (39, .ifCond .ne 12, 3), (42, .aload_n 0, 1), (43, .getfield 9, 3), (46, .iload_n 2, 1), (47, .iaload, 1), (48, .ifCond .eq 7, 3), (51, .iconst 1, 1), (52, .goto 4, 3), (55, .iconst 0, 1), (56, .istore_n 1, 1), (57, .iinc 2 1, 3), (60, .goto (-56), 3), (63, .iconst 1, 1), (64, .istore_n 2, 1), (65, .iconst 0, 1), (66, .istore_n 3, 1), (67, .iload_n 3, 1), (68, .sipush 144, 3), (71, .if_icmp .ge 18, 3), (74, .iload_n 2, 1), (75, .ifCond .eq 14, 3), (78, .aload_n 0, 1), (79, .invokevirtual 42, 3), (82, .istore_n 2, 1), (83, .iinc 3 1, 3), (86, .goto (-19), 3), (89, .iconst 0, 1), (90, .istore_n 3, 1), (91, .iload_n 3, 1), (92, .bipush 12, 2), (94, .if_icmp .ge 26, 3), (97, .aload_n 0, 1), (98, .getfield 15, 3), (101, .iload_n 3, 1)]
set_option maxRecDepth 20000 in
theorem dk_X3_isWhole_0 : dl_X3_isWhole_0.all (fun q => decide (decode cX3_isWhole q.1 = .ok (q.2.1, q.2.2))) = true := dq_all 0 (by decide +kernel)
def dl_X3_isWhole_1 : List (Nat × Instr × Nat) := [(102, .iaload, 1), (103, .aload_n 0, 1), (104, .getfield 9, 3), (107, .iload_n 3, 1), (108, .iaload, 1), (109, .if_icmp .eq 5, 3), (112, .iconst 0, 1), (113, .ireturn, 1), (114, .iinc 3 1, 3), (117, .goto (-26), 3), (120, .iconst 1, 1), (121, .ireturn, 1)]
set_option maxRecDepth 20000 in
theorem dk_X3_isWhole_1 : dl_X3_isWhole_1.all (fun q => decide (decode cX3_isWhole q.1 = .ok (q.2.1, q.2.2))) = true := dq_all 102 (by decide +kernel)
def dl_X3_grow_0 : List (Nat × Instr × Nat) := [(0, .iconst 0, 1), (1, .istore_n 1, 1), (2, .iconst 0, 1), (3, .istore_n 2, 1), (4, .iload_n 2, 1), (5, .bipush 12, 2), (7, .if_icmp .ge 113, 3), (10, .iload_n 2, 1), (11, .ifCond .le 14, 3), (14, .aload_n 0, 1), (15, .getfield 15, 3), (18, .iload_n 2, 1), (19, .iconst 1, 1), (20, .isub, 1), (21, .iaload, 1), (22, .goto 4, 3), (25, .iconst 0, 1), (26, .istore_n 3, 1), (27, .iload_n 2, 1), (28, .bipush 11, 2), (30, .if_icmp .ge 14, 3), (33, .aload_n 0, 1), (34, .getfield 15, 3), (37, .iload_n 2, 1), (38, .iconst 1, 1), (39, .iadd, 1), (40, .iaload, 1), (41, .goto 4, 3), (44, .iconst 0, 1), (45, .istore 4, 2), (47, .aload_n 0, 1), (48, .getfield 9, 3), (51, .iload_n 2, 1), (52, .iaload, 1), (53, .aload_n 0, 1), (54, .getfield 15, 3), (57, .iload_n 2, 1), (58, .iaload, 1), (59, .aload_n 0, 1), (60, .getfield 15, 3), (63, .iload_n 2, 1), (64, .iaload, 1), (65, .iconst 1, 1), (66, .ishl, 1), (67, .ior, 1), (68, .aload_n 0, 1), (69, .getfield 15, 3), (72, .iload_n 2, 1), (73, .iaload, 1), (74, .iconst 1, 1), (75, .ishr, 1), (76, .ior, 1), (77, .iload_n 3, 1), (78, .ior, 1), (79, .iload 4, 2), (81, .ior, 1), (82, .iand, 1), (83, .istore 5, 2), (85, .iload_n 1, 1), (86, .ifCond .ne 14, 3)]
set_option maxRecDepth 20000 in
theorem dk_X3_grow_0 : dl_X3_grow_0.all (fun q => decide (decode cX3_grow q.1 = .ok (q.2.1, q.2.2))) = true := dq_all 0 (by decide +kernel)
def dl_X3_grow_1 : List (Nat × Instr × Nat) := [(89, .iload 5, 2), (91, .aload_n 0, 1), (92, .getfield 15, 3), (95, .iload_n 2, 1), (96, .iaload, 1), (97, .if_icmp .eq 7, 3), (100, .iconst 1, 1), (101, .goto 4, 3), (104, .iconst 0, 1), (105, .istore_n 1, 1), (106, .aload_n 0, 1), (107, .getfield 15, 3), (110, .iload_n 2, 1), (111, .iload 5, 2), (113, .iastore, 1), (114, .iinc 2 1, 3), (117, .goto (-113), 3), (120, .iload_n 1, 1), (121, .ireturn, 1)]
set_option maxRecDepth 20000 in
theorem dk_X3_grow_1 : dl_X3_grow_1.all (fun q => decide (decode cX3_grow q.1 = .ok (q.2.1, q.2.2))) = true := dq_all 89 (by decide +kernel)
def dl_X3_innerCorners_0 : List (Nat × Instr × Nat) := [(0, .iconst 0, 1), (1, .istore_n 1, 1), (2, .iconst 1, 1), (3, .istore_n 2, 1), (4, .iload_n 2, 1), (5, .bipush 12, 2), (7, .if_icmp .ge 71, 3), (10, .iconst 1, 1), (11, .istore_n 3, 1), (12, .iload_n 3, 1), (13, .bipush 12, 2), (15, .if_icmp .ge 57, 3), (18, .aload_n 0, 1), (19, .getfield 9, 3), (22, .iload_n 2, 1), (23, .iconst 1, 1), (24, .isub, 1), (25, .iaload, 1), (26, .iload_n 3, 1), (27, .iconst 1, 1), (28, .isub, 1), (29, .ishr, 1), (30, .iconst 3, 1), (31, .iand, 1), (32, .aload_n 0, 1), (33, .getfield 9, 3), (36, .iload_n 2, 1), (37, .iaload, 1), (38, .iload_n 3, 1), (39, .iconst 1, 1), (40, .isub, 1), (41, .ishr, 1), (42, .iconst 3, 1), (43, .iand, 1), (44, .iconst 2, 1), (45, .ishl, 1), (46, .ior, 1), (47, .istore 4, 2), (49, .iload_n 1, 1), (50, .iload 4, 2), (52, .invokestatic 22, 3), (55, .iconst 3, 1), (56, .if_icmp .ne 7, 3), (59, .iconst 1, 1), (60, .goto 4, 3), (63, .iconst 0, 1), (64, .iadd, 1), (65, .istore_n 1, 1), (66, .iinc 3 1, 3), (69, .goto (-57), 3), (72, .iinc 2 1, 3), (75, .goto (-71), 3), (78, .iload_n 1, 1), (79, .ireturn, 1)]
set_option maxRecDepth 20000 in
theorem dk_X3_innerCorners_0 : dl_X3_innerCorners_0.all (fun q => decide (decode cX3_innerCorners q.1 = .ok (q.2.1, q.2.2))) = true := dq_all 0 (by decide +kernel)
def dl_X3_longestNarrow_0 : List (Nat × Instr × Nat) := [(0, .iconst 0, 1), (1, .istore_n 1, 1), (2, .iconst 0, 1), (3, .istore_n 2, 1), (4, .iload_n 2, 1), (5, .bipush 12, 2), (7, .if_icmp .ge 35, 3), (10, .iload_n 1, 1), (11, .aload_n 0, 1), (12, .iload_n 2, 1), (13, .invokevirtual 45, 3), (16, .invokestatic 48, 3), (19, .invokestatic 51, 3), (22, .istore_n 1, 1), (23, .iload_n 1, 1), (24, .aload_n 0, 1), (25, .iload_n 2, 1), (26, .invokevirtual 57, 3), (29, .invokestatic 48, 3), (32, .invokestatic 51, 3), (35, .istore_n 1, 1), (36, .iinc 2 1, 3), (39, .goto (-35), 3), (42, .iload_n 1, 1), (43, .ireturn, 1)]
set_option maxRecDepth 20000 in
theorem dk_X3_longestNarrow_0 : dl_X3_longestNarrow_0.all (fun q => decide (decode cX3_longestNarrow q.1 = .ok (q.2.1, q.2.2))) = true := dq_all 0 (by decide +kernel)
def dl_X3_narrowInRow_0 : List (Nat × Instr × Nat) := [(0, .aload_n 0, 1), (1, .iload_n 1, 1), (2, .invokevirtual 60, 3), (5, .aload_n 0, 1), (6, .iload_n 1, 1), (7, .iconst 1, 1), (8, .isub, 1), (9, .invokevirtual 60, 3), (12, .iconst (-1), 1), (13, .ixor, 1), (14, .iand, 1), (15, .aload_n 0, 1), (16, .iload_n 1, 1), (17, .iconst 1, 1), (18, .iadd, 1), (19, .invokevirtual 60, 3), (22, .iconst (-1), 1), (23, .ixor, 1), (24, .iand, 1), (25, .ireturn, 1)]
set_option maxRecDepth 20000 in
theorem dk_X3_narrowInRow_0 : dl_X3_narrowInRow_0.all (fun q => decide (decode cX3_narrowInRow q.1 = .ok (q.2.1, q.2.2))) = true := dq_all 0 (by decide +kernel)
def dl_X3_narrowInColumn_0 : List (Nat × Instr × Nat) := [(0, .iconst 0, 1), (1, .istore_n 2, 1), (2, .iconst 0, 1), (3, .istore_n 3, 1), (4, .iload_n 3, 1), (5, .bipush 12, 2), (7, .if_icmp .ge 50, 3), (10, .iload_n 2, 1), (11, .aload_n 0, 1), (12, .iload_n 1, 1), (13, .iload_n 3, 1), (14, .invokevirtual 63, 3), (17, .ifCond .eq 31, 3), (20, .aload_n 0, 1), (21, .iload_n 1, 1), (22, .iconst 1, 1), (23, .isub, 1), (24, .iload_n 3, 1), (25, .invokevirtual 63, 3), (28, .ifCond .ne 20, 3), (31, .aload_n 0, 1), (32, .iload_n 1, 1), (33, .iconst 1, 1), (34, .iadd, 1), (35, .iload_n 3, 1), (36, .invokevirtual 63, 3), (39, .ifCond .ne 9, 3), (42, .iconst 1, 1), (43, .iload_n 3, 1), (44, .ishl, 1), (45, .goto 4, 3), (48, .iconst 0, 1), (49, .ior, 1), (50, .istore_n 2, 1), (51, .iinc 3 1, 3), (54, .goto (-50), 3), (57, .iload_n 2, 1), (58, .ireturn, 1)]
set_option maxRecDepth 20000 in
theorem dk_X3_narrowInColumn_0 : dl_X3_narrowInColumn_0.all (fun q => decide (decode cX3_narrowInColumn q.1 = .ok (q.2.1, q.2.2))) = true := dq_all 0 (by decide +kernel)
def dl_X3_longestRun_0 : List (Nat × Instr × Nat) := [(0, .iconst 0, 1), (1, .istore_n 1, 1), (2, .iconst 0, 1), (3, .istore_n 2, 1), (4, .iconst 0, 1), (5, .istore_n 3, 1), (6, .iload_n 3, 1), (7, .bipush 12, 2), (9, .if_icmp .ge 32, 3), (12, .iload_n 0, 1), (13, .iload_n 3, 1), (14, .ishr, 1), (15, .iconst 1, 1), (16, .iand, 1), (17, .iconst 1, 1), (18, .if_icmp .ne 9, 3), (21, .iload_n 2, 1), (22, .iconst 1, 1), (23, .iadd, 1), (24, .goto 4, 3), (27, .iconst 0, 1), (28, .istore_n 2, 1), (29, .iload_n 1, 1), (30, .iload_n 2, 1), (31, .invokestatic 51, 3), (34, .istore_n 1, 1), (35, .iinc 3 1, 3), (38, .goto (-32), 3), (41, .iload_n 1, 1), (42, .ireturn, 1)]
set_option maxRecDepth 20000 in
theorem dk_X3_longestRun_0 : dl_X3_longestRun_0.all (fun q => decide (decode cX3_longestRun q.1 = .ok (q.2.1, q.2.2))) = true := dq_all 0 (by decide +kernel)
def dl_X3_bestLead_0 : List (Nat × Instr × Nat) := [(0, .iconst (-1), 1), (1, .istore_n 3, 1), (2, .bipush 13, 2), (4, .istore 4, 2), (6, .iconst 1, 1), (7, .istore 5, 2), (9, .iload 5, 2), (11, .bipush 24, 2), (13, .if_icmp .ge 57, 3), (16, .aload_n 0, 1), (17, .iload 5, 2), (19, .aload_n 1, 1), (20, .aload_n 2, 1), (21, .invokevirtual 66, 3), (24, .aload_n 1, 1), (25, .invokevirtual 70, 3), (28, .bipush 45, 2), (30, .if_icmp .ne 34, 3), (33, .aload_n 2, 1), (34, .invokevirtual 70, 3), (37, .bipush 45, 2), (39, .if_icmp .ne 25, 3), (42, .aload_n 0, 1), (43, .iload 5, 2), (45, .invokevirtual 74, 3), (48, .iload 4, 2), (50, .if_icmp .ge 14, 3), (53, .iload 5, 2), (55, .istore_n 3, 1), (56, .aload_n 0, 1), (57, .iload 5, 2), (59, .invokevirtual 74, 3), (62, .istore 4, 2), (64, .iinc 5 1, 3), (67, .goto (-58), 3), (70, .iload_n 3, 1), (71, .ireturn, 1)]
set_option maxRecDepth 20000 in
theorem dk_X3_bestLead_0 : dl_X3_bestLead_0.all (fun q => decide (decode cX3_bestLead q.1 = .ok (q.2.1, q.2.2))) = true := dq_all 0 (by decide +kernel)
def dl_X3_partBy_0 : List (Nat × Instr × Nat) := [(0, .iconst 0, 1), (1, .istore 4, 2), (3, .iload 4, 2), (5, .bipush 12, 2), (7, .if_icmp .ge 81, 3), (10, .iload_n 1, 1), (11, .bipush 12, 2), (13, .if_icmp .ge 19, 3), (16, .aload_n 0, 1), (17, .getfield 9, 3), (20, .iload 4, 2), (22, .iaload, 1), (23, .iconst 1, 1), (24, .iload_n 1, 1), (25, .ishl, 1), (26, .iconst 1, 1), (27, .isub, 1), (28, .iand, 1), (29, .goto 23, 3), (32, .iload 4, 2), (34, .iload_n 1, 1), (35, .bipush 12, 2), (37, .isub, 1), (38, .if_icmp .ge 13, 3), (41, .aload_n 0, 1), (42, .getfield 9, 3), (45, .iload 4, 2), (47, .iaload, 1), (48, .goto 4, 3), (51, .iconst 0, 1), (52, .istore 5, 2), (54, .aload_n 2, 1), (55, .getfield 9, 3), (58, .iload 4, 2), (60, .iload 5, 2), (62, .iastore, 1), (63, .aload_n 3, 1), (64, .getfield 9, 3), (67, .iload 4, 2), (69, .aload_n 0, 1), (70, .getfield 9, 3), (73, .iload 4, 2), (75, .iaload, 1), (76, .iload 5, 2), (78, .iconst (-1), 1), (79, .ixor, 1), (80, .iand, 1), (81, .iastore, 1), (82, .iinc 4 1, 3), (85, .goto (-82), 3), (88, .return_, 1)]
set_option maxRecDepth 20000 in
theorem dk_X3_partBy_0 : dl_X3_partBy_0.all (fun q => decide (decode cX3_partBy q.1 = .ok (q.2.1, q.2.2))) = true := dq_all 0 (by decide +kernel)
def dl_X3_touchesOver_0 : List (Nat × Instr × Nat) := [(0, .iload_n 1, 1), (1, .bipush 12, 2), (3, .if_icmp .lt 26, 3), (6, .aload_n 0, 1), (7, .iload_n 1, 1), (8, .bipush 12, 2), (10, .isub, 1), (11, .iconst 1, 1), (12, .isub, 1), (13, .invokevirtual 60, 3), (16, .aload_n 0, 1), (17, .iload_n 1, 1), (18, .bipush 12, 2), (20, .isub, 1), (21, .invokevirtual 60, 3), (24, .iand, 1), (25, .invokestatic 22, 3), (28, .ireturn, 1), (29, .iconst 0, 1), (30, .istore_n 2, 1), (31, .iconst 0, 1), (32, .istore_n 3, 1), (33, .iload_n 3, 1), (34, .bipush 12, 2), (36, .if_icmp .ge 37, 3), (39, .iload_n 2, 1), (40, .aload_n 0, 1), (41, .iload_n 1, 1), (42, .iconst 1, 1), (43, .isub, 1), (44, .iload_n 3, 1), (45, .invokevirtual 63, 3), (48, .ifCond .eq 16, 3), (51, .aload_n 0, 1), (52, .iload_n 1, 1), (53, .iload_n 3, 1), (54, .invokevirtual 63, 3), (57, .ifCond .eq 7, 3), (60, .iconst 1, 1), (61, .goto 4, 3), (64, .iconst 0, 1), (65, .iadd, 1), (66, .istore_n 2, 1), (67, .iinc 3 1, 3), (70, .goto (-37), 3), (73, .iload_n 2, 1), (74, .ireturn, 1)]
set_option maxRecDepth 20000 in
theorem dk_X3_touchesOver_0 : dl_X3_touchesOver_0.all (fun q => decide (decode cX3_touchesOver q.1 = .ok (q.2.1, q.2.2))) = true := dq_all 0 (by decide +kernel)
def dl_X4_init_0 : List (Nat × Instr × Nat) := [(0, .aload_n 0, 1), (1, .invokespecial 3, 3), (4, .aload_n 0, 1), (5, .iconst 0, 1), (6, .putfield 9, 3), (9, .aload_n 0, 1), (10, .iconst 0, 1), (11, .putfield 15, 3), (14, .aload_n 0, 1), (15, .iconst 0, 1), (16, .putfield 18, 3), (19, .aload_n 0, 1), (20, .bipush 104, 2), (22, .putfield 21, 3), (25, .aload_n 0, 1), (26, .bipush 12, 2), (28, .newarray .int, 2), (30, .putfield 25, 3), (33, .return_, 1)]
set_option maxRecDepth 20000 in
theorem dk_X4_init_0 : dl_X4_init_0.all (fun q => decide (decode cX4_init q.1 = .ok (q.2.1, q.2.2))) = true := dq_all 0 (by decide +kernel)
def dl_X4_usedCells_0 : List (Nat × Instr × Nat) := [(0, .iconst 0, 1), (1, .istore_n 1, 1), (2, .iconst 0, 1), (3, .istore_n 2, 1), (4, .iload_n 2, 1), (5, .bipush 12, 2), (7, .if_icmp .ge 21, 3), (10, .iload_n 1, 1), (11, .aload_n 0, 1), (12, .getfield 25, 3), (15, .iload_n 2, 1), (16, .iaload, 1), (17, .invokestatic 29, 3), (20, .iadd, 1), (21, .istore_n 1, 1), (22, .iinc 2 1, 3), (25, .goto (-21), 3), (28, .iload_n 1, 1), (29, .ireturn, 1)]
set_option maxRecDepth 20000 in
theorem dk_X4_usedCells_0 : dl_X4_usedCells_0.all (fun q => decide (decode cX4_usedCells q.1 = .ok (q.2.1, q.2.2))) = true := dq_all 0 (by decide +kernel)
def dl_X5_init_0 : List (Nat × Instr × Nat) := [(0, .aload_n 0, 1), (1, .invokespecial 3, 3), (4, .aload_n 0, 1), (5, .sipush 144, 3), (8, .newarray .int, 2), (10, .putfield 9, 3), (13, .iconst 0, 1), (14, .istore_n 1, 1), (15, .iload_n 1, 1), (16, .sipush 144, 3), (19, .if_icmp .ge 17, 3), (22, .aload_n 0, 1), (23, .getfield 9, 3), (26, .iload_n 1, 1), (27, .bipush (-2), 2), (29, .iastore, 1), (30, .iinc 1 1, 3), (33, .goto (-18), 3), (36, .return_, 1)]
set_option maxRecDepth 20000 in
theorem dk_X5_init_0 : dl_X5_init_0.all (fun q => decide (decode cX5_init q.1 = .ok (q.2.1, q.2.2))) = true := dq_all 0 (by decide +kernel)
def dl_X5_at_0 : List (Nat × Instr × Nat) := [(0, .iload_n 1, 1), (1, .iload_n 2, 1), (2, .invokestatic 15, 3), (5, .ifCond .eq 17, 3), (8, .aload_n 0, 1), (9, .getfield 9, 3), (12, .iload_n 2, 1), (13, .bipush 12, 2), (15, .imul, 1), (16, .iload_n 1, 1), (17, .iadd, 1), (18, .iaload, 1), (19, .goto 5, 3), (22, .bipush (-2), 2), (24, .ireturn, 1)]
set_option maxRecDepth 20000 in
theorem dk_X5_at_0 : dl_X5_at_0.all (fun q => decide (decode cX5_at q.1 = .ok (q.2.1, q.2.2))) = true := dq_all 0 (by decide +kernel)
def dl_X5_put_0 : List (Nat × Instr × Nat) := [(0, .iload_n 1, 1), (1, .iload_n 2, 1), (2, .invokestatic 15, 3), (5, .ifCond .eq 15, 3), (8, .aload_n 0, 1), (9, .getfield 9, 3), (12, .iload_n 2, 1), (13, .bipush 12, 2), (15, .imul, 1), (16, .iload_n 1, 1), (17, .iadd, 1), (18, .iload_n 3, 1), (19, .iastore, 1), (20, .return_, 1)]
set_option maxRecDepth 20000 in
theorem dk_X5_put_0 : dl_X5_put_0.all (fun q => decide (decode cX5_put q.1 = .ok (q.2.1, q.2.2))) = true := dq_all 0 (by decide +kernel)
def dl_X5_putShape_0 : List (Nat × Instr × Nat) := [(0, .iconst 0, 1), (1, .istore_n 3, 1), (2, .iload_n 3, 1), (3, .bipush 12, 2), (5, .if_icmp .ge 43, 3), (8, .iconst 0, 1), (9, .istore 4, 2), (11, .iload 4, 2), (13, .bipush 12, 2), (15, .if_icmp .ge 27, 3), (18, .aload_n 1, 1), (19, .iload 4, 2), (21, .iload_n 3, 1), (22, .invokevirtual 19, 3), (25, .ifCond .eq 11, 3), (28, .aload_n 0, 1), (29, .iload 4, 2), (31, .iload_n 3, 1), (32, .iload_n 2, 1), (33, .invokevirtual 24, 3), (36, .iinc 4 1, 3), (39, .goto (-28), 3), (42, .iinc 3 1, 3), (45, .goto (-43), 3), (48, .return_, 1)]
set_option maxRecDepth 20000 in
theorem dk_X5_putShape_0 : dl_X5_putShape_0.all (fun q => decide (decode cX5_putShape q.1 = .ok (q.2.1, q.2.2))) = true := dq_all 0 (by decide +kernel)
def dl_X5_cellsOf_0 : List (Nat × Instr × Nat) := [(0, .iconst 0, 1), (1, .istore_n 2, 1), (2, .iconst 0, 1), (3, .istore_n 3, 1), (4, .iload_n 3, 1), (5, .sipush 144, 3), (8, .if_icmp .ge 27, 3), (11, .iload_n 2, 1), (12, .aload_n 0, 1), (13, .getfield 9, 3), (16, .iload_n 3, 1), (17, .iaload, 1), (18, .iload_n 1, 1), (19, .if_icmp .ne 7, 3), (22, .iconst 1, 1), (23, .goto 4, 3), (26, .iconst 0, 1), (27, .iadd, 1), (28, .istore_n 2, 1), (29, .iinc 3 1, 3), (32, .goto (-28), 3), (35, .iload_n 2, 1), (36, .ireturn, 1)]
set_option maxRecDepth 20000 in
theorem dk_X5_cellsOf_0 : dl_X5_cellsOf_0.all (fun q => decide (decode cX5_cellsOf q.1 = .ok (q.2.1, q.2.2))) = true := dq_all 0 (by decide +kernel)
def dl_X5_piecesWithCells_0 : List (Nat × Instr × Nat) := [(0, .iconst 0, 1), (1, .istore_n 1, 1), (2, .iconst 0, 1), (3, .istore_n 2, 1), (4, .iload_n 2, 1), (5, .sipush 144, 3), (8, .if_icmp .ge 33, 3), (11, .iload_n 1, 1), (12, .aload_n 0, 1), (13, .getfield 9, 3), (16, .iload_n 2, 1), (17, .iaload, 1), (18, .ifCond .lt 14, 3), (21, .iconst 1, 1), (22, .aload_n 0, 1), (23, .getfield 9, 3), (26, .iload_n 2, 1), (27, .iaload, 1), (28, .ishl, 1), (29, .goto 4, 3), (32, .iconst 0, 1), (33, .ior, 1), (34, .istore_n 1, 1), (35, .iinc 2 1, 3), (38, .goto (-34), 3), (41, .iload_n 1, 1), (42, .ireturn, 1)]
set_option maxRecDepth 20000 in
theorem dk_X5_piecesWithCells_0 : dl_X5_piecesWithCells_0.all (fun q => decide (decode cX5_piecesWithCells q.1 = .ok (q.2.1, q.2.2))) = true := dq_all 0 (by decide +kernel)
def dl_X5_shapeInto_0 : List (Nat × Instr × Nat) := [(0, .aload_n 2, 1), (1, .invokevirtual 28, 3), (4, .iconst 0, 1), (5, .istore_n 3, 1), (6, .iload_n 3, 1), (7, .bipush 12, 2), (9, .if_icmp .ge 43, 3), (12, .iconst 0, 1), (13, .istore 4, 2), (15, .iload 4, 2), (17, .bipush 12, 2), (19, .if_icmp .ge 27, 3), (22, .aload_n 0, 1), (23, .iload 4, 2), (25, .iload_n 3, 1), (26, .invokevirtual 31, 3), (29, .iload_n 1, 1), (30, .if_icmp .ne 10, 3), (33, .aload_n 2, 1), (34, .iload 4, 2), (36, .iload_n 3, 1), (37, .invokevirtual 35, 3), (40, .iinc 4 1, 3), (43, .goto (-28), 3), (46, .iinc 3 1, 3), (49, .goto (-43), 3), (52, .return_, 1)]
set_option maxRecDepth 20000 in
theorem dk_X5_shapeInto_0 : dl_X5_shapeInto_0.all (fun q => decide (decode cX5_shapeInto q.1 = .ok (q.2.1, q.2.2))) = true := dq_all 0 (by decide +kernel)
def dl_X5_leadedSides_0 : List (Nat × Instr × Nat) := [(0, .iconst 0, 1), (1, .istore_n 1, 1), (2, .iconst 0, 1), (3, .istore_n 2, 1), (4, .iload_n 2, 1), (5, .bipush 12, 2), (7, .if_icmp .gt 63, 3), (10, .iconst 0, 1), (11, .istore_n 3, 1), (12, .iload_n 3, 1), (13, .bipush 12, 2), (15, .if_icmp .gt 49, 3), (18, .iload_n 1, 1), (19, .aload_n 0, 1), (20, .iload_n 3, 1), (21, .iconst 1, 1), (22, .isub, 1), (23, .iload_n 2, 1), (24, .invokevirtual 31, 3), (27, .aload_n 0, 1), (28, .iload_n 3, 1), (29, .iload_n 2, 1), (30, .invokevirtual 31, 3), (33, .invokestatic 39, 3), (36, .iadd, 1), (37, .istore_n 1, 1), (38, .iload_n 1, 1), (39, .aload_n 0, 1), (40, .iload_n 3, 1), (41, .iload_n 2, 1), (42, .iconst 1, 1), (43, .isub, 1), (44, .invokevirtual 31, 3), (47, .aload_n 0, 1), (48, .iload_n 3, 1), (49, .iload_n 2, 1), (50, .invokevirtual 31, 3), (53, .invokestatic 39, 3), (56, .iadd, 1), (57, .istore_n 1, 1), (58, .iinc 3 1, 3), (61, .goto (-49), 3), (64, .iinc 2 1, 3), (67, .goto (-63), 3), (70, .iload_n 1, 1), (71, .ireturn, 1)]
set_option maxRecDepth 20000 in
theorem dk_X5_leadedSides_0 : dl_X5_leadedSides_0.all (fun q => decide (decode cX5_leadedSides q.1 = .ok (q.2.1, q.2.2))) = true := dq_all 0 (by decide +kernel)
def dl_X5_meetingPoints_0 : List (Nat × Instr × Nat) := [(0, .iconst 0, 1), (1, .istore_n 1, 1), (2, .iconst 0, 1), (3, .istore_n 2, 1), (4, .iload_n 2, 1), (5, .bipush 12, 2), (7, .if_icmp .gt 118, 3), (10, .iconst 0, 1), (11, .istore_n 3, 1), (12, .iload_n 3, 1), (13, .bipush 12, 2), (15, .if_icmp .gt 104, 3), (18, .aload_n 0, 1), (19, .iload_n 3, 1), (20, .iconst 1, 1), (21, .isub, 1), (22, .iload_n 2, 1), (23, .iconst 1, 1), (24, .isub, 1), (25, .invokevirtual 31, 3), (28, .aload_n 0, 1), (29, .iload_n 3, 1), (30, .iload_n 2, 1), (31, .iconst 1, 1), (32, .isub, 1), (33, .invokevirtual 31, 3), (36, .invokestatic 39, 3), (39, .aload_n 0, 1), (40, .iload_n 3, 1), (41, .iconst 1, 1), (42, .isub, 1), (43, .iload_n 2, 1), (44, .invokevirtual 31, 3), (47, .aload_n 0, 1), (48, .iload_n 3, 1), (49, .iload_n 2, 1), (50, .invokevirtual 31, 3), (53, .invokestatic 39, 3), (56, .iadd, 1), (57, .aload_n 0, 1), (58, .iload_n 3, 1), (59, .iconst 1, 1), (60, .isub, 1), (61, .iload_n 2, 1), (62, .iconst 1, 1), (63, .isub, 1), (64, .invokevirtual 31, 3), (67, .aload_n 0, 1), (68, .iload_n 3, 1), (69, .iconst 1, 1), (70, .isub, 1), (71, .iload_n 2, 1), (72, .invokevirtual 31, 3), (75, .invokestatic 39, 3), (78, .iadd, 1), (79, .aload_n 0, 1), (80, .iload_n 3, 1), (81, .iload_n 2, 1), (82, .iconst 1, 1), (83, .isub, 1)]
set_option maxRecDepth 20000 in
theorem dk_X5_meetingPoints_0 : dl_X5_meetingPoints_0.all (fun q => decide (decode cX5_meetingPoints q.1 = .ok (q.2.1, q.2.2))) = true := dq_all 0 (by decide +kernel)
def dl_X5_meetingPoints_1 : List (Nat × Instr × Nat) := [(84, .invokevirtual 31, 3), (87, .aload_n 0, 1), (88, .iload_n 3, 1), (89, .iload_n 2, 1), (90, .invokevirtual 31, 3), (93, .invokestatic 39, 3), (96, .iadd, 1), (97, .istore 4, 2), (99, .iload_n 1, 1), (100, .iload 4, 2), (102, .iconst 3, 1), (103, .if_icmp .lt 7, 3), (106, .iconst 1, 1), (107, .goto 4, 3), (110, .iconst 0, 1), (111, .iadd, 1), (112, .istore_n 1, 1), (113, .iinc 3 1, 3), (116, .goto (-104), 3), (119, .iinc 2 1, 3), (122, .goto (-118), 3), (125, .iload_n 1, 1), (126, .ireturn, 1)]
set_option maxRecDepth 20000 in
theorem dk_X5_meetingPoints_1 : dl_X5_meetingPoints_1.all (fun q => decide (decode cX5_meetingPoints q.1 = .ok (q.2.1, q.2.2))) = true := dq_all 84 (by decide +kernel)
def dl_X5_waitsInto_0 : List (Nat × Instr × Nat) := [(0, .iconst 0, 1), (1, .istore_n 2, 1), (2, .iload_n 2, 1), (3, .aload_n 1, 1), (4, .arraylength, 1), (5, .if_icmp .ge 13, 3), (8, .aload_n 1, 1), (9, .iload_n 2, 1), (10, .iconst 0, 1), (11, .iastore, 1), (12, .iinc 2 1, 3), (15, .goto (-13), 3), (18, .iconst 0, 1), (19, .istore_n 2, 1), (20, .iload_n 2, 1), (21, .bipush 12, 2), (23, .if_icmp .ge 77, 3), (26, .iconst 0, 1), (27, .istore_n 3, 1), (28, .iload_n 3, 1), (29, .bipush 12, 2), (31, .if_icmp .ge 63, 3), (34, .aload_n 0, 1), (35, .iload_n 3, 1), (36, .iload_n 2, 1), (37, .invokevirtual 31, 3), (40, .istore 4, 2), (42, .iload 4, 2), (44, .ifCond .lt 44, 3), (47, .iload 4, 2), (49, .aload_n 1, 1), (50, .arraylength, 1), (51, .if_icmp .ge 37, 3), (54, .aload_n 1, 1), (55, .iload 4, 2), (57, .dup2, 1), (58, .iaload, 1), (59, .aload_n 0, 1), (60, .iload_n 3, 1), (61, .iconst 1, 1), (62, .isub, 1), (63, .iload_n 2, 1), (64, .invokevirtual 31, 3), (67, .iload 4, 2), (69, .invokestatic 42, 3), (72, .aload_n 0, 1), (73, .iload_n 3, 1), (74, .iload_n 2, 1), (75, .iconst 1, 1), (76, .isub, 1), (77, .invokevirtual 31, 3), (80, .iload 4, 2), (82, .invokestatic 42, 3), (85, .ior, 1), (86, .ior, 1), (87, .iastore, 1), (88, .iinc 3 1, 3), (91, .goto (-63), 3), (94, .iinc 2 1, 3), (97, .goto (-77), 3)]
set_option maxRecDepth 20000 in
theorem dk_X5_waitsInto_0 : dl_X5_waitsInto_0.all (fun q => decide (decode cX5_waitsInto q.1 = .ok (q.2.1, q.2.2))) = true := dq_all 0 (by decide +kernel)
def dl_X5_waitsInto_1 : List (Nat × Instr × Nat) := [(100, .return_, 1)]
set_option maxRecDepth 20000 in
theorem dk_X5_waitsInto_1 : dl_X5_waitsInto_1.all (fun q => decide (decode cX5_waitsInto q.1 = .ok (q.2.1, q.2.2))) = true := dq_all 100 (by decide +kernel)
def dl_X5_bitOf_0 : List (Nat × Instr × Nat) := [(0, .iload_n 0, 1), (1, .bipush (-2), 2), (3, .if_icmp .eq 8, 3), (6, .iload_n 0, 1), (7, .iload_n 1, 1), (8, .if_icmp .ne 5, 3), (11, .iconst 0, 1), (12, .ireturn, 1), (13, .iload_n 0, 1), (14, .iconst (-1), 1), (15, .if_icmp .ne 8, 3), (18, .ldc 45, 2), (20, .goto 6, 3), (23, .iconst 1, 1), (24, .iload_n 0, 1), (25, .ishl, 1), (26, .ireturn, 1)]
set_option maxRecDepth 20000 in
theorem dk_X5_bitOf_0 : dl_X5_bitOf_0.all (fun q => decide (decode cX5_bitOf q.1 = .ok (q.2.1, q.2.2))) = true := dq_all 0 (by decide +kernel)
def dl_X5_leadBetween_0 : List (Nat × Instr × Nat) := [(0, .iload_n 0, 1), (1, .iload_n 1, 1), (2, .if_icmp .eq 15, 3), (5, .iload_n 0, 1), (6, .ifCond .ge 7, 3), (9, .iload_n 1, 1), (10, .ifCond .lt 7, 3), (13, .iconst 1, 1), (14, .goto 4, 3), (17, .iconst 0, 1), (18, .ireturn, 1)]
set_option maxRecDepth 20000 in
theorem dk_X5_leadBetween_0 : dl_X5_leadBetween_0.all (fun q => decide (decode cX5_leadBetween q.1 = .ok (q.2.1, q.2.2))) = true := dq_all 0 (by decide +kernel)
def dl_X6_init_0 : List (Nat × Instr × Nat) := [(0, .aload_n 0, 1), (1, .invokespecial 3, 3), (4, .aload_n 0, 1), (5, .bipush 32, 2), (7, .newarray .long, 2), (9, .putfield 11, 3), (12, .return_, 1)]
set_option maxRecDepth 20000 in
theorem dk_X6_init_0 : dl_X6_init_0.all (fun q => decide (decode cX6_init q.1 = .ok (q.2.1, q.2.2))) = true := dq_all 0 (by decide +kernel)
def dl_X7_init_0 : List (Nat × Instr × Nat) := [(0, .aload_n 0, 1), (1, .invokespecial 3, 3), (4, .aload_n 0, 1), (5, .new 9, 3), (8, .dup, 1), (9, .invokespecial 11, 3), (12, .putfield 12, 3), (15, .aload_n 0, 1), (16, .bipush 30, 2), (18, .anewarray 16, 3), (21, .putfield 18, 3), (24, .aload_n 0, 1), (25, .bipush 8, 2), (27, .anewarray 22, 3), (30, .putfield 24, 3), (33, .aload_n 0, 1), (34, .new 28, 3), (37, .dup, 1), (38, .invokespecial 30, 3), (41, .putfield 31, 3), (44, .aload_n 0, 1), (45, .iconst 0, 1), (46, .putfield 35, 3), (49, .aload_n 0, 1), (50, .iconst 0, 1), (51, .putfield 39, 3), (54, .aload_n 0, 1), (55, .iconst 1, 1), (56, .putfield 42, 3), (59, .aload_n 0, 1), (60, .iconst 0, 1), (61, .putfield 45, 3), (64, .aload_n 0, 1), (65, .iconst 0, 1), (66, .putfield 49, 3), (69, .aload_n 0, 1), (70, .iconst 0, 1), (71, .putfield 52, 3), (74, .aload_n 0, 1), (75, .iconst 0, 1), (76, .putfield 55, 3), (79, .aload_n 0, 1), (80, .new 58, 3), (83, .dup, 1), (84, .invokespecial 60, 3), (87, .putfield 61, 3), (90, .aload_n 0, 1), (91, .new 58, 3), (94, .dup, 1), (95, .invokespecial 60, 3), (98, .putfield 65, 3), (101, .aload_n 0, 1), (102, .new 58, 3), (105, .dup, 1), (106, .invokespecial 60, 3), (109, .putfield 68, 3), (112, .aload_n 0, 1), (113, .bipush 30, 2), (115, .newarray .int, 2), (117, .putfield 71, 3)]
set_option maxRecDepth 20000 in
theorem dk_X7_init_0 : dl_X7_init_0.all (fun q => decide (decode cX7_init q.1 = .ok (q.2.1, q.2.2))) = true := dq_all 0 (by decide +kernel)
def dl_X7_init_1 : List (Nat × Instr × Nat) := [(120, .aload_n 0, 1), (121, .new 75, 3), (124, .dup, 1), (125, .invokespecial 77, 3), (128, .putfield 78, 3), (131, .iconst 0, 1), (132, .istore_n 1, 1), (133, .iload_n 1, 1), (134, .bipush 30, 2), (136, .if_icmp .ge 22, 3), (139, .aload_n 0, 1), (140, .getfield 18, 3), (143, .iload_n 1, 1), (144, .new 16, 3), (147, .dup, 1), (148, .invokespecial 82, 3), (151, .aastore, 1), (152, .iinc 1 1, 3), (155, .goto (-22), 3), (158, .iconst 0, 1), (159, .istore_n 1, 1), (160, .iload_n 1, 1), (161, .bipush 8, 2), (163, .if_icmp .ge 22, 3), (166, .aload_n 0, 1), (167, .getfield 24, 3), (170, .iload_n 1, 1), (171, .new 22, 3), (174, .dup, 1), (175, .invokespecial 83, 3), (178, .aastore, 1), (179, .iinc 1 1, 3), (182, .goto (-22), 3), (185, .return_, 1)]
set_option maxRecDepth 20000 in
theorem dk_X7_init_1 : dl_X7_init_1.all (fun q => decide (decode cX7_init q.1 = .ok (q.2.1, q.2.2))) = true := dq_all 120 (by decide +kernel)
def dl_X7_open_0 : List (Nat × Instr × Nat) := [(0, .iload_n 1, 1), (1, .iload_n 2, 1), (2, .iload_n 3, 1), (3, .iload 4, 2), (5, .invokestatic 84, 3), (8, .aload_n 0, 1), (9, .getfield 45, 3), (12, .ifCond .ne 15, 3), (15, .aload_n 0, 1), (16, .iload_n 1, 1), (17, .iload_n 2, 1), (18, .iload_n 3, 1), (19, .iload 4, 2), (21, .invokevirtual 88, 3), (24, .ifCond .eq 13, 3), (27, .new 92, 3), (30, .dup, 1), (31, .ldc 94, 2), (33, .invokespecial 96, 3), (36, .athrow, 1), (37, .iconst 0, 1), (38, .istore 6, 2), (40, .iload_n 2, 1), (41, .istore 7, 2), (43, .iload 7, 2), (45, .iload 4, 2), (47, .if_icmp .gt 79, 3), (50, .iload_n 1, 1), (51, .istore 8, 2), (53, .iload 8, 2), (55, .iload_n 3, 1), (56, .if_icmp .gt 64, 3), (59, .aload_n 0, 1), (60, .getfield 12, 3), (63, .iload 8, 2), (65, .iload 7, 2), (67, .invokevirtual 99, 3), (70, .bipush (-2), 2), (72, .if_icmp .eq 7, 3), (75, .iconst 1, 1), (76, .goto 4, 3), (79, .iconst 0, 1), (80, .istore 9, 2), (82, .iload 9, 2), (84, .iload 5, 2), (86, .if_icmp .eq 28, 3), (89, .aload_n 0, 1), (90, .getfield 12, 3), (93, .iload 8, 2), (95, .iload 7, 2), (97, .iload 5, 2), (99, .ifCond .eq 7, 3), (102, .iconst (-1), 1), (103, .goto 5, 3), (106, .bipush (-2), 2), (108, .invokevirtual 103, 3), (111, .iinc 6 1, 3), (114, .iinc 8 1, 3), (117, .goto (-64), 3), (120, .iinc 7 1, 3)]
set_option maxRecDepth 20000 in
theorem dk_X7_open_0 : dl_X7_open_0.all (fun q => decide (decode cX7_open q.1 = .ok (q.2.1, q.2.2))) = true := dq_all 0 (by decide +kernel)
def dl_X7_open_1 : List (Nat × Instr × Nat) := [(123, .goto (-80), 3), (126, .iload 6, 2), (128, .ireturn, 1)]
set_option maxRecDepth 20000 in
theorem dk_X7_open_1 : dl_X7_open_1.all (fun q => decide (decode cX7_open q.1 = .ok (q.2.1, q.2.2))) = true := dq_all 123 (by decide +kernel)
def dl_X7_lay_0 : List (Nat × Instr × Nat) := [(0, .iload_n 1, 1), (1, .invokestatic 107, 3), (4, .iload_n 2, 1), (5, .iload_n 3, 1), (6, .iload 4, 2), (8, .iload 5, 2), (10, .invokestatic 84, 3), (13, .aload_n 0, 1), (14, .getfield 45, 3), (17, .ifCond .ne 28, 3), (20, .aload_n 0, 1), (21, .getfield 18, 3), (24, .iload_n 1, 1), (25, .aaload, 1), (26, .invokevirtual 111, 3), (29, .ifCond .ne 16, 3), (32, .aload_n 0, 1), (33, .iload_n 2, 1), (34, .iload_n 3, 1), (35, .iload 4, 2), (37, .iload 5, 2), (39, .invokevirtual 88, 3), (42, .ifCond .eq 13, 3), (45, .new 92, 3), (48, .dup, 1), (49, .ldc 94, 2), (51, .invokespecial 96, 3), (54, .athrow, 1), (55, .aload_n 0, 1), (56, .iload_n 2, 1), (57, .iload_n 3, 1), (58, .iload 4, 2), (60, .iload 5, 2), (62, .invokevirtual 115, 3), (65, .ifCond .ne 13, 3), (68, .new 92, 3), (71, .dup, 1), (72, .ldc 118, 2), (74, .invokespecial 96, 3), (77, .athrow, 1), (78, .iload_n 3, 1), (79, .istore 6, 2), (81, .iload 6, 2), (83, .iload 5, 2), (85, .if_icmp .gt 53, 3), (88, .iload_n 2, 1), (89, .istore 7, 2), (91, .iload 7, 2), (93, .iload 4, 2), (95, .if_icmp .gt 37, 3), (98, .aload_n 0, 1), (99, .getfield 12, 3), (102, .iload 7, 2), (104, .iload 6, 2), (106, .invokevirtual 99, 3), (109, .bipush (-2), 2), (111, .if_icmp .eq 15, 3), (114, .aload_n 0, 1), (115, .getfield 12, 3), (118, .iload 7, 2)]
set_option maxRecDepth 20000 in
theorem dk_X7_lay_0 : dl_X7_lay_0.all (fun q => decide (decode cX7_lay q.1 = .ok (q.2.1, q.2.2))) = true := dq_all 0 (by decide +kernel)
def dl_X7_lay_1 : List (Nat × Instr × Nat) := [(120, .iload 6, 2), (122, .iload_n 1, 1), (123, .invokevirtual 103, 3), (126, .iinc 7 1, 3), (129, .goto (-38), 3), (132, .iinc 6 1, 3), (135, .goto (-54), 3), (138, .aload_n 0, 1), (139, .getfield 12, 3), (142, .iload_n 1, 1), (143, .invokevirtual 120, 3), (146, .ireturn, 1)]
set_option maxRecDepth 20000 in
theorem dk_X7_lay_1 : dl_X7_lay_1.all (fun q => decide (decode cX7_lay q.1 = .ok (q.2.1, q.2.2))) = true := dq_all 120 (by decide +kernel)
def dl_X7_pieceAt_0 : List (Nat × Instr × Nat) := [(0, .iload_n 1, 1), (1, .iload_n 2, 1), (2, .invokestatic 124, 3), (5, .aload_n 0, 1), (6, .getfield 12, 3), (9, .iload_n 1, 1), (10, .iload_n 2, 1), (11, .invokevirtual 99, 3), (14, .ireturn, 1)]
set_option maxRecDepth 20000 in
theorem dk_X7_pieceAt_0 : dl_X7_pieceAt_0.all (fun q => decide (decode cX7_pieceAt q.1 = .ok (q.2.1, q.2.2))) = true := dq_all 0 (by decide +kernel)
def dl_X7_size_0 : List (Nat × Instr × Nat) := [(0, .iload_n 1, 1), (1, .invokestatic 107, 3), (4, .aload_n 0, 1), (5, .getfield 12, 3), (8, .iload_n 1, 1), (9, .invokevirtual 120, 3), (12, .ireturn, 1)]
set_option maxRecDepth 20000 in
theorem dk_X7_size_0 : dl_X7_size_0.all (fun q => decide (decode cX7_size q.1 = .ok (q.2.1, q.2.2))) = true := dq_all 0 (by decide +kernel)
def dl_X7_corners_0 : List (Nat × Instr × Nat) := [(0, .iload_n 1, 1), (1, .invokestatic 107, 3), (4, .aload_n 0, 1), (5, .getfield 12, 3), (8, .iload_n 1, 1), (9, .aload_n 0, 1), (10, .getfield 61, 3), (13, .invokevirtual 128, 3), (16, .aload_n 0, 1), (17, .getfield 61, 3), (20, .invokevirtual 132, 3), (23, .ireturn, 1)]
set_option maxRecDepth 20000 in
theorem dk_X7_corners_0 : dl_X7_corners_0.all (fun q => decide (decode cX7_corners q.1 = .ok (q.2.1, q.2.2))) = true := dq_all 0 (by decide +kernel)
def dl_X7_point_0 : List (Nat × Instr × Nat) := [(0, .iload_n 1, 1), (1, .invokestatic 107, 3), (4, .aload_n 0, 1), (5, .getfield 12, 3), (8, .iload_n 1, 1), (9, .aload_n 0, 1), (10, .getfield 61, 3), (13, .invokevirtual 128, 3), (16, .aload_n 0, 1), (17, .getfield 61, 3), (20, .invokevirtual 136, 3), (23, .ireturn, 1)]
set_option maxRecDepth 20000 in
theorem dk_X7_point_0 : dl_X7_point_0.all (fun q => decide (decode cX7_point q.1 = .ok (q.2.1, q.2.2))) = true := dq_all 0 (by decide +kernel)
def dl_X7_hinders_0 : List (Nat × Instr × Nat) := [(0, .iload_n 1, 1), (1, .invokestatic 107, 3), (4, .aload_n 0, 1), (5, .getfield 12, 3), (8, .iload_n 1, 1), (9, .aload_n 0, 1), (10, .getfield 61, 3), (13, .invokevirtual 128, 3), (16, .aload_n 0, 1), (17, .getfield 61, 3), (20, .invokevirtual 139, 3), (23, .ireturn, 1)]
set_option maxRecDepth 20000 in
theorem dk_X7_hinders_0 : dl_X7_hinders_0.all (fun q => decide (decode cX7_hinders q.1 = .ok (q.2.1, q.2.2))) = true := dq_all 0 (by decide +kernel)
def dl_X7_split_0 : List (Nat × Instr × Nat) := [(0, .iload_n 1, 1), (1, .invokestatic 107, 3), (4, .aload_n 0, 1), (5, .getfield 45, 3), (8, .ifCond .ne 15, 3), (11, .aload_n 0, 1), (12, .getfield 18, 3), (15, .iload_n 1, 1), (16, .aaload, 1), (17, .invokevirtual 111, 3), (20, .ifCond .eq 13, 3), (23, .new 92, 3), (26, .dup, 1), (27, .ldc 94, 2), (29, .invokespecial 96, 3), (32, .athrow, 1), (33, .aload_n 0, 1), (34, .getfield 12, 3), (37, .iload_n 1, 1), (38, .aload_n 0, 1), (39, .getfield 61, 3), (42, .invokevirtual 128, 3), (45, .aload_n 0, 1), (46, .getfield 61, 3), (49, .aload_n 0, 1), (50, .getfield 65, 3), (53, .aload_n 0, 1), (54, .getfield 68, 3), (57, .invokevirtual 143, 3), (60, .istore_n 2, 1), (61, .iload_n 2, 1), (62, .ifCond .ge 13, 3), (65, .new 92, 3), (68, .dup, 1), (69, .ldc 147, 2), (71, .invokespecial 96, 3), (74, .athrow, 1), (75, .aload_n 0, 1), (76, .invokevirtual 149, 3), (79, .istore_n 3, 1), (80, .iload_n 3, 1), (81, .ifCond .ge 13, 3), (84, .new 152, 3), (87, .dup, 1), (88, .ldc 154, 2), (90, .invokespecial 156, 3), (93, .athrow, 1), (94, .aload_n 0, 1), (95, .getfield 61, 3), (98, .iload_n 2, 1), (99, .aload_n 0, 1), (100, .getfield 65, 3), (103, .aload_n 0, 1), (104, .getfield 68, 3), (107, .invokevirtual 157, 3), (110, .aload_n 0, 1), (111, .getfield 12, 3), (114, .aload_n 0, 1), (115, .getfield 68, 3), (118, .iload_n 3, 1)]
set_option maxRecDepth 20000 in
theorem dk_X7_split_0 : dl_X7_split_0.all (fun q => decide (decode cX7_split q.1 = .ok (q.2.1, q.2.2))) = true := dq_all 0 (by decide +kernel)
def dl_X7_split_1 : List (Nat × Instr × Nat) := [(119, .invokevirtual 161, 3), (122, .aload_n 0, 1), (123, .getfield 18, 3), (126, .iload_n 3, 1), (127, .aaload, 1), (128, .aload_n 0, 1), (129, .getfield 18, 3), (132, .iload_n 1, 1), (133, .aaload, 1), (134, .invokevirtual 165, 3), (137, .iload_n 3, 1), (138, .ireturn, 1)]
set_option maxRecDepth 20000 in
theorem dk_X7_split_1 : dl_X7_split_1.all (fun q => decide (decode cX7_split q.1 = .ok (q.2.1, q.2.2))) = true := dq_all 119 (by decide +kernel)
def dl_X7_lead_0 : List (Nat × Instr × Nat) := [(0, .aload_n 0, 1), (1, .getfield 12, 3), (4, .invokevirtual 169, 3), (7, .ireturn, 1)]
set_option maxRecDepth 20000 in
theorem dk_X7_lead_0 : dl_X7_lead_0.all (fun q => decide (decode cX7_lead q.1 = .ok (q.2.1, q.2.2))) = true := dq_all 0 (by decide +kernel)
def dl_X7_joints_0 : List (Nat × Instr × Nat) := [(0, .aload_n 0, 1), (1, .getfield 12, 3), (4, .invokevirtual 172, 3), (7, .ireturn, 1)]
set_option maxRecDepth 20000 in
theorem dk_X7_joints_0 : dl_X7_joints_0.all (fun q => decide (decode cX7_joints q.1 = .ok (q.2.1, q.2.2))) = true := dq_all 0 (by decide +kernel)
def dl_X7_meanCells_0 : List (Nat × Instr × Nat) := [(0, .aload_n 0, 1), (1, .getfield 12, 3), (4, .invokevirtual 309, 3), (7, .invokestatic 279, 3), (10, .istore_n 1, 1), (11, .iload_n 1, 1), (12, .ifCond .ne 14, 3), (15, .new 404, 3), (18, .dup, 1), (19, .ldc_w 407, 3), (22, .invokespecial 406, 3), (25, .athrow, 1), (26, .sipush 144, 3), (29, .aload_n 0, 1), (30, .getfield 12, 3), (33, .bipush (-2), 2), (35, .invokevirtual 120, 3), (38, .isub, 1), (39, .aload_n 0, 1), (40, .getfield 12, 3), (43, .iconst (-1), 1), (44, .invokevirtual 120, 3), (47, .isub, 1), (48, .istore_n 2, 1), (49, .iload_n 2, 1), (50, .i2d, 1), (51, .iload_n 1, 1), (52, .i2d, 1), (53, .ddiv, 1), (54, .dreturn, 1)]
set_option maxRecDepth 20000 in
theorem dk_X7_meanCells_0 : dl_X7_meanCells_0.all (fun q => decide (decode cX7_meanCells q.1 = .ok (q.2.1, q.2.2))) = true := dq_all 0 (by decide +kernel)
def dl_X7_isSound_0 : List (Nat × Instr × Nat) := [(0, .iconst 0, 1), (1, .istore_n 1, 1), (2, .iconst 0, 1), (3, .istore_n 2, 1), (4, .iload_n 2, 1), (5, .aload_n 0, 1), (6, .getfield 35, 3), (9, .if_icmp .ge 21, 3), (12, .iload_n 1, 1), (13, .aload_n 0, 1), (14, .getfield 24, 3), (17, .iload_n 2, 1), (18, .aaload, 1), (19, .invokevirtual 409, 3), (22, .iadd, 1), (23, .istore_n 1, 1), (24, .iinc 2 1, 3), (27, .goto (-23), 3), (30, .iload_n 1, 1), (31, .aload_n 0, 1), (32, .getfield 39, 3), (35, .if_icmp .eq 5, 3), (38, .iconst 0, 1), (39, .ireturn, 1), (40, .aload_n 0, 1), (41, .getfield 12, 3), (44, .aload_n 0, 1), (45, .getfield 71, 3), (48, .invokevirtual 305, 3), (51, .aload_n 0, 1), (52, .bipush 108, 2), (54, .invokevirtual 286, 3), (57, .aload_n 0, 1), (58, .bipush 98, 2), (60, .invokevirtual 286, 3), (63, .ior, 1), (64, .istore_n 2, 1), (65, .iconst 0, 1), (66, .istore_n 3, 1), (67, .iload_n 3, 1), (68, .bipush 30, 2), (70, .if_icmp .ge 71, 3), (73, .aload_n 0, 1), (74, .getfield 18, 3), (77, .iload_n 3, 1), (78, .aaload, 1), (79, .astore 4, 2), (81, .aload 4, 2), (83, .invokevirtual 111, 3), (86, .ifCond .eq 13, 3), (89, .aload_n 0, 1), (90, .iload_n 3, 1), (91, .invokevirtual 412, 3), (94, .ifCond .ne 5, 3), (97, .iconst 0, 1), (98, .ireturn, 1), (99, .aload 4, 2), (101, .getfield 247, 3), (104, .bipush 108, 2), (106, .if_icmp .ne 29, 3)]
set_option maxRecDepth 20000 in
theorem dk_X7_isSound_0 : dl_X7_isSound_0.all (fun q => decide (decode cX7_isSound q.1 = .ok (q.2.1, q.2.2))) = true := dq_all 0 (by decide +kernel)
def dl_X7_isSound_1 : List (Nat × Instr × Nat) := [(109, .aload_n 0, 1), (110, .getfield 71, 3), (113, .iload_n 3, 1), (114, .iaload, 1), (115, .iload_n 2, 1), (116, .iconst (-1), 1), (117, .ixor, 1), (118, .iand, 1), (119, .ifCond .ne 14, 3), (122, .aload 4, 2), (124, .getfield 262, 3), (127, .invokevirtual 296, 3), (130, .ifCond .le 5, 3), (133, .iconst 0, 1), (134, .ireturn, 1), (135, .iinc 3 1, 3), (138, .goto (-71), 3), (141, .iconst 1, 1), (142, .ireturn, 1)]
set_option maxRecDepth 20000 in
theorem dk_X7_isSound_1 : dl_X7_isSound_1.all (fun q => decide (decode cX7_isSound q.1 = .ok (q.2.1, q.2.2))) = true := dq_all 109 (by decide +kernel)
def dl_X7_isWithin_0 : List (Nat × Instr × Nat) := [(0, .iload_n 0, 1), (1, .iload_n 1, 1), (2, .if_icmp .lt 12, 3), (5, .iload_n 0, 1), (6, .iload_n 2, 1), (7, .if_icmp .gt 7, 3), (10, .iconst 1, 1), (11, .goto 4, 3), (14, .iconst 0, 1), (15, .ireturn, 1)]
set_option maxRecDepth 20000 in
theorem dk_X7_isWithin_0 : dl_X7_isWithin_0.all (fun q => decide (decode cX7_isWithin q.1 = .ok (q.2.1, q.2.2))) = true := dq_all 0 (by decide +kernel)
def dl_X7_isInside_0 : List (Nat × Instr × Nat) := [(0, .iload_n 0, 1), (1, .ifCond .lt 23, 3), (4, .iload_n 0, 1), (5, .bipush 12, 2), (7, .if_icmp .ge 17, 3), (10, .iload_n 1, 1), (11, .ifCond .lt 13, 3), (14, .iload_n 1, 1), (15, .bipush 12, 2), (17, .if_icmp .ge 7, 3), (20, .iconst 1, 1), (21, .goto 4, 3), (24, .iconst 0, 1), (25, .ireturn, 1)]
set_option maxRecDepth 20000 in
theorem dk_X7_isInside_0 : dl_X7_isInside_0.all (fun q => decide (decode cX7_isInside q.1 = .ok (q.2.1, q.2.2))) = true := dq_all 0 (by decide +kernel)
def dl_X7_isPiece_0 : List (Nat × Instr × Nat) := [(0, .iload_n 0, 1), (1, .iconst 0, 1), (2, .bipush 29, 2), (4, .invokestatic 179, 3), (7, .ireturn, 1)]
set_option maxRecDepth 20000 in
theorem dk_X7_isPiece_0 : dl_X7_isPiece_0.all (fun q => decide (decode cX7_isPiece q.1 = .ok (q.2.1, q.2.2))) = true := dq_all 0 (by decide +kernel)
def dl_X7_requirePiece_0 : List (Nat × Instr × Nat) := [(0, .iload_n 0, 1), (1, .invokestatic 367, 3), (4, .ifCond .ne 14, 3), (7, .new 415, 3), (10, .dup, 1), (11, .ldc_w 417, 3), (14, .invokespecial 419, 3), (17, .athrow, 1), (18, .return_, 1)]
set_option maxRecDepth 20000 in
theorem dk_X7_requirePiece_0 : dl_X7_requirePiece_0.all (fun q => decide (decode cX7_requirePiece q.1 = .ok (q.2.1, q.2.2))) = true := dq_all 0 (by decide +kernel)
def dl_X7_requireCell_0 : List (Nat × Instr × Nat) := [(0, .iload_n 0, 1), (1, .iload_n 1, 1), (2, .invokestatic 420, 3), (5, .ifCond .ne 14, 3), (8, .new 187, 3), (11, .dup, 1), (12, .ldc_w 424, 3), (15, .invokespecial 191, 3), (18, .athrow, 1), (19, .return_, 1)]
set_option maxRecDepth 20000 in
theorem dk_X7_requireCell_0 : dl_X7_requireCell_0.all (fun q => decide (decode cX7_requireCell q.1 = .ok (q.2.1, q.2.2))) = true := dq_all 0 (by decide +kernel)
def dl_X7_requireCells_0 : List (Nat × Instr × Nat) := [(0, .iload_n 0, 1), (1, .iload_n 1, 1), (2, .invokestatic 420, 3), (5, .ifCond .eq 21, 3), (8, .iload_n 2, 1), (9, .iload_n 3, 1), (10, .invokestatic 420, 3), (13, .ifCond .eq 13, 3), (16, .iload_n 2, 1), (17, .iload_n 0, 1), (18, .if_icmp .lt 8, 3), (21, .iload_n 3, 1), (22, .iload_n 1, 1), (23, .if_icmp .ge 14, 3), (26, .new 187, 3), (29, .dup, 1), (30, .ldc_w 426, 3), (33, .invokespecial 191, 3), (36, .athrow, 1), (37, .return_, 1)]
set_option maxRecDepth 20000 in
theorem dk_X7_requireCells_0 : dl_X7_requireCells_0.all (fun q => decide (decode cX7_requireCells q.1 = .ok (q.2.1, q.2.2))) = true := dq_all 0 (by decide +kernel)
def dl_X7_panesThatAre_0 : List (Nat × Instr × Nat) := [(0, .iconst 0, 1), (1, .istore_n 2, 1), (2, .iconst 0, 1), (3, .istore_n 3, 1), (4, .iload_n 3, 1), (5, .bipush 30, 2), (7, .if_icmp .ge 32, 3), (10, .iload_n 2, 1), (11, .aload_n 0, 1), (12, .getfield 18, 3), (15, .iload_n 3, 1), (16, .aaload, 1), (17, .getfield 247, 3), (20, .iload_n 1, 1), (21, .if_icmp .ne 9, 3), (24, .iconst 1, 1), (25, .iload_n 3, 1), (26, .ishl, 1), (27, .goto 4, 3), (30, .iconst 0, 1), (31, .ior, 1), (32, .istore_n 2, 1), (33, .iinc 3 1, 3), (36, .goto (-32), 3), (39, .iload_n 2, 1), (40, .ireturn, 1)]
set_option maxRecDepth 20000 in
theorem dk_X7_panesThatAre_0 : dl_X7_panesThatAre_0.all (fun q => decide (decode cX7_panesThatAre q.1 = .ok (q.2.1, q.2.2))) = true := dq_all 0 (by decide +kernel)
def dl_X7_lowestWithoutCells_0 : List (Nat × Instr × Nat) := [(0, .aload_n 0, 1), (1, .getfield 12, 3), (4, .invokevirtual 309, 3), (7, .istore_n 1, 1), (8, .iconst 0, 1), (9, .istore_n 2, 1), (10, .iload_n 2, 1), (11, .bipush 30, 2), (13, .if_icmp .ge 19, 3), (16, .iload_n 1, 1), (17, .iload_n 2, 1), (18, .ishr, 1), (19, .iconst 1, 1), (20, .iand, 1), (21, .ifCond .ne 5, 3), (24, .iload_n 2, 1), (25, .ireturn, 1), (26, .iinc 2 1, 3), (29, .goto (-19), 3), (32, .iconst (-1), 1), (33, .ireturn, 1)]
set_option maxRecDepth 20000 in
theorem dk_X7_lowestWithoutCells_0 : dl_X7_lowestWithoutCells_0.all (fun q => decide (decode cX7_lowestWithoutCells q.1 = .ok (q.2.1, q.2.2))) = true := dq_all 0 (by decide +kernel)
def dl_X7_isGlassWithin_0 : List (Nat × Instr × Nat) := [(0, .iload_n 2, 1), (1, .istore 5, 2), (3, .iload 5, 2), (5, .iload 4, 2), (7, .if_icmp .gt 60, 3), (10, .iload_n 1, 1), (11, .istore 6, 2), (13, .iload 6, 2), (15, .iload_n 3, 1), (16, .if_icmp .gt 45, 3), (19, .aload_n 0, 1), (20, .getfield 12, 3), (23, .iload 6, 2), (25, .iload 5, 2), (27, .invokevirtual 99, 3), (30, .istore 7, 2), (32, .iload 7, 2), (34, .invokestatic 367, 3), (37, .ifCond .eq 18, 3), (40, .aload_n 0, 1), (41, .getfield 18, 3), (44, .iload 7, 2), (46, .aaload, 1), (47, .invokevirtual 111, 3), (50, .ifCond .eq 5, 3), (53, .iconst 1, 1), (54, .ireturn, 1), (55, .iinc 6 1, 3), (58, .goto (-45), 3), (61, .iinc 5 1, 3), (64, .goto (-61), 3), (67, .iconst 0, 1), (68, .ireturn, 1)]
set_option maxRecDepth 20000 in
theorem dk_X7_isGlassWithin_0 : dl_X7_isGlassWithin_0.all (fun q => decide (decode cX7_isGlassWithin q.1 = .ok (q.2.1, q.2.2))) = true := dq_all 0 (by decide +kernel)
def dl_X7_isOpenWithin_0 : List (Nat × Instr × Nat) := [(0, .iload_n 2, 1), (1, .istore 5, 2), (3, .iload 5, 2), (5, .iload 4, 2), (7, .if_icmp .gt 42, 3), (10, .iload_n 1, 1), (11, .istore 6, 2), (13, .iload 6, 2), (15, .iload_n 3, 1), (16, .if_icmp .gt 27, 3), (19, .aload_n 0, 1), (20, .getfield 12, 3), (23, .iload 6, 2), (25, .iload 5, 2), (27, .invokevirtual 99, 3), (30, .bipush (-2), 2), (32, .if_icmp .eq 5, 3), (35, .iconst 1, 1), (36, .ireturn, 1), (37, .iinc 6 1, 3), (40, .goto (-27), 3), (43, .iinc 5 1, 3), (46, .goto (-43), 3), (49, .iconst 0, 1), (50, .ireturn, 1)]
set_option maxRecDepth 20000 in
theorem dk_X7_isOpenWithin_0 : dl_X7_isOpenWithin_0.all (fun q => decide (decode cX7_isOpenWithin q.1 = .ok (q.2.1, q.2.2))) = true := dq_all 0 (by decide +kernel)
def dl_X7_isCuttable_0 : List (Nat × Instr × Nat) := [(0, .aload_n 0, 1), (1, .getfield 12, 3), (4, .iload_n 1, 1), (5, .aload_n 0, 1), (6, .getfield 61, 3), (9, .invokevirtual 128, 3), (12, .aload_n 0, 1), (13, .getfield 61, 3), (16, .invokevirtual 438, 3), (19, .ifCond .eq 18, 3), (22, .aload_n 0, 1), (23, .getfield 61, 3), (26, .invokevirtual 132, 3), (29, .iconst 2, 1), (30, .if_icmp .gt 7, 3), (33, .iconst 1, 1), (34, .goto 4, 3), (37, .iconst 0, 1), (38, .ireturn, 1)]
set_option maxRecDepth 20000 in
theorem dk_X7_isCuttable_0 : dl_X7_isCuttable_0.all (fun q => decide (decode cX7_isCuttable q.1 = .ok (q.2.1, q.2.2))) = true := dq_all 0 (by decide +kernel)
def dl_J6_bitCount_0f7a4_0 : List (Nat × Instr × Nat) := [(0, .iload_n 0, 1), (1, .iload_n 0, 1), (2, .iconst 1, 1), (3, .iushr, 1), (4, .ldc_w 265, 3), (7, .iand, 1), (8, .isub, 1), (9, .istore_n 0, 1), (10, .iload_n 0, 1), (11, .ldc_w 266, 3), (14, .iand, 1), (15, .iload_n 0, 1), (16, .iconst 2, 1), (17, .iushr, 1), (18, .ldc_w 266, 3), (21, .iand, 1), (22, .iadd, 1), (23, .istore_n 0, 1), (24, .iload_n 0, 1), (25, .iload_n 0, 1), (26, .iconst 4, 1), (27, .iushr, 1), (28, .iadd, 1), (29, .ldc_w 267, 3), (32, .iand, 1), (33, .istore_n 0, 1), (34, .iload_n 0, 1), (35, .iload_n 0, 1), (36, .bipush 8, 2), (38, .iushr, 1), (39, .iadd, 1), (40, .istore_n 0, 1), (41, .iload_n 0, 1), (42, .iload_n 0, 1), (43, .bipush 16, 2), (45, .iushr, 1), (46, .iadd, 1), (47, .istore_n 0, 1), (48, .iload_n 0, 1), (49, .bipush 63, 2), (51, .iand, 1), (52, .ireturn, 1)]
set_option maxRecDepth 20000 in
theorem dk_J6_bitCount_0f7a4_0 : dl_J6_bitCount_0f7a4_0.all (fun q => decide (decode cJ6_bitCount_0f7a4 q.1 = .ok (q.2.1, q.2.2))) = true := dq_all 0 (by decide +kernel)
def dl_J9_max_7cf53_0 : List (Nat × Instr × Nat) := [(0, .iload_n 0, 1), (1, .iload_n 1, 1), (2, .if_icmp .lt 7, 3), (5, .iload_n 0, 1), (6, .goto 4, 3), (9, .iload_n 1, 1), (10, .ireturn, 1)]
set_option maxRecDepth 20000 in
theorem dk_J9_max_7cf53_0 : dl_J9_max_7cf53_0.all (fun q => decide (decode cJ9_max_7cf53 q.1 = .ok (q.2.1, q.2.2))) = true := dq_all 0 (by decide +kernel)
def dl_L_cell_0 : List (Nat × Instr × Nat) := [(0, .ldc 7, 2), (2, .iload_n 1, 1), (3, .aload_n 0, 1), (4, .arraylength, 1), (5, .if_icmp .ge 9, 3), (8, .aload_n 0, 1), (9, .iload_n 1, 1), (10, .iaload, 1), (11, .goto 4, 3), (14, .iconst 0, 1), (15, .sipush 1009, 3), (18, .iload_n 1, 1), (19, .imul, 1), (20, .iadd, 1), (21, .imul, 1), (22, .sipush 12345, 3), (25, .iadd, 1), (26, .istore_n 2, 1), (27, .iload_n 2, 1), (28, .iload_n 2, 1), (29, .bipush 13, 2), (31, .iushr, 1), (32, .ixor, 1), (33, .ldc 8, 2), (35, .imul, 1), (36, .istore_n 2, 1), (37, .iload_n 2, 1), (38, .iload_n 2, 1), (39, .bipush 16, 2), (41, .iushr, 1), (42, .ixor, 1), (43, .ireturn, 1)]
set_option maxRecDepth 20000 in
theorem dk_L_cell_0 : dl_L_cell_0.all (fun q => decide (decode cL_cell q.1 = .ok (q.2.1, q.2.2))) = true := dq_all 0 (by decide +kernel)
def dl_L_open_0 : List (Nat × Instr × Nat) := [(0, .aload_n 0, 1), (1, .iload_n 1, 1), (2, .iload_n 2, 1), (3, .iload_n 3, 1), (4, .iload 4, 2), (6, .iload 5, 2), (8, .invokevirtual 9, 3), (11, .ireturn, 1), (12, .astore 6, 2), (14, .ldc 17, 2), (16, .ireturn, 1), (17, .astore 6, 2), (19, .ldc 20, 2), (21, .ireturn, 1)]
set_option maxRecDepth 20000 in
theorem dk_L_open_0 : dl_L_open_0.all (fun q => decide (decode cL_open q.1 = .ok (q.2.1, q.2.2))) = true := dq_all 0 (by decide +kernel)
def dl_L_lay_0 : List (Nat × Instr × Nat) := [(0, .aload_n 0, 1), (1, .iload_n 1, 1), (2, .iload_n 2, 1), (3, .iload_n 3, 1), (4, .iload 4, 2), (6, .iload 5, 2), (8, .invokevirtual 21, 3), (11, .ireturn, 1), (12, .astore 6, 2), (14, .ldc 17, 2), (16, .ireturn, 1), (17, .astore 6, 2), (19, .ldc 20, 2), (21, .ireturn, 1), (22, .astore 6, 2), (24, .ldc 27, 2), (26, .ireturn, 1)]
set_option maxRecDepth 20000 in
theorem dk_L_lay_0 : dl_L_lay_0.all (fun q => decide (decode cL_lay q.1 = .ok (q.2.1, q.2.2))) = true := dq_all 0 (by decide +kernel)
def dl_L_pieceAt_0 : List (Nat × Instr × Nat) := [(0, .aload_n 0, 1), (1, .iload_n 1, 1), (2, .iload_n 2, 1), (3, .invokevirtual 28, 3), (6, .ireturn, 1), (7, .astore_n 3, 1), (8, .ldc 17, 2), (10, .ireturn, 1)]
set_option maxRecDepth 20000 in
theorem dk_L_pieceAt_0 : dl_L_pieceAt_0.all (fun q => decide (decode cL_pieceAt q.1 = .ok (q.2.1, q.2.2))) = true := dq_all 0 (by decide +kernel)
def dl_L_size_0 : List (Nat × Instr × Nat) := [(0, .aload_n 0, 1), (1, .iload_n 1, 1), (2, .invokevirtual 32, 3), (5, .ireturn, 1), (6, .astore_n 2, 1), (7, .ldc 17, 2), (9, .ireturn, 1)]
set_option maxRecDepth 20000 in
theorem dk_L_size_0 : dl_L_size_0.all (fun q => decide (decode cL_size q.1 = .ok (q.2.1, q.2.2))) = true := dq_all 0 (by decide +kernel)
def dl_L_corners_0 : List (Nat × Instr × Nat) := [(0, .aload_n 0, 1), (1, .iload_n 1, 1), (2, .invokevirtual 36, 3), (5, .ireturn, 1), (6, .astore_n 2, 1), (7, .ldc 17, 2), (9, .ireturn, 1)]
set_option maxRecDepth 20000 in
theorem dk_L_corners_0 : dl_L_corners_0.all (fun q => decide (decode cL_corners q.1 = .ok (q.2.1, q.2.2))) = true := dq_all 0 (by decide +kernel)
def dl_L_point_0 : List (Nat × Instr × Nat) := [(0, .aload_n 0, 1), (1, .iload_n 1, 1), (2, .invokevirtual 39, 3), (5, .ireturn, 1), (6, .astore_n 2, 1), (7, .ldc 17, 2), (9, .ireturn, 1)]
set_option maxRecDepth 20000 in
theorem dk_L_point_0 : dl_L_point_0.all (fun q => decide (decode cL_point q.1 = .ok (q.2.1, q.2.2))) = true := dq_all 0 (by decide +kernel)
def dl_L_hinders_0 : List (Nat × Instr × Nat) := [(0, .aload_n 0, 1), (1, .iload_n 1, 1), (2, .invokevirtual 42, 3), (5, .ireturn, 1), (6, .astore_n 2, 1), (7, .ldc 17, 2), (9, .ireturn, 1)]
set_option maxRecDepth 20000 in
theorem dk_L_hinders_0 : dl_L_hinders_0.all (fun q => decide (decode cL_hinders q.1 = .ok (q.2.1, q.2.2))) = true := dq_all 0 (by decide +kernel)
def dl_L_split_0 : List (Nat × Instr × Nat) := [(0, .aload_n 0, 1), (1, .iload_n 1, 1), (2, .invokevirtual 46, 3), (5, .ireturn, 1), (6, .astore_n 2, 1), (7, .ldc 17, 2), (9, .ireturn, 1), (10, .astore_n 2, 1), (11, .ldc 20, 2), (13, .ireturn, 1), (14, .astore_n 2, 1), (15, .ldc 27, 2), (17, .ireturn, 1)]
set_option maxRecDepth 20000 in
theorem dk_L_split_0 : dl_L_split_0.all (fun q => decide (decode cL_split q.1 = .ok (q.2.1, q.2.2))) = true := dq_all 0 (by decide +kernel)
def dl_L_in_0 : List (Nat × Instr × Nat) := [(0, .aload_n 0, 1), (1, .iload_n 1, 1), (2, .invokestatic 51, 3), (5, .ldc 57, 2), (7, .iand, 1), (8, .iload_n 2, 1), (9, .irem, 1), (10, .ireturn, 1)]
set_option maxRecDepth 20000 in
theorem dk_L_in_0 : dl_L_in_0.all (fun q => decide (decode cL_in q.1 = .ok (q.2.1, q.2.2))) = true := dq_all 0 (by decide +kernel)
def dl_L_at_0 : List (Nat × Instr × Nat) := [(0, .iload_n 1, 1), (1, .ifCond .lt 19, 3), (4, .iload_n 1, 1), (5, .bipush 11, 2), (7, .if_icmp .gt 13, 3), (10, .iload_n 2, 1), (11, .ifCond .lt 9, 3), (14, .iload_n 2, 1), (15, .bipush 11, 2), (17, .if_icmp .le 8, 3), (20, .bipush (-2), 2), (22, .goto 8, 3), (25, .aload_n 0, 1), (26, .iload_n 2, 1), (27, .aaload, 1), (28, .iload_n 1, 1), (29, .iaload, 1), (30, .ireturn, 1)]
set_option maxRecDepth 20000 in
theorem dk_L_at_0 : dl_L_at_0.all (fun q => decide (decode cL_at q.1 = .ok (q.2.1, q.2.2))) = true := dq_all 0 (by decide +kernel)
def dl_L_law_0 : List (Nat × Instr × Nat) := [(0, .new 10, 3), (3, .dup, 1), (4, .invokespecial 58, 3), (7, .astore_n 1, 1), (8, .bipush 12, 2), (10, .bipush 12, 2), (12, .multianewarray 59 2, 4), (16, .astore_n 2, 1), (17, .iconst 0, 1), (18, .istore_n 3, 1), (19, .iload_n 3, 1), (20, .bipush 12, 2), (22, .if_icmp .ge 33, 3), (25, .iconst 0, 1), (26, .istore 4, 2), (28, .iload 4, 2), (30, .bipush 12, 2), (32, .if_icmp .ge 17, 3), (35, .aload_n 2, 1), (36, .iload_n 3, 1), (37, .aaload, 1), (38, .iload 4, 2), (40, .bipush (-2), 2), (42, .iastore, 1), (43, .iinc 4 1, 3), (46, .goto (-18), 3), (49, .iinc 3 1, 3), (52, .goto (-33), 3), (55, .aload_n 1, 1), (56, .iconst 0, 1), (57, .iconst 0, 1), (58, .bipush 12, 2), (60, .iconst 1, 1), (61, .iconst 1, 1), (62, .invokestatic 61, 3), (65, .ldc 17, 2), (67, .if_icmp .ne 72, 3), (70, .aload_n 1, 1), (71, .iconst 3, 1), (72, .iconst 0, 1), (73, .iconst 2, 1), (74, .iconst 0, 1), (75, .iconst 1, 1), (76, .invokestatic 61, 3), (79, .ldc 17, 2), (81, .if_icmp .ne 58, 3), (84, .aload_n 1, 1), (85, .bipush 30, 2), (87, .iconst 0, 1), (88, .iconst 0, 1), (89, .iconst 1, 1), (90, .iconst 1, 1), (91, .invokestatic 64, 3), (94, .ldc 17, 2), (96, .if_icmp .ne 43, 3), (99, .aload_n 1, 1), (100, .iconst 0, 1), (101, .iconst 0, 1), (102, .iconst 0, 1), (103, .iconst 1, 1)]
set_option maxRecDepth 20000 in
theorem dk_L_law_0 : dl_L_law_0.all (fun q => decide (decode cL_law q.1 = .ok (q.2.1, q.2.2))) = true := by decide +kernel
def dl_L_law_1 : List (Nat × Instr × Nat) := [(104, .iconst 1, 1), (105, .invokestatic 64, 3), (108, .ldc 27, 2), (110, .if_icmp .ne 29, 3), (113, .aload_n 1, 1), (114, .bipush 12, 2), (116, .iconst 0, 1), (117, .invokestatic 67, 3), (120, .ldc 17, 2), (122, .if_icmp .ne 17, 3), (125, .aload_n 1, 1), (126, .iconst (-1), 1), (127, .invokestatic 70, 3), (130, .ldc 17, 2), (132, .if_icmp .ne 7, 3), (135, .iconst 1, 1), (136, .goto 4, 3), (139, .iconst 0, 1), (140, .istore_n 3, 1), (141, .iconst 0, 1), (142, .istore 4, 2), (144, .iload 4, 2), (146, .bipush 9, 2), (148, .if_icmp .ge 1181, 3), (151, .aload_n 0, 1), (152, .bipush 10, 2), (154, .iload 4, 2), (156, .imul, 1), (157, .bipush 12, 2), (159, .invokestatic 73, 3), (162, .istore 5, 2), (164, .aload_n 0, 1), (165, .bipush 10, 2), (167, .iload 4, 2), (169, .imul, 1), (170, .iconst 1, 1), (171, .iadd, 1), (172, .bipush 12, 2), (174, .invokestatic 73, 3), (177, .istore 6, 2), (179, .iload 5, 2), (181, .aload_n 0, 1), (182, .bipush 10, 2), (184, .iload 4, 2), (186, .imul, 1), (187, .iconst 2, 1), (188, .iadd, 1), (189, .bipush 12, 2), (191, .iload 5, 2), (193, .isub, 1), (194, .invokestatic 73, 3), (197, .iadd, 1), (198, .istore 7, 2), (200, .iload 6, 2), (202, .aload_n 0, 1), (203, .bipush 10, 2), (205, .iload 4, 2), (207, .imul, 1), (208, .iconst 3, 1), (209, .iadd, 1)]
set_option maxRecDepth 20000 in
theorem dk_L_law_1 : dl_L_law_1.all (fun q => decide (decode cL_law q.1 = .ok (q.2.1, q.2.2))) = true := dq_all 104 (by decide +kernel)
def dl_L_law_2 : List (Nat × Instr × Nat) := [(210, .bipush 12, 2), (212, .iload 6, 2), (214, .isub, 1), (215, .invokestatic 73, 3), (218, .iadd, 1), (219, .istore 8, 2), (221, .iload 4, 2), (223, .ifCond .ne 7, 3), (226, .iconst 0, 1), (227, .goto 15, 3), (230, .aload_n 0, 1), (231, .bipush 10, 2), (233, .iload 4, 2), (235, .imul, 1), (236, .iconst 4, 1), (237, .iadd, 1), (238, .iconst 5, 1), (239, .invokestatic 73, 3), (242, .istore 9, 2), (244, .aload_n 0, 1), (245, .bipush 10, 2), (247, .iload 4, 2), (249, .imul, 1), (250, .iconst 5, 1), (251, .iadd, 1), (252, .iconst 4, 1), (253, .invokestatic 73, 3), (256, .istore 10, 2), (258, .iconst 0, 1), (259, .istore 11, 2), (261, .iconst 0, 1), (262, .istore 12, 2), (264, .iload 6, 2), (266, .istore 13, 2), (268, .iload 13, 2), (270, .iload 8, 2), (272, .if_icmp .gt 147, 3), (275, .iload 5, 2), (277, .istore 14, 2), (279, .iload 14, 2), (281, .iload 7, 2), (283, .if_icmp .gt 130, 3), (286, .aload_n 2, 1), (287, .iload 13, 2), (289, .aaload, 1), (290, .iload 14, 2), (292, .iaload, 1), (293, .bipush (-2), 2), (295, .if_icmp .eq 7, 3), (298, .iconst 1, 1), (299, .goto 4, 3), (302, .iconst 0, 1), (303, .istore 15, 2), (305, .iload 12, 2), (307, .iload 15, 2), (309, .ifCond .eq 7, 3), (312, .iconst 1, 1), (313, .goto 4, 3), (316, .iconst 0, 1), (317, .iadd, 1)]
set_option maxRecDepth 20000 in
theorem dk_L_law_2 : dl_L_law_2.all (fun q => decide (decode cL_law q.1 = .ok (q.2.1, q.2.2))) = true := dq_all 210 (by decide +kernel)
def dl_L_law_3 : List (Nat × Instr × Nat) := [(318, .istore 12, 2), (320, .iload 9, 2), (322, .iconst 2, 1), (323, .if_icmp .ge 65, 3), (326, .iload 11, 2), (328, .iload 15, 2), (330, .iload 9, 2), (332, .ifCond .ne 7, 3), (335, .iconst 1, 1), (336, .goto 4, 3), (339, .iconst 0, 1), (340, .if_icmp .ne 7, 3), (343, .iconst 0, 1), (344, .goto 4, 3), (347, .iconst 1, 1), (348, .iadd, 1), (349, .istore 11, 2), (351, .aload_n 2, 1), (352, .iload 13, 2), (354, .aaload, 1), (355, .iload 14, 2), (357, .iload 9, 2), (359, .iconst 1, 1), (360, .if_icmp .ne 8, 3), (363, .bipush (-2), 2), (365, .goto 19, 3), (368, .iload 15, 2), (370, .ifCond .eq 13, 3), (373, .aload_n 2, 1), (374, .iload 13, 2), (376, .aaload, 1), (377, .iload 14, 2), (379, .iaload, 1), (380, .goto 4, 3), (383, .iconst (-1), 1), (384, .iastore, 1), (385, .goto 22, 3), (388, .aload_n 2, 1), (389, .iload 13, 2), (391, .aaload, 1), (392, .iload 14, 2), (394, .iload 15, 2), (396, .ifCond .eq 8, 3), (399, .iload 10, 2), (401, .goto 5, 3), (404, .bipush (-2), 2), (406, .iastore, 1), (407, .iinc 14 1, 3), (410, .goto (-131), 3), (413, .iinc 13 1, 3), (416, .goto (-148), 3), (419, .iload 9, 2), (421, .iconst 2, 1), (422, .if_icmp .ge 41, 3), (425, .iload_n 3, 1), (426, .aload_n 1, 1), (427, .iload 5, 2), (429, .iload 6, 2), (431, .iload 7, 2), (433, .iload 8, 2)]
set_option maxRecDepth 20000 in
theorem dk_L_law_3 : dl_L_law_3.all (fun q => decide (decode cL_law q.1 = .ok (q.2.1, q.2.2))) = true := dq_all 318 (by decide +kernel)
def dl_L_law_4 : List (Nat × Instr × Nat) := [(435, .iload 9, 2), (437, .ifCond .ne 7, 3), (440, .iconst 1, 1), (441, .goto 4, 3), (444, .iconst 0, 1), (445, .invokestatic 61, 3), (448, .iload 11, 2), (450, .if_icmp .ne 7, 3), (453, .iconst 1, 1), (454, .goto 4, 3), (457, .iconst 0, 1), (458, .iand, 1), (459, .istore_n 3, 1), (460, .goto 88, 3), (463, .iconst 0, 1), (464, .istore 13, 2), (466, .iconst 0, 1), (467, .istore 14, 2), (469, .iload 14, 2), (471, .sipush 144, 3), (474, .if_icmp .ge 37, 3), (477, .iload 13, 2), (479, .aload_n 2, 1), (480, .iload 14, 2), (482, .bipush 12, 2), (484, .idiv, 1), (485, .aaload, 1), (486, .iload 14, 2), (488, .bipush 12, 2), (490, .irem, 1), (491, .iaload, 1), (492, .iload 10, 2), (494, .if_icmp .ne 7, 3), (497, .iconst 1, 1), (498, .goto 4, 3), (501, .iconst 0, 1), (502, .iadd, 1), (503, .istore 13, 2), (505, .iinc 14 1, 3), (508, .goto (-39), 3), (511, .iload_n 3, 1), (512, .aload_n 1, 1), (513, .iload 10, 2), (515, .iload 5, 2), (517, .iload 6, 2), (519, .iload 7, 2), (521, .iload 8, 2), (523, .invokestatic 64, 3), (526, .iload 12, 2), (528, .ifCond .ne 8, 3), (531, .ldc 27, 2), (533, .goto 5, 3), (536, .iload 13, 2), (538, .if_icmp .ne 7, 3), (541, .iconst 1, 1), (542, .goto 4, 3), (545, .iconst 0, 1), (546, .iand, 1), (547, .istore_n 3, 1), (548, .iconst 0, 1)]
set_option maxRecDepth 20000 in
theorem dk_L_law_4 : dl_L_law_4.all (fun q => decide (decode cL_law q.1 = .ok (q.2.1, q.2.2))) = true := dq_all 435 (by decide +kernel)
def dl_L_law_5 : List (Nat × Instr × Nat) := [(549, .istore 13, 2), (551, .iconst 0, 1), (552, .istore 14, 2), (554, .iconst 0, 1), (555, .istore 15, 2), (557, .iload 15, 2), (559, .bipush 12, 2), (561, .if_icmp .gt 295, 3), (564, .iconst 0, 1), (565, .istore 16, 2), (567, .iload 16, 2), (569, .bipush 12, 2), (571, .if_icmp .gt 279, 3), (574, .aload_n 2, 1), (575, .iload 16, 2), (577, .iconst 1, 1), (578, .isub, 1), (579, .iload 15, 2), (581, .iconst 1, 1), (582, .isub, 1), (583, .invokestatic 77, 3), (586, .istore 17, 2), (588, .aload_n 2, 1), (589, .iload 16, 2), (591, .iload 15, 2), (593, .iconst 1, 1), (594, .isub, 1), (595, .invokestatic 77, 3), (598, .istore 18, 2), (600, .aload_n 2, 1), (601, .iload 16, 2), (603, .iconst 1, 1), (604, .isub, 1), (605, .iload 15, 2), (607, .invokestatic 77, 3), (610, .istore 19, 2), (612, .aload_n 2, 1), (613, .iload 16, 2), (615, .iload 15, 2), (617, .invokestatic 77, 3), (620, .istore 20, 2), (622, .iload 17, 2), (624, .iload 18, 2), (626, .if_icmp .eq 17, 3), (629, .iload 17, 2), (631, .ifCond .ge 8, 3), (634, .iload 18, 2), (636, .ifCond .lt 7, 3), (639, .iconst 1, 1), (640, .goto 4, 3), (643, .iconst 0, 1), (644, .istore 21, 2), (646, .iload 19, 2), (648, .iload 20, 2), (650, .if_icmp .eq 17, 3), (653, .iload 19, 2), (655, .ifCond .ge 8, 3), (658, .iload 20, 2), (660, .ifCond .lt 7, 3), (663, .iconst 1, 1)]
set_option maxRecDepth 20000 in
theorem dk_L_law_5 : dl_L_law_5.all (fun q => decide (decode cL_law q.1 = .ok (q.2.1, q.2.2))) = true := dq_all 549 (by decide +kernel)
def dl_L_law_6 : List (Nat × Instr × Nat) := [(664, .goto 4, 3), (667, .iconst 0, 1), (668, .istore 22, 2), (670, .iload 17, 2), (672, .iload 19, 2), (674, .if_icmp .eq 17, 3), (677, .iload 17, 2), (679, .ifCond .ge 8, 3), (682, .iload 19, 2), (684, .ifCond .lt 7, 3), (687, .iconst 1, 1), (688, .goto 4, 3), (691, .iconst 0, 1), (692, .istore 23, 2), (694, .iload 18, 2), (696, .iload 20, 2), (698, .if_icmp .eq 17, 3), (701, .iload 18, 2), (703, .ifCond .ge 8, 3), (706, .iload 20, 2), (708, .ifCond .lt 7, 3), (711, .iconst 1, 1), (712, .goto 4, 3), (715, .iconst 0, 1), (716, .istore 24, 2), (718, .iload 13, 2), (720, .iload 22, 2), (722, .ifCond .eq 7, 3), (725, .iconst 1, 1), (726, .goto 4, 3), (729, .iconst 0, 1), (730, .iadd, 1), (731, .istore 13, 2), (733, .iload 13, 2), (735, .iload 24, 2), (737, .ifCond .eq 7, 3), (740, .iconst 1, 1), (741, .goto 4, 3), (744, .iconst 0, 1), (745, .iadd, 1), (746, .istore 13, 2), (748, .iload 21, 2), (750, .ifCond .eq 7, 3), (753, .iconst 1, 1), (754, .goto 4, 3), (757, .iconst 0, 1), (758, .iload 22, 2), (760, .ifCond .eq 7, 3), (763, .iconst 1, 1), (764, .goto 4, 3), (767, .iconst 0, 1), (768, .iadd, 1), (769, .iload 23, 2), (771, .ifCond .eq 7, 3), (774, .iconst 1, 1), (775, .goto 4, 3), (778, .iconst 0, 1), (779, .iadd, 1), (780, .iload 24, 2), (782, .ifCond .eq 7, 3)]
set_option maxRecDepth 20000 in
theorem dk_L_law_6 : dl_L_law_6.all (fun q => decide (decode cL_law q.1 = .ok (q.2.1, q.2.2))) = true := dq_all 664 (by decide +kernel)
def dl_L_law_7 : List (Nat × Instr × Nat) := [(785, .iconst 1, 1), (786, .goto 4, 3), (789, .iconst 0, 1), (790, .iadd, 1), (791, .istore 25, 2), (793, .iload 14, 2), (795, .iload 25, 2), (797, .iconst 3, 1), (798, .if_icmp .lt 7, 3), (801, .iconst 1, 1), (802, .goto 4, 3), (805, .iconst 0, 1), (806, .iadd, 1), (807, .istore 14, 2), (809, .iload_n 3, 1), (810, .iload 16, 2), (812, .bipush 11, 2), (814, .if_icmp .gt 23, 3), (817, .iload 15, 2), (819, .bipush 11, 2), (821, .if_icmp .gt 16, 3), (824, .aload_n 1, 1), (825, .iload 16, 2), (827, .iload 15, 2), (829, .invokestatic 67, 3), (832, .iload 20, 2), (834, .if_icmp .ne 7, 3), (837, .iconst 1, 1), (838, .goto 4, 3), (841, .iconst 0, 1), (842, .iand, 1), (843, .istore_n 3, 1), (844, .iinc 16 1, 3), (847, .goto (-280), 3), (850, .iinc 15 1, 3), (853, .goto (-296), 3), (856, .iload_n 3, 1), (857, .aload_n 1, 1), (858, .invokevirtual 81, 3), (861, .iload 13, 2), (863, .if_icmp .ne 16, 3), (866, .aload_n 1, 1), (867, .invokevirtual 85, 3), (870, .iload 14, 2), (872, .if_icmp .ne 7, 3), (875, .iconst 1, 1), (876, .goto 4, 3), (879, .iconst 0, 1), (880, .iand, 1), (881, .istore_n 3, 1), (882, .iconst 0, 1), (883, .istore 15, 2), (885, .iload 15, 2), (887, .iconst 4, 1), (888, .if_icmp .ge 435, 3), (891, .iconst 0, 1), (892, .istore 16, 2), (894, .iconst 0, 1), (895, .istore 17, 2), (897, .iconst 0, 1)]
set_option maxRecDepth 20000 in
theorem dk_L_law_7 : dl_L_law_7.all (fun q => decide (decode cL_law q.1 = .ok (q.2.1, q.2.2))) = true := dq_all 785 (by decide +kernel)
def dl_L_law_8 : List (Nat × Instr × Nat) := [(898, .istore 18, 2), (900, .iconst 0, 1), (901, .istore 19, 2), (903, .iload 19, 2), (905, .bipush 12, 2), (907, .if_icmp .gt 293, 3), (910, .iconst 0, 1), (911, .istore 20, 2), (913, .iconst 0, 1), (914, .istore 21, 2), (916, .iconst 0, 1), (917, .istore 22, 2), (919, .iload 22, 2), (921, .bipush 12, 2), (923, .if_icmp .gt 271, 3), (926, .aload_n 2, 1), (927, .iload 22, 2), (929, .iconst 1, 1), (930, .isub, 1), (931, .iload 19, 2), (933, .iconst 1, 1), (934, .isub, 1), (935, .invokestatic 77, 3), (938, .iload 15, 2), (940, .if_icmp .ne 7, 3), (943, .iconst 1, 1), (944, .goto 4, 3), (947, .iconst 0, 1), (948, .aload_n 2, 1), (949, .iload 22, 2), (951, .iload 19, 2), (953, .iconst 1, 1), (954, .isub, 1), (955, .invokestatic 77, 3), (958, .iload 15, 2), (960, .if_icmp .ne 7, 3), (963, .iconst 1, 1), (964, .goto 4, 3), (967, .iconst 0, 1), (968, .iadd, 1), (969, .aload_n 2, 1), (970, .iload 22, 2), (972, .iconst 1, 1), (973, .isub, 1), (974, .iload 19, 2), (976, .invokestatic 77, 3), (979, .iload 15, 2), (981, .if_icmp .ne 7, 3), (984, .iconst 1, 1), (985, .goto 4, 3), (988, .iconst 0, 1), (989, .iadd, 1), (990, .aload_n 2, 1), (991, .iload 22, 2), (993, .iload 19, 2), (995, .invokestatic 77, 3), (998, .iload 15, 2), (1000, .if_icmp .ne 7, 3), (1003, .iconst 1, 1), (1004, .goto 4, 3)]
set_option maxRecDepth 20000 in
theorem dk_L_law_8 : dl_L_law_8.all (fun q => decide (decode cL_law q.1 = .ok (q.2.1, q.2.2))) = true := dq_all 898 (by decide +kernel)
def dl_L_law_9 : List (Nat × Instr × Nat) := [(1007, .iconst 0, 1), (1008, .iadd, 1), (1009, .istore 23, 2), (1011, .iload 17, 2), (1013, .iload 23, 2), (1015, .iconst 3, 1), (1016, .if_icmp .ne 7, 3), (1019, .iconst 1, 1), (1020, .goto 4, 3), (1023, .iconst 0, 1), (1024, .iadd, 1), (1025, .istore 17, 2), (1027, .iload 16, 2), (1029, .aload_n 2, 1), (1030, .iload 22, 2), (1032, .iload 19, 2), (1034, .invokestatic 77, 3), (1037, .iload 15, 2), (1039, .if_icmp .ne 7, 3), (1042, .iconst 1, 1), (1043, .goto 4, 3), (1046, .iconst 0, 1), (1047, .iadd, 1), (1048, .istore 16, 2), (1050, .aload_n 2, 1), (1051, .iload 22, 2), (1053, .iload 19, 2), (1055, .invokestatic 77, 3), (1058, .iload 15, 2), (1060, .if_icmp .ne 40, 3), (1063, .aload_n 2, 1), (1064, .iload 22, 2), (1066, .iload 19, 2), (1068, .iconst 1, 1), (1069, .isub, 1), (1070, .invokestatic 77, 3), (1073, .iload 15, 2), (1075, .if_icmp .eq 25, 3), (1078, .aload_n 2, 1), (1079, .iload 22, 2), (1081, .iload 19, 2), (1083, .iconst 1, 1), (1084, .iadd, 1), (1085, .invokestatic 77, 3), (1088, .iload 15, 2), (1090, .if_icmp .eq 10, 3), (1093, .iload 20, 2), (1095, .iconst 1, 1), (1096, .iadd, 1), (1097, .goto 4, 3), (1100, .iconst 0, 1), (1101, .istore 20, 2), (1103, .aload_n 2, 1), (1104, .iload 19, 2), (1106, .iload 22, 2), (1108, .invokestatic 77, 3), (1111, .iload 15, 2), (1113, .if_icmp .ne 40, 3), (1116, .aload_n 2, 1), (1117, .iload 19, 2)]
set_option maxRecDepth 20000 in
theorem dk_L_law_9 : dl_L_law_9.all (fun q => decide (decode cL_law q.1 = .ok (q.2.1, q.2.2))) = true := dq_all 1007 (by decide +kernel)
def dl_L_law_10 : List (Nat × Instr × Nat) := [(1119, .iconst 1, 1), (1120, .isub, 1), (1121, .iload 22, 2), (1123, .invokestatic 77, 3), (1126, .iload 15, 2), (1128, .if_icmp .eq 25, 3), (1131, .aload_n 2, 1), (1132, .iload 19, 2), (1134, .iconst 1, 1), (1135, .iadd, 1), (1136, .iload 22, 2), (1138, .invokestatic 77, 3), (1141, .iload 15, 2), (1143, .if_icmp .eq 10, 3), (1146, .iload 21, 2), (1148, .iconst 1, 1), (1149, .iadd, 1), (1150, .goto 4, 3), (1153, .iconst 0, 1), (1154, .istore 21, 2), (1156, .iload 20, 2), (1158, .iload 18, 2), (1160, .if_icmp .le 8, 3), (1163, .iload 20, 2), (1165, .goto 5, 3), (1168, .iload 18, 2), (1170, .istore 18, 2), (1172, .iload 21, 2), (1174, .iload 18, 2), (1176, .if_icmp .le 8, 3), (1179, .iload 21, 2), (1181, .goto 5, 3), (1184, .iload 18, 2), (1186, .istore 18, 2), (1188, .iinc 22 1, 3), (1191, .goto (-272), 3), (1194, .iinc 19 1, 3), (1197, .goto (-294), 3), (1200, .iload_n 3, 1), (1201, .aload_n 1, 1), (1202, .iload 15, 2), (1204, .invokestatic 70, 3), (1207, .iload 16, 2), (1209, .if_icmp .ne 29, 3), (1212, .aload_n 1, 1), (1213, .iload 15, 2), (1215, .invokestatic 88, 3), (1218, .iload 17, 2), (1220, .if_icmp .ne 18, 3), (1223, .aload_n 1, 1), (1224, .iload 15, 2), (1226, .invokestatic 90, 3), (1229, .iload 18, 2), (1231, .if_icmp .ne 7, 3), (1234, .iconst 1, 1), (1235, .goto 4, 3), (1238, .iconst 0, 1), (1239, .iand, 1), (1240, .istore_n 3, 1), (1241, .aload_n 1, 1)]
set_option maxRecDepth 20000 in
theorem dk_L_law_10 : dl_L_law_10.all (fun q => decide (decode cL_law q.1 = .ok (q.2.1, q.2.2))) = true := dq_all 1119 (by decide +kernel)
def dl_L_law_11 : List (Nat × Instr × Nat) := [(1242, .iload 15, 2), (1244, .invokestatic 92, 3), (1247, .istore 19, 2), (1249, .iload 16, 2), (1251, .ifCond .ne 18, 3), (1254, .iload 19, 2), (1256, .bipush 101, 2), (1258, .if_icmp .ne 7, 3), (1261, .iconst 1, 1), (1262, .goto 48, 3), (1265, .iconst 0, 1), (1266, .goto 44, 3), (1269, .iload 19, 2), (1271, .bipush 119, 2), (1273, .if_icmp .eq 32, 3), (1276, .iload 19, 2), (1278, .iload 17, 2), (1280, .iconst 2, 1), (1281, .if_icmp .le 8, 3), (1284, .bipush 99, 2), (1286, .goto 16, 3), (1289, .iload 18, 2), (1291, .iconst 4, 1), (1292, .if_icmp .le 8, 3), (1295, .bipush 112, 2), (1297, .goto 5, 3), (1300, .bipush 45, 2), (1302, .if_icmp .ne 7, 3), (1305, .iconst 1, 1), (1306, .goto 4, 3), (1309, .iconst 0, 1), (1310, .istore 20, 2), (1312, .iload_n 3, 1), (1313, .iload 20, 2), (1315, .iand, 1), (1316, .istore_n 3, 1), (1317, .iinc 15 1, 3), (1320, .goto (-435), 3), (1323, .iinc 4 1, 3), (1326, .goto (-1182), 3), (1329, .new 10, 3), (1332, .dup, 1), (1333, .invokespecial 58, 3), (1336, .astore 4, 2), (1338, .iconst 1, 1), (1339, .aload_n 0, 1), (1340, .bipush 100, 2), (1342, .bipush 8, 2), (1344, .invokestatic 73, 3), (1347, .iadd, 1), (1348, .istore 5, 2), (1350, .iconst 1, 1), (1351, .aload_n 0, 1), (1352, .bipush 101, 2), (1354, .bipush 8, 2), (1356, .invokestatic 73, 3), (1359, .iadd, 1), (1360, .istore 6, 2), (1362, .aload_n 0, 1), (1363, .bipush 102, 2)]
set_option maxRecDepth 20000 in
theorem dk_L_law_11 : dl_L_law_11.all (fun q => decide (decode cL_law q.1 = .ok (q.2.1, q.2.2))) = true := dq_all 1242 (by decide +kernel)
def dl_L_law_12 : List (Nat × Instr × Nat) := [(1365, .bipush 12, 2), (1367, .iload 5, 2), (1369, .isub, 1), (1370, .invokestatic 73, 3), (1373, .istore 7, 2), (1375, .aload_n 0, 1), (1376, .bipush 103, 2), (1378, .bipush 12, 2), (1380, .iload 6, 2), (1382, .isub, 1), (1383, .invokestatic 73, 3), (1386, .istore 8, 2), (1388, .iload_n 3, 1), (1389, .aload 4, 2), (1391, .iload 7, 2), (1393, .iload 8, 2), (1395, .iload 7, 2), (1397, .iload 5, 2), (1399, .iadd, 1), (1400, .iconst 1, 1), (1401, .isub, 1), (1402, .iload 8, 2), (1404, .iload 6, 2), (1406, .iadd, 1), (1407, .iconst 1, 1), (1408, .isub, 1), (1409, .iconst 1, 1), (1410, .invokestatic 61, 3), (1413, .iload 5, 2), (1415, .iload 6, 2), (1417, .imul, 1), (1418, .if_icmp .ne 40, 3), (1421, .aload 4, 2), (1423, .bipush 7, 2), (1425, .iload 7, 2), (1427, .iload 8, 2), (1429, .iload 7, 2), (1431, .iload 5, 2), (1433, .iadd, 1), (1434, .iconst 1, 1), (1435, .isub, 1), (1436, .iload 8, 2), (1438, .iload 6, 2), (1440, .iadd, 1), (1441, .iconst 1, 1), (1442, .isub, 1), (1443, .invokestatic 64, 3), (1446, .iload 5, 2), (1448, .iload 6, 2), (1450, .imul, 1), (1451, .if_icmp .ne 7, 3), (1454, .iconst 1, 1), (1455, .goto 4, 3), (1458, .iconst 0, 1), (1459, .iand, 1), (1460, .istore_n 3, 1), (1461, .iload 5, 2), (1463, .iconst 1, 1), (1464, .if_icmp .ne 8, 3), (1467, .iload 6, 2)]
set_option maxRecDepth 20000 in
theorem dk_L_law_12 : dl_L_law_12.all (fun q => decide (decode cL_law q.1 = .ok (q.2.1, q.2.2))) = true := dq_all 1365 (by decide +kernel)
def dl_L_law_13 : List (Nat × Instr × Nat) := [(1469, .goto 15, 3), (1472, .iload 6, 2), (1474, .iconst 1, 1), (1475, .if_icmp .ne 8, 3), (1478, .iload 5, 2), (1480, .goto 4, 3), (1483, .iconst 0, 1), (1484, .istore 9, 2), (1486, .iload_n 3, 1), (1487, .aload 4, 2), (1489, .bipush 7, 2), (1491, .invokestatic 92, 3), (1494, .iload 9, 2), (1496, .iconst 4, 1), (1497, .if_icmp .le 8, 3), (1500, .bipush 112, 2), (1502, .goto 5, 3), (1505, .bipush 45, 2), (1507, .if_icmp .ne 42, 3), (1510, .aload 4, 2), (1512, .bipush 7, 2), (1514, .invokestatic 88, 3), (1517, .ifCond .ne 32, 3), (1520, .aload 4, 2), (1522, .invokevirtual 81, 3), (1525, .iconst 2, 1), (1526, .iload 5, 2), (1528, .imul, 1), (1529, .iconst 2, 1), (1530, .iload 6, 2), (1532, .imul, 1), (1533, .iadd, 1), (1534, .if_icmp .ne 15, 3), (1537, .aload 4, 2), (1539, .invokevirtual 85, 3), (1542, .ifCond .ne 7, 3), (1545, .iconst 1, 1), (1546, .goto 4, 3), (1549, .iconst 0, 1), (1550, .iand, 1), (1551, .istore_n 3, 1), (1552, .iconst 0, 1), (1553, .istore 10, 2), (1555, .bipush 99, 2), (1557, .istore 11, 2), (1559, .iconst 0, 1), (1560, .istore 12, 2), (1562, .iload 12, 2), (1564, .bipush 14, 2), (1566, .if_icmp .ge 256, 3), (1569, .iload 12, 2), (1571, .bipush 7, 2), (1573, .if_icmp .ge 7, 3), (1576, .iconst 1, 1), (1577, .goto 4, 3), (1580, .iconst 0, 1), (1581, .istore 13, 2), (1583, .iconst 1, 1), (1584, .iload 12, 2), (1586, .bipush 7, 2)]
set_option maxRecDepth 20000 in
theorem dk_L_law_13 : dl_L_law_13.all (fun q => decide (decode cL_law q.1 = .ok (q.2.1, q.2.2))) = true := dq_all 1469 (by decide +kernel)
def dl_L_law_14 : List (Nat × Instr × Nat) := [(1588, .irem, 1), (1589, .iadd, 1), (1590, .istore 14, 2), (1592, .iload 13, 2), (1594, .ifCond .eq 8, 3), (1597, .iload 14, 2), (1599, .goto 5, 3), (1602, .iload 5, 2), (1604, .istore 15, 2), (1606, .iload 13, 2), (1608, .ifCond .eq 11, 3), (1611, .iload 5, 2), (1613, .iload 14, 2), (1615, .isub, 1), (1616, .goto 5, 3), (1619, .iload 5, 2), (1621, .istore 16, 2), (1623, .iload 13, 2), (1625, .ifCond .eq 8, 3), (1628, .iload 6, 2), (1630, .goto 5, 3), (1633, .iload 14, 2), (1635, .istore 17, 2), (1637, .iload 13, 2), (1639, .ifCond .eq 8, 3), (1642, .iload 6, 2), (1644, .goto 8, 3), (1647, .iload 6, 2), (1649, .iload 14, 2), (1651, .isub, 1), (1652, .istore 18, 2), (1654, .iload 16, 2), (1656, .ifCond .le 12, 3), (1659, .iload 18, 2), (1661, .ifCond .le 7, 3), (1664, .iconst 1, 1), (1665, .goto 4, 3), (1668, .iconst 0, 1), (1669, .istore 19, 2), (1671, .iload 15, 2), (1673, .iconst 1, 1), (1674, .if_icmp .ne 8, 3), (1677, .iload 17, 2), (1679, .goto 15, 3), (1682, .iload 17, 2), (1684, .iconst 1, 1), (1685, .if_icmp .ne 8, 3), (1688, .iload 15, 2), (1690, .goto 4, 3), (1693, .iconst 0, 1), (1694, .istore 20, 2), (1696, .iload 16, 2), (1698, .iconst 1, 1), (1699, .if_icmp .ne 8, 3), (1702, .iload 18, 2), (1704, .goto 15, 3), (1707, .iload 18, 2), (1709, .iconst 1, 1), (1710, .if_icmp .ne 8, 3), (1713, .iload 16, 2)]
set_option maxRecDepth 20000 in
theorem dk_L_law_14 : dl_L_law_14.all (fun q => decide (decode cL_law q.1 = .ok (q.2.1, q.2.2))) = true := dq_all 1588 (by decide +kernel)
def dl_L_law_15 : List (Nat × Instr × Nat) := [(1715, .goto 4, 3), (1718, .iconst 0, 1), (1719, .istore 21, 2), (1721, .iload 13, 2), (1723, .ifCond .eq 8, 3), (1726, .iload 6, 2), (1728, .goto 5, 3), (1731, .iload 5, 2), (1733, .istore 22, 2), (1735, .iload 19, 2), (1737, .ifCond .eq 26, 3), (1740, .iload 20, 2), (1742, .iconst 4, 1), (1743, .if_icmp .gt 20, 3), (1746, .iload 21, 2), (1748, .iconst 4, 1), (1749, .if_icmp .gt 14, 3), (1752, .iload 22, 2), (1754, .iload 11, 2), (1756, .if_icmp .ge 7, 3), (1759, .iconst 1, 1), (1760, .goto 4, 3), (1763, .iconst 0, 1), (1764, .istore 23, 2), (1766, .iload 23, 2), (1768, .ifCond .eq 30, 3), (1771, .iload 13, 2), (1773, .ifCond .eq 14, 3), (1776, .iload 5, 2), (1778, .iload 14, 2), (1780, .isub, 1), (1781, .iload 6, 2), (1783, .imul, 1), (1784, .goto 16, 3), (1787, .iload 5, 2), (1789, .iload 6, 2), (1791, .iload 14, 2), (1793, .isub, 1), (1794, .imul, 1), (1795, .goto 5, 3), (1798, .iload 10, 2), (1800, .istore 10, 2), (1802, .iload 23, 2), (1804, .ifCond .eq 8, 3), (1807, .iload 22, 2), (1809, .goto 5, 3), (1812, .iload 11, 2), (1814, .istore 11, 2), (1816, .iinc 12 1, 3), (1819, .goto (-257), 3), (1822, .iload_n 3, 1), (1823, .aload 4, 2), (1825, .bipush 7, 2), (1827, .invokestatic 94, 3), (1830, .iload 11, 2), (1832, .bipush 99, 2), (1834, .if_icmp .ne 8, 3), (1837, .ldc 20, 2), (1839, .goto 4, 3), (1842, .iconst 0, 1)]
set_option maxRecDepth 20000 in
theorem dk_L_law_15 : dl_L_law_15.all (fun q => decide (decode cL_law q.1 = .ok (q.2.1, q.2.2))) = true := dq_all 1715 (by decide +kernel)
def dl_L_law_16 : List (Nat × Instr × Nat) := [(1843, .if_icmp .ne 48, 3), (1846, .aload 4, 2), (1848, .bipush 6, 2), (1850, .invokestatic 94, 3), (1853, .ldc 20, 2), (1855, .if_icmp .ne 36, 3), (1858, .aload 4, 2), (1860, .iconst 0, 1), (1861, .invokestatic 70, 3), (1864, .iload 10, 2), (1866, .if_icmp .ne 25, 3), (1869, .aload 4, 2), (1871, .bipush 7, 2), (1873, .invokestatic 70, 3), (1876, .iload 5, 2), (1878, .iload 6, 2), (1880, .imul, 1), (1881, .iload 10, 2), (1883, .isub, 1), (1884, .if_icmp .ne 7, 3), (1887, .iconst 1, 1), (1888, .goto 4, 3), (1891, .iconst 0, 1), (1892, .iand, 1), (1893, .istore_n 3, 1), (1894, .iload_n 3, 1), (1895, .ifCond .eq 50, 3), (1898, .aload 4, 2), (1900, .invokevirtual 96, 3), (1903, .iload 5, 2), (1905, .iload 6, 2), (1907, .imul, 1), (1908, .i2d, 1), (1909, .iload 10, 2), (1911, .ifCond .ne 7, 3), (1914, .dconst 1, 1), (1915, .goto 6, 3), (1918, .ldc2_w 100, 3), (1921, .ddiv, 1), (1922, .dcmp .l, 1), (1923, .ifCond .ne 22, 3), (1926, .aload 4, 2), (1928, .invokevirtual 102, 3), (1931, .ifCond .eq 14, 3), (1934, .aload_n 1, 1), (1935, .invokevirtual 102, 3), (1938, .ifCond .eq 7, 3), (1941, .iconst 1, 1), (1942, .goto 4, 3), (1945, .iconst 0, 1), (1946, .ireturn, 1)]
set_option maxRecDepth 20000 in
theorem dk_L_law_16 : dl_L_law_16.all (fun q => decide (decode cL_law q.1 = .ok (q.2.1, q.2.2))) = true := dq_all 1843 (by decide +kernel)
end
section
/-! ===== the abstract machine: values and memory with logical addresses ===== -/
abbrev am_E : Type := Nat → Option va_E
abbrev am_L : Type := List (Option Value)
abbrev am_C : Type := am_L → List Value → Nat → am_E → Nat → Nat → Prop
abbrev am_O : Type := Option Value ⊕ String
abbrev am_P : Type := am_O → Nat → am_E → Prop
abbrev am_S : Type := List Value → Nat → am_E → am_P → Prop
def am_u (E : am_E) (k : Nat) (e : va_E) : am_E := fun j => if j = k then some e else E j
def am_tr (ad ro : Nat → Nat) (v : Value) : Value := match v with
  | .ref k => .ref (ad k)
  | .retAddr k => .ref (ro k)
  | .int x => .int x
  | .long x => .long x
  | .float x => .float x
  | .double x => .double x
  | .null => .null
def am_lt (n : Nat) (v : Value) : Prop := match v with
  | .ref k => k < n
  | _ => True
def am_ta (ad : Nat → Nat) (a : vp_A) : vp_A := (a.1, match a.2 with
  | .inl f => .inl f
  | .inr (.inl f) => .inr (.inl f)
  | .inr (.inr (.inl f)) => .inr (.inr (.inl f))
  | .inr (.inr (.inr (.inl f))) => .inr (.inr (.inr (.inl f)))
  | .inr (.inr (.inr (.inr f))) => .inr (.inr (.inr (.inr (fun j => (f j).map ad)))))
def am_te (dA : Nat → Nat) (ad ro : Nat → Nat) (e : va_E) : va_E := match e with
  | .inl (t, a) => .inl (dA t, am_ta ad a)
  | .inr (c, fs) => .inr (c, fs.map (am_tr ad ro))
def am_la (n : Nat) (a : vp_A) : Prop := match a.2 with
  | .inr (.inr (.inr (.inr f))) => ∀ (j k : Nat), f j = some k → k < n
  | _ => True
def am_le (n : Nat) (e : va_E) : Prop := match e with
  | .inl (_, a) => am_la n a
  | .inr (_, fs) => ∀ v ∈ fs, am_lt n v
def am_we (n : Nat) (E : am_E) : Prop := ∀ k : Nat, (k < n → (E k).isSome = true) ∧ ∀ e : va_E, E k = some e → k < n ∧ am_le n e
def am_w (dA : Nat → Nat) (ad ro : Nat → Nat) (n : Nat) (E : am_E) : va_W := (List.range n).map (fun k => (ad k, am_te dA ad ro ((E k).getD (.inr (0, [])))))
def am_has (ad ro : Nat → Nat) (nL : Nat) (L : Array Slot) (ls : am_L) : Prop := L.size = nL ∧ lv_wf L ∧ ∀ (i : Nat) (v : Value), ls[i]? = some (some v) → L[i]? = some (.val (am_tr ad ro v))
theorem am_w_at {dA ad ro : Nat → Nat} {n k : Nat} {E : am_E} {e : va_E} (h : k < n) (he : E k = some e) : (am_w dA ad ro n E)[k]? = some (ad k, am_te dA ad ro e) := by
  simp [am_w, h, he]
theorem am_w_len {dA ad ro : Nat → Nat} {n : Nat} {E : am_E} : (am_w dA ad ro n E).length = n := by simp [am_w]
theorem am_w_set {dA ad ro : Nat → Nat} {n k : Nat} {E : am_E} {e : va_E} (h : k < n) : (am_w dA ad ro n E).set k (ad k, am_te dA ad ro e) = am_w dA ad ro n (am_u E k e) := by
  apply List.ext_getElem?
  intro j
  by_cases hj : j = k
  · subst hj
    rw [List.getElem?_set_self (by rw [am_w_len]; exact h), am_w_at h (e := e) (by simp [am_u])]
  · rw [List.getElem?_set_ne (Ne.symm hj)]
    by_cases hn : j < n
    · simp [am_w, am_u, hj, hn]
    · simp [am_w, am_u, hn]
theorem am_tr_cat (ad ro : Nat → Nat) (v : Value) : (am_tr ad ro v).category = v.category := by cases v <;> rfl
theorem am_tr_cg {ad ad' ro : Nat → Nat} {n : Nat} {v : Value} (h : am_lt n v) (ha : ∀ k, k < n → ad' k = ad k) : am_tr ad' ro v = am_tr ad ro v := by
  cases v with
  | ref k => exact congrArg Value.ref (ha k h)
  | _ => rfl
theorem am_st_cg {ad ad' ro : Nat → Nat} {n : Nat} {st : List Value} (h : ∀ v ∈ st, am_lt n v) (ha : ∀ k, k < n → ad' k = ad k) : st.map (am_tr ad' ro) = st.map (am_tr ad ro) :=
  List.map_congr_left fun v hv => am_tr_cg (h v hv) ha
theorem am_te_cg {dA ad ad' ro : Nat → Nat} {n : Nat} {e : va_E} (h : am_le n e) (ha : ∀ k, k < n → ad' k = ad k) : am_te dA ad' ro e = am_te dA ad ro e := by
  cases e with
  | inl x =>
    obtain ⟨t, N, f | f | f | f | f⟩ := x
    · rfl
    · rfl
    · rfl
    · rfl
    · have h9 : (fun j => (f j).map ad') = (fun j => (f j).map ad) := by
        funext j
        cases hf : f j with
        | none => rfl
        | some k => exact congrArg some (ha k (h j k hf))
      show (Sum.inl (dA t, (N, Sum.inr (Sum.inr (Sum.inr (Sum.inr (fun j => (f j).map ad')))))) : va_E) = _
      rw [h9]
      rfl
  | inr x =>
    obtain ⟨c, fs⟩ := x
    show (Sum.inr (c, fs.map (am_tr ad' ro)) : va_E) = Sum.inr (c, fs.map (am_tr ad ro))
    rw [am_st_cg h ha]
theorem am_has_cg {ad ad' ro : Nat → Nat} {n nL : Nat} {L : Array Slot} {ls : am_L} (h : am_has ad ro nL L ls) (hl : ∀ v, some v ∈ ls → am_lt n v) (ha : ∀ k, k < n → ad' k = ad k) : am_has ad' ro nL L ls :=
  ⟨h.1, h.2.1, fun i v hv => by rw [h.2.2 i v hv, am_tr_cg (hl v (List.mem_of_getElem? hv)) ha]⟩
theorem am_lt_mono {n n' : Nat} (h : n ≤ n') {v : Value} (hv : am_lt n v) : am_lt n' v := by
  cases v with
  | ref k => exact Nat.lt_of_lt_of_le hv h
  | _ => trivial
theorem am_le_mono {n n' : Nat} (h : n ≤ n') {e : va_E} (he : am_le n e) : am_le n' e := by
  cases e with
  | inl x =>
    obtain ⟨t, N, f | f | f | f | f⟩ := x
    · trivial
    · trivial
    · trivial
    · trivial
    · exact fun j k hf => Nat.lt_of_lt_of_le (he j k hf) h
  | inr x => exact fun v hv => am_lt_mono h (he v hv)
theorem am_we_u {n k : Nat} {E : am_E} {e : va_E} (h : am_we n E) (hk : k < n) (he : am_le n e) : am_we n (am_u E k e) := by
  intro j
  by_cases hj : j = k
  · subst hj
    refine ⟨fun _ => by simp [am_u], fun e' h' => ?_⟩
    simp [am_u] at h'
    subst h'
    exact ⟨hk, he⟩
  · simpa [am_u, hj] using h j
theorem am_we_push {n : Nat} {E : am_E} {e : va_E} (h : am_we n E) (he : am_le (n + 1) e) : am_we (n + 1) (am_u E n e) := by
  intro j
  by_cases hj : j = n
  · subst hj
    refine ⟨fun _ => by simp [am_u], fun e' h' => ?_⟩
    simp [am_u] at h'
    subst h'
    exact ⟨Nat.lt_succ_self _, he⟩
  · refine ⟨fun h1 => ?_, fun e' h' => ?_⟩
    · simpa [am_u, hj] using (h j).1 (by omega)
    · have h2 := (h j).2 e' (by simpa [am_u, hj] using h')
      exact ⟨by omega, am_le_mono (Nat.le_succ n) h2.2⟩
def am_up (ad : Nat → Nat) (n q : Nat) : Nat → Nat := fun k => if k = n then q else ad k
theorem am_up_lt {ad : Nat → Nat} {n q : Nat} : ∀ k, k < n → am_up ad n q k = ad k := fun k h => by simp [am_up, Nat.ne_of_lt h]
theorem am_up_eq {ad : Nat → Nat} {n q : Nat} : am_up ad n q n = q := by simp [am_up]
theorem am_w_push {dA ad ro : Nat → Nat} {n q : Nat} {E : am_E} {e : va_E} (h : am_we n E) : am_w dA (am_up ad n q) ro (n + 1) (am_u E n e) = am_w dA ad ro n E ++ [(q, am_te dA (am_up ad n q) ro e)] := by
  unfold am_w
  rw [List.range_succ, List.map_append]
  congr 1
  · apply List.map_congr_left
    intro k hk
    have hk : k < n := List.mem_range.mp hk
    obtain ⟨e', he⟩ := Option.isSome_iff_exists.mp ((h k).1 hk)
    have h1 : am_u E n e k = E k := by simp [am_u, Nat.ne_of_lt hk]
    rw [h1, he, am_up_lt k hk]
    show (ad k, am_te dA (am_up ad n q) ro e') = (ad k, am_te dA ad ro e')
    rw [am_te_cg ((h k).2 e' he).2 am_up_lt]
  · simp [am_u, am_up_eq]
theorem am_cs {n : Nat} {w : Value} {r : List Value} (hw : am_lt n w) (h : ∀ v ∈ r, am_lt n v) : ∀ v ∈ w :: r, am_lt n v := fun v hv => (List.mem_cons.mp hv).elim (fun e => e ▸ hw) (h v)
theorem am_tl {n : Nat} {w : Value} {r : List Value} (h : ∀ v ∈ w :: r, am_lt n v) : ∀ v ∈ r, am_lt n v := fun v hv => h v (List.mem_cons_of_mem _ hv)
theorem am_hd {n : Nat} {w : Value} {r : List Value} (h : ∀ v ∈ w :: r, am_lt n v) : am_lt n w := h w List.mem_cons_self
/-! the array types of this claim; the tables' good words -/
def am_tys (dA : Nat → Nat) : List (ClassId × FieldType) := [(dA 0, .int), (dA 1, .long), (dA 2, .int), (dA 3, .int), (dA 4, .int), (dA 5, .object "LeadlightHall$Pane"), (dA 6, .object "LeadlightHall$Sheet"), (dA 7, .int), (dA 8, .int), (dA 9, .array .int)]
def am_WS : List Cond := lw_tbl.filter goodWord
theorem am_in {w : Cond} (h : w ∈ lw_tbl) (g : goodWord w = true) : w ∈ am_WS := List.mem_filter.mpr ⟨h, g⟩
theorem am_intb {w : Cond} (h : w ∈ tables_1) : w ∈ lw_tbl := List.mem_append_right _ h
theorem am_t1 {w : Cond} (h : w ∈ tables_1_1) : w ∈ tables_1 := List.mem_append_left _ h
theorem am_tb1 {w : Cond} (h : w ∈ tables_1_1) : w ∈ lw_tbl := am_intb (am_t1 h)
theorem am_t2 {w : Cond} (h : w ∈ tables_1_2) : w ∈ tables_1 := List.mem_append_right _ (List.mem_append_left _ h)
theorem am_tb2 {w : Cond} (h : w ∈ tables_1_2) : w ∈ lw_tbl := am_intb (am_t2 h)
theorem am_t3 {w : Cond} (h : w ∈ tables_1_3) : w ∈ tables_1 := List.mem_append_right _ (List.mem_append_right _ (h))
theorem am_tb3 {w : Cond} (h : w ∈ tables_1_3) : w ∈ lw_tbl := am_intb (am_t3 h)
/-! the other words: they speak of the tables alone, and stay as these grow -/
def am_nk : Cond → Bool
  | .fieldLinkNest .. | .methodLinkNest .. | .castable .. | .declares _ => true
  | _ => false
def am_NW : List Cond := tables_1.filter am_nk
theorem am_nk_warm {w : Cond} (g : am_nk w = true) {s U : State} (hW : s.WarmedH U.vm) (h : va_Nw w s) : va_Nw w U := by
  cases w <;> first | exact va_Nw.warmF hW h | exact va_Nw.warmM hW h | exact va_Nw.warmC hW h | exact va_Nw.warmD hW h | cases g
theorem am_nk_same {w : Cond} (g : am_nk w = true) {s U : State} (hv : s.vm = U.vm) (h : va_Nw w s) : va_Nw w U := by
  cases w <;> first | exact va_Nw.same rfl hv h | cases g
theorem am_nk_use {w : Cond} (g : am_nk w = true) {A : Array Value} {U : State} (h : va_Nw w U) : w.before A U = true := by
  cases w <;> first | exact va_Nw.use rfl h | cases g
theorem am_nk_of {w : Cond} (g : am_nk w = true) {A : Array Value} {U : State} (h : w.before A U = true) : va_Nw w U := by
  cases w <;> first | exact va_Nw.of rfl h | cases g
def am_SR : List (String × Nat × String) := [("LeadlightHall", 407, "there are no pieces"), ("LeadlightHall", 426, "there are no such cells"), ("LeadlightHall", 94, "there is glass, or the window is up"), ("LeadlightHall", 417, "there is no such number of a piece"), ("LeadlightHall", 118, "no cell is open"), ("LeadlightHall", 424, "there is no such cell"), ("LeadlightHall", 147, "no lead can be"), ("LeadlightHall", 154, "all numbers have cells")]
def am_NC : List (String × String) := [("LeadlightHall", "java/lang/IllegalArgumentException"), ("LeadlightHall", "java/lang/IllegalStateException"), ("LeadlightHall", "java/lang/IndexOutOfBoundsException"), ("LeadlightHall", "java/lang/UnsupportedOperationException"), ("LeadlightHall$Frame", "java/lang/IllegalArgumentException"), ("LeadlightHall$Frame", "java/lang/IllegalStateException"), ("LeadlightHall$Frame", "java/lang/IndexOutOfBoundsException"), ("LeadlightHall$Frame", "java/lang/UnsupportedOperationException"), ("LeadlightHall$Paint", "java/lang/IllegalArgumentException"), ("LeadlightHall$Paint", "java/lang/IllegalStateException"), ("LeadlightHall$Paint", "java/lang/IndexOutOfBoundsException"), ("LeadlightHall$Paint", "java/lang/UnsupportedOperationException"), ("LeadlightHall$Pane", "java/lang/IllegalArgumentException"), ("LeadlightHall$Pane", "java/lang/IllegalStateException"), ("LeadlightHall$Pane", "java/lang/IndexOutOfBoundsException"), ("LeadlightHall$Pane", "java/lang/UnsupportedOperationException"), ("LeadlightHall$Shape", "java/lang/IllegalArgumentException"), ("LeadlightHall$Shape", "java/lang/IllegalStateException"), ("LeadlightHall$Shape", "java/lang/IndexOutOfBoundsException"), ("LeadlightHall$Shape", "java/lang/UnsupportedOperationException"), ("LeadlightHall$Sheet", "java/lang/IllegalArgumentException"), ("LeadlightHall$Sheet", "java/lang/IllegalStateException"), ("LeadlightHall$Sheet", "java/lang/IndexOutOfBoundsException"), ("LeadlightHall$Sheet", "java/lang/UnsupportedOperationException"), ("LeadlightHall$Wall", "java/lang/IllegalArgumentException"), ("LeadlightHall$Wall", "java/lang/IllegalStateException"), ("LeadlightHall$Wall", "java/lang/IndexOutOfBoundsException"), ("LeadlightHall$Wall", "java/lang/UnsupportedOperationException"), ("LeadlightHall$YearSet", "java/lang/IllegalArgumentException"), ("LeadlightHall$YearSet", "java/lang/IllegalStateException"), ("LeadlightHall$YearSet", "java/lang/IndexOutOfBoundsException"), ("LeadlightHall$YearSet", "java/lang/UnsupportedOperationException"), ("java/lang/IllegalArgumentException", "java/lang/IllegalStateException"), ("java/lang/IllegalArgumentException", "java/lang/IndexOutOfBoundsException"), ("java/lang/IllegalArgumentException", "java/lang/UnsupportedOperationException"), ("java/lang/IllegalStateException", "java/lang/IllegalArgumentException"), ("java/lang/IllegalStateException", "java/lang/IndexOutOfBoundsException"), ("java/lang/IllegalStateException", "java/lang/UnsupportedOperationException"), ("java/lang/IndexOutOfBoundsException", "java/lang/IllegalArgumentException"), ("java/lang/IndexOutOfBoundsException", "java/lang/IllegalStateException"), ("java/lang/IndexOutOfBoundsException", "java/lang/UnsupportedOperationException"), ("java/lang/UnsupportedOperationException", "java/lang/IllegalArgumentException"), ("java/lang/UnsupportedOperationException", "java/lang/IllegalStateException"), ("java/lang/UnsupportedOperationException", "java/lang/IndexOutOfBoundsException"), ("java/util/NoSuchElementException", "java/lang/IllegalArgumentException"), ("java/util/NoSuchElementException", "java/lang/IllegalStateException"), ("java/util/NoSuchElementException", "java/lang/IndexOutOfBoundsException"), ("java/util/NoSuchElementException", "java/lang/UnsupportedOperationException")]
end
section
/-! ===== what else a method's start gives: words that are not good ones, texts, statics ===== -/
def am_xf (k j : Nat) : Int32 := match k with
  | 1 => [116, 109, 115, 101].getD j 0
  | 2 => [660, 620, 580, 540].getD j 0
  | 3 => [1, -1, 0, 0].getD j 0
  | 4 => [0, 0, 1, -1].getD j 0
  | _ => [660, 620, 580, 540].getD j 0
def am_sta (ro : Nat → Nat) (A : Nat → Prop) (U : State) (H : Heap) (C n d : String) (ty : FieldType) (k : Nat) : Prop := True
/-- what cannot be cast, the text KINDS, strings are compact -/
def am_ex2 (ro : Nat → Nat) (A : Nat → Prop) (U : State) (H : Heap) : Prop :=
  (∀ q ∈ am_NC, va_Nc q.1 q.2 U) ∧ ∃ (L : Nat) (xs : Nat → Int32), L ≤ 260 ∧ va_T .int (ro 0) L (fun j => .int (xs j)) A U H
theorem am_ex2.step {ro : Nat → Nat} {A B : Nat → Prop} {s U : State} {H0 H : Heap} (h : am_ex2 ro A s H0) (hW : s.WarmedH U.vm) (hB : ∀ q, B q → A q) (hq : ∀ a : Nat, a < H0.size → ¬ A a → H[a]? = H0[a]?) : am_ex2 ro B U H :=
  ⟨fun q w => va_Nc.moved hW.alike (h.1 q w), h.2.elim (fun L h => h.elim (fun xs h => ⟨L, xs, h.1, va_T.narrow (va_T.moved hW.alike (h.2.kept hq)) hB⟩))⟩
def am_ext (ro : Nat → Nat) (A : Nat → Prop) (U : State) (H : Heap) : Prop :=
  (∀ w ∈ am_NW, va_Nw w U) ∧ (∀ q ∈ am_SR, ∃ a : Nat, vk_R q.1 q.2.1 q.2.2 a U) ∧
  (va_AO "LeadlightHall$Pane" U ∧ va_AO "LeadlightHall$Sheet" U ∧ True ∧ True ∧ va_AOA .int U) ∧
  (vx_Zq Bundle.tN "UNASSIGNED_STACK" Bundle.steD A U H ∧ vx_Zq Bundle.tN "SUPPRESSED_SENTINEL" Bundle.listD A U H) ∧
  am_sta ro A U H "LeadlightHall$Paint" "LETTERS" "[C" .char 1 ∧ am_sta ro A U H "LeadlightHall$Paint" "HEATS" "[I" .int 2 ∧
  am_sta ro A U H "LeadlightHallModel" "DX" "[I" .int 3 ∧ am_sta ro A U H "LeadlightHallModel" "DY" "[I" .int 4 ∧ am_sta ro A U H "LeadlightHallModel" "HEATS" "[I" .int 5 ∧ am_ex2 ro A U H
theorem am_sta.step {ro : Nat → Nat} {A B : Nat → Prop} {s U : State} {H0 H : Heap} {C n d : String} {ty : FieldType} {k : Nat} (h : am_sta ro A s H0 C n d ty k) (hW : s.WarmedH U.vm) (hB : ∀ q, B q → A q) (hq : ∀ a : Nat, a < H0.size → ¬ A a → H[a]? = H0[a]?) : am_sta ro B U H C n d ty k :=
  trivial
theorem am_ext.step {ro : Nat → Nat} {A B : Nat → Prop} {s U : State} {H0 H : Heap} (h : am_ext ro A s H0) (hW : s.WarmedH U.vm) (hB : ∀ q, B q → A q) (hq : ∀ a : Nat, a < H0.size → ¬ A a → H[a]? = H0[a]?) : am_ext ro B U H := by
  obtain ⟨h1, h2, ⟨a1, a2, a3, a4, a5⟩, ⟨z1, z2⟩, t1, t2, t3, t4, t5, t6⟩ := h
  refine ⟨fun w hw => am_nk_warm (List.mem_filter.mp hw).2 hW (h1 w hw), fun q hq => ?_, ⟨va_AO.moved hW.alike a1, va_AO.moved hW.alike a2, trivial, trivial, va_AOA.moved hW.alike a5⟩, ⟨vx_Zq.narrow (vx_Zq.moved hW.alike (z1.kept hq)) hB, vx_Zq.narrow (vx_Zq.moved hW.alike (z2.kept hq)) hB⟩, t1.step hW hB hq, t2.step hW hB hq, t3.step hW hB hq, t4.step hW hB hq, t5.step hW hB hq, t6.step hW hB hq⟩
  obtain ⟨a, ha⟩ := h2 q hq
  exact ⟨a, vk_R.warm hW ha⟩
/-! ===== a method's contract over the abstract machine ===== -/
def am_A (ad : Nat → Nat) (n sz : Nat) : Nat → Prop := fun q => (∃ k : Nat, k < n ∧ ad k = q) ∨ sz ≤ q
def am_Pc (D : va_G) (dA ro ad : Nat → Nat) (n : Nat) (E : am_E) (sz : Nat) (as : List Value) : Array Value → State → Prop := va_Pc (as.map (am_tr ad ro)) (fun U => U.heap.size = sz ∧ va_P D vwCl (am_w dA ad ro n E) U.heap ∧ va_K D vwCl (am_tys dA) U ∧ va_D (am_A ad n sz) (am_w dA ad ro n E) ∧ am_ext ro (am_A ad n sz) U U.heap)
def am_end (D : va_G) (dA ro ad : Nat → Nat) (n sz n' : Nat) (E' : am_E) (ok : (Nat → Nat) → Prop) (t : State) : Prop := ∃ ad' : Nat → Nat, (∀ k, k < n → ad' k = ad k) ∧ n ≤ n' ∧ am_we n' E' ∧ va_P D vwCl (am_w dA ad' ro n' E') t.heap ∧ va_D (am_A ad n sz) (am_w dA ad' ro n' E') ∧ ok ad'
def am_Qc (D : va_G) (dA ro ad : Nat → Nat) (n sz : Nat) (K : am_P) : Array Value → State → Outcome → State → Prop := fun _ st o t => (∃ (v : Option Value) (n' : Nat) (E' : am_E), K (.inl v) n' E' ∧ (∀ w, v = some w → am_lt n' w) ∧ am_end D dA ro ad n sz n' E' (fun ad' => o = .returned (v.map (am_tr ad' ro))) t) ∧ va_F (am_A ad n sz) st t
def am_Xc (D : va_G) (dA ro ad : Nat → Nat) (n sz : Nat) (K : am_P) : String → State → State → Prop := fun C st t => (∃ (n' : Nat) (E' : am_E), K (.inr C) n' E' ∧ am_end D dA ro ad n sz n' E' (fun _ => True) t) ∧ va_F (am_A ad n sz) st t
def am_Ct (l : Launch) (y : MethodName) (ws : List Cond) (rm : Room) (S : am_S) : Prop := ∀ (D : va_G) (dA ro ad : Nat → Nat) (n : Nat) (E : am_E) (sz : Nat) (as : List Value) (K : am_P), am_we n E → (∀ v ∈ as, am_lt n v) → S as n E K → vx_Met l y ws rm (am_Pc D dA ro ad n E sz as) (am_Qc D dA ro ad n sz K) (am_Xc D dA ro ad n sz K) rm.cells rm.slots (am_A ad n sz)
/-! a walk's standing facts -/
abbrev am_X : Type := Program × Launch × Env × Room × State × MethodId × Array Value × List Frame × Method × Code × va_G × (Nat → Nat) × (Nat → Nat) × (Nat → Nat) × Nat × Nat × (Nat → Prop) × (State → Prop)
def am_G (X : am_X) (pc : Nat) : am_C := match X with
  | (p, l, e, R, s, m, args, below, meth, c, D, dA, ro, ad0, n0, nL, A, Q) => fun ls st n E ca sl =>
    ∀ (ad : Nat → Nat) (H : Heap) (locs : List Loc) (L : Array Slot), (∀ k, k < n0 → ad k = ad0 k) → n0 ≤ n → am_we n E → (∀ v ∈ st, am_lt n v) → (∀ v, some v ∈ ls → am_lt n v) → va_P D vwCl (am_w dA ad ro n E) H → va_D A (am_w dA ad ro n E) → va_S A s.heap H locs → am_has ad ro nL L ls → ca ≤ R.cells → sl ≤ R.slots → W p l e R s m args below meth c H locs ca sl Q (F0 m pc L (st.map (am_tr ad ro)))
def am_F (X : am_X) (cc : ByteArray) (own : String) (ret : Option FieldType) (Ts : List Cond) : Prop := match X with
  | (p, l, _, _, s, m, args, _, meth, c, D, dA, ro, _, _, nL, A, _) => p.tables.exec = Jvm.exec ∧ c.code = cc ∧ c.maxLocals = nL ∧ s.vm.findClass own = some m.cls ∧ (∀ w ∈ Ts, w.before args s = true) ∧ va_K D vwCl (am_tys dA) s ∧ (∀ q : Nat, s.heap.size ≤ q → A q) ∧ am_ext ro A s s.heap ∧ l.stackTraces = false ∧ meth.locks = false ∧ meth.sig.returnType = ret ∧ ∀ w ∈ am_WS, w ∈ Ts
def am_FQ (X : am_X) (K : am_P) (mc ms : Nat) : Prop := match X with
  | (_, _, _, R, s, _, args, below, _, _, D, dA, ro, ad0, n0, _, A, Q) => Q = vx_MQ below (am_Qc D dA ro ad0 n0 s.heap.size K) (am_Xc D dA ro ad0 n0 s.heap.size K) args s mc ms A ∧ A = am_A ad0 n0 s.heap.size ∧ R.cells = mc ∧ R.slots = ms
def am_imp (k G : am_C) : Prop := ∀ ls st n E ca sl, k ls st n E ca sl → G ls st n E ca sl
theorem am_id (G : am_C) : am_imp G G := fun _ _ _ _ _ _ h => h
theorem am_dk {b : ByteArray} {L : List (Nat × Instr × Nat)} (h : L.all (fun q => decide (decode b q.1 = .ok (q.2.1, q.2.2))) = true) (i : Nat) {q : Nat × Instr × Nat} (hq : L[i]? = some q) : decode b q.1 = .ok (q.2.1, q.2.2) := of_decide_eq_true (List.all_eq_true.mp h q (List.mem_of_getElem? hq))
def am_nL (X : am_X) : Nat := match X with
  | (_, _, _, _, _, _, _, _, _, _, _, _, _, _, _, nL, _, _) => nL
def am_ini (X : am_X) : Prop := match X with
  | (_, _, _, _, _, _, _, _, meth, _, _, _, _, _, _, _, _, _) => meth.name = "<init>"
/-! ===== locals ===== -/
def am_al (ls : am_L) (ad ro : Nat → Nat) : List (Nat × Value) := (List.range ls.length).filterMap (fun i => match ls[i]? with
  | some (some v) => some (i, am_tr ad ro v)
  | _ => none)
theorem am_al_mem {ls : am_L} {ad ro : Nat → Nat} {q : Nat × Value} : q ∈ am_al ls ad ro ↔ ∃ v, ls[q.1]? = some (some v) ∧ q.2 = am_tr ad ro v := by
  unfold am_al
  rw [List.mem_filterMap]
  constructor
  · rintro ⟨i, -, hi⟩
    split at hi
    · rename_i v hv
      cases hi
      exact ⟨v, hv, rfl⟩
    · cases hi
  · rintro ⟨v, hv, h2⟩
    refine ⟨q.1, List.mem_range.mpr (List.getElem?_eq_some_iff.mp hv).1, ?_⟩
    rw [hv]
    exact congrArg some (Prod.ext rfl h2.symm)
theorem am_has.lv {ad ro : Nat → Nat} {nL : Nat} {L : Array Slot} {ls : am_L} (h : am_has ad ro nL L ls) : lv_has L nL (am_al ls ad ro) := ⟨h.1, h.2.1, fun q hq => by
  obtain ⟨v, hv, h2⟩ := am_al_mem.mp hq
  rw [h.2.2 q.1 v hv, h2]⟩
/-- a long's first half at i stands no longer -/
def am_kill (ls : am_L) (i : Nat) : am_L := match i with
  | 0 => ls
  | j + 1 => match ls[j]? with
    | some (some (.long _)) => ls.set j none
    | some (some (.double _)) => ls.set j none
    | _ => ls
def am_s1 (ls : am_L) (i : Nat) (v : Value) : am_L := (am_kill ls i).set i (some v)
def am_s2 (ls : am_L) (i : Nat) (v : Value) : am_L := ((am_kill ls i).set i (some v)).set (i + 1) none
theorem am_kill_at {ls : am_L} {i j : Nat} {v : Value} (h : (am_kill ls i)[j]? = some (some v)) : ls[j]? = some (some v) ∧ ¬ (j + 1 = i ∧ v.category = 2) := by
  cases i with
  | zero => exact ⟨h, by omega⟩
  | succ k =>
    simp only [am_kill] at h
    split at h
    · rename_i y hy
      by_cases hk : k = j
      · subst hk
        rw [List.getElem?_set_self (List.getElem?_eq_some_iff.mp hy).1] at h
        cases h
      · rw [List.getElem?_set_ne hk] at h
        exact ⟨h, by omega⟩
    · rename_i y hy
      by_cases hk : k = j
      · subst hk
        rw [List.getElem?_set_self (List.getElem?_eq_some_iff.mp hy).1] at h
        cases h
      · rw [List.getElem?_set_ne hk] at h
        exact ⟨h, by omega⟩
    · rename_i n1 n2
      refine ⟨h, ?_⟩
      rintro ⟨e, hc⟩
      have hjk : j = k := by omega
      subst hjk
      cases v with
      | long y => exact n1 _ h
      | double y => exact n2 _ h
      | _ => simp [Value.category] at hc
theorem am_has_s1 {ad ro : Nat → Nat} {nL i : Nat} {L L' : Array Slot} {ls : am_L} {v : Value} (h : lv_has L' nL ((i, am_tr ad ro v) :: (am_al ls ad ro).filter (fun q => !(q.1 == i) && !(q.1 + 1 == i && q.2.category == 2)))) : am_has ad ro nL L' (am_s1 ls i v) := by
  refine ⟨h.1, h.2.1, fun j w hw => ?_⟩
  unfold am_s1 at hw
  by_cases hj : j = i
  · subst hj
    have hl : j < (am_kill ls j).length := by
      have := (List.getElem?_eq_some_iff.mp hw).1
      simpa using this
    rw [List.getElem?_set_self hl] at hw
    cases hw
    exact h.2.2 (j, am_tr ad ro v) List.mem_cons_self
  · rw [List.getElem?_set_ne (fun q => hj q.symm)] at hw
    obtain ⟨h1, h2⟩ := am_kill_at hw
    refine h.2.2 (j, am_tr ad ro w) (List.mem_cons_of_mem _ (List.mem_filter.mpr ⟨am_al_mem.mpr ⟨w, h1, rfl⟩, ?_⟩))
    have e : (am_tr ad ro w).category = w.category := am_tr_cat ad ro w
    simp only [e]
    by_cases hc : j + 1 = i
    · have hc2 : ¬ w.category = 2 := fun q => h2 ⟨hc, q⟩
      simp [hj, hc, hc2]
    · simp [hj, hc]
theorem am_has_s2 {ad ro : Nat → Nat} {nL i : Nat} {L L' : Array Slot} {ls : am_L} {v : Value} (h : lv_has L' nL ((i, am_tr ad ro v) :: (am_al ls ad ro).filter (fun q => !(q.1 == i) && (!(q.1 == i + 1) && !(q.1 + 1 == i && q.2.category == 2))))) : am_has ad ro nL L' (am_s2 ls i v) := by
  refine ⟨h.1, h.2.1, fun j w hw => ?_⟩
  unfold am_s2 at hw
  by_cases hj1 : j = i + 1
  · subst hj1
    exfalso
    have hl : i + 1 < ((am_kill ls i).set i (some v)).length := by
      have := (List.getElem?_eq_some_iff.mp hw).1
      simpa using this
    rw [List.getElem?_set_self hl] at hw
    cases hw
  rw [List.getElem?_set_ne (fun q => hj1 q.symm)] at hw
  by_cases hj : j = i
  · subst hj
    have hl : j < (am_kill ls j).length := by
      have := (List.getElem?_eq_some_iff.mp hw).1
      simpa using this
    rw [List.getElem?_set_self hl] at hw
    cases hw
    exact h.2.2 (j, am_tr ad ro v) List.mem_cons_self
  · rw [List.getElem?_set_ne (fun q => hj q.symm)] at hw
    obtain ⟨h1, h2⟩ := am_kill_at hw
    refine h.2.2 (j, am_tr ad ro w) (List.mem_cons_of_mem _ (List.mem_filter.mpr ⟨am_al_mem.mpr ⟨w, h1, rfl⟩, ?_⟩))
    have e : (am_tr ad ro w).category = w.category := am_tr_cat ad ro w
    simp only [e]
    by_cases hc : j + 1 = i
    · have hc2 : ¬ w.category = 2 := fun q => h2 ⟨hc, q⟩
      simp [hj, hj1, hc, hc2]
    · simp [hj, hj1, hc]
theorem am_kill_len {ls : am_L} {i : Nat} : (am_kill ls i).length = ls.length := by
  unfold am_kill
  split
  · rfl
  · split <;> simp
theorem am_kill_mem {ls : am_L} {i : Nat} {w : Value} (h : some w ∈ am_kill ls i) : some w ∈ ls := by
  obtain ⟨j, hj⟩ := List.getElem?_of_mem h
  exact List.mem_of_getElem? (am_kill_at hj).1
theorem am_s1_lt {n i : Nat} {ls : am_L} {v : Value} (h : ∀ w, some w ∈ ls → am_lt n w) (hv : am_lt n v) : ∀ w, some w ∈ am_s1 ls i v → am_lt n w := by
  intro w hw
  rcases List.mem_or_eq_of_mem_set hw with h1 | h1
  · exact h w (am_kill_mem h1)
  · cases h1
    exact hv
theorem am_s2_lt {n i : Nat} {ls : am_L} {v : Value} (h : ∀ w, some w ∈ ls → am_lt n w) (hv : am_lt n v) : ∀ w, some w ∈ am_s2 ls i v → am_lt n w := by
  intro w hw
  rcases List.mem_or_eq_of_mem_set hw with h1 | h1
  · rcases List.mem_or_eq_of_mem_set h1 with h2 | h2
    · exact h w (am_kill_mem h2)
    · cases h2
      exact hv
  · cases h1

def o_pi (x : Int32) (k : am_C) : am_C := fun ls st n E ca sl => k ls (.int x :: st) n E ca sl
def o_pl (x : Int64) (k : am_C) : am_C := fun ls st n E ca sl => k ls (.long x :: st) n E ca sl
def o_pf (x : UInt32) (k : am_C) : am_C := fun ls st n E ca sl => k ls (.float x :: st) n E ca sl
def o_pd (x : UInt64) (k : am_C) : am_C := fun ls st n E ca sl => k ls (.double x :: st) n E ca sl
theorem ms_iconst {X : am_X} {cc : ByteArray} {own : String} {ret : Option FieldType} {Ts : List Cond} (F : am_F X cc own ret Ts) {pc : Nat} {k : am_C} {z : Int} {v : Int32} (hd : decode cc pc = .ok (.iconst z, 1)) (hv : Int32.ofInt z = v) (hk : am_imp k (am_G X (pc + 1))) : am_imp (o_pi v k) (am_G X pc) := by
  obtain ⟨p, l, e, R, s, m, args, below, meth, c, D, dA, ro, ad0, n0, nL, A, Q⟩ := X
  obtain ⟨hx, hb, hml, hown, hts, hK, hA, hE, htr, hlk, hrt, hWS⟩ := F
  intro ls st n E ca sl h ad H locs L h1 h2 h3 h4 h5 h6 h7 h8 h9 hca hsl
  exact lv_iconst hx hb hd hv (hk _ _ _ _ _ _ h ad H locs L h1 h2 h3 (am_cs trivial h4) h5 h6 h7 h8 h9 hca hsl)
theorem ms_bipush {X : am_X} {cc : ByteArray} {own : String} {ret : Option FieldType} {Ts : List Cond} (F : am_F X cc own ret Ts) {pc : Nat} {k : am_C} {z : Int} {v : Int32} (hd : decode cc pc = .ok (.bipush z, 2)) (hv : (Int8.ofInt z).toInt32 = v) (hk : am_imp k (am_G X (pc + 2))) : am_imp (o_pi v k) (am_G X pc) := by
  obtain ⟨p, l, e, R, s, m, args, below, meth, c, D, dA, ro, ad0, n0, nL, A, Q⟩ := X
  obtain ⟨hx, hb, hml, hown, hts, hK, hA, hE, htr, hlk, hrt, hWS⟩ := F
  intro ls st n E ca sl h ad H locs L h1 h2 h3 h4 h5 h6 h7 h8 h9 hca hsl
  exact lv_bipush hx hb hd hv (hk _ _ _ _ _ _ h ad H locs L h1 h2 h3 (am_cs trivial h4) h5 h6 h7 h8 h9 hca hsl)
theorem ms_sipush {X : am_X} {cc : ByteArray} {own : String} {ret : Option FieldType} {Ts : List Cond} (F : am_F X cc own ret Ts) {pc : Nat} {k : am_C} {z : Int} {v : Int32} (hd : decode cc pc = .ok (.sipush z, 3)) (hv : (Int16.ofInt z).toInt32 = v) (hk : am_imp k (am_G X (pc + 3))) : am_imp (o_pi v k) (am_G X pc) := by
  obtain ⟨p, l, e, R, s, m, args, below, meth, c, D, dA, ro, ad0, n0, nL, A, Q⟩ := X
  obtain ⟨hx, hb, hml, hown, hts, hK, hA, hE, htr, hlk, hrt, hWS⟩ := F
  intro ls st n E ca sl h ad H locs L h1 h2 h3 h4 h5 h6 h7 h8 h9 hca hsl
  exact lv_sipush hx hb hd hv (hk _ _ _ _ _ _ h ad H locs L h1 h2 h3 (am_cs trivial h4) h5 h6 h7 h8 h9 hca hsl)
theorem ms_ldc {X : am_X} {cc : ByteArray} {own : String} {ret : Option FieldType} {Ts : List Cond} (F : am_F X cc own ret Ts) {pc : Nat} {k : am_C} {index : Nat} {v : Int32} (hw : Cond.constant own index v ∈ Ts) (hd : decode cc pc = .ok (.ldc index, 2)) (hk : am_imp k (am_G X (pc + 2))) : am_imp (o_pi v k) (am_G X pc) := by
  obtain ⟨p, l, e, R, s, m, args, below, meth, c, D, dA, ro, ad0, n0, nL, A, Q⟩ := X
  obtain ⟨hx, hb, hml, hown, hts, hK, hA, hE, htr, hlk, hrt, hWS⟩ := F
  intro ls st n E ca sl h ad H locs L h1 h2 h3 h4 h5 h6 h7 h8 h9 hca hsl
  exact lv_ldc hx hb hown (hts _ hw) hd (hk _ _ _ _ _ _ h ad H locs L h1 h2 h3 (am_cs trivial h4) h5 h6 h7 h8 h9 hca hsl)
theorem ms_ldcw {X : am_X} {cc : ByteArray} {own : String} {ret : Option FieldType} {Ts : List Cond} (F : am_F X cc own ret Ts) {pc : Nat} {k : am_C} {index : Nat} {v : Int32} (hw : Cond.constant own index v ∈ Ts) (hd : decode cc pc = .ok (.ldc_w index, 3)) (hk : am_imp k (am_G X (pc + 3))) : am_imp (o_pi v k) (am_G X pc) := by
  obtain ⟨p, l, e, R, s, m, args, below, meth, c, D, dA, ro, ad0, n0, nL, A, Q⟩ := X
  obtain ⟨hx, hb, hml, hown, hts, hK, hA, hE, htr, hlk, hrt, hWS⟩ := F
  intro ls st n E ca sl h ad H locs L h1 h2 h3 h4 h5 h6 h7 h8 h9 hca hsl
  exact lv_ldcw hx hb hown (hts _ hw) hd (hk _ _ _ _ _ _ h ad H locs L h1 h2 h3 (am_cs trivial h4) h5 h6 h7 h8 h9 hca hsl)
theorem ms_ldc2 {X : am_X} {cc : ByteArray} {own : String} {ret : Option FieldType} {Ts : List Cond} (F : am_F X cc own ret Ts) {pc : Nat} {k : am_C} {index : Nat} {v : Int64} (hw : Cond.constantLong own index v ∈ Ts) (hd : decode cc pc = .ok (.ldc2_w index, 3)) (hk : am_imp k (am_G X (pc + 3))) : am_imp (o_pl v k) (am_G X pc) := by
  obtain ⟨p, l, e, R, s, m, args, below, meth, c, D, dA, ro, ad0, n0, nL, A, Q⟩ := X
  obtain ⟨hx, hb, hml, hown, hts, hK, hA, hE, htr, hlk, hrt, hWS⟩ := F
  intro ls st n E ca sl h ad H locs L h1 h2 h3 h4 h5 h6 h7 h8 h9 hca hsl
  exact lv_ldc2 hx hb hown (hts _ hw) hd (hk _ _ _ _ _ _ h ad H locs L h1 h2 h3 (am_cs trivial h4) h5 h6 h7 h8 h9 hca hsl)
theorem ms_lconst {X : am_X} {cc : ByteArray} {own : String} {ret : Option FieldType} {Ts : List Cond} (F : am_F X cc own ret Ts) {pc : Nat} {k : am_C} {z : Fin 2} {v : Int64} (hd : decode cc pc = .ok (.lconst z, 1)) (hv : Int64.ofNat (z : Nat) = v) (hk : am_imp k (am_G X (pc + 1))) : am_imp (o_pl v k) (am_G X pc) := by
  obtain ⟨p, l, e, R, s, m, args, below, meth, c, D, dA, ro, ad0, n0, nL, A, Q⟩ := X
  obtain ⟨hx, hb, hml, hown, hts, hK, hA, hE, htr, hlk, hrt, hWS⟩ := F
  intro ls st n E ca sl h ad H locs L h1 h2 h3 h4 h5 h6 h7 h8 h9 hca hsl
  exact lv_lconst hx hb hd hv (hk _ _ _ _ _ _ h ad H locs L h1 h2 h3 (am_cs trivial h4) h5 h6 h7 h8 h9 hca hsl)
theorem ms_fconst0 {X : am_X} {cc : ByteArray} {own : String} {ret : Option FieldType} {Ts : List Cond} (F : am_F X cc own ret Ts) {pc : Nat} {k : am_C} (hd : decode cc pc = .ok (.fconst 0, 1)) (hk : am_imp k (am_G X (pc + 1))) : am_imp (o_pf FP.fconst0 k) (am_G X pc) := by
  obtain ⟨p, l, e, R, s, m, args, below, meth, c, D, dA, ro, ad0, n0, nL, A, Q⟩ := X
  obtain ⟨hx, hb, hml, hown, hts, hK, hA, hE, htr, hlk, hrt, hWS⟩ := F
  intro ls st n E ca sl h ad H locs L h1 h2 h3 h4 h5 h6 h7 h8 h9 hca hsl
  exact lv_fconst0 hx hb hd (hk _ _ _ _ _ _ h ad H locs L h1 h2 h3 (am_cs trivial h4) h5 h6 h7 h8 h9 hca hsl)
theorem ms_dconst0 {X : am_X} {cc : ByteArray} {own : String} {ret : Option FieldType} {Ts : List Cond} (F : am_F X cc own ret Ts) {pc : Nat} {k : am_C} (hd : decode cc pc = .ok (.dconst 0, 1)) (hk : am_imp k (am_G X (pc + 1))) : am_imp (o_pd FP.dconst0 k) (am_G X pc) := by
  obtain ⟨p, l, e, R, s, m, args, below, meth, c, D, dA, ro, ad0, n0, nL, A, Q⟩ := X
  obtain ⟨hx, hb, hml, hown, hts, hK, hA, hE, htr, hlk, hrt, hWS⟩ := F
  intro ls st n E ca sl h ad H locs L h1 h2 h3 h4 h5 h6 h7 h8 h9 hca hsl
  exact lv_dconst0 hx hb hd (hk _ _ _ _ _ _ h ad H locs L h1 h2 h3 (am_cs trivial h4) h5 h6 h7 h8 h9 hca hsl)
def o_iload (i : Nat) (k : am_C) : am_C := fun ls st n E ca sl => match ls[i]? with
  | some (some (.int x)) => k ls (.int x :: st) n E ca sl
  | _ => False
theorem ms_iload_n {X : am_X} {cc : ByteArray} {own : String} {ret : Option FieldType} {Ts : List Cond} (F : am_F X cc own ret Ts) {pc : Nat} {k : am_C} {j : Fin 4} {i : Nat} (hd : decode cc pc = .ok (.iload_n j, 1)) (hi : (j : Nat) = i) (hk : am_imp k (am_G X (pc + 1))) : am_imp (o_iload i k) (am_G X pc) := by
  obtain ⟨p, l, e, R, s, m, args, below, meth, c, D, dA, ro, ad0, n0, nL, A, Q⟩ := X
  obtain ⟨hx, hb, hml, hown, hts, hK, hA, hE, htr, hlk, hrt, hWS⟩ := F
  intro ls st n E ca sl h ad H locs L h1 h2 h3 h4 h5 h6 h7 h8 h9 hca hsl
  unfold o_iload at h
  split at h
  · rename_i x hl
    exact lv_iload_n hx hb hd hi (h9.2.2 i _ hl) (hk _ _ _ _ _ _ h ad H locs L h1 h2 h3 (am_cs trivial h4) h5 h6 h7 h8 h9 hca hsl)
  · exact h.elim
theorem ms_iload {X : am_X} {cc : ByteArray} {own : String} {ret : Option FieldType} {Ts : List Cond} (F : am_F X cc own ret Ts) {pc : Nat} {k : am_C} {i : Nat} (hd : decode cc pc = .ok (.iload i, 2)) (hk : am_imp k (am_G X (pc + 2))) : am_imp (o_iload i k) (am_G X pc) := by
  obtain ⟨p, l, e, R, s, m, args, below, meth, c, D, dA, ro, ad0, n0, nL, A, Q⟩ := X
  obtain ⟨hx, hb, hml, hown, hts, hK, hA, hE, htr, hlk, hrt, hWS⟩ := F
  intro ls st n E ca sl h ad H locs L h1 h2 h3 h4 h5 h6 h7 h8 h9 hca hsl
  unfold o_iload at h
  split at h
  · rename_i x hl
    exact lv_iload hx hb hd (h9.2.2 i _ hl) (hk _ _ _ _ _ _ h ad H locs L h1 h2 h3 (am_cs trivial h4) h5 h6 h7 h8 h9 hca hsl)
  · exact h.elim
def o_lload (i : Nat) (k : am_C) : am_C := fun ls st n E ca sl => match ls[i]? with
  | some (some (.long x)) => k ls (.long x :: st) n E ca sl
  | _ => False
theorem ms_lload_n {X : am_X} {cc : ByteArray} {own : String} {ret : Option FieldType} {Ts : List Cond} (F : am_F X cc own ret Ts) {pc : Nat} {k : am_C} {j : Fin 4} {i : Nat} (hd : decode cc pc = .ok (.lload_n j, 1)) (hi : (j : Nat) = i) (hk : am_imp k (am_G X (pc + 1))) : am_imp (o_lload i k) (am_G X pc) := by
  obtain ⟨p, l, e, R, s, m, args, below, meth, c, D, dA, ro, ad0, n0, nL, A, Q⟩ := X
  obtain ⟨hx, hb, hml, hown, hts, hK, hA, hE, htr, hlk, hrt, hWS⟩ := F
  intro ls st n E ca sl h ad H locs L h1 h2 h3 h4 h5 h6 h7 h8 h9 hca hsl
  unfold o_lload at h
  split at h
  · rename_i x hl
    exact lv_lload_n hx hb hd hi (h9.2.2 i _ hl) (hk _ _ _ _ _ _ h ad H locs L h1 h2 h3 (am_cs trivial h4) h5 h6 h7 h8 h9 hca hsl)
  · exact h.elim
theorem ms_lload {X : am_X} {cc : ByteArray} {own : String} {ret : Option FieldType} {Ts : List Cond} (F : am_F X cc own ret Ts) {pc : Nat} {k : am_C} {i : Nat} (hd : decode cc pc = .ok (.lload i, 2)) (hk : am_imp k (am_G X (pc + 2))) : am_imp (o_lload i k) (am_G X pc) := by
  obtain ⟨p, l, e, R, s, m, args, below, meth, c, D, dA, ro, ad0, n0, nL, A, Q⟩ := X
  obtain ⟨hx, hb, hml, hown, hts, hK, hA, hE, htr, hlk, hrt, hWS⟩ := F
  intro ls st n E ca sl h ad H locs L h1 h2 h3 h4 h5 h6 h7 h8 h9 hca hsl
  unfold o_lload at h
  split at h
  · rename_i x hl
    exact lv_lload hx hb hd (h9.2.2 i _ hl) (hk _ _ _ _ _ _ h ad H locs L h1 h2 h3 (am_cs trivial h4) h5 h6 h7 h8 h9 hca hsl)
  · exact h.elim
def o_fload (i : Nat) (k : am_C) : am_C := fun ls st n E ca sl => match ls[i]? with
  | some (some (.float x)) => k ls (.float x :: st) n E ca sl
  | _ => False
theorem ms_fload_n {X : am_X} {cc : ByteArray} {own : String} {ret : Option FieldType} {Ts : List Cond} (F : am_F X cc own ret Ts) {pc : Nat} {k : am_C} {j : Fin 4} {i : Nat} (hd : decode cc pc = .ok (.fload_n j, 1)) (hi : (j : Nat) = i) (hk : am_imp k (am_G X (pc + 1))) : am_imp (o_fload i k) (am_G X pc) := by
  obtain ⟨p, l, e, R, s, m, args, below, meth, c, D, dA, ro, ad0, n0, nL, A, Q⟩ := X
  obtain ⟨hx, hb, hml, hown, hts, hK, hA, hE, htr, hlk, hrt, hWS⟩ := F
  intro ls st n E ca sl h ad H locs L h1 h2 h3 h4 h5 h6 h7 h8 h9 hca hsl
  unfold o_fload at h
  split at h
  · rename_i x hl
    exact lv_fload_n hx hb hd hi (h9.2.2 i _ hl) (hk _ _ _ _ _ _ h ad H locs L h1 h2 h3 (am_cs trivial h4) h5 h6 h7 h8 h9 hca hsl)
  · exact h.elim
theorem ms_fload {X : am_X} {cc : ByteArray} {own : String} {ret : Option FieldType} {Ts : List Cond} (F : am_F X cc own ret Ts) {pc : Nat} {k : am_C} {i : Nat} (hd : decode cc pc = .ok (.fload i, 2)) (hk : am_imp k (am_G X (pc + 2))) : am_imp (o_fload i k) (am_G X pc) := by
  obtain ⟨p, l, e, R, s, m, args, below, meth, c, D, dA, ro, ad0, n0, nL, A, Q⟩ := X
  obtain ⟨hx, hb, hml, hown, hts, hK, hA, hE, htr, hlk, hrt, hWS⟩ := F
  intro ls st n E ca sl h ad H locs L h1 h2 h3 h4 h5 h6 h7 h8 h9 hca hsl
  unfold o_fload at h
  split at h
  · rename_i x hl
    exact lv_fload hx hb hd (h9.2.2 i _ hl) (hk _ _ _ _ _ _ h ad H locs L h1 h2 h3 (am_cs trivial h4) h5 h6 h7 h8 h9 hca hsl)
  · exact h.elim
def o_dload (i : Nat) (k : am_C) : am_C := fun ls st n E ca sl => match ls[i]? with
  | some (some (.double x)) => k ls (.double x :: st) n E ca sl
  | _ => False
theorem ms_dload_n {X : am_X} {cc : ByteArray} {own : String} {ret : Option FieldType} {Ts : List Cond} (F : am_F X cc own ret Ts) {pc : Nat} {k : am_C} {j : Fin 4} {i : Nat} (hd : decode cc pc = .ok (.dload_n j, 1)) (hi : (j : Nat) = i) (hk : am_imp k (am_G X (pc + 1))) : am_imp (o_dload i k) (am_G X pc) := by
  obtain ⟨p, l, e, R, s, m, args, below, meth, c, D, dA, ro, ad0, n0, nL, A, Q⟩ := X
  obtain ⟨hx, hb, hml, hown, hts, hK, hA, hE, htr, hlk, hrt, hWS⟩ := F
  intro ls st n E ca sl h ad H locs L h1 h2 h3 h4 h5 h6 h7 h8 h9 hca hsl
  unfold o_dload at h
  split at h
  · rename_i x hl
    exact lv_dload_n hx hb hd hi (h9.2.2 i _ hl) (hk _ _ _ _ _ _ h ad H locs L h1 h2 h3 (am_cs trivial h4) h5 h6 h7 h8 h9 hca hsl)
  · exact h.elim
theorem ms_dload {X : am_X} {cc : ByteArray} {own : String} {ret : Option FieldType} {Ts : List Cond} (F : am_F X cc own ret Ts) {pc : Nat} {k : am_C} {i : Nat} (hd : decode cc pc = .ok (.dload i, 2)) (hk : am_imp k (am_G X (pc + 2))) : am_imp (o_dload i k) (am_G X pc) := by
  obtain ⟨p, l, e, R, s, m, args, below, meth, c, D, dA, ro, ad0, n0, nL, A, Q⟩ := X
  obtain ⟨hx, hb, hml, hown, hts, hK, hA, hE, htr, hlk, hrt, hWS⟩ := F
  intro ls st n E ca sl h ad H locs L h1 h2 h3 h4 h5 h6 h7 h8 h9 hca hsl
  unfold o_dload at h
  split at h
  · rename_i x hl
    exact lv_dload hx hb hd (h9.2.2 i _ hl) (hk _ _ _ _ _ _ h ad H locs L h1 h2 h3 (am_cs trivial h4) h5 h6 h7 h8 h9 hca hsl)
  · exact h.elim
def o_aload (i : Nat) (k : am_C) : am_C := fun ls st n E ca sl => match ls[i]? with
  | some (some (.ref x)) => k ls (.ref x :: st) n E ca sl
  | some (some (.retAddr x)) => k ls (.retAddr x :: st) n E ca sl
  | _ => False
theorem ms_aload_n {X : am_X} {cc : ByteArray} {own : String} {ret : Option FieldType} {Ts : List Cond} (F : am_F X cc own ret Ts) {pc : Nat} {k : am_C} {j : Fin 4} {i : Nat} (hd : decode cc pc = .ok (.aload_n j, 1)) (hi : (j : Nat) = i) (hk : am_imp k (am_G X (pc + 1))) : am_imp (o_aload i k) (am_G X pc) := by
  obtain ⟨p, l, e, R, s, m, args, below, meth, c, D, dA, ro, ad0, n0, nL, A, Q⟩ := X
  obtain ⟨hx, hb, hml, hown, hts, hK, hA, hE, htr, hlk, hrt, hWS⟩ := F
  intro ls st n E ca sl h ad H locs L h1 h2 h3 h4 h5 h6 h7 h8 h9 hca hsl
  unfold o_aload at h
  split at h
  · rename_i x hl
    exact lv_aload_n hx hb hd hi (h9.2.2 i _ hl) (hk _ _ _ _ _ _ h ad H locs L h1 h2 h3 (am_cs (h5 _ (List.mem_of_getElem? hl)) h4) h5 h6 h7 h8 h9 hca hsl)
  · rename_i x hl
    exact lv_aload_n hx hb hd hi (h9.2.2 i _ hl) (hk _ _ _ _ _ _ h ad H locs L h1 h2 h3 (am_cs (h5 _ (List.mem_of_getElem? hl)) h4) h5 h6 h7 h8 h9 hca hsl)
  · exact h.elim
theorem ms_aload {X : am_X} {cc : ByteArray} {own : String} {ret : Option FieldType} {Ts : List Cond} (F : am_F X cc own ret Ts) {pc : Nat} {k : am_C} {i : Nat} (hd : decode cc pc = .ok (.aload i, 2)) (hk : am_imp k (am_G X (pc + 2))) : am_imp (o_aload i k) (am_G X pc) := by
  obtain ⟨p, l, e, R, s, m, args, below, meth, c, D, dA, ro, ad0, n0, nL, A, Q⟩ := X
  obtain ⟨hx, hb, hml, hown, hts, hK, hA, hE, htr, hlk, hrt, hWS⟩ := F
  intro ls st n E ca sl h ad H locs L h1 h2 h3 h4 h5 h6 h7 h8 h9 hca hsl
  unfold o_aload at h
  split at h
  · rename_i x hl
    exact lv_aload hx hb hd (h9.2.2 i _ hl) (hk _ _ _ _ _ _ h ad H locs L h1 h2 h3 (am_cs (h5 _ (List.mem_of_getElem? hl)) h4) h5 h6 h7 h8 h9 hca hsl)
  · rename_i x hl
    exact lv_aload hx hb hd (h9.2.2 i _ hl) (hk _ _ _ _ _ _ h ad H locs L h1 h2 h3 (am_cs (h5 _ (List.mem_of_getElem? hl)) h4) h5 h6 h7 h8 h9 hca hsl)
  · exact h.elim
def o_istore (i : Nat) (k : am_C) : am_C := fun ls st n E ca sl => match st with
  | .int x :: r => k (am_s1 ls i (.int x)) r n E ca sl
  | _ => False
theorem ms_istore_n {X : am_X} {cc : ByteArray} {own : String} {ret : Option FieldType} {Ts : List Cond} (F : am_F X cc own ret Ts) {pc : Nat} {k : am_C} {j : Fin 4} {i z : Nat} (hd : decode cc pc = .ok (.istore_n j, 1)) (hi : (j : Nat) = i) (hz : am_nL X = z) (hn : i < z) (hk : am_imp k (am_G X (pc + 1))) : am_imp (o_istore i k) (am_G X pc) := by
  obtain ⟨p, l, e, R, s, m, args, below, meth, c, D, dA, ro, ad0, n0, nL, A, Q⟩ := X
  obtain ⟨hx, hb, hml, hown, hts, hK, hA, hE, htr, hlk, hrt, hWS⟩ := F
  intro ls st n E ca sl h ad H locs L h1 h2 h3 h4 h5 h6 h7 h8 h9 hca hsl
  unfold o_istore at h
  split at h
  · rename_i x r
    subst hz
    exact lv_istore_n hx hb hd hi h9.lv hn rfl (fun L' h' => hk _ _ _ _ _ _ h ad H locs L' h1 h2 h3 (am_tl h4) (am_s1_lt h5 trivial) h6 h7 h8 (am_has_s1 (L := L) h') hca hsl)
  · exact h.elim
theorem ms_istore {X : am_X} {cc : ByteArray} {own : String} {ret : Option FieldType} {Ts : List Cond} (F : am_F X cc own ret Ts) {pc : Nat} {k : am_C} {i z : Nat} (hd : decode cc pc = .ok (.istore i, 2)) (hz : am_nL X = z) (hn : i < z) (hk : am_imp k (am_G X (pc + 2))) : am_imp (o_istore i k) (am_G X pc) := by
  obtain ⟨p, l, e, R, s, m, args, below, meth, c, D, dA, ro, ad0, n0, nL, A, Q⟩ := X
  obtain ⟨hx, hb, hml, hown, hts, hK, hA, hE, htr, hlk, hrt, hWS⟩ := F
  intro ls st n E ca sl h ad H locs L h1 h2 h3 h4 h5 h6 h7 h8 h9 hca hsl
  unfold o_istore at h
  split at h
  · rename_i x r
    subst hz
    exact lv_istore hx hb hd h9.lv hn rfl (fun L' h' => hk _ _ _ _ _ _ h ad H locs L' h1 h2 h3 (am_tl h4) (am_s1_lt h5 trivial) h6 h7 h8 (am_has_s1 (L := L) h') hca hsl)
  · exact h.elim
def o_lstore (i : Nat) (k : am_C) : am_C := fun ls st n E ca sl => match st with
  | .long x :: r => k (am_s2 ls i (.long x)) r n E ca sl
  | _ => False
theorem ms_lstore_n {X : am_X} {cc : ByteArray} {own : String} {ret : Option FieldType} {Ts : List Cond} (F : am_F X cc own ret Ts) {pc : Nat} {k : am_C} {j : Fin 4} {i z : Nat} (hd : decode cc pc = .ok (.lstore_n j, 1)) (hi : (j : Nat) = i) (hz : am_nL X = z) (hn : i + 1 < z) (hk : am_imp k (am_G X (pc + 1))) : am_imp (o_lstore i k) (am_G X pc) := by
  obtain ⟨p, l, e, R, s, m, args, below, meth, c, D, dA, ro, ad0, n0, nL, A, Q⟩ := X
  obtain ⟨hx, hb, hml, hown, hts, hK, hA, hE, htr, hlk, hrt, hWS⟩ := F
  intro ls st n E ca sl h ad H locs L h1 h2 h3 h4 h5 h6 h7 h8 h9 hca hsl
  unfold o_lstore at h
  split at h
  · rename_i x r
    subst hz
    exact lv_lstore_n hx hb hd hi h9.lv hn rfl (fun L' h' => hk _ _ _ _ _ _ h ad H locs L' h1 h2 h3 (am_tl h4) (am_s2_lt h5 trivial) h6 h7 h8 (am_has_s2 (L := L) h') hca hsl)
  · exact h.elim
theorem ms_lstore {X : am_X} {cc : ByteArray} {own : String} {ret : Option FieldType} {Ts : List Cond} (F : am_F X cc own ret Ts) {pc : Nat} {k : am_C} {i z : Nat} (hd : decode cc pc = .ok (.lstore i, 2)) (hz : am_nL X = z) (hn : i + 1 < z) (hk : am_imp k (am_G X (pc + 2))) : am_imp (o_lstore i k) (am_G X pc) := by
  obtain ⟨p, l, e, R, s, m, args, below, meth, c, D, dA, ro, ad0, n0, nL, A, Q⟩ := X
  obtain ⟨hx, hb, hml, hown, hts, hK, hA, hE, htr, hlk, hrt, hWS⟩ := F
  intro ls st n E ca sl h ad H locs L h1 h2 h3 h4 h5 h6 h7 h8 h9 hca hsl
  unfold o_lstore at h
  split at h
  · rename_i x r
    subst hz
    exact lv_lstore hx hb hd h9.lv hn rfl (fun L' h' => hk _ _ _ _ _ _ h ad H locs L' h1 h2 h3 (am_tl h4) (am_s2_lt h5 trivial) h6 h7 h8 (am_has_s2 (L := L) h') hca hsl)
  · exact h.elim
def o_fstore (i : Nat) (k : am_C) : am_C := fun ls st n E ca sl => match st with
  | .float x :: r => k (am_s1 ls i (.float x)) r n E ca sl
  | _ => False
theorem ms_fstore_n {X : am_X} {cc : ByteArray} {own : String} {ret : Option FieldType} {Ts : List Cond} (F : am_F X cc own ret Ts) {pc : Nat} {k : am_C} {j : Fin 4} {i z : Nat} (hd : decode cc pc = .ok (.fstore_n j, 1)) (hi : (j : Nat) = i) (hz : am_nL X = z) (hn : i < z) (hk : am_imp k (am_G X (pc + 1))) : am_imp (o_fstore i k) (am_G X pc) := by
  obtain ⟨p, l, e, R, s, m, args, below, meth, c, D, dA, ro, ad0, n0, nL, A, Q⟩ := X
  obtain ⟨hx, hb, hml, hown, hts, hK, hA, hE, htr, hlk, hrt, hWS⟩ := F
  intro ls st n E ca sl h ad H locs L h1 h2 h3 h4 h5 h6 h7 h8 h9 hca hsl
  unfold o_fstore at h
  split at h
  · rename_i x r
    subst hz
    exact lv_fstore_n hx hb hd hi h9.lv hn rfl (fun L' h' => hk _ _ _ _ _ _ h ad H locs L' h1 h2 h3 (am_tl h4) (am_s1_lt h5 trivial) h6 h7 h8 (am_has_s1 (L := L) h') hca hsl)
  · exact h.elim
theorem ms_fstore {X : am_X} {cc : ByteArray} {own : String} {ret : Option FieldType} {Ts : List Cond} (F : am_F X cc own ret Ts) {pc : Nat} {k : am_C} {i z : Nat} (hd : decode cc pc = .ok (.fstore i, 2)) (hz : am_nL X = z) (hn : i < z) (hk : am_imp k (am_G X (pc + 2))) : am_imp (o_fstore i k) (am_G X pc) := by
  obtain ⟨p, l, e, R, s, m, args, below, meth, c, D, dA, ro, ad0, n0, nL, A, Q⟩ := X
  obtain ⟨hx, hb, hml, hown, hts, hK, hA, hE, htr, hlk, hrt, hWS⟩ := F
  intro ls st n E ca sl h ad H locs L h1 h2 h3 h4 h5 h6 h7 h8 h9 hca hsl
  unfold o_fstore at h
  split at h
  · rename_i x r
    subst hz
    exact lv_fstore hx hb hd h9.lv hn rfl (fun L' h' => hk _ _ _ _ _ _ h ad H locs L' h1 h2 h3 (am_tl h4) (am_s1_lt h5 trivial) h6 h7 h8 (am_has_s1 (L := L) h') hca hsl)
  · exact h.elim
def o_dstore (i : Nat) (k : am_C) : am_C := fun ls st n E ca sl => match st with
  | .double x :: r => k (am_s2 ls i (.double x)) r n E ca sl
  | _ => False
theorem ms_dstore_n {X : am_X} {cc : ByteArray} {own : String} {ret : Option FieldType} {Ts : List Cond} (F : am_F X cc own ret Ts) {pc : Nat} {k : am_C} {j : Fin 4} {i z : Nat} (hd : decode cc pc = .ok (.dstore_n j, 1)) (hi : (j : Nat) = i) (hz : am_nL X = z) (hn : i + 1 < z) (hk : am_imp k (am_G X (pc + 1))) : am_imp (o_dstore i k) (am_G X pc) := by
  obtain ⟨p, l, e, R, s, m, args, below, meth, c, D, dA, ro, ad0, n0, nL, A, Q⟩ := X
  obtain ⟨hx, hb, hml, hown, hts, hK, hA, hE, htr, hlk, hrt, hWS⟩ := F
  intro ls st n E ca sl h ad H locs L h1 h2 h3 h4 h5 h6 h7 h8 h9 hca hsl
  unfold o_dstore at h
  split at h
  · rename_i x r
    subst hz
    exact lv_dstore_n hx hb hd hi h9.lv hn rfl (fun L' h' => hk _ _ _ _ _ _ h ad H locs L' h1 h2 h3 (am_tl h4) (am_s2_lt h5 trivial) h6 h7 h8 (am_has_s2 (L := L) h') hca hsl)
  · exact h.elim
theorem ms_dstore {X : am_X} {cc : ByteArray} {own : String} {ret : Option FieldType} {Ts : List Cond} (F : am_F X cc own ret Ts) {pc : Nat} {k : am_C} {i z : Nat} (hd : decode cc pc = .ok (.dstore i, 2)) (hz : am_nL X = z) (hn : i + 1 < z) (hk : am_imp k (am_G X (pc + 2))) : am_imp (o_dstore i k) (am_G X pc) := by
  obtain ⟨p, l, e, R, s, m, args, below, meth, c, D, dA, ro, ad0, n0, nL, A, Q⟩ := X
  obtain ⟨hx, hb, hml, hown, hts, hK, hA, hE, htr, hlk, hrt, hWS⟩ := F
  intro ls st n E ca sl h ad H locs L h1 h2 h3 h4 h5 h6 h7 h8 h9 hca hsl
  unfold o_dstore at h
  split at h
  · rename_i x r
    subst hz
    exact lv_dstore hx hb hd h9.lv hn rfl (fun L' h' => hk _ _ _ _ _ _ h ad H locs L' h1 h2 h3 (am_tl h4) (am_s2_lt h5 trivial) h6 h7 h8 (am_has_s2 (L := L) h') hca hsl)
  · exact h.elim
def o_astore (i : Nat) (k : am_C) : am_C := fun ls st n E ca sl => match st with
  | .ref x :: r => k (am_s1 ls i (.ref x)) r n E ca sl
  | _ => False
theorem ms_astore_n {X : am_X} {cc : ByteArray} {own : String} {ret : Option FieldType} {Ts : List Cond} (F : am_F X cc own ret Ts) {pc : Nat} {k : am_C} {j : Fin 4} {i z : Nat} (hd : decode cc pc = .ok (.astore_n j, 1)) (hi : (j : Nat) = i) (hz : am_nL X = z) (hn : i < z) (hk : am_imp k (am_G X (pc + 1))) : am_imp (o_astore i k) (am_G X pc) := by
  obtain ⟨p, l, e, R, s, m, args, below, meth, c, D, dA, ro, ad0, n0, nL, A, Q⟩ := X
  obtain ⟨hx, hb, hml, hown, hts, hK, hA, hE, htr, hlk, hrt, hWS⟩ := F
  intro ls st n E ca sl h ad H locs L h1 h2 h3 h4 h5 h6 h7 h8 h9 hca hsl
  unfold o_astore at h
  split at h
  · rename_i x r
    subst hz
    exact lv_astore_n hx hb hd hi h9.lv hn rfl (fun L' h' => hk _ _ _ _ _ _ h ad H locs L' h1 h2 h3 (am_tl h4) (am_s1_lt h5 (am_hd h4)) h6 h7 h8 (am_has_s1 (L := L) (v := .ref x) h') hca hsl)
  · exact h.elim
theorem ms_astore {X : am_X} {cc : ByteArray} {own : String} {ret : Option FieldType} {Ts : List Cond} (F : am_F X cc own ret Ts) {pc : Nat} {k : am_C} {i z : Nat} (hd : decode cc pc = .ok (.astore i, 2)) (hz : am_nL X = z) (hn : i < z) (hk : am_imp k (am_G X (pc + 2))) : am_imp (o_astore i k) (am_G X pc) := by
  obtain ⟨p, l, e, R, s, m, args, below, meth, c, D, dA, ro, ad0, n0, nL, A, Q⟩ := X
  obtain ⟨hx, hb, hml, hown, hts, hK, hA, hE, htr, hlk, hrt, hWS⟩ := F
  intro ls st n E ca sl h ad H locs L h1 h2 h3 h4 h5 h6 h7 h8 h9 hca hsl
  unfold o_astore at h
  split at h
  · rename_i x r
    subst hz
    exact lv_astore hx hb hd h9.lv hn rfl (fun L' h' => hk _ _ _ _ _ _ h ad H locs L' h1 h2 h3 (am_tl h4) (am_s1_lt h5 (am_hd h4)) h6 h7 h8 (am_has_s1 (L := L) (v := .ref x) h') hca hsl)
  · exact h.elim
def o_iinc (i : Nat) (z : Int32) (k : am_C) : am_C := fun ls st n E ca sl => match ls[i]? with
  | some (some (.int x)) => k (am_s1 ls i (.int (x + z))) st n E ca sl
  | _ => False
theorem ms_iinc {X : am_X} {cc : ByteArray} {own : String} {ret : Option FieldType} {Ts : List Cond} (F : am_F X cc own ret Ts) {pc : Nat} {k : am_C} {i w : Nat} {z : Int} {v : Int32} (hd : decode cc pc = .ok (.iinc i z, 3)) (hv : Int32.ofInt z = v) (hz : am_nL X = w) (hn : i < w) (hk : am_imp k (am_G X (pc + 3))) : am_imp (o_iinc i v k) (am_G X pc) := by
  obtain ⟨p, l, e, R, s, m, args, below, meth, c, D, dA, ro, ad0, n0, nL, A, Q⟩ := X
  obtain ⟨hx, hb, hml, hown, hts, hK, hA, hE, htr, hlk, hrt, hWS⟩ := F
  intro ls st n E ca sl h ad H locs L h1 h2 h3 h4 h5 h6 h7 h8 h9 hca hsl
  unfold o_iinc at h
  split at h
  · rename_i x hl
    subst hz
    obtain ⟨j, hj⟩ := List.getElem?_of_mem (am_al_mem (ad := ad) (ro := ro) (q := (i, .int x)) |>.mpr ⟨.int x, hl, rfl⟩)
    exact lv_iinc (v := x + v) hx hb hd h9.lv hj (by rw [hv]) hn rfl (fun L' h' => hk _ _ _ _ _ _ h ad H locs L' h1 h2 h3 h4 (am_s1_lt h5 trivial) h6 h7 h8 (am_has_s1 (L := L) (v := .int (x + v)) h') hca hsl)
  · exact h.elim
def o_ib (f : Int32 → Int32 → Int32) (k : am_C) : am_C := fun ls st n E ca sl => match st with
  | .int y :: .int x :: r => k ls (.int (f x y) :: r) n E ca sl
  | _ => False
def o_ibz (f : Int32 → Int32 → Int32) (k : am_C) : am_C := fun ls st n E ca sl => match st with
  | .int y :: .int x :: r => ¬ y = 0 ∧ k ls (.int (f x y) :: r) n E ca sl
  | _ => False
def o_lb (f : Int64 → Int64 → Int64) (k : am_C) : am_C := fun ls st n E ca sl => match st with
  | .long y :: .long x :: r => k ls (.long (f x y) :: r) n E ca sl
  | _ => False
def o_lbz (f : Int64 → Int64 → Int64) (k : am_C) : am_C := fun ls st n E ca sl => match st with
  | .long y :: .long x :: r => ¬ y = 0 ∧ k ls (.long (f x y) :: r) n E ca sl
  | _ => False
theorem ms_iadd {X : am_X} {cc : ByteArray} {own : String} {ret : Option FieldType} {Ts : List Cond} (F : am_F X cc own ret Ts) {pc : Nat} {k : am_C} (hd : decode cc pc = .ok (.iadd, 1)) (hk : am_imp k (am_G X (pc + 1))) : am_imp (o_ib (fun x y => x + y) k) (am_G X pc) := by
  obtain ⟨p, l, e, R, s, m, args, below, meth, c, D, dA, ro, ad0, n0, nL, A, Q⟩ := X
  obtain ⟨hx, hb, hml, hown, hts, hK, hA, hE, htr, hlk, hrt, hWS⟩ := F
  intro ls st n E ca sl h ad H locs L h1 h2 h3 h4 h5 h6 h7 h8 h9 hca hsl
  unfold o_ib at h
  split at h
  · exact lv_iadd hx hb hd (hk _ _ _ _ _ _ h ad H locs L h1 h2 h3 (am_cs trivial (am_tl (am_tl h4))) h5 h6 h7 h8 h9 hca hsl)
  · exact h.elim
theorem ms_isub {X : am_X} {cc : ByteArray} {own : String} {ret : Option FieldType} {Ts : List Cond} (F : am_F X cc own ret Ts) {pc : Nat} {k : am_C} (hd : decode cc pc = .ok (.isub, 1)) (hk : am_imp k (am_G X (pc + 1))) : am_imp (o_ib (fun x y => x - y) k) (am_G X pc) := by
  obtain ⟨p, l, e, R, s, m, args, below, meth, c, D, dA, ro, ad0, n0, nL, A, Q⟩ := X
  obtain ⟨hx, hb, hml, hown, hts, hK, hA, hE, htr, hlk, hrt, hWS⟩ := F
  intro ls st n E ca sl h ad H locs L h1 h2 h3 h4 h5 h6 h7 h8 h9 hca hsl
  unfold o_ib at h
  split at h
  · exact lv_isub hx hb hd (hk _ _ _ _ _ _ h ad H locs L h1 h2 h3 (am_cs trivial (am_tl (am_tl h4))) h5 h6 h7 h8 h9 hca hsl)
  · exact h.elim
theorem ms_imul {X : am_X} {cc : ByteArray} {own : String} {ret : Option FieldType} {Ts : List Cond} (F : am_F X cc own ret Ts) {pc : Nat} {k : am_C} (hd : decode cc pc = .ok (.imul, 1)) (hk : am_imp k (am_G X (pc + 1))) : am_imp (o_ib (fun x y => x * y) k) (am_G X pc) := by
  obtain ⟨p, l, e, R, s, m, args, below, meth, c, D, dA, ro, ad0, n0, nL, A, Q⟩ := X
  obtain ⟨hx, hb, hml, hown, hts, hK, hA, hE, htr, hlk, hrt, hWS⟩ := F
  intro ls st n E ca sl h ad H locs L h1 h2 h3 h4 h5 h6 h7 h8 h9 hca hsl
  unfold o_ib at h
  split at h
  · exact lv_imul hx hb hd (hk _ _ _ _ _ _ h ad H locs L h1 h2 h3 (am_cs trivial (am_tl (am_tl h4))) h5 h6 h7 h8 h9 hca hsl)
  · exact h.elim
theorem ms_iand {X : am_X} {cc : ByteArray} {own : String} {ret : Option FieldType} {Ts : List Cond} (F : am_F X cc own ret Ts) {pc : Nat} {k : am_C} (hd : decode cc pc = .ok (.iand, 1)) (hk : am_imp k (am_G X (pc + 1))) : am_imp (o_ib (fun x y => x &&& y) k) (am_G X pc) := by
  obtain ⟨p, l, e, R, s, m, args, below, meth, c, D, dA, ro, ad0, n0, nL, A, Q⟩ := X
  obtain ⟨hx, hb, hml, hown, hts, hK, hA, hE, htr, hlk, hrt, hWS⟩ := F
  intro ls st n E ca sl h ad H locs L h1 h2 h3 h4 h5 h6 h7 h8 h9 hca hsl
  unfold o_ib at h
  split at h
  · exact lv_iand hx hb hd (hk _ _ _ _ _ _ h ad H locs L h1 h2 h3 (am_cs trivial (am_tl (am_tl h4))) h5 h6 h7 h8 h9 hca hsl)
  · exact h.elim
theorem ms_ior {X : am_X} {cc : ByteArray} {own : String} {ret : Option FieldType} {Ts : List Cond} (F : am_F X cc own ret Ts) {pc : Nat} {k : am_C} (hd : decode cc pc = .ok (.ior, 1)) (hk : am_imp k (am_G X (pc + 1))) : am_imp (o_ib (fun x y => x ||| y) k) (am_G X pc) := by
  obtain ⟨p, l, e, R, s, m, args, below, meth, c, D, dA, ro, ad0, n0, nL, A, Q⟩ := X
  obtain ⟨hx, hb, hml, hown, hts, hK, hA, hE, htr, hlk, hrt, hWS⟩ := F
  intro ls st n E ca sl h ad H locs L h1 h2 h3 h4 h5 h6 h7 h8 h9 hca hsl
  unfold o_ib at h
  split at h
  · exact lv_ior hx hb hd (hk _ _ _ _ _ _ h ad H locs L h1 h2 h3 (am_cs trivial (am_tl (am_tl h4))) h5 h6 h7 h8 h9 hca hsl)
  · exact h.elim
theorem ms_ixor {X : am_X} {cc : ByteArray} {own : String} {ret : Option FieldType} {Ts : List Cond} (F : am_F X cc own ret Ts) {pc : Nat} {k : am_C} (hd : decode cc pc = .ok (.ixor, 1)) (hk : am_imp k (am_G X (pc + 1))) : am_imp (o_ib (fun x y => x ^^^ y) k) (am_G X pc) := by
  obtain ⟨p, l, e, R, s, m, args, below, meth, c, D, dA, ro, ad0, n0, nL, A, Q⟩ := X
  obtain ⟨hx, hb, hml, hown, hts, hK, hA, hE, htr, hlk, hrt, hWS⟩ := F
  intro ls st n E ca sl h ad H locs L h1 h2 h3 h4 h5 h6 h7 h8 h9 hca hsl
  unfold o_ib at h
  split at h
  · exact lv_ixor hx hb hd (hk _ _ _ _ _ _ h ad H locs L h1 h2 h3 (am_cs trivial (am_tl (am_tl h4))) h5 h6 h7 h8 h9 hca hsl)
  · exact h.elim
theorem ms_ishl {X : am_X} {cc : ByteArray} {own : String} {ret : Option FieldType} {Ts : List Cond} (F : am_F X cc own ret Ts) {pc : Nat} {k : am_C} (hd : decode cc pc = .ok (.ishl, 1)) (hk : am_imp k (am_G X (pc + 1))) : am_imp (o_ib (fun x y => x <<< (y &&& 31)) k) (am_G X pc) := by
  obtain ⟨p, l, e, R, s, m, args, below, meth, c, D, dA, ro, ad0, n0, nL, A, Q⟩ := X
  obtain ⟨hx, hb, hml, hown, hts, hK, hA, hE, htr, hlk, hrt, hWS⟩ := F
  intro ls st n E ca sl h ad H locs L h1 h2 h3 h4 h5 h6 h7 h8 h9 hca hsl
  unfold o_ib at h
  split at h
  · exact lv_ishl hx hb hd (hk _ _ _ _ _ _ h ad H locs L h1 h2 h3 (am_cs trivial (am_tl (am_tl h4))) h5 h6 h7 h8 h9 hca hsl)
  · exact h.elim
theorem ms_ishr {X : am_X} {cc : ByteArray} {own : String} {ret : Option FieldType} {Ts : List Cond} (F : am_F X cc own ret Ts) {pc : Nat} {k : am_C} (hd : decode cc pc = .ok (.ishr, 1)) (hk : am_imp k (am_G X (pc + 1))) : am_imp (o_ib (fun x y => x >>> (y &&& 31)) k) (am_G X pc) := by
  obtain ⟨p, l, e, R, s, m, args, below, meth, c, D, dA, ro, ad0, n0, nL, A, Q⟩ := X
  obtain ⟨hx, hb, hml, hown, hts, hK, hA, hE, htr, hlk, hrt, hWS⟩ := F
  intro ls st n E ca sl h ad H locs L h1 h2 h3 h4 h5 h6 h7 h8 h9 hca hsl
  unfold o_ib at h
  split at h
  · exact lv_ishr hx hb hd (hk _ _ _ _ _ _ h ad H locs L h1 h2 h3 (am_cs trivial (am_tl (am_tl h4))) h5 h6 h7 h8 h9 hca hsl)
  · exact h.elim
theorem ms_iushr {X : am_X} {cc : ByteArray} {own : String} {ret : Option FieldType} {Ts : List Cond} (F : am_F X cc own ret Ts) {pc : Nat} {k : am_C} (hd : decode cc pc = .ok (.iushr, 1)) (hk : am_imp k (am_G X (pc + 1))) : am_imp (o_ib (fun x y => (x.toUInt32 >>> (y.toUInt32 &&& Int32.toUInt32 31)).toInt32) k) (am_G X pc) := by
  obtain ⟨p, l, e, R, s, m, args, below, meth, c, D, dA, ro, ad0, n0, nL, A, Q⟩ := X
  obtain ⟨hx, hb, hml, hown, hts, hK, hA, hE, htr, hlk, hrt, hWS⟩ := F
  intro ls st n E ca sl h ad H locs L h1 h2 h3 h4 h5 h6 h7 h8 h9 hca hsl
  unfold o_ib at h
  split at h
  · exact lv_iushr hx hb hd rfl (hk _ _ _ _ _ _ h ad H locs L h1 h2 h3 (am_cs trivial (am_tl (am_tl h4))) h5 h6 h7 h8 h9 hca hsl)
  · exact h.elim
theorem ms_idiv {X : am_X} {cc : ByteArray} {own : String} {ret : Option FieldType} {Ts : List Cond} (F : am_F X cc own ret Ts) {pc : Nat} {k : am_C} (hd : decode cc pc = .ok (.idiv, 1)) (hk : am_imp k (am_G X (pc + 1))) : am_imp (o_ibz (fun x y => x / y) k) (am_G X pc) := by
  obtain ⟨p, l, e, R, s, m, args, below, meth, c, D, dA, ro, ad0, n0, nL, A, Q⟩ := X
  obtain ⟨hx, hb, hml, hown, hts, hK, hA, hE, htr, hlk, hrt, hWS⟩ := F
  intro ls st n E ca sl h ad H locs L h1 h2 h3 h4 h5 h6 h7 h8 h9 hca hsl
  unfold o_ibz at h
  split at h
  · exact lv_idiv hx hb hd h.1 (hk _ _ _ _ _ _ h.2 ad H locs L h1 h2 h3 (am_cs trivial (am_tl (am_tl h4))) h5 h6 h7 h8 h9 hca hsl)
  · exact h.elim
theorem ms_irem {X : am_X} {cc : ByteArray} {own : String} {ret : Option FieldType} {Ts : List Cond} (F : am_F X cc own ret Ts) {pc : Nat} {k : am_C} (hd : decode cc pc = .ok (.irem, 1)) (hk : am_imp k (am_G X (pc + 1))) : am_imp (o_ibz (fun x y => x - x / y * y) k) (am_G X pc) := by
  obtain ⟨p, l, e, R, s, m, args, below, meth, c, D, dA, ro, ad0, n0, nL, A, Q⟩ := X
  obtain ⟨hx, hb, hml, hown, hts, hK, hA, hE, htr, hlk, hrt, hWS⟩ := F
  intro ls st n E ca sl h ad H locs L h1 h2 h3 h4 h5 h6 h7 h8 h9 hca hsl
  unfold o_ibz at h
  split at h
  · exact lv_irem hx hb hd h.1 (hk _ _ _ _ _ _ h.2 ad H locs L h1 h2 h3 (am_cs trivial (am_tl (am_tl h4))) h5 h6 h7 h8 h9 hca hsl)
  · exact h.elim
theorem ms_ladd {X : am_X} {cc : ByteArray} {own : String} {ret : Option FieldType} {Ts : List Cond} (F : am_F X cc own ret Ts) {pc : Nat} {k : am_C} (hd : decode cc pc = .ok (.ladd, 1)) (hk : am_imp k (am_G X (pc + 1))) : am_imp (o_lb (fun x y => x + y) k) (am_G X pc) := by
  obtain ⟨p, l, e, R, s, m, args, below, meth, c, D, dA, ro, ad0, n0, nL, A, Q⟩ := X
  obtain ⟨hx, hb, hml, hown, hts, hK, hA, hE, htr, hlk, hrt, hWS⟩ := F
  intro ls st n E ca sl h ad H locs L h1 h2 h3 h4 h5 h6 h7 h8 h9 hca hsl
  unfold o_lb at h
  split at h
  · exact lv_ladd hx hb hd (hk _ _ _ _ _ _ h ad H locs L h1 h2 h3 (am_cs trivial (am_tl (am_tl h4))) h5 h6 h7 h8 h9 hca hsl)
  · exact h.elim
theorem ms_lsub {X : am_X} {cc : ByteArray} {own : String} {ret : Option FieldType} {Ts : List Cond} (F : am_F X cc own ret Ts) {pc : Nat} {k : am_C} (hd : decode cc pc = .ok (.lsub, 1)) (hk : am_imp k (am_G X (pc + 1))) : am_imp (o_lb (fun x y => x - y) k) (am_G X pc) := by
  obtain ⟨p, l, e, R, s, m, args, below, meth, c, D, dA, ro, ad0, n0, nL, A, Q⟩ := X
  obtain ⟨hx, hb, hml, hown, hts, hK, hA, hE, htr, hlk, hrt, hWS⟩ := F
  intro ls st n E ca sl h ad H locs L h1 h2 h3 h4 h5 h6 h7 h8 h9 hca hsl
  unfold o_lb at h
  split at h
  · exact lv_lsub hx hb hd (hk _ _ _ _ _ _ h ad H locs L h1 h2 h3 (am_cs trivial (am_tl (am_tl h4))) h5 h6 h7 h8 h9 hca hsl)
  · exact h.elim
theorem ms_lmul {X : am_X} {cc : ByteArray} {own : String} {ret : Option FieldType} {Ts : List Cond} (F : am_F X cc own ret Ts) {pc : Nat} {k : am_C} (hd : decode cc pc = .ok (.lmul, 1)) (hk : am_imp k (am_G X (pc + 1))) : am_imp (o_lb (fun x y => x * y) k) (am_G X pc) := by
  obtain ⟨p, l, e, R, s, m, args, below, meth, c, D, dA, ro, ad0, n0, nL, A, Q⟩ := X
  obtain ⟨hx, hb, hml, hown, hts, hK, hA, hE, htr, hlk, hrt, hWS⟩ := F
  intro ls st n E ca sl h ad H locs L h1 h2 h3 h4 h5 h6 h7 h8 h9 hca hsl
  unfold o_lb at h
  split at h
  · exact lv_lmul hx hb hd (hk _ _ _ _ _ _ h ad H locs L h1 h2 h3 (am_cs trivial (am_tl (am_tl h4))) h5 h6 h7 h8 h9 hca hsl)
  · exact h.elim
theorem ms_lor {X : am_X} {cc : ByteArray} {own : String} {ret : Option FieldType} {Ts : List Cond} (F : am_F X cc own ret Ts) {pc : Nat} {k : am_C} (hd : decode cc pc = .ok (.lor, 1)) (hk : am_imp k (am_G X (pc + 1))) : am_imp (o_lb (fun x y => x ||| y) k) (am_G X pc) := by
  obtain ⟨p, l, e, R, s, m, args, below, meth, c, D, dA, ro, ad0, n0, nL, A, Q⟩ := X
  obtain ⟨hx, hb, hml, hown, hts, hK, hA, hE, htr, hlk, hrt, hWS⟩ := F
  intro ls st n E ca sl h ad H locs L h1 h2 h3 h4 h5 h6 h7 h8 h9 hca hsl
  unfold o_lb at h
  split at h
  · exact lv_lor hx hb hd (hk _ _ _ _ _ _ h ad H locs L h1 h2 h3 (am_cs trivial (am_tl (am_tl h4))) h5 h6 h7 h8 h9 hca hsl)
  · exact h.elim
theorem ms_land {X : am_X} {cc : ByteArray} {own : String} {ret : Option FieldType} {Ts : List Cond} (F : am_F X cc own ret Ts) {pc : Nat} {k : am_C} (hd : decode cc pc = .ok (.land, 1)) (hk : am_imp k (am_G X (pc + 1))) : am_imp (o_lb (fun x y => x &&& y) k) (am_G X pc) := by
  obtain ⟨p, l, e, R, s, m, args, below, meth, c, D, dA, ro, ad0, n0, nL, A, Q⟩ := X
  obtain ⟨hx, hb, hml, hown, hts, hK, hA, hE, htr, hlk, hrt, hWS⟩ := F
  intro ls st n E ca sl h ad H locs L h1 h2 h3 h4 h5 h6 h7 h8 h9 hca hsl
  unfold o_lb at h
  split at h
  · exact lv_land hx hb hd (hk _ _ _ _ _ _ h ad H locs L h1 h2 h3 (am_cs trivial (am_tl (am_tl h4))) h5 h6 h7 h8 h9 hca hsl)
  · exact h.elim
theorem ms_ldiv {X : am_X} {cc : ByteArray} {own : String} {ret : Option FieldType} {Ts : List Cond} (F : am_F X cc own ret Ts) {pc : Nat} {k : am_C} (hd : decode cc pc = .ok (.ldiv, 1)) (hk : am_imp k (am_G X (pc + 1))) : am_imp (o_lbz (fun x y => x / y) k) (am_G X pc) := by
  obtain ⟨p, l, e, R, s, m, args, below, meth, c, D, dA, ro, ad0, n0, nL, A, Q⟩ := X
  obtain ⟨hx, hb, hml, hown, hts, hK, hA, hE, htr, hlk, hrt, hWS⟩ := F
  intro ls st n E ca sl h ad H locs L h1 h2 h3 h4 h5 h6 h7 h8 h9 hca hsl
  unfold o_lbz at h
  split at h
  · exact lv_ldiv hx hb hd h.1 (hk _ _ _ _ _ _ h.2 ad H locs L h1 h2 h3 (am_cs trivial (am_tl (am_tl h4))) h5 h6 h7 h8 h9 hca hsl)
  · exact h.elim
theorem ms_lrem {X : am_X} {cc : ByteArray} {own : String} {ret : Option FieldType} {Ts : List Cond} (F : am_F X cc own ret Ts) {pc : Nat} {k : am_C} (hd : decode cc pc = .ok (.lrem, 1)) (hk : am_imp k (am_G X (pc + 1))) : am_imp (o_lbz (fun x y => x - x / y * y) k) (am_G X pc) := by
  obtain ⟨p, l, e, R, s, m, args, below, meth, c, D, dA, ro, ad0, n0, nL, A, Q⟩ := X
  obtain ⟨hx, hb, hml, hown, hts, hK, hA, hE, htr, hlk, hrt, hWS⟩ := F
  intro ls st n E ca sl h ad H locs L h1 h2 h3 h4 h5 h6 h7 h8 h9 hca hsl
  unfold o_lbz at h
  split at h
  · exact lv_lrem hx hb hd h.1 (hk _ _ _ _ _ _ h.2 ad H locs L h1 h2 h3 (am_cs trivial (am_tl (am_tl h4))) h5 h6 h7 h8 h9 hca hsl)
  · exact h.elim
def o_lsh (f : Int64 → Int32 → Int64) (k : am_C) : am_C := fun ls st n E ca sl => match st with
  | .int y :: .long x :: r => k ls (.long (f x y) :: r) n E ca sl
  | _ => False
theorem ms_lshl {X : am_X} {cc : ByteArray} {own : String} {ret : Option FieldType} {Ts : List Cond} (F : am_F X cc own ret Ts) {pc : Nat} {k : am_C} (hd : decode cc pc = .ok (.lshl, 1)) (hk : am_imp k (am_G X (pc + 1))) : am_imp (o_lsh (fun x y => x <<< (y.toInt64 &&& 63)) k) (am_G X pc) := by
  obtain ⟨p, l, e, R, s, m, args, below, meth, c, D, dA, ro, ad0, n0, nL, A, Q⟩ := X
  obtain ⟨hx, hb, hml, hown, hts, hK, hA, hE, htr, hlk, hrt, hWS⟩ := F
  intro ls st n E ca sl h ad H locs L h1 h2 h3 h4 h5 h6 h7 h8 h9 hca hsl
  unfold o_lsh at h
  split at h
  · exact lv_lshl hx hb hd rfl (hk _ _ _ _ _ _ h ad H locs L h1 h2 h3 (am_cs trivial (am_tl (am_tl h4))) h5 h6 h7 h8 h9 hca hsl)
  · exact h.elim
theorem ms_lushr {X : am_X} {cc : ByteArray} {own : String} {ret : Option FieldType} {Ts : List Cond} (F : am_F X cc own ret Ts) {pc : Nat} {k : am_C} (hd : decode cc pc = .ok (.lushr, 1)) (hk : am_imp k (am_G X (pc + 1))) : am_imp (o_lsh (fun x y => (x.toUInt64 >>> (y.toInt64.toUInt64 &&& Int64.toUInt64 63)).toInt64) k) (am_G X pc) := by
  obtain ⟨p, l, e, R, s, m, args, below, meth, c, D, dA, ro, ad0, n0, nL, A, Q⟩ := X
  obtain ⟨hx, hb, hml, hown, hts, hK, hA, hE, htr, hlk, hrt, hWS⟩ := F
  intro ls st n E ca sl h ad H locs L h1 h2 h3 h4 h5 h6 h7 h8 h9 hca hsl
  unfold o_lsh at h
  split at h
  · exact lv_lushr hx hb hd rfl (hk _ _ _ _ _ _ h ad H locs L h1 h2 h3 (am_cs trivial (am_tl (am_tl h4))) h5 h6 h7 h8 h9 hca hsl)
  · exact h.elim
def o_lcmp (k : am_C) : am_C := fun ls st n E ca sl => match st with
  | .long y :: .long x :: r => k ls (.int (lg_cmp x y) :: r) n E ca sl
  | _ => False
theorem ms_lcmp {X : am_X} {cc : ByteArray} {own : String} {ret : Option FieldType} {Ts : List Cond} (F : am_F X cc own ret Ts) {pc : Nat} {k : am_C} (hd : decode cc pc = .ok (.lcmp, 1)) (hk : am_imp k (am_G X (pc + 1))) : am_imp (o_lcmp k) (am_G X pc) := by
  obtain ⟨p, l, e, R, s, m, args, below, meth, c, D, dA, ro, ad0, n0, nL, A, Q⟩ := X
  obtain ⟨hx, hb, hml, hown, hts, hK, hA, hE, htr, hlk, hrt, hWS⟩ := F
  intro ls st n E ca sl h ad H locs L h1 h2 h3 h4 h5 h6 h7 h8 h9 hca hsl
  unfold o_lcmp at h
  split at h
  · exact W.lcmp hx hb hd (hk _ _ _ _ _ _ h ad H locs L h1 h2 h3 (am_cs trivial (am_tl (am_tl h4))) h5 h6 h7 h8 h9 hca hsl)
  · exact h.elim
def o_ineg (k : am_C) : am_C := fun ls st n E ca sl => match st with
  | .int x :: r => k ls (.int (-x) :: r) n E ca sl
  | _ => False
theorem ms_ineg {X : am_X} {cc : ByteArray} {own : String} {ret : Option FieldType} {Ts : List Cond} (F : am_F X cc own ret Ts) {pc : Nat} {k : am_C} (hd : decode cc pc = .ok (.ineg, 1)) (hk : am_imp k (am_G X (pc + 1))) : am_imp (o_ineg k) (am_G X pc) := by
  obtain ⟨p, l, e, R, s, m, args, below, meth, c, D, dA, ro, ad0, n0, nL, A, Q⟩ := X
  obtain ⟨hx, hb, hml, hown, hts, hK, hA, hE, htr, hlk, hrt, hWS⟩ := F
  intro ls st n E ca sl h ad H locs L h1 h2 h3 h4 h5 h6 h7 h8 h9 hca hsl
  unfold o_ineg at h
  split at h
  · exact lv_ineg hx hb hd  (hk _ _ _ _ _ _ h ad H locs L h1 h2 h3 (am_cs trivial (am_tl h4)) h5 h6 h7 h8 h9 hca hsl)
  · exact h.elim
def o_i2l (k : am_C) : am_C := fun ls st n E ca sl => match st with
  | .int x :: r => k ls (.long (x.toInt64) :: r) n E ca sl
  | _ => False
theorem ms_i2l {X : am_X} {cc : ByteArray} {own : String} {ret : Option FieldType} {Ts : List Cond} (F : am_F X cc own ret Ts) {pc : Nat} {k : am_C} (hd : decode cc pc = .ok (.i2l, 1)) (hk : am_imp k (am_G X (pc + 1))) : am_imp (o_i2l k) (am_G X pc) := by
  obtain ⟨p, l, e, R, s, m, args, below, meth, c, D, dA, ro, ad0, n0, nL, A, Q⟩ := X
  obtain ⟨hx, hb, hml, hown, hts, hK, hA, hE, htr, hlk, hrt, hWS⟩ := F
  intro ls st n E ca sl h ad H locs L h1 h2 h3 h4 h5 h6 h7 h8 h9 hca hsl
  unfold o_i2l at h
  split at h
  · exact lv_i2l hx hb hd rfl (hk _ _ _ _ _ _ h ad H locs L h1 h2 h3 (am_cs trivial (am_tl h4)) h5 h6 h7 h8 h9 hca hsl)
  · exact h.elim
def o_l2i (k : am_C) : am_C := fun ls st n E ca sl => match st with
  | .long x :: r => k ls (.int (x.toInt32) :: r) n E ca sl
  | _ => False
theorem ms_l2i {X : am_X} {cc : ByteArray} {own : String} {ret : Option FieldType} {Ts : List Cond} (F : am_F X cc own ret Ts) {pc : Nat} {k : am_C} (hd : decode cc pc = .ok (.l2i, 1)) (hk : am_imp k (am_G X (pc + 1))) : am_imp (o_l2i k) (am_G X pc) := by
  obtain ⟨p, l, e, R, s, m, args, below, meth, c, D, dA, ro, ad0, n0, nL, A, Q⟩ := X
  obtain ⟨hx, hb, hml, hown, hts, hK, hA, hE, htr, hlk, hrt, hWS⟩ := F
  intro ls st n E ca sl h ad H locs L h1 h2 h3 h4 h5 h6 h7 h8 h9 hca hsl
  unfold o_l2i at h
  split at h
  · exact lv_l2i hx hb hd rfl (hk _ _ _ _ _ _ h ad H locs L h1 h2 h3 (am_cs trivial (am_tl h4)) h5 h6 h7 h8 h9 hca hsl)
  · exact h.elim
def o_i2c (k : am_C) : am_C := fun ls st n E ca sl => match st with
  | .int x :: r => k ls (.int ((x.toUInt32 % 65536).toInt32) :: r) n E ca sl
  | _ => False
theorem ms_i2c {X : am_X} {cc : ByteArray} {own : String} {ret : Option FieldType} {Ts : List Cond} (F : am_F X cc own ret Ts) {pc : Nat} {k : am_C} (hd : decode cc pc = .ok (.i2c, 1)) (hk : am_imp k (am_G X (pc + 1))) : am_imp (o_i2c k) (am_G X pc) := by
  obtain ⟨p, l, e, R, s, m, args, below, meth, c, D, dA, ro, ad0, n0, nL, A, Q⟩ := X
  obtain ⟨hx, hb, hml, hown, hts, hK, hA, hE, htr, hlk, hrt, hWS⟩ := F
  intro ls st n E ca sl h ad H locs L h1 h2 h3 h4 h5 h6 h7 h8 h9 hca hsl
  unfold o_i2c at h
  split at h
  · exact lv_i2c hx hb hd rfl (hk _ _ _ _ _ _ h ad H locs L h1 h2 h3 (am_cs trivial (am_tl h4)) h5 h6 h7 h8 h9 hca hsl)
  · exact h.elim
def o_i2f (k : am_C) : am_C := fun ls st n E ca sl => match st with
  | .int x :: r => k ls (.float (FP.i2f x) :: r) n E ca sl
  | _ => False
theorem ms_i2f {X : am_X} {cc : ByteArray} {own : String} {ret : Option FieldType} {Ts : List Cond} (F : am_F X cc own ret Ts) {pc : Nat} {k : am_C} (hd : decode cc pc = .ok (.i2f, 1)) (hk : am_imp k (am_G X (pc + 1))) : am_imp (o_i2f k) (am_G X pc) := by
  obtain ⟨p, l, e, R, s, m, args, below, meth, c, D, dA, ro, ad0, n0, nL, A, Q⟩ := X
  obtain ⟨hx, hb, hml, hown, hts, hK, hA, hE, htr, hlk, hrt, hWS⟩ := F
  intro ls st n E ca sl h ad H locs L h1 h2 h3 h4 h5 h6 h7 h8 h9 hca hsl
  unfold o_i2f at h
  split at h
  · exact lv_i2f hx hb hd  (hk _ _ _ _ _ _ h ad H locs L h1 h2 h3 (am_cs trivial (am_tl h4)) h5 h6 h7 h8 h9 hca hsl)
  · exact h.elim
def o_i2d (k : am_C) : am_C := fun ls st n E ca sl => match st with
  | .int x :: r => k ls (.double (FP.i2d x) :: r) n E ca sl
  | _ => False
theorem ms_i2d {X : am_X} {cc : ByteArray} {own : String} {ret : Option FieldType} {Ts : List Cond} (F : am_F X cc own ret Ts) {pc : Nat} {k : am_C} (hd : decode cc pc = .ok (.i2d, 1)) (hk : am_imp k (am_G X (pc + 1))) : am_imp (o_i2d k) (am_G X pc) := by
  obtain ⟨p, l, e, R, s, m, args, below, meth, c, D, dA, ro, ad0, n0, nL, A, Q⟩ := X
  obtain ⟨hx, hb, hml, hown, hts, hK, hA, hE, htr, hlk, hrt, hWS⟩ := F
  intro ls st n E ca sl h ad H locs L h1 h2 h3 h4 h5 h6 h7 h8 h9 hca hsl
  unfold o_i2d at h
  split at h
  · exact lv_i2d hx hb hd  (hk _ _ _ _ _ _ h ad H locs L h1 h2 h3 (am_cs trivial (am_tl h4)) h5 h6 h7 h8 h9 hca hsl)
  · exact h.elim
def o_f2d (k : am_C) : am_C := fun ls st n E ca sl => match st with
  | .float x :: r => vf_n64 (FP.f2d x) ∧ k ls (.double (FP.f2d x) :: r) n E ca sl
  | _ => False
theorem ms_f2d {X : am_X} {cc : ByteArray} {own : String} {ret : Option FieldType} {Ts : List Cond} (F : am_F X cc own ret Ts) {pc : Nat} {k : am_C} (hd : decode cc pc = .ok (.f2d, 1)) (hk : am_imp k (am_G X (pc + 1))) : am_imp (o_f2d k) (am_G X pc) := by
  obtain ⟨p, l, e, R, s, m, args, below, meth, c, D, dA, ro, ad0, n0, nL, A, Q⟩ := X
  obtain ⟨hx, hb, hml, hown, hts, hK, hA, hE, htr, hlk, hrt, hWS⟩ := F
  intro ls st n E ca sl h ad H locs L h1 h2 h3 h4 h5 h6 h7 h8 h9 hca hsl
  unfold o_f2d at h
  split at h
  · exact lv_f2d hx hb hd h.1 (hk _ _ _ _ _ _ h.2 ad H locs L h1 h2 h3 (am_cs trivial (am_tl h4)) h5 h6 h7 h8 h9 hca hsl)
  · exact h.elim
def o_fdiv (k : am_C) : am_C := fun ls st n E ca sl => match st with
  | .float y :: .float x :: r => vf_n32 (FP.fdiv x y) ∧ k ls (.float (FP.fdiv x y) :: r) n E ca sl
  | _ => False
theorem ms_fdiv {X : am_X} {cc : ByteArray} {own : String} {ret : Option FieldType} {Ts : List Cond} (F : am_F X cc own ret Ts) {pc : Nat} {k : am_C} (hd : decode cc pc = .ok (.fdiv, 1)) (hk : am_imp k (am_G X (pc + 1))) : am_imp (o_fdiv k) (am_G X pc) := by
  obtain ⟨p, l, e, R, s, m, args, below, meth, c, D, dA, ro, ad0, n0, nL, A, Q⟩ := X
  obtain ⟨hx, hb, hml, hown, hts, hK, hA, hE, htr, hlk, hrt, hWS⟩ := F
  intro ls st n E ca sl h ad H locs L h1 h2 h3 h4 h5 h6 h7 h8 h9 hca hsl
  unfold o_fdiv at h
  split at h
  · exact lv_fdiv hx hb hd h.1 (hk _ _ _ _ _ _ h.2 ad H locs L h1 h2 h3 (am_cs trivial (am_tl (am_tl h4))) h5 h6 h7 h8 h9 hca hsl)
  · exact h.elim
def o_ddiv (k : am_C) : am_C := fun ls st n E ca sl => match st with
  | .double y :: .double x :: r => vf_n64 (FP.ddiv x y) ∧ k ls (.double (FP.ddiv x y) :: r) n E ca sl
  | _ => False
theorem ms_ddiv {X : am_X} {cc : ByteArray} {own : String} {ret : Option FieldType} {Ts : List Cond} (F : am_F X cc own ret Ts) {pc : Nat} {k : am_C} (hd : decode cc pc = .ok (.ddiv, 1)) (hk : am_imp k (am_G X (pc + 1))) : am_imp (o_ddiv k) (am_G X pc) := by
  obtain ⟨p, l, e, R, s, m, args, below, meth, c, D, dA, ro, ad0, n0, nL, A, Q⟩ := X
  obtain ⟨hx, hb, hml, hown, hts, hK, hA, hE, htr, hlk, hrt, hWS⟩ := F
  intro ls st n E ca sl h ad H locs L h1 h2 h3 h4 h5 h6 h7 h8 h9 hca hsl
  unfold o_ddiv at h
  split at h
  · exact lv_ddiv hx hb hd h.1 (hk _ _ _ _ _ _ h.2 ad H locs L h1 h2 h3 (am_cs trivial (am_tl (am_tl h4))) h5 h6 h7 h8 h9 hca hsl)
  · exact h.elim
def o_fcmp (op : CmpOp) (k : am_C) : am_C := fun ls st n E ca sl => match st with
  | .float y :: .float x :: r => k ls (.int (Op.cmpValue (FP.fcmp x y) op) :: r) n E ca sl
  | _ => False
theorem ms_fcmp {X : am_X} {cc : ByteArray} {own : String} {ret : Option FieldType} {Ts : List Cond} (F : am_F X cc own ret Ts) {pc : Nat} {k : am_C} {op : CmpOp} (hd : decode cc pc = .ok (.fcmp op, 1)) (hk : am_imp k (am_G X (pc + 1))) : am_imp (o_fcmp op k) (am_G X pc) := by
  obtain ⟨p, l, e, R, s, m, args, below, meth, c, D, dA, ro, ad0, n0, nL, A, Q⟩ := X
  obtain ⟨hx, hb, hml, hown, hts, hK, hA, hE, htr, hlk, hrt, hWS⟩ := F
  intro ls st n E ca sl h ad H locs L h1 h2 h3 h4 h5 h6 h7 h8 h9 hca hsl
  unfold o_fcmp at h
  split at h
  · exact lv_fcmp hx hb hd (hk _ _ _ _ _ _ h ad H locs L h1 h2 h3 (am_cs trivial (am_tl (am_tl h4))) h5 h6 h7 h8 h9 hca hsl)
  · exact h.elim
def o_dcmp (op : CmpOp) (k : am_C) : am_C := fun ls st n E ca sl => match st with
  | .double y :: .double x :: r => k ls (.int (Op.cmpValue (FP.dcmp x y) op) :: r) n E ca sl
  | _ => False
theorem ms_dcmp {X : am_X} {cc : ByteArray} {own : String} {ret : Option FieldType} {Ts : List Cond} (F : am_F X cc own ret Ts) {pc : Nat} {k : am_C} {op : CmpOp} (hd : decode cc pc = .ok (.dcmp op, 1)) (hk : am_imp k (am_G X (pc + 1))) : am_imp (o_dcmp op k) (am_G X pc) := by
  obtain ⟨p, l, e, R, s, m, args, below, meth, c, D, dA, ro, ad0, n0, nL, A, Q⟩ := X
  obtain ⟨hx, hb, hml, hown, hts, hK, hA, hE, htr, hlk, hrt, hWS⟩ := F
  intro ls st n E ca sl h ad H locs L h1 h2 h3 h4 h5 h6 h7 h8 h9 hca hsl
  unfold o_dcmp at h
  split at h
  · exact lv_dcmp hx hb hd (hk _ _ _ _ _ _ h ad H locs L h1 h2 h3 (am_cs trivial (am_tl (am_tl h4))) h5 h6 h7 h8 h9 hca hsl)
  · exact h.elim
def o_dup (k : am_C) : am_C := fun ls st n E ca sl => match st with
  | v :: r => v.category = 1 ∧ k ls (v :: v :: r) n E ca sl
  | _ => False
theorem ms_dup {X : am_X} {cc : ByteArray} {own : String} {ret : Option FieldType} {Ts : List Cond} (F : am_F X cc own ret Ts) {pc : Nat} {k : am_C} (hd : decode cc pc = .ok (.dup, 1)) (hk : am_imp k (am_G X (pc + 1))) : am_imp (o_dup k) (am_G X pc) := by
  obtain ⟨p, l, e, R, s, m, args, below, meth, c, D, dA, ro, ad0, n0, nL, A, Q⟩ := X
  obtain ⟨hx, hb, hml, hown, hts, hK, hA, hE, htr, hlk, hrt, hWS⟩ := F
  intro ls st n E ca sl h ad H locs L h1 h2 h3 h4 h5 h6 h7 h8 h9 hca hsl
  unfold o_dup at h
  split at h
  · exact lv_dup hx hb hd (by rw [am_tr_cat]; exact h.1) (hk _ _ _ _ _ _ h.2 ad H locs L h1 h2 h3 (am_cs (am_hd h4) h4) h5 h6 h7 h8 h9 hca hsl)
  · exact h.elim
def o_dup2 (k : am_C) : am_C := fun ls st n E ca sl => match st with
  | v :: w :: r => (v.category = 1 ∧ w.category = 1) ∧ k ls (v :: w :: v :: w :: r) n E ca sl
  | _ => False
theorem ms_dup2 {X : am_X} {cc : ByteArray} {own : String} {ret : Option FieldType} {Ts : List Cond} (F : am_F X cc own ret Ts) {pc : Nat} {k : am_C} (hd : decode cc pc = .ok (.dup2, 1)) (hk : am_imp k (am_G X (pc + 1))) : am_imp (o_dup2 k) (am_G X pc) := by
  obtain ⟨p, l, e, R, s, m, args, below, meth, c, D, dA, ro, ad0, n0, nL, A, Q⟩ := X
  obtain ⟨hx, hb, hml, hown, hts, hK, hA, hE, htr, hlk, hrt, hWS⟩ := F
  intro ls st n E ca sl h ad H locs L h1 h2 h3 h4 h5 h6 h7 h8 h9 hca hsl
  unfold o_dup2 at h
  split at h
  · exact lv_dup2_11 hx hb hd (by rw [am_tr_cat]; exact h.1.1) (by rw [am_tr_cat]; exact h.1.2) (hk _ _ _ _ _ _ h.2 ad H locs L h1 h2 h3 (am_cs (am_hd h4) (am_cs (am_hd (am_tl h4)) h4)) h5 h6 h7 h8 h9 hca hsl)
  · exact h.elim
def o_pop (k : am_C) : am_C := fun ls st n E ca sl => match st with
  | v :: r => v.category = 1 ∧ k ls r n E ca sl
  | _ => False
theorem ms_pop {X : am_X} {cc : ByteArray} {own : String} {ret : Option FieldType} {Ts : List Cond} (F : am_F X cc own ret Ts) {pc : Nat} {k : am_C} (hd : decode cc pc = .ok (.pop, 1)) (hk : am_imp k (am_G X (pc + 1))) : am_imp (o_pop k) (am_G X pc) := by
  obtain ⟨p, l, e, R, s, m, args, below, meth, c, D, dA, ro, ad0, n0, nL, A, Q⟩ := X
  obtain ⟨hx, hb, hml, hown, hts, hK, hA, hE, htr, hlk, hrt, hWS⟩ := F
  intro ls st n E ca sl h ad H locs L h1 h2 h3 h4 h5 h6 h7 h8 h9 hca hsl
  unfold o_pop at h
  split at h
  · exact lv_pop hx hb hd (by rw [am_tr_cat]; exact h.1) (hk _ _ _ _ _ _ h.2 ad H locs L h1 h2 h3 (am_tl h4) h5 h6 h7 h8 h9 hca hsl)
  · exact h.elim
def o_if (c : Int32 → Prop) (dc : ∀ x, Decidable (c x)) (kt kf : am_C) : am_C := fun ls st n E ca sl => match st with
  | .int x :: r => @ite Prop (c x) (dc x) (kt ls r n E ca sl) (kf ls r n E ca sl)
  | _ => False
def o_ic (c : Int32 → Int32 → Prop) (dc : ∀ x y, Decidable (c x y)) (kt kf : am_C) : am_C := fun ls st n E ca sl => match st with
  | .int y :: .int x :: r => @ite Prop (c x y) (dc x y) (kt ls r n E ca sl) (kf ls r n E ca sl)
  | _ => False
abbrev o_if_eq (kt kf : am_C) : am_C := o_if (fun x => x = 0) (fun _ => inferInstance) kt kf
theorem ms_if_eq {X : am_X} {cc : ByteArray} {own : String} {ret : Option FieldType} {Ts : List Cond} (F : am_F X cc own ret Ts) {pc tgt : Nat} {k k2 : am_C} {off : Int} (hd : decode cc pc = .ok (.ifCond .eq off, 3)) (ht : (pc : Int) + off = (tgt : Int)) (hk : am_imp k (am_G X tgt)) (hk2 : am_imp k2 (am_G X (pc + 3))) : am_imp (o_if_eq k k2) (am_G X pc) := by
  obtain ⟨p, l, e, R, s, m, args, below, meth, c, D, dA, ro, ad0, n0, nL, A, Q⟩ := X
  obtain ⟨hx, hb, hml, hown, hts, hK, hA, hE, htr, hlk, hrt, hWS⟩ := F
  intro ls st n E ca sl h ad H locs L h1 h2 h3 h4 h5 h6 h7 h8 h9 hca hsl
  unfold o_if_eq o_if at h
  split at h
  · rename_i x r
    exact lv_if_eq hx hb hd ht (fun q => hk _ _ _ _ _ _ (by rw [if_pos q] at h; exact h) ad H locs L h1 h2 h3 (am_tl h4) h5 h6 h7 h8 h9 hca hsl) (fun q => hk2 _ _ _ _ _ _ (by rw [if_neg q] at h; exact h) ad H locs L h1 h2 h3 (am_tl h4) h5 h6 h7 h8 h9 hca hsl)
  · exact h.elim
abbrev o_if_ne (kt kf : am_C) : am_C := o_if (fun x => ¬ x = 0) (fun _ => inferInstance) kt kf
theorem ms_if_ne {X : am_X} {cc : ByteArray} {own : String} {ret : Option FieldType} {Ts : List Cond} (F : am_F X cc own ret Ts) {pc tgt : Nat} {k k2 : am_C} {off : Int} (hd : decode cc pc = .ok (.ifCond .ne off, 3)) (ht : (pc : Int) + off = (tgt : Int)) (hk : am_imp k (am_G X tgt)) (hk2 : am_imp k2 (am_G X (pc + 3))) : am_imp (o_if_ne k k2) (am_G X pc) := by
  obtain ⟨p, l, e, R, s, m, args, below, meth, c, D, dA, ro, ad0, n0, nL, A, Q⟩ := X
  obtain ⟨hx, hb, hml, hown, hts, hK, hA, hE, htr, hlk, hrt, hWS⟩ := F
  intro ls st n E ca sl h ad H locs L h1 h2 h3 h4 h5 h6 h7 h8 h9 hca hsl
  unfold o_if_ne o_if at h
  split at h
  · rename_i x r
    exact lv_if_ne hx hb hd ht (fun q => hk _ _ _ _ _ _ (by rw [if_pos q] at h; exact h) ad H locs L h1 h2 h3 (am_tl h4) h5 h6 h7 h8 h9 hca hsl) (fun q => hk2 _ _ _ _ _ _ (by rw [if_neg (fun z => z q)] at h; exact h) ad H locs L h1 h2 h3 (am_tl h4) h5 h6 h7 h8 h9 hca hsl)
  · exact h.elim
abbrev o_if_lt (kt kf : am_C) : am_C := o_if (fun x => x < 0) (fun _ => inferInstance) kt kf
theorem ms_if_lt {X : am_X} {cc : ByteArray} {own : String} {ret : Option FieldType} {Ts : List Cond} (F : am_F X cc own ret Ts) {pc tgt : Nat} {k k2 : am_C} {off : Int} (hd : decode cc pc = .ok (.ifCond .lt off, 3)) (ht : (pc : Int) + off = (tgt : Int)) (hk : am_imp k (am_G X tgt)) (hk2 : am_imp k2 (am_G X (pc + 3))) : am_imp (o_if_lt k k2) (am_G X pc) := by
  obtain ⟨p, l, e, R, s, m, args, below, meth, c, D, dA, ro, ad0, n0, nL, A, Q⟩ := X
  obtain ⟨hx, hb, hml, hown, hts, hK, hA, hE, htr, hlk, hrt, hWS⟩ := F
  intro ls st n E ca sl h ad H locs L h1 h2 h3 h4 h5 h6 h7 h8 h9 hca hsl
  unfold o_if_lt o_if at h
  split at h
  · rename_i x r
    exact lv_if_lt hx hb hd ht (fun q => hk _ _ _ _ _ _ (by rw [if_pos q] at h; exact h) ad H locs L h1 h2 h3 (am_tl h4) h5 h6 h7 h8 h9 hca hsl) (fun q => hk2 _ _ _ _ _ _ (by rw [if_neg q] at h; exact h) ad H locs L h1 h2 h3 (am_tl h4) h5 h6 h7 h8 h9 hca hsl)
  · exact h.elim
abbrev o_if_ge (kt kf : am_C) : am_C := o_if (fun x => 0 ≤ x) (fun _ => inferInstance) kt kf
theorem ms_if_ge {X : am_X} {cc : ByteArray} {own : String} {ret : Option FieldType} {Ts : List Cond} (F : am_F X cc own ret Ts) {pc tgt : Nat} {k k2 : am_C} {off : Int} (hd : decode cc pc = .ok (.ifCond .ge off, 3)) (ht : (pc : Int) + off = (tgt : Int)) (hk : am_imp k (am_G X tgt)) (hk2 : am_imp k2 (am_G X (pc + 3))) : am_imp (o_if_ge k k2) (am_G X pc) := by
  obtain ⟨p, l, e, R, s, m, args, below, meth, c, D, dA, ro, ad0, n0, nL, A, Q⟩ := X
  obtain ⟨hx, hb, hml, hown, hts, hK, hA, hE, htr, hlk, hrt, hWS⟩ := F
  intro ls st n E ca sl h ad H locs L h1 h2 h3 h4 h5 h6 h7 h8 h9 hca hsl
  unfold o_if_ge o_if at h
  split at h
  · rename_i x r
    exact lv_if_ge hx hb hd ht (fun q => hk _ _ _ _ _ _ (by rw [if_pos q] at h; exact h) ad H locs L h1 h2 h3 (am_tl h4) h5 h6 h7 h8 h9 hca hsl) (fun q => hk2 _ _ _ _ _ _ (by rw [if_neg q] at h; exact h) ad H locs L h1 h2 h3 (am_tl h4) h5 h6 h7 h8 h9 hca hsl)
  · exact h.elim
abbrev o_if_gt (kt kf : am_C) : am_C := o_if (fun x => 0 < x) (fun _ => inferInstance) kt kf
theorem ms_if_gt {X : am_X} {cc : ByteArray} {own : String} {ret : Option FieldType} {Ts : List Cond} (F : am_F X cc own ret Ts) {pc tgt : Nat} {k k2 : am_C} {off : Int} (hd : decode cc pc = .ok (.ifCond .gt off, 3)) (ht : (pc : Int) + off = (tgt : Int)) (hk : am_imp k (am_G X tgt)) (hk2 : am_imp k2 (am_G X (pc + 3))) : am_imp (o_if_gt k k2) (am_G X pc) := by
  obtain ⟨p, l, e, R, s, m, args, below, meth, c, D, dA, ro, ad0, n0, nL, A, Q⟩ := X
  obtain ⟨hx, hb, hml, hown, hts, hK, hA, hE, htr, hlk, hrt, hWS⟩ := F
  intro ls st n E ca sl h ad H locs L h1 h2 h3 h4 h5 h6 h7 h8 h9 hca hsl
  unfold o_if_gt o_if at h
  split at h
  · rename_i x r
    exact lv_if_gt hx hb hd ht (fun q => hk _ _ _ _ _ _ (by rw [if_pos q] at h; exact h) ad H locs L h1 h2 h3 (am_tl h4) h5 h6 h7 h8 h9 hca hsl) (fun q => hk2 _ _ _ _ _ _ (by rw [if_neg q] at h; exact h) ad H locs L h1 h2 h3 (am_tl h4) h5 h6 h7 h8 h9 hca hsl)
  · exact h.elim
abbrev o_if_le (kt kf : am_C) : am_C := o_if (fun x => x ≤ 0) (fun _ => inferInstance) kt kf
theorem ms_if_le {X : am_X} {cc : ByteArray} {own : String} {ret : Option FieldType} {Ts : List Cond} (F : am_F X cc own ret Ts) {pc tgt : Nat} {k k2 : am_C} {off : Int} (hd : decode cc pc = .ok (.ifCond .le off, 3)) (ht : (pc : Int) + off = (tgt : Int)) (hk : am_imp k (am_G X tgt)) (hk2 : am_imp k2 (am_G X (pc + 3))) : am_imp (o_if_le k k2) (am_G X pc) := by
  obtain ⟨p, l, e, R, s, m, args, below, meth, c, D, dA, ro, ad0, n0, nL, A, Q⟩ := X
  obtain ⟨hx, hb, hml, hown, hts, hK, hA, hE, htr, hlk, hrt, hWS⟩ := F
  intro ls st n E ca sl h ad H locs L h1 h2 h3 h4 h5 h6 h7 h8 h9 hca hsl
  unfold o_if_le o_if at h
  split at h
  · rename_i x r
    exact lv_if_le hx hb hd ht (fun q => hk _ _ _ _ _ _ (by rw [if_pos q] at h; exact h) ad H locs L h1 h2 h3 (am_tl h4) h5 h6 h7 h8 h9 hca hsl) (fun q => hk2 _ _ _ _ _ _ (by rw [if_neg q] at h; exact h) ad H locs L h1 h2 h3 (am_tl h4) h5 h6 h7 h8 h9 hca hsl)
  · exact h.elim
abbrev o_ic_eq (kt kf : am_C) : am_C := o_ic (fun x y => x = y) (fun _ _ => inferInstance) kt kf
theorem ms_ic_eq {X : am_X} {cc : ByteArray} {own : String} {ret : Option FieldType} {Ts : List Cond} (F : am_F X cc own ret Ts) {pc tgt : Nat} {k k2 : am_C} {off : Int} (hd : decode cc pc = .ok (.if_icmp .eq off, 3)) (ht : (pc : Int) + off = (tgt : Int)) (hk : am_imp k (am_G X tgt)) (hk2 : am_imp k2 (am_G X (pc + 3))) : am_imp (o_ic_eq k k2) (am_G X pc) := by
  obtain ⟨p, l, e, R, s, m, args, below, meth, c, D, dA, ro, ad0, n0, nL, A, Q⟩ := X
  obtain ⟨hx, hb, hml, hown, hts, hK, hA, hE, htr, hlk, hrt, hWS⟩ := F
  intro ls st n E ca sl h ad H locs L h1 h2 h3 h4 h5 h6 h7 h8 h9 hca hsl
  unfold o_ic_eq o_ic at h
  split at h
  · rename_i y x r
    exact lv_icmp_eq hx hb hd ht (fun q => hk _ _ _ _ _ _ (by rw [if_pos q] at h; exact h) ad H locs L h1 h2 h3 (am_tl (am_tl h4)) h5 h6 h7 h8 h9 hca hsl) (fun q => hk2 _ _ _ _ _ _ (by rw [if_neg q] at h; exact h) ad H locs L h1 h2 h3 (am_tl (am_tl h4)) h5 h6 h7 h8 h9 hca hsl)
  · exact h.elim
abbrev o_ic_ne (kt kf : am_C) : am_C := o_ic (fun x y => ¬ x = y) (fun _ _ => inferInstance) kt kf
theorem ms_ic_ne {X : am_X} {cc : ByteArray} {own : String} {ret : Option FieldType} {Ts : List Cond} (F : am_F X cc own ret Ts) {pc tgt : Nat} {k k2 : am_C} {off : Int} (hd : decode cc pc = .ok (.if_icmp .ne off, 3)) (ht : (pc : Int) + off = (tgt : Int)) (hk : am_imp k (am_G X tgt)) (hk2 : am_imp k2 (am_G X (pc + 3))) : am_imp (o_ic_ne k k2) (am_G X pc) := by
  obtain ⟨p, l, e, R, s, m, args, below, meth, c, D, dA, ro, ad0, n0, nL, A, Q⟩ := X
  obtain ⟨hx, hb, hml, hown, hts, hK, hA, hE, htr, hlk, hrt, hWS⟩ := F
  intro ls st n E ca sl h ad H locs L h1 h2 h3 h4 h5 h6 h7 h8 h9 hca hsl
  unfold o_ic_ne o_ic at h
  split at h
  · rename_i y x r
    exact lv_icmp_ne hx hb hd ht (fun q => hk _ _ _ _ _ _ (by rw [if_pos q] at h; exact h) ad H locs L h1 h2 h3 (am_tl (am_tl h4)) h5 h6 h7 h8 h9 hca hsl) (fun q => hk2 _ _ _ _ _ _ (by rw [if_neg (fun z => z q)] at h; exact h) ad H locs L h1 h2 h3 (am_tl (am_tl h4)) h5 h6 h7 h8 h9 hca hsl)
  · exact h.elim
abbrev o_ic_lt (kt kf : am_C) : am_C := o_ic (fun x y => x < y) (fun _ _ => inferInstance) kt kf
theorem ms_ic_lt {X : am_X} {cc : ByteArray} {own : String} {ret : Option FieldType} {Ts : List Cond} (F : am_F X cc own ret Ts) {pc tgt : Nat} {k k2 : am_C} {off : Int} (hd : decode cc pc = .ok (.if_icmp .lt off, 3)) (ht : (pc : Int) + off = (tgt : Int)) (hk : am_imp k (am_G X tgt)) (hk2 : am_imp k2 (am_G X (pc + 3))) : am_imp (o_ic_lt k k2) (am_G X pc) := by
  obtain ⟨p, l, e, R, s, m, args, below, meth, c, D, dA, ro, ad0, n0, nL, A, Q⟩ := X
  obtain ⟨hx, hb, hml, hown, hts, hK, hA, hE, htr, hlk, hrt, hWS⟩ := F
  intro ls st n E ca sl h ad H locs L h1 h2 h3 h4 h5 h6 h7 h8 h9 hca hsl
  unfold o_ic_lt o_ic at h
  split at h
  · rename_i y x r
    exact lv_icmp_lt hx hb hd ht (fun q => hk _ _ _ _ _ _ (by rw [if_pos q] at h; exact h) ad H locs L h1 h2 h3 (am_tl (am_tl h4)) h5 h6 h7 h8 h9 hca hsl) (fun q => hk2 _ _ _ _ _ _ (by rw [if_neg q] at h; exact h) ad H locs L h1 h2 h3 (am_tl (am_tl h4)) h5 h6 h7 h8 h9 hca hsl)
  · exact h.elim
abbrev o_ic_ge (kt kf : am_C) : am_C := o_ic (fun x y => y ≤ x) (fun _ _ => inferInstance) kt kf
theorem ms_ic_ge {X : am_X} {cc : ByteArray} {own : String} {ret : Option FieldType} {Ts : List Cond} (F : am_F X cc own ret Ts) {pc tgt : Nat} {k k2 : am_C} {off : Int} (hd : decode cc pc = .ok (.if_icmp .ge off, 3)) (ht : (pc : Int) + off = (tgt : Int)) (hk : am_imp k (am_G X tgt)) (hk2 : am_imp k2 (am_G X (pc + 3))) : am_imp (o_ic_ge k k2) (am_G X pc) := by
  obtain ⟨p, l, e, R, s, m, args, below, meth, c, D, dA, ro, ad0, n0, nL, A, Q⟩ := X
  obtain ⟨hx, hb, hml, hown, hts, hK, hA, hE, htr, hlk, hrt, hWS⟩ := F
  intro ls st n E ca sl h ad H locs L h1 h2 h3 h4 h5 h6 h7 h8 h9 hca hsl
  unfold o_ic_ge o_ic at h
  split at h
  · rename_i y x r
    exact lv_icmp_ge hx hb hd ht (fun q => hk _ _ _ _ _ _ (by rw [if_pos q] at h; exact h) ad H locs L h1 h2 h3 (am_tl (am_tl h4)) h5 h6 h7 h8 h9 hca hsl) (fun q => hk2 _ _ _ _ _ _ (by rw [if_neg q] at h; exact h) ad H locs L h1 h2 h3 (am_tl (am_tl h4)) h5 h6 h7 h8 h9 hca hsl)
  · exact h.elim
abbrev o_ic_gt (kt kf : am_C) : am_C := o_ic (fun x y => y < x) (fun _ _ => inferInstance) kt kf
theorem ms_ic_gt {X : am_X} {cc : ByteArray} {own : String} {ret : Option FieldType} {Ts : List Cond} (F : am_F X cc own ret Ts) {pc tgt : Nat} {k k2 : am_C} {off : Int} (hd : decode cc pc = .ok (.if_icmp .gt off, 3)) (ht : (pc : Int) + off = (tgt : Int)) (hk : am_imp k (am_G X tgt)) (hk2 : am_imp k2 (am_G X (pc + 3))) : am_imp (o_ic_gt k k2) (am_G X pc) := by
  obtain ⟨p, l, e, R, s, m, args, below, meth, c, D, dA, ro, ad0, n0, nL, A, Q⟩ := X
  obtain ⟨hx, hb, hml, hown, hts, hK, hA, hE, htr, hlk, hrt, hWS⟩ := F
  intro ls st n E ca sl h ad H locs L h1 h2 h3 h4 h5 h6 h7 h8 h9 hca hsl
  unfold o_ic_gt o_ic at h
  split at h
  · rename_i y x r
    exact lv_icmp_gt hx hb hd ht (fun q => hk _ _ _ _ _ _ (by rw [if_pos q] at h; exact h) ad H locs L h1 h2 h3 (am_tl (am_tl h4)) h5 h6 h7 h8 h9 hca hsl) (fun q => hk2 _ _ _ _ _ _ (by rw [if_neg q] at h; exact h) ad H locs L h1 h2 h3 (am_tl (am_tl h4)) h5 h6 h7 h8 h9 hca hsl)
  · exact h.elim
abbrev o_ic_le (kt kf : am_C) : am_C := o_ic (fun x y => x ≤ y) (fun _ _ => inferInstance) kt kf
theorem ms_ic_le {X : am_X} {cc : ByteArray} {own : String} {ret : Option FieldType} {Ts : List Cond} (F : am_F X cc own ret Ts) {pc tgt : Nat} {k k2 : am_C} {off : Int} (hd : decode cc pc = .ok (.if_icmp .le off, 3)) (ht : (pc : Int) + off = (tgt : Int)) (hk : am_imp k (am_G X tgt)) (hk2 : am_imp k2 (am_G X (pc + 3))) : am_imp (o_ic_le k k2) (am_G X pc) := by
  obtain ⟨p, l, e, R, s, m, args, below, meth, c, D, dA, ro, ad0, n0, nL, A, Q⟩ := X
  obtain ⟨hx, hb, hml, hown, hts, hK, hA, hE, htr, hlk, hrt, hWS⟩ := F
  intro ls st n E ca sl h ad H locs L h1 h2 h3 h4 h5 h6 h7 h8 h9 hca hsl
  unfold o_ic_le o_ic at h
  split at h
  · rename_i y x r
    exact lv_icmp_le hx hb hd ht (fun q => hk _ _ _ _ _ _ (by rw [if_pos q] at h; exact h) ad H locs L h1 h2 h3 (am_tl (am_tl h4)) h5 h6 h7 h8 h9 hca hsl) (fun q => hk2 _ _ _ _ _ _ (by rw [if_neg q] at h; exact h) ad H locs L h1 h2 h3 (am_tl (am_tl h4)) h5 h6 h7 h8 h9 hca hsl)
  · exact h.elim
theorem ms_goto {X : am_X} {cc : ByteArray} {own : String} {ret : Option FieldType} {Ts : List Cond} (F : am_F X cc own ret Ts) {pc tgt : Nat} {k : am_C} {off : Int} (hd : decode cc pc = .ok (.goto off, 3)) (ht : (pc : Int) + off = (tgt : Int)) (hk : am_imp k (am_G X tgt)) : am_imp k (am_G X pc) := by
  obtain ⟨p, l, e, R, s, m, args, below, meth, c, D, dA, ro, ad0, n0, nL, A, Q⟩ := X
  obtain ⟨hx, hb, hml, hown, hts, hK, hA, hE, htr, hlk, hrt, hWS⟩ := F
  intro ls st n E ca sl h ad H locs L h1 h2 h3 h4 h5 h6 h7 h8 h9 hca hsl
  exact lv_goto hx hb hd ht (hk _ _ _ _ _ _ h ad H locs L h1 h2 h3 h4 h5 h6 h7 h8 h9 hca hsl)
/-! ===== the heap ===== -/
def am_fit (ty : FieldType) (v : Value) : Prop := ∀ ad ro : Nat → Nat, narrow ty (am_tr ad ro v) = am_tr ad ro v ∧ fits ty (am_tr ad ro v) = true
def o_getf (ci j : Nat) (k : am_C) : am_C := fun ls st n E ca sl => match st with
  | .ref a :: r => match E a with
    | some (.inr (c, fs)) => c = ci ∧ match fs[j]? with
      | some v => k ls (v :: r) n E ca sl
      | none => False
    | _ => False
  | _ => False
def o_putf (ci j : Nat) (ty : FieldType) (k : am_C) : am_C := fun ls st n E ca sl => match st with
  | v :: .ref a :: r => match E a with
    | some (.inr (c, fs)) => c = ci ∧ j < fs.length ∧ am_fit ty v ∧ k ls r n (am_u E a (.inr (ci, fs.set j v))) ca sl
    | _ => False
  | _ => False
theorem ms_getf {X : am_X} {cc : ByteArray} {own : String} {ret : Option FieldType} {Ts : List Cond} (F : am_F X cc own ret Ts) {pc : Nat} {k : am_C} {C : String} {T : u_T} {N ci j index : Nat} (hin : ∀ w ∈ u_ws C T N, w ∈ Ts) (hc : vwCl[ci]? = some (C, T, N)) (hj : j < N) (hw : Cond.fieldLink own index (T j).1 (T j).2.1 (T j).2.2.1 ∈ Ts) (hd : decode cc pc = .ok (.getfield index, 3)) (hk : am_imp k (am_G X (pc + 3))) : am_imp (o_getf ci j k) (am_G X pc) := by
  obtain ⟨p, l, e, R, s, m, args, below, meth, c, D, dA, ro, ad0, n0, nL, A, Q⟩ := X
  obtain ⟨hx, hb, hml, hown, hts, hK, hA, hE, htr, hlk, hrt, hWS⟩ := F
  intro ls st n E ca sl h ad H locs L h1 h2 h3 h4 h5 h6 h7 h8 h9 hca hsl
  unfold o_getf at h
  split at h
  · rename_i a r
    split at h
    · rename_i c fs he
      obtain ⟨rfl, h⟩ := h
      split at h
      · rename_i v hv
        obtain ⟨hlt, hle⟩ := (h3 a).2 _ he
        have hvm : v ∈ fs := List.mem_of_getElem? hv
        exact va_get hx hb hts hin hown hK h6 a (am_w_at hlt he) hc j hj (hts _ hw) (fun _ h9 => h9) (v := am_tr ad ro v) (by rw [List.getElem?_map, hv]; rfl) hd (hk _ _ _ _ _ _ h ad H locs L h1 h2 h3 (am_cs (hle v hvm) (am_tl h4)) h5 h6 h7 h8 h9 hca hsl)
      · exact h.elim
    · exact h.elim
  · exact h.elim
theorem ms_getfN {X : am_X} {cc : ByteArray} {own : String} {ret : Option FieldType} {Ts : List Cond} (F : am_F X cc own ret Ts) {pc : Nat} {k : am_C} {C : String} {T : u_T} {N ci j index : Nat} (hin : ∀ w ∈ u_ws C T N, w ∈ Ts) (hc : vwCl[ci]? = some (C, T, N)) (hj : j < N) {host : String} (hw : Cond.fieldLinkNest own index (T j).1 (T j).2.1 (T j).2.2.1 host ∈ am_NW) (hd : decode cc pc = .ok (.getfield index, 3)) (hk : am_imp k (am_G X (pc + 3))) : am_imp (o_getf ci j k) (am_G X pc) := by
  obtain ⟨p, l, e, R, s, m, args, below, meth, c, D, dA, ro, ad0, n0, nL, A, Q⟩ := X
  obtain ⟨hx, hb, hml, hown, hts, hK, hA, hE, htr, hlk, hrt, hWS⟩ := F
  intro ls st n E ca sl h ad H locs L h1 h2 h3 h4 h5 h6 h7 h8 h9 hca hsl
  unfold o_getf at h
  split at h
  · rename_i a r
    split at h
    · rename_i c fs he
      obtain ⟨rfl, h⟩ := h
      split at h
      · rename_i v hv
        obtain ⟨hlt, hle⟩ := (h3 a).2 _ he
        have hvm : v ∈ fs := List.mem_of_getElem? hv
        exact va_getN hx hb hts hin hown hK h6 a (am_w_at hlt he) hc j hj (am_nk_use (by exact (List.mem_filter.mp hw).2) (hE.1 _ hw)) (fun _ h9 => h9) (v := am_tr ad ro v) (by rw [List.getElem?_map, hv]; rfl) hd (hk _ _ _ _ _ _ h ad H locs L h1 h2 h3 (am_cs (hle v hvm) (am_tl h4)) h5 h6 h7 h8 h9 hca hsl)
      · exact h.elim
    · exact h.elim
  · exact h.elim
theorem ms_putf {X : am_X} {cc : ByteArray} {own : String} {ret : Option FieldType} {Ts : List Cond} (F : am_F X cc own ret Ts) {pc : Nat} {k : am_C} {C : String} {T : u_T} {N ci j index : Nat} {ty : FieldType} {ty0 : Nat → FieldType} (hin : ∀ w ∈ u_ws C T N, w ∈ Ts) (hc : vwCl[ci]? = some (C, T, N)) (hj : j < N) (hty : ∀ k, k < N → parseFieldDescriptor (T k).2.2.1 = some (ty0 k)) (hnm : ∀ a, a < N → ∀ b, b < N → a ≠ b → (T a).2.1 ≠ (T b).2.1) (hpd : parseFieldDescriptor (T j).2.2.1 = some ty) (hfin : (T j).2.2.2 = false) (hw : Cond.fieldLink own index (T j).1 (T j).2.1 (T j).2.2.1 ∈ Ts) (hd : decode cc pc = .ok (.putfield index, 3)) (hk : am_imp k (am_G X (pc + 3))) : am_imp (o_putf ci j ty k) (am_G X pc) := by
  obtain ⟨p, l, e, R, s, m, args, below, meth, c, D, dA, ro, ad0, n0, nL, A, Q⟩ := X
  obtain ⟨hx, hb, hml, hown, hts, hK, hA, hE, htr, hlk, hrt, hWS⟩ := F
  intro ls st n E ca sl h ad H locs L h1 h2 h3 h4 h5 h6 h7 h8 h9 hca hsl
  unfold o_putf at h
  split at h
  · rename_i v a r
    split at h
    · rename_i c fs he
      obtain ⟨rfl, hl, hf, h⟩ := h
      obtain ⟨hlt, hle⟩ := (h3 a).2 _ he
      have hle2 : am_le n (.inr (c, fs.set j v)) := fun w hw => (List.mem_or_eq_of_mem_set hw).elim (hle w) (fun q => by rw [q]; exact am_hd h4)
      have hset : ∀ x : Nat × va_E, x = (ad a, .inr (c, (fs.map (am_tr ad ro)).set j (am_tr ad ro v))) → x = (ad a, am_te dA ad ro (.inr (c, fs.set j v))) := by
        intro x hx9
        rw [hx9]
        show _ = (ad a, (.inr (c, (fs.set j v).map (am_tr ad ro)) : va_E))
        rw [List.map_set]
      exact va_put hx hb hts hin ty0 hty hnm hown hK h6 h7 h8 a (am_w_at hlt he) hc j hj (hts _ hw) (fun _ h9 => h9) hfin hpd (hf ad ro).1 (hf ad ro).2 (by rw [List.length_map]; exact hl) hd (fun H1 locs1 hP1 hD1 hS1 => by
        rw [hset _ rfl, am_w_set hlt] at hP1 hD1
        exact hk _ _ _ _ _ _ h ad H1 locs1 L h1 h2 (am_we_u h3 hlt hle2) (am_tl (am_tl h4)) h5 hP1 hD1 hS1 h9 hca hsl)
    · exact h.elim
  · exact h.elim
theorem ms_putfN {X : am_X} {cc : ByteArray} {own : String} {ret : Option FieldType} {Ts : List Cond} (F : am_F X cc own ret Ts) {pc : Nat} {k : am_C} {C : String} {T : u_T} {N ci j index : Nat} {ty : FieldType} {ty0 : Nat → FieldType} (hin : ∀ w ∈ u_ws C T N, w ∈ Ts) (hc : vwCl[ci]? = some (C, T, N)) (hj : j < N) (hty : ∀ k, k < N → parseFieldDescriptor (T k).2.2.1 = some (ty0 k)) (hnm : ∀ a, a < N → ∀ b, b < N → a ≠ b → (T a).2.1 ≠ (T b).2.1) (hpd : parseFieldDescriptor (T j).2.2.1 = some ty) (hfin : (T j).2.2.2 = false) {host : String} (hw : Cond.fieldLinkNest own index (T j).1 (T j).2.1 (T j).2.2.1 host ∈ am_NW) (hd : decode cc pc = .ok (.putfield index, 3)) (hk : am_imp k (am_G X (pc + 3))) : am_imp (o_putf ci j ty k) (am_G X pc) := by
  obtain ⟨p, l, e, R, s, m, args, below, meth, c, D, dA, ro, ad0, n0, nL, A, Q⟩ := X
  obtain ⟨hx, hb, hml, hown, hts, hK, hA, hE, htr, hlk, hrt, hWS⟩ := F
  intro ls st n E ca sl h ad H locs L h1 h2 h3 h4 h5 h6 h7 h8 h9 hca hsl
  unfold o_putf at h
  split at h
  · rename_i v a r
    split at h
    · rename_i c fs he
      obtain ⟨rfl, hl, hf, h⟩ := h
      obtain ⟨hlt, hle⟩ := (h3 a).2 _ he
      have hle2 : am_le n (.inr (c, fs.set j v)) := fun w hw => (List.mem_or_eq_of_mem_set hw).elim (hle w) (fun q => by rw [q]; exact am_hd h4)
      have hset : ∀ x : Nat × va_E, x = (ad a, .inr (c, (fs.map (am_tr ad ro)).set j (am_tr ad ro v))) → x = (ad a, am_te dA ad ro (.inr (c, fs.set j v))) := by
        intro x hx9
        rw [hx9]
        show _ = (ad a, (.inr (c, (fs.set j v).map (am_tr ad ro)) : va_E))
        rw [List.map_set]
      exact va_putN hx hb hts hin ty0 hty hnm hown hK h6 h7 h8 a (am_w_at hlt he) hc j hj (am_nk_use (by exact (List.mem_filter.mp hw).2) (hE.1 _ hw)) (fun _ h9 => h9) hfin hpd (hf ad ro).1 (hf ad ro).2 (by rw [List.length_map]; exact hl) hd (fun H1 locs1 hP1 hD1 hS1 => by
        rw [hset _ rfl, am_w_set hlt] at hP1 hD1
        exact hk _ _ _ _ _ _ h ad H1 locs1 L h1 h2 (am_we_u h3 hlt hle2) (am_tl (am_tl h4)) h5 hP1 hD1 hS1 h9 hca hsl)
    · exact h.elim
  · exact h.elim
theorem ms_putfF {X : am_X} {cc : ByteArray} {own : String} {ret : Option FieldType} {Ts : List Cond} (F : am_F X cc own ret Ts) {pc : Nat} {k : am_C} {C : String} {T : u_T} {N ci j index : Nat} {ty : FieldType} {ty0 : Nat → FieldType} (hin : ∀ w ∈ u_ws C T N, w ∈ Ts) (hc : vwCl[ci]? = some (C, T, N)) (hj : j < N) (hty : ∀ k, k < N → parseFieldDescriptor (T k).2.2.1 = some (ty0 k)) (hnm : ∀ a, a < N → ∀ b, b < N → a ≠ b → (T a).2.1 ≠ (T b).2.1) (hpd : parseFieldDescriptor (T j).2.2.1 = some ty) (hfin : (T j).2.2.2 = true) (hin2 : am_ini X) (hdecl : (T j).1 = own) (hw : Cond.fieldLink own index (T j).1 (T j).2.1 (T j).2.2.1 ∈ Ts) (hd : decode cc pc = .ok (.putfield index, 3)) (hk : am_imp k (am_G X (pc + 3))) : am_imp (o_putf ci j ty k) (am_G X pc) := by
  obtain ⟨p, l, e, R, s, m, args, below, meth, c, D, dA, ro, ad0, n0, nL, A, Q⟩ := X
  obtain ⟨hx, hb, hml, hown, hts, hK, hA, hE, htr, hlk, hrt, hWS⟩ := F
  intro ls st n E ca sl h ad H locs L h1 h2 h3 h4 h5 h6 h7 h8 h9 hca hsl
  unfold o_putf at h
  split at h
  · rename_i v a r
    split at h
    · rename_i c fs he
      obtain ⟨rfl, hl, hf, h⟩ := h
      obtain ⟨hlt, hle⟩ := (h3 a).2 _ he
      have hle2 : am_le n (.inr (c, fs.set j v)) := fun w hw => (List.mem_or_eq_of_mem_set hw).elim (hle w) (fun q => by rw [q]; exact am_hd h4)
      have hset : ∀ x : Nat × va_E, x = (ad a, .inr (c, (fs.map (am_tr ad ro)).set j (am_tr ad ro v))) → x = (ad a, am_te dA ad ro (.inr (c, fs.set j v))) := by
        intro x hx9
        rw [hx9]
        show _ = (ad a, (.inr (c, (fs.set j v).map (am_tr ad ro)) : va_E))
        rw [List.map_set]
      exact va_putF hx hb hts hin ty0 hty hnm hown hK h6 h7 h8 a (am_w_at hlt he) hc j hj (hts _ hw) (fun _ h9 => h9) hfin hin2 hdecl hpd (hf ad ro).1 (hf ad ro).2 (by rw [List.length_map]; exact hl) hd (fun H1 locs1 hP1 hD1 hS1 => by
        rw [hset _ rfl, am_w_set hlt] at hP1 hD1
        exact hk _ _ _ _ _ _ h ad H1 locs1 L h1 h2 (am_we_u h3 hlt hle2) (am_tl (am_tl h4)) h5 hP1 hD1 hS1 h9 hca hsl)
    · exact h.elim
  · exact h.elim
def o_ild (t : Nat) (k : am_C) : am_C := fun ls st n E ca sl => match st with
  | .int i :: .ref a :: r => match E a with
    | some (.inl (t', N, .inl f)) => t' = t ∧ vp_in i N ∧ k ls (.int (f i.toNatClampNeg) :: r) n E ca sl
    | _ => False
  | .int i :: .retAddr a :: r => False
  | _ => False
def o_ist (t : Nat) (ty : FieldType) (k : am_C) : am_C := fun ls st n E ca sl => match st with
  | .int x :: .int i :: .ref a :: r => match E a with
    | some (.inl (t', N, .inl f)) => t' = t ∧ vp_in i N ∧ k ls r n (am_u E a (.inl (t, N, .inl (upd f i.toNatClampNeg (vp_nar ty x))))) ca sl
    | _ => False
  | _ => False
def o_lld (k : am_C) : am_C := fun ls st n E ca sl => match st with
  | .int i :: .ref a :: r => match E a with
    | some (.inl (t', N, .inr (.inl f))) => t' = 1 ∧ vp_in i N ∧ k ls (.long (f i.toNatClampNeg) :: r) n E ca sl
    | _ => False
  | _ => False
def o_lst (k : am_C) : am_C := fun ls st n E ca sl => match st with
  | .long x :: .int i :: .ref a :: r => match E a with
    | some (.inl (t', N, .inr (.inl f))) => t' = 1 ∧ vp_in i N ∧ k ls r n (am_u E a (.inl (1, N, .inr (.inl (vp_updL f i.toNatClampNeg x))))) ca sl
    | _ => False
  | _ => False
def o_dld (k : am_C) : am_C := fun ls st n E ca sl => match st with
  | .int i :: .ref a :: r => match E a with
    | some (.inl (t', N, .inr (.inr (.inr (.inl f))))) => t' = 4 ∧ vp_in i N ∧ k ls (.double (f i.toNatClampNeg) :: r) n E ca sl
    | _ => False
  | _ => False
def o_dst (k : am_C) : am_C := fun ls st n E ca sl => match st with
  | .double x :: .int i :: .ref a :: r => match E a with
    | some (.inl (t', N, .inr (.inr (.inr (.inl f))))) => t' = 4 ∧ vp_in i N ∧ k ls r n (am_u E a (.inl (4, N, .inr (.inr (.inr (.inl (vf_upd f i.toNatClampNeg x))))))) ca sl
    | _ => False
  | _ => False
def o_ald (t : Nat) (k : am_C) : am_C := fun ls st n E ca sl => match st with
  | .int i :: .ref a :: r => match E a with
    | some (.inl (t', N, .inr (.inr (.inr (.inr f))))) => t' = t ∧ vp_in i N ∧ k ls (va_rf (f i.toNatClampNeg) :: r) n E ca sl
    | _ => False
  | _ => False
def o_alen (k : am_C) : am_C := fun ls st n E ca sl => match st with
  | .ref a :: r => match E a with
    | some (.inl (t', N, _)) => t' < 10 ∧ k ls (.int (Int32.ofNat N) :: r) n E ca sl
    | _ => False
  | _ => False
theorem ms_iaload {X : am_X} {cc : ByteArray} {own : String} {ret : Option FieldType} {Ts : List Cond} (F : am_F X cc own ret Ts) {pc : Nat} {k : am_C} (hd : decode cc pc = .ok (.iaload, 1)) (hk : am_imp k (am_G X (pc + 1))) : am_imp (o_ild 0 k) (am_G X pc) := by
  obtain ⟨p, l, e, R, s, m, args, below, meth, c, D, dA, ro, ad0, n0, nL, A, Q⟩ := X
  obtain ⟨hx, hb, hml, hown, hts, hK, hA, hE, htr, hlk, hrt, hWS⟩ := F
  intro ls st n E ca sl h ad H locs L h1 h2 h3 h4 h5 h6 h7 h8 h9 hca hsl
  unfold o_ild at h
  split at h
  · rename_i i a r
    split at h
    · rename_i t' N f he
      obtain ⟨rfl, hin, h⟩ := h
      obtain ⟨hlt, hle⟩ := (h3 a).2 _ he
      exact va_iald hx hb hK h6 a 0 (am_w_at hlt he) rfl hin hd (hk _ _ _ _ _ _ h ad H locs L h1 h2 h3 (am_cs trivial (am_tl (am_tl h4))) h5 h6 h7 h8 h9 hca hsl)
    · exact h.elim
  · exact h.elim
  · exact h.elim
theorem ms_iastore {X : am_X} {cc : ByteArray} {own : String} {ret : Option FieldType} {Ts : List Cond} (F : am_F X cc own ret Ts) {pc : Nat} {k : am_C} (hd : decode cc pc = .ok (.iastore, 1)) (hk : am_imp k (am_G X (pc + 1))) : am_imp (o_ist 0 .int k) (am_G X pc) := by
  obtain ⟨p, l, e, R, s, m, args, below, meth, c, D, dA, ro, ad0, n0, nL, A, Q⟩ := X
  obtain ⟨hx, hb, hml, hown, hts, hK, hA, hE, htr, hlk, hrt, hWS⟩ := F
  intro ls st n E ca sl h ad H locs L h1 h2 h3 h4 h5 h6 h7 h8 h9 hca hsl
  unfold o_ist at h
  split at h
  · rename_i x i a r
    split at h
    · rename_i t' N f he
      obtain ⟨rfl, hin, h⟩ := h
      obtain ⟨hlt, hle⟩ := (h3 a).2 _ he
      rw [show vp_nar .int x = x from rfl] at h
      exact va_iast hx hb hK h6 h7 h8 a 0 (am_w_at hlt he) rfl hin hd (fun H1 locs1 hP1 hD1 hS1 => by
        have hz := am_w_set (dA := dA) (ad := ad) (ro := ro) (E := E) (e := .inl (0, N, .inl (upd f i.toNatClampNeg x))) hlt
        exact hk _ _ _ _ _ _ h ad H1 locs1 L h1 h2 (am_we_u h3 hlt trivial) (am_tl (am_tl (am_tl h4))) h5 (hz ▸ hP1) (hz ▸ hD1) hS1 h9 hca hsl)
    · exact h.elim
  · exact h.elim
theorem ms_laload {X : am_X} {cc : ByteArray} {own : String} {ret : Option FieldType} {Ts : List Cond} (F : am_F X cc own ret Ts) {pc : Nat} {k : am_C} (hd : decode cc pc = .ok (.laload, 1)) (hk : am_imp k (am_G X (pc + 1))) : am_imp (o_lld k) (am_G X pc) := by
  obtain ⟨p, l, e, R, s, m, args, below, meth, c, D, dA, ro, ad0, n0, nL, A, Q⟩ := X
  obtain ⟨hx, hb, hml, hown, hts, hK, hA, hE, htr, hlk, hrt, hWS⟩ := F
  intro ls st n E ca sl h ad H locs L h1 h2 h3 h4 h5 h6 h7 h8 h9 hca hsl
  unfold o_lld at h
  split at h
  · rename_i i a r
    split at h
    · rename_i t' N f he
      obtain ⟨rfl, hin, h⟩ := h
      obtain ⟨hlt, hle⟩ := (h3 a).2 _ he
      exact va_lald hx hb hK h6 a 1 (am_w_at hlt he) rfl hin hd (hk _ _ _ _ _ _ h ad H locs L h1 h2 h3 (am_cs trivial (am_tl (am_tl h4))) h5 h6 h7 h8 h9 hca hsl)
    · exact h.elim
  · exact h.elim
theorem ms_lastore {X : am_X} {cc : ByteArray} {own : String} {ret : Option FieldType} {Ts : List Cond} (F : am_F X cc own ret Ts) {pc : Nat} {k : am_C} (hd : decode cc pc = .ok (.lastore, 1)) (hk : am_imp k (am_G X (pc + 1))) : am_imp (o_lst k) (am_G X pc) := by
  obtain ⟨p, l, e, R, s, m, args, below, meth, c, D, dA, ro, ad0, n0, nL, A, Q⟩ := X
  obtain ⟨hx, hb, hml, hown, hts, hK, hA, hE, htr, hlk, hrt, hWS⟩ := F
  intro ls st n E ca sl h ad H locs L h1 h2 h3 h4 h5 h6 h7 h8 h9 hca hsl
  unfold o_lst at h
  split at h
  · rename_i x i a r
    split at h
    · rename_i t' N f he
      obtain ⟨rfl, hin, h⟩ := h
      obtain ⟨hlt, hle⟩ := (h3 a).2 _ he
      exact va_last hx hb hK h6 h7 h8 a 1 (am_w_at hlt he) rfl hin hd (fun H1 locs1 hP1 hD1 hS1 => by
        have hz := am_w_set (dA := dA) (ad := ad) (ro := ro) (E := E) (e := .inl (1, N, .inr (.inl (vp_updL f i.toNatClampNeg x)))) hlt
        exact hk _ _ _ _ _ _ h ad H1 locs1 L h1 h2 (am_we_u h3 hlt trivial) (am_tl (am_tl (am_tl h4))) h5 (hz ▸ hP1) (hz ▸ hD1) hS1 h9 hca hsl)
    · exact h.elim
  · exact h.elim
theorem ms_aaload {X : am_X} {cc : ByteArray} {own : String} {ret : Option FieldType} {Ts : List Cond} (F : am_F X cc own ret Ts) {pc : Nat} {k : am_C} {t : Nat} {ty : FieldType} (ht : t = 5 ∧ ty = .object "LeadlightHall$Pane" ∨ t = 6 ∧ ty = .object "LeadlightHall$Sheet" ∨ t = 7 ∧ ty = .array .char ∨ t = 8 ∧ ty = .array .boolean ∨ t = 9 ∧ ty = .array .int) (hd : decode cc pc = .ok (.aaload, 1)) (hk : am_imp k (am_G X (pc + 1))) : am_imp (o_ald t k) (am_G X pc) := by
  obtain ⟨p, l, e, R, s, m, args, below, meth, c, D, dA, ro, ad0, n0, nL, A, Q⟩ := X
  obtain ⟨hx, hb, hml, hown, hts, hK, hA, hE, htr, hlk, hrt, hWS⟩ := F
  intro ls st n E ca sl h ad H locs L h1 h2 h3 h4 h5 h6 h7 h8 h9 hca hsl
  unfold o_ald at h
  split at h
  · rename_i i a r
    split at h
    · rename_i t' N f he
      obtain ⟨rfl, hin, h⟩ := h
      obtain ⟨hlt, hle⟩ := (h3 a).2 _ he
      have hlt2 : i.toNatClampNeg < N := Nat.not_le.mp fun q => hin (Or.inr q)
      have hrf : am_tr ad ro (va_rf (f i.toNatClampNeg)) = va_rf ((f i.toNatClampNeg).map ad) := by cases f i.toNatClampNeg <;> rfl
      have hvl : am_lt n (va_rf (f i.toNatClampNeg)) := by
        cases hf : f i.toNatClampNeg with
        | none => trivial
        | some b => exact hle _ b hf
      have ht9 : (am_tys dA)[t']? = some (dA t', ty) := by rcases ht with ⟨rfl, rfl⟩ | ⟨rfl, rfl⟩ | ⟨rfl, rfl⟩ | ⟨rfl, rfl⟩ | ⟨rfl, rfl⟩ <;> rfl
      have kk := hk _ _ _ _ _ _ h ad H locs L h1 h2 h3 (am_cs hvl (am_tl (am_tl h4))) h5 h6 h7 h8 h9 hca hsl
      rw [List.map_cons, hrf] at kk
      have hcell := h6 a _ (am_w_at hlt he)
      have harr := ((hK.2 t' _ ht9).1 N (fun j => va_rf ((f j).map ad)))
      have hsl9 : (arrV (dA t') N (fun j => va_rf ((f j).map ad))).slots[i.toNatClampNeg]? = some (va_rf ((f i.toNatClampNeg).map ad)) := by rw [arrV_read _ _ hlt2]
      rcases ht with ⟨rfl, rfl⟩ | ⟨rfl, rfl⟩ | ⟨rfl, rfl⟩ | ⟨rfl, rfl⟩ | ⟨rfl, rfl⟩ <;> exact W.aald (v := va_rf ((f i.toNatClampNeg).map ad)) hx hb hcell harr rfl (fun q => by cases q) (by show ¬ (i < 0 ∨ (arrV _ _ _).slots.size ≤ _); rw [arrV_size]; exact hin) hsl9 rfl rfl hd kk
    · exact h.elim
  · exact h.elim
theorem ms_alen {X : am_X} {cc : ByteArray} {own : String} {ret : Option FieldType} {Ts : List Cond} (F : am_F X cc own ret Ts) {pc : Nat} {k : am_C} (hd : decode cc pc = .ok (.arraylength, 1)) (hk : am_imp k (am_G X (pc + 1))) : am_imp (o_alen k) (am_G X pc) := by
  obtain ⟨p, l, e, R, s, m, args, below, meth, c, D, dA, ro, ad0, n0, nL, A, Q⟩ := X
  obtain ⟨hx, hb, hml, hown, hts, hK, hA, hE, htr, hlk, hrt, hWS⟩ := F
  intro ls st n E ca sl h ad H locs L h1 h2 h3 h4 h5 h6 h7 h8 h9 hca hsl
  unfold o_alen at h
  split at h
  · rename_i a r
    split at h
    · rename_i t' N x he
      obtain ⟨ht, h⟩ := h
      obtain ⟨hlt, hle⟩ := (h3 a).2 _ he
      have hall : ∀ t : Nat, t < 10 → ∃ ty, (am_tys dA)[t]? = some (dA t, ty) := by
        intro t ht
        rcases (show t = 0 ∨ t = 1 ∨ t = 2 ∨ t = 3 ∨ t = 4 ∨ t = 5 ∨ t = 6 ∨ t = 7 ∨ t = 8 ∨ t = 9 by omega) with rfl | rfl | rfl | rfl | rfl | rfl | rfl | rfl | rfl | rfl <;> exact ⟨_, rfl⟩
      obtain ⟨ty, hty⟩ := hall t' ht
      exact va_alen hx hb hK h6 a t' (am_w_at hlt he) hty rfl hd (hk _ _ _ _ _ _ h ad H locs L h1 h2 h3 (am_cs trivial (am_tl h4)) h5 h6 h7 h8 h9 hca hsl)
    · exact h.elim
  · exact h.elim
end
section
def am_Rm (X : am_X) (rm : Room) : Prop := match X with
  | (_, _, _, R, _, _, _, _, _, _, _, _, _, _, _, _, _, _) => R = rm
def am_noT (X : am_X) : Prop := match X with
  | (_, _, _, _, _, _, _, _, _, c, _, _, _, _, _, _, _, _) => ∀ x ∈ c.exceptionTable.toList, False
/-! ===== new cells ===== -/
theorem am_tyA {s : State} {D : va_G} {dA : Nat → Nat} {tys' : List (ClassId × FieldType)} {t : Nat} {cA : ClassId} {ty : FieldType} (hK : va_K D vwCl (am_tys dA) s) (ht : (am_tys dA)[t]? = some (dA t, ty)) (hK' : va_K D vwCl tys' s) (j : Nat) (ht' : tys'[j]? = some (cA, ty)) : cA = dA t := by
  have h1 := (hK.2 t _ ht).2
  have h2 := (hK'.2 j _ ht').2
  cases ty with
  | object C =>
    obtain ⟨k1, c1, -, -, -, e1⟩ := h1
    obtain ⟨k2, c2, -, -, -, e2⟩ := h2
    exact Option.some.inj (e2.symm.trans e1)
  | _ => exact Option.some.inj (h2.symm.trans h1)
theorem am_K0 {s : State} {D : va_G} {dA : Nat → Nat} {tys' : List (ClassId × FieldType)} (hK : va_K D vwCl (am_tys dA ++ tys') s) : va_K D vwCl (am_tys dA) s := ⟨hK.1, fun k q hk => hK.2 k q (by rw [List.getElem?_append_left (List.getElem?_eq_some_iff.mp hk).1]; exact hk)⟩
def o_new (ci : Nat) (fs : List Value) (mc ms : Nat) (k : am_C) : am_C := fun ls st n E ca sl => (ca + 1 ≤ mc ∧ sl + fs.length ≤ ms) ∧ k ls (.ref n :: st) (n + 1) (am_u E n (.inr (ci, fs))) (ca + 1) (sl + fs.length)
theorem ms_new {X : am_X} {cc : ByteArray} {own : String} {ret : Option FieldType} {Ts : List Cond} (F : am_F X cc own ret Ts) {pc : Nat} {k : am_C} {rm : Room} (hR : am_Rm X rm) {C : String} {T : u_T} {N ci index : Nat} {ty : Nat → FieldType} {fs : List Value} (hin : ∀ w ∈ u_ws C T N, w ∈ Ts) (hty : ∀ k, k < N → parseFieldDescriptor (T k).2.2.1 = some (ty k)) (hw : Cond.classLink own index C ∈ Ts) (hi : Cond.instantiable C N ∈ Ts) (hini : Cond.initialized C ∈ Ts) (hc : vwCl[ci]? = some (C, T, N)) (hfs : ∀ j, j < N → defaultValue (ty j) = vp_V fs j) (hN : fs.length = N) (hz : ∀ v ∈ fs, v = .null ∨ (∃ x, v = .int x) ∨ ∃ x, v = .long x) (hd : decode cc pc = .ok (.new index, 3)) (hk : am_imp k (am_G X (pc + 3))) : am_imp (o_new ci fs rm.cells rm.slots k) (am_G X pc) := by
  obtain ⟨p, l, e, R, s, m, args, below, meth, c, D, dA, ro, ad0, n0, nL, A, Q⟩ := X
  obtain ⟨hx, hb, hml, hown, hts, hK, hA, hE, htr, hlk, hrt, hWS⟩ := F
  intro ls st n E ca sl h ad H locs L h1 h2 h3 h4 h5 h6 h7 h8 h9 hca hsl
  have hR : R = rm := hR
  subst hR
  obtain ⟨⟨hc1, hs1⟩, h⟩ := h
  have hz2 : ∀ ad' : Nat → Nat, fs.map (am_tr ad' ro) = fs := fun ad' => by
    conv => rhs; rw [← List.map_id fs]
    apply List.map_congr_left
    intro v hv
    rcases hz v hv with rfl | ⟨x, rfl⟩ | ⟨x, rfl⟩ <;> rfl
  have hle : am_le (n + 1) (.inr (ci, fs)) := fun v hv => by rcases hz v hv with rfl | ⟨x, rfl⟩ | ⟨x, rfl⟩ <;> trivial
  refine va_new (fs := fs) hx hb hts hin ty hty hown (hts _ hw) (hts _ hi) (hts _ hini) hK h6 h7 h8 hA hc hfs hc1 (by rw [← hN]; exact hs1) hd (fun q H1 hP1 hD1 hS1 => ?_)
  have e1 : am_w dA (am_up ad n q) ro (n + 1) (am_u E n (.inr (ci, fs))) = am_w dA ad ro n E ++ [(q, .inr (ci, fs))] := by
    rw [am_w_push h3]
    show am_w dA ad ro n E ++ [(q, (.inr (ci, fs.map (am_tr (am_up ad n q) ro)) : va_E))] = _
    rw [hz2]
  have g := hk _ _ _ _ _ _ h (am_up ad n q) H1 locs L (fun k hk => by rw [am_up_lt k (by omega)]; exact h1 k hk) (by omega) (am_we_push h3 hle) (am_cs (Nat.lt_succ_self n) (fun v hv => am_lt_mono (Nat.le_succ n) (h4 v hv))) (fun v hv => am_lt_mono (Nat.le_succ n) (h5 v hv)) (by rw [e1]; exact hP1) (by rw [e1]; exact hD1) hS1 (am_has_cg h9 h5 am_up_lt) hc1 hs1
  rw [List.map_cons, am_st_cg h4 am_up_lt] at g
  rw [← hN]
  have e2 : am_tr (am_up ad n q) ro (.ref n) = .ref q := congrArg Value.ref am_up_eq
  rw [e2] at g
  exact g
/-- the element types that newarray makes here: their zeros -/
def am_z (t N : Nat) : vp_A := match t with
  | 1 => (N, .inr (.inl (fun _ => 0)))
  | 4 => (N, .inr (.inr (.inr (.inl (fun _ => 0)))))
  | 5 => (N, .inr (.inr (.inr (.inr (fun _ => none)))))
  | 6 => (N, .inr (.inr (.inr (.inr (fun _ => none)))))
  | _ => (N, .inl (fun _ => 0))
def o_newa (t : Nat) (mc ms : Nat) (k : am_C) : am_C := fun ls st n E ca sl => match st with
  | .int i :: r => ¬ i < 0 ∧ i.toNatClampNeg * 8 ≤ 536870912 ∧ (ca + 1 ≤ mc ∧ sl + i.toNatClampNeg ≤ ms) ∧ k ls (.ref n :: r) (n + 1) (am_u E n (.inl (t, am_z t i.toNatClampNeg))) (ca + 1) (sl + i.toNatClampNeg)
  | _ => False
theorem ms_newa {X : am_X} {cc : ByteArray} {own : String} {ret : Option FieldType} {Ts : List Cond} (F : am_F X cc own ret Ts) {pc : Nat} {k : am_C} {rm : Room} (hR : am_Rm X rm) {t : Nat} {atype : ArrayType} (ht : t = 0 ∧ atype = .int ∨ t = 1 ∧ atype = .long ∨ t = 2 ∧ atype = .char ∨ t = 3 ∧ atype = .boolean ∨ t = 4 ∧ atype = .double) (hw : Cond.arrayClass (newarray.typeOf atype) ∈ Ts) (hd : decode cc pc = .ok (.newarray atype, 2)) (hk : am_imp k (am_G X (pc + 2))) : am_imp (o_newa t rm.cells rm.slots k) (am_G X pc) := by
  obtain ⟨p, l, e, R, s, m, args, below, meth, c, D, dA, ro, ad0, n0, nL, A, Q⟩ := X
  obtain ⟨hx, hb, hml, hown, hts, hK, hA, hE, htr, hlk, hrt, hWS⟩ := F
  intro ls st n E ca sl h ad H locs L h1 h2 h3 h4 h5 h6 h7 h8 h9 hca hsl
  have hR : R = rm := hR
  subst hR
  unfold o_newa at h
  split at h
  · rename_i i r
    obtain ⟨hn, hbb, ⟨hc1, hs1⟩, h⟩ := h
    have hle : am_le (n + 1) (.inl (t, am_z t i.toNatClampNeg)) := by rcases ht with ⟨rfl, -⟩ | ⟨rfl, -⟩ | ⟨rfl, -⟩ | ⟨rfl, -⟩ | ⟨rfl, -⟩ <;> trivial
    have hta : ∀ ad' : Nat → Nat, am_te dA ad' ro (.inl (t, am_z t i.toNatClampNeg)) = .inl (dA t, am_z t i.toNatClampNeg) := fun ad' => by rcases ht with ⟨rfl, -⟩ | ⟨rfl, -⟩ | ⟨rfl, -⟩ | ⟨rfl, -⟩ | ⟨rfl, -⟩ <;> rfl
    have htt : (am_tys dA)[t]? = some (dA t, newarray.typeOf atype) := by rcases ht with ⟨rfl, rfl⟩ | ⟨rfl, rfl⟩ | ⟨rfl, rfl⟩ | ⟨rfl, rfl⟩ | ⟨rfl, rfl⟩ <;> rfl
    have hbytes : i.toNatClampNeg * componentBytes (newarray.typeOf atype) ≤ 536870912 := by
      refine Nat.le_trans (Nat.mul_le_mul_left _ ?_) hbb
      rcases ht with ⟨-, rfl⟩ | ⟨-, rfl⟩ | ⟨-, rfl⟩ | ⟨-, rfl⟩ | ⟨-, rfl⟩ <;> decide
    refine va_newa (a0 := am_z t i.toNatClampNeg) hx hb (hts _ hw) rfl hK h6 h7 h8 hA (fun cA => by rcases ht with ⟨rfl, rfl⟩ | ⟨rfl, rfl⟩ | ⟨rfl, rfl⟩ | ⟨rfl, rfl⟩ | ⟨rfl, rfl⟩ <;> rfl) hn rfl hbytes hc1 hs1 hd (fun q cA H1 hK1 hP1 hD1 hS1 => ?_)
    have hcA : cA = dA t := am_tyA hK htt hK1 10 rfl
    subst hcA
    have e1 : am_w dA (am_up ad n q) ro (n + 1) (am_u E n (.inl (t, am_z t i.toNatClampNeg))) = am_w dA ad ro n E ++ [(q, .inl (dA t, am_z t i.toNatClampNeg))] := by
      rw [am_w_push h3, hta]
    have h4r : ∀ v ∈ r, am_lt n v := am_tl h4
    have g := hk _ _ _ _ _ _ h (am_up ad n q) H1 locs L (fun k hk => by rw [am_up_lt k (by omega)]; exact h1 k hk) (by omega) (am_we_push h3 hle) (am_cs (Nat.lt_succ_self n) (fun v hv => am_lt_mono (Nat.le_succ n) (h4r v hv))) (fun v hv => am_lt_mono (Nat.le_succ n) (h5 v hv)) (by rw [e1]; exact hP1) (by rw [e1]; exact hD1) hS1 (am_has_cg h9 h5 am_up_lt) hc1 hs1
    rw [List.map_cons, am_st_cg h4r am_up_lt] at g
    have e2 : am_tr (am_up ad n q) ro (.ref n) = .ref q := congrArg Value.ref am_up_eq
    rw [e2] at g
    exact g
  · exact h.elim
theorem ms_newq {X : am_X} {cc : ByteArray} {own : String} {ret : Option FieldType} {Ts : List Cond} (F : am_F X cc own ret Ts) {pc : Nat} {k : am_C} {rm : Room} (hR : am_Rm X rm) {t index : Nat} {C : String} (ht : t = 5 ∧ C = "LeadlightHall$Pane" ∨ t = 6 ∧ C = "LeadlightHall$Sheet") (hw : Cond.classLink own index C ∈ Ts) (hd : decode cc pc = .ok (.anewarray index, 3)) (hk : am_imp k (am_G X (pc + 3))) : am_imp (o_newa t rm.cells rm.slots k) (am_G X pc) := by
  obtain ⟨p, l, e, R, s, m, args, below, meth, c, D, dA, ro, ad0, n0, nL, A, Q⟩ := X
  obtain ⟨hx, hb, hml, hown, hts, hK, hA, hE, htr, hlk, hrt, hWS⟩ := F
  intro ls st n E ca sl h ad H locs L h1 h2 h3 h4 h5 h6 h7 h8 h9 hca hsl
  have hR : R = rm := hR
  subst hR
  unfold o_newa at h
  split at h
  · rename_i i r
    obtain ⟨hn, hbb, ⟨hc1, hs1⟩, h⟩ := h
    have hover : va_AO C s := by
      obtain ⟨-, -, ⟨a1, a2, -⟩, -⟩ := hE
      rcases ht with ⟨-, rfl⟩ | ⟨-, rfl⟩
      · exact a1
      · exact a2
    have hle : am_le (n + 1) (.inl (t, am_z t i.toNatClampNeg)) := by rcases ht with ⟨rfl, -⟩ | ⟨rfl, -⟩ <;> exact fun j k hk => by cases hk
    have hta : ∀ ad' : Nat → Nat, am_te dA ad' ro (.inl (t, am_z t i.toNatClampNeg)) = .inl (dA t, am_z t i.toNatClampNeg) := fun ad' => by rcases ht with ⟨rfl, -⟩ | ⟨rfl, -⟩ <;> rfl
    have htt : (am_tys dA)[t]? = some (dA t, .object C) := by rcases ht with ⟨rfl, rfl⟩ | ⟨rfl, rfl⟩ <;> rfl
    refine va_newq hx hb hown (hts _ hw) hover hK h6 h7 h8 hA hn rfl (by omega) hc1 hs1 hd (fun q cA H1 hK1 hP1 hD1 hS1 => ?_)
    have hcA : cA = dA t := am_tyA hK htt hK1 10 rfl
    subst hcA
    have hzz : am_z t i.toNatClampNeg = (i.toNatClampNeg, .inr (.inr (.inr (.inr (fun _ => none))))) := by rcases ht with ⟨rfl, -⟩ | ⟨rfl, -⟩ <;> rfl
    have e1 : am_w dA (am_up ad n q) ro (n + 1) (am_u E n (.inl (t, am_z t i.toNatClampNeg))) = am_w dA ad ro n E ++ [(q, .inl (dA t, (i.toNatClampNeg, .inr (.inr (.inr (.inr (fun _ => none)))))))] := by
      rw [am_w_push h3, hta, hzz]
    have h4r : ∀ v ∈ r, am_lt n v := am_tl h4
    have g := hk _ _ _ _ _ _ h (am_up ad n q) H1 locs L (fun k hk => by rw [am_up_lt k (by omega)]; exact h1 k hk) (by omega) (am_we_push h3 hle) (am_cs (Nat.lt_succ_self n) (fun v hv => am_lt_mono (Nat.le_succ n) (h4r v hv))) (fun v hv => am_lt_mono (Nat.le_succ n) (h5 v hv)) (by rw [e1]; exact hP1) (by rw [e1]; exact hD1) hS1 (am_has_cg h9 h5 am_up_lt) hc1 hs1
    rw [List.map_cons, am_st_cg h4r am_up_lt] at g
    have e2 : am_tr (am_up ad n q) ro (.ref n) = .ref q := congrArg Value.ref am_up_eq
    rw [e2] at g
    exact g
  · exact h.elim
/-- an object into an array of such -/
def o_ast (t ci : Nat) (k : am_C) : am_C := fun ls st n E ca sl => match st with
  | .ref b :: .int i :: .ref a :: r => match E a with
    | some (.inl (t', N, .inr (.inr (.inr (.inr f))))) => t' = t ∧ vp_in i N ∧ (match E b with
      | some (.inr (c, _)) => c = ci
      | _ => False) ∧ k ls r n (am_u E a (.inl (t, N, .inr (.inr (.inr (.inr (va_up f i.toNatClampNeg (some b)))))))) ca sl
    | _ => False
  | _ => False
theorem am_up_map {f : Nat → Option Nat} {ad : Nat → Nat} {i b : Nat} : (fun j => (va_up f i (some b) j).map ad) = va_up (fun j => (f j).map ad) i (some (ad b)) := by
  funext j
  by_cases h : j = i
  · subst h
    simp [va_up]
  · simp [va_up, h]
theorem ms_aastore {X : am_X} {cc : ByteArray} {own : String} {ret : Option FieldType} {Ts : List Cond} (F : am_F X cc own ret Ts) {pc : Nat} {k : am_C} {t ci : Nat} {r9 : vw_C} (ht : t = 5 ∧ r9.1 = "LeadlightHall$Pane" ∨ t = 6 ∧ r9.1 = "LeadlightHall$Sheet") (hc : vwCl[ci]? = some r9) (hd : decode cc pc = .ok (.aastore, 1)) (hk : am_imp k (am_G X (pc + 1))) : am_imp (o_ast t ci k) (am_G X pc) := by
  obtain ⟨p, l, e, R, s, m, args, below, meth, c, D, dA, ro, ad0, n0, nL, A, Q⟩ := X
  obtain ⟨hx, hb, hml, hown, hts, hK, hA, hE, htr, hlk, hrt, hWS⟩ := F
  intro ls st n E ca sl h ad H locs L h1 h2 h3 h4 h5 h6 h7 h8 h9 hca hsl
  unfold o_ast at h
  split at h
  · rename_i b i a r
    split at h
    · rename_i t' N f he
      obtain ⟨rfl, hin, hbc, h⟩ := h
      obtain ⟨hlt, hle⟩ := (h3 a).2 _ he
      have hle : ∀ (j k : Nat), f j = some k → k < n := hle
      split at hbc
      · rename_i cb vs hbe
        subst hbc
        obtain ⟨hltb, hleb⟩ := (h3 b).2 _ hbe
        have htt : (am_tys dA)[t']? = some (dA t', .object r9.1) := by rcases ht with ⟨rfl, q⟩ | ⟨rfl, q⟩ <;> (rw [q]; rfl)
        have hle2 : am_le n (.inl (t', N, .inr (.inr (.inr (.inr (va_up f i.toNatClampNeg (some b))))))) := by
          intro j k hk
          by_cases hj : j = i.toNatClampNeg
          · simp [va_up, hj] at hk
            omega
          · simp [va_up, hj] at hk
            exact hle j k hk
        have hz := am_w_set (dA := dA) (ad := ad) (ro := ro) (E := E) (e := .inl (t', N, .inr (.inr (.inr (.inr (va_up f i.toNatClampNeg (some b))))))) hlt
        have hz2 : am_te dA ad ro (.inl (t', N, .inr (.inr (.inr (.inr (va_up f i.toNatClampNeg (some b))))))) = .inl (dA t', N, .inr (.inr (.inr (.inr (va_up (fun j => (f j).map ad) i.toNatClampNeg (some (ad b))))))) := by
          show (Sum.inl (dA t', (N, Sum.inr (Sum.inr (Sum.inr (Sum.inr (fun j => (va_up f i.toNatClampNeg (some b) j).map ad)))))) : va_E) = _
          rw [am_up_map]
        rw [hz2] at hz
        exact va_astq hx hb hK h6 h7 h8 a t' b cb (am_w_at hlt he) htt (am_w_at hltb hbe) hc hin hd (fun H1 locs1 hP1 hD1 hS1 => hk _ _ _ _ _ _ h ad H1 locs1 L h1 h2 (am_we_u h3 hlt hle2) (am_tl (am_tl (am_tl h4))) h5 (hz ▸ hP1) (hz ▸ hD1) hS1 h9 hca hsl)
      · exact hbc.elim
    · exact h.elim
  · exact h.elim
/-- Object's own constructor -/
def o_oinit (k : am_C) : am_C := fun ls st n E ca sl => match st with
  | .ref _ :: r => (r.map fun v => v.category).sum ≤ 8 ∧ k ls r n E ca sl
  | _ => False
theorem am_cats (ad ro : Nat → Nat) (r : List Value) : ((r.map (am_tr ad ro)).map fun v => v.category).sum = (r.map fun v => v.category).sum := by
  rw [List.map_map]
  congr 1
  exact List.map_congr_left fun v _ => am_tr_cat ad ro v
theorem ms_oinit {X : am_X} {cc : ByteArray} {own : String} {ret : Option FieldType} {Ts : List Cond} (F : am_F X cc own ret Ts) {pc index : Nat} {k : am_C} {rm : Room} (hR : am_Rm X rm) (hf : 1 ≤ rm.frames) (hlo : 20 ≤ rm.locals) (hw : Cond.methodLink own index Lib.objectInit ∈ Ts) (hi : Cond.instanceMethod Lib.objectInit ∈ Ts) (hc : Cond.code Lib.objectInit ⟨#[0xb1]⟩ 1 none ∈ Ts) (hd : decode cc pc = .ok (.invokespecial index, 3)) (hk : am_imp k (am_G X (pc + 3))) : am_imp (o_oinit k) (am_G X pc) := by
  obtain ⟨p, l, e, R, s, m, args, below, meth, c, D, dA, ro, ad0, n0, nL, A, Q⟩ := X
  obtain ⟨hx, hb, hml, hown, hts, hK, hA, hE, htr, hlk, hrt, hWS⟩ := F
  intro ls st n E ca sl h ad H locs L h1 h2 h3 h4 h5 h6 h7 h8 h9 hca hsl
  have hR : R = rm := hR
  subst hR
  unfold o_oinit at h
  split at h
  · rename_i b r
    obtain ⟨hcat, h⟩ := h
    refine W.objInit (g := F0 m pc L ((Value.ref b :: r).map (am_tr ad ro))) hx hb hown (hts _ hw) (hts _ hi) (hts _ hc) rfl (by rw [hml]; exact h9.1) rfl hd hf ?_ ?_
    · have h0 := lv_room (m := m) (pc := pc) (ls := L) (rest := r.map (am_tr ad ro)) (st := r.map (am_tr ad ro)) (by rw [am_cats]; exact hcat)
      have e0 : (F0 m pc L ((Value.ref b :: r).map (am_tr ad ro))).monitorRoom = (F0 m pc L (r.map (am_tr ad ro))).monitorRoom := rfl
      rw [e0]
      omega
    · exact hk _ _ _ _ _ _ h ad H locs L h1 h2 h3 (am_tl h4) h5 h6 h7 h8 h9 hca hsl
  · exact h.elim
/-! ===== the ends ===== -/
def o_iret (ty : FieldType) (K : am_P) : am_C := fun _ st n E _ _ => match st with
  | [.int v] => narrow ty (.int v) = .int v ∧ K (.inl (some (.int v))) n E
  | _ => False
def o_lret (K : am_P) : am_C := fun _ st n E _ _ => match st with
  | [.long v] => K (.inl (some (.long v))) n E
  | _ => False
def o_fret (K : am_P) : am_C := fun _ st n E _ _ => match st with
  | [.float v] => K (.inl (some (.float v))) n E
  | _ => False
def o_dret (K : am_P) : am_C := fun _ st n E _ _ => match st with
  | [.double v] => K (.inl (some (.double v))) n E
  | _ => False
def o_aret (K : am_P) : am_C := fun _ st n E _ _ => match st with
  | [.ref v] => K (.inl (some (.ref v))) n E
  | _ => False
def o_vret (K : am_P) : am_C := fun _ st n E _ _ => match st with
  | [] => K (.inl none) n E
  | _ => False
theorem am_qc {D : va_G} {dA ro ad ad0 : Nat → Nat} {n n0 : Nat} {E : am_E} {s t : State} {H : Heap} {locs : List Loc} {A : Nat → Prop} {K : am_P} {v : Option Value} {a : Array Value} (h1 : ∀ k, k < n0 → ad k = ad0 k) (h2 : n0 ≤ n) (h3 : am_we n E) (h6 : va_P D vwCl (am_w dA ad ro n E) H) (h7 : va_D A (am_w dA ad ro n E)) (h8 : va_S A s.heap H locs) (hAe : A = am_A ad0 n0 s.heap.size) (ht : t.heap = H) (hv : ∀ w, v = some w → am_lt n w) (hK : K (.inl v) n E) : am_Qc D dA ro ad0 n0 s.heap.size K a s (.returned (v.map (am_tr ad ro))) t := by
  subst hAe
  exact ⟨⟨v, n, E, hK, hv, ad, h1, h2, h3, by rw [ht]; exact h6, h7, rfl⟩, h8.F ht⟩
theorem ms_iret {X : am_X} {cc : ByteArray} {own : String} {ret : Option FieldType} {Ts : List Cond} (F : am_F X cc own ret Ts) {pc : Nat} {K : am_P} {mc ms : Nat} (FQ : am_FQ X K mc ms) {ty : FieldType} (hr : ret = some ty) (hd : decode cc pc = .ok (.ireturn, 1)) : am_imp (o_iret ty K) (am_G X pc) := by
  obtain ⟨p, l, e, R, s, m, args, below, meth, c, D, dA, ro, ad0, n0, nL, A, Q⟩ := X
  obtain ⟨hx, hb, hml, hown, hts, hK, hA, hE, htr, hlk, hrt, hWS⟩ := F
  obtain ⟨hQ, hAe, hRc, hRs⟩ := FQ
  intro ls st n E ca sl h ad H locs L h1 h2 h3 h4 h5 h6 h7 h8 h9 hca hsl
  unfold o_iret at h
  split at h
  · rename_i v
    subst hQ
    exact W.widen (hRc ▸ hca) (hRs ▸ hsl) (vx_ret (W.zret hx hb (hrt.trans hr) h.1 (fun t ht hW => am_qc (v := some (.int v)) h1 h2 h3 h6 h7 h8 hAe ht (fun w hw => by cases hw; trivial) h.2) h8.2.2 hd hlk))
  · exact h.elim
theorem ms_lret {X : am_X} {cc : ByteArray} {own : String} {ret : Option FieldType} {Ts : List Cond} (F : am_F X cc own ret Ts) {pc : Nat} {K : am_P} {mc ms : Nat} (FQ : am_FQ X K mc ms) (hr : ret = some .long) (hd : decode cc pc = .ok (.lreturn, 1)) : am_imp (o_lret K) (am_G X pc) := by
  obtain ⟨p, l, e, R, s, m, args, below, meth, c, D, dA, ro, ad0, n0, nL, A, Q⟩ := X
  obtain ⟨hx, hb, hml, hown, hts, hK, hA, hE, htr, hlk, hrt, hWS⟩ := F
  obtain ⟨hQ, hAe, hRc, hRs⟩ := FQ
  intro ls st n E ca sl h ad H locs L h1 h2 h3 h4 h5 h6 h7 h8 h9 hca hsl
  unfold o_lret at h
  split at h
  · rename_i v
    subst hQ
    exact W.widen (hRc ▸ hca) (hRs ▸ hsl) (vx_ret (W.lret hx hb (hrt.trans hr) (fun t ht hW => am_qc (v := some (.long v)) h1 h2 h3 h6 h7 h8 hAe ht (fun w hw => by cases hw; trivial) h) h8.2.2 hd hlk))
  · exact h.elim
theorem ms_fret {X : am_X} {cc : ByteArray} {own : String} {ret : Option FieldType} {Ts : List Cond} (F : am_F X cc own ret Ts) {pc : Nat} {K : am_P} {mc ms : Nat} (FQ : am_FQ X K mc ms) (hr : ret = some .float) (hd : decode cc pc = .ok (.freturn, 1)) : am_imp (o_fret K) (am_G X pc) := by
  obtain ⟨p, l, e, R, s, m, args, below, meth, c, D, dA, ro, ad0, n0, nL, A, Q⟩ := X
  obtain ⟨hx, hb, hml, hown, hts, hK, hA, hE, htr, hlk, hrt, hWS⟩ := F
  obtain ⟨hQ, hAe, hRc, hRs⟩ := FQ
  intro ls st n E ca sl h ad H locs L h1 h2 h3 h4 h5 h6 h7 h8 h9 hca hsl
  unfold o_fret at h
  split at h
  · rename_i v
    subst hQ
    exact W.widen (hRc ▸ hca) (hRs ▸ hsl) (vx_ret (W.fret hx hb (hrt.trans hr) (fun t ht hW => am_qc (v := some (.float v)) h1 h2 h3 h6 h7 h8 hAe ht (fun w hw => by cases hw; trivial) h) h8.2.2 hd hlk))
  · exact h.elim
theorem ms_dret {X : am_X} {cc : ByteArray} {own : String} {ret : Option FieldType} {Ts : List Cond} (F : am_F X cc own ret Ts) {pc : Nat} {K : am_P} {mc ms : Nat} (FQ : am_FQ X K mc ms) (hr : ret = some .double) (hd : decode cc pc = .ok (.dreturn, 1)) : am_imp (o_dret K) (am_G X pc) := by
  obtain ⟨p, l, e, R, s, m, args, below, meth, c, D, dA, ro, ad0, n0, nL, A, Q⟩ := X
  obtain ⟨hx, hb, hml, hown, hts, hK, hA, hE, htr, hlk, hrt, hWS⟩ := F
  obtain ⟨hQ, hAe, hRc, hRs⟩ := FQ
  intro ls st n E ca sl h ad H locs L h1 h2 h3 h4 h5 h6 h7 h8 h9 hca hsl
  unfold o_dret at h
  split at h
  · rename_i v
    subst hQ
    exact W.widen (hRc ▸ hca) (hRs ▸ hsl) (vx_ret (W.dret hx hb (hrt.trans hr) (fun t ht hW => am_qc (v := some (.double v)) h1 h2 h3 h6 h7 h8 hAe ht (fun w hw => by cases hw; trivial) h) h8.2.2 hd hlk))
  · exact h.elim
theorem ms_aret {X : am_X} {cc : ByteArray} {own : String} {ret : Option FieldType} {Ts : List Cond} (F : am_F X cc own ret Ts) {pc : Nat} {K : am_P} {mc ms : Nat} (FQ : am_FQ X K mc ms) {ty : FieldType} (hr : ret = some (.array ty)) (hd : decode cc pc = .ok (.areturn, 1)) : am_imp (o_aret K) (am_G X pc) := by
  obtain ⟨p, l, e, R, s, m, args, below, meth, c, D, dA, ro, ad0, n0, nL, A, Q⟩ := X
  obtain ⟨hx, hb, hml, hown, hts, hK, hA, hE, htr, hlk, hrt, hWS⟩ := F
  obtain ⟨hQ, hAe, hRc, hRs⟩ := FQ
  intro ls st n E ca sl h ad H locs L h1 h2 h3 h4 h5 h6 h7 h8 h9 hca hsl
  unfold o_aret at h
  split at h
  · rename_i v
    subst hQ
    exact W.widen (hRc ▸ hca) (hRs ▸ hsl) (vx_ret (W.aret hx hb (hrt.trans hr) (Or.inr ⟨ty, rfl⟩) (Or.inr ⟨ad v, rfl⟩) (fun t ht hW => am_qc (v := some (.ref v)) h1 h2 h3 h6 h7 h8 hAe ht (fun w hw => by cases hw; exact am_hd h4) h) h8.2.2 hd hlk))
  · exact h.elim
theorem ms_vret {X : am_X} {cc : ByteArray} {own : String} {ret : Option FieldType} {Ts : List Cond} (F : am_F X cc own ret Ts) {pc : Nat} {K : am_P} {mc ms : Nat} (FQ : am_FQ X K mc ms) (hr : ret = none) (hd : decode cc pc = .ok (.return_, 1)) : am_imp (o_vret K) (am_G X pc) := by
  obtain ⟨p, l, e, R, s, m, args, below, meth, c, D, dA, ro, ad0, n0, nL, A, Q⟩ := X
  obtain ⟨hx, hb, hml, hown, hts, hK, hA, hE, htr, hlk, hrt, hWS⟩ := F
  obtain ⟨hQ, hAe, hRc, hRs⟩ := FQ
  intro ls st n E ca sl h ad H locs L h1 h2 h3 h4 h5 h6 h7 h8 h9 hca hsl
  unfold o_vret at h
  split at h
  · subst hQ
    exact W.widen (hRc ▸ hca) (hRs ▸ hsl) (vx_ret (W.vret hx hb (hrt.trans hr) (fun t ht hW => am_qc (v := none) h1 h2 h3 h6 h7 h8 hAe ht (fun w hw => by cases hw) h) h8.2.2 hd hlk))
  · exact h.elim
/-! ===== throw new E("text") ===== -/
def o_throw (C : String) (mc ms : Nat) (K : am_P) : am_C := fun _ st n E ca sl => match st with
  | [] => (ca + 1 ≤ mc ∧ sl + 6 ≤ ms) ∧ K (.inr C) n E
  | _ => False
theorem am_xc {D : va_G} {dA ro ad ad0 : Nat → Nat} {n n0 : Nat} {E : am_E} {s t : State} {H : Heap} {locs : List Loc} {A : Nat → Prop} {K : am_P} {C : String} (h1 : ∀ k, k < n0 → ad k = ad0 k) (h2 : n0 ≤ n) (h3 : am_we n E) (h6 : va_P D vwCl (am_w dA ad ro n E) H) (h7 : va_D A (am_w dA ad ro n E)) (h8 : va_S A s.heap H locs) (hAe : A = am_A ad0 n0 s.heap.size) (hz : H.size ≤ t.heap.size) (hq : ∀ q : Nat, q < H.size → t.heap[q]? = H[q]?) (hK : K (.inr C) n E) : am_Xc D dA ro ad0 n0 s.heap.size K C s t := by
  subst hAe
  exact ⟨⟨n, E, hK, ad, h1, h2, h3, h6.kept (fun k q hk => hq q.1 (h6 k q hk).lt), h7, trivial⟩, Nat.le_trans h8.1 hz, fun q ha hb => by rw [hq q (Nat.lt_of_lt_of_le ha h8.1)]; exact h8.2.1 q ha hb⟩
theorem ms_throw {X : am_X} {cc : ByteArray} {own : String} {ret : Option FieldType} {Ts : List Cond} (F : am_F X cc own ret Ts) {pc : Nat} {K : am_P} {rm : Room} (hR : am_Rm X rm) (FQ : am_FQ X K rm.cells rm.slots) (hT : am_noT X) (hf : 5 < rm.frames) (hlo : 82 ≤ rm.locals) {cls text : String} {n1 n2 : String} {ik is ic : Nat} (hcls : Bundle.fit cls = true) (hnames : ∀ n ∈ [n1, n2], Bundle.fit n = true)
    (hk : Cond.classLink own ik cls ∈ Ts) (hini : Cond.initialized cls ∈ Ts) (hstr : (own, is, text) ∈ am_SR) (hat : ∀ w ∈ vx_atS own ic cls [n1, n2], w ∈ am_WS ∨ w ∈ am_NW) (hgood : ∀ w ∈ Cond.classLink own ik cls :: Cond.initialized cls :: vx_atS own ic cls [n1, n2], vx_ot w = true)
    (d0 : decode cc pc = .ok (.new ik, 3)) (d3 : decode cc (pc + 3) = .ok (.dup, 1)) (d4 : decode cc (pc + 4) = .ok (.ldc is, 2)) (d6 : decode cc (pc + 6) = .ok (.invokespecial ic, 3)) (d9 : decode cc (pc + 9) = .ok (.athrow, 1)) : am_imp (o_throw cls rm.cells rm.slots K) (am_G X pc) := by
  obtain ⟨p, l, e, R, s, m, args, below, meth, c, D, dA, ro, ad0, n0, nL, A, Q⟩ := X
  obtain ⟨hx, hb, hml, hown, hts, hK, hA, hE, htr, hlk, hrt, hWS⟩ := F
  obtain ⟨hQ, hAe, hRc, hRs⟩ := FQ
  have hR : R = rm := hR
  subst hR
  intro ls st n E ca sl h ad H locs L h1 h2 h3 h4 h5 h6 h7 h8 h9 hca hsl
  unfold o_throw at h
  split at h
  · obtain ⟨⟨hc1, hs1⟩, h⟩ := h
    obtain ⟨sa, hsa⟩ := hE.2.1 _ hstr
    subst hQ
    have hat' : ∀ w ∈ vx_atS own ic cls [n1, n2], w.before args s = true := fun w hw => (hat w hw).elim (fun q => hts w (hWS w q)) (fun q => am_nk_use (List.mem_filter.mp q).2 (hE.1 w q))
    exact vx_throwS (names := [n1, n2]) (sa := sa) hx hb htr hown hcls hnames (hts _ hk) (hts _ hini) hsa hat' hgood hE.2.2.2.1.1 hE.2.2.2.1.2 h8 (h9.1.trans hml.symm) d0 d3 d4 d6 d9 (fun x hx => (hT x hx).elim) (by simpa using hf) (by simpa using hlo) hc1 hs1 hlk (fun t _ hz hq => am_xc h1 h2 h3 h6 h7 h8 hAe hz hq h) h8.2.2 hc1 hs1
  · exact h.elim
theorem ms_throwW {X : am_X} {cc : ByteArray} {own : String} {ret : Option FieldType} {Ts : List Cond} (F : am_F X cc own ret Ts) {pc : Nat} {K : am_P} {rm : Room} (hR : am_Rm X rm) (FQ : am_FQ X K rm.cells rm.slots) (hT : am_noT X) (hf : 5 < rm.frames) (hlo : 82 ≤ rm.locals) {cls text : String} {n1 n2 : String} {ik is ic : Nat} (hcls : Bundle.fit cls = true) (hnames : ∀ n ∈ [n1, n2], Bundle.fit n = true)
    (hk : Cond.classLink own ik cls ∈ Ts) (hini : Cond.initialized cls ∈ Ts) (hstr : (own, is, text) ∈ am_SR) (hat : ∀ w ∈ vx_atS own ic cls [n1, n2], w ∈ am_WS ∨ w ∈ am_NW) (hgood : ∀ w ∈ Cond.classLink own ik cls :: Cond.initialized cls :: vx_atS own ic cls [n1, n2], vx_ot w = true)
    (d0 : decode cc pc = .ok (.new ik, 3)) (d3 : decode cc (pc + 3) = .ok (.dup, 1)) (d4 : decode cc (pc + 4) = .ok (.ldc_w is, 3)) (d6 : decode cc (pc + 7) = .ok (.invokespecial ic, 3)) (d9 : decode cc (pc + 10) = .ok (.athrow, 1)) : am_imp (o_throw cls rm.cells rm.slots K) (am_G X pc) := by
  obtain ⟨p, l, e, R, s, m, args, below, meth, c, D, dA, ro, ad0, n0, nL, A, Q⟩ := X
  obtain ⟨hx, hb, hml, hown, hts, hK, hA, hE, htr, hlk, hrt, hWS⟩ := F
  obtain ⟨hQ, hAe, hRc, hRs⟩ := FQ
  have hR : R = rm := hR
  subst hR
  intro ls st n E ca sl h ad H locs L h1 h2 h3 h4 h5 h6 h7 h8 h9 hca hsl
  unfold o_throw at h
  split at h
  · obtain ⟨⟨hc1, hs1⟩, h⟩ := h
    obtain ⟨sa, hsa⟩ := hE.2.1 _ hstr
    subst hQ
    have hat' : ∀ w ∈ vx_atS own ic cls [n1, n2], w.before args s = true := fun w hw => (hat w hw).elim (fun q => hts w (hWS w q)) (fun q => am_nk_use (List.mem_filter.mp q).2 (hE.1 w q))
    exact vx_throwSW (names := [n1, n2]) (sa := sa) hx hb htr hown hcls hnames (hts _ hk) (hts _ hini) hsa hat' hgood hE.2.2.2.1.1 hE.2.2.2.1.2 h8 (h9.1.trans hml.symm) d0 d3 d4 d6 d9 (fun x hx => (hT x hx).elim) (by simpa using hf) (by simpa using hlo) hc1 hs1 hlk (fun t _ hz hq => am_xc h1 h2 h3 h6 h7 h8 hAe hz hq h) h8.2.2 hc1 hs1
  · exact h.elim
end
section
/-! ===== calls ===== -/
abbrev am_H : Type := am_L → String → Nat → am_E → Nat → Nat → Prop
def am_kc (ls : am_L) (rest : List Value) (ca sl : Nat) (Xh : am_H) (k : am_C) : am_P := fun o n' E' => match o with
  | .inl none => k ls rest n' E' ca sl
  | .inl (some v) => k ls (v :: rest) n' E' ca sl
  | .inr C => Xh ls C n' E' ca sl
/-- an exception over the frame at pc -/
def am_XG (X : am_X) (pc : Nat) : am_H := match X with
  | (p, l, e, R, s, m, args, below, meth, c, D, dA, ro, ad0, n0, nL, A, Q) => fun ls C n E ca sl =>
    ∀ (ad : Nat → Nat) (H : Heap) (locs : List Loc) (L : Array Slot) (st : List Value) (q : Nat) (ce : Cell), (∀ k, k < n0 → ad k = ad0 k) → n0 ≤ n → am_we n E → (∀ v, some v ∈ ls → am_lt n v) → va_P D vwCl (am_w dA ad ro n E) H → va_D A (am_w dA ad ro n E) → va_S A s.heap H locs → am_has ad ro nL L ls → ca ≤ R.cells → sl ≤ R.slots → H[q]? = some ce → ce.vm = .none → s.vm.findClass C = some ce.cls → vx_W p l e R s m args below meth c H locs ca sl Q (F0 m pc L st) q
def am_impX (Xh G : am_H) : Prop := ∀ ls C n E ca sl, Xh ls C n E ca sl → G ls C n E ca sl
theorem am_incl {D : va_G} {dA ad ro : Nat → Nat} {n : Nat} {E : am_E} {A : Nat → Prop} {H0 H : Heap} {locs : List Loc} (h3 : am_we n E) (h7 : va_D A (am_w dA ad ro n E)) (h8 : va_S A H0 H locs) (hA : ∀ q : Nat, H0.size ≤ q → A q) : ∀ q, am_A ad n H.size q → A q := by
  rintro q (⟨k, hk, rfl⟩ | hq)
  · obtain ⟨e', he⟩ := Option.isSome_iff_exists.mp ((h3 k).1 hk)
    exact h7.2 k _ (am_w_at hk he)
  · exact hA q (Nat.le_trans h8.1 hq)
theorem am_pre {X : am_X} {cc : ByteArray} {own : String} {ret : Option FieldType} {Ts : List Cond} {n : Nat} {E : am_E} {as : List Value} : match X with
  | (p, l, e, R, s, m, args, below, meth, c, D, dA, ro, ad0, n0, nL, A, Q) => am_F (p, l, e, R, s, m, args, below, meth, c, D, dA, ro, ad0, n0, nL, A, Q) cc own ret Ts → ∀ (ad : Nat → Nat) (H : Heap) (locs : List Loc), am_we n E → va_P D vwCl (am_w dA ad ro n E) H → va_D A (am_w dA ad ro n E) → va_S A s.heap H locs → ∀ U : State, U.heap = H → s.WarmedH U.vm → am_Pc D dA ro ad n E H.size as (as.map (am_tr ad ro)).toArray U := by
  obtain ⟨p, l, e, R, s, m, args, below, meth, c, D, dA, ro, ad0, n0, nL, A, Q⟩ := X
  intro F ad H locs h3 h6 h7 h8 U hU hW
  obtain ⟨hx, hb, hml, hown, hts, hK, hA, hE, htr, hlk, hrt, hWS⟩ := F
  have hi := am_incl (D := D) h3 h7 h8 hA
  subst hU
  exact ⟨rfl, rfl, h6, va_K.moved hW.alike hK, ⟨h7.1, fun k q hk => by
    have hlt : k < n := by
      have := (List.getElem?_eq_some_iff.mp hk).1
      rwa [am_w_len] at this
    obtain ⟨e', he⟩ := Option.isSome_iff_exists.mp ((h3 k).1 hlt)
    rw [am_w_at hlt he] at hk
    cases hk
    exact Or.inl ⟨k, hlt, rfl⟩⟩, hE.step hW hi (fun a ha hb => h8.2.1 a ha hb)⟩
theorem am_blind {D : va_G} {dA ro ad : Nat → Nat} {n : Nat} {E : am_E} {sz : Nat} {as : List Value} : FrameBlind (am_Pc D dA ro ad n E sz as) := by
  intro a U g mk h
  obtain ⟨h0, h1, h2, h3, h4, h5⟩ := h
  exact ⟨h0, h1, h2, va_K.moved (u := U) (U := U.calling g mk a) (Vm.Alike.refl U.vm) h3, h4, am_ext.step (s := U) (U := U.calling g mk a) h5 (State.WarmedH.refl U) (fun _ q => q) (fun _ _ _ => rfl)⟩
theorem am_back {X : am_X} {pc : Nat} {k : am_C} {Xh : am_H} (hk : am_imp k (am_G X (pc + 3))) (hX : am_impX Xh (am_XG X pc)) {n : Nat} {E : am_E} {ls : am_L} {rest : List Value} {ca sl mc ms : Nat} {a : Array Value} : match X with
  | (p, l, e, R, s, m, args, below, meth, c, D, dA, ro, ad0, n0, nL, A, Q) => ∀ (ad : Nat → Nat) (H : Heap) (locs : List Loc) (L : Array Slot) (st0 : List Value), (∀ k, k < n0 → ad k = ad0 k) → n0 ≤ n → am_we n E → (∀ v ∈ rest, am_lt n v) → (∀ v, some v ∈ ls → am_lt n v) → va_D A (am_w dA ad ro n E) → va_S A s.heap H locs → am_has ad ro nL L ls → ca + mc ≤ R.cells → sl + ms ≤ R.slots → (∀ q : Nat, s.heap.size ≤ q → A q) →
    vx_Run p l e R s m args below meth c H locs ca sl mc ms (F0 m pc L st0) (rest.map (am_tr ad ro)) (am_Qc D dA ro ad n H.size (am_kc ls rest (ca + mc) (sl + ms) Xh k) a) (am_Xc D dA ro ad n H.size (am_kc ls rest (ca + mc) (sl + ms) Xh k)) (am_A ad n H.size) → W p l e R s m args below meth c H locs ca sl Q (F0 m pc L st0) := by
  obtain ⟨p, l, e, R, s, m, args, below, meth, c, D, dA, ro, ad0, n0, nL, A, Q⟩ := X
  intro ad H locs L st0 h1 h2 h3 h4 h5 h7 h8 h9 hca hsl hA hr T hT Xs
  have hi := am_incl (D := D) h3 h7 h8 hA
  rcases hr T hT Xs with ⟨v, st₀, t, T', Lc, g0, X', hL, e1, e2, ⟨⟨v9, n', E', hK9, hlt9, ad', had, hnn, hwe, hP', hD', hret⟩, hF⟩, hgo⟩ | ⟨q, st₀, t, T', Lc, Ex, ce, g0, X', hL, e1, e2, ⟨⟨n', E', hK9, ad', had, hnn, hwe, hP', hD', -⟩, hF⟩, hce, hcv, hcl, hst⟩
  · obtain ⟨k1, k2, k3⟩ := vx_keep g0 e1 h8 (fun q _ hq => hi q hq) hi hL hF
    have hv : v = v9.map (am_tr ad' ro) := by cases hret; rfl
    subst hv
    have hD9 : va_D A (am_w dA ad' ro n' E') := ⟨hD'.1, fun k q hk => hi _ (hD'.2 k q hk)⟩
    have hP9 : va_P D vwCl (am_w dA ad' ro n' E') T'.heap := by rw [e1]; exact hP'
    have hrest : rest.map (am_tr ad' ro) = rest.map (am_tr ad ro) := am_st_cg h4 had
    have hlv : ∀ v ∈ rest, am_lt n' v := fun v hv => am_lt_mono hnn (h4 v hv)
    have hll : ∀ v, some v ∈ ls → am_lt n' v := fun v hv => am_lt_mono hnn (h5 v hv)
    have had0 : ∀ k, k < n0 → ad' k = ad0 k := fun k hk => (had k (by omega)).trans (h1 k hk)
    cases v9 with
    | none =>
      have g := hk _ _ _ _ _ _ hK9 ad' T'.heap (locs ++ Lc) L had0 (by omega) hwe hlv hll hP9 hD9 k3 (am_has_cg h9 h5 had) hca hsl
      rw [hrest] at g
      obtain ⟨t2, a1, b1⟩ := g T' rfl X'
      exact ⟨t2, hgo t2 a1, b1⟩
    | some w =>
      have g := hk _ _ _ _ _ _ hK9 ad' T'.heap (locs ++ Lc) L had0 (by omega) hwe (am_cs (hlt9 w rfl) hlv) hll hP9 hD9 k3 (am_has_cg h9 h5 had) hca hsl
      rw [List.map_cons, hrest] at g
      obtain ⟨t2, a1, b1⟩ := g T' rfl X'
      exact ⟨t2, hgo t2 a1, b1⟩
  · obtain ⟨k1, k2, k3⟩ := vx_keep g0 e1 h8 (fun q _ hq => hi q hq) hi hL hF
    have hD9 : va_D A (am_w dA ad' ro n' E') := ⟨hD'.1, fun k q hk => hi _ (hD'.2 k q hk)⟩
    have hP9 : va_P D vwCl (am_w dA ad' ro n' E') T'.heap := by rw [e1]; exact hP'
    obtain ⟨t2, a1, b1⟩ := hX _ _ _ _ _ _ hK9 ad' T'.heap (locs ++ Lc) L (rest.map (am_tr ad ro)) q ce (fun k hk => (had k (by omega)).trans (h1 k hk)) (by omega) hwe (fun v hv => am_lt_mono hnn (h5 v hv)) hP9 hD9 k3 (am_has_cg h9 h5 had) hca hsl (by rw [e1]; exact hce) hcv hcl T' rfl X'
    exact ⟨t2, hst.trans a1, b1⟩
/-- no table: it goes on to the caller -/
def am_noX (K : am_P) : am_H := fun _ C n E _ _ => K (.inr C) n E
theorem ms_noX {X : am_X} {cc : ByteArray} {own : String} {ret : Option FieldType} {Ts : List Cond} (F : am_F X cc own ret Ts) {pc : Nat} {K : am_P} {mc ms : Nat} (FQ : am_FQ X K mc ms) (hT : am_noT X) : am_impX (am_noX K) (am_XG X pc) := by
  obtain ⟨p, l, e, R, s, m, args, below, meth, c, D, dA, ro, ad0, n0, nL, A, Q⟩ := X
  obtain ⟨hx, hb, hml, hown, hts, hK, hA, hE, htr, hlk, hrt, hWS⟩ := F
  obtain ⟨hQ, hAe, hRc, hRs⟩ := FQ
  intro ls C n E ca sl h ad H locs L st q ce h1 h2 h3 h5 h6 h7 h8 h9 hca hsl hce hcv hcl
  subst hQ
  exact vx_out (fun x hx => (hT x hx).elim) hlk hce hcv hcl (fun t ht _ => am_xc h1 h2 h3 h6 h7 h8 hAe (by rw [ht]; exact Nat.le_refl _) (fun q _ => by rw [ht]) h) h8.2.2 (hRc ▸ hca) (hRs ▸ hsl)
def am_ws (y : MethodName) (cc : ByteArray) (maxL : Nat) (ret : Option FieldType) : List Cond := Cond.code y cc maxL ret :: am_WS
def am_wsT (y : MethodName) (cc : ByteArray) (maxL : Nat) (ret : Option FieldType) (hh : List (Nat × Nat × Nat × Nat)) : List Cond := Cond.codeWith y cc maxL ret hh :: am_WS
theorem am_good {w : Cond} (h : w ∈ am_WS) : (w.onTables && w.keeps) = true ∨ ∃ ty, w = .arrayClass ty := good_of_word (List.mem_filter.mp h).2
theorem am_cb {R : Room} {s : State} {args : Array Value} {own : String} {index maxL n : Nat} {y : MethodName} {bytes : ByteArray} {ret : Option FieldType} {rm : Room} (ht : ∀ w ∈ am_WS, w.before args s = true) (hcode : Cond.code y bytes maxL ret ∈ am_WS) (hini : Cond.initialized y.cls ∈ am_WS) (hlink : Cond.methodLink own index y ∈ am_WS)
    (hd : y.cls ≠ "java/lang/invoke/MethodHandle" ∧ y.cls ≠ "java/lang/invoke/VarHandle" ∧ (parseMethodDescriptor y.desc).map (fun d => d.parameters.length) = some n) (hR : rm.frames + 1 ≤ R.frames ∧ 8 + (maxL + 11) + rm.locals ≤ R.locals) : CallB R s args own index y bytes maxL ret (am_ws y bytes maxL ret) rm rm.cells rm.slots n := by
  refine ⟨rfl, rfl, hR.1, hR.2, fun w hw a' U hW => ?_, List.mem_cons_self, ht _ hcode, ht _ hini, ⟨hd.1, hd.2.1⟩, fun sig h => ?_, ht _ hlink⟩
  · rcases List.mem_cons.mp hw with rfl | hw
    · exact word_at hW (am_good hcode) (ht _ hcode)
    · exact word_at hW (am_good hw) (ht _ hw)
  · have h2 := hd.2.2
    rw [h] at h2
    exact (Option.some.inj h2).symm
theorem am_cbN {R : Room} {s : State} {args : Array Value} {own host : String} {index maxL n : Nat} {y : MethodName} {bytes : ByteArray} {ret : Option FieldType} {rm : Room} (ht : ∀ w ∈ am_WS, w.before args s = true) (hcode : Cond.code y bytes maxL ret ∈ am_WS) (hini : Cond.initialized y.cls ∈ am_WS) (hlink : va_Nw (.methodLinkNest own index y host) s)
    (hd : y.cls ≠ "java/lang/invoke/MethodHandle" ∧ y.cls ≠ "java/lang/invoke/VarHandle" ∧ (parseMethodDescriptor y.desc).map (fun d => d.parameters.length) = some n) (hR : rm.frames + 1 ≤ R.frames ∧ 8 + (maxL + 11) + rm.locals ≤ R.locals) : va_CN R s args own index y host bytes maxL ret (am_ws y bytes maxL ret) rm rm.cells rm.slots n := by
  refine ⟨⟨rfl, rfl, hR.1, hR.2, fun w hw a' U hW => ?_, List.mem_cons_self⟩, ht _ hcode, ht _ hini, ⟨hd.1, hd.2.1⟩, fun sig h => ?_, va_Nw.use rfl hlink⟩
  · rcases List.mem_cons.mp hw with rfl | hw
    · exact word_at hW (am_good hcode) (ht _ hcode)
    · exact word_at hW (am_good hw) (ht _ hw)
  · have h2 := hd.2.2
    rw [h] at h2
    exact (Option.some.inj h2).symm
theorem am_cbT {R : Room} {s : State} {args : Array Value} {own : String} {index maxL n : Nat} {y : MethodName} {bytes : ByteArray} {ret : Option FieldType} {hh : List (Nat × Nat × Nat × Nat)} {rm : Room} (ht : ∀ w ∈ am_WS, w.before args s = true) (hcode : Cond.codeWith y bytes maxL ret hh ∈ am_WS) (hini : Cond.initialized y.cls ∈ am_WS) (hlink : Cond.methodLink own index y ∈ am_WS) (hstat : Cond.static y ∈ am_WS)
    (hd : y.cls ≠ "java/lang/invoke/MethodHandle" ∧ y.cls ≠ "java/lang/invoke/VarHandle" ∧ (parseMethodDescriptor y.desc).map (fun d => d.parameters.length) = some n) (hR : rm.frames + 1 ≤ R.frames ∧ 8 + (maxL + 11) + rm.locals ≤ R.locals) : vx_CSW R s args own index y bytes maxL ret hh (am_wsT y bytes maxL ret hh) rm rm.cells rm.slots n := by
  refine ⟨⟨rfl, rfl, hR.1, hR.2, fun w hw a' U hW => ?_, List.mem_cons_self⟩, ht _ hcode, ht _ hini, ⟨hd.1, hd.2.1⟩, fun sig h => ?_, ht _ hlink, ht _ hstat⟩
  · rcases List.mem_cons.mp hw with rfl | hw
    · exact word_at hW (am_good hcode) (ht _ hcode)
    · exact word_at hW (am_good hw) (ht _ hw)
  · have h2 := hd.2.2
    rw [h] at h2
    exact (Option.some.inj h2).symm
def o_call (na : Nat) (S : am_S) (rm' rm : Room) (Xh : am_H) (k : am_C) : am_C := fun ls st n E ca sl =>
  na ≤ st.length ∧ ((st.drop na).map fun v => v.category).sum ≤ 8 ∧ (ca + rm'.cells ≤ rm.cells ∧ sl + rm'.slots ≤ rm.slots) ∧ S (st.take na).reverse n E (am_kc ls (st.drop na) (ca + rm'.cells) (sl + rm'.slots) Xh k)
/-- .. of an object of kind ci -/
def o_callV (ci na : Nat) (S : am_S) (rm' rm : Room) (Xh : am_H) (k : am_C) : am_C := fun ls st n E ca sl => (match (st.take na).reverse with
  | .ref b :: _ => (match E b with
    | some (.inr (c, _)) => c = ci
    | _ => False)
  | _ => False) ∧ o_call na S rm' rm Xh k ls st n E ca sl
theorem am_argsOf {na : Nat} {st : List Value} {n : Nat} (h4 : ∀ v ∈ st, am_lt n v) : (∀ v ∈ (st.take na).reverse, am_lt n v) ∧ ∀ v ∈ st.drop na, am_lt n v :=
  ⟨fun v hv => h4 v (List.mem_of_mem_take (List.mem_reverse.mp hv)), fun v hv => h4 v (List.mem_of_mem_drop hv)⟩
theorem am_stk {na : Nat} {st : List Value} {ad ro : Nat → Nat} : st.map (am_tr ad ro) = (((st.take na).reverse).map (am_tr ad ro)).reverse ++ (st.drop na).map (am_tr ad ro) := by
  rw [← List.map_reverse, List.reverse_reverse, ← List.map_append, List.take_append_drop]
theorem ms_callS {X : am_X} {cc : ByteArray} {own : String} {ret : Option FieldType} {Ts : List Cond} (F : am_F X cc own ret Ts) {pc : Nat} {k : am_C} {Xh : am_H} {rm rm' : Room} (hR : am_Rm X rm) {y : MethodName} {bytes : ByteArray} {maxL na index : Nat} {ret' : Option FieldType} {S : am_S} (hM : ∀ l : Launch, l.stackTraces = false → am_Ct l y (am_ws y bytes maxL ret') rm' S)
    (hcode : Cond.code y bytes maxL ret' ∈ am_WS) (hini : Cond.initialized y.cls ∈ am_WS) (hlink : Cond.methodLink own index y ∈ am_WS) (hstat : Cond.static y ∈ am_WS) (hy : y.cls ≠ "java/lang/invoke/MethodHandle" ∧ y.cls ≠ "java/lang/invoke/VarHandle" ∧ (parseMethodDescriptor y.desc).map (fun d => d.parameters.length) = some na) (hRR : rm'.frames + 1 ≤ rm.frames ∧ 8 + (maxL + 11) + rm'.locals ≤ rm.locals) (hd : decode cc pc = .ok (.invokestatic index, 3)) (hX : am_impX Xh (am_XG X pc)) (hk : am_imp k (am_G X (pc + 3))) : am_imp (o_call na S rm' rm Xh k) (am_G X pc) := by
  have hpre := @am_pre X cc own ret Ts
  have hback := @am_back X pc k Xh hk hX
  obtain ⟨p, l, e, R, s, m, args, below, meth, c, D, dA, ro, ad0, n0, nL, A, Q⟩ := X
  have F' := F
  obtain ⟨hx, hb, hml, hown, hts, hK, hA, hE, htr, hlk, hrt, hWS⟩ := F
  have hR : R = rm := hR
  subst hR
  intro ls st n E ca sl h ad H locs L h1 h2 h3 h4 h5 h6 h7 h8 h9 hca hsl
  obtain ⟨hna, hcat, ⟨hc1, hs1⟩, h⟩ := h
  obtain ⟨ha1, ha2⟩ := am_argsOf (na := na) h4
  refine hback ad H locs L _ h1 h2 h3 ha2 h5 h7 h8 h9 hc1 hs1 hA (vx_runS (Ts := Ts) (nL := nL) (As := ((st.take na).reverse).map (am_tr ad ro)) ⟨hx, hb, hml, hown, hts⟩ (hM l htr D dA ro ad n E H.size _ _ h3 ha1 h) ⟨am_cb (fun w hw => hts w (hWS w hw)) hcode hini hlink hy hRR, hts _ (hWS _ hstat)⟩ ⟨am_blind, hpre F' ad H locs h3 h6 h7 h8⟩ rfl (by simp; omega) h9.1 (by exact am_stk) (lv_room (by rw [am_cats]; exact hcat)) hd ⟨hc1, hs1⟩)
theorem ms_callSN {X : am_X} {cc : ByteArray} {own : String} {ret : Option FieldType} {Ts : List Cond} (F : am_F X cc own ret Ts) {pc : Nat} {k : am_C} {Xh : am_H} {rm rm' : Room} (hR : am_Rm X rm) {y : MethodName} {bytes : ByteArray} {maxL na index : Nat} {ret' : Option FieldType} {S : am_S} {host : String} (hM : ∀ l : Launch, l.stackTraces = false → am_Ct l y (am_ws y bytes maxL ret') rm' S)
    (hcode : Cond.code y bytes maxL ret' ∈ am_WS) (hini : Cond.initialized y.cls ∈ am_WS) (hlink : Cond.methodLinkNest own index y host ∈ am_NW) (hstat : Cond.static y ∈ am_WS) (hy : y.cls ≠ "java/lang/invoke/MethodHandle" ∧ y.cls ≠ "java/lang/invoke/VarHandle" ∧ (parseMethodDescriptor y.desc).map (fun d => d.parameters.length) = some na) (hRR : rm'.frames + 1 ≤ rm.frames ∧ 8 + (maxL + 11) + rm'.locals ≤ rm.locals) (hd : decode cc pc = .ok (.invokestatic index, 3)) (hX : am_impX Xh (am_XG X pc)) (hk : am_imp k (am_G X (pc + 3))) : am_imp (o_call na S rm' rm Xh k) (am_G X pc) := by
  have hpre := @am_pre X cc own ret Ts
  have hback := @am_back X pc k Xh hk hX
  obtain ⟨p, l, e, R, s, m, args, below, meth, c, D, dA, ro, ad0, n0, nL, A, Q⟩ := X
  have F' := F
  obtain ⟨hx, hb, hml, hown, hts, hK, hA, hE, htr, hlk, hrt, hWS⟩ := F
  have hR : R = rm := hR
  subst hR
  intro ls st n E ca sl h ad H locs L h1 h2 h3 h4 h5 h6 h7 h8 h9 hca hsl
  obtain ⟨hna, hcat, ⟨hc1, hs1⟩, h⟩ := h
  obtain ⟨ha1, ha2⟩ := am_argsOf (na := na) h4
  refine hback ad H locs L _ h1 h2 h3 ha2 h5 h7 h8 h9 hc1 hs1 hA (vx_runSN (Ts := Ts) (nL := nL) (As := ((st.take na).reverse).map (am_tr ad ro)) ⟨hx, hb, hml, hown, hts⟩ (hM l htr D dA ro ad n E H.size _ _ h3 ha1 h) ⟨am_cbN (fun w hw => hts w (hWS w hw)) hcode hini (hE.1 _ hlink) hy hRR, hts _ (hWS _ hstat), trivial⟩ ⟨am_blind, hpre F' ad H locs h3 h6 h7 h8⟩ rfl (by simp; omega) h9.1 (by exact am_stk) (lv_room (by rw [am_cats]; exact hcat)) hd ⟨hc1, hs1⟩)
theorem ms_callSX {X : am_X} {cc : ByteArray} {own : String} {ret : Option FieldType} {Ts : List Cond} (F : am_F X cc own ret Ts) {pc : Nat} {k : am_C} {Xh : am_H} {rm rm' : Room} (hR : am_Rm X rm) {y : MethodName} {bytes : ByteArray} {maxL na index : Nat} {ret' : Option FieldType} {hh : List (Nat × Nat × Nat × Nat)} {S : am_S} (hM : ∀ l : Launch, l.stackTraces = false → am_Ct l y (am_wsT y bytes maxL ret' hh) rm' S)
    (hcode : Cond.codeWith y bytes maxL ret' hh ∈ am_WS) (hini : Cond.initialized y.cls ∈ am_WS) (hlink : Cond.methodLink own index y ∈ am_WS) (hstat : Cond.static y ∈ am_WS) (hy : y.cls ≠ "java/lang/invoke/MethodHandle" ∧ y.cls ≠ "java/lang/invoke/VarHandle" ∧ (parseMethodDescriptor y.desc).map (fun d => d.parameters.length) = some na) (hRR : rm'.frames + 1 ≤ rm.frames ∧ 8 + (maxL + 11) + rm'.locals ≤ rm.locals) (hd : decode cc pc = .ok (.invokestatic index, 3)) (hX : am_impX Xh (am_XG X pc)) (hk : am_imp k (am_G X (pc + 3))) : am_imp (o_call na S rm' rm Xh k) (am_G X pc) := by
  have hpre := @am_pre X cc own ret Ts
  have hback := @am_back X pc k Xh hk hX
  obtain ⟨p, l, e, R, s, m, args, below, meth, c, D, dA, ro, ad0, n0, nL, A, Q⟩ := X
  have F' := F
  obtain ⟨hx, hb, hml, hown, hts, hK, hA, hE, htr, hlk, hrt, hWS⟩ := F
  have hR : R = rm := hR
  subst hR
  intro ls st n E ca sl h ad H locs L h1 h2 h3 h4 h5 h6 h7 h8 h9 hca hsl
  obtain ⟨hna, hcat, ⟨hc1, hs1⟩, h⟩ := h
  obtain ⟨ha1, ha2⟩ := am_argsOf (na := na) h4
  refine hback ad H locs L _ h1 h2 h3 ha2 h5 h7 h8 h9 hc1 hs1 hA (vx_runSX (Ts := Ts) (nL := nL) (As := ((st.take na).reverse).map (am_tr ad ro)) ⟨hx, hb, hml, hown, hts⟩ (hM l htr D dA ro ad n E H.size _ _ h3 ha1 h) (am_cbT (fun w hw => hts w (hWS w hw)) hcode hini hlink hstat hy hRR) ⟨am_blind, hpre F' ad H locs h3 h6 h7 h8⟩ rfl (by simp; omega) h9.1 (by exact am_stk) (lv_room (by rw [am_cats]; exact hcat)) hd ⟨hc1, hs1⟩)
theorem ms_callV {X : am_X} {cc : ByteArray} {own : String} {ret : Option FieldType} {Ts : List Cond} (F : am_F X cc own ret Ts) {pc : Nat} {k : am_C} {Xh : am_H} {rm rm' : Room} (hR : am_Rm X rm) {y : MethodName} {bytes : ByteArray} {maxL na index ci : Nat} {ret' : Option FieldType} {S : am_S} {r9 : vw_C} (hM : ∀ l : Launch, l.stackTraces = false → am_Ct l y (am_ws y bytes maxL ret') rm' S)
    (hcode : Cond.code y bytes maxL ret' ∈ am_WS) (hini : Cond.initialized y.cls ∈ am_WS) (hlink : Cond.methodLink own index y ∈ am_WS) (hinst : Cond.instanceMethod y ∈ am_WS) (hsel : Cond.selects r9.1 y y ∈ am_WS) (hc : vwCl[ci]? = some r9) (hy : y.cls ≠ "java/lang/invoke/MethodHandle" ∧ y.cls ≠ "java/lang/invoke/VarHandle" ∧ (parseMethodDescriptor y.desc).map (fun d => d.parameters.length) = some na) (hRR : rm'.frames + 1 ≤ rm.frames ∧ 8 + (maxL + 11) + rm'.locals ≤ rm.locals) (hd : decode cc pc = .ok (.invokevirtual index, 3)) (hX : am_impX Xh (am_XG X pc)) (hk : am_imp k (am_G X (pc + 3))) : am_imp (o_callV ci (na + 1) S rm' rm Xh k) (am_G X pc) := by
  have hpre := @am_pre X cc own ret Ts
  have hback := @am_back X pc k Xh hk hX
  obtain ⟨p, l, e, R, s, m, args, below, meth, c, D, dA, ro, ad0, n0, nL, A, Q⟩ := X
  have F' := F
  obtain ⟨hx, hb, hml, hown, hts, hK, hA, hE, htr, hlk, hrt, hWS⟩ := F
  have hR : R = rm := hR
  subst hR
  intro ls st n E ca sl h ad H locs L h1 h2 h3 h4 h5 h6 h7 h8 h9 hca hsl
  obtain ⟨hrc, hna, hcat, ⟨hc1, hs1⟩, h⟩ := h
  obtain ⟨ha1, ha2⟩ := am_argsOf (na := na + 1) h4
  have hstk := am_stk (na := na + 1) (st := st) (ad := ad) (ro := ro)
  have hlen : ((st.take (na + 1)).reverse).length = na + 1 := by simp; omega
  generalize hargs : (st.take (na + 1)).reverse = as at hrc h ha1 hstk hlen
  split at hrc
  · rename_i b as'
    split at hrc
    · rename_i cb fs hbe
      subst hrc
      obtain ⟨hltb, hleb⟩ := (h3 b).2 _ hbe
      refine hback ad H locs L _ h1 h2 h3 ha2 h5 h7 h8 h9 hc1 hs1 hA (vx_runV (Ts := Ts) (nL := nL) (C := r9.1) (b := ad b) (As := as'.map (am_tr ad ro)) ⟨hx, hb, hml, hown, hts⟩ (hM l htr D dA ro ad n E H.size _ _ h3 ha1 h) ⟨am_cb (fun w hw => hts w (hWS w hw)) hcode hini hlink hy hRR, hts _ (hWS _ hinst), hts _ (hWS _ hsel)⟩ ⟨am_blind, va_recv hK h6 hc (am_w_at hltb hbe), hpre F' ad H locs h3 h6 h7 h8⟩ rfl (by simp at hlen; simp; omega) h9.1 ?_ (lv_room (by rw [am_cats]; exact hcat)) hd ⟨hc1, hs1⟩)
      show st.map (am_tr ad ro) = _
      rw [hstk]
      simp [am_tr]
    · exact hrc.elim
  · exact hrc.elim
theorem ms_callI {X : am_X} {cc : ByteArray} {own : String} {ret : Option FieldType} {Ts : List Cond} (F : am_F X cc own ret Ts) {pc : Nat} {k : am_C} {Xh : am_H} {rm rm' : Room} (hR : am_Rm X rm) {y : MethodName} {bytes : ByteArray} {maxL na index ci : Nat} {S : am_S} (hM : ∀ l : Launch, l.stackTraces = false → am_Ct l y (am_ws y bytes maxL none) rm' S)
    (hcode : Cond.code y bytes maxL none ∈ am_WS) (hini : Cond.initialized y.cls ∈ am_WS) (hlink : Cond.methodLink own index y ∈ am_WS) (hinst : Cond.instanceMethod y ∈ am_WS) (hyn : y.name = "<init>") (hy : y.cls ≠ "java/lang/invoke/MethodHandle" ∧ y.cls ≠ "java/lang/invoke/VarHandle" ∧ (parseMethodDescriptor y.desc).map (fun d => d.parameters.length) = some na) (hRR : rm'.frames + 1 ≤ rm.frames ∧ 8 + (maxL + 11) + rm'.locals ≤ rm.locals) (hd : decode cc pc = .ok (.invokespecial index, 3)) (hX : am_impX Xh (am_XG X pc)) (hk : am_imp k (am_G X (pc + 3))) : am_imp (o_callV ci (na + 1) S rm' rm Xh k) (am_G X pc) := by
  have hpre := @am_pre X cc own ret Ts
  have hback := @am_back X pc k Xh hk hX
  obtain ⟨p, l, e, R, s, m, args, below, meth, c, D, dA, ro, ad0, n0, nL, A, Q⟩ := X
  have F' := F
  obtain ⟨hx, hb, hml, hown, hts, hK, hA, hE, htr, hlk, hrt, hWS⟩ := F
  have hR : R = rm := hR
  subst hR
  intro ls st n E ca sl h ad H locs L h1 h2 h3 h4 h5 h6 h7 h8 h9 hca hsl
  obtain ⟨hrc, hna, hcat, ⟨hc1, hs1⟩, h⟩ := h
  obtain ⟨ha1, ha2⟩ := am_argsOf (na := na + 1) h4
  have hstk := am_stk (na := na + 1) (st := st) (ad := ad) (ro := ro)
  have hlen : ((st.take (na + 1)).reverse).length = na + 1 := by simp; omega
  generalize hargs : (st.take (na + 1)).reverse = as at hrc h ha1 hstk hlen
  split at hrc
  · rename_i b as'
    refine hback ad H locs L _ h1 h2 h3 ha2 h5 h7 h8 h9 hc1 hs1 hA (vx_runI (Ts := Ts) (nL := nL) (b := ad b) (As := as'.map (am_tr ad ro)) ⟨hx, hb, hml, hown, hts⟩ (hM l htr D dA ro ad n E H.size _ _ h3 ha1 h) ⟨am_cb (fun w hw => hts w (hWS w hw)) hcode hini hlink hy hRR, hyn, hts _ (hWS _ hinst)⟩ ⟨am_blind, hpre F' ad H locs h3 h6 h7 h8⟩ rfl (by simp at hlen; simp; omega) h9.1 ?_ (lv_room (by rw [am_cats]; exact hcat)) hd ⟨hc1, hs1⟩)
    show st.map (am_tr ad ro) = _
    rw [hstk]
    simp [am_tr]
  · exact hrc.elim
theorem ms_callIN {X : am_X} {cc : ByteArray} {own : String} {ret : Option FieldType} {Ts : List Cond} (F : am_F X cc own ret Ts) {pc : Nat} {k : am_C} {Xh : am_H} {rm rm' : Room} (hR : am_Rm X rm) {y : MethodName} {bytes : ByteArray} {maxL na index ci : Nat} {S : am_S} {host : String} (hM : ∀ l : Launch, l.stackTraces = false → am_Ct l y (am_ws y bytes maxL none) rm' S)
    (hcode : Cond.code y bytes maxL none ∈ am_WS) (hini : Cond.initialized y.cls ∈ am_WS) (hlink : Cond.methodLinkNest own index y host ∈ am_NW) (hinst : Cond.instanceMethod y ∈ am_WS) (hyn : y.name = "<init>") (hy : y.cls ≠ "java/lang/invoke/MethodHandle" ∧ y.cls ≠ "java/lang/invoke/VarHandle" ∧ (parseMethodDescriptor y.desc).map (fun d => d.parameters.length) = some na) (hRR : rm'.frames + 1 ≤ rm.frames ∧ 8 + (maxL + 11) + rm'.locals ≤ rm.locals) (hd : decode cc pc = .ok (.invokespecial index, 3)) (hX : am_impX Xh (am_XG X pc)) (hk : am_imp k (am_G X (pc + 3))) : am_imp (o_callV ci (na + 1) S rm' rm Xh k) (am_G X pc) := by
  have hpre := @am_pre X cc own ret Ts
  have hback := @am_back X pc k Xh hk hX
  obtain ⟨p, l, e, R, s, m, args, below, meth, c, D, dA, ro, ad0, n0, nL, A, Q⟩ := X
  have F' := F
  obtain ⟨hx, hb, hml, hown, hts, hK, hA, hE, htr, hlk, hrt, hWS⟩ := F
  have hR : R = rm := hR
  subst hR
  intro ls st n E ca sl h ad H locs L h1 h2 h3 h4 h5 h6 h7 h8 h9 hca hsl
  obtain ⟨hrc, hna, hcat, ⟨hc1, hs1⟩, h⟩ := h
  obtain ⟨ha1, ha2⟩ := am_argsOf (na := na + 1) h4
  have hstk := am_stk (na := na + 1) (st := st) (ad := ad) (ro := ro)
  have hlen : ((st.take (na + 1)).reverse).length = na + 1 := by simp; omega
  generalize hargs : (st.take (na + 1)).reverse = as at hrc h ha1 hstk hlen
  split at hrc
  · rename_i b as'
    refine hback ad H locs L _ h1 h2 h3 ha2 h5 h7 h8 h9 hc1 hs1 hA (vx_runIN (Ts := Ts) (nL := nL) (b := ad b) (As := as'.map (am_tr ad ro)) ⟨hx, hb, hml, hown, hts⟩ (hM l htr D dA ro ad n E H.size _ _ h3 ha1 h) ⟨am_cbN (fun w hw => hts w (hWS w hw)) hcode hini (hE.1 _ hlink) hy hRR, hyn, hts _ (hWS _ hinst)⟩ ⟨am_blind, hpre F' ad H locs h3 h6 h7 h8⟩ rfl (by simp at hlen; simp; omega) h9.1 ?_ (lv_room (by rw [am_cats]; exact hcat)) hd ⟨hc1, hs1⟩)
    show st.map (am_tr ad ro) = _
    rw [hstk]
    simp [am_tr]
  · exact hrc.elim
/-! ===== Math, static arrays ===== -/
def o_im (f : Int32 → Int32 → Int32) (k : am_C) : am_C := fun ls st n E ca sl => match st with
  | .int y :: .int x :: r => (r.map fun v => v.category).sum ≤ 8 ∧ k ls (.int (f x y) :: r) n E ca sl
  | _ => False
def o_ia (f : Int32 → Int32) (k : am_C) : am_C := fun ls st n E ca sl => match st with
  | .int x :: r => (r.map fun v => v.category).sum ≤ 8 ∧ k ls (.int (f x) :: r) n E ca sl
  | _ => False
def am_max (x y : Int32) : Int32 := if x < y then y else x
theorem ms_max {X : am_X} {cc : ByteArray} {own : String} {ret : Option FieldType} {Ts : List Cond} (F : am_F X cc own ret Ts) {pc index : Nat} {k : am_C} {rm : Room} (hR : am_Rm X rm) (hf : 1 ≤ rm.frames) (hlo : 21 ≤ rm.locals) (hw : Cond.methodLink own index Lib.Math.max.name ∈ Ts) (hs : Cond.static Lib.Math.max.name ∈ Ts) (hi : Cond.initialized "java/lang/Math" ∈ Ts) (hc : Cond.code Lib.Math.max.name Lib.Math.max.code 2 (some .int) ∈ Ts) (hd : decode cc pc = .ok (.invokestatic index, 3)) (hk : am_imp k (am_G X (pc + 3))) : am_imp (o_im am_max k) (am_G X pc) := by
  obtain ⟨p, l, e, R, s, m, args, below, meth, c, D, dA, ro, ad0, n0, nL, A, Q⟩ := X
  obtain ⟨hx, hb, hml, hown, hts, hK, hA, hE, htr, hlk, hrt, hWS⟩ := F
  have hR : R = rm := hR
  subst hR
  intro ls st n E ca sl h ad H locs L h1 h2 h3 h4 h5 h6 h7 h8 h9 hca hsl
  unfold o_im at h
  split at h
  · rename_i y x r
    obtain ⟨hcat, h⟩ := h
    exact va_mmax hx hb (hml.trans h9.1.symm) hown (hts _ hw) (hts _ hs) (hts _ hi) (hts _ hc) hf (by rw [am_cats]; omega) hca hsl hd (hk _ _ _ _ _ _ h ad H locs L h1 h2 h3 (am_cs trivial (am_tl (am_tl h4))) h5 h6 h7 h8 h9 hca hsl)
  · exact h.elim
def am_min (x y : Int32) : Int32 := if y < x then y else x
theorem ms_min {X : am_X} {cc : ByteArray} {own : String} {ret : Option FieldType} {Ts : List Cond} (F : am_F X cc own ret Ts) {pc index : Nat} {k : am_C} {rm : Room} (hR : am_Rm X rm) (hf : 1 ≤ rm.frames) (hlo : 21 ≤ rm.locals) (hw : Cond.methodLink own index Lib.Math.min.name ∈ Ts) (hs : Cond.static Lib.Math.min.name ∈ Ts) (hi : Cond.initialized "java/lang/Math" ∈ Ts) (hc : Cond.code Lib.Math.min.name Lib.Math.min.code 2 (some .int) ∈ Ts) (hd : decode cc pc = .ok (.invokestatic index, 3)) (hk : am_imp k (am_G X (pc + 3))) : am_imp (o_im am_min k) (am_G X pc) := by
  obtain ⟨p, l, e, R, s, m, args, below, meth, c, D, dA, ro, ad0, n0, nL, A, Q⟩ := X
  obtain ⟨hx, hb, hml, hown, hts, hK, hA, hE, htr, hlk, hrt, hWS⟩ := F
  have hR : R = rm := hR
  subst hR
  intro ls st n E ca sl h ad H locs L h1 h2 h3 h4 h5 h6 h7 h8 h9 hca hsl
  unfold o_im at h
  split at h
  · rename_i y x r
    obtain ⟨hcat, h⟩ := h
    exact va_mmin hx hb (hml.trans h9.1.symm) hown (hts _ hw) (hts _ hs) (hts _ hi) (hts _ hc) hf (by rw [am_cats]; omega) hca hsl hd (hk _ _ _ _ _ _ h ad H locs L h1 h2 h3 (am_cs trivial (am_tl (am_tl h4))) h5 h6 h7 h8 h9 hca hsl)
  · exact h.elim
def am_abs (x : Int32) : Int32 := if 0 ≤ x then x else 0 - x
theorem ms_abs {X : am_X} {cc : ByteArray} {own : String} {ret : Option FieldType} {Ts : List Cond} (F : am_F X cc own ret Ts) {pc index : Nat} {k : am_C} {rm : Room} (hR : am_Rm X rm) (hf : 1 ≤ rm.frames) (hlo : 21 ≤ rm.locals) (hw : Cond.methodLink own index Lib.Math.abs.name ∈ Ts) (hs : Cond.static Lib.Math.abs.name ∈ Ts) (hi : Cond.initialized "java/lang/Math" ∈ Ts) (hc : Cond.code Lib.Math.abs.name Lib.Math.abs.code 1 (some .int) ∈ Ts) (hd : decode cc pc = .ok (.invokestatic index, 3)) (hk : am_imp k (am_G X (pc + 3))) : am_imp (o_ia am_abs k) (am_G X pc) := by
  obtain ⟨p, l, e, R, s, m, args, below, meth, c, D, dA, ro, ad0, n0, nL, A, Q⟩ := X
  obtain ⟨hx, hb, hml, hown, hts, hK, hA, hE, htr, hlk, hrt, hWS⟩ := F
  have hR : R = rm := hR
  subst hR
  intro ls st n E ca sl h ad H locs L h1 h2 h3 h4 h5 h6 h7 h8 h9 hca hsl
  unfold o_ia at h
  split at h
  · rename_i x r
    obtain ⟨hcat, h⟩ := h
    exact va_mabs hx hb (hml.trans h9.1.symm) hown (hts _ hw) (hts _ hs) (hts _ hi) (hts _ hc) hf (by rw [am_cats]; omega) hca hsl hd (hk _ _ _ _ _ _ h ad H locs L h1 h2 h3 (am_cs trivial (am_tl h4)) h5 h6 h7 h8 h9 hca hsl)
  · exact h.elim
def o_gets (j : Nat) (k : am_C) : am_C := fun ls st n E ca sl => k ls (.retAddr j :: st) n E ca sl
/-! ===== a method's start ===== -/
def am_sl (as : List Value) : am_L := match as with
  | [] => []
  | v :: r => if v.category = 2 then some v :: none :: am_sl r else some v :: am_sl r
def am_inl (maxL : Nat) (as : List Value) : am_L := am_sl as ++ List.replicate (maxL - (am_sl as).length) none
theorem am_sl_at {as : List Value} {ad ro : Nat → Nat} : (lg_sl (as.map (am_tr ad ro))).length = (am_sl as).length ∧ ∀ (i : Nat) (v : Value), (am_sl as)[i]? = some (some v) → (lg_sl (as.map (am_tr ad ro)))[i]? = some (.val (am_tr ad ro v)) := by
  induction as with
  | nil => exact ⟨rfl, fun i v h => by simp [am_sl] at h⟩
  | cons w r ih =>
    obtain ⟨ih1, ih2⟩ := ih
    have e : lg_sl ((w :: r).map (am_tr ad ro)) = (if w.category = 2 then [.val (am_tr ad ro w), .second] else [.val (am_tr ad ro w)]) ++ lg_sl (r.map (am_tr ad ro)) := by
      simp [lg_sl, am_tr_cat]
    rw [e]
    by_cases hc : w.category = 2
    · rw [if_pos hc]
      simp only [am_sl, if_pos hc]
      refine ⟨by simp [ih1], fun i v h => ?_⟩
      match i, h with
      | 0, h => cases h; rfl
      | 1, h => cases h
      | i + 2, h => exact ih2 i v h
    · rw [if_neg hc]
      simp only [am_sl, if_neg hc]
      refine ⟨by simp [ih1], fun i v h => ?_⟩
      match i, h with
      | 0, h => cases h; rfl
      | i + 1, h => exact ih2 i v h
theorem am_inl_lt {n maxL : Nat} {as : List Value} (h : ∀ v ∈ as, am_lt n v) : ∀ v, some v ∈ am_inl maxL as → am_lt n v := by
  intro v hv
  rcases List.mem_append.mp hv with h1 | h1
  · have key : ∀ as : List Value, some v ∈ am_sl as → v ∈ as := by
      intro as
      induction as with
      | nil => intro q; simp [am_sl] at q
      | cons w r ih =>
        intro q
        by_cases hc : w.category = 2
        · simp [am_sl, hc] at q
          rcases q with q | q
          · exact List.mem_cons.mpr (Or.inl q)
          · exact List.mem_cons_of_mem _ (ih q)
        · simp [am_sl, hc] at q
          rcases q with q | q
          · exact List.mem_cons.mpr (Or.inl q)
          · exact List.mem_cons_of_mem _ (ih q)
    exact h v (key as h1)
  · have := List.eq_of_mem_replicate h1
    cases this
theorem am_inl_has {as : List Value} {ad ro : Nat → Nat} {maxL : Nat} (h : (am_sl as).length ≤ maxL) : am_has ad ro maxL ((lg_sl (as.map (am_tr ad ro)) ++ List.replicate (maxL - (lg_sl (as.map (am_tr ad ro))).length) Slot.unset).toArray) (am_inl maxL as) := by
  obtain ⟨e1, e2⟩ := am_sl_at (as := as) (ad := ad) (ro := ro)
  have hl := lv_entry (as.map (am_tr ad ro)) (n := maxL) (by rw [e1]; exact h)
  refine ⟨hl.1, hl.2.1, fun i v hv => ?_⟩
  unfold am_inl at hv
  by_cases hi : i < (am_sl as).length
  · rw [List.getElem?_append_left hi] at hv
    have h9 := e2 i v hv
    rw [List.getElem?_toArray, List.getElem?_append_left (by rw [e1]; exact hi)]
    exact h9
  · rw [List.getElem?_append_right (by omega)] at hv
    have := List.mem_of_getElem? hv
    have := List.eq_of_mem_replicate this
    cases this
theorem am_of {l : Launch} {y : MethodName} {cc : ByteArray} {maxL : Nat} {ret : Option FieldType} {rm : Room} {S : am_S} (htr : l.stackTraces = false) (hy : plainName y.cls = true) (hcode : Cond.code y cc maxL ret ∈ am_WS)
    (body : ∀ (X : am_X) (K : am_P), am_F X cc y.cls ret (am_ws y cc maxL ret) → am_FQ X K rm.cells rm.slots → am_Rm X rm → am_noT X → am_nL X = maxL → (y.name = "<init>" → am_ini X) → ∀ (as : List Value) (n : Nat) (E : am_E), S as n E K → (am_sl as).length ≤ maxL ∧ am_G X 0 (am_inl maxL as) [] n E 0 0) : am_Ct l y (am_ws y cc maxL ret) rm S := by
  intro D dA ro ad n E sz as K h3 hlt hS
  refine vx_ofW (cc := cc) (maxL := maxL) (ret := ret) hy rfl ?_
  intro p e s m args below meth c s₁ B hml htab hP
  obtain ⟨rfl, hsz, hP, hK, hD, hE⟩ := hP
  subst hsz
  have hts := atoms_spec (ws := am_ws y cc maxL ret) B.pre
  have hown : s.vm.findClass y.cls = some m.cls := findClass_of_methodNamed B.named
  have hin := (name_of_methodNamed B.named B.method).1
  obtain ⟨hle, g⟩ := body (p, l, e, rm, s, m, (as.map (am_tr ad ro)).toArray, below, meth, c, D, dA, ro, ad, n, maxL, am_A ad n s.heap.size, vx_MQ below (am_Qc D dA ro ad n s.heap.size K) (am_Xc D dA ro ad n s.heap.size K) (as.map (am_tr ad ro)).toArray s rm.cells rm.slots (am_A ad n s.heap.size)) K
    ⟨B.exec, B.bytes, hml, hown, hts, hK, fun q hq => Or.inr hq, hE, htr, B.notSynchronized, B.returns, fun w hw => List.mem_cons_of_mem _ hw⟩ ⟨rfl, rfl, rfl, rfl⟩ rfl htab rfl (fun q => hin.trans q) as n E hS
  have g2 := g ad s.heap [] _ (fun _ _ => rfl) (Nat.le_refl _) h3 (fun v hv => by cases hv) (am_inl_lt hlt) hP hD va_S.rf (am_inl_has hle) (Nat.zero_le _) (Nat.zero_le _)
  rw [lg_entry_eq]
  exact g2
end
section
def vn_six : ByteArray := ⟨#[0x2a, 0x2b, 0xb7, 0x00, 0x0d, 0xb1]⟩
theorem vn_six_0 : decode vn_six 0 = .ok (.aload_n 0, 1) := by decide +kernel
theorem vn_six_1 : decode vn_six 1 = .ok (.aload_n 1, 1) := by decide +kernel
theorem vn_six_2 : decode vn_six 2 = .ok (.invokespecial 13, 3) := by decide +kernel
theorem vn_six_5 : decode vn_six 5 = .ok (.return_, 1) := by decide +kernel
/-- the first constructor hands on by its own constant, the others as ever -/
def vn_chainAtoms (X : String) (names : List String) : List Cond := Bundle.passSAtoms X (names.headD Bundle.tN) 13 vn_six ++ (match names with
  | [] => []
  | Y :: r => Bundle.chainSAtoms Y r)
theorem vn_chain {args : Array Value} {s : State} {pl : Platform} (hpl : pl.magicAccessors = ({} : Platform).magicAccessors) {top : MethodId} (htop : s.methodNamed? (Bundle.initS Bundle.tN) = some top) (names : List String) (X : String) (hX : Bundle.fit X = true) (hn : ∀ n ∈ names, Bundle.fit n = true) (h : ∀ c ∈ vn_chainAtoms X names, c.before args s = true) :
    ∃ (P1 : PassC) (Ps : List PassC), Ps.length = names.length ∧ P1.LinksS pl s ∧ (∀ P, P ∈ Ps → P.LinksS pl s) ∧ s.methodNamed? (Bundle.initS X) = some P1.m ∧ P1.sup = firstOf top (Ps.map (·.toPassT)) ∧ PassesOn top (Ps.map (·.toPassT)) := by
  cases names with
  | nil =>
    obtain ⟨P, L, hm, hs⟩ := PassC.ofS_atoms (args := args) (s := s) hpl (X := X) (Y := Bundle.tN) (Bundle.fit_spec hX).1 (by decide) vn_six_0 vn_six_1 vn_six_2 vn_six_5 (fun c hc => h c (List.mem_append_left _ hc))
    exact ⟨P, [], rfl, L, (fun _ q => nomatch q), hm, Option.some.inj (hs.symm.trans htop), trivial⟩
  | cons Y r =>
    obtain ⟨P, L, hm, hs⟩ := PassC.ofS_atoms (args := args) (s := s) hpl (X := X) (Y := Y) (Bundle.fit_spec hX).1 (Bundle.fit_spec (hn Y List.mem_cons_self)).2 vn_six_0 vn_six_1 vn_six_2 vn_six_5 (fun c hc => h c (List.mem_append_left _ hc))
    obtain ⟨P', Ps, e, L', hL, hm', e1, e2⟩ := Bundle.chainS (args := args) hpl htop r Y (hn Y List.mem_cons_self) (fun n q => hn n (List.mem_cons_of_mem _ q)) (fun c hc => h c (List.mem_append_right _ hc))
    exact ⟨P, P' :: Ps, congrArg Nat.succ e, L, fun Q q => (List.mem_cons.mp q).elim (fun q => q ▸ L') (hL Q), hm, Option.some.inj (hs.symm.trans hm'), e1, e2⟩
/-- what is asked of the tables -/
def vn_rest (own : String) (ic : Nat) (X : String) : List Cond :=
  [Cond.methodLink own ic (Bundle.initS X), Cond.instantiable X 6, Cond.selects X Bundle.tFill0 Bundle.tFill0, Cond.selects X Bundle.tFill Bundle.tFill,
   Cond.lays X Bundle.tN "cause" "Ljava/lang/Throwable;", Cond.lays X Bundle.tN "stackTrace" Bundle.steD, Cond.lays X Bundle.tN "suppressedExceptions" Bundle.listD, Cond.lays X Bundle.tN "detailMessage" "Ljava/lang/String;", Cond.lays X Bundle.tN "backtrace" "Ljava/lang/Object;", Cond.lays Bundle.tN Bundle.tN "backtrace" "Ljava/lang/Object;", Cond.fieldLink Bundle.tN 198 Bundle.tN "backtrace" "Ljava/lang/Object;",
   Cond.isRef (.static Bundle.tN "UNASSIGNED_STACK" Bundle.steD), Cond.isRef (.static Bundle.tN "SUPPRESSED_SENTINEL" Bundle.listD)]
def vn_atoms (own : String) (ic : Nat) (X : String) (names : List String) : List Cond := Bundle.throwableAtoms ++ Bundle.throwableSAtoms ++ vn_chainAtoms X names ++ vn_rest own ic X
def vn_atS (own : String) (ic : Nat) (X : String) (names : List String) : List Cond := (vn_atoms own ic X names).filter vx_no
section VNK
variable {p : Program} {l : Launch} {e : Env} {R : Room} {s : State} {m₀ : MethodId} {args : Array Value} {below : List Frame} {meth : Method} {c : Code} {W : State} {locs : List Loc} {cells slots : Nat}
set_option maxHeartbeats 1000000 in
theorem vn_ctorMadeS (X : Stand p l e R s m₀ args below meth c W locs cells slots) (hexec : p.tables.exec = Jvm.exec) (htr : e.platform.stackTraces = false) {own cls : String} {names : List String} {ic : Nat}
    (hown : s.vm.findClass own = some m₀.cls) (hcls : Bundle.fit cls = true) (hnames : ∀ n ∈ names, Bundle.fit n = true)
    (h : ∀ a ∈ vn_atoms own ic cls names, a.before args s = true)
    (hlocs : ∀ x ∈ locs, ∀ cell, s.heap[x.base]? = some cell → cell.vm.isStatics = false)
    {a : Addr} {cX : ClassId} {kX : Class} (hfoundX : s.vm.findClass cls = some cX) (hkX : s.vm.classes[cX]? = some kX) (hcell : W.heap[a]? = some (freshCell cX kX)) (hnew : s.heap.size ≤ a)
    {msg : Value} (hmsg : msg.isRef = true)
    {g : JFrame} (hg : g.method = m₀) (hsize : g.locals.size = c.maxLocals) {rest : List Value} (hstack : g.stack = msg :: .ref a :: .ref a :: rest)
    (hd6 : decode c.code g.pc = .ok (.invokespecial ic, 3))
    (hRframes : names.length + 3 < R.frames) (hRlocals : 2 * g.monitorRoom + ((Value.ref a :: rest).map fun v => v.category).sum + (13 * (names.length + 1) + 42) ≤ R.locals) :
    ∃ (V : State) (ce : Cell) (L : List Loc), Stand p l e R s m₀ args below meth c (V.setCell a ce) (locs ++ L) cells slots ∧ (∀ y ∈ L, y.base = a) ∧ a < V.heap.size ∧ ce.cls = cX ∧ ce.vm = .none ∧
      ∀ target, Steps p.tables e below ((V.setCell a ce).setTop { g with stack := .ref a :: rest, pc := g.pc + 3 }) target → Steps p.tables e below (W.setTop g) target := by
  have howns : e.platform.frameOwnsMonitors = true := by rw [X.admits.platform]
  have hfin : e.platform.finalization = false := by rw [X.admits.platform]
  have hpl : e.platform.magicAccessors = ({} : Platform).magicAccessors := by rw [X.admits.platform]
  have a' : ∀ x, x ∈ vn_atoms own ic cls names → x.holds args s none s [] = true := fun x hx => h x hx
  obtain ⟨T, Z0, L, -, Y⟩ := ThrowableC.of_atoms (args := args) howns hfin hpl (fun x hx => h x (by simp [vn_atoms, vn_rest, hx]))
  obtain ⟨Z, M, LZ, LM, hnZ⟩ := Init0T.ofS_atoms (args := args) hpl L Y (fun x hx => h x (by simp [vn_atoms, vn_rest, hx]))
  obtain ⟨P1, Ps, hlen, L1, hL, hP1m, hlink1, hlink⟩ := vn_chain (args := args) hpl hnZ names cls hcls hnames (fun x hx => h x (by simp [vn_atoms, vn_rest, hx]))
  have hfound : s.vm.findClass cls = some P1.m.cls := findClass_of_methodNamed hP1m
  cases Option.some.inj (hfoundX.symm.trans hfound)
  obtain ⟨c1, kX', hc1, hk, hord, -, -, hn6⟩ := Cond.instantiable_spec (a' (.instantiable cls 6) (by simp [vn_atoms, vn_rest]))
  cases Option.some.inj (hc1.symm.trans hfound)
  cases Option.some.inj (hkX.symm.trans hk)
  have hsel0 : selectMethod e.platform s.vm P1.m.cls T.fill0 = .method T.fill0 := by
    obtain ⟨c2, r2, m2, q1, q2, q3, q4, -⟩ := Cond.selects_spec (a' (.selects cls Bundle.tFill0 Bundle.tFill0) (by simp [vn_atoms, vn_rest]))
    cases Option.some.inj (q1.symm.trans hfound)
    cases Option.some.inj (q2.symm.trans (State.methodFound?_of_named Y.fill0 (by decide)))
    cases Option.some.inj (q3.symm.trans Y.fill0)
    rw [Launch.admits_selectMethod X.admits]; exact q4
  have hselF : selectMethod e.platform s.vm P1.m.cls T.fill = .method T.fill := by
    obtain ⟨c2, r2, m2, q1, q2, q3, q4, -⟩ := Cond.selects_spec (a' (.selects cls Bundle.tFill Bundle.tFill) (by simp [vn_atoms, vn_rest]))
    cases Option.some.inj (q1.symm.trans hfound)
    cases Option.some.inj (q2.symm.trans (State.methodFound?_of_named Y.fill (by decide)))
    cases Option.some.inj (q3.symm.trans Y.fill)
    rw [Launch.admits_selectMethod X.admits]; exact q4
  obtain ⟨cellS0, hcS0, hiss⟩ := Y.statics
  obtain ⟨u0, hu0⟩ := Cond.staticRefV Y.unassigned L.unassignedStatic L.statics hcS0 hiss (a' (.isRef (.static Bundle.tN "UNASSIGNED_STACK" Bundle.steD)) (by simp [vn_atoms, vn_rest]))
  obtain ⟨sen, hsen⟩ := Cond.staticRefV Y.sentinel L.sentinelStatic L.statics hcS0 hiss (a' (.isRef (.static Bundle.tN "SUPPRESSED_SENTINEL" Bundle.listD)) (by simp [vn_atoms, vn_rest]))
  obtain ⟨ci198, i198, fB, hk198, hg198, ha198, hsB, -, hnB, htB, hffB⟩ := Cond.ownField (t := .object "java/lang/Object") Y.found L.cls (by decide +kernel) (a' (.fieldLink Bundle.tN 198 Bundle.tN "backtrace" "Ljava/lang/Object;") (by simp [vn_atoms, vn_rest])) (a' (.lays Bundle.tN Bundle.tN "backtrace" "Ljava/lang/Object;") (by simp [vn_atoms, vn_rest])) e.platform hpl
  obtain ⟨cellS, hcS', heS, -, hkeep⟩ := X.same.2.2.2.2.2 T.aS cellS0 hcS0
  have hcellS : W.heap[T.aS]? = some cellS := hcS'
  have hout' : ∀ i, (⟨T.aS, i⟩ : Loc) ∉ locs := fun i hmem => by
    have := hlocs _ hmem cellS0 hcS0
    rw [hiss] at this; cases this
  have hknownS : cellS.vm ≠ .unknown := by
    rw [heS]; intro hu
    rw [show cellS0.vm = .unknown from hu] at hiss
    cases hiss
  have hneS : T.aS ≠ a := Nat.ne_of_lt (Nat.lt_of_lt_of_le (Array.getElem?_eq_some_iff.mp hcS0).1 hnew)
  obtain ⟨iM, hffM⟩ := Y.msg
  obtain ⟨tyC, dC, hdC, hdnC⟩ := Cond.laysAt hfound hk Y.cause (a' (.lays cls Bundle.tN "cause" "Ljava/lang/Throwable;") (by simp [vn_atoms, vn_rest]))
  obtain ⟨tyS, dS, hdS, hdnS⟩ := Cond.laysAt hfound hk Y.stack (a' (.lays cls Bundle.tN "stackTrace" Bundle.steD) (by simp [vn_atoms, vn_rest]))
  obtain ⟨tyP, dP, hdP, hdnP⟩ := Cond.laysAt hfound hk Y.supp (a' (.lays cls Bundle.tN "suppressedExceptions" Bundle.listD) (by simp [vn_atoms, vn_rest]))
  obtain ⟨tyM, dM, hdM, hdnM⟩ := Cond.laysAt hfound hk hffM (a' (.lays cls Bundle.tN "detailMessage" "Ljava/lang/String;") (by simp [vn_atoms, vn_rest]))
  obtain ⟨tyB, dB, hdB, hdnB⟩ := Cond.laysAt hfound hk hffB (a' (.lays cls Bundle.tN "backtrace" "Ljava/lang/Object;") (by simp [vn_atoms, vn_rest]))
  have bC := Cond.laysApart hdB hdC hdnB hdnC (by rw [hnB, Y.causeName]; decide)
  have bS := Cond.laysApart hdB hdS hdnB hdnS (by rw [hnB, Y.stackName]; decide)
  have bP := Cond.laysApart hdB hdP hdnB hdnP (by rw [hnB, Y.suppName]; decide)
  have hskip : SkipFacts T e.platform s (fun u => u) u0 ((preparedCellV T.toThrowableT (freshCell P1.m.cls kX) a u0 sen).withEntry W.cur) :=
    ⟨{ ci198 := ci198, i198 := i198, fBack := fB }, ⟨hk198, hg198, ha198, hsB⟩, by
      have := fresh_default (c := P1.m.cls) tyB
      rw [htB] at this
      simpa [preparedCellV, Cell.setSlot, Cell.withEntry, Array.getElem?_setIfInBounds, bC, bS, bP, bC.symm, bS.symm, bP.symm, defaultValue] using this, fun _ _ => rfl⟩
  obtain ⟨tm, methC, cdC, kC, vm₁, hnC, -, -, -, -, -, -, -, hW₁, st1⟩ := Steps.initColdS (tb := p.tables) (e := e) (below := below) (s := s) (U := W) X.here hexec X.warmed hpl hown (t := Bundle.initS cls) rfl rfl (Bundle.fit_spec hcls).2
    (a' (.methodLink own ic (Bundle.initS cls)) (by simp [vn_atoms, vn_rest])) (h (.instanceMethod (Bundle.initS cls)) (by simp [vn_atoms, vn_rest, vn_chainAtoms, Bundle.passSAtoms])) (bytes := vn_six) (maxL := 2) (h (.code (Bundle.initS cls) vn_six 2 none) (by simp [vn_atoms, vn_rest, vn_chainAtoms, Bundle.passSAtoms]))
    (f := g) hg (a := a) (msg := msg) (rest := .ref a :: rest) hstack hd6
  cases Option.some.inj (hnC.symm.trans hP1m)
  have X₁ := X.noted hW₁
  obtain ⟨vm₂, X₂, st2⟩ := X₁.ctorMessageOffV hexec (g := { g with stack := .ref a :: rest }) hg hsize T L Z LZ M LM (P1 :: Ps)
    (fun P hP => by rcases List.mem_cons.mp hP with rfl | hP; exact L1; exact hL P hP) ⟨hlink1, hlink⟩ (u0 := u0) (sen := sen) (self := a) hmsg (cell := freshCell P1.m.cls kX) (cellS := cellS)
    hcell (fun _ => by simp) (by simp) rfl rfl hsel0 hselF hcellS hneS hknownS (by rw [hkeep _ (hout' _)]; exact hu0) (by rw [hkeep _ (hout' _)]; exact hsen)
    (Takes.of_laid hk hord tyC (by rw [Y.causeType]; rfl)) (Takes.of_laid hk hord tyS (by rw [Y.stackType]; exact fits_refV_array _ u0)) (Takes.of_laid hk hord tyP (by rw [Y.suppType]; exact fits_refV_object _ sen))
    (Takes.of_laid hk hord tyM (by rw [Y.msgType]; exact fits_refV_object _ ⟨msg, hmsg⟩)) Y.objLocals hskip htr [] hd6
    (by simp only [List.length_cons, hlen]; omega) (by simp only [List.length_cons, hlen]; exact hRlocals)
  have hlt : a < ((W.setVm vm₁).setVm vm₂).heap.size := (Array.getElem?_eq_some_iff.mp hcell).1
  refine ⟨(W.setVm vm₁).setVm vm₂, _, _, X₂, fun y hy => ?_, hlt, rfl, rfl, fun target hwalk => st1 _ (fun acts => ?_)⟩
  · simp only [List.mem_cons, List.not_mem_nil, or_false] at hy
    rcases hy with rfl | rfl | rfl | rfl | rfl <;> rfl
  · rw [doInvoke_state]
    exact st2 _ hwalk
end VNK
section VNT
variable {p : Program} {l : Launch} {e : Env} {R : Room} {s : State} {m : MethodId} {args : Array Value} {below : List Frame} {meth : Method} {c : Code} {H : Heap} {locs : List Loc} {cells slots : Nat} {Q : State → Prop}
variable {mc ms : Nat} {free : Addr → Prop} {A0 A1 : Nat → Prop} {H0 : Heap} {a : Array Value} {ls : Array Slot} {st0 rest : List Value}
variable {Qc : Array Value → State → Outcome → State → Prop} {XC : String → State → State → Prop}
theorem vn_throwS {cc : ByteArray} {pc : Nat} (hexec : p.tables.exec = Jvm.exec) (hb : c.code = cc) (hl : l.stackTraces = false) {own cls text : String} {names : List String} {ik is ic mc ms sa : Nat} {A : Nat → Prop}
    (hown : s.vm.findClass own = some m.cls) (hcls : Bundle.fit cls = true) (hnames : ∀ n ∈ names, Bundle.fit n = true)
    (hk : (Cond.classLink own ik cls).before args s = true) (hini : (Cond.initialized cls).before args s = true) (hstr : vk_R own is text sa s) (hat : ∀ w ∈ vn_atS own ic cls names, w.before args s = true)
    (hgood : ∀ w ∈ Cond.classLink own ik cls :: Cond.initialized cls :: vn_atS own ic cls names, vx_ot w = true)
    (hU : vx_Zq Bundle.tN "UNASSIGNED_STACK" Bundle.steD A s s.heap) (hN : vx_Zq Bundle.tN "SUPPRESSED_SENTINEL" Bundle.listD A s s.heap) (hS : va_S A s.heap H locs) (hsize : ls.size = c.maxLocals)
    (d0 : decode cc pc = .ok (.new ik, 3)) (d3 : decode cc (pc + 3) = .ok (.dup, 1)) (d4 : decode cc (pc + 4) = .ok (.ldc is, 2)) (d6 : decode cc (pc + 6) = .ok (.invokespecial ic, 3)) (d9 : decode cc (pc + 9) = .ok (.athrow, 1))
    (hout : ∀ x ∈ c.exceptionTable.toList, covers x (pc + 9) = false)
    (hRframes : names.length + 3 < R.frames) (hRlocals : (rest.map fun v => v.category).sum + (13 * (names.length + 1) + 43) ≤ R.locals) (hRcells : cells + 1 ≤ R.cells) (hRslots : slots + 6 ≤ R.slots) (hlocks : meth.locks = false)
    (hx : ∀ t : State, s.vm.Alike t.vm → H.size ≤ t.heap.size → (∀ q : Nat, q < H.size → t.heap[q]? = H[q]?) → XC cls s t)
    (hf : ∀ z ∈ locs, free z.base) (hc : cells + 1 ≤ mc) (hs : slots + 6 ≤ ms) :
    W p l e R s m args below meth c H locs cells slots (vx_MQ below Qc XC args s mc ms free) (F0 m pc ls rest) := by
  intro T hT X
  have htr : e.platform.stackTraces = false := (show e.platform.stackTraces = l.stackTraces by rw [X.admits.platform]).trans hl
  have Y := vx_rebase X (R' := { frames := R.frames, locals := R.locals, cells := 1, slots := 6 }) (Nat.le_refl _) (Nat.le_refl _) hRcells hRslots
  obtain ⟨s', hA⟩ : ∃ z, z = (T.setVm s.vm).setFrames (.invoking m args :: below) := ⟨_, rfl⟩
  rw [← hA] at Y
  have hvm : s'.vm = s.vm := by rw [hA]; rfl
  have hhp : s'.heap = H := by rw [hA]; exact hT
  have hW0 : s.WarmedH s'.vm := by rw [hvm]; exact State.WarmedH.refl s
  have hat' : ∀ w ∈ vn_atS own ic cls names, w.before args s' = true := fun w hw => vx_ot_at hW0 hvm.symm (hgood w (List.mem_cons_of_mem _ (List.mem_cons_of_mem _ hw))) (hat w hw)
  have hk' : (Cond.classLink own ik cls).before args s' = true := vx_ot_at hW0 hvm.symm (hgood _ List.mem_cons_self) hk
  have hini' : (Cond.initialized cls).before args s' = true := vx_ot_at hW0 hvm.symm (hgood _ (List.mem_cons_of_mem _ List.mem_cons_self)) hini
  have hU' : vx_Zq Bundle.tN "UNASSIGNED_STACK" Bundle.steD A s' s'.heap := by rw [hhp]; exact vx_Zq.moved hW0.alike (hU.kept hS.2.1)
  have hN' : vx_Zq Bundle.tN "SUPPRESSED_SENTINEL" Bundle.listD A s' s'.heap := by rw [hhp]; exact vx_Zq.moved hW0.alike (hN.kept hS.2.1)
  have h : ∀ w ∈ vn_atoms own ic cls names, w.before args s' = true := vx_own hat' (vx_isRefq hU'.1) (vx_isRefq hN'.1) hU'.2.word hN'.2.word
  have hown' : s'.vm.findClass own = some m.cls := by rw [hvm]; exact hown
  have hins : (Cond.instantiable cls 6).before args s' = true := h _ (by simp [vn_atoms, vn_rest])
  obtain ⟨vm₁, cX, kX, hfX, hkX, -, -, X₁, st1⟩ := Y.newCold hexec (own := own) (C := cls) (index := ik) (n := 6) hown' hk' hins hini'
    (g := F0 m pc ls rest) rfl (by rw [hb]; exact d0) (Nat.le_refl _) (Nat.le_refl _)
  generalize hT1 : (T.setVm vm₁).pushCell { cls := cX, slots := kX.instanceTypes.map defaultValue, vm := .none } = T1 at X₁ st1
  have hcat : (Value.ref T.heap.size).category = 1 := rfl
  have hcellA : T1.heap[T.heap.size]? = some (freshCell cX kX) := by rw [← hT1]; exact State.heap_pushCell_size _ _
  have d3' : decode c.code (pc + 3) = .ok (.dup, 1) := by rw [hb]; exact d3
  have d4' : decode c.code (pc + 4) = .ok (.ldc is, 2) := by rw [hb]; exact d4
  have hstr' : vk_R own is text sa s' := vk_R.warm hW0 hstr
  obtain ⟨V, ce, L9, Z, hL, hlt, hcl9, hvm9, st⟩ := vn_ctorMadeS X₁ hexec htr (own := own) (cls := cls) (names := names) (ic := ic) hown' hcls hnames h (fun x hx => nomatch hx) hfX hkX hcellA (by rw [hhp, hT]; exact Nat.le_refl _) (msg := .ref sa) rfl
    (g := { method := m, pc := pc + 6, locals := ls, stack := .ref sa :: .ref T.heap.size :: .ref T.heap.size :: rest, locked := none }) rfl hsize (rest := rest) rfl
    (by rw [hb]; exact d6) hRframes (by simp only [List.map_cons, List.sum_cons, hcat]; omega)
  have Z0 := Stand.forget (locs := []) Z (fun y hy => by rw [hL y hy, hhp, hT]; exact Nat.le_refl _)
  obtain ⟨hwalk, hrun, hend, hW, hsame⟩ := Z0.athrowLeaves hexec (g := { method := m, pc := pc + 6 + 3, locals := ls, stack := .ref T.heap.size :: rest, locked := none }) rfl rfl rfl hout (a := T.heap.size) (rest := rest) rfl (by rw [hb]; exact d9)
  obtain ⟨U, hUe⟩ : ∃ z, z = (V.setCell T.heap.size ce).setFrames (.throwing T.heap.size :: below) := ⟨_, rfl⟩
  rw [← hUe] at hwalk hrun hend hW hsame
  have hce : U.heap[T.heap.size]? = some ce := by rw [hUe]; exact heapAt_setCell_self (s := V) ce hlt
  have hsteps := st _ hwalk
  obtain ⟨f1, f2⟩ := vx_frame hsame
  rw [hhp] at f1 f2
  have hWs : s.WarmedH U.vm := State.WarmedH.trans hW0 hW
  have hcl : s.vm.findClass cls = some ce.cls := by
    have h9 : s'.vm.findClass cls = some ce.cls := by rw [hcl9]; exact hfX
    rw [hvm] at h9
    exact h9
  have hall : s.sameButNew ({ U with vm := s.vm } : State) locs mc ms := by
    subst hA
    obtain ⟨e1, e2⟩ := hsame
    rw [State.setFrames_setFrames] at e1
    have h2 : (T.setVm s.vm).sameButNew ({ U with vm := s.vm } : State) [] (0 + 1) (0 + 6) := ⟨e1, e2⟩
    have h3 := X.same.trans h2
    rw [List.append_nil] at h3
    exact h3.mono hc hs
  refine ⟨U, ?_, .threw T.heap.size, hrun, hend, Or.inr ⟨T.heap.size, rfl, cls, ce, locs, hx U hWs.alike f1 (fun q hq => f2 q hq (fun z hz => nomatch hz)), hce, hvm9, hcl, hWs, hall, hf⟩⟩
  refine st1 _ ?_
  show Steps p.tables e below (T1.setTop { method := m, pc := pc + 3, locals := ls, stack := .ref T.heap.size :: rest, locked := none }) _
  jvm_step X₁.here [X₁.here.top, hexec, d3', Value.category]
  exact X₁.ldcString hexec (own := own) (text := text) (index := is) (a := sa) hown' hstr'.1 hstr'.2
    (g := { method := m, pc := pc + 4, locals := ls, stack := .ref T.heap.size :: .ref T.heap.size :: rest, locked := none }) rfl d4' _ hsteps
theorem vn_throwSW {cc : ByteArray} {pc : Nat} (hexec : p.tables.exec = Jvm.exec) (hb : c.code = cc) (hl : l.stackTraces = false) {own cls text : String} {names : List String} {ik is ic mc ms sa : Nat} {A : Nat → Prop}
    (hown : s.vm.findClass own = some m.cls) (hcls : Bundle.fit cls = true) (hnames : ∀ n ∈ names, Bundle.fit n = true)
    (hk : (Cond.classLink own ik cls).before args s = true) (hini : (Cond.initialized cls).before args s = true) (hstr : vk_R own is text sa s) (hat : ∀ w ∈ vn_atS own ic cls names, w.before args s = true)
    (hgood : ∀ w ∈ Cond.classLink own ik cls :: Cond.initialized cls :: vn_atS own ic cls names, vx_ot w = true)
    (hU : vx_Zq Bundle.tN "UNASSIGNED_STACK" Bundle.steD A s s.heap) (hN : vx_Zq Bundle.tN "SUPPRESSED_SENTINEL" Bundle.listD A s s.heap) (hS : va_S A s.heap H locs) (hsize : ls.size = c.maxLocals)
    (d0 : decode cc pc = .ok (.new ik, 3)) (d3 : decode cc (pc + 3) = .ok (.dup, 1)) (d4 : decode cc (pc + 4) = .ok (.ldc_w is, 3)) (d7 : decode cc (pc + 7) = .ok (.invokespecial ic, 3)) (d10 : decode cc (pc + 10) = .ok (.athrow, 1))
    (hout : ∀ x ∈ c.exceptionTable.toList, covers x (pc + 10) = false)
    (hRframes : names.length + 3 < R.frames) (hRlocals : (rest.map fun v => v.category).sum + (13 * (names.length + 1) + 43) ≤ R.locals) (hRcells : cells + 1 ≤ R.cells) (hRslots : slots + 6 ≤ R.slots) (hlocks : meth.locks = false)
    (hx : ∀ t : State, s.vm.Alike t.vm → H.size ≤ t.heap.size → (∀ q : Nat, q < H.size → t.heap[q]? = H[q]?) → XC cls s t)
    (hf : ∀ z ∈ locs, free z.base) (hc : cells + 1 ≤ mc) (hs : slots + 6 ≤ ms) :
    W p l e R s m args below meth c H locs cells slots (vx_MQ below Qc XC args s mc ms free) (F0 m pc ls rest) := by
  intro T hT X
  have htr : e.platform.stackTraces = false := (show e.platform.stackTraces = l.stackTraces by rw [X.admits.platform]).trans hl
  have Y := vx_rebase X (R' := { frames := R.frames, locals := R.locals, cells := 1, slots := 6 }) (Nat.le_refl _) (Nat.le_refl _) hRcells hRslots
  obtain ⟨s', hA⟩ : ∃ z, z = (T.setVm s.vm).setFrames (.invoking m args :: below) := ⟨_, rfl⟩
  rw [← hA] at Y
  have hvm : s'.vm = s.vm := by rw [hA]; rfl
  have hhp : s'.heap = H := by rw [hA]; exact hT
  have hW0 : s.WarmedH s'.vm := by rw [hvm]; exact State.WarmedH.refl s
  have hat' : ∀ w ∈ vn_atS own ic cls names, w.before args s' = true := fun w hw => vx_ot_at hW0 hvm.symm (hgood w (List.mem_cons_of_mem _ (List.mem_cons_of_mem _ hw))) (hat w hw)
  have hk' : (Cond.classLink own ik cls).before args s' = true := vx_ot_at hW0 hvm.symm (hgood _ List.mem_cons_self) hk
  have hini' : (Cond.initialized cls).before args s' = true := vx_ot_at hW0 hvm.symm (hgood _ (List.mem_cons_of_mem _ List.mem_cons_self)) hini
  have hU' : vx_Zq Bundle.tN "UNASSIGNED_STACK" Bundle.steD A s' s'.heap := by rw [hhp]; exact vx_Zq.moved hW0.alike (hU.kept hS.2.1)
  have hN' : vx_Zq Bundle.tN "SUPPRESSED_SENTINEL" Bundle.listD A s' s'.heap := by rw [hhp]; exact vx_Zq.moved hW0.alike (hN.kept hS.2.1)
  have h : ∀ w ∈ vn_atoms own ic cls names, w.before args s' = true := vx_own hat' (vx_isRefq hU'.1) (vx_isRefq hN'.1) hU'.2.word hN'.2.word
  have hown' : s'.vm.findClass own = some m.cls := by rw [hvm]; exact hown
  have hins : (Cond.instantiable cls 6).before args s' = true := h _ (by simp [vn_atoms, vn_rest])
  obtain ⟨vm₁, cX, kX, hfX, hkX, -, -, X₁, st1⟩ := Y.newCold hexec (own := own) (C := cls) (index := ik) (n := 6) hown' hk' hins hini'
    (g := F0 m pc ls rest) rfl (by rw [hb]; exact d0) (Nat.le_refl _) (Nat.le_refl _)
  generalize hT1 : (T.setVm vm₁).pushCell { cls := cX, slots := kX.instanceTypes.map defaultValue, vm := .none } = T1 at X₁ st1
  have hcat : (Value.ref T.heap.size).category = 1 := rfl
  have hcellA : T1.heap[T.heap.size]? = some (freshCell cX kX) := by rw [← hT1]; exact State.heap_pushCell_size _ _
  have d3' : decode c.code (pc + 3) = .ok (.dup, 1) := by rw [hb]; exact d3
  have d4' : decode c.code (pc + 4) = .ok (.ldc_w is, 3) := by rw [hb]; exact d4
  have hstr' : vk_R own is text sa s' := vk_R.warm hW0 hstr
  obtain ⟨V, ce, L9, Z, hL, hlt, hcl9, hvm9, st⟩ := vn_ctorMadeS X₁ hexec htr (own := own) (cls := cls) (names := names) (ic := ic) hown' hcls hnames h (fun x hx => nomatch hx) hfX hkX hcellA (by rw [hhp, hT]; exact Nat.le_refl _) (msg := .ref sa) rfl
    (g := { method := m, pc := pc + 7, locals := ls, stack := .ref sa :: .ref T.heap.size :: .ref T.heap.size :: rest, locked := none }) rfl hsize (rest := rest) rfl
    (by rw [hb]; exact d7) hRframes (by simp only [List.map_cons, List.sum_cons, hcat]; omega)
  have Z0 := Stand.forget (locs := []) Z (fun y hy => by rw [hL y hy, hhp, hT]; exact Nat.le_refl _)
  obtain ⟨hwalk, hrun, hend, hW, hsame⟩ := Z0.athrowLeaves hexec (g := { method := m, pc := pc + 7 + 3, locals := ls, stack := .ref T.heap.size :: rest, locked := none }) rfl rfl rfl hout (a := T.heap.size) (rest := rest) rfl (by rw [hb]; exact d10)
  obtain ⟨U, hUe⟩ : ∃ z, z = (V.setCell T.heap.size ce).setFrames (.throwing T.heap.size :: below) := ⟨_, rfl⟩
  rw [← hUe] at hwalk hrun hend hW hsame
  have hce : U.heap[T.heap.size]? = some ce := by rw [hUe]; exact heapAt_setCell_self (s := V) ce hlt
  have hsteps := st _ hwalk
  obtain ⟨f1, f2⟩ := vx_frame hsame
  rw [hhp] at f1 f2
  have hWs : s.WarmedH U.vm := State.WarmedH.trans hW0 hW
  have hcl : s.vm.findClass cls = some ce.cls := by
    have h9 : s'.vm.findClass cls = some ce.cls := by rw [hcl9]; exact hfX
    rw [hvm] at h9
    exact h9
  have hall : s.sameButNew ({ U with vm := s.vm } : State) locs mc ms := by
    subst hA
    obtain ⟨e1, e2⟩ := hsame
    rw [State.setFrames_setFrames] at e1
    have h2 : (T.setVm s.vm).sameButNew ({ U with vm := s.vm } : State) [] (0 + 1) (0 + 6) := ⟨e1, e2⟩
    have h3 := X.same.trans h2
    rw [List.append_nil] at h3
    exact h3.mono hc hs
  refine ⟨U, ?_, .threw T.heap.size, hrun, hend, Or.inr ⟨T.heap.size, rfl, cls, ce, locs, hx U hWs.alike f1 (fun q hq => f2 q hq (fun z hz => nomatch hz)), hce, hvm9, hcl, hWs, hall, hf⟩⟩
  refine st1 _ ?_
  show Steps p.tables e below (T1.setTop { method := m, pc := pc + 3, locals := ls, stack := .ref T.heap.size :: rest, locked := none }) _
  jvm_step X₁.here [X₁.here.top, hexec, d3', Value.category]
  exact X₁.ldcStringW hexec (own := own) (text := text) (index := is) (a := sa) hown' hstr'.1 hstr'.2
    (g := { method := m, pc := pc + 4, locals := ls, stack := .ref T.heap.size :: .ref T.heap.size :: rest, locked := none }) rfl d4' _ hsteps
end VNT
theorem ms_throwN {X : am_X} {cc : ByteArray} {own : String} {ret : Option FieldType} {Ts : List Cond} (F : am_F X cc own ret Ts) {pc : Nat} {K : am_P} {rm : Room} (hR : am_Rm X rm) (FQ : am_FQ X K rm.cells rm.slots) (hT : am_noT X) (hf : 5 < rm.frames) (hlo : 82 ≤ rm.locals) {cls text : String} {n1 n2 : String} {ik is ic : Nat} (hcls : Bundle.fit cls = true) (hnames : ∀ n ∈ [n1, n2], Bundle.fit n = true)
    (hk : Cond.classLink own ik cls ∈ Ts) (hini : Cond.initialized cls ∈ Ts) (hstr : (own, is, text) ∈ am_SR) (hat : ∀ w ∈ vn_atS own ic cls [n1, n2], w ∈ am_WS ∨ w ∈ am_NW) (hgood : ∀ w ∈ Cond.classLink own ik cls :: Cond.initialized cls :: vn_atS own ic cls [n1, n2], vx_ot w = true)
    (d0 : decode cc pc = .ok (.new ik, 3)) (d3 : decode cc (pc + 3) = .ok (.dup, 1)) (d4 : decode cc (pc + 4) = .ok (.ldc is, 2)) (d6 : decode cc (pc + 6) = .ok (.invokespecial ic, 3)) (d9 : decode cc (pc + 9) = .ok (.athrow, 1)) : am_imp (o_throw cls rm.cells rm.slots K) (am_G X pc) := by
  obtain ⟨p, l, e, R, s, m, args, below, meth, c, D, dA, ro, ad0, n0, nL, A, Q⟩ := X
  obtain ⟨hx, hb, hml, hown, hts, hK, hA, hE, htr, hlk, hrt, hWS⟩ := F
  obtain ⟨hQ, hAe, hRc, hRs⟩ := FQ
  have hR : R = rm := hR
  subst hR
  intro ls st n E ca sl h ad H locs L h1 h2 h3 h4 h5 h6 h7 h8 h9 hca hsl
  unfold o_throw at h
  split at h
  · obtain ⟨⟨hc1, hs1⟩, h⟩ := h
    obtain ⟨sa, hsa⟩ := hE.2.1 _ hstr
    subst hQ
    have hat' : ∀ w ∈ vn_atS own ic cls [n1, n2], w.before args s = true := fun w hw => (hat w hw).elim (fun q => hts w (hWS w q)) (fun q => am_nk_use (List.mem_filter.mp q).2 (hE.1 w q))
    exact vn_throwS (names := [n1, n2]) (sa := sa) hx hb htr hown hcls hnames (hts _ hk) (hts _ hini) hsa hat' hgood hE.2.2.2.1.1 hE.2.2.2.1.2 h8 (h9.1.trans hml.symm) d0 d3 d4 d6 d9 (fun x hx => (hT x hx).elim) (by simpa using hf) (by simpa using hlo) hc1 hs1 hlk (fun t _ hz hq => am_xc h1 h2 h3 h6 h7 h8 hAe hz hq h) h8.2.2 hc1 hs1
  · exact h.elim
theorem ms_throwNW {X : am_X} {cc : ByteArray} {own : String} {ret : Option FieldType} {Ts : List Cond} (F : am_F X cc own ret Ts) {pc : Nat} {K : am_P} {rm : Room} (hR : am_Rm X rm) (FQ : am_FQ X K rm.cells rm.slots) (hT : am_noT X) (hf : 5 < rm.frames) (hlo : 82 ≤ rm.locals) {cls text : String} {n1 n2 : String} {ik is ic : Nat} (hcls : Bundle.fit cls = true) (hnames : ∀ n ∈ [n1, n2], Bundle.fit n = true)
    (hk : Cond.classLink own ik cls ∈ Ts) (hini : Cond.initialized cls ∈ Ts) (hstr : (own, is, text) ∈ am_SR) (hat : ∀ w ∈ vn_atS own ic cls [n1, n2], w ∈ am_WS ∨ w ∈ am_NW) (hgood : ∀ w ∈ Cond.classLink own ik cls :: Cond.initialized cls :: vn_atS own ic cls [n1, n2], vx_ot w = true)
    (d0 : decode cc pc = .ok (.new ik, 3)) (d3 : decode cc (pc + 3) = .ok (.dup, 1)) (d4 : decode cc (pc + 4) = .ok (.ldc_w is, 3)) (d6 : decode cc (pc + 7) = .ok (.invokespecial ic, 3)) (d9 : decode cc (pc + 10) = .ok (.athrow, 1)) : am_imp (o_throw cls rm.cells rm.slots K) (am_G X pc) := by
  obtain ⟨p, l, e, R, s, m, args, below, meth, c, D, dA, ro, ad0, n0, nL, A, Q⟩ := X
  obtain ⟨hx, hb, hml, hown, hts, hK, hA, hE, htr, hlk, hrt, hWS⟩ := F
  obtain ⟨hQ, hAe, hRc, hRs⟩ := FQ
  have hR : R = rm := hR
  subst hR
  intro ls st n E ca sl h ad H locs L h1 h2 h3 h4 h5 h6 h7 h8 h9 hca hsl
  unfold o_throw at h
  split at h
  · obtain ⟨⟨hc1, hs1⟩, h⟩ := h
    obtain ⟨sa, hsa⟩ := hE.2.1 _ hstr
    subst hQ
    have hat' : ∀ w ∈ vn_atS own ic cls [n1, n2], w.before args s = true := fun w hw => (hat w hw).elim (fun q => hts w (hWS w q)) (fun q => am_nk_use (List.mem_filter.mp q).2 (hE.1 w q))
    exact vn_throwSW (names := [n1, n2]) (sa := sa) hx hb htr hown hcls hnames (hts _ hk) (hts _ hini) hsa hat' hgood hE.2.2.2.1.1 hE.2.2.2.1.2 h8 (h9.1.trans hml.symm) d0 d3 d4 d6 d9 (fun x hx => (hT x hx).elim) (by simpa using hf) (by simpa using hlo) hc1 hs1 hlk (fun t _ hz hq => am_xc h1 h2 h3 h6 h7 h8 hAe hz hq h) h8.2.2 hc1 hs1
  · exact h.elim
end
section
/-! ===== the text KINDS, tables of exceptions, arrays of arrays, a switch ===== -/
def o_ldcK (k : am_C) : am_C := fun ls st n E ca sl => k ls (.retAddr 6 :: st) n E ca sl
def o_getK (k : am_C) : am_C := fun ls st n E ca sl => match st with
  | .retAddr a :: r => a = 6 ∧ k ls (.retAddr 7 :: r) n E ca sl
  | _ => False
def o_codK (k : am_C) : am_C := fun ls st n E ca sl => match st with
  | .retAddr a :: r => a = 6 ∧ k ls (.int 0 :: r) n E ca sl
  | _ => False
def o_lenK (k : am_C) : am_C := fun ls st n E ca sl => match st with
  | .retAddr a :: r => a = 7 ∧ k ls (.int 4 :: r) n E ca sl
  | _ => False
def o_bldK (k : am_C) : am_C := fun ls st n E ca sl => match st with
  | .int i :: .retAddr a :: r => a = 7 ∧ vp_in i 4 ∧ k ls (.int (am_xf 1 i.toNatClampNeg) :: r) n E ca sl
  | _ => False
def o_i2b (k : am_C) : am_C := fun ls st n E ca sl => match st with
  | .int x :: r => k ls (.int x.toInt8.toInt32 :: r) n E ca sl
  | _ => False
theorem ms_i2b {X : am_X} {cc : ByteArray} {own : String} {ret : Option FieldType} {Ts : List Cond} (F : am_F X cc own ret Ts) {pc : Nat} {k : am_C} (hd : decode cc pc = .ok (.i2b, 1)) (hk : am_imp k (am_G X (pc + 1))) : am_imp (o_i2b k) (am_G X pc) := by
  obtain ⟨p, l, e, R, s, m, args, below, meth, c, D, dA, ro, ad0, n0, nL, A, Q⟩ := X
  obtain ⟨hx, hb, hml, hown, hts, hK, hA, hE, htr, hlk, hrt, hWS⟩ := F
  intro ls st n E ca sl h ad H locs L h1 h2 h3 h4 h5 h6 h7 h8 h9 hca hsl
  unfold o_i2b at h
  split at h
  · exact lv_i2b hx hb hd rfl (hk _ _ _ _ _ _ h ad H locs L h1 h2 h3 (am_cs trivial (am_tl h4)) h5 h6 h7 h8 h9 hca hsl)
  · exact h.elim
/-- a call of the text's -/
def o_callK (na : Nat) (S : am_S) (rm' rm : Room) (Xh : am_H) (k : am_C) : am_C := fun ls st n E ca sl => (match (st.take na).reverse with
  | .retAddr b :: _ => b = 6
  | _ => False) ∧ o_call na S rm' rm Xh k ls st n E ca sl
/-! ===== a method with a table of exceptions ===== -/
def am_T (X : am_X) (hh : List (Nat × Nat × Nat × Nat)) : Prop := match X with
  | (_, _, _, _, _, _, _, _, _, c, _, _, _, _, _, _, _, _) => c.exceptionTable.toList = tableOf hh
theorem ms_cat {X : am_X} {cc : ByteArray} {own : String} {ret : Option FieldType} {Ts : List Cond} (F : am_F X cc own ret Ts) {K : am_P} {mc ms : Nat} (FQ : am_FQ X K mc ms) {hh : List (Nat × Nat × Nat × Nat)} (hT : am_T X hh) {pc : Nat} {C name : String} {r : Int32} (pre : List ExceptionTableEntry) (x : ExceptionTableEntry) (suf : List ExceptionTableEntry) (hs : tableOf hh = pre ++ x :: suf) (hp : ∀ z ∈ pre, z.catchType ≠ 0 ∧ ∃ nm : String, Cond.classLink own z.catchType nm ∈ Ts ∧ (C, nm) ∈ am_NC) (hcv : covers x pc = true) (h0 : x.catchType ≠ 0) (hl : Cond.classLink own x.catchType name ∈ Ts) (hc : Cond.castable C name ∈ am_NW)
    {i z hq : Nat} {zr : Int} (hz : am_nL X = z) (hi : i < z) (hst : (∃ j : Fin 4, (j : Nat) = i ∧ decode cc x.handlerPc = .ok (.astore_n j, 1) ∧ hq = x.handlerPc + 1) ∨ (decode cc x.handlerPc = .ok (.astore i, 2) ∧ hq = x.handlerPc + 2)) (d2 : decode cc hq = .ok (.iconst zr, 1)) (hzr : Int32.ofInt zr = r) (d3 : decode cc (hq + 1) = .ok (.ireturn, 1)) (hr : ret = some .int) (ls : am_L) (n : Nat) (E : am_E) (ca sl : Nat) (hKK : K (.inl (some (.int r))) n E) : am_XG X pc ls C n E ca sl := by
  have kret : am_imp (o_pi r (o_iret .int K)) (am_G X hq) := ms_iconst F d2 hzr (ms_iret F FQ hr d3)
  obtain ⟨p, l, e, R, s, m, args, below, meth, c, D, dA, ro, ad0, n0, nL, A, Q⟩ := X
  obtain ⟨hx, hb, hml, hown, hts, hK, hA, hE, htr, hlk, hrt, hWS⟩ := F
  have x6 : am_ex2 ro A s s.heap := hE.2.2.2.2.2.2.2.2.2
  intro ad H locs L st q ce h1 h2 h3 h5 h6 h7 h8 h9 hca hsl hce hvm hcl
  refine vx_catch hown pre x suf (Eq.trans hT hs) (fun z hz => ?_) hcv h0 (hts _ hl) (am_nk_use (List.mem_filter.mp hc).2 (hE.1 _ hc)) hce hvm hcl ?_
  · obtain ⟨a1, nm, a2, a3⟩ := hp z hz
    exact Or.inr ⟨a1, nm, hts _ a2, x6.1 _ a3⟩
  · subst hz
    have key : ∀ L' : Array Slot, lv_has L' nL ((i, Value.ref q) :: (am_al ls ad ro).filter (fun q => !(q.1 == i) && !(q.1 + 1 == i && q.2.category == 2))) → W p l e R s m args below meth c H locs ca sl Q (F0 m hq L' []) := fun L' h' =>
      kret [] [] n E ca sl ⟨(show narrow .int (.int r) = .int r from rfl), hKK⟩ ad H locs L' h1 h2 h3 (fun v hv => by cases hv) (fun v hv => by cases hv) h6 h7 h8 ⟨h'.1, h'.2.1, fun i v hv => by cases hv⟩ hca hsl
    rcases hst with ⟨j, hj, d1, rfl⟩ | ⟨d1, rfl⟩
    · exact lv_astore_n hx hb d1 hj h9.lv hi rfl key
    · exact lv_astore hx hb d1 h9.lv hi rfl key
theorem ms_catG {X : am_X} {cc : ByteArray} {own : String} {ret : Option FieldType} {Ts : List Cond} (F : am_F X cc own ret Ts) {K : am_P} {mc ms : Nat} (FQ : am_FQ X K mc ms) {hh : List (Nat × Nat × Nat × Nat)} (hT : am_T X hh) {pc : Nat} {C name : String} {r : Int32} (pre : List ExceptionTableEntry) (x : ExceptionTableEntry) (suf : List ExceptionTableEntry) (hs : tableOf hh = pre ++ x :: suf) (hp : ∀ z ∈ pre, z.catchType ≠ 0 ∧ ∃ nm : String, Cond.classLink own z.catchType nm ∈ Ts ∧ (C, nm) ∈ am_NC) (hcv : covers x pc = true) (h0 : x.catchType ≠ 0) (hl : Cond.classLink own x.catchType name ∈ Ts) (hc : Cond.castable C name ∈ am_NW)
    {i z hq : Nat} (hz : am_nL X = z) (hi : i < z) (hst : (∃ j : Fin 4, (j : Nat) = i ∧ decode cc x.handlerPc = .ok (.astore_n j, 1) ∧ hq = x.handlerPc + 1) ∨ (decode cc x.handlerPc = .ok (.astore i, 2) ∧ hq = x.handlerPc + 2)) (kret : am_imp (o_pi r (o_iret .int K)) (am_G X hq)) (ls : am_L) (n : Nat) (E : am_E) (ca sl : Nat) (hKK : K (.inl (some (.int r))) n E) : am_XG X pc ls C n E ca sl := by
  obtain ⟨p, l, e, R, s, m, args, below, meth, c, D, dA, ro, ad0, n0, nL, A, Q⟩ := X
  obtain ⟨hx, hb, hml, hown, hts, hK, hA, hE, htr, hlk, hrt, hWS⟩ := F
  have x6 : am_ex2 ro A s s.heap := hE.2.2.2.2.2.2.2.2.2
  intro ad H locs L st q ce h1 h2 h3 h5 h6 h7 h8 h9 hca hsl hce hvm hcl
  refine vx_catch hown pre x suf (Eq.trans hT hs) (fun z hz => ?_) hcv h0 (hts _ hl) (am_nk_use (List.mem_filter.mp hc).2 (hE.1 _ hc)) hce hvm hcl ?_
  · obtain ⟨a1, nm, a2, a3⟩ := hp z hz
    exact Or.inr ⟨a1, nm, hts _ a2, x6.1 _ a3⟩
  · subst hz
    have key : ∀ L' : Array Slot, lv_has L' nL ((i, Value.ref q) :: (am_al ls ad ro).filter (fun q => !(q.1 == i) && !(q.1 + 1 == i && q.2.category == 2))) → W p l e R s m args below meth c H locs ca sl Q (F0 m hq L' []) := fun L' h' =>
      kret [] [] n E ca sl ⟨(show narrow .int (.int r) = .int r from rfl), hKK⟩ ad H locs L' h1 h2 h3 (fun v hv => by cases hv) (fun v hv => by cases hv) h6 h7 h8 ⟨h'.1, h'.2.1, fun i v hv => by cases hv⟩ hca hsl
    rcases hst with ⟨j, hj, d1, rfl⟩ | ⟨d1, rfl⟩
    · exact lv_astore_n hx hb d1 hj h9.lv hi rfl key
    · exact lv_astore hx hb d1 h9.lv hi rfl key
theorem am_ofH {l : Launch} {y : MethodName} {cc : ByteArray} {maxL : Nat} {ret : Option FieldType} {rm : Room} {S : am_S} {hh : List (Nat × Nat × Nat × Nat)} (htr : l.stackTraces = false) (hy : plainName y.cls = true) (hcode : Cond.codeWith y cc maxL ret hh ∈ am_WS)
    (body : ∀ (X : am_X) (K : am_P), am_F X cc y.cls ret (am_wsT y cc maxL ret hh) → am_FQ X K rm.cells rm.slots → am_Rm X rm → am_T X hh → am_nL X = maxL → ∀ (as : List Value) (n : Nat) (E : am_E), S as n E K → (am_sl as).length ≤ maxL ∧ am_G X 0 (am_inl maxL as) [] n E 0 0) : am_Ct l y (am_wsT y cc maxL ret hh) rm S := by
  intro D dA ro ad n E sz as K h3 hlt hS
  refine vx_ofWH (hh := hh) (cc := cc) (maxL := maxL) (ret := ret) hy rfl ?_
  intro p e s m args below meth c s₁ B hml hP
  obtain ⟨rfl, hsz, hP, hK, hD, hE⟩ := hP
  subst hsz
  have hts := atoms_spec (ws := am_wsT y cc maxL ret hh) B.pre
  have hown : s.vm.findClass y.cls = some m.cls := findClass_of_methodNamed B.named
  have htab := vx_table (x := y) B (hts _ List.mem_cons_self)
  obtain ⟨hle, g⟩ := body (p, l, e, rm, s, m, (as.map (am_tr ad ro)).toArray, below, meth, c, D, dA, ro, ad, n, maxL, am_A ad n s.heap.size, vx_MQ below (am_Qc D dA ro ad n s.heap.size K) (am_Xc D dA ro ad n s.heap.size K) (as.map (am_tr ad ro)).toArray s rm.cells rm.slots (am_A ad n s.heap.size)) K
    ⟨B.exec, B.bytes, hml, hown, hts, hK, fun q hq => Or.inr hq, hE, htr, B.notSynchronized, B.returns, fun w hw => List.mem_cons_of_mem _ hw⟩ ⟨rfl, rfl, rfl, rfl⟩ rfl htab rfl as n E hS
  have g2 := g ad s.heap [] _ (fun _ _ => rfl) (Nat.le_refl _) h3 (fun v hv => by cases hv) (am_inl_lt hlt) hP hD va_S.rf (am_inl_has hle) (Nat.zero_le _) (Nat.zero_le _)
  rw [lg_entry_eq]
  exact g2
def am_hdl (l : List (String × Int32)) (K : am_P) : am_H := fun _ C n E _ _ => ∃ q ∈ l, q.1 = C ∧ K (.inl (some (.int q.2))) n E
theorem ms_hdl_n (K : am_P) (G : am_H) : am_impX (am_hdl [] K) G := fun _ _ _ _ _ _ ⟨_, h, _⟩ => absurd h List.not_mem_nil
theorem ms_hdl_c {K : am_P} {G : am_H} {C : String} {r : Int32} {l : List (String × Int32)} (h1 : ∀ ls n E ca sl, K (.inl (some (.int r))) n E → G ls C n E ca sl) (h2 : am_impX (am_hdl l K) G) : am_impX (am_hdl ((C, r) :: l) K) G := fun ls C' n E ca sl ⟨q, hq, e, hK⟩ => by
  rcases List.mem_cons.mp hq with rfl | hq
  · cases e
    exact h1 ls n E ca sl hK
  · exact h2 ls C' n E ca sl ⟨q, hq, e, hK⟩
/-! ===== arrays of arrays ===== -/
def am_upm (ad : Nat → Nat) (n q : Nat) (r : Nat → Nat) : Nat → Nat := fun k => if k < n then ad k else if k = n then q else r (k - n - 1)
theorem am_upm_lt {ad r : Nat → Nat} {n q : Nat} : ∀ k, k < n → am_upm ad n q r k = ad k := fun k h => by simp [am_upm, h]
def am_um (E : am_E) (n N t ti : Nat) (z : vp_A) : am_E := fun k => if k = n then some (.inl (t, N, .inr (.inr (.inr (.inr (fun i => if i < N then some (n + 1 + i) else none)))))) else if n < k ∧ k ≤ n + N then some (.inl (ti, z)) else E k
theorem am_we_um {n N t ti : Nat} {z : vp_A} {E : am_E} (h : am_we n E) (hz : ∀ n, am_la n z) : am_we (n + 1 + N) (am_um E n N t ti z) := by
  intro k
  unfold am_um
  by_cases h0 : k = n
  · subst h0
    refine ⟨fun _ => by simp, fun e he => ?_⟩
    simp at he
    subst he
    refine ⟨by omega, fun j i hj => ?_⟩
    by_cases hN : j < N
    · simp [hN] at hj
      omega
    · simp [hN] at hj
  · by_cases h1 : n < k ∧ k ≤ n + N
    · refine ⟨fun _ => by simp [h0, h1], fun e he => ?_⟩
      simp [h0, h1] at he
      subst he
      exact ⟨by omega, hz _⟩
    · refine ⟨fun h2 => ?_, fun e he => ?_⟩
      · rw [if_neg h0, if_neg h1]
        exact (h k).1 (by omega)
      · rw [if_neg h0, if_neg h1] at he
        have := (h k).2 e he
        exact ⟨by omega, am_le_mono (by omega) this.2⟩
def o_mna (t ti N M : Nat) (z : vp_A) (mc ms : Nat) (k : am_C) : am_C := fun ls st n E ca sl => match st with
  | .int i :: .int j :: r => i = nI M ∧ j = nI N ∧ (ca + 1 + N ≤ mc ∧ sl + N + N * M ≤ ms) ∧ k ls (.ref n :: r) (n + 1 + N) (am_um E n N t ti z) (ca + 1 + N) (sl + N + N * M)
  | _ => False
theorem ms_mna {X : am_X} {cc : ByteArray} {own : String} {ret : Option FieldType} {Ts : List Cond} (F : am_F X cc own ret Ts) {pc index : Nat} {k : am_C} {rm : Room} (hR : am_Rm X rm) {t ti N M : Nat} {ty : FieldType} {z : vp_A} (ht : t = 9 ∧ ti = 0 ∧ ty = .int) (hz : z = (M, .inl (fun _ => 0))) (hN : N < 3000) (hM : M < 3000) (hcl : Cond.classLink own index ("[" ++ (FieldType.array ty).toString) ∈ Ts) (harr : Cond.arrayClass ty ∈ Ts) (hd : decode cc pc = .ok (.multianewarray index 2, 4)) (hk : am_imp k (am_G X (pc + 4))) : am_imp (o_mna t ti N M z rm.cells rm.slots k) (am_G X pc) := by
  obtain ⟨p, l, e, R, s, m, args, below, meth, c, D, dA, ro, ad0, n0, nL, A, Q⟩ := X
  obtain ⟨hx, hb, hml, hown, hts, hK, hA, hE, htr, hlk, hrt, hWS⟩ := F
  intro ls st n E ca sl h ad H locs L h1 h2 h3 h4 h5 h6 h7 h8 h9 hca hsl
  have hR : R = rm := hR
  subst hR
  unfold o_mna at h
  split at h
  · rename_i i j r
    obtain ⟨rfl, rfl, ⟨hc1, hs1⟩, h⟩ := h
    have hover : va_AOA ty s := by
      obtain ⟨-, -, ⟨-, -, a3, a4, a5⟩, -⟩ := hE
      obtain ⟨-, -, rfl⟩ := ht
      exact a5
    have hti : (am_tys dA)[ti]? = some (dA ti, ty) := by rcases ht with ⟨-, rfl, rfl⟩ <;> rfl
    have hto : (am_tys dA)[t]? = some (dA t, .array ty) := by rcases ht with ⟨rfl, -, rfl⟩ <;> rfl
    have hcy : s.vm.findClass (FieldType.array ty).toString = some (dA ti) := by
      have g := (hK.2 ti _ hti).2
      rcases ht with ⟨-, rfl, rfl⟩ <;> exact g
    have hcb : componentBytes ty ≤ 8 := by rcases ht with ⟨-, -, rfl⟩ <;> decide
    have hle : ∀ n, am_la n z := fun n => by subst hz; trivial
    have nN : (nI N).toNatClampNeg = N := nI_clamp (by omega)
    have nM : (nI M).toNatClampNeg = M := nI_clamp (by omega)
    refine va_mna (X := am_w dA ad ro n E) (L := []) (f := fun _ => .inr (0, [])) hx hb hown (hts _ hcl) hover (hts _ harr) hcy hK (by simpa [va_pl] using h6) (by simpa [va_pl] using h7) h8 hA (n := nI N) (k := nI M) (N' := N) (K' := M) (z := z) (nI_pos (by omega)) (nI_pos (by omega)) nN nM (by omega) (Nat.le_trans (Nat.mul_le_mul_left _ hcb) (by omega)) (by omega) (by rcases ht with ⟨-, -, rfl⟩ <;> rfl) (by rcases ht with ⟨-, -, rfl⟩ <;> rfl) (by omega) (by omega) (fun c9 => by subst hz; rcases ht with ⟨-, -, rfl⟩ <;> (refine Eq.trans (arrV_new _ _ _) ?_; rfl)) hd (fun q rr cA H1 hri hrn hK1 hP1 hD1 hS1 => ?_)
    have hcA : cA = dA t := am_tyA hK hto hK1 10 rfl
    subst hcA
    have e1 : am_w dA (am_upm ad n q rr) ro (n + 1 + N) (am_um E n N t ti z) = (am_w dA ad ro n E ++ [(q, .inl (dA t, N, .inr (.inr (.inr (.inr (fun i => if i < N then some (rr i) else none))))))]) ++ va_pl ([] ++ (List.range N).map rr) (vr_up (fun _ => .inr (0, [])) ((List.range N).map rr) (.inl (dA ti, z))) := by
      unfold am_w va_pl
      rw [show n + 1 + N = n + (1 + N) by omega, List.range_add, List.map_append, List.nil_append, List.append_assoc]
      congr 1
      · apply List.map_congr_left
        intro k hk
        have hk : k < n := List.mem_range.mp hk
        obtain ⟨e', he⟩ := Option.isSome_iff_exists.mp ((h3 k).1 hk)
        have h1 : am_um E n N t ti z k = E k := by
          unfold am_um
          rw [if_neg (by omega), if_neg (by omega)]
        rw [h1, he, am_upm_lt k hk]
        show (ad k, am_te dA (am_upm ad n q rr) ro e') = (ad k, am_te dA ad ro e')
        rw [am_te_cg ((h3 k).2 e' he).2 am_upm_lt]
      · rw [List.range_add, List.map_append, List.map_append, List.map_map, List.map_map, List.map_map]
        congr 1
        · show [(am_upm ad n q rr n, am_te dA (am_upm ad n q rr) ro ((am_um E n N t ti z n).getD (.inr (0, []))))] = _
          have ea : am_upm ad n q rr n = q := by unfold am_upm; rw [if_neg (by omega), if_pos rfl]
          have eb : am_um E n N t ti z n = some (.inl (t, N, .inr (.inr (.inr (.inr (fun i => if i < N then some (n + 1 + i) else none)))))) := by unfold am_um; rw [if_pos rfl]
          rw [ea, eb]
          show [(q, (Sum.inl (dA t, (N, Sum.inr (Sum.inr (Sum.inr (Sum.inr (fun j => (if j < N then some (n + 1 + j) else none).map (am_upm ad n q rr))))))) : va_E))] = _
          have ec : (fun j => (if j < N then some (n + 1 + j) else none).map (am_upm ad n q rr)) = (fun i => if i < N then some (rr i) else none) := by
            funext j
            by_cases hj : j < N
            · rw [if_pos hj, if_pos hj]
              show some (am_upm ad n q rr (n + 1 + j)) = some (rr j)
              unfold am_upm
              rw [if_neg (by omega), if_neg (by omega), show n + 1 + j - n - 1 = j by omega]
            · rw [if_neg hj, if_neg hj]
              rfl
          rw [ec]
        · rw [List.map_map]
          apply List.map_congr_left
          intro j hj
          have hj : j < N := List.mem_range.mp hj
          show (am_upm ad n q rr (n + (1 + j)), am_te dA (am_upm ad n q rr) ro ((am_um E n N t ti z (n + (1 + j))).getD (.inr (0, [])))) = (rr j, vr_up (fun _ => .inr (0, [])) ((List.range N).map rr) (.inl (dA ti, z)) (rr j))
          have ea : am_upm ad n q rr (n + (1 + j)) = rr j := by
            unfold am_upm
            rw [if_neg (by omega), if_neg (by omega), show n + (1 + j) - n - 1 = j by omega]
          have eb : am_um E n N t ti z (n + (1 + j)) = some (.inl (ti, z)) := by
            unfold am_um
            rw [if_neg (by omega), if_pos (by omega)]
          rw [ea, eb, vr_up_in (List.mem_map_of_mem (List.mem_range.mpr hj))]
          subst hz
          rfl
    have h4r : ∀ v ∈ r, am_lt n v := am_tl (am_tl h4)
    have g := hk _ _ _ _ _ _ h (am_upm ad n q rr) H1 locs L (fun k hk => by rw [am_upm_lt k (by omega)]; exact h1 k hk) (by omega) (am_we_um h3 hle) (am_cs (show n < n + 1 + N by omega) (fun v hv => am_lt_mono (by omega) (h4r v hv))) (fun v hv => am_lt_mono (by omega) (h5 v hv)) (by rw [e1]; exact hP1) (by rw [e1]; exact hD1) hS1 (am_has_cg h9 h5 am_upm_lt) hc1 hs1
    rw [List.map_cons, am_st_cg h4r am_upm_lt] at g
    have e2 : am_tr (am_upm ad n q rr) ro (.ref n) = .ref q := by
      show Value.ref (am_upm ad n q rr n) = _
      unfold am_upm
      rw [if_neg (by omega), if_pos rfl]
    rw [e2] at g
    exact g
  · exact h.elim
theorem mna_char : ("[" ++ (FieldType.array FieldType.char).toString) = "[[C" := by decide +kernel
theorem mna_boolean : ("[" ++ (FieldType.array FieldType.boolean).toString) = "[[Z" := by decide +kernel
theorem mna_int : ("[" ++ (FieldType.array FieldType.int).toString) = "[[I" := by decide +kernel
/-! ===== a switch ===== -/
def o_tsw (d : Nat) (tl : List Nat) (G : Nat → am_C) : am_C := fun ls st n E ca sl => match st with
  | .int x :: r => (0 ≤ x ∧ x.toNatClampNeg < tl.length → G (tl.getD x.toNatClampNeg 0) ls r n E ca sl) ∧ (¬ (0 ≤ x ∧ x.toNatClampNeg < tl.length) → G d ls r n E ca sl)
  | _ => False
theorem ms_tsw {X : am_X} {cc : ByteArray} {own : String} {ret : Option FieldType} {Ts : List Cond} (F : am_F X cc own ret Ts) {pc d len : Nat} {dflt hi : Int} {offs : Array Int} {tl : List Nat} (hd : decode cc pc = .ok (.tableswitch dflt 0 hi offs, len)) (h0 : (pc : Int) + dflt = (d : Int)) (hn : hi + 1 = (tl.length : Int)) (ht : (List.range tl.length).all (fun j => decide ((offs[j]?).map (fun o => (pc : Int) + o) = some ((tl.getD j 0 : Nat) : Int))) = true) : am_imp (o_tsw d tl (am_G X)) (am_G X pc) := by
  obtain ⟨p, l, e, R, s, m, args, below, meth, c, D, dA, ro, ad0, n0, nL, A, Q⟩ := X
  obtain ⟨hx, hb, hml, hown, hts, hK, hA, hE, htr, hlk, hrt, hWS⟩ := F
  intro ls st n E ca sl h ad H locs L h1 h2 h3 h4 h5 h6 h7 h8 h9 hca hsl
  unfold o_tsw at h
  split at h
  · rename_i x r
    by_cases hc : 0 ≤ x ∧ x.toNatClampNeg < tl.length
    · have hx0 : 0 ≤ x.toInt := Int32.le_iff_toInt_le.mp hc.1
      have hxi : (x.toNatClampNeg : Int) = x.toInt := Int.toNat_of_nonneg hx0
      have hj := of_decide_eq_true (List.all_eq_true.mp ht x.toNatClampNeg (List.mem_range.mpr hc.2))
      obtain ⟨off, ho, he⟩ := Option.map_eq_some_iff.mp hj
      exact lv_tableIn hx hb hd (by omega) (by omega) (off := off) (by rw [Int.sub_zero]; exact ho) he (h.1 hc ad H locs L h1 h2 h3 (am_tl h4) h5 h6 h7 h8 h9 hca hsl)
    · refine lv_tableOut hx hb hd ?_ h0 (h.2 hc ad H locs L h1 h2 h3 (am_tl h4) h5 h6 h7 h8 h9 hca hsl)
      by_cases hx0 : 0 ≤ x.toInt
      · have hxi : (x.toNatClampNeg : Int) = x.toInt := Int.toNat_of_nonneg hx0
        have : 0 ≤ x := Int32.le_iff_toInt_le.mpr hx0
        have : ¬ x.toNatClampNeg < tl.length := fun q => hc ⟨this, q⟩
        exact Or.inr (by omega)
      · exact Or.inl (by omega)
  · exact h.elim
/-! ===== the script ===== -/
/-! ===== the script, in a callee ===== -/
def am_ST (X : am_X) (L : Nat) (xs : Nat → Int32) : Prop := match X with
  | (_, _, _, _, s, _, _, _, _, _, _, _, ro, _, _, _, A, _) => va_T .int (ro 0) L (fun j => .int (xs j)) A s s.heap
theorem am_STF {X : am_X} {cc : ByteArray} {own : String} {ret : Option FieldType} {Ts : List Cond} (F : am_F X cc own ret Ts) : ∃ (L : Nat) (xs : Nat → Int32), L ≤ 260 ∧ am_ST X L xs := by
  obtain ⟨p, l, e, R, s, m, args, below, meth, c, D, dA, ro, ad0, n0, nL, A, Q⟩ := X
  obtain ⟨hx, hb, hml, hown, hts, hK, hA, hE, htr, hlk, hrt, hWS⟩ := F
  have x6 : am_ex2 ro A s s.heap := hE.2.2.2.2.2.2.2.2.2
  exact x6.2
def o_slT (L : Nat) (k : am_C) : am_C := fun ls st n E ca sl => match st with
  | .retAddr a :: r => a = 0 ∧ k ls (.int (nI L) :: r) n E ca sl
  | _ => False
theorem ms_slT {X : am_X} {cc : ByteArray} {own : String} {ret : Option FieldType} {Ts : List Cond} (F : am_F X cc own ret Ts) {L : Nat} {xs : Nat → Int32} (hS : am_ST X L xs) {pc : Nat} {k : am_C} (hd : decode cc pc = .ok (.arraylength, 1)) (hk : am_imp k (am_G X (pc + 1))) : am_imp (o_slT L k) (am_G X pc) := by
  obtain ⟨p, l, e, R, s, m, args, below, meth, c, D, dA, ro, ad0, n0, nL, A, Q⟩ := X
  obtain ⟨hx, hb, hml, hown, hts, hK, hA, hE, htr, hlk, hrt, hWS⟩ := F
  intro ls st n E ca sl h ad H locs L9 h1 h2 h3 h4 h5 h6 h7 h8 h9 hca hsl
  unfold o_slT at h
  split at h
  · obtain ⟨rfl, h⟩ := h
    exact va_tlen hx hb hS h8 (v := nI L) rfl hd (hk _ _ _ _ _ _ h ad H locs L9 h1 h2 h3 (am_cs trivial (am_tl h4)) h5 h6 h7 h8 h9 hca hsl)
  · exact h.elim
def o_sdT (L : Nat) (xs : Nat → Int32) (k : am_C) : am_C := fun ls st n E ca sl => match st with
  | .int i :: .retAddr a :: r => a = 0 ∧ vp_in i L ∧ k ls (.int (xs i.toNatClampNeg) :: r) n E ca sl
  | _ => False
theorem ms_sdT {X : am_X} {cc : ByteArray} {own : String} {ret : Option FieldType} {Ts : List Cond} (F : am_F X cc own ret Ts) {L : Nat} {xs : Nat → Int32} (hS : am_ST X L xs) {pc : Nat} {k : am_C} (hd : decode cc pc = .ok (.iaload, 1)) (hk : am_imp k (am_G X (pc + 1))) : am_imp (o_sdT L xs k) (am_G X pc) := by
  obtain ⟨p, l, e, R, s, m, args, below, meth, c, D, dA, ro, ad0, n0, nL, A, Q⟩ := X
  obtain ⟨hx, hb, hml, hown, hts, hK, hA, hE, htr, hlk, hrt, hWS⟩ := F
  intro ls st n E ca sl h ad H locs L9 h1 h2 h3 h4 h5 h6 h7 h8 h9 hca hsl
  unfold o_sdT at h
  split at h
  · obtain ⟨rfl, hin, h⟩ := h
    exact va_ti hx hb hS h8 hin rfl hd (hk _ _ _ _ _ _ h ad H locs L9 h1 h2 h3 (am_cs trivial (am_tl (am_tl h4))) h5 h6 h7 h8 h9 hca hsl)
  · exact h.elim
theorem ms_dconst1 {X : am_X} {cc : ByteArray} {own : String} {ret : Option FieldType} {Ts : List Cond} (F : am_F X cc own ret Ts) {pc : Nat} {k : am_C} (hd : decode cc pc = .ok (.dconst 1, 1)) (hk : am_imp k (am_G X (pc + 1))) : am_imp (o_pd FP.dconst1 k) (am_G X pc) := by
  obtain ⟨p, l, e, R, s, m, args, below, meth, c, D, dA, ro, ad0, n0, nL, A, Q⟩ := X
  obtain ⟨hx, hb, hml, hown, hts, hK, hA, hE, htr, hlk, hrt, hWS⟩ := F
  intro ls st n E ca sl h ad H locs L h1 h2 h3 h4 h5 h6 h7 h8 h9 hca hsl
  exact lv_dconst1 hx hb hd (hk _ _ _ _ _ _ h ad H locs L h1 h2 h3 (am_cs trivial h4) h5 h6 h7 h8 h9 hca hsl)
theorem ms_ldc2d {X : am_X} {cc : ByteArray} {own : String} {ret : Option FieldType} {Ts : List Cond} (F : am_F X cc own ret Ts) {pc : Nat} {k : am_C} {index : Nat} {v : UInt64} (hw : Cond.constantDouble own index v ∈ Ts) (hd : decode cc pc = .ok (.ldc2_w index, 3)) (hk : am_imp k (am_G X (pc + 3))) : am_imp (o_pd v k) (am_G X pc) := by
  obtain ⟨p, l, e, R, s, m, args, below, meth, c, D, dA, ro, ad0, n0, nL, A, Q⟩ := X
  obtain ⟨hx, hb, hml, hown, hts, hK, hA, hE, htr, hlk, hrt, hWS⟩ := F
  intro ls st n E ca sl h ad H locs L h1 h2 h3 h4 h5 h6 h7 h8 h9 hca hsl
  exact lv_ldc2d hx hb hown (hts _ hw) hd (hk _ _ _ _ _ _ h ad H locs L h1 h2 h3 (am_cs trivial h4) h5 h6 h7 h8 h9 hca hsl)
end
section
set_option maxRecDepth 100000 in
theorem wn_101 : (Jvm.Cond.methodLinkNest "LeadlightHall$Pane" (37 : Nat) yX6_init "LeadlightHall") ∈ am_NW := List.mem_filter.mpr ⟨am_t1 (List.mem_of_getElem? (i := 101) rfl), rfl⟩
set_option maxRecDepth 100000 in
theorem wn_105 : (Jvm.Cond.fieldLinkNest "LeadlightHall" (247 : Nat) "LeadlightHall$Pane" "state" "C" "LeadlightHall") ∈ am_NW := List.mem_filter.mpr ⟨am_t1 (List.mem_of_getElem? (i := 105) rfl), rfl⟩
set_option maxRecDepth 100000 in
theorem wn_109 : (Jvm.Cond.fieldLinkNest "LeadlightHall" (262 : Nat) "LeadlightHall$Pane" "paint" "LLeadlightHall$Paint;" "LeadlightHall") ∈ am_NW := List.mem_filter.mpr ⟨am_t1 (List.mem_of_getElem? (i := 109) rfl), rfl⟩
set_option maxRecDepth 100000 in
theorem wn_127 : (Jvm.Cond.methodLinkNest "LeadlightHall" (83 : Nat) yX4_init "LeadlightHall") ∈ am_NW := List.mem_filter.mpr ⟨am_t1 (List.mem_of_getElem? (i := 127) rfl), rfl⟩
set_option maxRecDepth 100000 in
theorem wn_208 : (Jvm.Cond.methodLinkNest "LeadlightHall$Wall" (15 : Nat) yX7_isInside "LeadlightHall") ∈ am_NW := List.mem_filter.mpr ⟨am_t1 (List.mem_of_getElem? (i := 208) rfl), rfl⟩
set_option maxRecDepth 100000 in
theorem wn_351 : (Jvm.Cond.methodLinkNest "LeadlightHall$Shape" (18 : Nat) yX7_isInside "LeadlightHall") ∈ am_NW := List.mem_filter.mpr ⟨am_t2 (List.mem_of_getElem? (i := 111) rfl), rfl⟩
set_option maxRecDepth 100000 in
theorem wn_384 : (Jvm.Cond.castable "java/lang/IllegalArgumentException" "java/lang/IllegalArgumentException") ∈ am_NW := List.mem_filter.mpr ⟨am_t2 (List.mem_of_getElem? (i := 144) rfl), rfl⟩
set_option maxRecDepth 100000 in
theorem wn_411 : (Jvm.Cond.castable "java/lang/UnsupportedOperationException" "java/lang/UnsupportedOperationException") ∈ am_NW := List.mem_filter.mpr ⟨am_t2 (List.mem_of_getElem? (i := 171) rfl), rfl⟩
set_option maxRecDepth 100000 in
theorem wn_44 : (Jvm.Cond.methodLinkNest "LeadlightHall" (30 : Nat) yX0_init "LeadlightHall") ∈ am_NW := List.mem_filter.mpr ⟨am_t1 (List.mem_of_getElem? (i := 44) rfl), rfl⟩
set_option maxRecDepth 100000 in
theorem wn_444 : (Jvm.Cond.castable "java/lang/IndexOutOfBoundsException" "java/lang/IndexOutOfBoundsException") ∈ am_NW := List.mem_filter.mpr ⟨am_t2 (List.mem_of_getElem? (i := 204) rfl), rfl⟩
set_option maxRecDepth 100000 in
theorem wn_568 : (Jvm.Cond.castable "java/lang/IllegalStateException" "java/lang/IllegalStateException") ∈ am_NW := List.mem_filter.mpr ⟨am_t3 (List.mem_of_getElem? (i := 88) rfl), rfl⟩
set_option maxRecDepth 100000 in
theorem wn_60 : (Jvm.Cond.methodLinkNest "LeadlightHall" (60 : Nat) yX3_init "LeadlightHall") ∈ am_NW := List.mem_filter.mpr ⟨am_t1 (List.mem_of_getElem? (i := 60) rfl), rfl⟩
set_option maxRecDepth 100000 in
theorem wn_73 : (Jvm.Cond.methodLinkNest "LeadlightHall" (77 : Nat) yX6_init "LeadlightHall") ∈ am_NW := List.mem_filter.mpr ⟨am_t1 (List.mem_of_getElem? (i := 73) rfl), rfl⟩
set_option maxRecDepth 100000 in
theorem wn_83 : (Jvm.Cond.methodLinkNest "LeadlightHall" (82 : Nat) yX2_init "LeadlightHall") ∈ am_NW := List.mem_filter.mpr ⟨am_t1 (List.mem_of_getElem? (i := 83) rfl), rfl⟩
set_option maxRecDepth 100000 in
theorem wn_89 : (Jvm.Cond.methodLinkNest "LeadlightHall$Pane" (30 : Nat) yX1_init "LeadlightHall") ∈ am_NW := List.mem_filter.mpr ⟨am_t1 (List.mem_of_getElem? (i := 89) rfl), rfl⟩
set_option maxRecDepth 100000 in
theorem wd_0 : (Jvm.Cond.initialized "LeadlightHallLaw") ∈ am_WS := am_in (am_tb1 (List.mem_of_getElem? (i := 0) rfl)) (by decide +kernel)
set_option maxRecDepth 100000 in
theorem wd_1 : (Jvm.Cond.initialized "LeadlightHall") ∈ am_WS := am_in (am_tb1 (List.mem_of_getElem? (i := 1) rfl)) (by decide +kernel)
set_option maxRecDepth 100000 in
theorem wd_100 : (Jvm.Cond.classLink "LeadlightHall$Pane" (35 : Nat) "LeadlightHall$YearSet") ∈ am_WS := am_in (am_tb1 (List.mem_of_getElem? (i := 100) rfl)) (by decide +kernel)
set_option maxRecDepth 100000 in
theorem wd_102 : (Jvm.Cond.fieldLink "LeadlightHall$Pane" (9 : Nat) "LeadlightHall$Pane" "wantedColour" "I") ∈ am_WS := am_in (am_tb1 (List.mem_of_getElem? (i := 102) rfl)) (by decide +kernel)
set_option maxRecDepth 100000 in
theorem wd_103 : (Jvm.Cond.fieldLink "LeadlightHall$Pane" (15 : Nat) "LeadlightHall$Pane" "wantedStreaks" "C") ∈ am_WS := am_in (am_tb1 (List.mem_of_getElem? (i := 103) rfl)) (by decide +kernel)
set_option maxRecDepth 100000 in
theorem wd_104 : (Jvm.Cond.fieldLink "LeadlightHall$Pane" (19 : Nat) "LeadlightHall$Pane" "state" "C") ∈ am_WS := am_in (am_tb1 (List.mem_of_getElem? (i := 104) rfl)) (by decide +kernel)
set_option maxRecDepth 100000 in
theorem wd_106 : (Jvm.Cond.fieldLink "LeadlightHall$Pane" (22 : Nat) "LeadlightHall$Pane" "colour" "I") ∈ am_WS := am_in (am_tb1 (List.mem_of_getElem? (i := 106) rfl)) (by decide +kernel)
set_option maxRecDepth 100000 in
theorem wd_107 : (Jvm.Cond.fieldLink "LeadlightHall$Pane" (25 : Nat) "LeadlightHall$Pane" "year" "I") ∈ am_WS := am_in (am_tb1 (List.mem_of_getElem? (i := 107) rfl)) (by decide +kernel)
set_option maxRecDepth 100000 in
theorem wd_108 : (Jvm.Cond.fieldLink "LeadlightHall$Pane" (31 : Nat) "LeadlightHall$Pane" "paint" "LLeadlightHall$Paint;") ∈ am_WS := am_in (am_tb1 (List.mem_of_getElem? (i := 108) rfl)) (by decide +kernel)
set_option maxRecDepth 100000 in
theorem wd_110 : (Jvm.Cond.fieldLink "LeadlightHall$Pane" (38 : Nat) "LeadlightHall$Pane" "leadYears" "LLeadlightHall$YearSet;") ∈ am_WS := am_in (am_tb1 (List.mem_of_getElem? (i := 110) rfl)) (by decide +kernel)
set_option maxRecDepth 100000 in
theorem wd_12 : (Jvm.Cond.initialized "java/lang/IllegalArgumentException") ∈ am_WS := am_in (am_tb1 (List.mem_of_getElem? (i := 12) rfl)) (by decide +kernel)
set_option maxRecDepth 100000 in
theorem wd_126 : (Jvm.Cond.instantiable "LeadlightHall$Sheet" (5 : Nat)) ∈ am_WS := am_in (am_tb1 (List.mem_of_getElem? (i := 126) rfl)) (by decide +kernel)
set_option maxRecDepth 100000 in
theorem wd_128 : (Jvm.Cond.instanceMethod yX4_init) ∈ am_WS := am_in (am_tb1 (List.mem_of_getElem? (i := 128) rfl)) (by decide +kernel)
set_option maxRecDepth 100000 in
theorem wd_129 : (Jvm.Cond.code yX4_init prog_6_method_1_code (1 : Nat) (Option.none : Option Jvm.ClassFile.FieldType)) ∈ am_WS := am_in (am_tb1 (List.mem_of_getElem? (i := 129) rfl)) (by decide +kernel)
set_option maxRecDepth 100000 in
theorem wd_13 : (Jvm.Cond.initialized "java/lang/UnsupportedOperationException") ∈ am_WS := am_in (am_tb1 (List.mem_of_getElem? (i := 13) rfl)) (by decide +kernel)
set_option maxRecDepth 100000 in
theorem wd_130 : (Jvm.Cond.methodLink "LeadlightHall$Sheet" (3 : Nat) ({ cls := "java/lang/Object", name := "<init>", desc := "()V" } : Jvm.MethodName)) ∈ am_WS := am_in (am_tb1 (List.mem_of_getElem? (i := 130) rfl)) (by decide +kernel)
set_option maxRecDepth 100000 in
theorem wd_131 : (Jvm.Cond.fieldLink "LeadlightHall$Sheet" (9 : Nat) "LeadlightHall$Sheet" "colour" "I") ∈ am_WS := am_in (am_tb1 (List.mem_of_getElem? (i := 131) rfl)) (by decide +kernel)
set_option maxRecDepth 100000 in
theorem wd_132 : (Jvm.Cond.fieldLink "LeadlightHall$Sheet" (15 : Nat) "LeadlightHall$Sheet" "width" "I") ∈ am_WS := am_in (am_tb1 (List.mem_of_getElem? (i := 132) rfl)) (by decide +kernel)
set_option maxRecDepth 100000 in
theorem wd_133 : (Jvm.Cond.fieldLink "LeadlightHall$Sheet" (18 : Nat) "LeadlightHall$Sheet" "height" "I") ∈ am_WS := am_in (am_tb1 (List.mem_of_getElem? (i := 133) rfl)) (by decide +kernel)
set_option maxRecDepth 100000 in
theorem wd_134 : (Jvm.Cond.fieldLink "LeadlightHall$Sheet" (21 : Nat) "LeadlightHall$Sheet" "streaks" "C") ∈ am_WS := am_in (am_tb1 (List.mem_of_getElem? (i := 134) rfl)) (by decide +kernel)
set_option maxRecDepth 100000 in
theorem wd_135 : (Jvm.Cond.fieldLink "LeadlightHall$Sheet" (25 : Nat) "LeadlightHall$Sheet" "used" "[I") ∈ am_WS := am_in (am_tb1 (List.mem_of_getElem? (i := 135) rfl)) (by decide +kernel)
set_option maxRecDepth 100000 in
theorem wd_14 : (Jvm.Cond.initialized "java/lang/IndexOutOfBoundsException") ∈ am_WS := am_in (am_tb1 (List.mem_of_getElem? (i := 14) rfl)) (by decide +kernel)
set_option maxRecDepth 100000 in
theorem wd_147 : (Jvm.Cond.fieldLink "LeadlightHall" (12 : Nat) "LeadlightHall" "wall" "LLeadlightHall$Wall;") ∈ am_WS := am_in (am_tb1 (List.mem_of_getElem? (i := 147) rfl)) (by decide +kernel)
set_option maxRecDepth 100000 in
theorem wd_148 : (Jvm.Cond.fieldLink "LeadlightHall" (18 : Nat) "LeadlightHall" "panes" "[LLeadlightHall$Pane;") ∈ am_WS := am_in (am_tb1 (List.mem_of_getElem? (i := 148) rfl)) (by decide +kernel)
set_option maxRecDepth 100000 in
theorem wd_149 : (Jvm.Cond.fieldLink "LeadlightHall" (24 : Nat) "LeadlightHall" "sheets" "[LLeadlightHall$Sheet;") ∈ am_WS := am_in (am_tb1 (List.mem_of_getElem? (i := 149) rfl)) (by decide +kernel)
set_option maxRecDepth 100000 in
theorem wd_15 : (Jvm.Cond.initialized "java/lang/Integer") ∈ am_WS := am_in (am_tb1 (List.mem_of_getElem? (i := 15) rfl)) (by decide +kernel)
set_option maxRecDepth 100000 in
theorem wd_150 : (Jvm.Cond.fieldLink "LeadlightHall" (31 : Nat) "LeadlightHall" "frame" "LLeadlightHall$Frame;") ∈ am_WS := am_in (am_tb1 (List.mem_of_getElem? (i := 150) rfl)) (by decide +kernel)
set_option maxRecDepth 100000 in
theorem wd_151 : (Jvm.Cond.fieldLink "LeadlightHall" (35 : Nat) "LeadlightHall" "sheetCount" "I") ∈ am_WS := am_in (am_tb1 (List.mem_of_getElem? (i := 151) rfl)) (by decide +kernel)
set_option maxRecDepth 100000 in
theorem wd_152 : (Jvm.Cond.fieldLink "LeadlightHall" (39 : Nat) "LeadlightHall" "cellsTaken" "I") ∈ am_WS := am_in (am_tb1 (List.mem_of_getElem? (i := 152) rfl)) (by decide +kernel)
set_option maxRecDepth 100000 in
theorem wd_153 : (Jvm.Cond.fieldLink "LeadlightHall" (42 : Nat) "LeadlightHall" "z" "I") ∈ am_WS := am_in (am_tb1 (List.mem_of_getElem? (i := 153) rfl)) (by decide +kernel)
set_option maxRecDepth 100000 in
theorem wd_154 : (Jvm.Cond.fieldLink "LeadlightHall" (45 : Nat) "LeadlightHall" "isSoldered" "Z") ∈ am_WS := am_in (am_tb1 (List.mem_of_getElem? (i := 154) rfl)) (by decide +kernel)
set_option maxRecDepth 100000 in
theorem wd_155 : (Jvm.Cond.fieldLink "LeadlightHall" (49 : Nat) "LeadlightHall" "upYear" "I") ∈ am_WS := am_in (am_tb1 (List.mem_of_getElem? (i := 155) rfl)) (by decide +kernel)
set_option maxRecDepth 100000 in
theorem wd_156 : (Jvm.Cond.fieldLink "LeadlightHall" (52 : Nat) "LeadlightHall" "now" "I") ∈ am_WS := am_in (am_tb1 (List.mem_of_getElem? (i := 156) rfl)) (by decide +kernel)
set_option maxRecDepth 100000 in
theorem wd_157 : (Jvm.Cond.fieldLink "LeadlightHall" (55 : Nat) "LeadlightHall" "mends" "I") ∈ am_WS := am_in (am_tb1 (List.mem_of_getElem? (i := 157) rfl)) (by decide +kernel)
set_option maxRecDepth 100000 in
theorem wd_158 : (Jvm.Cond.fieldLink "LeadlightHall" (61 : Nat) "LeadlightHall" "shape" "LLeadlightHall$Shape;") ∈ am_WS := am_in (am_tb1 (List.mem_of_getElem? (i := 158) rfl)) (by decide +kernel)
set_option maxRecDepth 100000 in
theorem wd_159 : (Jvm.Cond.fieldLink "LeadlightHall" (65 : Nat) "LeadlightHall" "near" "LLeadlightHall$Shape;") ∈ am_WS := am_in (am_tb1 (List.mem_of_getElem? (i := 159) rfl)) (by decide +kernel)
set_option maxRecDepth 100000 in
theorem wd_16 : (Jvm.Cond.initialized "java/lang/Math") ∈ am_WS := am_in (am_tb1 (List.mem_of_getElem? (i := 16) rfl)) (by decide +kernel)
set_option maxRecDepth 100000 in
theorem wd_160 : (Jvm.Cond.fieldLink "LeadlightHall" (68 : Nat) "LeadlightHall" "far" "LLeadlightHall$Shape;") ∈ am_WS := am_in (am_tb1 (List.mem_of_getElem? (i := 160) rfl)) (by decide +kernel)
set_option maxRecDepth 100000 in
theorem wd_161 : (Jvm.Cond.fieldLink "LeadlightHall" (71 : Nat) "LeadlightHall" "waits" "[I") ∈ am_WS := am_in (am_tb1 (List.mem_of_getElem? (i := 161) rfl)) (by decide +kernel)
set_option maxRecDepth 100000 in
theorem wd_162 : (Jvm.Cond.fieldLink "LeadlightHall" (78 : Nat) "LeadlightHall" "unlike" "LLeadlightHall$YearSet;") ∈ am_WS := am_in (am_tb1 (List.mem_of_getElem? (i := 162) rfl)) (by decide +kernel)
set_option maxRecDepth 100000 in
theorem wd_17 : (Jvm.Cond.initialized "java/lang/IllegalStateException") ∈ am_WS := am_in (am_tb1 (List.mem_of_getElem? (i := 17) rfl)) (by decide +kernel)
set_option maxRecDepth 100000 in
theorem wd_18 : (Jvm.Cond.initialized "java/util/NoSuchElementException") ∈ am_WS := am_in (am_tb1 (List.mem_of_getElem? (i := 18) rfl)) (by decide +kernel)
set_option maxRecDepth 100000 in
theorem wd_19 : (Jvm.Cond.classLink "LeadlightHallLaw" (10 : Nat) "LeadlightHall") ∈ am_WS := am_in (am_tb1 (List.mem_of_getElem? (i := 19) rfl)) (by decide +kernel)
set_option maxRecDepth 100000 in
theorem wd_196 : (Jvm.Cond.methodLink "LeadlightHallLaw" (81 : Nat) yX7_lead) ∈ am_WS := am_in (am_tb1 (List.mem_of_getElem? (i := 196) rfl)) (by decide +kernel)
set_option maxRecDepth 100000 in
theorem wd_197 : (Jvm.Cond.instanceMethod yX7_lead) ∈ am_WS := am_in (am_tb1 (List.mem_of_getElem? (i := 197) rfl)) (by decide +kernel)
set_option maxRecDepth 100000 in
theorem wd_198 : (Jvm.Cond.selects "LeadlightHall" yX7_lead yX7_lead) ∈ am_WS := am_in (am_tb1 (List.mem_of_getElem? (i := 198) rfl)) (by decide +kernel)
set_option maxRecDepth 100000 in
theorem wd_199 : (Jvm.Cond.code yX7_lead prog_1_method_10_code (1 : Nat) (Option.some Jvm.ClassFile.FieldType.int)) ∈ am_WS := am_in (am_tb1 (List.mem_of_getElem? (i := 199) rfl)) (by decide +kernel)
set_option maxRecDepth 100000 in
theorem wd_2 : (Jvm.Cond.initialized "LeadlightHall$Wall") ∈ am_WS := am_in (am_tb1 (List.mem_of_getElem? (i := 2) rfl)) (by decide +kernel)
set_option maxRecDepth 100000 in
theorem wd_20 : (Jvm.Cond.instantiable "LeadlightHall" (16 : Nat)) ∈ am_WS := am_in (am_tb1 (List.mem_of_getElem? (i := 20) rfl)) (by decide +kernel)
set_option maxRecDepth 100000 in
theorem wd_200 : (Jvm.Cond.methodLink "LeadlightHall" (169 : Nat) yX5_leadedSides) ∈ am_WS := am_in (am_tb1 (List.mem_of_getElem? (i := 200) rfl)) (by decide +kernel)
set_option maxRecDepth 100000 in
theorem wd_201 : (Jvm.Cond.instanceMethod yX5_leadedSides) ∈ am_WS := am_in (am_tb1 (List.mem_of_getElem? (i := 201) rfl)) (by decide +kernel)
set_option maxRecDepth 100000 in
theorem wd_202 : (Jvm.Cond.selects "LeadlightHall$Wall" yX5_leadedSides yX5_leadedSides) ∈ am_WS := am_in (am_tb1 (List.mem_of_getElem? (i := 202) rfl)) (by decide +kernel)
set_option maxRecDepth 100000 in
theorem wd_203 : (Jvm.Cond.code yX5_leadedSides prog_7_method_8_code (4 : Nat) (Option.some Jvm.ClassFile.FieldType.int)) ∈ am_WS := am_in (am_tb1 (List.mem_of_getElem? (i := 203) rfl)) (by decide +kernel)
set_option maxRecDepth 100000 in
theorem wd_204 : (Jvm.Cond.methodLink "LeadlightHall$Wall" (31 : Nat) yX5_at) ∈ am_WS := am_in (am_tb1 (List.mem_of_getElem? (i := 204) rfl)) (by decide +kernel)
set_option maxRecDepth 100000 in
theorem wd_205 : (Jvm.Cond.instanceMethod yX5_at) ∈ am_WS := am_in (am_tb1 (List.mem_of_getElem? (i := 205) rfl)) (by decide +kernel)
set_option maxRecDepth 100000 in
theorem wd_206 : (Jvm.Cond.selects "LeadlightHall$Wall" yX5_at yX5_at) ∈ am_WS := am_in (am_tb1 (List.mem_of_getElem? (i := 206) rfl)) (by decide +kernel)
set_option maxRecDepth 100000 in
theorem wd_207 : (Jvm.Cond.code yX5_at prog_7_method_2_code (3 : Nat) (Option.some Jvm.ClassFile.FieldType.int)) ∈ am_WS := am_in (am_tb1 (List.mem_of_getElem? (i := 207) rfl)) (by decide +kernel)
set_option maxRecDepth 100000 in
theorem wd_209 : (Jvm.Cond.static yX7_isInside) ∈ am_WS := am_in (am_tb1 (List.mem_of_getElem? (i := 209) rfl)) (by decide +kernel)
set_option maxRecDepth 100000 in
theorem wd_21 : (Jvm.Cond.methodLink "LeadlightHallLaw" (58 : Nat) yX7_init) ∈ am_WS := am_in (am_tb1 (List.mem_of_getElem? (i := 21) rfl)) (by decide +kernel)
set_option maxRecDepth 100000 in
theorem wd_210 : (Jvm.Cond.code yX7_isInside prog_1_method_46_code (2 : Nat) (Option.some Jvm.ClassFile.FieldType.boolean)) ∈ am_WS := am_in (am_tb1 (List.mem_of_getElem? (i := 210) rfl)) (by decide +kernel)
set_option maxRecDepth 100000 in
theorem wd_211 : (Jvm.Cond.methodLink "LeadlightHall$Wall" (39 : Nat) yX5_leadBetween) ∈ am_WS := am_in (am_tb1 (List.mem_of_getElem? (i := 211) rfl)) (by decide +kernel)
set_option maxRecDepth 100000 in
theorem wd_212 : (Jvm.Cond.static yX5_leadBetween) ∈ am_WS := am_in (am_tb1 (List.mem_of_getElem? (i := 212) rfl)) (by decide +kernel)
set_option maxRecDepth 100000 in
theorem wd_213 : (Jvm.Cond.code yX5_leadBetween prog_7_method_12_code (2 : Nat) (Option.some Jvm.ClassFile.FieldType.int)) ∈ am_WS := am_in (am_tb1 (List.mem_of_getElem? (i := 213) rfl)) (by decide +kernel)
set_option maxRecDepth 100000 in
theorem wd_214 : (Jvm.Cond.methodLink "LeadlightHallLaw" (85 : Nat) yX7_joints) ∈ am_WS := am_in (am_tb1 (List.mem_of_getElem? (i := 214) rfl)) (by decide +kernel)
set_option maxRecDepth 100000 in
theorem wd_215 : (Jvm.Cond.instanceMethod yX7_joints) ∈ am_WS := am_in (am_tb1 (List.mem_of_getElem? (i := 215) rfl)) (by decide +kernel)
set_option maxRecDepth 100000 in
theorem wd_216 : (Jvm.Cond.selects "LeadlightHall" yX7_joints yX7_joints) ∈ am_WS := am_in (am_tb1 (List.mem_of_getElem? (i := 216) rfl)) (by decide +kernel)
set_option maxRecDepth 100000 in
theorem wd_217 : (Jvm.Cond.code yX7_joints prog_1_method_11_code (1 : Nat) (Option.some Jvm.ClassFile.FieldType.int)) ∈ am_WS := am_in (am_tb1 (List.mem_of_getElem? (i := 217) rfl)) (by decide +kernel)
set_option maxRecDepth 100000 in
theorem wd_218 : (Jvm.Cond.methodLink "LeadlightHall" (172 : Nat) yX5_meetingPoints) ∈ am_WS := am_in (am_tb1 (List.mem_of_getElem? (i := 218) rfl)) (by decide +kernel)
set_option maxRecDepth 100000 in
theorem wd_219 : (Jvm.Cond.instanceMethod yX5_meetingPoints) ∈ am_WS := am_in (am_tb1 (List.mem_of_getElem? (i := 219) rfl)) (by decide +kernel)
set_option maxRecDepth 100000 in
theorem wd_22 : (Jvm.Cond.instanceMethod yX7_init) ∈ am_WS := am_in (am_tb1 (List.mem_of_getElem? (i := 22) rfl)) (by decide +kernel)
set_option maxRecDepth 100000 in
theorem wd_220 : (Jvm.Cond.selects "LeadlightHall$Wall" yX5_meetingPoints yX5_meetingPoints) ∈ am_WS := am_in (am_tb1 (List.mem_of_getElem? (i := 220) rfl)) (by decide +kernel)
set_option maxRecDepth 100000 in
theorem wd_221 : (Jvm.Cond.code yX5_meetingPoints prog_7_method_9_code (5 : Nat) (Option.some Jvm.ClassFile.FieldType.int)) ∈ am_WS := am_in (am_tb1 (List.mem_of_getElem? (i := 221) rfl)) (by decide +kernel)
set_option maxRecDepth 100000 in
theorem wd_222 : (Jvm.Cond.methodLink "LeadlightHallLaw" (96 : Nat) yX7_meanCells) ∈ am_WS := am_in (am_tb1 (List.mem_of_getElem? (i := 222) rfl)) (by decide +kernel)
set_option maxRecDepth 100000 in
theorem wd_223 : (Jvm.Cond.instanceMethod yX7_meanCells) ∈ am_WS := am_in (am_tb1 (List.mem_of_getElem? (i := 223) rfl)) (by decide +kernel)
set_option maxRecDepth 100000 in
theorem wd_224 : (Jvm.Cond.selects "LeadlightHall" yX7_meanCells yX7_meanCells) ∈ am_WS := am_in (am_tb1 (List.mem_of_getElem? (i := 224) rfl)) (by decide +kernel)
set_option maxRecDepth 100000 in
theorem wd_225 : (Jvm.Cond.code yX7_meanCells prog_1_method_43_code (3 : Nat) (Option.some Jvm.ClassFile.FieldType.double)) ∈ am_WS := am_in (am_tb1 (List.mem_of_getElem? (i := 225) rfl)) (by decide +kernel)
set_option maxRecDepth 100000 in
theorem wd_226 : (Jvm.Cond.methodLink "LeadlightHall" (309 : Nat) yX5_piecesWithCells) ∈ am_WS := am_in (am_tb1 (List.mem_of_getElem? (i := 226) rfl)) (by decide +kernel)
set_option maxRecDepth 100000 in
theorem wd_227 : (Jvm.Cond.instanceMethod yX5_piecesWithCells) ∈ am_WS := am_in (am_tb1 (List.mem_of_getElem? (i := 227) rfl)) (by decide +kernel)
set_option maxRecDepth 100000 in
theorem wd_228 : (Jvm.Cond.selects "LeadlightHall$Wall" yX5_piecesWithCells yX5_piecesWithCells) ∈ am_WS := am_in (am_tb1 (List.mem_of_getElem? (i := 228) rfl)) (by decide +kernel)
set_option maxRecDepth 100000 in
theorem wd_229 : (Jvm.Cond.code yX5_piecesWithCells prog_7_method_6_code (3 : Nat) (Option.some Jvm.ClassFile.FieldType.int)) ∈ am_WS := am_in (am_tb1 (List.mem_of_getElem? (i := 229) rfl)) (by decide +kernel)
set_option maxRecDepth 100000 in
theorem wd_23 : (Jvm.Cond.code yX7_init prog_1_method_1_code (2 : Nat) (Option.none : Option Jvm.ClassFile.FieldType)) ∈ am_WS := am_in (am_tb1 (List.mem_of_getElem? (i := 23) rfl)) (by decide +kernel)
set_option maxRecDepth 100000 in
theorem wd_230 : (Jvm.Cond.methodLink "LeadlightHall" (279 : Nat) yJ6_bitCount_0f7a4) ∈ am_WS := am_in (am_tb1 (List.mem_of_getElem? (i := 230) rfl)) (by decide +kernel)
set_option maxRecDepth 100000 in
theorem wd_231 : (Jvm.Cond.static yJ6_bitCount_0f7a4) ∈ am_WS := am_in (am_tb1 (List.mem_of_getElem? (i := 231) rfl)) (by decide +kernel)
set_option maxRecDepth 100000 in
theorem wd_232 : (Jvm.Cond.code yJ6_bitCount_0f7a4 prog_16_method_49_code (1 : Nat) (Option.some Jvm.ClassFile.FieldType.int)) ∈ am_WS := am_in (am_tb1 (List.mem_of_getElem? (i := 232) rfl)) (by decide +kernel)
set_option maxRecDepth 100000 in
theorem wd_233 : (Jvm.Cond.constant "java/lang/Integer" (265 : Nat) (1431655765 : Int32)) ∈ am_WS := am_in (am_tb1 (List.mem_of_getElem? (i := 233) rfl)) (by decide +kernel)
set_option maxRecDepth 100000 in
theorem wd_234 : (Jvm.Cond.constant "java/lang/Integer" (266 : Nat) (858993459 : Int32)) ∈ am_WS := am_in (am_tb1 (List.mem_of_getElem? (i := 234) rfl)) (by decide +kernel)
set_option maxRecDepth 100000 in
theorem wd_235 : (Jvm.Cond.constant "java/lang/Integer" (267 : Nat) (252645135 : Int32)) ∈ am_WS := am_in (am_tb1 (List.mem_of_getElem? (i := 235) rfl)) (by decide +kernel)
set_option maxRecDepth 100000 in
theorem wd_236 : (Jvm.Cond.classLink "LeadlightHall" (404 : Nat) "java/util/NoSuchElementException") ∈ am_WS := am_in (am_tb1 (List.mem_of_getElem? (i := 236) rfl)) (by decide +kernel)
set_option maxRecDepth 100000 in
theorem wd_24 : (Jvm.Cond.methodLink "LeadlightHall" (3 : Nat) ({ cls := "java/lang/Object", name := "<init>", desc := "()V" } : Jvm.MethodName)) ∈ am_WS := am_in (am_tb1 (List.mem_of_getElem? (i := 24) rfl)) (by decide +kernel)
set_option maxRecDepth 100000 in
theorem wd_27 : (Jvm.Cond.classLink "LeadlightHall" (9 : Nat) "LeadlightHall$Wall") ∈ am_WS := am_in (am_tb1 (List.mem_of_getElem? (i := 27) rfl)) (by decide +kernel)
set_option maxRecDepth 100000 in
theorem wd_28 : (Jvm.Cond.instantiable "LeadlightHall$Wall" (1 : Nat)) ∈ am_WS := am_in (am_tb1 (List.mem_of_getElem? (i := 28) rfl)) (by decide +kernel)
set_option maxRecDepth 100000 in
theorem wd_29 : (Jvm.Cond.methodLink "LeadlightHall" (11 : Nat) yX5_init) ∈ am_WS := am_in (am_tb1 (List.mem_of_getElem? (i := 29) rfl)) (by decide +kernel)
set_option maxRecDepth 100000 in
theorem wd_3 : (Jvm.Cond.initialized "LeadlightHall$Frame") ∈ am_WS := am_in (am_tb1 (List.mem_of_getElem? (i := 3) rfl)) (by decide +kernel)
set_option maxRecDepth 100000 in
theorem wd_30 : (Jvm.Cond.instanceMethod yX5_init) ∈ am_WS := am_in (am_tb1 (List.mem_of_getElem? (i := 30) rfl)) (by decide +kernel)
set_option maxRecDepth 100000 in
theorem wd_306 : (Jvm.Cond.methodLink "LeadlightHall" (120 : Nat) yX5_cellsOf) ∈ am_WS := am_in (am_tb2 (List.mem_of_getElem? (i := 66) rfl)) (by decide +kernel)
set_option maxRecDepth 100000 in
theorem wd_307 : (Jvm.Cond.instanceMethod yX5_cellsOf) ∈ am_WS := am_in (am_tb2 (List.mem_of_getElem? (i := 67) rfl)) (by decide +kernel)
set_option maxRecDepth 100000 in
theorem wd_308 : (Jvm.Cond.selects "LeadlightHall$Wall" yX5_cellsOf yX5_cellsOf) ∈ am_WS := am_in (am_tb2 (List.mem_of_getElem? (i := 68) rfl)) (by decide +kernel)
set_option maxRecDepth 100000 in
theorem wd_309 : (Jvm.Cond.code yX5_cellsOf prog_7_method_5_code (4 : Nat) (Option.some Jvm.ClassFile.FieldType.int)) ∈ am_WS := am_in (am_tb2 (List.mem_of_getElem? (i := 69) rfl)) (by decide +kernel)
set_option maxRecDepth 100000 in
theorem wd_31 : (Jvm.Cond.code yX5_init prog_7_method_1_code (2 : Nat) (Option.none : Option Jvm.ClassFile.FieldType)) ∈ am_WS := am_in (am_tb1 (List.mem_of_getElem? (i := 31) rfl)) (by decide +kernel)
set_option maxRecDepth 100000 in
theorem wd_310 : (Jvm.Cond.methodLink "LeadlightHallLaw" (102 : Nat) yX7_isSound) ∈ am_WS := am_in (am_tb2 (List.mem_of_getElem? (i := 70) rfl)) (by decide +kernel)
set_option maxRecDepth 100000 in
theorem wd_311 : (Jvm.Cond.instanceMethod yX7_isSound) ∈ am_WS := am_in (am_tb2 (List.mem_of_getElem? (i := 71) rfl)) (by decide +kernel)
set_option maxRecDepth 100000 in
theorem wd_312 : (Jvm.Cond.selects "LeadlightHall" yX7_isSound yX7_isSound) ∈ am_WS := am_in (am_tb2 (List.mem_of_getElem? (i := 72) rfl)) (by decide +kernel)
set_option maxRecDepth 100000 in
theorem wd_313 : (Jvm.Cond.code yX7_isSound prog_1_method_44_code (5 : Nat) (Option.some Jvm.ClassFile.FieldType.boolean)) ∈ am_WS := am_in (am_tb2 (List.mem_of_getElem? (i := 73) rfl)) (by decide +kernel)
set_option maxRecDepth 100000 in
theorem wd_314 : (Jvm.Cond.methodLink "LeadlightHall" (409 : Nat) yX4_usedCells) ∈ am_WS := am_in (am_tb2 (List.mem_of_getElem? (i := 74) rfl)) (by decide +kernel)
set_option maxRecDepth 100000 in
theorem wd_315 : (Jvm.Cond.instanceMethod yX4_usedCells) ∈ am_WS := am_in (am_tb2 (List.mem_of_getElem? (i := 75) rfl)) (by decide +kernel)
set_option maxRecDepth 100000 in
theorem wd_316 : (Jvm.Cond.selects "LeadlightHall$Sheet" yX4_usedCells yX4_usedCells) ∈ am_WS := am_in (am_tb2 (List.mem_of_getElem? (i := 76) rfl)) (by decide +kernel)
set_option maxRecDepth 100000 in
theorem wd_317 : (Jvm.Cond.code yX4_usedCells prog_6_method_3_code (3 : Nat) (Option.some Jvm.ClassFile.FieldType.int)) ∈ am_WS := am_in (am_tb2 (List.mem_of_getElem? (i := 77) rfl)) (by decide +kernel)
set_option maxRecDepth 100000 in
theorem wd_318 : (Jvm.Cond.methodLink "LeadlightHall$Sheet" (29 : Nat) yJ6_bitCount_0f7a4) ∈ am_WS := am_in (am_tb2 (List.mem_of_getElem? (i := 78) rfl)) (by decide +kernel)
set_option maxRecDepth 100000 in
theorem wd_319 : (Jvm.Cond.methodLink "LeadlightHall" (305 : Nat) yX5_waitsInto) ∈ am_WS := am_in (am_tb2 (List.mem_of_getElem? (i := 79) rfl)) (by decide +kernel)
set_option maxRecDepth 100000 in
theorem wd_32 : (Jvm.Cond.methodLink "LeadlightHall$Wall" (3 : Nat) ({ cls := "java/lang/Object", name := "<init>", desc := "()V" } : Jvm.MethodName)) ∈ am_WS := am_in (am_tb1 (List.mem_of_getElem? (i := 32) rfl)) (by decide +kernel)
set_option maxRecDepth 100000 in
theorem wd_320 : (Jvm.Cond.instanceMethod yX5_waitsInto) ∈ am_WS := am_in (am_tb2 (List.mem_of_getElem? (i := 80) rfl)) (by decide +kernel)
set_option maxRecDepth 100000 in
theorem wd_321 : (Jvm.Cond.selects "LeadlightHall$Wall" yX5_waitsInto yX5_waitsInto) ∈ am_WS := am_in (am_tb2 (List.mem_of_getElem? (i := 81) rfl)) (by decide +kernel)
set_option maxRecDepth 100000 in
theorem wd_322 : (Jvm.Cond.code yX5_waitsInto prog_7_method_10_code (5 : Nat) (Option.none : Option Jvm.ClassFile.FieldType)) ∈ am_WS := am_in (am_tb2 (List.mem_of_getElem? (i := 82) rfl)) (by decide +kernel)
set_option maxRecDepth 100000 in
theorem wd_323 : (Jvm.Cond.methodLink "LeadlightHall$Wall" (42 : Nat) yX5_bitOf) ∈ am_WS := am_in (am_tb2 (List.mem_of_getElem? (i := 83) rfl)) (by decide +kernel)
set_option maxRecDepth 100000 in
theorem wd_324 : (Jvm.Cond.static yX5_bitOf) ∈ am_WS := am_in (am_tb2 (List.mem_of_getElem? (i := 84) rfl)) (by decide +kernel)
set_option maxRecDepth 100000 in
theorem wd_325 : (Jvm.Cond.code yX5_bitOf prog_7_method_11_code (2 : Nat) (Option.some Jvm.ClassFile.FieldType.int)) ∈ am_WS := am_in (am_tb2 (List.mem_of_getElem? (i := 85) rfl)) (by decide +kernel)
set_option maxRecDepth 100000 in
theorem wd_326 : (Jvm.Cond.constant "LeadlightHall$Wall" (45 : Nat) (1073741824 : Int32)) ∈ am_WS := am_in (am_tb2 (List.mem_of_getElem? (i := 86) rfl)) (by decide +kernel)
set_option maxRecDepth 100000 in
theorem wd_327 : (Jvm.Cond.methodLink "LeadlightHall" (286 : Nat) yX7_panesThatAre) ∈ am_WS := am_in (am_tb2 (List.mem_of_getElem? (i := 87) rfl)) (by decide +kernel)
set_option maxRecDepth 100000 in
theorem wd_329 : (Jvm.Cond.instanceMethod yX7_panesThatAre) ∈ am_WS := am_in (am_tb2 (List.mem_of_getElem? (i := 89) rfl)) (by decide +kernel)
set_option maxRecDepth 100000 in
theorem wd_33 : (Jvm.Cond.fieldLink "LeadlightHall$Wall" (9 : Nat) "LeadlightHall$Wall" "cells" "[I") ∈ am_WS := am_in (am_tb1 (List.mem_of_getElem? (i := 33) rfl)) (by decide +kernel)
set_option maxRecDepth 100000 in
theorem wd_330 : (Jvm.Cond.code yX7_panesThatAre prog_1_method_58_code (4 : Nat) (Option.some Jvm.ClassFile.FieldType.int)) ∈ am_WS := am_in (am_tb2 (List.mem_of_getElem? (i := 90) rfl)) (by decide +kernel)
set_option maxRecDepth 100000 in
theorem wd_331 : (Jvm.Cond.methodLink "LeadlightHall" (111 : Nat) yX2_hasGlass) ∈ am_WS := am_in (am_tb2 (List.mem_of_getElem? (i := 91) rfl)) (by decide +kernel)
set_option maxRecDepth 100000 in
theorem wd_332 : (Jvm.Cond.instanceMethod yX2_hasGlass) ∈ am_WS := am_in (am_tb2 (List.mem_of_getElem? (i := 92) rfl)) (by decide +kernel)
set_option maxRecDepth 100000 in
theorem wd_333 : (Jvm.Cond.selects "LeadlightHall$Pane" yX2_hasGlass yX2_hasGlass) ∈ am_WS := am_in (am_tb2 (List.mem_of_getElem? (i := 93) rfl)) (by decide +kernel)
set_option maxRecDepth 100000 in
theorem wd_334 : (Jvm.Cond.code yX2_hasGlass prog_4_method_2_code (1 : Nat) (Option.some Jvm.ClassFile.FieldType.boolean)) ∈ am_WS := am_in (am_tb2 (List.mem_of_getElem? (i := 94) rfl)) (by decide +kernel)
set_option maxRecDepth 100000 in
theorem wd_335 : (Jvm.Cond.methodLink "LeadlightHall" (412 : Nat) yX7_isCuttable) ∈ am_WS := am_in (am_tb2 (List.mem_of_getElem? (i := 95) rfl)) (by decide +kernel)
set_option maxRecDepth 100000 in
theorem wd_337 : (Jvm.Cond.instanceMethod yX7_isCuttable) ∈ am_WS := am_in (am_tb2 (List.mem_of_getElem? (i := 97) rfl)) (by decide +kernel)
set_option maxRecDepth 100000 in
theorem wd_338 : (Jvm.Cond.code yX7_isCuttable prog_1_method_63_code (2 : Nat) (Option.some Jvm.ClassFile.FieldType.boolean)) ∈ am_WS := am_in (am_tb2 (List.mem_of_getElem? (i := 98) rfl)) (by decide +kernel)
set_option maxRecDepth 100000 in
theorem wd_339 : (Jvm.Cond.methodLink "LeadlightHall" (128 : Nat) yX5_shapeInto) ∈ am_WS := am_in (am_tb2 (List.mem_of_getElem? (i := 99) rfl)) (by decide +kernel)
set_option maxRecDepth 100000 in
theorem wd_340 : (Jvm.Cond.instanceMethod yX5_shapeInto) ∈ am_WS := am_in (am_tb2 (List.mem_of_getElem? (i := 100) rfl)) (by decide +kernel)
set_option maxRecDepth 100000 in
theorem wd_341 : (Jvm.Cond.selects "LeadlightHall$Wall" yX5_shapeInto yX5_shapeInto) ∈ am_WS := am_in (am_tb2 (List.mem_of_getElem? (i := 101) rfl)) (by decide +kernel)
set_option maxRecDepth 100000 in
theorem wd_342 : (Jvm.Cond.code yX5_shapeInto prog_7_method_7_code (5 : Nat) (Option.none : Option Jvm.ClassFile.FieldType)) ∈ am_WS := am_in (am_tb2 (List.mem_of_getElem? (i := 102) rfl)) (by decide +kernel)
set_option maxRecDepth 100000 in
theorem wd_343 : (Jvm.Cond.methodLink "LeadlightHall$Wall" (28 : Nat) yX3_clear) ∈ am_WS := am_in (am_tb2 (List.mem_of_getElem? (i := 103) rfl)) (by decide +kernel)
set_option maxRecDepth 100000 in
theorem wd_344 : (Jvm.Cond.instanceMethod yX3_clear) ∈ am_WS := am_in (am_tb2 (List.mem_of_getElem? (i := 104) rfl)) (by decide +kernel)
set_option maxRecDepth 100000 in
theorem wd_345 : (Jvm.Cond.selects "LeadlightHall$Shape" yX3_clear yX3_clear) ∈ am_WS := am_in (am_tb2 (List.mem_of_getElem? (i := 105) rfl)) (by decide +kernel)
set_option maxRecDepth 100000 in
theorem wd_346 : (Jvm.Cond.code yX3_clear prog_5_method_2_code (2 : Nat) (Option.none : Option Jvm.ClassFile.FieldType)) ∈ am_WS := am_in (am_tb2 (List.mem_of_getElem? (i := 106) rfl)) (by decide +kernel)
set_option maxRecDepth 100000 in
theorem wd_347 : (Jvm.Cond.methodLink "LeadlightHall$Wall" (35 : Nat) yX3_add) ∈ am_WS := am_in (am_tb2 (List.mem_of_getElem? (i := 107) rfl)) (by decide +kernel)
set_option maxRecDepth 100000 in
theorem wd_348 : (Jvm.Cond.instanceMethod yX3_add) ∈ am_WS := am_in (am_tb2 (List.mem_of_getElem? (i := 108) rfl)) (by decide +kernel)
set_option maxRecDepth 100000 in
theorem wd_349 : (Jvm.Cond.selects "LeadlightHall$Shape" yX3_add yX3_add) ∈ am_WS := am_in (am_tb2 (List.mem_of_getElem? (i := 109) rfl)) (by decide +kernel)
set_option maxRecDepth 100000 in
theorem wd_350 : (Jvm.Cond.code yX3_add prog_5_method_3_code (3 : Nat) (Option.none : Option Jvm.ClassFile.FieldType)) ∈ am_WS := am_in (am_tb2 (List.mem_of_getElem? (i := 110) rfl)) (by decide +kernel)
set_option maxRecDepth 100000 in
theorem wd_352 : (Jvm.Cond.methodLink "LeadlightHall" (438 : Nat) yX3_isWhole) ∈ am_WS := am_in (am_tb2 (List.mem_of_getElem? (i := 112) rfl)) (by decide +kernel)
set_option maxRecDepth 100000 in
theorem wd_353 : (Jvm.Cond.instanceMethod yX3_isWhole) ∈ am_WS := am_in (am_tb2 (List.mem_of_getElem? (i := 113) rfl)) (by decide +kernel)
set_option maxRecDepth 100000 in
theorem wd_354 : (Jvm.Cond.selects "LeadlightHall$Shape" yX3_isWhole yX3_isWhole) ∈ am_WS := am_in (am_tb2 (List.mem_of_getElem? (i := 114) rfl)) (by decide +kernel)
set_option maxRecDepth 100000 in
theorem wd_355 : (Jvm.Cond.code yX3_isWhole prog_5_method_8_code (4 : Nat) (Option.some Jvm.ClassFile.FieldType.boolean)) ∈ am_WS := am_in (am_tb2 (List.mem_of_getElem? (i := 115) rfl)) (by decide +kernel)
set_option maxRecDepth 100000 in
theorem wd_356 : (Jvm.Cond.methodLink "LeadlightHall$Shape" (42 : Nat) yX3_grow) ∈ am_WS := am_in (am_tb2 (List.mem_of_getElem? (i := 116) rfl)) (by decide +kernel)
set_option maxRecDepth 100000 in
theorem wd_358 : (Jvm.Cond.instanceMethod yX3_grow) ∈ am_WS := am_in (am_tb2 (List.mem_of_getElem? (i := 118) rfl)) (by decide +kernel)
set_option maxRecDepth 100000 in
theorem wd_359 : (Jvm.Cond.code yX3_grow prog_5_method_9_code (6 : Nat) (Option.some Jvm.ClassFile.FieldType.boolean)) ∈ am_WS := am_in (am_tb2 (List.mem_of_getElem? (i := 119) rfl)) (by decide +kernel)
set_option maxRecDepth 100000 in
theorem wd_360 : (Jvm.Cond.methodLink "LeadlightHall" (132 : Nat) yX3_innerCorners) ∈ am_WS := am_in (am_tb2 (List.mem_of_getElem? (i := 120) rfl)) (by decide +kernel)
set_option maxRecDepth 100000 in
theorem wd_361 : (Jvm.Cond.instanceMethod yX3_innerCorners) ∈ am_WS := am_in (am_tb2 (List.mem_of_getElem? (i := 121) rfl)) (by decide +kernel)
set_option maxRecDepth 100000 in
theorem wd_362 : (Jvm.Cond.selects "LeadlightHall$Shape" yX3_innerCorners yX3_innerCorners) ∈ am_WS := am_in (am_tb2 (List.mem_of_getElem? (i := 122) rfl)) (by decide +kernel)
set_option maxRecDepth 100000 in
theorem wd_363 : (Jvm.Cond.code yX3_innerCorners prog_5_method_10_code (5 : Nat) (Option.some Jvm.ClassFile.FieldType.int)) ∈ am_WS := am_in (am_tb2 (List.mem_of_getElem? (i := 123) rfl)) (by decide +kernel)
set_option maxRecDepth 100000 in
theorem wd_364 : (Jvm.Cond.methodLink "LeadlightHall$Shape" (22 : Nat) yJ6_bitCount_0f7a4) ∈ am_WS := am_in (am_tb2 (List.mem_of_getElem? (i := 124) rfl)) (by decide +kernel)
set_option maxRecDepth 100000 in
theorem wd_365 : (Jvm.Cond.methodLink "LeadlightHall" (296 : Nat) yX1_rawLayers) ∈ am_WS := am_in (am_tb2 (List.mem_of_getElem? (i := 125) rfl)) (by decide +kernel)
set_option maxRecDepth 100000 in
theorem wd_366 : (Jvm.Cond.instanceMethod yX1_rawLayers) ∈ am_WS := am_in (am_tb2 (List.mem_of_getElem? (i := 126) rfl)) (by decide +kernel)
set_option maxRecDepth 100000 in
theorem wd_367 : (Jvm.Cond.selects "LeadlightHall$Paint" yX1_rawLayers yX1_rawLayers) ∈ am_WS := am_in (am_tb2 (List.mem_of_getElem? (i := 127) rfl)) (by decide +kernel)
set_option maxRecDepth 100000 in
theorem wd_368 : (Jvm.Cond.code yX1_rawLayers prog_3_method_7_code (3 : Nat) (Option.some Jvm.ClassFile.FieldType.int)) ∈ am_WS := am_in (am_tb2 (List.mem_of_getElem? (i := 128) rfl)) (by decide +kernel)
set_option maxRecDepth 100000 in
theorem wd_369 : (Jvm.Cond.methodLink "LeadlightHallLaw" (61 : Nat) yL_open) ∈ am_WS := am_in (am_tb2 (List.mem_of_getElem? (i := 129) rfl)) (by decide +kernel)
set_option maxRecDepth 100000 in
theorem wd_37 : (Jvm.Cond.arrayClass Jvm.ClassFile.FieldType.int) ∈ am_WS := am_in (am_tb1 (List.mem_of_getElem? (i := 37) rfl)) (by decide +kernel)
set_option maxRecDepth 100000 in
theorem wd_370 : (Jvm.Cond.static yL_open) ∈ am_WS := am_in (am_tb2 (List.mem_of_getElem? (i := 130) rfl)) (by decide +kernel)
set_option maxRecDepth 100000 in
theorem wd_371 : (Jvm.Cond.codeWith yL_open method_3_code (7 : Nat) (Option.some Jvm.ClassFile.FieldType.int) [((0 : Nat), (11 : Nat), (12 : Nat), (15 : Nat)), ((0 : Nat), (11 : Nat), (17 : Nat), (18 : Nat))]) ∈ am_WS := am_in (am_tb2 (List.mem_of_getElem? (i := 131) rfl)) (by decide +kernel)
set_option maxRecDepth 100000 in
theorem wd_372 : (Jvm.Cond.classLink "LeadlightHallLaw" (15 : Nat) "java/lang/IllegalArgumentException") ∈ am_WS := am_in (am_tb2 (List.mem_of_getElem? (i := 132) rfl)) (by decide +kernel)
set_option maxRecDepth 100000 in
theorem wd_373 : (Jvm.Cond.classLink "LeadlightHallLaw" (18 : Nat) "java/lang/UnsupportedOperationException") ∈ am_WS := am_in (am_tb2 (List.mem_of_getElem? (i := 133) rfl)) (by decide +kernel)
set_option maxRecDepth 100000 in
theorem wd_374 : (Jvm.Cond.methodLink "LeadlightHallLaw" (9 : Nat) yX7_open) ∈ am_WS := am_in (am_tb2 (List.mem_of_getElem? (i := 134) rfl)) (by decide +kernel)
set_option maxRecDepth 100000 in
theorem wd_375 : (Jvm.Cond.instanceMethod yX7_open) ∈ am_WS := am_in (am_tb2 (List.mem_of_getElem? (i := 135) rfl)) (by decide +kernel)
set_option maxRecDepth 100000 in
theorem wd_376 : (Jvm.Cond.selects "LeadlightHall" yX7_open yX7_open) ∈ am_WS := am_in (am_tb2 (List.mem_of_getElem? (i := 136) rfl)) (by decide +kernel)
set_option maxRecDepth 100000 in
theorem wd_377 : (Jvm.Cond.code yX7_open prog_1_method_2_code (10 : Nat) (Option.some Jvm.ClassFile.FieldType.int)) ∈ am_WS := am_in (am_tb2 (List.mem_of_getElem? (i := 137) rfl)) (by decide +kernel)
set_option maxRecDepth 100000 in
theorem wd_378 : (Jvm.Cond.methodLink "LeadlightHall" (84 : Nat) yX7_requireCells) ∈ am_WS := am_in (am_tb2 (List.mem_of_getElem? (i := 138) rfl)) (by decide +kernel)
set_option maxRecDepth 100000 in
theorem wd_379 : (Jvm.Cond.static yX7_requireCells) ∈ am_WS := am_in (am_tb2 (List.mem_of_getElem? (i := 139) rfl)) (by decide +kernel)
set_option maxRecDepth 100000 in
theorem wd_38 : (Jvm.Cond.classLink "LeadlightHall" (16 : Nat) "LeadlightHall$Pane") ∈ am_WS := am_in (am_tb1 (List.mem_of_getElem? (i := 38) rfl)) (by decide +kernel)
set_option maxRecDepth 100000 in
theorem wd_380 : (Jvm.Cond.code yX7_requireCells prog_1_method_53_code (4 : Nat) (Option.none : Option Jvm.ClassFile.FieldType)) ∈ am_WS := am_in (am_tb2 (List.mem_of_getElem? (i := 140) rfl)) (by decide +kernel)
set_option maxRecDepth 100000 in
theorem wd_381 : (Jvm.Cond.methodLink "LeadlightHall" (420 : Nat) yX7_isInside) ∈ am_WS := am_in (am_tb2 (List.mem_of_getElem? (i := 141) rfl)) (by decide +kernel)
set_option maxRecDepth 100000 in
theorem wd_382 : (Jvm.Cond.classLink "LeadlightHall" (187 : Nat) "java/lang/IllegalArgumentException") ∈ am_WS := am_in (am_tb2 (List.mem_of_getElem? (i := 142) rfl)) (by decide +kernel)
set_option maxRecDepth 100000 in
theorem wd_398 : (Jvm.Cond.methodLink "LeadlightHall" (88 : Nat) yX7_isGlassWithin) ∈ am_WS := am_in (am_tb2 (List.mem_of_getElem? (i := 158) rfl)) (by decide +kernel)
set_option maxRecDepth 100000 in
theorem wd_4 : (Jvm.Cond.initialized "LeadlightHall$Shape") ∈ am_WS := am_in (am_tb1 (List.mem_of_getElem? (i := 4) rfl)) (by decide +kernel)
set_option maxRecDepth 100000 in
theorem wd_40 : (Jvm.Cond.classLink "LeadlightHall" (22 : Nat) "LeadlightHall$Sheet") ∈ am_WS := am_in (am_tb1 (List.mem_of_getElem? (i := 40) rfl)) (by decide +kernel)
set_option maxRecDepth 100000 in
theorem wd_400 : (Jvm.Cond.instanceMethod yX7_isGlassWithin) ∈ am_WS := am_in (am_tb2 (List.mem_of_getElem? (i := 160) rfl)) (by decide +kernel)
set_option maxRecDepth 100000 in
theorem wd_401 : (Jvm.Cond.code yX7_isGlassWithin prog_1_method_60_code (8 : Nat) (Option.some Jvm.ClassFile.FieldType.boolean)) ∈ am_WS := am_in (am_tb2 (List.mem_of_getElem? (i := 161) rfl)) (by decide +kernel)
set_option maxRecDepth 100000 in
theorem wd_402 : (Jvm.Cond.methodLink "LeadlightHall" (99 : Nat) yX5_at) ∈ am_WS := am_in (am_tb2 (List.mem_of_getElem? (i := 162) rfl)) (by decide +kernel)
set_option maxRecDepth 100000 in
theorem wd_403 : (Jvm.Cond.methodLink "LeadlightHall" (367 : Nat) yX7_isPiece) ∈ am_WS := am_in (am_tb2 (List.mem_of_getElem? (i := 163) rfl)) (by decide +kernel)
set_option maxRecDepth 100000 in
theorem wd_404 : (Jvm.Cond.static yX7_isPiece) ∈ am_WS := am_in (am_tb2 (List.mem_of_getElem? (i := 164) rfl)) (by decide +kernel)
set_option maxRecDepth 100000 in
theorem wd_405 : (Jvm.Cond.code yX7_isPiece prog_1_method_47_code (1 : Nat) (Option.some Jvm.ClassFile.FieldType.boolean)) ∈ am_WS := am_in (am_tb2 (List.mem_of_getElem? (i := 165) rfl)) (by decide +kernel)
set_option maxRecDepth 100000 in
theorem wd_406 : (Jvm.Cond.methodLink "LeadlightHall" (179 : Nat) yX7_isWithin) ∈ am_WS := am_in (am_tb2 (List.mem_of_getElem? (i := 166) rfl)) (by decide +kernel)
set_option maxRecDepth 100000 in
theorem wd_407 : (Jvm.Cond.static yX7_isWithin) ∈ am_WS := am_in (am_tb2 (List.mem_of_getElem? (i := 167) rfl)) (by decide +kernel)
set_option maxRecDepth 100000 in
theorem wd_408 : (Jvm.Cond.code yX7_isWithin prog_1_method_45_code (3 : Nat) (Option.some Jvm.ClassFile.FieldType.boolean)) ∈ am_WS := am_in (am_tb2 (List.mem_of_getElem? (i := 168) rfl)) (by decide +kernel)
set_option maxRecDepth 100000 in
theorem wd_409 : (Jvm.Cond.classLink "LeadlightHall" (92 : Nat) "java/lang/UnsupportedOperationException") ∈ am_WS := am_in (am_tb2 (List.mem_of_getElem? (i := 169) rfl)) (by decide +kernel)
set_option maxRecDepth 100000 in
theorem wd_42 : (Jvm.Cond.classLink "LeadlightHall" (28 : Nat) "LeadlightHall$Frame") ∈ am_WS := am_in (am_tb1 (List.mem_of_getElem? (i := 42) rfl)) (by decide +kernel)
set_option maxRecDepth 100000 in
theorem wd_425 : (Jvm.Cond.methodLink "LeadlightHall" (103 : Nat) yX5_put) ∈ am_WS := am_in (am_tb2 (List.mem_of_getElem? (i := 185) rfl)) (by decide +kernel)
set_option maxRecDepth 100000 in
theorem wd_426 : (Jvm.Cond.instanceMethod yX5_put) ∈ am_WS := am_in (am_tb2 (List.mem_of_getElem? (i := 186) rfl)) (by decide +kernel)
set_option maxRecDepth 100000 in
theorem wd_427 : (Jvm.Cond.selects "LeadlightHall$Wall" yX5_put yX5_put) ∈ am_WS := am_in (am_tb2 (List.mem_of_getElem? (i := 187) rfl)) (by decide +kernel)
set_option maxRecDepth 100000 in
theorem wd_428 : (Jvm.Cond.code yX5_put prog_7_method_3_code (4 : Nat) (Option.none : Option Jvm.ClassFile.FieldType)) ∈ am_WS := am_in (am_tb2 (List.mem_of_getElem? (i := 188) rfl)) (by decide +kernel)
set_option maxRecDepth 100000 in
theorem wd_429 : (Jvm.Cond.constant "LeadlightHallLaw" (17 : Nat) (-900001 : Int32)) ∈ am_WS := am_in (am_tb2 (List.mem_of_getElem? (i := 189) rfl)) (by decide +kernel)
set_option maxRecDepth 100000 in
theorem wd_43 : (Jvm.Cond.instantiable "LeadlightHall$Frame" (3 : Nat)) ∈ am_WS := am_in (am_tb1 (List.mem_of_getElem? (i := 43) rfl)) (by decide +kernel)
set_option maxRecDepth 100000 in
theorem wd_430 : (Jvm.Cond.constant "LeadlightHallLaw" (20 : Nat) (-900002 : Int32)) ∈ am_WS := am_in (am_tb2 (List.mem_of_getElem? (i := 190) rfl)) (by decide +kernel)
set_option maxRecDepth 100000 in
theorem wd_431 : (Jvm.Cond.methodLink "LeadlightHallLaw" (64 : Nat) yL_lay) ∈ am_WS := am_in (am_tb2 (List.mem_of_getElem? (i := 191) rfl)) (by decide +kernel)
set_option maxRecDepth 100000 in
theorem wd_432 : (Jvm.Cond.static yL_lay) ∈ am_WS := am_in (am_tb2 (List.mem_of_getElem? (i := 192) rfl)) (by decide +kernel)
set_option maxRecDepth 100000 in
theorem wd_433 : (Jvm.Cond.codeWith yL_lay method_4_code (7 : Nat) (Option.some Jvm.ClassFile.FieldType.int) [((0 : Nat), (11 : Nat), (12 : Nat), (25 : Nat)), ((0 : Nat), (11 : Nat), (17 : Nat), (15 : Nat)), ((0 : Nat), (11 : Nat), (22 : Nat), (18 : Nat))]) ∈ am_WS := am_in (am_tb2 (List.mem_of_getElem? (i := 193) rfl)) (by decide +kernel)
set_option maxRecDepth 100000 in
theorem wd_434 : (Jvm.Cond.classLink "LeadlightHallLaw" (25 : Nat) "java/lang/IndexOutOfBoundsException") ∈ am_WS := am_in (am_tb2 (List.mem_of_getElem? (i := 194) rfl)) (by decide +kernel)
set_option maxRecDepth 100000 in
theorem wd_435 : (Jvm.Cond.methodLink "LeadlightHallLaw" (21 : Nat) yX7_lay) ∈ am_WS := am_in (am_tb2 (List.mem_of_getElem? (i := 195) rfl)) (by decide +kernel)
set_option maxRecDepth 100000 in
theorem wd_436 : (Jvm.Cond.instanceMethod yX7_lay) ∈ am_WS := am_in (am_tb2 (List.mem_of_getElem? (i := 196) rfl)) (by decide +kernel)
set_option maxRecDepth 100000 in
theorem wd_437 : (Jvm.Cond.selects "LeadlightHall" yX7_lay yX7_lay) ∈ am_WS := am_in (am_tb2 (List.mem_of_getElem? (i := 197) rfl)) (by decide +kernel)
set_option maxRecDepth 100000 in
theorem wd_438 : (Jvm.Cond.code yX7_lay prog_1_method_3_code (8 : Nat) (Option.some Jvm.ClassFile.FieldType.int)) ∈ am_WS := am_in (am_tb2 (List.mem_of_getElem? (i := 198) rfl)) (by decide +kernel)
set_option maxRecDepth 100000 in
theorem wd_439 : (Jvm.Cond.methodLink "LeadlightHall" (107 : Nat) yX7_requirePiece) ∈ am_WS := am_in (am_tb2 (List.mem_of_getElem? (i := 199) rfl)) (by decide +kernel)
set_option maxRecDepth 100000 in
theorem wd_440 : (Jvm.Cond.static yX7_requirePiece) ∈ am_WS := am_in (am_tb2 (List.mem_of_getElem? (i := 200) rfl)) (by decide +kernel)
set_option maxRecDepth 100000 in
theorem wd_441 : (Jvm.Cond.code yX7_requirePiece prog_1_method_50_code (1 : Nat) (Option.none : Option Jvm.ClassFile.FieldType)) ∈ am_WS := am_in (am_tb2 (List.mem_of_getElem? (i := 201) rfl)) (by decide +kernel)
set_option maxRecDepth 100000 in
theorem wd_442 : (Jvm.Cond.classLink "LeadlightHall" (415 : Nat) "java/lang/IndexOutOfBoundsException") ∈ am_WS := am_in (am_tb2 (List.mem_of_getElem? (i := 202) rfl)) (by decide +kernel)
set_option maxRecDepth 100000 in
theorem wd_45 : (Jvm.Cond.instanceMethod yX0_init) ∈ am_WS := am_in (am_tb1 (List.mem_of_getElem? (i := 45) rfl)) (by decide +kernel)
set_option maxRecDepth 100000 in
theorem wd_458 : (Jvm.Cond.methodLink "LeadlightHall" (115 : Nat) yX7_isOpenWithin) ∈ am_WS := am_in (am_tb2 (List.mem_of_getElem? (i := 218) rfl)) (by decide +kernel)
set_option maxRecDepth 100000 in
theorem wd_46 : (Jvm.Cond.code yX0_init prog_2_method_1_code (1 : Nat) (Option.none : Option Jvm.ClassFile.FieldType)) ∈ am_WS := am_in (am_tb1 (List.mem_of_getElem? (i := 46) rfl)) (by decide +kernel)
set_option maxRecDepth 100000 in
theorem wd_460 : (Jvm.Cond.instanceMethod yX7_isOpenWithin) ∈ am_WS := am_in (am_tb2 (List.mem_of_getElem? (i := 220) rfl)) (by decide +kernel)
set_option maxRecDepth 100000 in
theorem wd_461 : (Jvm.Cond.code yX7_isOpenWithin prog_1_method_61_code (7 : Nat) (Option.some Jvm.ClassFile.FieldType.boolean)) ∈ am_WS := am_in (am_tb2 (List.mem_of_getElem? (i := 221) rfl)) (by decide +kernel)
set_option maxRecDepth 100000 in
theorem wd_463 : (Jvm.Cond.constant "LeadlightHallLaw" (27 : Nat) (-900003 : Int32)) ∈ am_WS := am_in (am_tb2 (List.mem_of_getElem? (i := 223) rfl)) (by decide +kernel)
set_option maxRecDepth 100000 in
theorem wd_464 : (Jvm.Cond.methodLink "LeadlightHallLaw" (67 : Nat) yL_pieceAt) ∈ am_WS := am_in (am_tb2 (List.mem_of_getElem? (i := 224) rfl)) (by decide +kernel)
set_option maxRecDepth 100000 in
theorem wd_465 : (Jvm.Cond.static yL_pieceAt) ∈ am_WS := am_in (am_tb2 (List.mem_of_getElem? (i := 225) rfl)) (by decide +kernel)
set_option maxRecDepth 100000 in
theorem wd_466 : (Jvm.Cond.codeWith yL_pieceAt method_5_code (4 : Nat) (Option.some Jvm.ClassFile.FieldType.int) [((0 : Nat), (6 : Nat), (7 : Nat), (15 : Nat))]) ∈ am_WS := am_in (am_tb2 (List.mem_of_getElem? (i := 226) rfl)) (by decide +kernel)
set_option maxRecDepth 100000 in
theorem wd_467 : (Jvm.Cond.methodLink "LeadlightHallLaw" (28 : Nat) yX7_pieceAt) ∈ am_WS := am_in (am_tb2 (List.mem_of_getElem? (i := 227) rfl)) (by decide +kernel)
set_option maxRecDepth 100000 in
theorem wd_468 : (Jvm.Cond.instanceMethod yX7_pieceAt) ∈ am_WS := am_in (am_tb2 (List.mem_of_getElem? (i := 228) rfl)) (by decide +kernel)
set_option maxRecDepth 100000 in
theorem wd_469 : (Jvm.Cond.selects "LeadlightHall" yX7_pieceAt yX7_pieceAt) ∈ am_WS := am_in (am_tb2 (List.mem_of_getElem? (i := 229) rfl)) (by decide +kernel)
set_option maxRecDepth 100000 in
theorem wd_47 : (Jvm.Cond.methodLink "LeadlightHall$Frame" (3 : Nat) ({ cls := "java/lang/Object", name := "<init>", desc := "()V" } : Jvm.MethodName)) ∈ am_WS := am_in (am_tb1 (List.mem_of_getElem? (i := 47) rfl)) (by decide +kernel)
set_option maxRecDepth 100000 in
theorem wd_470 : (Jvm.Cond.code yX7_pieceAt prog_1_method_4_code (3 : Nat) (Option.some Jvm.ClassFile.FieldType.int)) ∈ am_WS := am_in (am_tb2 (List.mem_of_getElem? (i := 230) rfl)) (by decide +kernel)
set_option maxRecDepth 100000 in
theorem wd_471 : (Jvm.Cond.methodLink "LeadlightHall" (124 : Nat) yX7_requireCell) ∈ am_WS := am_in (am_tb2 (List.mem_of_getElem? (i := 231) rfl)) (by decide +kernel)
set_option maxRecDepth 100000 in
theorem wd_472 : (Jvm.Cond.static yX7_requireCell) ∈ am_WS := am_in (am_tb2 (List.mem_of_getElem? (i := 232) rfl)) (by decide +kernel)
set_option maxRecDepth 100000 in
theorem wd_473 : (Jvm.Cond.code yX7_requireCell prog_1_method_52_code (2 : Nat) (Option.none : Option Jvm.ClassFile.FieldType)) ∈ am_WS := am_in (am_tb2 (List.mem_of_getElem? (i := 233) rfl)) (by decide +kernel)
set_option maxRecDepth 100000 in
theorem wd_475 : (Jvm.Cond.methodLink "LeadlightHallLaw" (70 : Nat) yL_size) ∈ am_WS := am_in (am_tb2 (List.mem_of_getElem? (i := 235) rfl)) (by decide +kernel)
set_option maxRecDepth 100000 in
theorem wd_476 : (Jvm.Cond.static yL_size) ∈ am_WS := am_in (am_tb2 (List.mem_of_getElem? (i := 236) rfl)) (by decide +kernel)
set_option maxRecDepth 100000 in
theorem wd_477 : (Jvm.Cond.codeWith yL_size method_6_code (3 : Nat) (Option.some Jvm.ClassFile.FieldType.int) [((0 : Nat), (5 : Nat), (6 : Nat), (25 : Nat))]) ∈ am_WS := am_in (am_tb2 (List.mem_of_getElem? (i := 237) rfl)) (by decide +kernel)
set_option maxRecDepth 100000 in
theorem wd_478 : (Jvm.Cond.methodLink "LeadlightHallLaw" (32 : Nat) yX7_size) ∈ am_WS := am_in (am_tb2 (List.mem_of_getElem? (i := 238) rfl)) (by decide +kernel)
set_option maxRecDepth 100000 in
theorem wd_479 : (Jvm.Cond.instanceMethod yX7_size) ∈ am_WS := am_in (am_tb2 (List.mem_of_getElem? (i := 239) rfl)) (by decide +kernel)
set_option maxRecDepth 100000 in
theorem wd_48 : (Jvm.Cond.fieldLink "LeadlightHall$Frame" (9 : Nat) "LeadlightHall$Frame" "bars" "I") ∈ am_WS := am_in (am_tb1 (List.mem_of_getElem? (i := 48) rfl)) (by decide +kernel)
set_option maxRecDepth 100000 in
theorem wd_480 : (Jvm.Cond.selects "LeadlightHall" yX7_size yX7_size) ∈ am_WS := am_in (am_tb3 (List.mem_of_getElem? (i := 0) rfl)) (by decide +kernel)
set_option maxRecDepth 100000 in
theorem wd_481 : (Jvm.Cond.code yX7_size prog_1_method_5_code (2 : Nat) (Option.some Jvm.ClassFile.FieldType.int)) ∈ am_WS := am_in (am_tb3 (List.mem_of_getElem? (i := 1) rfl)) (by decide +kernel)
set_option maxRecDepth 100000 in
theorem wd_482 : (Jvm.Cond.methodLink "LeadlightHallLaw" (88 : Nat) yL_corners) ∈ am_WS := am_in (am_tb3 (List.mem_of_getElem? (i := 2) rfl)) (by decide +kernel)
set_option maxRecDepth 100000 in
theorem wd_483 : (Jvm.Cond.static yL_corners) ∈ am_WS := am_in (am_tb3 (List.mem_of_getElem? (i := 3) rfl)) (by decide +kernel)
set_option maxRecDepth 100000 in
theorem wd_484 : (Jvm.Cond.codeWith yL_corners method_7_code (3 : Nat) (Option.some Jvm.ClassFile.FieldType.int) [((0 : Nat), (5 : Nat), (6 : Nat), (25 : Nat))]) ∈ am_WS := am_in (am_tb3 (List.mem_of_getElem? (i := 4) rfl)) (by decide +kernel)
set_option maxRecDepth 100000 in
theorem wd_485 : (Jvm.Cond.methodLink "LeadlightHallLaw" (36 : Nat) yX7_corners) ∈ am_WS := am_in (am_tb3 (List.mem_of_getElem? (i := 5) rfl)) (by decide +kernel)
set_option maxRecDepth 100000 in
theorem wd_486 : (Jvm.Cond.instanceMethod yX7_corners) ∈ am_WS := am_in (am_tb3 (List.mem_of_getElem? (i := 6) rfl)) (by decide +kernel)
set_option maxRecDepth 100000 in
theorem wd_487 : (Jvm.Cond.selects "LeadlightHall" yX7_corners yX7_corners) ∈ am_WS := am_in (am_tb3 (List.mem_of_getElem? (i := 7) rfl)) (by decide +kernel)
set_option maxRecDepth 100000 in
theorem wd_488 : (Jvm.Cond.code yX7_corners prog_1_method_6_code (2 : Nat) (Option.some Jvm.ClassFile.FieldType.int)) ∈ am_WS := am_in (am_tb3 (List.mem_of_getElem? (i := 8) rfl)) (by decide +kernel)
set_option maxRecDepth 100000 in
theorem wd_489 : (Jvm.Cond.methodLink "LeadlightHallLaw" (90 : Nat) yL_point) ∈ am_WS := am_in (am_tb3 (List.mem_of_getElem? (i := 9) rfl)) (by decide +kernel)
set_option maxRecDepth 100000 in
theorem wd_49 : (Jvm.Cond.fieldLink "LeadlightHall$Frame" (15 : Nat) "LeadlightHall$Frame" "profile" "I") ∈ am_WS := am_in (am_tb1 (List.mem_of_getElem? (i := 49) rfl)) (by decide +kernel)
set_option maxRecDepth 100000 in
theorem wd_490 : (Jvm.Cond.static yL_point) ∈ am_WS := am_in (am_tb3 (List.mem_of_getElem? (i := 10) rfl)) (by decide +kernel)
set_option maxRecDepth 100000 in
theorem wd_491 : (Jvm.Cond.codeWith yL_point method_8_code (3 : Nat) (Option.some Jvm.ClassFile.FieldType.int) [((0 : Nat), (5 : Nat), (6 : Nat), (25 : Nat))]) ∈ am_WS := am_in (am_tb3 (List.mem_of_getElem? (i := 11) rfl)) (by decide +kernel)
set_option maxRecDepth 100000 in
theorem wd_492 : (Jvm.Cond.methodLink "LeadlightHallLaw" (39 : Nat) yX7_point) ∈ am_WS := am_in (am_tb3 (List.mem_of_getElem? (i := 12) rfl)) (by decide +kernel)
set_option maxRecDepth 100000 in
theorem wd_493 : (Jvm.Cond.instanceMethod yX7_point) ∈ am_WS := am_in (am_tb3 (List.mem_of_getElem? (i := 13) rfl)) (by decide +kernel)
set_option maxRecDepth 100000 in
theorem wd_494 : (Jvm.Cond.selects "LeadlightHall" yX7_point yX7_point) ∈ am_WS := am_in (am_tb3 (List.mem_of_getElem? (i := 14) rfl)) (by decide +kernel)
set_option maxRecDepth 100000 in
theorem wd_495 : (Jvm.Cond.code yX7_point prog_1_method_7_code (2 : Nat) (Option.some Jvm.ClassFile.FieldType.int)) ∈ am_WS := am_in (am_tb3 (List.mem_of_getElem? (i := 15) rfl)) (by decide +kernel)
set_option maxRecDepth 100000 in
theorem wd_496 : (Jvm.Cond.methodLink "LeadlightHall" (136 : Nat) yX3_longestNarrow) ∈ am_WS := am_in (am_tb3 (List.mem_of_getElem? (i := 16) rfl)) (by decide +kernel)
set_option maxRecDepth 100000 in
theorem wd_497 : (Jvm.Cond.instanceMethod yX3_longestNarrow) ∈ am_WS := am_in (am_tb3 (List.mem_of_getElem? (i := 17) rfl)) (by decide +kernel)
set_option maxRecDepth 100000 in
theorem wd_498 : (Jvm.Cond.selects "LeadlightHall$Shape" yX3_longestNarrow yX3_longestNarrow) ∈ am_WS := am_in (am_tb3 (List.mem_of_getElem? (i := 18) rfl)) (by decide +kernel)
set_option maxRecDepth 100000 in
theorem wd_499 : (Jvm.Cond.code yX3_longestNarrow prog_5_method_11_code (3 : Nat) (Option.some Jvm.ClassFile.FieldType.int)) ∈ am_WS := am_in (am_tb3 (List.mem_of_getElem? (i := 19) rfl)) (by decide +kernel)
set_option maxRecDepth 100000 in
theorem wd_5 : (Jvm.Cond.initialized "LeadlightHall$YearSet") ∈ am_WS := am_in (am_tb1 (List.mem_of_getElem? (i := 5) rfl)) (by decide +kernel)
set_option maxRecDepth 100000 in
theorem wd_50 : (Jvm.Cond.fieldLink "LeadlightHall$Frame" (18 : Nat) "LeadlightHall$Frame" "wind" "I") ∈ am_WS := am_in (am_tb1 (List.mem_of_getElem? (i := 50) rfl)) (by decide +kernel)
set_option maxRecDepth 100000 in
theorem wd_500 : (Jvm.Cond.methodLink "LeadlightHall$Shape" (45 : Nat) yX3_narrowInRow) ∈ am_WS := am_in (am_tb3 (List.mem_of_getElem? (i := 20) rfl)) (by decide +kernel)
set_option maxRecDepth 100000 in
theorem wd_502 : (Jvm.Cond.instanceMethod yX3_narrowInRow) ∈ am_WS := am_in (am_tb3 (List.mem_of_getElem? (i := 22) rfl)) (by decide +kernel)
set_option maxRecDepth 100000 in
theorem wd_503 : (Jvm.Cond.code yX3_narrowInRow prog_5_method_12_code (2 : Nat) (Option.some Jvm.ClassFile.FieldType.int)) ∈ am_WS := am_in (am_tb3 (List.mem_of_getElem? (i := 23) rfl)) (by decide +kernel)
set_option maxRecDepth 100000 in
theorem wd_504 : (Jvm.Cond.methodLink "LeadlightHall$Shape" (60 : Nat) yX3_row) ∈ am_WS := am_in (am_tb3 (List.mem_of_getElem? (i := 24) rfl)) (by decide +kernel)
set_option maxRecDepth 100000 in
theorem wd_505 : (Jvm.Cond.instanceMethod yX3_row) ∈ am_WS := am_in (am_tb3 (List.mem_of_getElem? (i := 25) rfl)) (by decide +kernel)
set_option maxRecDepth 100000 in
theorem wd_506 : (Jvm.Cond.selects "LeadlightHall$Shape" yX3_row yX3_row) ∈ am_WS := am_in (am_tb3 (List.mem_of_getElem? (i := 26) rfl)) (by decide +kernel)
set_option maxRecDepth 100000 in
theorem wd_507 : (Jvm.Cond.code yX3_row prog_5_method_5_code (2 : Nat) (Option.some Jvm.ClassFile.FieldType.int)) ∈ am_WS := am_in (am_tb3 (List.mem_of_getElem? (i := 27) rfl)) (by decide +kernel)
set_option maxRecDepth 100000 in
theorem wd_508 : (Jvm.Cond.methodLink "LeadlightHall$Shape" (48 : Nat) yX3_longestRun) ∈ am_WS := am_in (am_tb3 (List.mem_of_getElem? (i := 28) rfl)) (by decide +kernel)
set_option maxRecDepth 100000 in
theorem wd_509 : (Jvm.Cond.static yX3_longestRun) ∈ am_WS := am_in (am_tb3 (List.mem_of_getElem? (i := 29) rfl)) (by decide +kernel)
set_option maxRecDepth 100000 in
theorem wd_510 : (Jvm.Cond.code yX3_longestRun prog_5_method_14_code (4 : Nat) (Option.some Jvm.ClassFile.FieldType.int)) ∈ am_WS := am_in (am_tb3 (List.mem_of_getElem? (i := 30) rfl)) (by decide +kernel)
set_option maxRecDepth 100000 in
theorem wd_511 : (Jvm.Cond.methodLink "LeadlightHall$Shape" (51 : Nat) yJ9_max_7cf53) ∈ am_WS := am_in (am_tb3 (List.mem_of_getElem? (i := 31) rfl)) (by decide +kernel)
set_option maxRecDepth 100000 in
theorem wd_512 : (Jvm.Cond.static yJ9_max_7cf53) ∈ am_WS := am_in (am_tb3 (List.mem_of_getElem? (i := 32) rfl)) (by decide +kernel)
set_option maxRecDepth 100000 in
theorem wd_513 : (Jvm.Cond.code yJ9_max_7cf53 prog_17_method_65_code (2 : Nat) (Option.some Jvm.ClassFile.FieldType.int)) ∈ am_WS := am_in (am_tb3 (List.mem_of_getElem? (i := 33) rfl)) (by decide +kernel)
set_option maxRecDepth 100000 in
theorem wd_514 : (Jvm.Cond.methodLink "LeadlightHall$Shape" (57 : Nat) yX3_narrowInColumn) ∈ am_WS := am_in (am_tb3 (List.mem_of_getElem? (i := 34) rfl)) (by decide +kernel)
set_option maxRecDepth 100000 in
theorem wd_516 : (Jvm.Cond.instanceMethod yX3_narrowInColumn) ∈ am_WS := am_in (am_tb3 (List.mem_of_getElem? (i := 36) rfl)) (by decide +kernel)
set_option maxRecDepth 100000 in
theorem wd_517 : (Jvm.Cond.code yX3_narrowInColumn prog_5_method_13_code (4 : Nat) (Option.some Jvm.ClassFile.FieldType.int)) ∈ am_WS := am_in (am_tb3 (List.mem_of_getElem? (i := 37) rfl)) (by decide +kernel)
set_option maxRecDepth 100000 in
theorem wd_518 : (Jvm.Cond.methodLink "LeadlightHall$Shape" (63 : Nat) yX3_has) ∈ am_WS := am_in (am_tb3 (List.mem_of_getElem? (i := 38) rfl)) (by decide +kernel)
set_option maxRecDepth 100000 in
theorem wd_519 : (Jvm.Cond.instanceMethod yX3_has) ∈ am_WS := am_in (am_tb3 (List.mem_of_getElem? (i := 39) rfl)) (by decide +kernel)
set_option maxRecDepth 100000 in
theorem wd_520 : (Jvm.Cond.selects "LeadlightHall$Shape" yX3_has yX3_has) ∈ am_WS := am_in (am_tb3 (List.mem_of_getElem? (i := 40) rfl)) (by decide +kernel)
set_option maxRecDepth 100000 in
theorem wd_521 : (Jvm.Cond.code yX3_has prog_5_method_4_code (3 : Nat) (Option.some Jvm.ClassFile.FieldType.boolean)) ∈ am_WS := am_in (am_tb3 (List.mem_of_getElem? (i := 41) rfl)) (by decide +kernel)
set_option maxRecDepth 100000 in
theorem wd_522 : (Jvm.Cond.methodLink "LeadlightHallLaw" (92 : Nat) yL_hinders) ∈ am_WS := am_in (am_tb3 (List.mem_of_getElem? (i := 42) rfl)) (by decide +kernel)
set_option maxRecDepth 100000 in
theorem wd_523 : (Jvm.Cond.static yL_hinders) ∈ am_WS := am_in (am_tb3 (List.mem_of_getElem? (i := 43) rfl)) (by decide +kernel)
set_option maxRecDepth 100000 in
theorem wd_524 : (Jvm.Cond.codeWith yL_hinders method_9_code (3 : Nat) (Option.some Jvm.ClassFile.FieldType.int) [((0 : Nat), (5 : Nat), (6 : Nat), (25 : Nat))]) ∈ am_WS := am_in (am_tb3 (List.mem_of_getElem? (i := 44) rfl)) (by decide +kernel)
set_option maxRecDepth 100000 in
theorem wd_525 : (Jvm.Cond.methodLink "LeadlightHallLaw" (42 : Nat) yX7_hinders) ∈ am_WS := am_in (am_tb3 (List.mem_of_getElem? (i := 45) rfl)) (by decide +kernel)
set_option maxRecDepth 100000 in
theorem wd_526 : (Jvm.Cond.instanceMethod yX7_hinders) ∈ am_WS := am_in (am_tb3 (List.mem_of_getElem? (i := 46) rfl)) (by decide +kernel)
set_option maxRecDepth 100000 in
theorem wd_527 : (Jvm.Cond.selects "LeadlightHall" yX7_hinders yX7_hinders) ∈ am_WS := am_in (am_tb3 (List.mem_of_getElem? (i := 47) rfl)) (by decide +kernel)
set_option maxRecDepth 100000 in
theorem wd_528 : (Jvm.Cond.code yX7_hinders prog_1_method_8_code (2 : Nat) (Option.some Jvm.ClassFile.FieldType.char)) ∈ am_WS := am_in (am_tb3 (List.mem_of_getElem? (i := 48) rfl)) (by decide +kernel)
set_option maxRecDepth 100000 in
theorem wd_529 : (Jvm.Cond.methodLink "LeadlightHall" (139 : Nat) yX3_hindrance) ∈ am_WS := am_in (am_tb3 (List.mem_of_getElem? (i := 49) rfl)) (by decide +kernel)
set_option maxRecDepth 100000 in
theorem wd_530 : (Jvm.Cond.instanceMethod yX3_hindrance) ∈ am_WS := am_in (am_tb3 (List.mem_of_getElem? (i := 50) rfl)) (by decide +kernel)
set_option maxRecDepth 100000 in
theorem wd_531 : (Jvm.Cond.selects "LeadlightHall$Shape" yX3_hindrance yX3_hindrance) ∈ am_WS := am_in (am_tb3 (List.mem_of_getElem? (i := 51) rfl)) (by decide +kernel)
set_option maxRecDepth 100000 in
theorem wd_532 : (Jvm.Cond.code yX3_hindrance prog_5_method_7_code (1 : Nat) (Option.some Jvm.ClassFile.FieldType.char)) ∈ am_WS := am_in (am_tb3 (List.mem_of_getElem? (i := 52) rfl)) (by decide +kernel)
set_option maxRecDepth 100000 in
theorem wd_533 : (Jvm.Cond.methodLink "LeadlightHall$Shape" (28 : Nat) yX3_cellCount) ∈ am_WS := am_in (am_tb3 (List.mem_of_getElem? (i := 53) rfl)) (by decide +kernel)
set_option maxRecDepth 100000 in
theorem wd_534 : (Jvm.Cond.instanceMethod yX3_cellCount) ∈ am_WS := am_in (am_tb3 (List.mem_of_getElem? (i := 54) rfl)) (by decide +kernel)
set_option maxRecDepth 100000 in
theorem wd_535 : (Jvm.Cond.selects "LeadlightHall$Shape" yX3_cellCount yX3_cellCount) ∈ am_WS := am_in (am_tb3 (List.mem_of_getElem? (i := 55) rfl)) (by decide +kernel)
set_option maxRecDepth 100000 in
theorem wd_536 : (Jvm.Cond.code yX3_cellCount prog_5_method_6_code (3 : Nat) (Option.some Jvm.ClassFile.FieldType.int)) ∈ am_WS := am_in (am_tb3 (List.mem_of_getElem? (i := 56) rfl)) (by decide +kernel)
set_option maxRecDepth 100000 in
theorem wd_537 : (Jvm.Cond.methodLink "LeadlightHall$Shape" (32 : Nat) yX3_isWhole) ∈ am_WS := am_in (am_tb3 (List.mem_of_getElem? (i := 57) rfl)) (by decide +kernel)
set_option maxRecDepth 100000 in
theorem wd_538 : (Jvm.Cond.methodLink "LeadlightHall$Shape" (36 : Nat) yX3_innerCorners) ∈ am_WS := am_in (am_tb3 (List.mem_of_getElem? (i := 58) rfl)) (by decide +kernel)
set_option maxRecDepth 100000 in
theorem wd_539 : (Jvm.Cond.methodLink "LeadlightHall$Shape" (39 : Nat) yX3_longestNarrow) ∈ am_WS := am_in (am_tb3 (List.mem_of_getElem? (i := 59) rfl)) (by decide +kernel)
set_option maxRecDepth 100000 in
theorem wd_540 : (Jvm.Cond.methodLink "LeadlightHallLaw" (94 : Nat) yL_split) ∈ am_WS := am_in (am_tb3 (List.mem_of_getElem? (i := 60) rfl)) (by decide +kernel)
set_option maxRecDepth 100000 in
theorem wd_541 : (Jvm.Cond.static yL_split) ∈ am_WS := am_in (am_tb3 (List.mem_of_getElem? (i := 61) rfl)) (by decide +kernel)
set_option maxRecDepth 100000 in
theorem wd_542 : (Jvm.Cond.codeWith yL_split method_10_code (3 : Nat) (Option.some Jvm.ClassFile.FieldType.int) [((0 : Nat), (5 : Nat), (6 : Nat), (25 : Nat)), ((0 : Nat), (5 : Nat), (10 : Nat), (18 : Nat)), ((0 : Nat), (5 : Nat), (14 : Nat), (49 : Nat))]) ∈ am_WS := am_in (am_tb3 (List.mem_of_getElem? (i := 62) rfl)) (by decide +kernel)
set_option maxRecDepth 100000 in
theorem wd_543 : (Jvm.Cond.classLink "LeadlightHallLaw" (49 : Nat) "java/lang/IllegalStateException") ∈ am_WS := am_in (am_tb3 (List.mem_of_getElem? (i := 63) rfl)) (by decide +kernel)
set_option maxRecDepth 100000 in
theorem wd_544 : (Jvm.Cond.methodLink "LeadlightHallLaw" (46 : Nat) yX7_split) ∈ am_WS := am_in (am_tb3 (List.mem_of_getElem? (i := 64) rfl)) (by decide +kernel)
set_option maxRecDepth 100000 in
theorem wd_545 : (Jvm.Cond.instanceMethod yX7_split) ∈ am_WS := am_in (am_tb3 (List.mem_of_getElem? (i := 65) rfl)) (by decide +kernel)
set_option maxRecDepth 100000 in
theorem wd_546 : (Jvm.Cond.selects "LeadlightHall" yX7_split yX7_split) ∈ am_WS := am_in (am_tb3 (List.mem_of_getElem? (i := 66) rfl)) (by decide +kernel)
set_option maxRecDepth 100000 in
theorem wd_547 : (Jvm.Cond.code yX7_split prog_1_method_9_code (4 : Nat) (Option.some Jvm.ClassFile.FieldType.int)) ∈ am_WS := am_in (am_tb3 (List.mem_of_getElem? (i := 67) rfl)) (by decide +kernel)
set_option maxRecDepth 100000 in
theorem wd_548 : (Jvm.Cond.methodLink "LeadlightHall" (143 : Nat) yX3_bestLead) ∈ am_WS := am_in (am_tb3 (List.mem_of_getElem? (i := 68) rfl)) (by decide +kernel)
set_option maxRecDepth 100000 in
theorem wd_549 : (Jvm.Cond.instanceMethod yX3_bestLead) ∈ am_WS := am_in (am_tb3 (List.mem_of_getElem? (i := 69) rfl)) (by decide +kernel)
set_option maxRecDepth 100000 in
theorem wd_550 : (Jvm.Cond.selects "LeadlightHall$Shape" yX3_bestLead yX3_bestLead) ∈ am_WS := am_in (am_tb3 (List.mem_of_getElem? (i := 70) rfl)) (by decide +kernel)
set_option maxRecDepth 100000 in
theorem wd_551 : (Jvm.Cond.code yX3_bestLead prog_5_method_15_code (6 : Nat) (Option.some Jvm.ClassFile.FieldType.int)) ∈ am_WS := am_in (am_tb3 (List.mem_of_getElem? (i := 71) rfl)) (by decide +kernel)
set_option maxRecDepth 100000 in
theorem wd_552 : (Jvm.Cond.methodLink "LeadlightHall$Shape" (66 : Nat) yX3_partBy) ∈ am_WS := am_in (am_tb3 (List.mem_of_getElem? (i := 72) rfl)) (by decide +kernel)
set_option maxRecDepth 100000 in
theorem wd_553 : (Jvm.Cond.instanceMethod yX3_partBy) ∈ am_WS := am_in (am_tb3 (List.mem_of_getElem? (i := 73) rfl)) (by decide +kernel)
set_option maxRecDepth 100000 in
theorem wd_554 : (Jvm.Cond.selects "LeadlightHall$Shape" yX3_partBy yX3_partBy) ∈ am_WS := am_in (am_tb3 (List.mem_of_getElem? (i := 74) rfl)) (by decide +kernel)
set_option maxRecDepth 100000 in
theorem wd_555 : (Jvm.Cond.code yX3_partBy prog_5_method_16_code (6 : Nat) (Option.none : Option Jvm.ClassFile.FieldType)) ∈ am_WS := am_in (am_tb3 (List.mem_of_getElem? (i := 75) rfl)) (by decide +kernel)
set_option maxRecDepth 100000 in
theorem wd_556 : (Jvm.Cond.methodLink "LeadlightHall$Shape" (70 : Nat) yX3_hindrance) ∈ am_WS := am_in (am_tb3 (List.mem_of_getElem? (i := 76) rfl)) (by decide +kernel)
set_option maxRecDepth 100000 in
theorem wd_557 : (Jvm.Cond.methodLink "LeadlightHall$Shape" (74 : Nat) yX3_touchesOver) ∈ am_WS := am_in (am_tb3 (List.mem_of_getElem? (i := 77) rfl)) (by decide +kernel)
set_option maxRecDepth 100000 in
theorem wd_559 : (Jvm.Cond.instanceMethod yX3_touchesOver) ∈ am_WS := am_in (am_tb3 (List.mem_of_getElem? (i := 79) rfl)) (by decide +kernel)
set_option maxRecDepth 100000 in
theorem wd_560 : (Jvm.Cond.code yX3_touchesOver prog_5_method_17_code (4 : Nat) (Option.some Jvm.ClassFile.FieldType.int)) ∈ am_WS := am_in (am_tb3 (List.mem_of_getElem? (i := 80) rfl)) (by decide +kernel)
set_option maxRecDepth 100000 in
theorem wd_562 : (Jvm.Cond.methodLink "LeadlightHall" (149 : Nat) yX7_lowestWithoutCells) ∈ am_WS := am_in (am_tb3 (List.mem_of_getElem? (i := 82) rfl)) (by decide +kernel)
set_option maxRecDepth 100000 in
theorem wd_564 : (Jvm.Cond.instanceMethod yX7_lowestWithoutCells) ∈ am_WS := am_in (am_tb3 (List.mem_of_getElem? (i := 84) rfl)) (by decide +kernel)
set_option maxRecDepth 100000 in
theorem wd_565 : (Jvm.Cond.code yX7_lowestWithoutCells prog_1_method_59_code (3 : Nat) (Option.some Jvm.ClassFile.FieldType.int)) ∈ am_WS := am_in (am_tb3 (List.mem_of_getElem? (i := 85) rfl)) (by decide +kernel)
set_option maxRecDepth 100000 in
theorem wd_566 : (Jvm.Cond.classLink "LeadlightHall" (152 : Nat) "java/lang/IllegalStateException") ∈ am_WS := am_in (am_tb3 (List.mem_of_getElem? (i := 86) rfl)) (by decide +kernel)
set_option maxRecDepth 100000 in
theorem wd_58 : (Jvm.Cond.classLink "LeadlightHall" (58 : Nat) "LeadlightHall$Shape") ∈ am_WS := am_in (am_tb1 (List.mem_of_getElem? (i := 58) rfl)) (by decide +kernel)
set_option maxRecDepth 100000 in
theorem wd_582 : (Jvm.Cond.methodLink "LeadlightHall" (157 : Nat) yX3_partBy) ∈ am_WS := am_in (am_tb3 (List.mem_of_getElem? (i := 102) rfl)) (by decide +kernel)
set_option maxRecDepth 100000 in
theorem wd_583 : (Jvm.Cond.methodLink "LeadlightHall" (161 : Nat) yX5_putShape) ∈ am_WS := am_in (am_tb3 (List.mem_of_getElem? (i := 103) rfl)) (by decide +kernel)
set_option maxRecDepth 100000 in
theorem wd_584 : (Jvm.Cond.instanceMethod yX5_putShape) ∈ am_WS := am_in (am_tb3 (List.mem_of_getElem? (i := 104) rfl)) (by decide +kernel)
set_option maxRecDepth 100000 in
theorem wd_585 : (Jvm.Cond.selects "LeadlightHall$Wall" yX5_putShape yX5_putShape) ∈ am_WS := am_in (am_tb3 (List.mem_of_getElem? (i := 105) rfl)) (by decide +kernel)
set_option maxRecDepth 100000 in
theorem wd_586 : (Jvm.Cond.code yX5_putShape prog_7_method_4_code (5 : Nat) (Option.none : Option Jvm.ClassFile.FieldType)) ∈ am_WS := am_in (am_tb3 (List.mem_of_getElem? (i := 106) rfl)) (by decide +kernel)
set_option maxRecDepth 100000 in
theorem wd_587 : (Jvm.Cond.methodLink "LeadlightHall$Wall" (19 : Nat) yX3_has) ∈ am_WS := am_in (am_tb3 (List.mem_of_getElem? (i := 107) rfl)) (by decide +kernel)
set_option maxRecDepth 100000 in
theorem wd_588 : (Jvm.Cond.methodLink "LeadlightHall$Wall" (24 : Nat) yX5_put) ∈ am_WS := am_in (am_tb3 (List.mem_of_getElem? (i := 108) rfl)) (by decide +kernel)
set_option maxRecDepth 100000 in
theorem wd_589 : (Jvm.Cond.methodLink "LeadlightHall" (165 : Nat) yX2_wantLike) ∈ am_WS := am_in (am_tb3 (List.mem_of_getElem? (i := 109) rfl)) (by decide +kernel)
set_option maxRecDepth 100000 in
theorem wd_59 : (Jvm.Cond.instantiable "LeadlightHall$Shape" (2 : Nat)) ∈ am_WS := am_in (am_tb1 (List.mem_of_getElem? (i := 59) rfl)) (by decide +kernel)
set_option maxRecDepth 100000 in
theorem wd_590 : (Jvm.Cond.instanceMethod yX2_wantLike) ∈ am_WS := am_in (am_tb3 (List.mem_of_getElem? (i := 110) rfl)) (by decide +kernel)
set_option maxRecDepth 100000 in
theorem wd_591 : (Jvm.Cond.selects "LeadlightHall$Pane" yX2_wantLike yX2_wantLike) ∈ am_WS := am_in (am_tb3 (List.mem_of_getElem? (i := 111) rfl)) (by decide +kernel)
set_option maxRecDepth 100000 in
theorem wd_592 : (Jvm.Cond.code yX2_wantLike prog_4_method_4_code (2 : Nat) (Option.none : Option Jvm.ClassFile.FieldType)) ∈ am_WS := am_in (am_tb3 (List.mem_of_getElem? (i := 112) rfl)) (by decide +kernel)
set_option maxRecDepth 100000 in
theorem wd_593 : (Jvm.Cond.methodLink "LeadlightHallLaw" (73 : Nat) yL_in) ∈ am_WS := am_in (am_tb3 (List.mem_of_getElem? (i := 113) rfl)) (by decide +kernel)
set_option maxRecDepth 100000 in
theorem wd_594 : (Jvm.Cond.static yL_in) ∈ am_WS := am_in (am_tb3 (List.mem_of_getElem? (i := 114) rfl)) (by decide +kernel)
set_option maxRecDepth 100000 in
theorem wd_595 : (Jvm.Cond.code yL_in method_11_code (3 : Nat) (Option.some Jvm.ClassFile.FieldType.int)) ∈ am_WS := am_in (am_tb3 (List.mem_of_getElem? (i := 115) rfl)) (by decide +kernel)
set_option maxRecDepth 100000 in
theorem wd_596 : (Jvm.Cond.methodLink "LeadlightHallLaw" (51 : Nat) yL_cell) ∈ am_WS := am_in (am_tb3 (List.mem_of_getElem? (i := 116) rfl)) (by decide +kernel)
set_option maxRecDepth 100000 in
theorem wd_597 : (Jvm.Cond.static yL_cell) ∈ am_WS := am_in (am_tb3 (List.mem_of_getElem? (i := 117) rfl)) (by decide +kernel)
set_option maxRecDepth 100000 in
theorem wd_598 : (Jvm.Cond.code yL_cell method_2_code (3 : Nat) (Option.some Jvm.ClassFile.FieldType.int)) ∈ am_WS := am_in (am_tb3 (List.mem_of_getElem? (i := 118) rfl)) (by decide +kernel)
set_option maxRecDepth 100000 in
theorem wd_599 : (Jvm.Cond.constant "LeadlightHallLaw" (7 : Nat) (69069 : Int32)) ∈ am_WS := am_in (am_tb3 (List.mem_of_getElem? (i := 119) rfl)) (by decide +kernel)
set_option maxRecDepth 100000 in
theorem wd_6 : (Jvm.Cond.initialized "LeadlightHall$Pane") ∈ am_WS := am_in (am_tb1 (List.mem_of_getElem? (i := 6) rfl)) (by decide +kernel)
set_option maxRecDepth 100000 in
theorem wd_600 : (Jvm.Cond.constant "LeadlightHallLaw" (8 : Nat) (1103515245 : Int32)) ∈ am_WS := am_in (am_tb3 (List.mem_of_getElem? (i := 120) rfl)) (by decide +kernel)
set_option maxRecDepth 100000 in
theorem wd_601 : (Jvm.Cond.constant "LeadlightHallLaw" (57 : Nat) (2147483647 : Int32)) ∈ am_WS := am_in (am_tb3 (List.mem_of_getElem? (i := 121) rfl)) (by decide +kernel)
set_option maxRecDepth 100000 in
theorem wd_602 : (Jvm.Cond.methodLink "LeadlightHallLaw" (77 : Nat) yL_at) ∈ am_WS := am_in (am_tb3 (List.mem_of_getElem? (i := 122) rfl)) (by decide +kernel)
set_option maxRecDepth 100000 in
theorem wd_603 : (Jvm.Cond.static yL_at) ∈ am_WS := am_in (am_tb3 (List.mem_of_getElem? (i := 123) rfl)) (by decide +kernel)
set_option maxRecDepth 100000 in
theorem wd_604 : (Jvm.Cond.code yL_at method_12_code (3 : Nat) (Option.some Jvm.ClassFile.FieldType.int)) ∈ am_WS := am_in (am_tb3 (List.mem_of_getElem? (i := 124) rfl)) (by decide +kernel)
set_option maxRecDepth 100000 in
theorem wd_605 : (Jvm.Cond.classLink "LeadlightHallLaw" (59 : Nat) "[[I") ∈ am_WS := am_in (am_tb3 (List.mem_of_getElem? (i := 125) rfl)) (by decide +kernel)
set_option maxRecDepth 100000 in
theorem wd_607 : (Jvm.Cond.constantDouble "LeadlightHallLaw" (100 : Nat) (4611686018427387904 : UInt64)) ∈ am_WS := am_in (am_tb3 (List.mem_of_getElem? (i := 127) rfl)) (by decide +kernel)
set_option maxRecDepth 100000 in
theorem wd_61 : (Jvm.Cond.instanceMethod yX3_init) ∈ am_WS := am_in (am_tb1 (List.mem_of_getElem? (i := 61) rfl)) (by decide +kernel)
set_option maxRecDepth 100000 in
theorem wd_62 : (Jvm.Cond.code yX3_init prog_5_method_1_code (1 : Nat) (Option.none : Option Jvm.ClassFile.FieldType)) ∈ am_WS := am_in (am_tb1 (List.mem_of_getElem? (i := 62) rfl)) (by decide +kernel)
set_option maxRecDepth 100000 in
theorem wd_63 : (Jvm.Cond.methodLink "LeadlightHall$Shape" (3 : Nat) ({ cls := "java/lang/Object", name := "<init>", desc := "()V" } : Jvm.MethodName)) ∈ am_WS := am_in (am_tb1 (List.mem_of_getElem? (i := 63) rfl)) (by decide +kernel)
set_option maxRecDepth 100000 in
theorem wd_64 : (Jvm.Cond.fieldLink "LeadlightHall$Shape" (9 : Nat) "LeadlightHall$Shape" "rows" "[I") ∈ am_WS := am_in (am_tb1 (List.mem_of_getElem? (i := 64) rfl)) (by decide +kernel)
set_option maxRecDepth 100000 in
theorem wd_65 : (Jvm.Cond.fieldLink "LeadlightHall$Shape" (15 : Nat) "LeadlightHall$Shape" "reached" "[I") ∈ am_WS := am_in (am_tb1 (List.mem_of_getElem? (i := 65) rfl)) (by decide +kernel)
set_option maxRecDepth 100000 in
theorem wd_7 : (Jvm.Cond.initialized "LeadlightHall$Paint") ∈ am_WS := am_in (am_tb1 (List.mem_of_getElem? (i := 7) rfl)) (by decide +kernel)
set_option maxRecDepth 100000 in
theorem wd_71 : (Jvm.Cond.classLink "LeadlightHall" (75 : Nat) "LeadlightHall$YearSet") ∈ am_WS := am_in (am_tb1 (List.mem_of_getElem? (i := 71) rfl)) (by decide +kernel)
set_option maxRecDepth 100000 in
theorem wd_72 : (Jvm.Cond.instantiable "LeadlightHall$YearSet" (1 : Nat)) ∈ am_WS := am_in (am_tb1 (List.mem_of_getElem? (i := 72) rfl)) (by decide +kernel)
set_option maxRecDepth 100000 in
theorem wd_74 : (Jvm.Cond.instanceMethod yX6_init) ∈ am_WS := am_in (am_tb1 (List.mem_of_getElem? (i := 74) rfl)) (by decide +kernel)
set_option maxRecDepth 100000 in
theorem wd_75 : (Jvm.Cond.code yX6_init prog_8_method_1_code (1 : Nat) (Option.none : Option Jvm.ClassFile.FieldType)) ∈ am_WS := am_in (am_tb1 (List.mem_of_getElem? (i := 75) rfl)) (by decide +kernel)
set_option maxRecDepth 100000 in
theorem wd_76 : (Jvm.Cond.methodLink "LeadlightHall$YearSet" (3 : Nat) ({ cls := "java/lang/Object", name := "<init>", desc := "()V" } : Jvm.MethodName)) ∈ am_WS := am_in (am_tb1 (List.mem_of_getElem? (i := 76) rfl)) (by decide +kernel)
set_option maxRecDepth 100000 in
theorem wd_77 : (Jvm.Cond.fieldLink "LeadlightHall$YearSet" (11 : Nat) "LeadlightHall$YearSet" "words" "[J") ∈ am_WS := am_in (am_tb1 (List.mem_of_getElem? (i := 77) rfl)) (by decide +kernel)
set_option maxRecDepth 100000 in
theorem wd_8 : (Jvm.Cond.initialized "LeadlightHall$Sheet") ∈ am_WS := am_in (am_tb1 (List.mem_of_getElem? (i := 8) rfl)) (by decide +kernel)
set_option maxRecDepth 100000 in
theorem wd_81 : (Jvm.Cond.arrayClass Jvm.ClassFile.FieldType.long) ∈ am_WS := am_in (am_tb1 (List.mem_of_getElem? (i := 81) rfl)) (by decide +kernel)
set_option maxRecDepth 100000 in
theorem wd_82 : (Jvm.Cond.instantiable "LeadlightHall$Pane" (7 : Nat)) ∈ am_WS := am_in (am_tb1 (List.mem_of_getElem? (i := 82) rfl)) (by decide +kernel)
set_option maxRecDepth 100000 in
theorem wd_84 : (Jvm.Cond.instanceMethod yX2_init) ∈ am_WS := am_in (am_tb1 (List.mem_of_getElem? (i := 84) rfl)) (by decide +kernel)
set_option maxRecDepth 100000 in
theorem wd_85 : (Jvm.Cond.code yX2_init prog_4_method_1_code (1 : Nat) (Option.none : Option Jvm.ClassFile.FieldType)) ∈ am_WS := am_in (am_tb1 (List.mem_of_getElem? (i := 85) rfl)) (by decide +kernel)
set_option maxRecDepth 100000 in
theorem wd_86 : (Jvm.Cond.methodLink "LeadlightHall$Pane" (3 : Nat) ({ cls := "java/lang/Object", name := "<init>", desc := "()V" } : Jvm.MethodName)) ∈ am_WS := am_in (am_tb1 (List.mem_of_getElem? (i := 86) rfl)) (by decide +kernel)
set_option maxRecDepth 100000 in
theorem wd_87 : (Jvm.Cond.classLink "LeadlightHall$Pane" (28 : Nat) "LeadlightHall$Paint") ∈ am_WS := am_in (am_tb1 (List.mem_of_getElem? (i := 87) rfl)) (by decide +kernel)
set_option maxRecDepth 100000 in
theorem wd_88 : (Jvm.Cond.instantiable "LeadlightHall$Paint" (2 : Nat)) ∈ am_WS := am_in (am_tb1 (List.mem_of_getElem? (i := 88) rfl)) (by decide +kernel)
set_option maxRecDepth 100000 in
theorem wd_90 : (Jvm.Cond.instanceMethod yX1_init) ∈ am_WS := am_in (am_tb1 (List.mem_of_getElem? (i := 90) rfl)) (by decide +kernel)
set_option maxRecDepth 100000 in
theorem wd_91 : (Jvm.Cond.code yX1_init prog_3_method_1_code (1 : Nat) (Option.none : Option Jvm.ClassFile.FieldType)) ∈ am_WS := am_in (am_tb1 (List.mem_of_getElem? (i := 91) rfl)) (by decide +kernel)
set_option maxRecDepth 100000 in
theorem wd_92 : (Jvm.Cond.methodLink "LeadlightHall$Paint" (1 : Nat) ({ cls := "java/lang/Object", name := "<init>", desc := "()V" } : Jvm.MethodName)) ∈ am_WS := am_in (am_tb1 (List.mem_of_getElem? (i := 92) rfl)) (by decide +kernel)
set_option maxRecDepth 100000 in
theorem wd_93 : (Jvm.Cond.fieldLink "LeadlightHall$Paint" (9 : Nat) "LeadlightHall$Paint" "raw" "[I") ∈ am_WS := am_in (am_tb1 (List.mem_of_getElem? (i := 93) rfl)) (by decide +kernel)
set_option maxRecDepth 100000 in
theorem wd_94 : (Jvm.Cond.fieldLink "LeadlightHall$Paint" (13 : Nat) "LeadlightHall$Paint" "fixed" "[I") ∈ am_WS := am_in (am_tb1 (List.mem_of_getElem? (i := 94) rfl)) (by decide +kernel)
set_option maxRecDepth 100000 in
theorem ps_X3_grow : Cond.selects RX3 yX3_grow yX3_grow ∈ am_WS := am_in (List.mem_append_left _ (by decide +kernel)) rfl
set_option maxRecDepth 100000 in
theorem ps_X3_narrowInColumn : Cond.selects RX3 yX3_narrowInColumn yX3_narrowInColumn ∈ am_WS := am_in (List.mem_append_left _ (by decide +kernel)) rfl
set_option maxRecDepth 100000 in
theorem ps_X3_narrowInRow : Cond.selects RX3 yX3_narrowInRow yX3_narrowInRow ∈ am_WS := am_in (List.mem_append_left _ (by decide +kernel)) rfl
set_option maxRecDepth 100000 in
theorem ps_X3_touchesOver : Cond.selects RX3 yX3_touchesOver yX3_touchesOver ∈ am_WS := am_in (List.mem_append_left _ (by decide +kernel)) rfl
set_option maxRecDepth 100000 in
theorem ps_X7_isCuttable : Cond.selects RX7 yX7_isCuttable yX7_isCuttable ∈ am_WS := am_in (List.mem_append_left _ (by decide +kernel)) rfl
set_option maxRecDepth 100000 in
theorem ps_X7_isGlassWithin : Cond.selects RX7 yX7_isGlassWithin yX7_isGlassWithin ∈ am_WS := am_in (List.mem_append_left _ (by decide +kernel)) rfl
set_option maxRecDepth 100000 in
theorem ps_X7_isOpenWithin : Cond.selects RX7 yX7_isOpenWithin yX7_isOpenWithin ∈ am_WS := am_in (List.mem_append_left _ (by decide +kernel)) rfl
set_option maxRecDepth 100000 in
theorem ps_X7_lowestWithoutCells : Cond.selects RX7 yX7_lowestWithoutCells yX7_lowestWithoutCells ∈ am_WS := am_in (List.mem_append_left _ (by decide +kernel)) rfl
set_option maxRecDepth 100000 in
theorem ps_X7_panesThatAre : Cond.selects RX7 yX7_panesThatAre yX7_panesThatAre ∈ am_WS := am_in (List.mem_append_left _ (by decide +kernel)) rfl
set_option maxRecDepth 100000 in
theorem inw_X0 : ∀ w ∈ u_ws RX0 TX0 3, w ∈ am_WS := by decide +kernel
set_option maxRecDepth 100000 in
theorem inw_X1 : ∀ w ∈ u_ws RX1 TX1 2, w ∈ am_WS := by decide +kernel
set_option maxRecDepth 100000 in
theorem inw_X2 : ∀ w ∈ u_ws RX2 TX2 7, w ∈ am_WS := by decide +kernel
set_option maxRecDepth 100000 in
theorem inw_X3 : ∀ w ∈ u_ws RX3 TX3 2, w ∈ am_WS := by decide +kernel
set_option maxRecDepth 100000 in
theorem inw_X4 : ∀ w ∈ u_ws RX4 TX4 5, w ∈ am_WS := by decide +kernel
set_option maxRecDepth 100000 in
theorem inw_X5 : ∀ w ∈ u_ws RX5 TX5 1, w ∈ am_WS := by decide +kernel
set_option maxRecDepth 100000 in
theorem inw_X6 : ∀ w ∈ u_ws RX6 TX6 1, w ∈ am_WS := by decide +kernel
set_option maxRecDepth 100000 in
theorem inw_X7 : ∀ w ∈ u_ws RX7 TX7 16, w ∈ am_WS := by decide +kernel
set_option maxRecDepth 100000 in
theorem inw_X8 : ∀ w ∈ u_ws RX8 TX8 1, w ∈ am_WS := by decide +kernel
set_option maxRecDepth 100000 in
theorem at_191 : ∀ w ∈ vx_atS "LeadlightHall" 191 "java/lang/IllegalArgumentException" ["java/lang/RuntimeException", "java/lang/Exception"], w ∈ am_WS ∨ w ∈ am_NW := by decide +kernel
set_option maxRecDepth 100000 in
theorem at_191_g {w1 w2 : Cond} (h1 : vx_ot w1 = true) (h2 : vx_ot w2 = true) : ∀ w ∈ w1 :: w2 :: vx_atS "LeadlightHall" 191 "java/lang/IllegalArgumentException" ["java/lang/RuntimeException", "java/lang/Exception"], vx_ot w = true := List.forall_mem_cons.mpr ⟨h1, List.forall_mem_cons.mpr ⟨h2, by decide +kernel⟩⟩
set_option maxRecDepth 100000 in
theorem at_96 : ∀ w ∈ vx_atS "LeadlightHall" 96 "java/lang/UnsupportedOperationException" ["java/lang/RuntimeException", "java/lang/Exception"], w ∈ am_WS ∨ w ∈ am_NW := by decide +kernel
set_option maxRecDepth 100000 in
theorem at_96_g {w1 w2 : Cond} (h1 : vx_ot w1 = true) (h2 : vx_ot w2 = true) : ∀ w ∈ w1 :: w2 :: vx_atS "LeadlightHall" 96 "java/lang/UnsupportedOperationException" ["java/lang/RuntimeException", "java/lang/Exception"], vx_ot w = true := List.forall_mem_cons.mpr ⟨h1, List.forall_mem_cons.mpr ⟨h2, by decide +kernel⟩⟩
set_option maxRecDepth 100000 in
theorem at_419 : ∀ w ∈ vx_atS "LeadlightHall" 419 "java/lang/IndexOutOfBoundsException" ["java/lang/RuntimeException", "java/lang/Exception"], w ∈ am_WS ∨ w ∈ am_NW := by decide +kernel
set_option maxRecDepth 100000 in
theorem at_419_g {w1 w2 : Cond} (h1 : vx_ot w1 = true) (h2 : vx_ot w2 = true) : ∀ w ∈ w1 :: w2 :: vx_atS "LeadlightHall" 419 "java/lang/IndexOutOfBoundsException" ["java/lang/RuntimeException", "java/lang/Exception"], vx_ot w = true := List.forall_mem_cons.mpr ⟨h1, List.forall_mem_cons.mpr ⟨h2, by decide +kernel⟩⟩
set_option maxRecDepth 100000 in
theorem at_156 : ∀ w ∈ vx_atS "LeadlightHall" 156 "java/lang/IllegalStateException" ["java/lang/RuntimeException", "java/lang/Exception"], w ∈ am_WS ∨ w ∈ am_NW := by decide +kernel
set_option maxRecDepth 100000 in
theorem at_156_g {w1 w2 : Cond} (h1 : vx_ot w1 = true) (h2 : vx_ot w2 = true) : ∀ w ∈ w1 :: w2 :: vx_atS "LeadlightHall" 156 "java/lang/IllegalStateException" ["java/lang/RuntimeException", "java/lang/Exception"], vx_ot w = true := List.forall_mem_cons.mpr ⟨h1, List.forall_mem_cons.mpr ⟨h2, by decide +kernel⟩⟩
set_option maxRecDepth 100000 in
theorem at_406 : ∀ w ∈ vn_atS "LeadlightHall" 406 "java/util/NoSuchElementException" ["java/lang/RuntimeException", "java/lang/Exception"], w ∈ am_WS ∨ w ∈ am_NW := by decide +kernel
set_option maxRecDepth 100000 in
theorem at_406_g {w1 w2 : Cond} (h1 : vx_ot w1 = true) (h2 : vx_ot w2 = true) : ∀ w ∈ w1 :: w2 :: vn_atS "LeadlightHall" 406 "java/util/NoSuchElementException" ["java/lang/RuntimeException", "java/lang/Exception"], vx_ot w = true := List.forall_mem_cons.mpr ⟨h1, List.forall_mem_cons.mpr ⟨h2, by decide +kernel⟩⟩
theorem oi_inst : Cond.instanceMethod Lib.objectInit ∈ am_WS := am_in (am_tb1 (List.mem_of_getElem? (i := 25) rfl)) (by decide +kernel)
theorem oi_code : Cond.code Lib.objectInit ⟨#[0xb1]⟩ 1 none ∈ am_WS := am_in (am_tb1 (List.mem_of_getElem? (i := 26) rfl)) (by decide +kernel)
theorem cm_max : Cond.code Lib.Math.max.name Lib.Math.max.code 2 (some .int) ∈ am_WS := am_in (am_tb3 (List.mem_of_getElem? (i := 33) rfl)) (by decide +kernel)
end
