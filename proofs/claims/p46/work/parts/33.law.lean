set_option maxRecDepth 100000 in
set_option maxHeartbeats 4000000 in
theorem whole_start {p : Program} {e : Env} {s : State} {m : MethodId} {below : List Frame} {meth : Method} {c : Code} (l : Launch) (hflags : l.flags = flags0) {b L : Nat} {xs : Nat → Int32} (hL : L ≤ 260) (C0 : lw_At p s m meth c b L xs) : W p l e room_1 s m #[Value.ref b] below meth c s.heap [] 0 0 (lw_Z below #[Value.ref b] s) (entryFrame m ([Value.ref b] : List Value).toArray 26) := by
  obtain ⟨hx, hb, hr, hml, hown, hts, hX, hbl, hlocks, hgv⟩ := id C0
  have hA0 : ∀ a : Nat, a < s.heap.size → ¬ (fun q : Nat => s.heap.size ≤ q) a := fun a h => Nat.not_le.mpr h
  obtain ⟨D, hD1⟩ := lw_dC hts
  obtain ⟨dA, hdA⟩ := lw_dA hts
  obtain ⟨ro, hro, hE⟩ := lw_ext (b := b) (A := fun q : Nat => s.heap.size ≤ q) hL hX (hA0 b hbl) hts hgv hA0
  have htr : l.stackTraces = false := by
    unfold Launch.stackTraces
    rw [hflags]
    decide +kernel
  have F : am_F (p, l, e, room_1, s, m, #[Value.ref b], below, meth, c, D, dA, ro, (fun _ => 0), 0, 26, (fun q : Nat => s.heap.size ≤ q), lw_Z below #[Value.ref b] s) code R_law ret lw_tbl := ⟨hx, hb, hml, hown, hts, ⟨hD1, hdA⟩, fun q h => h, hE, htr, hlocks, hr, fun w h => (List.mem_filter.mp h).1⟩
  have FL : am_FL (p, l, e, room_1, s, m, #[Value.ref b], below, meth, c, D, dA, ro, (fun _ => 0), 0, 26, (fun q : Nat => s.heap.size ≤ q), lw_Z below #[Value.ref b] s) b := ⟨rfl, rfl, rfl, rfl⟩
  have hR : am_Rm (p, l, e, room_1, s, m, #[Value.ref b], below, meth, c, D, dA, ro, (fun _ => 0), 0, 26, (fun q : Nat => s.heap.size ≤ q), lw_Z below #[Value.ref b] s) rm_L_law := rfl
  have g := f_law (G := am_G (p, l, e, room_1, s, m, #[Value.ref b], below, meth, c, D, dA, ro, (fun _ => 0), 0, 26, (fun q : Nat => s.heap.size ≤ q), lw_Z below #[Value.ref b] s)) ⟨sd_L_law_0 F FL hR rfl, sd_L_law_19 F FL hR rfl, sd_L_law_28 F FL hR rfl, sd_L_law_55 F FL hR rfl, sd_L_law_144 F FL hR rfl, sd_L_law_151 F FL hR rfl, sd_L_law_230 F FL hR rfl, sd_L_law_242 F FL hR rfl, sd_L_law_264 F FL hR rfl, sd_L_law_268 F FL hR rfl, sd_L_law_279 F FL hR rfl, sd_L_law_303 F FL hR rfl, sd_L_law_320 F FL hR rfl, sd_L_law_348 F FL hR rfl, sd_L_law_384 F FL hR rfl, sd_L_law_406 F FL hR rfl, sd_L_law_419 F FL hR rfl, sd_L_law_463 F FL hR rfl, sd_L_law_469 F FL hR rfl, sd_L_law_511 F FL hR rfl, sd_L_law_548 F FL hR rfl, sd_L_law_557 F FL hR rfl, sd_L_law_567 F FL hR rfl, sd_L_law_574 F FL hR rfl, sd_L_law_644 F FL hR rfl, sd_L_law_668 F FL hR rfl, sd_L_law_692 F FL hR rfl, sd_L_law_716 F FL hR rfl, sd_L_law_730 F FL hR rfl, sd_L_law_745 F FL hR rfl, sd_L_law_758 F FL hR rfl, sd_L_law_768 F FL hR rfl, sd_L_law_779 F FL hR rfl, sd_L_law_790 F FL hR rfl, sd_L_law_806 F FL hR rfl, sd_L_law_842 F FL hR rfl, sd_L_law_856 F FL hR rfl, sd_L_law_880 F FL hR rfl, sd_L_law_885 F FL hR rfl, sd_L_law_903 F FL hR rfl, sd_L_law_919 F FL hR rfl, sd_L_law_926 F FL hR rfl, sd_L_law_948 F FL hR rfl, sd_L_law_968 F FL hR rfl, sd_L_law_989 F FL hR rfl, sd_L_law_1008 F FL hR rfl, sd_L_law_1024 F FL hR rfl, sd_L_law_1047 F FL hR rfl, sd_L_law_1101 F FL hR rfl, sd_L_law_1154 F FL hR rfl, sd_L_law_1170 F FL hR rfl, sd_L_law_1186 F FL hR rfl, sd_L_law_1200 F FL hR rfl, sd_L_law_1239 F FL hR rfl, sd_L_law_1269 F FL hR rfl, sd_L_law_1302 F FL hR rfl, sd_L_law_1310 F FL hR rfl, sd_L_law_1329 F FL hR rfl, sd_L_law_1459 F FL hR rfl, sd_L_law_1484 F FL hR rfl, sd_L_law_1507 F FL hR rfl, sd_L_law_1550 F FL hR rfl, sd_L_law_1562 F FL hR rfl, sd_L_law_1569 F FL hR rfl, sd_L_law_1581 F FL hR rfl, sd_L_law_1604 F FL hR rfl, sd_L_law_1621 F FL hR rfl, sd_L_law_1635 F FL hR rfl, sd_L_law_1652 F FL hR rfl, sd_L_law_1669 F FL hR rfl, sd_L_law_1694 F FL hR rfl, sd_L_law_1719 F FL hR rfl, sd_L_law_1733 F FL hR rfl, sd_L_law_1764 F FL hR rfl, sd_L_law_1800 F FL hR rfl, sd_L_law_1814 F FL hR rfl, sd_L_law_1822 F FL hR rfl, sd_L_law_1843 F FL hR rfl, sd_L_law_1892 F FL hR rfl, sd_L_law_1898 F FL hR rfl⟩
  have hP : va_P D vwCl (am_w dA (fun _ => 0) ro 0 (fun _ => none)) s.heap := fun k q h => by simp [am_w] at h
  have hDD : va_D (fun q : Nat => s.heap.size ≤ q) (am_w dA (fun _ => 0) ro 0 (fun _ => none)) := ⟨fun i j p q h => by simp [am_w] at h, fun k q h => by simp [am_w] at h⟩
  have g2 := g (fun _ => 0) s.heap [] _ (fun _ _ => rfl) (Nat.le_refl _) (fun k => ⟨fun h => absurd h (Nat.not_lt_zero k), fun e h => by cases h⟩) (fun v hv => by cases hv) (am_inl_lt (fun v hv => by
    rcases List.mem_singleton.mp hv with rfl
    trivial)) hP hDD va_S.rf (am_inl_has (as := [.retAddr 0]) (by decide)) (Nat.zero_le _) (Nat.zero_le _)
  rw [lg_entry_eq]
  have e9 : List.map (am_tr (fun _ => 0) ro) [.retAddr 0] = [Value.ref b] := by
    show [Value.ref (ro 0)] = [Value.ref b]
    rw [hro]
  rw [e9] at g2
  exact g2
set_option maxHeartbeats 4000000 in
theorem lw_walk (l : Launch) (hflags : l.flags = flags0) (b : Addr) (xs : List Int32) : MetFree l x (headSpec (Jvm.Cond.code x code maxLocals ret :: tables_1) room_1) (lw_P b xs) (fun _ _ _ _ _ => True) lw_Q := by
  refine MetFree.of_bodyS (code := code) (maxLocals := maxLocals) (ret := ret) (by decide) ?_ ?_
  · intro args s m h hn
    obtain ⟨meth, c, h1, h2, h3, h4, h5, h6, -, -⟩ := Cond.code_spec hn (atoms_spec (ws := Jvm.Cond.code x code maxLocals ret :: tables_1) h _ List.mem_cons_self)
    exact ⟨meth, c, h1, h2, h3, h4, h5, h6⟩
  · intro p e s m args below meth c s₁ B hml0 hP _
    obtain ⟨rfl, hx, hbd, hgv⟩ := hP
    obtain ⟨scr, harrAt, hlist, hof, hsmall⟩ := hx
    obtain ⟨hcb, hkn, -, -⟩ := State.arrayAt?_spec harrAt
    have hown : s.vm.findClass R_law = some m.cls := findClass_of_methodNamed B.named
    have hts0 : ∀ c ∈ (Jvm.Cond.code x code maxLocals ret :: tables_1), c.before #[Value.ref b] s = true := atoms_spec (ws := Jvm.Cond.code x code maxLocals ret :: tables_1) B.pre
    have hts : ∀ w ∈ lw_tbl, w.before #[Value.ref b] s = true := k2_hts_sels lw_privs (fun w hw => hts0 w (List.mem_cons_of_mem _ hw)) lw_privs_ok
    have hml : c.maxLocals = 26 := B.maxLocals_eq (hts0 _ List.mem_cons_self)
    have X₀ : Stand p l e room_1 s m #[Value.ref b] below meth c s₁ [] 0 0 := Stand.of_body B
    have hh0 : s₁.heap = s.heap := by rw [B.state]; rfl
    have hsz : scr.slots.size = xs.length := by rw [← Array.length_toList, hlist, List.length_map]
    have hval : ∀ j : Nat, j < xs.length → scr.slots[j]? = some (.int (xs.getD j 0)) := fun j hj => by
      rw [← Array.getElem?_toList, hlist]
      simp [hj]
    have hbl : b < s.heap.size := (Array.getElem?_eq_some_iff.mp hcb).1
    have hX : va_X b xs.length (fun j => xs.getD j 0) s s.heap := ⟨scr, hcb, hof, hkn, hsz, hval⟩
    have K : W p l e room_1 s m #[Value.ref b] below meth c s₁.heap [] 0 0 (lw_Z below #[Value.ref b] s) (entryFrame m ([Value.ref b] : List Value).toArray 26) := by
      rw [hh0]
      exact whole_start l hflags hbd ⟨B.exec, B.bytes, B.returns, hml, hown, hts, hX, hbl, B.notSynchronized, hgv⟩
    obtain ⟨t, a1, o, b1, b2, b3⟩ := K s₁ rfl X₀
    exact ⟨t, o, a1, b1, b2, b3⟩
theorem lw_pre_spec {args : Array Value} {s : State} (h : (Jvm.Cond.and given_1 narrow_1).before args s = true) (hr : rest_1_c.before args s = true) : ∃ (b : Addr) (xs : List Int32), lw_P b xs args s := by
  have hs := flat_of_before _ h
  have hq := flat_of_before _ hr
  have hc : (Cond.count 1).before args s = true := hs _ (by decide +kernel)
  have harr : (Cond.arrayOf (.arg 0) .int).before args s = true := hs _ (by decide +kernel)
  have hle : (Cond.le (.length (.arg 0)) (.int 260)).before args s = true := hs _ (by decide +kernel)
  have hlen : (Cond.isInt (.length (.arg 0))).before args s = true := hq _ (by decide +kernel)
  have hall : (Cond.all (.arg 0) (.isInt (.elem (.arg 0) (.index 0)))).before args s = true := hq _ (by decide +kernel)
  obtain ⟨b, xs, hb, hx⟩ := State.ints_of_pre rfl harr hlen hall
  have hsm : xs.length < 2 ^ 31 := hx.choose_spec.2.2.2
  have hev : (Term.length (.arg 0)).eval args s none [] s = some (.int xs.length.toInt32) := hx.length_eval hb
  have hv := Cond.le_ints hev (show (Term.int 260).eval args s none [] s = some (.int 260) from rfl)
  have hd : xs.length.toInt32 ≤ 260 := by
    simpa [Cond.before, Cond.holds, hv] using hle
  have hN : xs.length ≤ 260 := (Int32.ofNat_le_ofNat hsm (by decide)).mp (show Int32.ofNat xs.length ≤ Int32.ofNat 260 from hd)
  exact ⟨b, xs, Cond.one_arg hc (show args[0]? = some (.ref b) from hb), hx, hN, h⟩
theorem lw_comes (l : Launch) (hflags : l.flags = flags0) : Comes l x (Jvm.Cond.code x code maxLocals ret :: tables_1) room_1 (fun tb e args s => Calls_1 tb e args s ∧ rest_1 tb e args s ∧ Pre_1 tb e args s)
    (fun _ _ args s o t => lw_Q args s o t) := by
  intro p e ha hc hk s m args below hf hfit hheap happ hpre
  obtain ⟨b, xs, hP⟩ := lw_pre_spec hpre.2.2 hpre.2.1
  obtain ⟨k, o, h1, h2, h3, hQ⟩ := lw_walk l hflags b xs p e ha hc hk s m args below hf ((Spec.applies_iff_loose hf).mp happ).1 hP trivial
  exact ⟨k, o, h1, h2, h3, hQ⟩
theorem lw_frame {s t : State} {o : Outcome} {args : Array Value} (h : State.butDraws s t lw_cs (fun t1 => Framed s o t1 [] 600086 7301442)) :
    State.butDraws s t [Jvm.Choice.named "NaN.bits"] (fun t1 => Framed s o t1 (fieldLocs frame_1_writes args s ++ arrayLocs frame_1_arrays args s ++ staticLocs frame_1_statics s) 600086 7301442) := h
theorem lw_limb (L : Cond) (hL : ∀ (args : Array Value) (s t : State), L.after args s (.returned (some (.int 1))) t = true) :
    ArmFor flags0 classFile x code maxLocals ret World_1 tables_1 room_1 Calls_1 rest_1 Pre_1
      (fun tb e a s o t => postC L tb e a s o t ∧ State.butDraws s t [Jvm.Choice.named "NaN.bits"] (fun t1 => Framed s o t1 (fieldLocs frame_1_writes a s ++ arrayLocs frame_1_arrays a s ++ staticLocs frame_1_statics s) 600086 7301442)) := by
  intro l hflags _ _ p e ha hc hk s m args below hf hfit hheap happ hpre
  obtain ⟨k, o, h1, h2, h3, rfl, hF⟩ := lw_comes l hflags p e ha hc hk s m args below hf hfit hheap happ hpre
  exact ⟨k, _, h1, h2, h3, hL args s _, lw_frame hF⟩
theorem i_vc : Claimed_1_1 ∧ Claimed_1_2 := ⟨lw_limb limb_1_1 (fun args s t => by simp [limb_1_1, Cond.after, Cond.holds, Cond.value]), lw_limb limb_1_2 (fun args s t => Cond.after_iff.mpr (by
  first | (rw [show limb_1_2 = Cond.eq .result (.int 1) from rfl, Cond.eq_ints (x := 1) (y := 1) rfl rfl]; simp; done) | (simp [limb_1_2, Cond.value, Term.eval]; done)))⟩
