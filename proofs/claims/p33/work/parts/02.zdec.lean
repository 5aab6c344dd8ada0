theorem dq_get {c : ByteArray} {p : Nat} {a : UInt8} {r : List UInt8} (h : c.data.toList.drop p = a :: r) : (∃ hp : p < c.size, c[p] = a) ∧ c.data.toList.drop (p + 1) = r := by
  have hl : p < c.data.toList.length := by
    rcases Nat.lt_or_ge p c.data.toList.length with h1 | h1
    · exact h1
    · rw [List.drop_eq_nil_of_le h1] at h; cases h
  have h2 := List.drop_eq_getElem_cons hl
  rw [h] at h2
  injection h2 with h3 h4
  refine ⟨⟨by simpa using hl, ?_⟩, h4.symm⟩
  rw [h3]; rfl
theorem dq_1 {c : ByteArray} {p : Nat} {a : UInt8} {r : List UInt8} (h : c.data.toList.drop p = a :: r) : (Reader.u1 : Decoder Nat) c p = .ok (a.toNat, p + 1) := by
  obtain ⟨⟨hp, ha⟩, -⟩ := dq_get h
  have e : (Reader.u1 : Decoder Nat) c p = (dite (p < c.size) (fun h => (do set (p + 1); pure c[p].toNat : Decoder Nat)) (fun _ => throw (HasTruncated.truncated p))) c p := rfl
  rw [e, dif_pos hp]
  show Except.ok (c[p].toNat, p + 1) = _
  rw [ha]
theorem dq_b {A B : Type} {x : Decoder A} {f : A → Decoder B} {c : ByteArray} {p : Nat} {a : A} {q : Nat} (h : x c p = .ok (a, q)) : (x >>= f) c p = f a c q := by
  show Except.bind (x c p) (fun z => f z.1 c z.2) = _
  rw [h]; rfl
theorem dq_2 {c : ByteArray} {p : Nat} {a b : UInt8} {r : List UInt8} (h : c.data.toList.drop p = a :: b :: r) : (Reader.u2 : Decoder Nat) c p = .ok (a.toNat * 256 + b.toNat, p + 1 + 1) := by
  unfold Reader.u2
  refine (dq_b (dq_1 h)).trans ?_
  exact dq_b (dq_1 (dq_get h).2)
theorem dq_s1 {c : ByteArray} {p : Nat} {a : UInt8} {r : List UInt8} (h : c.data.toList.drop p = a :: r) : (Reader.s1 : Decoder Int) c p = .ok (Reader.signed 8 a.toNat, p + 1) := by
  show Except.bind ((Reader.u1 : Decoder Nat) c p) (fun z => Except.ok (Reader.signed 8 z.1, z.2)) = _
  rw [dq_1 h]; rfl
theorem dq_s2 {c : ByteArray} {p : Nat} {a b : UInt8} {r : List UInt8} (h : c.data.toList.drop p = a :: b :: r) : (Reader.s2 : Decoder Int) c p = .ok (Reader.signed 16 (a.toNat * 256 + b.toNat), p + 1 + 1) := by
  show Except.bind ((Reader.u2 : Decoder Nat) c p) (fun z => Except.ok (Reader.signed 16 z.1, z.2)) = _
  rw [dq_2 h]; rfl
theorem dq_d {c : ByteArray} {pc : Nat} {i : Instr} {k : Nat} (h : Decoder.instr pc c pc = .ok (i, pc + k)) : decode c pc = .ok (i, k) := by
  show Except.bind (Decoder.instr pc c pc) (fun z => Except.ok (z.1, z.2 - pc)) = _
  rw [h]
  show Except.ok (i, pc + k - pc) = _
  rw [Nat.add_sub_cancel_left]
def dq_P (n : Nat) (f : List UInt8 → Option (Instr × Nat)) : Prop := ∀ (c : ByteArray) (pc : Nat) (r : List UInt8) (i : Instr) (k : Nat), (Reader.u1 : Decoder Nat) c pc = .ok (n, pc + 1) → c.data.toList.drop (pc + 1) = r → f r = some (i, k) → decode c pc = .ok (i, k)
def dq_no : List UInt8 → Option (Instr × Nat) := fun _ => none
theorem dq_noP (n : Nat) : dq_P n dq_no := fun _ _ _ _ _ _ _ h => nomatch h
def dq_s (i : Instr) : List UInt8 → Option (Instr × Nat) := fun _ => some (i, 1)
def dq_a1 (F : Nat → Instr) : List UInt8 → Option (Instr × Nat) := fun r => match r with | a :: _ => some (F a.toNat, 2) | [] => none
def dq_b1 (F : Int → Instr) : List UInt8 → Option (Instr × Nat) := fun r => match r with | a :: _ => some (F (Reader.signed 8 a.toNat), 2) | [] => none
def dq_a2 (F : Nat → Instr) : List UInt8 → Option (Instr × Nat) := fun r => match r with | a :: b :: _ => some (F (a.toNat * 256 + b.toNat), 3) | _ => none
def dq_b2 (F : Int → Instr) : List UInt8 → Option (Instr × Nat) := fun r => match r with | a :: b :: _ => some (F (Reader.signed 16 (a.toNat * 256 + b.toNat)), 3) | _ => none
def dq_ii : List UInt8 → Option (Instr × Nat) := fun r => match r with | a :: b :: _ => some (.iinc a.toNat (Reader.signed 8 b.toNat), 3) | _ => none
theorem dq_sP {n : Nat} {j : Instr} (e : ∀ c pc, (Reader.u1 : Decoder Nat) c pc = .ok (n, pc + 1) → Decoder.instr pc c pc = (pure j : Decoder Instr) c (pc + 1)) : dq_P n (dq_s j) := by
  intro c pc r i k h1 h2 h3
  simp only [dq_s, Option.some.injEq, Prod.mk.injEq] at h3
  obtain ⟨rfl, rfl⟩ := h3
  exact dq_d (e c pc h1)
theorem dq_a1P {n : Nat} {F : Nat → Instr} (e : ∀ c pc, (Reader.u1 : Decoder Nat) c pc = .ok (n, pc + 1) → Decoder.instr pc c pc = (Reader.u1 >>= fun x => pure (F x) : Decoder Instr) c (pc + 1)) : dq_P n (dq_a1 F) := by
  intro c pc r i k h1 h2 h3
  cases r with
  | nil => simp [dq_a1] at h3
  | cons a r =>
    simp only [dq_a1, Option.some.injEq, Prod.mk.injEq] at h3
    obtain ⟨rfl, rfl⟩ := h3
    exact dq_d ((e c pc h1).trans (dq_b (dq_1 h2)))
theorem dq_b1P {n : Nat} {F : Int → Instr} (e : ∀ c pc, (Reader.u1 : Decoder Nat) c pc = .ok (n, pc + 1) → Decoder.instr pc c pc = (Reader.s1 >>= fun x => pure (F x) : Decoder Instr) c (pc + 1)) : dq_P n (dq_b1 F) := by
  intro c pc r i k h1 h2 h3
  cases r with
  | nil => simp [dq_b1] at h3
  | cons a r =>
    simp only [dq_b1, Option.some.injEq, Prod.mk.injEq] at h3
    obtain ⟨rfl, rfl⟩ := h3
    exact dq_d ((e c pc h1).trans (dq_b (dq_s1 h2)))
theorem dq_a2P {n : Nat} {F : Nat → Instr} (e : ∀ c pc, (Reader.u1 : Decoder Nat) c pc = .ok (n, pc + 1) → Decoder.instr pc c pc = (Reader.u2 >>= fun x => pure (F x) : Decoder Instr) c (pc + 1)) : dq_P n (dq_a2 F) := by
  intro c pc r i k h1 h2 h3
  match r, h2, h3 with
  | [], _, h3 => simp [dq_a2] at h3
  | [_], _, h3 => simp [dq_a2] at h3
  | a :: b :: r, h2, h3 =>
    simp only [dq_a2, Option.some.injEq, Prod.mk.injEq] at h3
    obtain ⟨rfl, rfl⟩ := h3
    exact dq_d ((e c pc h1).trans (dq_b (dq_2 h2)))
theorem dq_b2P {n : Nat} {F : Int → Instr} (e : ∀ c pc, (Reader.u1 : Decoder Nat) c pc = .ok (n, pc + 1) → Decoder.instr pc c pc = (Reader.s2 >>= fun x => pure (F x) : Decoder Instr) c (pc + 1)) : dq_P n (dq_b2 F) := by
  intro c pc r i k h1 h2 h3
  match r, h2, h3 with
  | [], _, h3 => simp [dq_b2] at h3
  | [_], _, h3 => simp [dq_b2] at h3
  | a :: b :: r, h2, h3 =>
    simp only [dq_b2, Option.some.injEq, Prod.mk.injEq] at h3
    obtain ⟨rfl, rfl⟩ := h3
    exact dq_d ((e c pc h1).trans (dq_b (dq_s2 h2)))
theorem dq_iiP {n : Nat} (e : ∀ c pc, (Reader.u1 : Decoder Nat) c pc = .ok (n, pc + 1) → Decoder.instr pc c pc = (Reader.u1 >>= fun x => Reader.s1 >>= fun y => pure (.iinc x y) : Decoder Instr) c (pc + 1)) : dq_P n dq_ii := by
  intro c pc r i k h1 h2 h3
  match r, h2, h3 with
  | [], _, h3 => simp [dq_ii] at h3
  | [_], _, h3 => simp [dq_ii] at h3
  | a :: b :: r, h2, h3 =>
    simp only [dq_ii, Option.some.injEq, Prod.mk.injEq] at h3
    obtain ⟨rfl, rfl⟩ := h3
    refine dq_d ((e c pc h1).trans ((dq_b (dq_1 h2)).trans (dq_b (dq_s1 (dq_get h2).2))))

def dq_nat (n : Nat) : Option (Instr × Nat) := match n with | 4 => some (.newarray .boolean, 2) | 5 => some (.newarray .char, 2) | 6 => some (.newarray .float, 2) | 7 => some (.newarray .double, 2) | 8 => some (.newarray .byte, 2) | 9 => some (.newarray .short, 2) | 10 => some (.newarray .int, 2) | 11 => some (.newarray .long, 2) | _ => none
def dq_na : List UInt8 → Option (Instr × Nat) := fun r => match r with | a :: _ => dq_nat a.toNat | [] => none
theorem dq_naP {n : Nat} (e : ∀ c pc, (Reader.u1 : Decoder Nat) c pc = .ok (n, pc + 1) → Decoder.instr pc c pc = Decoder.newarray pc c (pc + 1)) : dq_P n dq_na := by
  intro c pc r i k h1 h2 h3
  cases r with
  | nil => simp [dq_na] at h3
  | cons a r =>
    have h4 := dq_1 h2
    have h5 := e c pc h1
    simp only [dq_na] at h3
    unfold Decoder.newarray at h5
    generalize a.toNat = m at h3 h4
    unfold dq_nat at h3
    split at h3
    all_goals first
      | (simp only [Option.some.injEq, Prod.mk.injEq] at h3; obtain ⟨rfl, rfl⟩ := h3; exact dq_d (h5.trans ((dq_b h4).trans rfl)))
      | cases h3

theorem dq_o0 : dq_P 0 (dq_s .nop) := by
  refine dq_sP ?_
  intro c pc h
  unfold Decoder.instr
  exact (dq_b h).trans rfl
theorem dq_o1 : dq_P 1 (dq_s .aconst_null) := by
  refine dq_sP ?_
  intro c pc h
  unfold Decoder.instr
  exact (dq_b h).trans rfl
theorem dq_o2 : dq_P 2 (dq_s (.iconst (-1))) := by
  refine dq_sP ?_
  intro c pc h
  unfold Decoder.instr
  exact (dq_b h).trans rfl
theorem dq_o3 : dq_P 3 (dq_s (.iconst 0)) := by
  refine dq_sP ?_
  intro c pc h
  unfold Decoder.instr
  exact (dq_b h).trans rfl
theorem dq_o4 : dq_P 4 (dq_s (.iconst 1)) := by
  refine dq_sP ?_
  intro c pc h
  unfold Decoder.instr
  exact (dq_b h).trans rfl
theorem dq_o5 : dq_P 5 (dq_s (.iconst 2)) := by
  refine dq_sP ?_
  intro c pc h
  unfold Decoder.instr
  exact (dq_b h).trans rfl
theorem dq_o6 : dq_P 6 (dq_s (.iconst 3)) := by
  refine dq_sP ?_
  intro c pc h
  unfold Decoder.instr
  exact (dq_b h).trans rfl
theorem dq_o7 : dq_P 7 (dq_s (.iconst 4)) := by
  refine dq_sP ?_
  intro c pc h
  unfold Decoder.instr
  exact (dq_b h).trans rfl
theorem dq_o8 : dq_P 8 (dq_s (.iconst 5)) := by
  refine dq_sP ?_
  intro c pc h
  unfold Decoder.instr
  exact (dq_b h).trans rfl
theorem dq_o9 : dq_P 9 (dq_s (.lconst 0)) := by
  refine dq_sP ?_
  intro c pc h
  unfold Decoder.instr
  exact (dq_b h).trans rfl
theorem dq_o10 : dq_P 10 (dq_s (.lconst 1)) := by
  refine dq_sP ?_
  intro c pc h
  unfold Decoder.instr
  exact (dq_b h).trans rfl
theorem dq_o11 : dq_P 11 (dq_s (.fconst 0)) := by
  refine dq_sP ?_
  intro c pc h
  unfold Decoder.instr
  exact (dq_b h).trans rfl
theorem dq_o12 : dq_P 12 (dq_s (.fconst 1)) := by
  refine dq_sP ?_
  intro c pc h
  unfold Decoder.instr
  exact (dq_b h).trans rfl
theorem dq_o13 : dq_P 13 (dq_s (.fconst 2)) := by
  refine dq_sP ?_
  intro c pc h
  unfold Decoder.instr
  exact (dq_b h).trans rfl
theorem dq_o14 : dq_P 14 (dq_s (.dconst 0)) := by
  refine dq_sP ?_
  intro c pc h
  unfold Decoder.instr
  exact (dq_b h).trans rfl
theorem dq_o15 : dq_P 15 (dq_s (.dconst 1)) := by
  refine dq_sP ?_
  intro c pc h
  unfold Decoder.instr
  exact (dq_b h).trans rfl
theorem dq_o16 : dq_P 16 (dq_b1 (fun x => .bipush x)) := by
  refine dq_b1P ?_
  intro c pc h
  unfold Decoder.instr
  exact (dq_b h).trans rfl
theorem dq_o17 : dq_P 17 (dq_b2 (fun x => .sipush x)) := by
  refine dq_b2P ?_
  intro c pc h
  unfold Decoder.instr
  exact (dq_b h).trans rfl
theorem dq_o18 : dq_P 18 (dq_a1 (fun x => .ldc x)) := by
  refine dq_a1P ?_
  intro c pc h
  unfold Decoder.instr
  exact (dq_b h).trans rfl
theorem dq_o19 : dq_P 19 (dq_a2 (fun x => .ldc_w x)) := by
  refine dq_a2P ?_
  intro c pc h
  unfold Decoder.instr
  exact (dq_b h).trans rfl
theorem dq_o20 : dq_P 20 (dq_a2 (fun x => .ldc2_w x)) := by
  refine dq_a2P ?_
  intro c pc h
  unfold Decoder.instr
  exact (dq_b h).trans rfl
theorem dq_o21 : dq_P 21 (dq_a1 (fun x => .iload x)) := by
  refine dq_a1P ?_
  intro c pc h
  unfold Decoder.instr
  exact (dq_b h).trans rfl
theorem dq_o22 : dq_P 22 (dq_a1 (fun x => .lload x)) := by
  refine dq_a1P ?_
  intro c pc h
  unfold Decoder.instr
  exact (dq_b h).trans rfl
theorem dq_o23 : dq_P 23 (dq_a1 (fun x => .fload x)) := by
  refine dq_a1P ?_
  intro c pc h
  unfold Decoder.instr
  exact (dq_b h).trans rfl
theorem dq_o24 : dq_P 24 (dq_a1 (fun x => .dload x)) := by
  refine dq_a1P ?_
  intro c pc h
  unfold Decoder.instr
  exact (dq_b h).trans rfl
theorem dq_o25 : dq_P 25 (dq_a1 (fun x => .aload x)) := by
  refine dq_a1P ?_
  intro c pc h
  unfold Decoder.instr
  exact (dq_b h).trans rfl
theorem dq_o26 : dq_P 26 (dq_s (.iload_n 0)) := by
  refine dq_sP ?_
  intro c pc h
  unfold Decoder.instr
  exact (dq_b h).trans rfl
theorem dq_o27 : dq_P 27 (dq_s (.iload_n 1)) := by
  refine dq_sP ?_
  intro c pc h
  unfold Decoder.instr
  exact (dq_b h).trans rfl
theorem dq_o28 : dq_P 28 (dq_s (.iload_n 2)) := by
  refine dq_sP ?_
  intro c pc h
  unfold Decoder.instr
  exact (dq_b h).trans rfl
theorem dq_o29 : dq_P 29 (dq_s (.iload_n 3)) := by
  refine dq_sP ?_
  intro c pc h
  unfold Decoder.instr
  exact (dq_b h).trans rfl
theorem dq_o30 : dq_P 30 (dq_s (.lload_n 0)) := by
  refine dq_sP ?_
  intro c pc h
  unfold Decoder.instr
  exact (dq_b h).trans rfl
theorem dq_o31 : dq_P 31 (dq_s (.lload_n 1)) := by
  refine dq_sP ?_
  intro c pc h
  unfold Decoder.instr
  exact (dq_b h).trans rfl
theorem dq_o32 : dq_P 32 (dq_s (.lload_n 2)) := by
  refine dq_sP ?_
  intro c pc h
  unfold Decoder.instr
  exact (dq_b h).trans rfl
theorem dq_o33 : dq_P 33 (dq_s (.lload_n 3)) := by
  refine dq_sP ?_
  intro c pc h
  unfold Decoder.instr
  exact (dq_b h).trans rfl
theorem dq_o34 : dq_P 34 (dq_s (.fload_n 0)) := by
  refine dq_sP ?_
  intro c pc h
  unfold Decoder.instr
  exact (dq_b h).trans rfl
theorem dq_o35 : dq_P 35 (dq_s (.fload_n 1)) := by
  refine dq_sP ?_
  intro c pc h
  unfold Decoder.instr
  exact (dq_b h).trans rfl
theorem dq_o36 : dq_P 36 (dq_s (.fload_n 2)) := by
  refine dq_sP ?_
  intro c pc h
  unfold Decoder.instr
  exact (dq_b h).trans rfl
theorem dq_o37 : dq_P 37 (dq_s (.fload_n 3)) := by
  refine dq_sP ?_
  intro c pc h
  unfold Decoder.instr
  exact (dq_b h).trans rfl
theorem dq_o38 : dq_P 38 (dq_s (.dload_n 0)) := by
  refine dq_sP ?_
  intro c pc h
  unfold Decoder.instr
  exact (dq_b h).trans rfl
theorem dq_o39 : dq_P 39 (dq_s (.dload_n 1)) := by
  refine dq_sP ?_
  intro c pc h
  unfold Decoder.instr
  exact (dq_b h).trans rfl
theorem dq_o40 : dq_P 40 (dq_s (.dload_n 2)) := by
  refine dq_sP ?_
  intro c pc h
  unfold Decoder.instr
  exact (dq_b h).trans rfl
theorem dq_o41 : dq_P 41 (dq_s (.dload_n 3)) := by
  refine dq_sP ?_
  intro c pc h
  unfold Decoder.instr
  exact (dq_b h).trans rfl
theorem dq_o42 : dq_P 42 (dq_s (.aload_n 0)) := by
  refine dq_sP ?_
  intro c pc h
  unfold Decoder.instr
  exact (dq_b h).trans rfl
theorem dq_o43 : dq_P 43 (dq_s (.aload_n 1)) := by
  refine dq_sP ?_
  intro c pc h
  unfold Decoder.instr
  exact (dq_b h).trans rfl
theorem dq_o44 : dq_P 44 (dq_s (.aload_n 2)) := by
  refine dq_sP ?_
  intro c pc h
  unfold Decoder.instr
  exact (dq_b h).trans rfl
theorem dq_o45 : dq_P 45 (dq_s (.aload_n 3)) := by
  refine dq_sP ?_
  intro c pc h
  unfold Decoder.instr
  exact (dq_b h).trans rfl
theorem dq_o46 : dq_P 46 (dq_s .iaload) := by
  refine dq_sP ?_
  intro c pc h
  unfold Decoder.instr
  exact (dq_b h).trans rfl
theorem dq_o47 : dq_P 47 (dq_s .laload) := by
  refine dq_sP ?_
  intro c pc h
  unfold Decoder.instr
  exact (dq_b h).trans rfl
theorem dq_o48 : dq_P 48 (dq_s .faload) := by
  refine dq_sP ?_
  intro c pc h
  unfold Decoder.instr
  exact (dq_b h).trans rfl
theorem dq_o49 : dq_P 49 (dq_s .daload) := by
  refine dq_sP ?_
  intro c pc h
  unfold Decoder.instr
  exact (dq_b h).trans rfl
theorem dq_o50 : dq_P 50 (dq_s .aaload) := by
  refine dq_sP ?_
  intro c pc h
  unfold Decoder.instr
  exact (dq_b h).trans rfl
theorem dq_o51 : dq_P 51 (dq_s .baload) := by
  refine dq_sP ?_
  intro c pc h
  unfold Decoder.instr
  exact (dq_b h).trans rfl
theorem dq_o52 : dq_P 52 (dq_s .caload) := by
  refine dq_sP ?_
  intro c pc h
  unfold Decoder.instr
  exact (dq_b h).trans rfl
theorem dq_o53 : dq_P 53 (dq_s .saload) := by
  refine dq_sP ?_
  intro c pc h
  unfold Decoder.instr
  exact (dq_b h).trans rfl
theorem dq_o54 : dq_P 54 (dq_a1 (fun x => .istore x)) := by
  refine dq_a1P ?_
  intro c pc h
  unfold Decoder.instr
  exact (dq_b h).trans rfl
theorem dq_o55 : dq_P 55 (dq_a1 (fun x => .lstore x)) := by
  refine dq_a1P ?_
  intro c pc h
  unfold Decoder.instr
  exact (dq_b h).trans rfl
theorem dq_o56 : dq_P 56 (dq_a1 (fun x => .fstore x)) := by
  refine dq_a1P ?_
  intro c pc h
  unfold Decoder.instr
  exact (dq_b h).trans rfl
theorem dq_o57 : dq_P 57 (dq_a1 (fun x => .dstore x)) := by
  refine dq_a1P ?_
  intro c pc h
  unfold Decoder.instr
  exact (dq_b h).trans rfl
theorem dq_o58 : dq_P 58 (dq_a1 (fun x => .astore x)) := by
  refine dq_a1P ?_
  intro c pc h
  unfold Decoder.instr
  exact (dq_b h).trans rfl
theorem dq_o59 : dq_P 59 (dq_s (.istore_n 0)) := by
  refine dq_sP ?_
  intro c pc h
  unfold Decoder.instr
  exact (dq_b h).trans rfl
theorem dq_o60 : dq_P 60 (dq_s (.istore_n 1)) := by
  refine dq_sP ?_
  intro c pc h
  unfold Decoder.instr
  exact (dq_b h).trans rfl
theorem dq_o61 : dq_P 61 (dq_s (.istore_n 2)) := by
  refine dq_sP ?_
  intro c pc h
  unfold Decoder.instr
  exact (dq_b h).trans rfl
theorem dq_o62 : dq_P 62 (dq_s (.istore_n 3)) := by
  refine dq_sP ?_
  intro c pc h
  unfold Decoder.instr
  exact (dq_b h).trans rfl
theorem dq_o63 : dq_P 63 (dq_s (.lstore_n 0)) := by
  refine dq_sP ?_
  intro c pc h
  unfold Decoder.instr
  exact (dq_b h).trans rfl
theorem dq_o64 : dq_P 64 (dq_s (.lstore_n 1)) := by
  refine dq_sP ?_
  intro c pc h
  unfold Decoder.instr
  exact (dq_b h).trans rfl
theorem dq_o65 : dq_P 65 (dq_s (.lstore_n 2)) := by
  refine dq_sP ?_
  intro c pc h
  unfold Decoder.instr
  exact (dq_b h).trans rfl
theorem dq_o66 : dq_P 66 (dq_s (.lstore_n 3)) := by
  refine dq_sP ?_
  intro c pc h
  unfold Decoder.instr
  exact (dq_b h).trans rfl
theorem dq_o67 : dq_P 67 (dq_s (.fstore_n 0)) := by
  refine dq_sP ?_
  intro c pc h
  unfold Decoder.instr
  exact (dq_b h).trans rfl
theorem dq_o68 : dq_P 68 (dq_s (.fstore_n 1)) := by
  refine dq_sP ?_
  intro c pc h
  unfold Decoder.instr
  exact (dq_b h).trans rfl
theorem dq_o69 : dq_P 69 (dq_s (.fstore_n 2)) := by
  refine dq_sP ?_
  intro c pc h
  unfold Decoder.instr
  exact (dq_b h).trans rfl
theorem dq_o70 : dq_P 70 (dq_s (.fstore_n 3)) := by
  refine dq_sP ?_
  intro c pc h
  unfold Decoder.instr
  exact (dq_b h).trans rfl
theorem dq_o71 : dq_P 71 (dq_s (.dstore_n 0)) := by
  refine dq_sP ?_
  intro c pc h
  unfold Decoder.instr
  exact (dq_b h).trans rfl
theorem dq_o72 : dq_P 72 (dq_s (.dstore_n 1)) := by
  refine dq_sP ?_
  intro c pc h
  unfold Decoder.instr
  exact (dq_b h).trans rfl
theorem dq_o73 : dq_P 73 (dq_s (.dstore_n 2)) := by
  refine dq_sP ?_
  intro c pc h
  unfold Decoder.instr
  exact (dq_b h).trans rfl
theorem dq_o74 : dq_P 74 (dq_s (.dstore_n 3)) := by
  refine dq_sP ?_
  intro c pc h
  unfold Decoder.instr
  exact (dq_b h).trans rfl
theorem dq_o75 : dq_P 75 (dq_s (.astore_n 0)) := by
  refine dq_sP ?_
  intro c pc h
  unfold Decoder.instr
  exact (dq_b h).trans rfl
theorem dq_o76 : dq_P 76 (dq_s (.astore_n 1)) := by
  refine dq_sP ?_
  intro c pc h
  unfold Decoder.instr
  exact (dq_b h).trans rfl
theorem dq_o77 : dq_P 77 (dq_s (.astore_n 2)) := by
  refine dq_sP ?_
  intro c pc h
  unfold Decoder.instr
  exact (dq_b h).trans rfl
theorem dq_o78 : dq_P 78 (dq_s (.astore_n 3)) := by
  refine dq_sP ?_
  intro c pc h
  unfold Decoder.instr
  exact (dq_b h).trans rfl
theorem dq_o79 : dq_P 79 (dq_s .iastore) := by
  refine dq_sP ?_
  intro c pc h
  unfold Decoder.instr
  exact (dq_b h).trans rfl
theorem dq_o80 : dq_P 80 (dq_s .lastore) := by
  refine dq_sP ?_
  intro c pc h
  unfold Decoder.instr
  exact (dq_b h).trans rfl
theorem dq_o81 : dq_P 81 (dq_s .fastore) := by
  refine dq_sP ?_
  intro c pc h
  unfold Decoder.instr
  exact (dq_b h).trans rfl
theorem dq_o82 : dq_P 82 (dq_s .dastore) := by
  refine dq_sP ?_
  intro c pc h
  unfold Decoder.instr
  exact (dq_b h).trans rfl
theorem dq_o83 : dq_P 83 (dq_s .aastore) := by
  refine dq_sP ?_
  intro c pc h
  unfold Decoder.instr
  exact (dq_b h).trans rfl
theorem dq_o84 : dq_P 84 (dq_s .bastore) := by
  refine dq_sP ?_
  intro c pc h
  unfold Decoder.instr
  exact (dq_b h).trans rfl
theorem dq_o85 : dq_P 85 (dq_s .castore) := by
  refine dq_sP ?_
  intro c pc h
  unfold Decoder.instr
  exact (dq_b h).trans rfl
theorem dq_o86 : dq_P 86 (dq_s .sastore) := by
  refine dq_sP ?_
  intro c pc h
  unfold Decoder.instr
  exact (dq_b h).trans rfl
theorem dq_o87 : dq_P 87 (dq_s .pop) := by
  refine dq_sP ?_
  intro c pc h
  unfold Decoder.instr
  exact (dq_b h).trans rfl
theorem dq_o88 : dq_P 88 (dq_s .pop2) := by
  refine dq_sP ?_
  intro c pc h
  unfold Decoder.instr
  exact (dq_b h).trans rfl
theorem dq_o89 : dq_P 89 (dq_s .dup) := by
  refine dq_sP ?_
  intro c pc h
  unfold Decoder.instr
  exact (dq_b h).trans rfl
theorem dq_o90 : dq_P 90 (dq_s .dup_x1) := by
  refine dq_sP ?_
  intro c pc h
  unfold Decoder.instr
  exact (dq_b h).trans rfl
theorem dq_o91 : dq_P 91 (dq_s .dup_x2) := by
  refine dq_sP ?_
  intro c pc h
  unfold Decoder.instr
  exact (dq_b h).trans rfl
theorem dq_o92 : dq_P 92 (dq_s .dup2) := by
  refine dq_sP ?_
  intro c pc h
  unfold Decoder.instr
  exact (dq_b h).trans rfl
theorem dq_o93 : dq_P 93 (dq_s .dup2_x1) := by
  refine dq_sP ?_
  intro c pc h
  unfold Decoder.instr
  exact (dq_b h).trans rfl
theorem dq_o94 : dq_P 94 (dq_s .dup2_x2) := by
  refine dq_sP ?_
  intro c pc h
  unfold Decoder.instr
  exact (dq_b h).trans rfl
theorem dq_o95 : dq_P 95 (dq_s .swap) := by
  refine dq_sP ?_
  intro c pc h
  unfold Decoder.instr
  exact (dq_b h).trans rfl
theorem dq_o96 : dq_P 96 (dq_s .iadd) := by
  refine dq_sP ?_
  intro c pc h
  unfold Decoder.instr
  exact (dq_b h).trans rfl
theorem dq_o97 : dq_P 97 (dq_s .ladd) := by
  refine dq_sP ?_
  intro c pc h
  unfold Decoder.instr
  exact (dq_b h).trans rfl
theorem dq_o98 : dq_P 98 (dq_s .fadd) := by
  refine dq_sP ?_
  intro c pc h
  unfold Decoder.instr
  exact (dq_b h).trans rfl
theorem dq_o99 : dq_P 99 (dq_s .dadd) := by
  refine dq_sP ?_
  intro c pc h
  unfold Decoder.instr
  exact (dq_b h).trans rfl
theorem dq_o100 : dq_P 100 (dq_s .isub) := by
  refine dq_sP ?_
  intro c pc h
  unfold Decoder.instr
  exact (dq_b h).trans rfl
theorem dq_o101 : dq_P 101 (dq_s .lsub) := by
  refine dq_sP ?_
  intro c pc h
  unfold Decoder.instr
  exact (dq_b h).trans rfl
theorem dq_o102 : dq_P 102 (dq_s .fsub) := by
  refine dq_sP ?_
  intro c pc h
  unfold Decoder.instr
  exact (dq_b h).trans rfl
theorem dq_o103 : dq_P 103 (dq_s .dsub) := by
  refine dq_sP ?_
  intro c pc h
  unfold Decoder.instr
  exact (dq_b h).trans rfl
theorem dq_o104 : dq_P 104 (dq_s .imul) := by
  refine dq_sP ?_
  intro c pc h
  unfold Decoder.instr
  exact (dq_b h).trans rfl
theorem dq_o105 : dq_P 105 (dq_s .lmul) := by
  refine dq_sP ?_
  intro c pc h
  unfold Decoder.instr
  exact (dq_b h).trans rfl
theorem dq_o106 : dq_P 106 (dq_s .fmul) := by
  refine dq_sP ?_
  intro c pc h
  unfold Decoder.instr
  exact (dq_b h).trans rfl
theorem dq_o107 : dq_P 107 (dq_s .dmul) := by
  refine dq_sP ?_
  intro c pc h
  unfold Decoder.instr
  exact (dq_b h).trans rfl
theorem dq_o108 : dq_P 108 (dq_s .idiv) := by
  refine dq_sP ?_
  intro c pc h
  unfold Decoder.instr
  exact (dq_b h).trans rfl
theorem dq_o109 : dq_P 109 (dq_s .ldiv) := by
  refine dq_sP ?_
  intro c pc h
  unfold Decoder.instr
  exact (dq_b h).trans rfl
theorem dq_o110 : dq_P 110 (dq_s .fdiv) := by
  refine dq_sP ?_
  intro c pc h
  unfold Decoder.instr
  exact (dq_b h).trans rfl
theorem dq_o111 : dq_P 111 (dq_s .ddiv) := by
  refine dq_sP ?_
  intro c pc h
  unfold Decoder.instr
  exact (dq_b h).trans rfl
theorem dq_o112 : dq_P 112 (dq_s .irem) := by
  refine dq_sP ?_
  intro c pc h
  unfold Decoder.instr
  exact (dq_b h).trans rfl
theorem dq_o113 : dq_P 113 (dq_s .lrem) := by
  refine dq_sP ?_
  intro c pc h
  unfold Decoder.instr
  exact (dq_b h).trans rfl
theorem dq_o114 : dq_P 114 (dq_s .frem) := by
  refine dq_sP ?_
  intro c pc h
  unfold Decoder.instr
  exact (dq_b h).trans rfl
theorem dq_o115 : dq_P 115 (dq_s .drem) := by
  refine dq_sP ?_
  intro c pc h
  unfold Decoder.instr
  exact (dq_b h).trans rfl
theorem dq_o116 : dq_P 116 (dq_s .ineg) := by
  refine dq_sP ?_
  intro c pc h
  unfold Decoder.instr
  exact (dq_b h).trans rfl
theorem dq_o117 : dq_P 117 (dq_s .lneg) := by
  refine dq_sP ?_
  intro c pc h
  unfold Decoder.instr
  exact (dq_b h).trans rfl
theorem dq_o118 : dq_P 118 (dq_s .fneg) := by
  refine dq_sP ?_
  intro c pc h
  unfold Decoder.instr
  exact (dq_b h).trans rfl
theorem dq_o119 : dq_P 119 (dq_s .dneg) := by
  refine dq_sP ?_
  intro c pc h
  unfold Decoder.instr
  exact (dq_b h).trans rfl
theorem dq_o120 : dq_P 120 (dq_s .ishl) := by
  refine dq_sP ?_
  intro c pc h
  unfold Decoder.instr
  exact (dq_b h).trans rfl
theorem dq_o121 : dq_P 121 (dq_s .lshl) := by
  refine dq_sP ?_
  intro c pc h
  unfold Decoder.instr
  exact (dq_b h).trans rfl
theorem dq_o122 : dq_P 122 (dq_s .ishr) := by
  refine dq_sP ?_
  intro c pc h
  unfold Decoder.instr
  exact (dq_b h).trans rfl
theorem dq_o123 : dq_P 123 (dq_s .lshr) := by
  refine dq_sP ?_
  intro c pc h
  unfold Decoder.instr
  exact (dq_b h).trans rfl
theorem dq_o124 : dq_P 124 (dq_s .iushr) := by
  refine dq_sP ?_
  intro c pc h
  unfold Decoder.instr
  exact (dq_b h).trans rfl
theorem dq_o125 : dq_P 125 (dq_s .lushr) := by
  refine dq_sP ?_
  intro c pc h
  unfold Decoder.instr
  exact (dq_b h).trans rfl
theorem dq_o126 : dq_P 126 (dq_s .iand) := by
  refine dq_sP ?_
  intro c pc h
  unfold Decoder.instr
  exact (dq_b h).trans rfl
theorem dq_o127 : dq_P 127 (dq_s .land) := by
  refine dq_sP ?_
  intro c pc h
  unfold Decoder.instr
  exact (dq_b h).trans rfl
theorem dq_o128 : dq_P 128 (dq_s .ior) := by
  refine dq_sP ?_
  intro c pc h
  unfold Decoder.instr
  exact (dq_b h).trans rfl
theorem dq_o129 : dq_P 129 (dq_s .lor) := by
  refine dq_sP ?_
  intro c pc h
  unfold Decoder.instr
  exact (dq_b h).trans rfl
theorem dq_o130 : dq_P 130 (dq_s .ixor) := by
  refine dq_sP ?_
  intro c pc h
  unfold Decoder.instr
  exact (dq_b h).trans rfl
theorem dq_o131 : dq_P 131 (dq_s .lxor) := by
  refine dq_sP ?_
  intro c pc h
  unfold Decoder.instr
  exact (dq_b h).trans rfl
theorem dq_o132 : dq_P 132 dq_ii := by
  refine dq_iiP ?_
  intro c pc h
  unfold Decoder.instr
  exact (dq_b h).trans rfl
theorem dq_o133 : dq_P 133 (dq_s .i2l) := by
  refine dq_sP ?_
  intro c pc h
  unfold Decoder.instr
  exact (dq_b h).trans rfl
theorem dq_o134 : dq_P 134 (dq_s .i2f) := by
  refine dq_sP ?_
  intro c pc h
  unfold Decoder.instr
  exact (dq_b h).trans rfl
theorem dq_o135 : dq_P 135 (dq_s .i2d) := by
  refine dq_sP ?_
  intro c pc h
  unfold Decoder.instr
  exact (dq_b h).trans rfl
theorem dq_o136 : dq_P 136 (dq_s .l2i) := by
  refine dq_sP ?_
  intro c pc h
  unfold Decoder.instr
  exact (dq_b h).trans rfl
theorem dq_o137 : dq_P 137 (dq_s .l2f) := by
  refine dq_sP ?_
  intro c pc h
  unfold Decoder.instr
  exact (dq_b h).trans rfl
theorem dq_o138 : dq_P 138 (dq_s .l2d) := by
  refine dq_sP ?_
  intro c pc h
  unfold Decoder.instr
  exact (dq_b h).trans rfl
theorem dq_o139 : dq_P 139 (dq_s .f2i) := by
  refine dq_sP ?_
  intro c pc h
  unfold Decoder.instr
  exact (dq_b h).trans rfl
theorem dq_o140 : dq_P 140 (dq_s .f2l) := by
  refine dq_sP ?_
  intro c pc h
  unfold Decoder.instr
  exact (dq_b h).trans rfl
theorem dq_o141 : dq_P 141 (dq_s .f2d) := by
  refine dq_sP ?_
  intro c pc h
  unfold Decoder.instr
  exact (dq_b h).trans rfl
theorem dq_o142 : dq_P 142 (dq_s .d2i) := by
  refine dq_sP ?_
  intro c pc h
  unfold Decoder.instr
  exact (dq_b h).trans rfl
theorem dq_o143 : dq_P 143 (dq_s .d2l) := by
  refine dq_sP ?_
  intro c pc h
  unfold Decoder.instr
  exact (dq_b h).trans rfl
theorem dq_o144 : dq_P 144 (dq_s .d2f) := by
  refine dq_sP ?_
  intro c pc h
  unfold Decoder.instr
  exact (dq_b h).trans rfl
theorem dq_o145 : dq_P 145 (dq_s .i2b) := by
  refine dq_sP ?_
  intro c pc h
  unfold Decoder.instr
  exact (dq_b h).trans rfl
theorem dq_o146 : dq_P 146 (dq_s .i2c) := by
  refine dq_sP ?_
  intro c pc h
  unfold Decoder.instr
  exact (dq_b h).trans rfl
theorem dq_o147 : dq_P 147 (dq_s .i2s) := by
  refine dq_sP ?_
  intro c pc h
  unfold Decoder.instr
  exact (dq_b h).trans rfl
theorem dq_o148 : dq_P 148 (dq_s .lcmp) := by
  refine dq_sP ?_
  intro c pc h
  unfold Decoder.instr
  exact (dq_b h).trans rfl
theorem dq_o149 : dq_P 149 (dq_s (.fcmp .l)) := by
  refine dq_sP ?_
  intro c pc h
  unfold Decoder.instr
  exact (dq_b h).trans rfl
theorem dq_o150 : dq_P 150 (dq_s (.fcmp .g)) := by
  refine dq_sP ?_
  intro c pc h
  unfold Decoder.instr
  exact (dq_b h).trans rfl
theorem dq_o151 : dq_P 151 (dq_s (.dcmp .l)) := by
  refine dq_sP ?_
  intro c pc h
  unfold Decoder.instr
  exact (dq_b h).trans rfl
theorem dq_o152 : dq_P 152 (dq_s (.dcmp .g)) := by
  refine dq_sP ?_
  intro c pc h
  unfold Decoder.instr
  exact (dq_b h).trans rfl
theorem dq_o153 : dq_P 153 (dq_b2 (fun x => .ifCond .eq x)) := by
  refine dq_b2P ?_
  intro c pc h
  unfold Decoder.instr
  exact (dq_b h).trans rfl
theorem dq_o154 : dq_P 154 (dq_b2 (fun x => .ifCond .ne x)) := by
  refine dq_b2P ?_
  intro c pc h
  unfold Decoder.instr
  exact (dq_b h).trans rfl
theorem dq_o155 : dq_P 155 (dq_b2 (fun x => .ifCond .lt x)) := by
  refine dq_b2P ?_
  intro c pc h
  unfold Decoder.instr
  exact (dq_b h).trans rfl
theorem dq_o156 : dq_P 156 (dq_b2 (fun x => .ifCond .ge x)) := by
  refine dq_b2P ?_
  intro c pc h
  unfold Decoder.instr
  exact (dq_b h).trans rfl
theorem dq_o157 : dq_P 157 (dq_b2 (fun x => .ifCond .gt x)) := by
  refine dq_b2P ?_
  intro c pc h
  unfold Decoder.instr
  exact (dq_b h).trans rfl
theorem dq_o158 : dq_P 158 (dq_b2 (fun x => .ifCond .le x)) := by
  refine dq_b2P ?_
  intro c pc h
  unfold Decoder.instr
  exact (dq_b h).trans rfl
theorem dq_o159 : dq_P 159 (dq_b2 (fun x => .if_icmp .eq x)) := by
  refine dq_b2P ?_
  intro c pc h
  unfold Decoder.instr
  exact (dq_b h).trans rfl
theorem dq_o160 : dq_P 160 (dq_b2 (fun x => .if_icmp .ne x)) := by
  refine dq_b2P ?_
  intro c pc h
  unfold Decoder.instr
  exact (dq_b h).trans rfl
theorem dq_o161 : dq_P 161 (dq_b2 (fun x => .if_icmp .lt x)) := by
  refine dq_b2P ?_
  intro c pc h
  unfold Decoder.instr
  exact (dq_b h).trans rfl
theorem dq_o162 : dq_P 162 (dq_b2 (fun x => .if_icmp .ge x)) := by
  refine dq_b2P ?_
  intro c pc h
  unfold Decoder.instr
  exact (dq_b h).trans rfl
theorem dq_o163 : dq_P 163 (dq_b2 (fun x => .if_icmp .gt x)) := by
  refine dq_b2P ?_
  intro c pc h
  unfold Decoder.instr
  exact (dq_b h).trans rfl
theorem dq_o164 : dq_P 164 (dq_b2 (fun x => .if_icmp .le x)) := by
  refine dq_b2P ?_
  intro c pc h
  unfold Decoder.instr
  exact (dq_b h).trans rfl
theorem dq_o165 : dq_P 165 (dq_b2 (fun x => .if_acmp .eq x)) := by
  refine dq_b2P ?_
  intro c pc h
  unfold Decoder.instr
  exact (dq_b h).trans rfl
theorem dq_o166 : dq_P 166 (dq_b2 (fun x => .if_acmp .ne x)) := by
  refine dq_b2P ?_
  intro c pc h
  unfold Decoder.instr
  exact (dq_b h).trans rfl
theorem dq_o167 : dq_P 167 (dq_b2 (fun x => .goto x)) := by
  refine dq_b2P ?_
  intro c pc h
  unfold Decoder.instr
  exact (dq_b h).trans rfl
theorem dq_o172 : dq_P 172 (dq_s .ireturn) := by
  refine dq_sP ?_
  intro c pc h
  unfold Decoder.instr
  exact (dq_b h).trans rfl
theorem dq_o173 : dq_P 173 (dq_s .lreturn) := by
  refine dq_sP ?_
  intro c pc h
  unfold Decoder.instr
  exact (dq_b h).trans rfl
theorem dq_o174 : dq_P 174 (dq_s .freturn) := by
  refine dq_sP ?_
  intro c pc h
  unfold Decoder.instr
  exact (dq_b h).trans rfl
theorem dq_o175 : dq_P 175 (dq_s .dreturn) := by
  refine dq_sP ?_
  intro c pc h
  unfold Decoder.instr
  exact (dq_b h).trans rfl
theorem dq_o176 : dq_P 176 (dq_s .areturn) := by
  refine dq_sP ?_
  intro c pc h
  unfold Decoder.instr
  exact (dq_b h).trans rfl
theorem dq_o177 : dq_P 177 (dq_s .return_) := by
  refine dq_sP ?_
  intro c pc h
  unfold Decoder.instr
  exact (dq_b h).trans rfl
theorem dq_o178 : dq_P 178 (dq_a2 (fun x => .getstatic x)) := by
  refine dq_a2P ?_
  intro c pc h
  unfold Decoder.instr
  exact (dq_b h).trans rfl
theorem dq_o179 : dq_P 179 (dq_a2 (fun x => .putstatic x)) := by
  refine dq_a2P ?_
  intro c pc h
  unfold Decoder.instr
  exact (dq_b h).trans rfl
theorem dq_o180 : dq_P 180 (dq_a2 (fun x => .getfield x)) := by
  refine dq_a2P ?_
  intro c pc h
  unfold Decoder.instr
  exact (dq_b h).trans rfl
theorem dq_o181 : dq_P 181 (dq_a2 (fun x => .putfield x)) := by
  refine dq_a2P ?_
  intro c pc h
  unfold Decoder.instr
  exact (dq_b h).trans rfl
theorem dq_o182 : dq_P 182 (dq_a2 (fun x => .invokevirtual x)) := by
  refine dq_a2P ?_
  intro c pc h
  unfold Decoder.instr
  exact (dq_b h).trans rfl
theorem dq_o183 : dq_P 183 (dq_a2 (fun x => .invokespecial x)) := by
  refine dq_a2P ?_
  intro c pc h
  unfold Decoder.instr
  exact (dq_b h).trans rfl
theorem dq_o184 : dq_P 184 (dq_a2 (fun x => .invokestatic x)) := by
  refine dq_a2P ?_
  intro c pc h
  unfold Decoder.instr
  exact (dq_b h).trans rfl
theorem dq_o187 : dq_P 187 (dq_a2 (fun x => .new x)) := by
  refine dq_a2P ?_
  intro c pc h
  unfold Decoder.instr
  exact (dq_b h).trans rfl
theorem dq_o188 : dq_P 188 dq_na := by
  refine dq_naP ?_
  intro c pc h
  unfold Decoder.instr
  exact (dq_b h).trans rfl
theorem dq_o189 : dq_P 189 (dq_a2 (fun x => .anewarray x)) := by
  refine dq_a2P ?_
  intro c pc h
  unfold Decoder.instr
  exact (dq_b h).trans rfl
theorem dq_o190 : dq_P 190 (dq_s .arraylength) := by
  refine dq_sP ?_
  intro c pc h
  unfold Decoder.instr
  exact (dq_b h).trans rfl
theorem dq_o191 : dq_P 191 (dq_s .athrow) := by
  refine dq_sP ?_
  intro c pc h
  unfold Decoder.instr
  exact (dq_b h).trans rfl
theorem dq_o192 : dq_P 192 (dq_a2 (fun x => .checkcast x)) := by
  refine dq_a2P ?_
  intro c pc h
  unfold Decoder.instr
  exact (dq_b h).trans rfl
theorem dq_o193 : dq_P 193 (dq_a2 (fun x => .instanceof x)) := by
  refine dq_a2P ?_
  intro c pc h
  unfold Decoder.instr
  exact (dq_b h).trans rfl
theorem dq_o198 : dq_P 198 (dq_b2 (fun x => .ifnull x)) := by
  refine dq_b2P ?_
  intro c pc h
  unfold Decoder.instr
  exact (dq_b h).trans rfl
theorem dq_o199 : dq_P 199 (dq_b2 (fun x => .ifnonnull x)) := by
  refine dq_b2P ?_
  intro c pc h
  unfold Decoder.instr
  exact (dq_b h).trans rfl
noncomputable def dq_at {A : Type} (l : List A) : Nat → Option A := List.rec (fun _ => none) (fun a _ ih n => Nat.rec (some a) (fun m _ => ih m) n) l
theorem dq_at_cons {A : Type} (a : A) (l : List A) (n : Nat) : dq_at (a :: l) (n + 1) = dq_at l n := rfl
def dq_A (n : Nat) : List (List UInt8 → Option (Instr × Nat)) → Prop := fun l => ∀ k f, dq_at l k = some f → dq_P (n + k) f
theorem dq_An (n : Nat) : dq_A n [] := fun _ _ h => nomatch h
theorem dq_Ac {n : Nat} {f} {l : List (List UInt8 → Option (Instr × Nat))} (h : dq_P n f) (hl : dq_A (n + 1) l) : dq_A n (f :: l) := by
  intro k g hk
  cases k with
  | zero => cases (Option.some.inj hk); exact h
  | succ k =>
    rw [dq_at_cons] at hk
    have := hl k g hk
    rw [show n + (k + 1) = n + 1 + k by omega]
    exact this

def dq_r0 : List (List UInt8 → Option (Instr × Nat)) := [(dq_s .nop), (dq_s .aconst_null), (dq_s (.iconst (-1))), (dq_s (.iconst 0)), (dq_s (.iconst 1)), (dq_s (.iconst 2)), (dq_s (.iconst 3)), (dq_s (.iconst 4)), (dq_s (.iconst 5)), (dq_s (.lconst 0)), (dq_s (.lconst 1)), (dq_s (.fconst 0)), (dq_s (.fconst 1)), (dq_s (.fconst 2)), (dq_s (.dconst 0)), (dq_s (.dconst 1))]
theorem dq_r0_ok : dq_A 0 dq_r0 := dq_Ac dq_o0 (dq_Ac dq_o1 (dq_Ac dq_o2 (dq_Ac dq_o3 (dq_Ac dq_o4 (dq_Ac dq_o5 (dq_Ac dq_o6 (dq_Ac dq_o7 (dq_Ac dq_o8 (dq_Ac dq_o9 (dq_Ac dq_o10 (dq_Ac dq_o11 (dq_Ac dq_o12 (dq_Ac dq_o13 (dq_Ac dq_o14 (dq_Ac dq_o15 (dq_An 16))))))))))))))))
def dq_r1 : List (List UInt8 → Option (Instr × Nat)) := [(dq_b1 (fun x => .bipush x)), (dq_b2 (fun x => .sipush x)), (dq_a1 (fun x => .ldc x)), (dq_a2 (fun x => .ldc_w x)), (dq_a2 (fun x => .ldc2_w x)), (dq_a1 (fun x => .iload x)), (dq_a1 (fun x => .lload x)), (dq_a1 (fun x => .fload x)), (dq_a1 (fun x => .dload x)), (dq_a1 (fun x => .aload x)), (dq_s (.iload_n 0)), (dq_s (.iload_n 1)), (dq_s (.iload_n 2)), (dq_s (.iload_n 3)), (dq_s (.lload_n 0)), (dq_s (.lload_n 1))]
theorem dq_r1_ok : dq_A 16 dq_r1 := dq_Ac dq_o16 (dq_Ac dq_o17 (dq_Ac dq_o18 (dq_Ac dq_o19 (dq_Ac dq_o20 (dq_Ac dq_o21 (dq_Ac dq_o22 (dq_Ac dq_o23 (dq_Ac dq_o24 (dq_Ac dq_o25 (dq_Ac dq_o26 (dq_Ac dq_o27 (dq_Ac dq_o28 (dq_Ac dq_o29 (dq_Ac dq_o30 (dq_Ac dq_o31 (dq_An 32))))))))))))))))
def dq_r2 : List (List UInt8 → Option (Instr × Nat)) := [(dq_s (.lload_n 2)), (dq_s (.lload_n 3)), (dq_s (.fload_n 0)), (dq_s (.fload_n 1)), (dq_s (.fload_n 2)), (dq_s (.fload_n 3)), (dq_s (.dload_n 0)), (dq_s (.dload_n 1)), (dq_s (.dload_n 2)), (dq_s (.dload_n 3)), (dq_s (.aload_n 0)), (dq_s (.aload_n 1)), (dq_s (.aload_n 2)), (dq_s (.aload_n 3)), (dq_s .iaload), (dq_s .laload)]
theorem dq_r2_ok : dq_A 32 dq_r2 := dq_Ac dq_o32 (dq_Ac dq_o33 (dq_Ac dq_o34 (dq_Ac dq_o35 (dq_Ac dq_o36 (dq_Ac dq_o37 (dq_Ac dq_o38 (dq_Ac dq_o39 (dq_Ac dq_o40 (dq_Ac dq_o41 (dq_Ac dq_o42 (dq_Ac dq_o43 (dq_Ac dq_o44 (dq_Ac dq_o45 (dq_Ac dq_o46 (dq_Ac dq_o47 (dq_An 48))))))))))))))))
def dq_r3 : List (List UInt8 → Option (Instr × Nat)) := [(dq_s .faload), (dq_s .daload), (dq_s .aaload), (dq_s .baload), (dq_s .caload), (dq_s .saload), (dq_a1 (fun x => .istore x)), (dq_a1 (fun x => .lstore x)), (dq_a1 (fun x => .fstore x)), (dq_a1 (fun x => .dstore x)), (dq_a1 (fun x => .astore x)), (dq_s (.istore_n 0)), (dq_s (.istore_n 1)), (dq_s (.istore_n 2)), (dq_s (.istore_n 3)), (dq_s (.lstore_n 0))]
theorem dq_r3_ok : dq_A 48 dq_r3 := dq_Ac dq_o48 (dq_Ac dq_o49 (dq_Ac dq_o50 (dq_Ac dq_o51 (dq_Ac dq_o52 (dq_Ac dq_o53 (dq_Ac dq_o54 (dq_Ac dq_o55 (dq_Ac dq_o56 (dq_Ac dq_o57 (dq_Ac dq_o58 (dq_Ac dq_o59 (dq_Ac dq_o60 (dq_Ac dq_o61 (dq_Ac dq_o62 (dq_Ac dq_o63 (dq_An 64))))))))))))))))
def dq_r4 : List (List UInt8 → Option (Instr × Nat)) := [(dq_s (.lstore_n 1)), (dq_s (.lstore_n 2)), (dq_s (.lstore_n 3)), (dq_s (.fstore_n 0)), (dq_s (.fstore_n 1)), (dq_s (.fstore_n 2)), (dq_s (.fstore_n 3)), (dq_s (.dstore_n 0)), (dq_s (.dstore_n 1)), (dq_s (.dstore_n 2)), (dq_s (.dstore_n 3)), (dq_s (.astore_n 0)), (dq_s (.astore_n 1)), (dq_s (.astore_n 2)), (dq_s (.astore_n 3)), (dq_s .iastore)]
theorem dq_r4_ok : dq_A 64 dq_r4 := dq_Ac dq_o64 (dq_Ac dq_o65 (dq_Ac dq_o66 (dq_Ac dq_o67 (dq_Ac dq_o68 (dq_Ac dq_o69 (dq_Ac dq_o70 (dq_Ac dq_o71 (dq_Ac dq_o72 (dq_Ac dq_o73 (dq_Ac dq_o74 (dq_Ac dq_o75 (dq_Ac dq_o76 (dq_Ac dq_o77 (dq_Ac dq_o78 (dq_Ac dq_o79 (dq_An 80))))))))))))))))
def dq_r5 : List (List UInt8 → Option (Instr × Nat)) := [(dq_s .lastore), (dq_s .fastore), (dq_s .dastore), (dq_s .aastore), (dq_s .bastore), (dq_s .castore), (dq_s .sastore), (dq_s .pop), (dq_s .pop2), (dq_s .dup), (dq_s .dup_x1), (dq_s .dup_x2), (dq_s .dup2), (dq_s .dup2_x1), (dq_s .dup2_x2), (dq_s .swap)]
theorem dq_r5_ok : dq_A 80 dq_r5 := dq_Ac dq_o80 (dq_Ac dq_o81 (dq_Ac dq_o82 (dq_Ac dq_o83 (dq_Ac dq_o84 (dq_Ac dq_o85 (dq_Ac dq_o86 (dq_Ac dq_o87 (dq_Ac dq_o88 (dq_Ac dq_o89 (dq_Ac dq_o90 (dq_Ac dq_o91 (dq_Ac dq_o92 (dq_Ac dq_o93 (dq_Ac dq_o94 (dq_Ac dq_o95 (dq_An 96))))))))))))))))
def dq_r6 : List (List UInt8 → Option (Instr × Nat)) := [(dq_s .iadd), (dq_s .ladd), (dq_s .fadd), (dq_s .dadd), (dq_s .isub), (dq_s .lsub), (dq_s .fsub), (dq_s .dsub), (dq_s .imul), (dq_s .lmul), (dq_s .fmul), (dq_s .dmul), (dq_s .idiv), (dq_s .ldiv), (dq_s .fdiv), (dq_s .ddiv)]
theorem dq_r6_ok : dq_A 96 dq_r6 := dq_Ac dq_o96 (dq_Ac dq_o97 (dq_Ac dq_o98 (dq_Ac dq_o99 (dq_Ac dq_o100 (dq_Ac dq_o101 (dq_Ac dq_o102 (dq_Ac dq_o103 (dq_Ac dq_o104 (dq_Ac dq_o105 (dq_Ac dq_o106 (dq_Ac dq_o107 (dq_Ac dq_o108 (dq_Ac dq_o109 (dq_Ac dq_o110 (dq_Ac dq_o111 (dq_An 112))))))))))))))))
def dq_r7 : List (List UInt8 → Option (Instr × Nat)) := [(dq_s .irem), (dq_s .lrem), (dq_s .frem), (dq_s .drem), (dq_s .ineg), (dq_s .lneg), (dq_s .fneg), (dq_s .dneg), (dq_s .ishl), (dq_s .lshl), (dq_s .ishr), (dq_s .lshr), (dq_s .iushr), (dq_s .lushr), (dq_s .iand), (dq_s .land)]
theorem dq_r7_ok : dq_A 112 dq_r7 := dq_Ac dq_o112 (dq_Ac dq_o113 (dq_Ac dq_o114 (dq_Ac dq_o115 (dq_Ac dq_o116 (dq_Ac dq_o117 (dq_Ac dq_o118 (dq_Ac dq_o119 (dq_Ac dq_o120 (dq_Ac dq_o121 (dq_Ac dq_o122 (dq_Ac dq_o123 (dq_Ac dq_o124 (dq_Ac dq_o125 (dq_Ac dq_o126 (dq_Ac dq_o127 (dq_An 128))))))))))))))))
def dq_r8 : List (List UInt8 → Option (Instr × Nat)) := [(dq_s .ior), (dq_s .lor), (dq_s .ixor), (dq_s .lxor), dq_ii, (dq_s .i2l), (dq_s .i2f), (dq_s .i2d), (dq_s .l2i), (dq_s .l2f), (dq_s .l2d), (dq_s .f2i), (dq_s .f2l), (dq_s .f2d), (dq_s .d2i), (dq_s .d2l)]
theorem dq_r8_ok : dq_A 128 dq_r8 := dq_Ac dq_o128 (dq_Ac dq_o129 (dq_Ac dq_o130 (dq_Ac dq_o131 (dq_Ac dq_o132 (dq_Ac dq_o133 (dq_Ac dq_o134 (dq_Ac dq_o135 (dq_Ac dq_o136 (dq_Ac dq_o137 (dq_Ac dq_o138 (dq_Ac dq_o139 (dq_Ac dq_o140 (dq_Ac dq_o141 (dq_Ac dq_o142 (dq_Ac dq_o143 (dq_An 144))))))))))))))))
def dq_r9 : List (List UInt8 → Option (Instr × Nat)) := [(dq_s .d2f), (dq_s .i2b), (dq_s .i2c), (dq_s .i2s), (dq_s .lcmp), (dq_s (.fcmp .l)), (dq_s (.fcmp .g)), (dq_s (.dcmp .l)), (dq_s (.dcmp .g)), (dq_b2 (fun x => .ifCond .eq x)), (dq_b2 (fun x => .ifCond .ne x)), (dq_b2 (fun x => .ifCond .lt x)), (dq_b2 (fun x => .ifCond .ge x)), (dq_b2 (fun x => .ifCond .gt x)), (dq_b2 (fun x => .ifCond .le x)), (dq_b2 (fun x => .if_icmp .eq x))]
theorem dq_r9_ok : dq_A 144 dq_r9 := dq_Ac dq_o144 (dq_Ac dq_o145 (dq_Ac dq_o146 (dq_Ac dq_o147 (dq_Ac dq_o148 (dq_Ac dq_o149 (dq_Ac dq_o150 (dq_Ac dq_o151 (dq_Ac dq_o152 (dq_Ac dq_o153 (dq_Ac dq_o154 (dq_Ac dq_o155 (dq_Ac dq_o156 (dq_Ac dq_o157 (dq_Ac dq_o158 (dq_Ac dq_o159 (dq_An 160))))))))))))))))
def dq_r10 : List (List UInt8 → Option (Instr × Nat)) := [(dq_b2 (fun x => .if_icmp .ne x)), (dq_b2 (fun x => .if_icmp .lt x)), (dq_b2 (fun x => .if_icmp .ge x)), (dq_b2 (fun x => .if_icmp .gt x)), (dq_b2 (fun x => .if_icmp .le x)), (dq_b2 (fun x => .if_acmp .eq x)), (dq_b2 (fun x => .if_acmp .ne x)), (dq_b2 (fun x => .goto x)), dq_no, dq_no, dq_no, dq_no, (dq_s .ireturn), (dq_s .lreturn), (dq_s .freturn), (dq_s .dreturn)]
theorem dq_r10_ok : dq_A 160 dq_r10 := dq_Ac dq_o160 (dq_Ac dq_o161 (dq_Ac dq_o162 (dq_Ac dq_o163 (dq_Ac dq_o164 (dq_Ac dq_o165 (dq_Ac dq_o166 (dq_Ac dq_o167 (dq_Ac (dq_noP 168) (dq_Ac (dq_noP 169) (dq_Ac (dq_noP 170) (dq_Ac (dq_noP 171) (dq_Ac dq_o172 (dq_Ac dq_o173 (dq_Ac dq_o174 (dq_Ac dq_o175 (dq_An 176))))))))))))))))
def dq_r11 : List (List UInt8 → Option (Instr × Nat)) := [(dq_s .areturn), (dq_s .return_), (dq_a2 (fun x => .getstatic x)), (dq_a2 (fun x => .putstatic x)), (dq_a2 (fun x => .getfield x)), (dq_a2 (fun x => .putfield x)), (dq_a2 (fun x => .invokevirtual x)), (dq_a2 (fun x => .invokespecial x)), (dq_a2 (fun x => .invokestatic x)), dq_no, dq_no, (dq_a2 (fun x => .new x)), dq_na, (dq_a2 (fun x => .anewarray x)), (dq_s .arraylength), (dq_s .athrow)]
theorem dq_r11_ok : dq_A 176 dq_r11 := dq_Ac dq_o176 (dq_Ac dq_o177 (dq_Ac dq_o178 (dq_Ac dq_o179 (dq_Ac dq_o180 (dq_Ac dq_o181 (dq_Ac dq_o182 (dq_Ac dq_o183 (dq_Ac dq_o184 (dq_Ac (dq_noP 185) (dq_Ac (dq_noP 186) (dq_Ac dq_o187 (dq_Ac dq_o188 (dq_Ac dq_o189 (dq_Ac dq_o190 (dq_Ac dq_o191 (dq_An 192))))))))))))))))
def dq_r12 : List (List UInt8 → Option (Instr × Nat)) := [(dq_a2 (fun x => .checkcast x)), (dq_a2 (fun x => .instanceof x)), dq_no, dq_no, dq_no, dq_no, (dq_b2 (fun x => .ifnull x)), (dq_b2 (fun x => .ifnonnull x)), dq_no, dq_no]
theorem dq_r12_ok : dq_A 192 dq_r12 := dq_Ac dq_o192 (dq_Ac dq_o193 (dq_Ac (dq_noP 194) (dq_Ac (dq_noP 195) (dq_Ac (dq_noP 196) (dq_Ac (dq_noP 197) (dq_Ac dq_o198 (dq_Ac dq_o199 (dq_Ac (dq_noP 200) (dq_Ac (dq_noP 201) (dq_An 202))))))))))
def dq_T : List (List (List UInt8 → Option (Instr × Nat))) := [dq_r0, dq_r1, dq_r2, dq_r3, dq_r4, dq_r5, dq_r6, dq_r7, dq_r8, dq_r9, dq_r10, dq_r11, dq_r12]
def dq_B (n : Nat) : List (List (List UInt8 → Option (Instr × Nat))) → Prop := fun l => ∀ k f, dq_at l k = some f → dq_A (16 * (n + k)) f
theorem dq_Bn (n : Nat) : dq_B n [] := fun _ _ h => nomatch h
theorem dq_Bc {n : Nat} {f} {l : List (List (List UInt8 → Option (Instr × Nat)))} (h : dq_A (16 * n) f) (hl : dq_B (n + 1) l) : dq_B n (f :: l) := by
  intro k g hk
  cases k with
  | zero => cases (Option.some.inj hk); exact h
  | succ k =>
    rw [dq_at_cons] at hk
    have := hl k g hk
    rw [show n + (k + 1) = n + 1 + k by omega]
    exact this

theorem dq_T_ok : dq_B 0 dq_T := dq_Bc dq_r0_ok (dq_Bc dq_r1_ok (dq_Bc dq_r2_ok (dq_Bc dq_r3_ok (dq_Bc dq_r4_ok (dq_Bc dq_r5_ok (dq_Bc dq_r6_ok (dq_Bc dq_r7_ok (dq_Bc dq_r8_ok (dq_Bc dq_r9_ok (dq_Bc dq_r10_ok (dq_Bc dq_r11_ok (dq_Bc dq_r12_ok (dq_Bn 13)))))))))))))
noncomputable def dq_i (n : Nat) (r : List UInt8) : Option (Instr × Nat) := match dq_at dq_T (n / 16) with | some row => (match dq_at row (n % 16) with | some f => f r | none => none) | none => none
theorem dq_iP {n : Nat} {c : ByteArray} {pc : Nat} {r : List UInt8} {i : Instr} {k : Nat} (h1 : (Reader.u1 : Decoder Nat) c pc = .ok (n, pc + 1)) (h2 : c.data.toList.drop (pc + 1) = r) (h : dq_i n r = some (i, k)) : decode c pc = .ok (i, k) := by
  unfold dq_i at h
  cases hA : dq_at dq_T (n / 16) with
  | none => rw [hA] at h; cases h
  | some row =>
    rw [hA] at h
    cases hB : dq_at row (n % 16) with
    | none => simp only [hB] at h; cases h
    | some f =>
      simp only [hB] at h
      have := dq_T_ok _ _ hA _ _ hB
      rw [show 16 * (0 + n / 16) + n % 16 = n by omega] at this
      exact this c pc r i k h1 h2 h
noncomputable def dq_w (L : List (Nat × Instr × Nat)) : List UInt8 → Nat → Bool := List.rec (fun _ _ => true) (fun q _ ih l pc => match l with
  | [] => false
  | a :: r => match dq_i a.toNat r with
    | none => false
    | some (i, n) => and (Nat.beq q.1 pc) (and (Nat.beq q.2.2 n) (and (decide (q.2.1 = i)) (ih ((a :: r).drop n) (pc + n))))) L
theorem dq_wc (q : Nat × Instr × Nat) (L : List (Nat × Instr × Nat)) (l : List UInt8) (pc : Nat) : dq_w (q :: L) l pc = (match l with
  | [] => false
  | a :: r => match dq_i a.toNat r with
    | none => false
    | some (i, n) => and (Nat.beq q.1 pc) (and (Nat.beq q.2.2 n) (and (decide (q.2.1 = i)) (dq_w L ((a :: r).drop n) (pc + n))))) := rfl
theorem dq_wP {c : ByteArray} : ∀ (L : List (Nat × Instr × Nat)) (l : List UInt8) (pc : Nat), c.data.toList.drop pc = l → dq_w L l pc = true → L.all (fun q => decide (decode c q.1 = .ok (q.2.1, q.2.2))) = true := by
  intro L
  induction L with
  | nil => intro _ _ _ _; rfl
  | cons q L ih =>
    intro l pc hl h
    rw [dq_wc] at h
    cases l with
    | nil => cases h
    | cons a r =>
      dsimp only at h
      cases hd : dq_i a.toNat r with
      | none => simp only [hd] at h; cases h
      | some z =>
        obtain ⟨i, n⟩ := z
        simp only [hd, Bool.and_eq_true, decide_eq_true_eq] at h
        obtain ⟨h1, h2, h3, h4⟩ := h
        have e1 := Nat.eq_of_beq_eq_true h1
        have e2 := Nat.eq_of_beq_eq_true h2
        rw [List.all_cons, Bool.and_eq_true]
        refine ⟨decide_eq_true ?_, ih _ _ ?_ h4⟩
        · rw [e1, e2, h3]
          exact dq_iP (dq_1 hl) (dq_get hl).2 hd
        · rw [← hl, List.drop_drop]
theorem dq_all {c : ByteArray} {L : List (Nat × Instr × Nat)} (pc : Nat) (h : dq_w L (c.data.toList.drop pc) pc = true) : L.all (fun q => decide (decode c q.1 = .ok (q.2.1, q.2.2))) = true := dq_wP L _ pc rfl h

