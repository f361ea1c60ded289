/-! THE WALK AS A PREDICATE: of locals, operands and the ghost heap alone. First: instructions that touch nothing but locals and operands -/
section WPURE
abbrev w_L : Type := List (Nat × Value)
def v_get (lv : w_L) (i : Nat) : Option Value := match lv with
  | [] => none
  | q :: r => match Nat.beq q.1 i with
    | true => some q.2
    | false => v_get r i
def v_put1 (lv : w_L) (i : Nat) (v : Value) : w_L := (i, v) :: lv.filter (fun q => !(q.1 == i) && !(q.1 + 1 == i && q.2.category == 2))
def v_put2 (lv : w_L) (i : Nat) (v : Value) : w_L := (i, v) :: lv.filter (fun q => !(q.1 == i) && (!(q.1 == i + 1) && !(q.1 + 1 == i && q.2.category == 2)))
theorem v_get_mem : ∀ {lv : w_L} {i : Nat} {v : Value}, v_get lv i = some v → (i, v) ∈ lv
  | [], i, v, h => by cases h
  | q :: r, i, v, h => by
    unfold v_get at h
    split at h
    · rename_i hq
      have hq := Nat.eq_of_beq_eq_true hq
      cases h
      rw [← hq]
      exact List.mem_cons_self
    · exact List.mem_cons_of_mem _ (v_get_mem h)
theorem v_get_at {ls : Array Slot} {nL : Nat} {lv : w_L} (h : lv_has ls nL lv) {i : Nat} {v : Value} (hv : v_get lv i = some v) : ls[i]? = some (.val v) := h.2.2 (i, v) (v_get_mem hv)
/-- a row of a method's table: pc, instruction, length, a constant, three numbers (a branch's target; a field's class and place; a method's number; the place of a word in the tables) -/
abbrev w_R : Type := Nat × Instr × Nat × Int32 × Nat × Nat × Nat
def w_pure (i : Instr) (cv : Int32) (lv : w_L) (st : List Value) : Option (w_L × List Value) := match i, st with
  | .iconst _, st => some (lv, .int cv :: st)
  | .bipush _, st => some (lv, .int cv :: st)
  | .sipush _, st => some (lv, .int cv :: st)
  | .lconst c, st => some (lv, .long (Int64.ofNat (c : Nat)) :: st)
  | .aconst_null, st => some (lv, .null :: st)
  | .iload i, st => match v_get lv i with | some (.int x) => some (lv, .int x :: st) | _ => none
  | .iload_n i, st => match v_get lv i with | some (.int x) => some (lv, .int x :: st) | _ => none
  | .lload i, st => match v_get lv i with | some (.long x) => some (lv, .long x :: st) | _ => none
  | .lload_n i, st => match v_get lv i with | some (.long x) => some (lv, .long x :: st) | _ => none
  | .aload i, st => match v_get lv i with | some (.ref x) => some (lv, .ref x :: st) | some .null => some (lv, .null :: st) | _ => none
  | .aload_n i, st => match v_get lv i with | some (.ref x) => some (lv, .ref x :: st) | some .null => some (lv, .null :: st) | _ => none
  | .istore i, .int x :: st => some (v_put1 lv i (.int x), st)
  | .istore_n i, .int x :: st => some (v_put1 lv i (.int x), st)
  | .lstore i, .long x :: st => some (v_put2 lv i (.long x), st)
  | .lstore_n i, .long x :: st => some (v_put2 lv i (.long x), st)
  | .astore i, .ref x :: st => some (v_put1 lv i (.ref x), st)
  | .astore_n i, .ref x :: st => some (v_put1 lv i (.ref x), st)
  | .astore i, .null :: st => some (v_put1 lv i .null, st)
  | .astore_n i, .null :: st => some (v_put1 lv i .null, st)
  | .iinc i _, st => match v_get lv i with | some (.int x) => some (v_put1 lv i (.int (x + cv)), st) | _ => none
  | .iadd, .int y :: .int x :: st => some (lv, .int (x + y) :: st)
  | .isub, .int y :: .int x :: st => some (lv, .int (x - y) :: st)
  | .imul, .int y :: .int x :: st => some (lv, .int (x * y) :: st)
  | .iand, .int y :: .int x :: st => some (lv, .int (x &&& y) :: st)
  | .ishr, .int y :: .int x :: st => some (lv, .int (x >>> (y &&& 31)) :: st)
  | .iushr, .int y :: .int x :: st => some (lv, .int (x.toUInt32 >>> (y.toUInt32 &&& Int32.toUInt32 31)).toInt32 :: st)
  | .ladd, .long y :: .long x :: st => some (lv, .long (x + y) :: st)
  | .lsub, .long y :: .long x :: st => some (lv, .long (x - y) :: st)
  | .i2l, .int x :: st => some (lv, .long x.toInt64 :: st)
  | .l2i, .long x :: st => some (lv, .int x.toInt32 :: st)
  | .i2b, .int x :: st => some (lv, .int x.toInt8.toInt32 :: st)
  | .dup, .int x :: st => some (lv, .int x :: .int x :: st)
  | .dup, .ref x :: st => some (lv, .ref x :: .ref x :: st)
  | .dup, .null :: st => some (lv, .null :: .null :: st)
  | .dup2, .int y :: .ref x :: st => some (lv, .int y :: .ref x :: .int y :: .ref x :: st)
  | .pop, .int _ :: st => some (lv, st)
  | .pop, .ref _ :: st => some (lv, st)
  | _, _ => none
/-- what a program checks of such a row -/
def w_pok (nL : Nat) (i : Instr) (len : Nat) (cv : Int32) : Bool := match i with
  | .iconst n => decide (Int32.ofInt n = cv) && Nat.beq len 1
  | .bipush n => decide ((Int8.ofInt n).toInt32 = cv) && Nat.beq len 2
  | .sipush n => decide ((Int16.ofInt n).toInt32 = cv) && Nat.beq len 3
  | .iload _ | .lload _ | .aload _ => Nat.beq len 2
  | .istore i | .astore i => Nat.beq len 2 && decide (i < nL)
  | .lstore i => Nat.beq len 2 && decide (i + 1 < nL)
  | .istore_n i | .astore_n i => Nat.beq len 1 && decide ((i : Nat) < nL)
  | .lstore_n i => Nat.beq len 1 && decide ((i : Nat) + 1 < nL)
  | .iinc i n => Nat.beq len 3 && decide (i < nL) && decide (Int32.ofInt n = cv)
  | _ => Nat.beq len 1
variable {p : Program} {l : Launch} {e : Env} {R : Room} {s : State} {m : MethodId} {args : Array Value} {below : List Frame} {meth : Method} {c : Code} {H : Heap} {locs : List Loc} {k n : Nat} {Q : State → Prop}
set_option maxHeartbeats 1000000 in
theorem w_pure_go {cc : ByteArray} {nL pc len : Nat} {i : Instr} {cv : Int32} {lv lv1 : w_L} {st st1 : List Value} (hexec : p.tables.exec = Jvm.exec) (hb : c.code = cc) (hd : decode cc pc = .ok (i, len)) (hk : w_pok nL i len cv = true) (h : w_pure i cv lv st = some (lv1, st1)) {ls : Array Slot} (hl : lv_has ls nL lv)
    (kk : ∀ ls1 : Array Slot, lv_has ls1 nL lv1 → W p l e R s m args below meth c H locs k n Q (F0 m (pc + len) ls1 st1)) : W p l e R s m args below meth c H locs k n Q (F0 m pc ls st) := by
  unfold w_pure at h
  split at h
  case h_1 =>
    simp only [w_pok, Bool.and_eq_true, decide_eq_true_eq] at hk
    obtain ⟨hk1, hk2⟩ := hk
    obtain rfl := Nat.eq_of_beq_eq_true hk2
    cases h
    exact lv_iconst hexec hb hd hk1 (kk ls hl)
  case h_2 =>
    simp only [w_pok, Bool.and_eq_true, decide_eq_true_eq] at hk
    obtain ⟨hk1, hk2⟩ := hk
    obtain rfl := Nat.eq_of_beq_eq_true hk2
    cases h
    exact lv_bipush hexec hb hd hk1 (kk ls hl)
  case h_3 =>
    simp only [w_pok, Bool.and_eq_true, decide_eq_true_eq] at hk
    obtain ⟨hk1, hk2⟩ := hk
    obtain rfl := Nat.eq_of_beq_eq_true hk2
    cases h
    exact lv_sipush hexec hb hd hk1 (kk ls hl)
  case h_4 =>
    obtain rfl := Nat.eq_of_beq_eq_true hk
    cases h
    exact lv_lconst hexec hb hd rfl (kk ls hl)
  case h_5 =>
    obtain rfl := Nat.eq_of_beq_eq_true hk
    cases h
    exact lv_null hexec hb hd (kk ls hl)
  case h_6 =>
    split at h
    · rename_i hv
      obtain rfl := Nat.eq_of_beq_eq_true hk
      cases h
      exact lv_iload hexec hb hd (v_get_at hl hv) (kk ls hl)
    · cases h
  case h_7 =>
    split at h
    · rename_i hv
      obtain rfl := Nat.eq_of_beq_eq_true hk
      cases h
      exact lv_iload_n hexec hb hd rfl (v_get_at hl hv) (kk ls hl)
    · cases h
  case h_8 =>
    split at h
    · rename_i hv
      obtain rfl := Nat.eq_of_beq_eq_true hk
      cases h
      exact lv_lload hexec hb hd (v_get_at hl hv) (kk ls hl)
    · cases h
  case h_9 =>
    split at h
    · rename_i hv
      obtain rfl := Nat.eq_of_beq_eq_true hk
      cases h
      exact lv_lload_n hexec hb hd rfl (v_get_at hl hv) (kk ls hl)
    · cases h
  case h_10 =>
    split at h
    · rename_i hv
      obtain rfl := Nat.eq_of_beq_eq_true hk
      cases h
      exact lv_aload hexec hb hd (v_get_at hl hv) (kk ls hl)
    · rename_i hv
      obtain rfl := Nat.eq_of_beq_eq_true hk
      cases h
      exact lv_aloadN hexec hb hd (v_get_at hl hv) (kk ls hl)
    · cases h
  case h_11 =>
    split at h
    · rename_i hv
      obtain rfl := Nat.eq_of_beq_eq_true hk
      cases h
      exact lv_aload_n hexec hb hd rfl (v_get_at hl hv) (kk ls hl)
    · rename_i hv
      obtain rfl := Nat.eq_of_beq_eq_true hk
      cases h
      exact lv_aload_nN hexec hb hd rfl (v_get_at hl hv) (kk ls hl)
    · cases h
  case h_12 =>
    simp only [w_pok, Bool.and_eq_true, decide_eq_true_eq] at hk
    obtain ⟨hk1, hk2⟩ := hk
    obtain rfl := Nat.eq_of_beq_eq_true hk1
    cases h
    exact lv_istore hexec hb hd hl hk2 rfl kk
  case h_13 =>
    simp only [w_pok, Bool.and_eq_true, decide_eq_true_eq] at hk
    obtain ⟨hk1, hk2⟩ := hk
    obtain rfl := Nat.eq_of_beq_eq_true hk1
    cases h
    exact lv_istore_n hexec hb hd rfl hl hk2 rfl kk
  case h_14 =>
    simp only [w_pok, Bool.and_eq_true, decide_eq_true_eq] at hk
    obtain ⟨hk1, hk2⟩ := hk
    obtain rfl := Nat.eq_of_beq_eq_true hk1
    cases h
    exact lv_lstore hexec hb hd hl hk2 rfl kk
  case h_15 =>
    simp only [w_pok, Bool.and_eq_true, decide_eq_true_eq] at hk
    obtain ⟨hk1, hk2⟩ := hk
    obtain rfl := Nat.eq_of_beq_eq_true hk1
    cases h
    exact lv_lstore_n hexec hb hd rfl hl hk2 rfl kk
  case h_16 =>
    simp only [w_pok, Bool.and_eq_true, decide_eq_true_eq] at hk
    obtain ⟨hk1, hk2⟩ := hk
    obtain rfl := Nat.eq_of_beq_eq_true hk1
    cases h
    exact lv_astore hexec hb hd hl hk2 rfl kk
  case h_17 =>
    simp only [w_pok, Bool.and_eq_true, decide_eq_true_eq] at hk
    obtain ⟨hk1, hk2⟩ := hk
    obtain rfl := Nat.eq_of_beq_eq_true hk1
    cases h
    exact lv_astore_n hexec hb hd rfl hl hk2 rfl kk
  case h_18 =>
    simp only [w_pok, Bool.and_eq_true, decide_eq_true_eq] at hk
    obtain ⟨hk1, hk2⟩ := hk
    obtain rfl := Nat.eq_of_beq_eq_true hk1
    cases h
    exact lv_astoreN hexec hb hd hl hk2 rfl kk
  case h_19 =>
    simp only [w_pok, Bool.and_eq_true, decide_eq_true_eq] at hk
    obtain ⟨hk1, hk2⟩ := hk
    obtain rfl := Nat.eq_of_beq_eq_true hk1
    cases h
    exact lv_astore_nN hexec hb hd rfl hl hk2 rfl kk
  case h_20 =>
    split at h
    · rename_i hv
      simp only [w_pok, Bool.and_eq_true, decide_eq_true_eq] at hk
      obtain ⟨⟨hk1, hk2⟩, hk3⟩ := hk
      obtain rfl := Nat.eq_of_beq_eq_true hk1
      cases h
      obtain ⟨j, hj⟩ := List.getElem?_of_mem (v_get_mem hv)
      exact lv_iinc hexec hb hd hl hj (by rw [hk3]) hk2 rfl kk
    · cases h
  case h_21 =>
    obtain rfl := Nat.eq_of_beq_eq_true hk
    cases h
    exact lv_iadd hexec hb hd (kk ls hl)
  case h_22 =>
    obtain rfl := Nat.eq_of_beq_eq_true hk
    cases h
    exact lv_isub hexec hb hd (kk ls hl)
  case h_23 =>
    obtain rfl := Nat.eq_of_beq_eq_true hk
    cases h
    exact lv_imul hexec hb hd (kk ls hl)
  case h_24 =>
    obtain rfl := Nat.eq_of_beq_eq_true hk
    cases h
    exact lv_iand hexec hb hd (kk ls hl)
  case h_25 =>
    obtain rfl := Nat.eq_of_beq_eq_true hk
    cases h
    exact lv_ishr hexec hb hd (kk ls hl)
  case h_26 =>
    obtain rfl := Nat.eq_of_beq_eq_true hk
    cases h
    exact lv_iushr hexec hb hd rfl (kk ls hl)
  case h_27 =>
    obtain rfl := Nat.eq_of_beq_eq_true hk
    cases h
    exact lv_ladd hexec hb hd (kk ls hl)
  case h_28 =>
    obtain rfl := Nat.eq_of_beq_eq_true hk
    cases h
    exact lv_lsub hexec hb hd (kk ls hl)
  case h_29 =>
    obtain rfl := Nat.eq_of_beq_eq_true hk
    cases h
    exact lv_i2l hexec hb hd rfl (kk ls hl)
  case h_30 =>
    obtain rfl := Nat.eq_of_beq_eq_true hk
    cases h
    exact lv_l2i hexec hb hd rfl (kk ls hl)
  case h_31 =>
    obtain rfl := Nat.eq_of_beq_eq_true hk
    cases h
    exact lv_i2b hexec hb hd rfl (kk ls hl)
  case h_32 =>
    obtain rfl := Nat.eq_of_beq_eq_true hk
    cases h
    exact lv_dup hexec hb hd rfl (kk ls hl)
  case h_33 =>
    obtain rfl := Nat.eq_of_beq_eq_true hk
    cases h
    exact lv_dup hexec hb hd rfl (kk ls hl)
  case h_34 =>
    obtain rfl := Nat.eq_of_beq_eq_true hk
    cases h
    exact lv_dup hexec hb hd rfl (kk ls hl)
  case h_35 =>
    obtain rfl := Nat.eq_of_beq_eq_true hk
    cases h
    exact lv_dup2_11 hexec hb hd rfl rfl (kk ls hl)
  case h_36 =>
    obtain rfl := Nat.eq_of_beq_eq_true hk
    cases h
    exact lv_pop hexec hb hd rfl (kk ls hl)
  case h_37 =>
    obtain rfl := Nat.eq_of_beq_eq_true hk
    cases h
    exact lv_pop hexec hb hd rfl (kk ls hl)
  case h_38 =>
    cases h
end WPURE
