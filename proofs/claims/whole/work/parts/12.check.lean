/-! WHAT A PROGRAM CHECKS of a method's table, and what is taken of the claim's classes, methods, words -/
section WCHK
abbrev w_exN : List String := ["java/lang/RuntimeException", "java/lang/Exception"]
def w_lkb (RW : List Cond) (h : Nat) (own : String) (idx : Nat) (y : MethodName) : Bool := w_in RW h (.methodLink own idx y) || w_in RW h (.methodLinkNest own idx y "MirrorKeep")
def w_flb (RW : List Cond) (h : Nat) (own : String) (idx : Nat) (q : String × String × String × Bool) : Bool := w_in RW h (.fieldLink own idx q.1 q.2.1 q.2.2.1) || w_in RW h (.fieldLinkNest own idx q.1 q.2.1 q.2.2.1 "MirrorKeep")
def w_rmb (M : w_M) (fr lo : Nat) : Bool := Nat.ble (M.2.2.2.2.2.2.1 + 1) fr && Nat.ble (8 + (M.2.2.1 + 11) + M.2.2.2.2.2.2.2.1) lo
def w_okx (RW : List Cond) (cl : List vw_C) (tyl : List FieldType) (mt : Nat → w_M) (ex : Nat → w_X) (xcs : List (Nat × String)) (own : String) (cc : ByteArray) (nL fr lo : Nat) (init : Bool) (r : w_R) : Bool := match r.2.1 with
  | .ldc idx => w_in RW r.2.2.2.2.2.2 (.constant own idx r.2.2.2.1) && Nat.beq r.2.2.1 2
  | .ldc2_w idx => w_in RW r.2.2.2.2.2.2 (.constantLong own idx r.2.2.2.1.toInt64) && Nat.beq r.2.2.1 3
  | .goto o => decide ((r.1 : Int) + o = (r.2.2.2.2.1 : Int)) && Nat.beq r.2.2.1 3
  | .ifCond _ o => decide ((r.1 : Int) + o = (r.2.2.2.2.1 : Int)) && Nat.beq r.2.2.1 3
  | .if_icmp _ o => decide ((r.1 : Int) + o = (r.2.2.2.2.1 : Int)) && Nat.beq r.2.2.1 3
  | .if_acmp _ o => decide ((r.1 : Int) + o = (r.2.2.2.2.1 : Int)) && Nat.beq r.2.2.1 3
  | .ifnull o => decide ((r.1 : Int) + o = (r.2.2.2.2.1 : Int)) && Nat.beq r.2.2.1 3
  | .ifnonnull o => decide ((r.1 : Int) + o = (r.2.2.2.2.1 : Int)) && Nat.beq r.2.2.1 3
  | .tableswitch d lo hi offs => decide (0 ≤ (r.1 : Int) + d) && (offs.toList.all fun o => decide (0 ≤ (r.1 : Int) + o)) && decide (hi - lo + 1 = (offs.size : Int))
  | .lookupswitch d ps => decide (0 ≤ (r.1 : Int) + d) && (ps.toList.all fun q => decide (0 ≤ (r.1 : Int) + q.2)) && ((ps.toList.zip (ps.toList.drop 1)).all (fun (a, next) => a.1 < next.1))
  | .getfield idx => Nat.beq r.2.2.1 3 && match cl[r.2.2.2.2.1]? with
    | some q => decide (r.2.2.2.2.2.1 < q.2.2) && w_flb RW r.2.2.2.2.2.2 own idx (q.2.1 r.2.2.2.2.2.1)
    | none => false
  | .putfield idx => Nat.beq r.2.2.1 3 && match cl[r.2.2.2.2.1]? with
    | some q => decide (r.2.2.2.2.2.1 < q.2.2) && w_in RW r.2.2.2.2.2.2 (.fieldLink own idx (q.2.1 r.2.2.2.2.2.1).1 (q.2.1 r.2.2.2.2.2.1).2.1 (q.2.1 r.2.2.2.2.2.1).2.2.1) && (!(q.2.1 r.2.2.2.2.2.1).2.2.2 || (init && decide ((q.2.1 r.2.2.2.2.2.1).1 = own)))
    | none => false
  | .newarray aty => Nat.beq r.2.2.1 2 && decide (tyl[r.2.2.2.2.1]? = some (newarray.typeOf aty)) && w_in RW r.2.2.2.2.2.2 (.arrayClass (newarray.typeOf aty)) && (match aty with | .byte => true | .int => true | .long => true | _ => false)
  | .anewarray idx => Nat.beq r.2.2.1 3 && match tyl[r.2.2.2.2.1]? with
    | some (.object E) => w_in RW r.2.2.2.2.2.2 (.classLink own idx E) && w_in RW r.2.2.2.2.2.1 (.arrayOver (.object E))
    | _ => false
  | .aastore => Nat.beq r.2.2.1 1 && match cl[r.2.2.2.2.1]? with
    | some q => decide (tyl[r.2.2.2.2.2.1]? = some (.object q.1))
    | none => false
  | .new idx => Nat.beq r.2.2.1 3 && match Nat.beq r.2.2.2.2.1 992 with
    | true => match ex r.2.2.2.2.2.1 with
      | (ci, ik, ic, wide, tx, C, h1, h2) => decide (idx = ci) && (decide ((ic, C) ∈ xcs) && decide (own = "MirrorKeep")) && w_in RW h1 (.classLink own idx C) && w_in RW h2 (.stringRef own ik tx) && decide (decode cc (r.1 + 3) = .ok (.dup, 1)) &&
          (match wide with
          | true => decide (decode cc (r.1 + 4) = .ok (.ldc_w ik, 3)) && decide (decode cc (r.1 + 7) = .ok (.invokespecial ic, 3)) && decide (decode cc (r.1 + 10) = .ok (.athrow, 1))
          | false => decide (decode cc (r.1 + 4) = .ok (.ldc ik, 2)) && decide (decode cc (r.1 + 6) = .ok (.invokespecial ic, 3)) && decide (decode cc (r.1 + 9) = .ok (.athrow, 1))) && Nat.ble 6 fr && Nat.ble 90 lo
    | false => match cl[r.2.2.2.2.1]? with
      | some q => w_in RW r.2.2.2.2.2.2 (.classLink own idx q.1)
      | none => false
  | .invokevirtual idx => Nat.beq r.2.2.1 3 && match Nat.beq r.2.2.2.2.1 993 with
    | true => w_in RW r.2.2.2.2.2.2 (.methodLink own idx ⟨"[B", "clone", "()Ljava/lang/Object;"⟩) && Nat.ble 1 fr && Nat.ble 22 lo
    | false => w_lkb RW r.2.2.2.2.2.2 own idx (mt r.2.2.2.2.1).1 && w_rmb (mt r.2.2.2.2.1) fr lo && Nat.beq (mt r.2.2.2.2.1).2.2.2.2.2.2.2.2.1 0 && (match cl[r.2.2.2.2.2.1]? with
      | some q => decide (q.1 = (mt r.2.2.2.2.1).1.cls)
      | none => false)
  | .checkcast idx => Nat.beq r.2.2.1 3 && w_in RW r.2.2.2.2.2.2 (.classLink own idx "[B")
  | .invokespecial idx => Nat.beq r.2.2.1 3 && match Nat.beq r.2.2.2.2.1 990 with
    | true => w_in RW r.2.2.2.2.2.2 (.methodLink own idx Lib.objectInit) && Nat.ble 1 fr && Nat.ble 20 lo
    | false => w_lkb RW r.2.2.2.2.2.2 own idx (mt r.2.2.2.2.1).1 && w_rmb (mt r.2.2.2.2.1) fr lo && Nat.beq (mt r.2.2.2.2.1).2.2.2.2.2.2.2.2.1 2
  | .invokestatic idx => Nat.beq r.2.2.1 3 && match Nat.beq r.2.2.2.2.1 991 with
    | true => w_in RW r.2.2.2.2.2.2 (.methodLink own idx arraycopyName) && Nat.ble 1 fr && decide (8 + (nativeFrameWords "java/lang/System" "arraycopy" 5 + 11) ≤ lo) && (match cl[r.2.2.2.1.toNatClampNeg]? with
      | some q => decide (tyl[r.2.2.2.2.2.1]? = some (.object q.1)) || decide (r.2.2.2.2.2.1 = 0)
      | none => false)
    | false => w_lkb RW r.2.2.2.2.2.2 own idx (mt r.2.2.2.2.1).1 && w_rmb (mt r.2.2.2.2.1) fr lo && Nat.beq (mt r.2.2.2.2.1).2.2.2.2.2.2.2.2.1 1
  | i => w_pok nL i r.2.2.1 r.2.2.2.1
def w_okb (RW : List Cond) (cl : List vw_C) (tyl : List FieldType) (mt : Nat → w_M) (ex : Nat → w_X) (xcs : List (Nat × String)) (own : String) (cc : ByteArray) (nL fr lo : Nat) (init : Bool) (r : w_R) : Bool :=
  decide (decode cc r.1 = .ok (r.2.1, r.2.2.1)) && w_okx RW cl tyl mt ex xcs own cc nL fr lo init r
theorem w_okx_pure {RW : List Cond} {cl : List vw_C} {tyl : List FieldType} {mt : Nat → w_M} {ex : Nat → w_X} {xcs : List (Nat × String)} {own : String} {cc : ByteArray} {nL fr lo : Nat} {init : Bool} {r : w_R} {lv : w_L} {st : List Value} {q : w_L × List Value} (h : w_pure r.2.1 r.2.2.2.1 lv st = some q) :
    w_okx RW cl tyl mt ex xcs own cc nL fr lo init r = w_pok nL r.2.1 r.2.2.1 r.2.2.2.1 := by
  obtain ⟨pc, i, len, cv, x, y, z⟩ := r
  dsimp only at h
  cases i <;> first | rfl | (exfalso; simp [w_pure] at h; done)
/-- of a method -/
def w_mokb (RW : List Cond) (M : w_M) : Bool := match M with
  | (y, bytes, maxL, ret, hs, np, _, _, kind, pc, pi, ps, pn) =>
    ((decide (hs = []) && w_in RW pc (.code y bytes maxL ret)) || w_in RW pc (.codeWith y bytes maxL ret hs)) && w_in RW pn (.initialized y.cls) && plainFor y && decide (y.cls ≠ "java/lang/invoke/MethodHandle") && decide (y.cls ≠ "java/lang/invoke/VarHandle") &&
      decide ((parseMethodDescriptor y.desc).map (fun d => d.parameters.length) = some np) &&
      (match kind with
      | 0 => w_in RW pi (.instanceMethod y) && w_in RW ps (.selects y.cls y y)
      | 1 => w_in RW pi (.static y)
      | _ => w_in RW pi (.instanceMethod y) && decide (y.name = "<init>") && w_in RW pc (.code y bytes maxL none))
/-- of the classes -/
def w_ce (RW : List Cond) (cl : List vw_C) (fty : Nat → Nat → FieldType) (dfl : Nat → List Value) : Prop := ∀ (ci : Nat) (C : String) (T : u_T) (N : Nat), cl[ci]? = some (C, T, N) →
  (∀ w ∈ u_ws C T N, w ∈ w_TB RW) ∧ (∀ j, j < N → parseFieldDescriptor (T j).2.2.1 = some (fty ci j)) ∧ (∀ i, i < N → ∀ j, j < N → i ≠ j → (T i).2.1 ≠ (T j).2.1) ∧ Cond.instantiable C N ∈ w_TB RW ∧ Cond.initialized C ∈ w_TB RW ∧ (∀ j, j < N → defaultValue (fty ci j) = vp_V (dfl ci) j) ∧ (dfl ci).length = N
/-- of single words -/
def w_we (RW : List Cond) (xcs : List (Nat × String)) : Prop := Cond.instanceMethod Lib.objectInit ∈ w_TB RW ∧ Cond.code Lib.objectInit ⟨#[0xb1]⟩ 1 none ∈ w_TB RW ∧ Cond.native arraycopyName ∈ w_TB RW ∧ Cond.static arraycopyName ∈ w_TB RW ∧ Cond.initialized "java/lang/System" ∈ w_TB RW ∧
  (Cond.sameMethod "[B" "java/lang/Object" "clone" "()Ljava/lang/Object;" ∈ w_TB RW ∧ Cond.native ⟨"java/lang/Object", "clone", "()Ljava/lang/Object;"⟩ ∈ w_TB RW ∧ Cond.instanceMethod ⟨"java/lang/Object", "clone", "()Ljava/lang/Object;"⟩ ∈ w_TB RW ∧ Cond.selects "[B" ⟨"[B", "clone", "()Ljava/lang/Object;"⟩ ⟨"java/lang/Object", "clone", "()Ljava/lang/Object;"⟩ ∈ w_TB RW ∧ Cond.castable "[B" "java/lang/Cloneable" ∈ w_TB RW) ∧
  ∀ q ∈ xcs, (∀ w ∈ Bundle.ownAtoms "MirrorKeep" q.1 q.2 w_exN, w ∈ w_TB RW ∨ w ∈ x_hw) ∧ Cond.initialized q.2 ∈ w_TB RW ∧ Bundle.fit q.2 = true
/-- of a method's handlers -/
def w_he (RW : List Cond) (own : String) (hs : List w_Hd) : Prop := ∀ h ∈ hs, h.2.2.2.1 ≠ 0 ∧ Cond.classLink own h.2.2.2.1 h.2.2.2.2 ∈ w_TB RW ∧ ∀ q ∈ hs, q.1 = h.1 ∧ q.2.1 = h.2.1 ∧ (q.2.2.2.2 ≠ h.2.2.2.2 → Cond.not (.castable h.2.2.2.2 q.2.2.2.2) ∈ w_TB RW)
end WCHK
