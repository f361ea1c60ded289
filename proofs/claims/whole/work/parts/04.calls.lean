/-! CONTRACTS THAT ALSO SAY WHAT IS THROWN: a method's body is a walk (W) from its entry; a call goes into it and comes out with an answer or with an exception -/
section XCALL
/-- how a method ends: an answer, or an exception of a class -/
abbrev x_O : Type := Option Value ⊕ String
def x_o (o : Outcome) (oc : x_O) (t : State) : Prop := match oc with
  | .inl v => o = .returned v
  | .inr C => ∃ (x : Addr) (cell : Cell), o = .threw x ∧ t.heap[x]? = some cell ∧ cell.vm = .none ∧ t.vm.findClass C = some cell.cls
/-- what a method may change: the ghost's cells, and those that it makes -/
def x_A (g : g_H) (sz : Nat) : Nat → Prop := fun q => g q ≠ none ∨ sz ≤ q
def x_Q (D : va_G) (cl : List vw_C) (aC : Nat → ClassId) (below : List Frame) (s : State) (g : g_H) (P : x_O → g_H → Prop) (mc ms : Nat) : State → Prop := fun t =>
  ∃ (o : Outcome) (oc : x_O) (g1 : g_H) (L : List Loc), t.status = .running ∧ Ended t below o ∧ x_o o oc t ∧ P oc g1 ∧ g_ok D cl aC (x_A g s.heap.size) g1 t.heap ∧ va_F (x_A g s.heap.size) s t ∧
    s.WarmedH t.vm ∧ s.sameButNew ({ t with vm := s.vm } : State) L mc ms ∧ ∀ q ∈ L, x_A g s.heap.size q.base
/-- the words of a method's code, with or without handlers -/
def x_cd (TB : List Cond) (y : MethodName) (bytes : ByteArray) (maxL : Nat) (ret : Option FieldType) (hs : List (Nat × Nat × Nat × Nat)) : Prop :=
  (hs = [] ∧ Cond.code y bytes maxL ret ∈ TB) ∨ Cond.codeWith y bytes maxL ret hs ∈ TB
theorem x_cd_spec {TB : List Cond} {y : MethodName} {bytes : ByteArray} {maxL : Nat} {ret : Option FieldType} {hs : List (Nat × Nat × Nat × Nat)} {s : State} {args : Array Value} (h : x_cd TB y bytes maxL ret hs) (ht : ∀ w ∈ TB, w.before args s = true) :
    ∃ (m : MethodId) (meth : Method) (c : Code), s.methodNamed? y = some m ∧ s.vm.method? m = some meth ∧ meth.code = some c ∧ c.code = bytes ∧ c.maxLocals = maxL ∧
      c.exceptionTable.toList.map (fun h => (h.startPc, h.endPc, h.handlerPc, h.catchType)) = hs ∧ meth.sig.returnType = ret ∧ meth.locks = false ∧ parseMethodDescriptor y.desc = some meth.sig := by
  rcases h with ⟨rfl, h⟩ | h
  · obtain ⟨m, hm⟩ := Cond.code_named (ht _ h)
    obtain ⟨meth, c, h1, h2, h3, h4, h5, h6, h7, h8⟩ := Cond.code_spec hm (ht _ h)
    refine ⟨m, meth, c, hm, h1, h2, h3, h4, ?_, h5, h6, h8⟩
    simpa using h7
  · exact Cond.codeWith_spec (ht _ h)
/-- A METHOD's CONTRACT at these arguments and this ghost heap -/
def x_C (l : Launch) (TB : List Cond) (D : va_G) (cl : List vw_C) (aC : Nat → ClassId) (tys : List (ClassId × FieldType)) (y : MethodName) (fr lo mc ms : Nat) (a : List Value) (g : g_H) (P : x_O → g_H → Prop) : Prop :=
  ∀ (p : Program) (e : Env) (s : State) (m : MethodId) (below : List Frame) (meth : Method) (c : Code) (maxL : Nat), p.tables.exec = Jvm.exec → (∀ w ∈ TB, w.before a.toArray s = true) → s.methodNamed? y = some m →
    s.vm.method? m = some meth → meth.code = some c → c.maxLocals = maxL → va_K D cl tys s → x_St s → g_ok D cl aC (fun _ => True) g s.heap →
    W p l e { frames := fr, cells := mc, slots := ms, locals := lo } s m a.toArray below meth c s.heap [] 0 0 (x_Q D cl aC below s g P mc ms) (entryFrame m a.toArray maxL)
theorem x_weaken {tb : Tables} {e : Env} {mid below : List Frame} {a b : State} (h : Steps tb e (mid ++ below) a b) : Steps tb e below a b := by
  obtain ⟨n, hn, w⟩ := h
  exact ⟨n, hn, fun k hk => (w k hk).weaken⟩
variable {p : Program} {l : Launch} {e : Env} {R : Room} {s : State} {m : MethodId} {args : Array Value} {below : List Frame} {meth : Method} {c : Code} {H : Heap} {locs : List Loc} {cells slots : Nat} {Q : State → Prop}
theorem x_mono {Q2 : State → Prop} {g : JFrame} (h : ∀ t, Q t → Q2 t) (k : W p l e R s m args below meth c H locs cells slots Q g) : W p l e R s m args below meth c H locs cells slots Q2 g := by
  intro T hT X
  obtain ⟨t, a, b⟩ := k T hT X
  exact ⟨t, a, h t b⟩
/-- the invoking instruction has linked: the callee is called with a, over the frame with 'rest' on its stack -/
def x_Lk (p : Program) (l : Launch) (e : Env) (R : Room) (s : State) (m : MethodId) (args : Array Value) (below : List Frame) (meth : Method) (c : Code) (T : State) (locs : List Loc) (cells slots : Nat) (g : JFrame) (rest : List Value) (y : MethodName) (a : List Value) : Prop :=
  ∃ (vm1 : Vm) (mk : MethodId), Stand p l e R s m args below meth c (T.setVm vm1) locs cells slots ∧ s.methodNamed? y = some mk ∧
    ∀ target, (∀ acts, Steps p.tables e below (doInvoke e ((T.setVm vm1).setTop { g with stack := rest }) acts mk a.toArray).1 target) → Steps p.tables e below (T.setTop g) target
section LINK
variable {T : State} {own C host : String} {index n maxL : Nat} {y : MethodName} {bytes : ByteArray} {ret : Option FieldType} {g : JFrame} {As rest : List Value} {b : Addr} {cellB : Cell}
theorem x_lkV (X : Stand p l e R s m args below meth c T locs cells slots) (hexec : p.tables.exec = Jvm.exec)
    (hown : s.vm.findClass own = some m.cls) (hlink : (Cond.methodLink own index y).before args s = true ∨ ∃ host, (Cond.methodLinkNest own index y host).before args s = true) (hinst : (Cond.instanceMethod y).before args s = true) (hsel : (Cond.selects C y y).before args s = true)
    (hy : y.cls ≠ "java/lang/invoke/MethodHandle" ∧ y.cls ≠ "java/lang/invoke/VarHandle") {mk : MethodId} {methM : Method} (hnamed : s.methodNamed? y = some mk) (hmethM : s.vm.method? mk = some methM) (hsig : methM.sig.parameters.length = n)
    (hcell : T.heap[b]? = some cellB) (hobj : cellB.vm.isStatics = false) (hcls : s.vm.findClass C = some cellB.cls)
    (hg : g.method = m) (hlen : As.length = n) (hstack : g.stack = As.reverse ++ .ref b :: rest) (hdg : decode c.code g.pc = .ok (.invokevirtual index, 3)) :
    x_Lk p l e R s m args below meth c T locs cells slots g rest y (.ref b :: As) := by
  obtain ⟨mk', methM', hnamed', hmethM', hstM, habM⟩ := Cond.instanceMethod_spec hinst
  cases hnamed.symm.trans hnamed'
  cases hmethM.symm.trans hmethM'
  obtain ⟨c2, r2, m2, q1, q2, q3, q4, kP, hkP, hkPi⟩ := Cond.selects_spec hsel
  cases hcls.symm.trans q1
  cases (State.methodFound?_of_named hnamed hy).symm.trans q2
  cases hnamed.symm.trans q3
  have hselP : selectMethod e.platform s.vm cellB.cls mk = .method mk := by rw [Launch.admits_selectMethod X.admits]; exact q4
  rcases hlink with hlink | ⟨host, hlink⟩
  · obtain ⟨vm1, X1, hstep⟩ := X.invokevirtual hexec hown hlink hnamed hmethM hstM hkP hkPi hy (a := b) (cell := cellB) hcell
      (fun z h => by rw [h] at hobj; cases hobj) hselP hmethM habM hkP hkPi (g := g) hg (argsL := As) (rest := rest) (hlen.trans hsig.symm) hstack hdg
    exact ⟨vm1, mk, X1, hnamed, hstep⟩
  · obtain ⟨vm1, X1, hstep⟩ := X.invokevirtualNest hexec hown hlink hnamed hmethM hstM hkP hkPi hy (a := b) (cell := cellB) hcell
      (fun z h => by rw [h] at hobj; cases hobj) hselP hmethM habM hkP hkPi (g := g) hg (argsL := As) (rest := rest) (hlen.trans hsig.symm) hstack hdg
    exact ⟨vm1, mk, X1, hnamed, hstep⟩
theorem x_lkS (X : Stand p l e R s m args below meth c T locs cells slots) (hexec : p.tables.exec = Jvm.exec)
    (hown : s.vm.findClass own = some m.cls) (hlink : (Cond.methodLink own index y).before args s = true ∨ ∃ host, (Cond.methodLinkNest own index y host).before args s = true) (hstat : (Cond.static y).before args s = true) (hinit : (Cond.initialized y.cls).before args s = true)
    (hy : y.cls ≠ "java/lang/invoke/MethodHandle" ∧ y.cls ≠ "java/lang/invoke/VarHandle") {mk : MethodId} {methM : Method} (hnamed : s.methodNamed? y = some mk) (hmethM : s.vm.method? mk = some methM) (hsig : methM.sig.parameters.length = n)
    (hg : g.method = m) (hlen : As.length = n) (hstack : g.stack = As.reverse ++ rest) (hdg : decode c.code g.pc = .ok (.invokestatic index, 3)) :
    x_Lk p l e R s m args below meth c T locs cells slots g rest y As := by
  have hstatic : methM.isStatic = true := Cond.static_spec hnamed hmethM hstat
  obtain ⟨kP, hkP, -⟩ := className_of_methodNamed hnamed
  have hinitP : kP.init = .initialized := Cond.initialized_spec (findClass_of_methodNamed hnamed) hkP hinit
  rcases hlink with hlink | ⟨host, hlink⟩
  · obtain ⟨vm1, X1, hstep⟩ := X.invokestatic hexec hown hlink hnamed hmethM hstatic hkP hinitP hy (g := g) hg (argsL := As) (rest := rest) (hlen.trans hsig.symm) hstack hdg
    exact ⟨vm1, mk, X1, hnamed, hstep⟩
  · obtain ⟨vm1, X1, hstep⟩ := X.invokestaticNest hexec hown hlink hnamed hmethM hstatic hkP hinitP hy (g := g) hg (argsL := As) (rest := rest) (hlen.trans hsig.symm) hstack hdg
    exact ⟨vm1, mk, X1, hnamed, hstep⟩
theorem x_lkI (X : Stand p l e R s m args below meth c T locs cells slots) (hexec : p.tables.exec = Jvm.exec)
    (hown : s.vm.findClass own = some m.cls) (hlink : (Cond.methodLink own index y).before args s = true ∨ ∃ host, (Cond.methodLinkNest own index y host).before args s = true) (hinst : (Cond.instanceMethod y).before args s = true) (hcode : (Cond.code y bytes maxL none).before args s = true) (hy1 : y.name = "<init>")
    (hy : y.cls ≠ "java/lang/invoke/MethodHandle" ∧ y.cls ≠ "java/lang/invoke/VarHandle") (hn : ∀ sig, parseMethodDescriptor y.desc = some sig → n = sig.parameters.length)
    (hg : g.method = m) (hlen : As.length = n) (hstack : g.stack = As.reverse ++ .ref b :: rest) (hdg : decode c.code g.pc = .ok (.invokespecial index, 3)) :
    x_Lk p l e R s m args below meth c T locs cells slots g rest y (.ref b :: As) := by
  subst hg
  have hpl : e.platform.magicAccessors = ({} : Platform).magicAccessors := by rw [X.admits.platform]
  rcases hlink with hlink | ⟨host, hlink⟩
  · obtain ⟨mk, methM, cM, kP, vm1, hnamed, -, -, -, -, -, -, -, hW1, hstep⟩ := Steps.initColdArgs (e := e) X.here hexec X.warmed hpl hown hy1 hy hlink hinst hcode (f := g) rfl (argsL := As) (a := b) (rest := rest) (fun sig h => hlen.trans (hn sig h)) hstack hdg
    exact ⟨vm1, mk, X.noted hW1, hnamed, hstep⟩
  · obtain ⟨mk, methM, cM, kP, vm1, hnamed, -, -, -, -, -, -, -, hW1, hstep⟩ := Steps.initColdArgsNest (e := e) X.here hexec X.warmed hpl hown hy1 hy hlink hinst hcode (f := g) rfl (argsL := As) (a := b) (rest := rest) (fun sig h => hlen.trans (hn sig h)) hstack hdg
    exact ⟨vm1, mk, X.noted hW1, hnamed, hstep⟩
end LINK
/-- the words of the tables that hold in every later state, too -/
def x_good (TB : List Cond) : Prop := ∀ w ∈ TB, ∀ (a a1 : Array Value) (s U : State), s.WarmedH U.vm → w.before a s = true → w.before a1 U = true
/-- A CALL: linked, a contract of the callee; the caller goes on behind it with the answer, or with the exception at the same pc -/
theorem x_call {TB : List Cond} {D : va_G} {cl : List vw_C} {aC : Nat → ClassId} {tys : List (ClassId × FieldType)} {y : MethodName} {fr lo mc ms maxL len : Nat} {bytes : ByteArray} {ret : Option FieldType} {hs : List (Nat × Nat × Nat × Nat)} {a rest : List Value} {gh : g_H} {P : x_O → g_H → Prop} {A : Nat → Prop} {g : JFrame} {ig : Instr}
    (hC : x_C l TB D cl aC tys y fr lo mc ms a gh P) (hexec : p.tables.exec = Jvm.exec) (hgood : x_good TB) (hts : ∀ w ∈ TB, w.before args s = true) (hcd : x_cd TB y bytes maxL ret hs) (hpl : plainFor y = true)
    (hK : va_K D cl tys s) (hSt : x_St s) (hAst : ∀ (q : Nat) (cell : Cell), A q → s.heap[q]? = some cell → cell.vm.isStatics = false) (hok : g_ok D cl aC A gh H) (hS : va_S A s.heap H locs) (hA : ∀ q, s.heap.size ≤ q → A q)
    (hg : g.method = m) (hsize : g.locals.size = c.maxLocals) (hdg : decode c.code g.pc = .ok (ig, len)) (hW : 2 * g.monitorRoom + (rest.map fun v => v.category).sum ≤ 8)
    (hfr : fr + 1 ≤ R.frames) (hlo : 8 + (maxL + 11) + lo ≤ R.locals) (hc : cells + mc ≤ R.cells) (hs0 : slots + ms ≤ R.slots)
    (hlk : ∀ T : State, T.heap = H → Stand p l e R s m args below meth c T locs cells slots → x_Lk p l e R s m args below meth c T locs cells slots g rest y a)
    (hret : ∀ (v : Option Value) (g1 : g_H) (H1 : Heap) (locs1 : List Loc), P (.inl v) g1 → g_ok D cl aC A g1 H1 → va_S A s.heap H1 locs1 → W p l e R s m args below meth c H1 locs1 (cells + mc) (slots + ms) Q { g with pc := g.pc + len, stack := v.toList ++ rest })
    (hthr : ∀ (C : String) (g1 : g_H) (H1 : Heap) (locs1 : List Loc) (T1 : State) (x : Addr) (cell : Cell), P (.inr C) g1 → g_ok D cl aC A g1 H1 → va_S A s.heap H1 locs1 → T1.heap = H1 → Stand p l e R s m args below meth c T1 locs1 (cells + mc) (slots + ms) →
      H1[x]? = some cell → cell.vm = .none → s.vm.findClass C = some cell.cls → ∃ t, Steps p.tables e below ((T1.setTop { g with stack := rest }).pushFrame (.throwing x)) t ∧ Q t) :
    W p l e R s m args below meth c H locs cells slots Q g := by
  intro T hT X
  obtain ⟨vm1, mk, X1, hnamed, hstep⟩ := hlk T hT X
  subst hg
  generalize hgr : ({ g with stack := rest } : JFrame) = gr at hstep
  have hgm : gr.method = g.method := by rw [← hgr]
  have hwu : ∀ w ∈ TB, ∀ (a' : Array Value) (U : State), s.WarmedH U.vm → w.before a' U = true := fun w hw a' U hU => hgood w hw args a' s U hU (hts w hw)
  -- the callee at the state that calls it
  have hvm : s.WarmedH ((T.setVm vm1).calling gr mk a.toArray).vm := X1.warmed
  obtain ⟨mk', methk, ck, k1, k2, k3, k4, k5, k6, k7, k8, k9⟩ := x_cd_spec (args := a.toArray) (s := (T.setVm vm1).calling gr mk a.toArray) hcd (fun w hw => hwu w hw _ _ hvm)
  have hnamed' : ((T.setVm vm1).calling gr mk a.toArray).methodNamed? y = some mk := X1.named hnamed
  cases k1.symm.trans hnamed'
  have hplain : (T.setVm vm1).plainMethod mk := State.plainMethod.of_named (s := (T.setVm vm1).calling gr mk a.toArray) hpl hnamed' k2
  have hgsz : gr.locals.size = c.maxLocals := by rw [← hgr]; exact hsize
  have hgpc : gr.pc = g.pc := by rw [← hgr]
  have hgst : gr.stack = rest := by rw [← hgr]
  have hgmon : gr.monitorRoom = g.monitorRoom := by rw [← hgr]
  obtain ⟨Y, hdo⟩ := X1.into (g := gr) hgm hgsz (by rw [hgpc]; exact hdg) (mk := mk) (methk := methk) (ck := ck) a.toArray (R' := { frames := fr, cells := mc, slots := ms, locals := lo }) k2 k3 k8 hplain hfr
    (by rw [hgst, hgmon, k5]; show 2 * g.monitorRoom + (rest.map fun v => v.category).sum + (maxL + 11) + lo ≤ R.locals; omega) hc hs0
  have hKc : va_K D cl tys ((T.setVm vm1).calling gr mk a.toArray) := va_K.moved hvm.alike hK
  have hheap : ((T.setVm vm1).calling gr mk a.toArray).heap = H := hT
  have hokc : g_ok D cl aC (fun _ => True) gh ((T.setVm vm1).calling gr mk a.toArray).heap := by rw [hheap]; exact hok.weaken (fun _ _ _ => trivial)
  have hStc : x_St ((T.setVm vm1).calling gr mk a.toArray) := hSt.kept hvm.alike (fun q cell h1 h2 => by
    rw [hheap, hS.2.1 q (Array.getElem?_eq_some_iff.mp h1).1 (fun z => by rw [hAst q cell z h1] at h2; cases h2)]
    exact h1)
  obtain ⟨t, st, o, oc, g1, L, hrun, hend, hoc, hP, hok1, hF, hWt, hsame, hL⟩ := hC p e _ mk (.java gr :: below) methk ck ck.maxLocals hexec (fun w hw => hwu w hw _ _ hvm) hnamed' k2 k3 rfl hKc hStc hokc _ (by rfl) Y
  have st' : Steps p.tables e below (doInvoke e ((T.setVm vm1).setTop gr) [] mk a.toArray).1 t := by
    rw [hdo []]
    exact x_weaken (mid := [.java gr]) st
  have hsub : ∀ q, q < H.size → x_A gh H.size q → A q := fun q hq h => by
    rcases h with h | h
    · cases hgq : gh q with
      | none => exact absurd hgq h
      | some e1 => exact (hok q e1 hgq).2
    · omega
  have hsub2 : ∀ q, x_A gh H.size q → A q := fun q h => by
    rcases h with h | h
    · cases hgq : gh q with
      | none => exact absurd hgq h
      | some e1 => exact (hok q e1 hgq).2
    · exact hA q (Nat.le_trans hS.1 h)
  rw [hheap] at hok1 hF hL
  have hok2 : g_ok D cl aC A g1 t.heap := fun q f hq => ⟨(hok1 q f hq).1, hsub2 q (hok1 q f hq).2⟩
  have hS2 : va_S A s.heap t.heap (locs ++ L) := by
    obtain ⟨f1, f2⟩ := hF
    rw [hheap] at f1 f2
    refine ⟨Nat.le_trans hS.1 f1, fun q h1 h2 => ?_, fun q hq => ?_⟩
    · rw [f2 q (Nat.lt_of_lt_of_le h1 hS.1) (fun z => h2 (hsub2 q z))]
      exact hS.2.1 q h1 h2
    · rcases List.mem_append.mp hq with h | h
      · exact hS.2.2 q h
      · exact hsub2 _ (hL q h)
  cases oc with
  | inl v =>
    obtain rfl : o = .returned v := hoc
    obtain ⟨T1, Z, -, -, ht⟩ := X1.outOf (g := gr) hgm (by rw [hgpc]; exact hdg) hend hWt hsame
    have hT1 : T1.heap = t.heap := by rw [ht]; simp [State.setTop, State.modifyTopJava]
    obtain ⟨t2, s2, q2⟩ := hret v g1 t.heap (locs ++ L) hP hok2 hS2 T1 hT1 Z
    refine ⟨t2, hstep _ fun acts => ?_, q2⟩
    rw [doInvoke_state]
    refine st'.trans ?_
    rw [ht, ← hgr]
    exact s2
  | inr C =>
    obtain ⟨x, cell, rfl, hx1, hx2, hx3⟩ := hoc
    obtain ⟨T1, Z, -, -, ht⟩ := X1.outOfThrown (g := gr) hgm hend hWt hsame
    have hT1 : T1.heap = t.heap := by rw [ht, Stand.throwing_heap]
    have hfc : s.vm.findClass C = some cell.cls := by
      have hal : s.vm.Alike t.vm := (X1.warmed.trans hWt).alike
      rw [← hal.findClass]
      exact hx3
    obtain ⟨t2, s2, q2⟩ := hthr C g1 t.heap (locs ++ L) T1 x cell hP hok2 hS2 hT1 Z hx1 hx2 hfc
    refine ⟨t2, hstep _ fun acts => ?_, q2⟩
    rw [doInvoke_state]
    refine st'.trans ?_
    rw [ht, ← hgr]
    exact s2
end XCALL
