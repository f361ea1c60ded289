/-! A METHOD's OWN HANDLERS: their classes may have been looked up before, or are looked up now -/
section XCATCH
/-- what the search of a frame's handlers finds, and the tables that it leaves -/
def x_FT (e : Env) (s : State) (f : JFrame) (a : Addr) (h : Handler) (vm1 : Vm) : Prop :=
  ∀ (Q : Handler → Pre) (E : CtlPost) (d : Bool) (acts : List Action), wp (findHandler f a) Q E e d acts s ↔ Q h d acts (s.setVm vm1)
/-- one row of the table that covers the pc and names a class that links: it catches, or it is passed -/
theorem x_go1 {Q : Handler → Pre} {E : CtlPost} {e : Env} {d : Bool} {acts : List Action} {s : State} {f : JFrame} {a : Addr} {x : ExceptionTableEntry} {t : List ExceptionTableEntry} {cT : ClassId} {cell : Cell} (hx : covers x f.pc = true) (h0 : x.catchType ≠ 0)
    (hl : s.vm.ClassLinks e.platform f.method.cls x.catchType cT) (hcell : s.heap[a]? = some cell) (hobj : ∀ k, cell.vm ≠ .statics k) (hk : ∃ k, s.vm.classes[cell.cls]? = some k) (hc : ∃ k, s.vm.classes[cT]? = some k) :
    wp (findHandler.go f a (x :: t)) Q E e d acts s ↔
      if s.vm.assignable cell.cls cT = true then Q (.found x.handlerPc) d acts (s.setVm (s.vm.noted f.method.cls x.catchType (.cls cT))) else wp (findHandler.go f a t) Q E e d acts (s.setVm (s.vm.noted f.method.cls x.catchType (.cls cT))) := by
  simp only [covers] at hx
  obtain ⟨ha, ht⟩ := (resolveClass_links e.toSetting hl).op (op := VmOp.resolveClass f.method.cls x.catchType) rfl
  have hal : s.vm.Alike (s.vm.noted f.method.cls x.catchType (.cls cT)) := (Vm.Alike.refl s.vm).noted _ _ _
  obtain ⟨k1, hk1⟩ := hk
  obtain ⟨k2, hk2⟩ := hc
  obtain ⟨k1', hk1', -⟩ := hal.2.2 _ _ hk1
  obtain ⟨k2', hk2', -⟩ := hal.2.2 _ _ hk2
  have hasg : (s.vm.noted f.method.cls x.catchType (.cls cT)).assignable cell.cls cT = s.vm.assignable cell.cls cT := hal.assignable _ _
  by_cases hfit : s.vm.assignable cell.cls cT = true
  · rw [if_pos hfit]
    rw [hfit] at hasg
    simp [findHandler.go, hx, h0, ha, ht, hcell, hobj, hk1', hk2', hasg, VmOp.dirties, VmOp.acts]
  · rw [if_neg hfit]
    have hf : s.vm.assignable cell.cls cT = false := by simpa using hfit
    rw [hf] at hasg
    simp [findHandler.go, hx, h0, ha, ht, hcell, hobj, hk1', hk2', hasg, VmOp.dirties, VmOp.acts]
variable {p : Program} {l : Launch} {e : Env} {R : Room} {s : State} {m : MethodId} {args : Array Value} {below : List Frame} {meth : Method} {c : Code} {H : Heap} {locs : List Loc} {k n : Nat} {Q : State → Prop}
/-- what a class link says in every warmer state -/
theorem x_link {own name : String} {idx k0 : Nat} (hpl : e.platform.magicAccessors = ({} : Platform).magicAccessors) (hown : s.vm.findClass own = some k0) (hlink : (Cond.classLink own idx name).before args s = true) :
    ∃ cT, s.vm.findClass name = some cT ∧ ∀ vm : Vm, s.WarmedH vm → vm.ClassLinks e.platform k0 idx cT ∧ s.WarmedH (vm.noted k0 idx (.cls cT)) ∧ ∃ kk, vm.classes[cT]? = some kk := by
  obtain ⟨cT, hc', hcl⟩ := Cond.classLink_spec hown hlink e.platform hpl
  obtain ⟨dk, _, _, kt, hd, _, _, _, _, hkt, _, hopen⟩ := hcl.here
  refine ⟨cT, hc', fun vm hW => ⟨hW.classLinks hcl, hW.noted hd hopen (State.rightAt_cls hcl), ?_⟩⟩
  obtain ⟨kt', hkt', -⟩ := hW.alike.2.2 _ _ hkt
  exact ⟨kt', hkt'⟩
/-- the search: 'pre' are passed, x catches -/
theorem x_go {U : State} {f : JFrame} {a : Addr} {cell : Cell} {own : String} (hpl : e.platform.magicAccessors = ({} : Platform).magicAccessors) (hown : s.vm.findClass own = some f.method.cls) (hcell : U.heap[a]? = some cell) (hobj : cell.vm = .none) (hkc : ∃ kk, s.vm.classes[cell.cls]? = some kk)
    {x : ExceptionTableEntry} {rest : List ExceptionTableEntry} {nx : String} {cx : ClassId} (hx : covers x f.pc = true) (hx0 : x.catchType ≠ 0) (hxl : (Cond.classLink own x.catchType nx).before args s = true) (hxc : s.vm.findClass nx = some cx) (hxa : s.vm.assignable cell.cls cx = true) :
    ∀ (pre : List ExceptionTableEntry), (∀ y ∈ pre, covers y f.pc = true ∧ y.catchType ≠ 0 ∧ ∃ (ny : String) (cy : ClassId), (Cond.classLink own y.catchType ny).before args s = true ∧ s.vm.findClass ny = some cy ∧ s.vm.assignable cell.cls cy = false) →
      ∀ vm : Vm, s.WarmedH vm → ∃ vm1 : Vm, s.WarmedH vm1 ∧ ∀ (Q : Handler → Pre) (E : CtlPost) (d : Bool) (acts : List Action), wp (findHandler.go f a (pre ++ x :: rest)) Q E e d acts (U.setVm vm) ↔ Q (.found x.handlerPc) d acts (U.setVm vm1) := by
  have hkv : ∀ vm : Vm, s.WarmedH vm → ∃ kk, (U.setVm vm).vm.classes[cell.cls]? = some kk := fun vm hW => by
    obtain ⟨k1, h1⟩ := hkc
    obtain ⟨k2, h2, -⟩ := hW.alike.2.2 _ _ h1
    exact ⟨k2, h2⟩
  intro pre
  induction pre with
  | nil =>
    intro _ vm hW
    obtain ⟨cT, hcT, hv⟩ := x_link hpl hown hxl
    cases hcT.symm.trans hxc
    obtain ⟨v1, v2, v3⟩ := hv vm hW
    refine ⟨_, v2, fun Q E d acts => ?_⟩
    rw [List.nil_append, x_go1 (s := U.setVm vm) hx hx0 v1 hcell (fun kk h => by rw [hobj] at h; cases h) (hkv vm hW) v3]
    rw [if_pos (by show vm.assignable cell.cls cx = true; rw [hW.alike.assignable]; exact hxa)]
    rfl
  | cons y ys ih =>
    intro hs vm hW
    obtain ⟨y1, y2, ny, cy, y3, y4, y5⟩ := hs y (by simp)
    obtain ⟨cT, hcT, hv⟩ := x_link hpl hown y3
    cases hcT.symm.trans y4
    obtain ⟨v1, v2, v3⟩ := hv vm hW
    obtain ⟨vm1, h1, h2⟩ := ih (fun z hz => hs z (List.mem_cons_of_mem _ hz)) _ v2
    refine ⟨vm1, h1, fun Q E d acts => ?_⟩
    rw [List.cons_append, x_go1 (s := U.setVm vm) y1 y2 v1 hcell (fun kk h => by rw [hobj] at h; cases h) (hkv vm hW) v3]
    rw [if_neg (by show ¬ vm.assignable cell.cls cy = true; rw [hW.alike.assignable, y5]; decide)]
    exact h2 Q E d acts
theorem x_stepCatch {s : State} {a : Addr} {f : JFrame} {r : List Frame} {pc : Nat} {vm1 : Vm} (hfind : x_FT e s f a (.found pc) vm1) :
    (stepThrowing e s a (.java f :: r)).Is ((s.setVm vm1).setFrames (.java { f with pc := pc, stack := [.ref a] } :: r)) [] := by
  simp only [stepThrowing, searchFrame, vmDo]
  generalize hr : Sem.go _ e false [] s = res
  obtain ⟨as, rfl, ha⟩ := Sem.eq_ok_of hr (a := Handler.found pc) (s' := s.setVm vm1) (acts' := []) (by simp [hfind _ _ _ _])
  exact ⟨rfl, ha⟩
theorem x_caughtTo {s : State} {g : JFrame} {a : Addr} {tb : Tables} {target : State} (h : At s g.method c below) {pc : Nat} {vm1 : Vm} (hfind : x_FT e ((s.setTop g).pushFrame (.throwing a)) g a (.found pc) vm1)
    (hrest : Steps tb e below ((s.setVm vm1).setTop { g with pc := pc, stack := [.ref a] }) target) : Steps tb e below ((s.setTop g).pushFrame (.throwing a)) target := by
  obtain ⟨hgo, hw⟩ := h.throwing a
  refine Steps.head hgo hw ?_
  rw [stepThread_throwing (frames_entered h.top _), (x_stepCatch (s := (s.setTop g).pushFrame (.throwing a)) hfind).1]
  obtain ⟨g1, hg1⟩ := Option.isSome_iff_exists.mp h.top
  obtain ⟨r, hr⟩ := State.topJava?_eq_some.mp hg1
  have hr2 : (s.setVm vm1).frames = .java g1 :: r := hr
  have e1 : ∀ (u : State) (F G : List Frame), ((u.setFrames F).setVm vm1).setFrames G = (u.setVm vm1).setFrames G := fun u F G => by
    have : (u.setFrames F).setVm vm1 = (u.setVm vm1).setFrames F := rfl
    rw [this, State.setFrames_setFrames]
  rw [State.setTop_of_frames _ hr2] at hrest
  rw [hr, List.tail_cons, State.pushFrame, e1, State.setTop_of_frames _ hr, e1]
  exact hrest
/-- THE METHOD CATCHES IT: rows 'pre' of its table are passed, x catches; it goes on at x's place with the exception alone on its stack -/
theorem x_catch {T1 : State} (Z : Stand p l e R s m args below meth c T1 locs k n) {a : Addr} {cell : Cell} {g : JFrame} (hg : g.method = m) {own : String} (hown : s.vm.findClass own = some m.cls) (hcell : T1.heap[a]? = some cell) (hobj : cell.vm = .none) (hkc : ∃ kk, s.vm.classes[cell.cls]? = some kk)
    {pre rest : List ExceptionTableEntry} {x : ExceptionTableEntry} (hsplit : c.exceptionTable.toList = pre ++ x :: rest) {nx : String} {cx : ClassId} (hx : covers x g.pc = true) (hx0 : x.catchType ≠ 0) (hxl : (Cond.classLink own x.catchType nx).before args s = true) (hxc : s.vm.findClass nx = some cx) (hxa : s.vm.assignable cell.cls cx = true)
    (hpre : ∀ y ∈ pre, covers y g.pc = true ∧ y.catchType ≠ 0 ∧ ∃ (ny : String) (cy : ClassId), (Cond.classLink own y.catchType ny).before args s = true ∧ s.vm.findClass ny = some cy ∧ s.vm.assignable cell.cls cy = false)
    (kk : W p l e R s m args below meth c T1.heap locs k n Q { g with pc := x.handlerPc, stack := [.ref a] }) : ∃ t, Steps p.tables e below ((T1.setTop g).pushFrame (.throwing a)) t ∧ Q t := by
  subst hg
  have hpl : e.platform.magicAccessors = ({} : Platform).magicAccessors := by rw [Z.admits.platform]
  obtain ⟨vm1, h1, h2⟩ := x_go (U := (T1.setTop g).pushFrame (.throwing a)) (f := g) (a := a) (cell := cell) (rest := rest) hpl hown (by rw [Stand.throwing_heap]; exact hcell) hobj hkc hx hx0 hxl hxc hxa pre hpre T1.vm Z.warmed
  obtain ⟨t, st, hq⟩ := kk (T1.setVm vm1) rfl (Z.noted h1)
  refine ⟨t, x_caughtTo Z.here (pc := x.handlerPc) (vm1 := vm1) (fun Q E d acts => ?_) st, hq⟩
  rw [W.findHandler_eq (meth := meth) (code := c) (by rw [Stand.throwing_vm]; exact Z.method') Z.code, hsplit]
  have := h2 Q E d acts
  exact this
end XCATCH
