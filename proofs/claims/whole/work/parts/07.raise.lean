section XNEW
variable {p : Program} {l : Launch} {e : Env} {R : Room} {s : State} {m : MethodId} {args : Array Value} {below : List Frame} {meth : Method} {c : Code} {H : Heap} {locs : List Loc} {k n : Nat} {Q : State → Prop}
variable {D : va_G} {cl : List vw_C} {aC : Nat → ClassId} {g0 g1 : g_H} {P : x_O → g_H → Prop} {mc ms : Nat}
theorem x_same {T V : State} {F : List Frame} {L : List Loc} {k n : Nat} (h : (T.setFrames F).sameButNew V L k n) : T.sameButNew V L k n := by
  obtain ⟨h1, h2⟩ := h
  refine ⟨?_, h2⟩
  rw [State.setFrames_setFrames] at h1
  exact h1
/-- nothing old is written: every old cell is what it was -/
theorem x_cells {S V : State} {k n : Nat} (h : S.sameButNew V [] k n) (q : Nat) (hq : q < S.heap.size) : V.heap[q]? = S.heap[q]? := by
  obtain ⟨-, -, -, -, -, h6⟩ := h
  obtain ⟨c1, h1⟩ : ∃ c1, S.heap[q]? = some c1 := ⟨_, Array.getElem?_eq_getElem hq⟩
  obtain ⟨c2, e1, e2, e3, e4⟩ := h6 q c1 h1
  rw [e1, h1]
  have hs : c2.slots = c1.slots := by
    apply Array.ext e3
    intro i hi1 hi2
    have := e4 i (by simp)
    rw [Array.getElem?_eq_getElem hi1, Array.getElem?_eq_getElem hi2] at this
    exact Option.some.inj this
  rw [e2, hs]
/-- the wide form of ldc, at a String constant that has been resolved -/
theorem x_ldcw {T : State} (X : Stand p l e R s m args below meth c T locs k n) (hexec : p.tables.exec = Jvm.exec) {own text : String} {index : Nat} {a : Addr} (hown : s.vm.findClass own = some m.cls)
    (hconst : (Cond.stringRef own index text).before args s = true) (hev : (Term.string own index).eval args s none [] s = some (.ref a)) {g : JFrame} (hg : g.method = m) (hdg : decode c.code g.pc = .ok (.ldc_w index, 3)) :
    ∀ target, Steps p.tables e below (T.setTop { g with pc := g.pc + 3, stack := .ref a :: g.stack }) target → Steps p.tables e below (T.setTop g) target := by
  obtain ⟨kk, cf, i, a', hk, hcf, hcp, -, hr, hev'⟩ := Cond.stringRef_spec hown hconst
  cases hev.symm.trans hev'
  obtain ⟨k', hk', he⟩ := X.warmed.alike.2.2 _ _ hk
  have hr' : k'.resolved[index]? = some (some (.string a)) := by
    rcases X.warmed.entry hk hk' index with h | ⟨h, -⟩
    · rw [h]; exact hr
    · rw [hr] at h; cases h
  intro target hrest
  subst hg
  jvm_step X.here [hexec, hdg, ldc_w.wp_string (e := e) (s := T) (f := g) X.here.top hk' (by rw [he]; exact hcf) hcp hr']
  exact hrest
/-- the state behind a throw, as the making of the exception leaves it: one new cell, nothing else -/
def x_Q1 (below : List Frame) (C : String) (S : State) (a : Nat) : State → Prop := fun t =>
  t.status = .running ∧ Ended t below (.threw a) ∧ S.WarmedH t.vm ∧ S.sameButNew ({ t with vm := S.vm } : State) [] 1 6 ∧ ∃ ce : Cell, t.heap[a]? = some ce ∧ ce.vm = .none ∧ S.vm.findClass C = some ce.cls
theorem x_new1 {cc : ByteArray} {ls : Array Slot} {rest : List Value} {own C tx : String} {names : List String} {idx ik ic pc q : Nat} (hexec : p.tables.exec = Jvm.exec) (hb : c.code = cc) (hml : ls.size = c.maxLocals) (hlocks : meth.locks = false) (htr : e.platform.stackTraces = false) (hemp : c.exceptionTable.toList = [])
    (hown : s.vm.findClass own = some m.cls) (hat : ∀ w ∈ Bundle.ownAtoms own ic C names, w.before args s = true) (hcl : (Cond.classLink own idx C).before args s = true) (hini : (Cond.initialized C).before args s = true) (hstr : (Cond.stringRef own ik tx).before args s = true)
    (hfC : Bundle.fit C = true) (hfn : ∀ n ∈ names, Bundle.fit n = true)
    (d0 : decode cc pc = .ok (.new idx, 3)) (d3 : decode cc (pc + 3) = .ok (.dup, 1)) (d4 : (decode cc (pc + 4) = .ok (.ldc ik, 2) ∧ q = pc + 6) ∨ (decode cc (pc + 4) = .ok (.ldc_w ik, 3) ∧ q = pc + 7)) (d6 : decode cc q = .ok (.invokespecial ic, 3)) (d9 : decode cc (q + 3) = .ok (.athrow, 1))
    (hc : 1 ≤ R.cells) (hs : 6 ≤ R.slots) (hfr : names.length + 3 < R.frames) (hlo : (rest.map fun v => v.category).sum + 1 + (13 * (names.length + 1) + 42) ≤ R.locals) :
    W p l e R s m args below meth c s.heap [] 0 0 (x_Q1 below C s s.heap.size) (F0 m pc ls rest) := by
  have hins : (Cond.instantiable C 6).before args s = true := hat _ (by simp [Bundle.ownAtoms])
  refine W.newc hexec hb hown hcl hins hini rfl d0 (by omega) (by omega) (fun cC kC f1 f2 f3 f4 => ?_)
  refine W.eq (g2 := F0 m (pc + 3) ls (.ref s.heap.size :: rest)) rfl ?_
  refine lv_dup hexec hb d3 rfl ?_
  obtain ⟨kk, cf, i, a, hk, hcf, hcp, -, hr, hev⟩ := Cond.stringRef_spec hown hstr
  have fin : W p l e R s m args below meth c (s.heap.push { cls := cC, slots := kC.instanceTypes.map defaultValue, vm := .none }) [] (0 + 1) (0 + 6) (x_Q1 below C s s.heap.size) (F0 m q ls (.ref a :: .ref s.heap.size :: .ref s.heap.size :: rest)) := by
    intro T hT X
    have hcell : T.heap[s.heap.size]? = some (freshCell cC kC) := by rw [hT]; simp
    obtain ⟨U, st, hrun, hend, hW, hsame, ce, hce, K⟩ := X.ctorThrowS hexec htr hown hfC hfn hat (fun x hx => by cases hx) f1 f2 hcell (Nat.le_refl _) (msg := .ref a) rfl (g := F0 m q ls (.ref a :: .ref s.heap.size :: .ref s.heap.size :: rest)) rfl hml rfl rfl rfl
      (by rw [hb]; exact d6) (by rw [hb]; exact d9) (by rw [hemp]; intro x hx; cases hx) hfr (by
        show 2 * 0 + _ + _ ≤ _
        have hcat : (Value.ref s.heap.size).category = 1 := rfl
        simp only [List.map_cons, List.sum_cons, hcat]
        omega) hlocks
    exact ⟨U, st, hrun, hend, hW, hsame, ce, hce, K.vm, K.cls⟩
  rcases d4 with ⟨d4, rfl⟩ | ⟨d4, rfl⟩
  · exact va_ldcS hexec hb hown (vk_R.of hstr hev) d4 fin
  · intro T hT X
    obtain ⟨t, a1, b1⟩ := fin T hT X
    exact ⟨t, x_ldcw X hexec hown hstr hev (g := F0 m (pc + 3 + 1) ls (.ref s.heap.size :: .ref s.heap.size :: rest)) rfl (by rw [hb]; exact d4) t a1, b1⟩
/-- AN EXCEPTION IS MADE AND THROWN out of the method -/
theorem x_raise {cc : ByteArray} {ls : Array Slot} {rest : List Value} {own C tx : String} {names : List String} {idx ik ic pc q : Nat} {g : g_H} (hexec : p.tables.exec = Jvm.exec) (hb : c.code = cc) (hml : ls.size = c.maxLocals) (hlocks : meth.locks = false) (htr : e.platform.stackTraces = false) (hemp : c.exceptionTable.toList = [])
    (hown : s.vm.findClass own = some m.cls) (hwd : ∀ U : State, s.WarmedH U.vm → U.heap = H → (∀ w ∈ Bundle.ownAtoms own ic C names, w.before args U = true) ∧ (Cond.classLink own idx C).before args U = true ∧ (Cond.initialized C).before args U = true ∧ (Cond.stringRef own ik tx).before args U = true)
    (hfC : Bundle.fit C = true) (hfn : ∀ n ∈ names, Bundle.fit n = true)
    (d0 : decode cc pc = .ok (.new idx, 3)) (d3 : decode cc (pc + 3) = .ok (.dup, 1)) (d4 : (decode cc (pc + 4) = .ok (.ldc ik, 2) ∧ q = pc + 6) ∨ (decode cc (pc + 4) = .ok (.ldc_w ik, 3) ∧ q = pc + 7)) (d6 : decode cc q = .ok (.invokespecial ic, 3)) (d9 : decode cc (q + 3) = .ok (.athrow, 1))
    (hc : k + 1 ≤ R.cells) (hs : n + 6 ≤ R.slots) (hfr : names.length + 3 < R.frames) (hlo : (rest.map fun v => v.category).sum + 1 + (13 * (names.length + 1) + 42) ≤ R.locals)
    (hok : g_ok D cl aC (x_A g0 s.heap.size) g H) (hS : va_S (x_A g0 s.heap.size) s.heap H locs) (hP : P (.inr C) g) (hk : k + 1 ≤ mc) (hn : n + 6 ≤ ms) :
    W p l e R s m args below meth c H locs k n (x_Q D cl aC below s g0 P mc ms) (F0 m pc ls rest) := by
  intro T hT X
  have X1 := x_rebase X (R1 := { frames := R.frames, cells := R.cells - k, slots := R.slots - n, locals := R.locals }) rfl rfl (by show k + (R.cells - k) ≤ R.cells; omega) (by show n + (R.slots - n) ≤ R.slots; omega)
  obtain ⟨w1, w2, w3, w4⟩ := hwd (T.setFrames (.invoking m args :: below)) X.warmed hT
  have hown1 : (T.setFrames (.invoking m args :: below)).vm.findClass own = some m.cls := by
    show T.vm.findClass own = some m.cls
    rw [X.warmed.alike.findClass]; exact hown
  have key := x_new1 (p := p) (l := l) (e := e) (s := T.setFrames (.invoking m args :: below)) (m := m) (args := args) (below := below) (meth := meth) (c := c) (R := { frames := R.frames, cells := R.cells - k, slots := R.slots - n, locals := R.locals })
    (ls := ls) (rest := rest) hexec hb hml hlocks htr hemp hown1 w1 w2 w3 w4 hfC hfn d0 d3 d4 d6 d9 (by show 1 ≤ R.cells - k; omega) (by show 6 ≤ R.slots - n; omega) hfr hlo
  obtain ⟨t, st, hrun, hend, hW, hsame, ce, hce, hcv, hcc⟩ := key T rfl X1
  have hheap : (T.setFrames (.invoking m args :: below)).heap = H := hT
  have hWs : s.WarmedH t.vm := X.warmed.trans hW
  have hold : ∀ q : Nat, q < H.size → t.heap[q]? = H[q]? := fun q hq => by
    have := x_cells hsame q (by rw [hheap]; exact hq)
    rw [hheap] at this
    exact this
  have hsz : H.size ≤ t.heap.size := by
    have := hsame.2.1
    rw [hheap] at this
    exact this
  have h2 : (T.setVm s.vm).sameButNew (({ t with vm := T.vm } : State).setVm s.vm) [] 1 6 := (x_same hsame).setVm s.vm
  have h3 := X.same.trans h2
  rw [List.append_nil] at h3
  refine ⟨t, st, .threw _, .inr C, g, locs, hrun, hend, ⟨_, ce, rfl, hce, hcv, ?_⟩, hP, ?_, ⟨Nat.le_trans hS.1 hsz, fun q h1 h2 => ?_⟩, hWs, h3.mono hk hn, hS.2.2⟩
  · rw [hW.alike.findClass]
    exact hcc
  · intro a f ha
    exact ⟨(hok a f ha).1.kept (hold a (hok.lt ha)), (hok a f ha).2⟩
  · rw [hold q (Nat.lt_of_lt_of_le h1 hS.1)]
    exact hS.2.1 q h1 h2
end XNEW
