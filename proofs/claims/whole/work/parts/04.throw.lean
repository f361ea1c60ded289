/-! EXCEPTIONS: one is made and thrown, leaves a method, is caught -/
section XTHROW
abbrev x_tN : String := "java/lang/Throwable"
/-- what the statement says of Throwable's own statics: it holds as long as no statics are written -/
def x_hw : List Cond := [.laysStatic x_tN "UNASSIGNED_STACK" "[Ljava/lang/StackTraceElement;", .laysStatic x_tN "SUPPRESSED_SENTINEL" "Ljava/util/List;", .isRef (.static x_tN "UNASSIGNED_STACK" "[Ljava/lang/StackTraceElement;"), .isRef (.static x_tN "SUPPRESSED_SENTINEL" "Ljava/util/List;")]
def x_St (U : State) : Prop := ∀ w ∈ x_hw, w.before #[] U = true
/-- statics stay -/
def x_sk (H0 H : Heap) : Prop := ∀ (q : Nat) (cell : Cell), H0[q]? = some cell → cell.vm.isStatics = true → H[q]? = some cell
theorem x_laysStatic {s U : State} {A A1 : Array Value} {C n d : String} (hv : s.vm.Alike U.vm) (hh : x_sk s.heap U.heap) (h : (Cond.laysStatic C n d).before A s = true) : (Cond.laysStatic C n d).before A1 U = true := by
  obtain ⟨c, k, i, f, a, cell, hc, hi, hst, ha, hcell, hs, hcls, hlt, hty⟩ := Cond.laysStatic_spec h
  obtain ⟨k1, hi1, hek⟩ := State.fieldFound?_setVm hv hi
  have hi2 : U.fieldFound? C n d = some (c, k1, i, f) := by simpa only [State.fieldFound?, State.vm_setVm] using hi1
  exact Cond.laysStatic_of (s := U) (by rw [hv.findClass]; exact hc) hi2 hst (by rw [hek]; exact ha) (hh a cell hcell hs) hs hcls hlt (by rw [hek]; exact hty)
theorem x_isRefStatic {s U : State} {A A1 : Array Value} {C n d : String} (hv : s.vm.Alike U.vm) (hh : x_sk s.heap U.heap) (hl : (Cond.laysStatic C n d).before A s = true) (h : (Cond.isRef (.static C n d)).before A s = true) : (Cond.isRef (.static C n d)).before A1 U = true := by
  obtain ⟨c, k, i, f, a, cell, hc, hi, hst, ha, hcell, hs, hcls, hlt, hty⟩ := Cond.laysStatic_spec hl
  obtain ⟨k1, hi1, hek⟩ := State.fieldFound?_setVm hv hi
  have hi2 : U.fieldFound? C n d = some (c, k1, i, f) := by simpa only [State.fieldFound?, State.vm_setVm] using hi1
  have ha1 : k1.statics = some a := by rw [hek]; exact ha
  have hcell1 := hh a cell hcell hs
  obtain ⟨u, hu⟩ := Cond.staticRefV (first := s) (o := none) (idx := []) hi hst ha hcell hs h
  have he : (Term.static C n d).eval A1 U none [] U = cell.slots[f.slot]? := by
    simp [Term.eval, State.fieldNamed?, hi2, hst, ha1, hcell1, hs]
  have hr := u.ok
  simp only [Cond.before, Cond.holds, Cond.value]
  rw [he, hu]
  generalize u.v = v at hr
  cases v <;> simp [Value.isRef] at hr <;> simp
theorem x_St.kept {s U : State} (hv : s.vm.Alike U.vm) (hh : x_sk s.heap U.heap) (h : x_St s) : x_St U := by
  intro w hw
  simp only [x_hw, List.mem_cons, List.not_mem_nil, or_false] at hw
  rcases hw with rfl | rfl | rfl | rfl
  · exact x_laysStatic hv hh (h _ (by simp [x_hw]))
  · exact x_laysStatic hv hh (h _ (by simp [x_hw]))
  · exact x_isRefStatic hv hh (h (.laysStatic x_tN "UNASSIGNED_STACK" "[Ljava/lang/StackTraceElement;") (by simp [x_hw])) (h _ (by simp [x_hw]))
  · exact x_isRefStatic hv hh (h (.laysStatic x_tN "SUPPRESSED_SENTINEL" "Ljava/util/List;") (by simp [x_hw])) (h _ (by simp [x_hw]))
theorem x_St.any {U : State} (h : x_St U) {A : Array Value} : ∀ w ∈ x_hw, w.before A U = true := by
  intro w hw
  have hs : x_sk U.heap U.heap := fun _ _ h _ => h
  have hv : U.vm.Alike U.vm := Vm.Alike.refl _
  simp only [x_hw, List.mem_cons, List.not_mem_nil, or_false] at hw
  rcases hw with rfl | rfl | rfl | rfl
  · exact x_laysStatic hv hs (h _ (by simp [x_hw]))
  · exact x_laysStatic hv hs (h _ (by simp [x_hw]))
  · exact x_isRefStatic hv hs (h (.laysStatic x_tN "UNASSIGNED_STACK" "[Ljava/lang/StackTraceElement;") (by simp [x_hw])) (h _ (by simp [x_hw]))
  · exact x_isRefStatic hv hs (h (.laysStatic x_tN "SUPPRESSED_SENTINEL" "Ljava/util/List;") (by simp [x_hw])) (h _ (by simp [x_hw]))
variable {p : Program} {l : Launch} {e : Env} {R : Room} {s : State} {m : MethodId} {args : Array Value} {below : List Frame} {meth : Method} {c : Code} {H : Heap} {locs : List Loc} {cells slots : Nat} {Q : State → Prop}
variable {D : va_G} {cl : List vw_C} {aC : Nat → ClassId} {g0 g1 : g_H} {P : x_O → g_H → Prop} {mc ms : Nat}
/-- a cell of the ghost heap holds no statics -/
theorem x_none {g : g_H} {A : Nat → Prop} (h : g_ok D cl aC A g H) {a : Nat} {e : g_C} (ha : g a = some e) {cell : Cell} (hc : H[a]? = some cell) : cell.vm = .none := by
  have h1 := (h a e ha).1
  cases e with
  | inl q =>
    have h2 : H[a]? = some (vp_cell (aC q.1) q.2) := h1
    rw [hc] at h2
    cases h2
    unfold vp_cell
    split <;> rfl
  | inr o =>
    obtain ⟨r, -, cell2, q1, -, q3, -⟩ := h1
    rw [hc] at q1
    cases q1
    exact q3
theorem x_A_st {g : g_H} {A : Nat → Prop} (h : g_ok D cl aC A g s.heap) {q : Nat} {cell : Cell} (hA : x_A g s.heap.size q) (hc : s.heap[q]? = some cell) : cell.vm.isStatics = false := by
  rcases hA with hA | hA
  · cases hg : g q with
    | none => exact absurd hg hA
    | some e => rw [x_none h hg hc]; rfl
  · have := (Array.getElem?_eq_some_iff.mp hc).1
    omega
/-- the exception leaves the method -/
theorem x_leave {T1 : State} {k n : Nat} {locs1 : List Loc} (Z : Stand p l e R s m args below meth c T1 locs1 k n) {C : String} {x : Addr} {cell : Cell} {g : JFrame} (hg : g.method = m) (hlk : g.locked = none) (hen : g.entered = []) (hout : ∀ y ∈ c.exceptionTable.toList, covers y g.pc = false) (hlocks : meth.locks = false)
    (hcell : T1.heap[x]? = some cell) (hvm : cell.vm = .none) (hfc : s.vm.findClass C = some cell.cls) (hP : P (.inr C) g1) (hok : g_ok D cl aC (x_A g0 s.heap.size) g1 T1.heap) (hS : va_S (x_A g0 s.heap.size) s.heap T1.heap locs1) (hk : k ≤ mc) (hn : n ≤ ms) :
    ∃ t, Steps p.tables e below ((T1.setTop g).pushFrame (.throwing x)) t ∧ x_Q D cl aC below s g0 P mc ms t := by
  obtain ⟨st, h1, h2, h3, h4⟩ := Z.leaveThrown x hg hlk hen hout hlocks
  refine ⟨_, st, .threw x, .inr C, g1, locs1, h1, h2, ⟨x, cell, rfl, hcell, hvm, ?_⟩, hP, hok, ⟨hS.1, hS.2.1⟩, h3, h4.mono hk hn, hS.2.2⟩
  rw [h3.alike.findClass]
  exact hfc
end XTHROW
