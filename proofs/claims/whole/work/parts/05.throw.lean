/-! EXCEPTIONS: one leaves a method -/
section XTHROW
variable {p : Program} {l : Launch} {e : Env} {R : Room} {s : State} {m : MethodId} {args : Array Value} {below : List Frame} {meth : Method} {c : Code} {H : Heap} {locs : List Loc} {cells slots : Nat} {Q : State → Prop}
variable {D : va_G} {cl : List vw_C} {aC : Nat → ClassId} {g0 g1 : g_H} {P : x_O → g_H → Prop} {mc ms : Nat}
/-- a cell of the ghost heap holds no statics -/
theorem x_none {g : g_H} {A : Nat → Prop} (h : g_ok D cl aC A g H) {a : Nat} {e : g_C} (ha : g a = some e) {cell : Cell} (hc : H[a]? = some cell) : cell.vm = .none := by
  have h1 := (h a e ha).1
  cases e with
  | inl q =>
    have h2 : H[a]? = some (vp_cell (aC q.1) q.2) := h1
    rw [hc] at h2
    cases h2
    unfold vp_cell
    split <;> rfl
  | inr o =>
    obtain ⟨r, -, cell2, q1, -, q3, -⟩ := h1
    rw [hc] at q1
    cases q1
    exact q3
theorem x_A_st {g : g_H} {A : Nat → Prop} (h : g_ok D cl aC A g s.heap) {q : Nat} {cell : Cell} (hA : x_A g s.heap.size q) (hc : s.heap[q]? = some cell) : cell.vm.isStatics = false := by
  rcases hA with hA | hA
  · cases hg : g q with
    | none => exact absurd hg hA
    | some e => rw [x_none h hg hc]; rfl
  · have := (Array.getElem?_eq_some_iff.mp hc).1
    omega
/-- the exception leaves the method -/
theorem x_leave {T1 : State} {k n : Nat} {locs1 : List Loc} (Z : Stand p l e R s m args below meth c T1 locs1 k n) {C : String} {x : Addr} {cell : Cell} {g : JFrame} (hg : g.method = m) (hlk : g.locked = none) (hen : g.entered = []) (hout : ∀ y ∈ c.exceptionTable.toList, covers y g.pc = false) (hlocks : meth.locks = false)
    (hcell : T1.heap[x]? = some cell) (hvm : cell.vm = .none) (hfc : s.vm.findClass C = some cell.cls) (hP : P (.inr C) g1) (hok : g_ok D cl aC (x_A g0 s.heap.size) g1 T1.heap) (hS : va_S (x_A g0 s.heap.size) s.heap T1.heap locs1) (hk : k ≤ mc) (hn : n ≤ ms) :
    ∃ t, Steps p.tables e below ((T1.setTop g).pushFrame (.throwing x)) t ∧ x_Q D cl aC below s g0 P mc ms t := by
  obtain ⟨st, h1, h2, h3, h4⟩ := Z.leaveThrown x hg hlk hen hout hlocks
  refine ⟨_, st, .threw x, .inr C, g1, locs1, h1, h2, ⟨x, cell, rfl, hcell, hvm, ?_⟩, hP, hok, ⟨hS.1, hS.2.1⟩, h3, h4.mono hk hn, hS.2.2⟩
  rw [h3.alike.findClass]
  exact hfc
end XTHROW
