/-! STATICS STAY: what the statement says of Throwable's own statics holds in every later state -/
section XSTAT
abbrev x_tN : String := "java/lang/Throwable"
/-- what the statement says of Throwable's own statics: it holds as long as no statics are written -/
def x_hw : List Cond := [.laysStatic x_tN "UNASSIGNED_STACK" "[Ljava/lang/StackTraceElement;", .laysStatic x_tN "SUPPRESSED_SENTINEL" "Ljava/util/List;", .isRef (.static x_tN "UNASSIGNED_STACK" "[Ljava/lang/StackTraceElement;"), .isRef (.static x_tN "SUPPRESSED_SENTINEL" "Ljava/util/List;")]
def x_St (U : State) : Prop := ∀ w ∈ x_hw, w.before #[] U = true
/-- statics stay -/
def x_sk (H0 H : Heap) : Prop := ∀ (q : Nat) (cell : Cell), H0[q]? = some cell → cell.vm.isStatics = true → H[q]? = some cell
theorem x_laysStatic {s U : State} {A A1 : Array Value} {C n d : String} (hv : s.vm.Alike U.vm) (hh : x_sk s.heap U.heap) (h : (Cond.laysStatic C n d).before A s = true) : (Cond.laysStatic C n d).before A1 U = true := by
  obtain ⟨c, k, i, f, a, cell, hc, hi, hst, ha, hcell, hs, hcls, hlt, hty⟩ := Cond.laysStatic_spec h
  obtain ⟨k1, hi1, hek⟩ := State.fieldFound?_setVm hv hi
  have hi2 : U.fieldFound? C n d = some (c, k1, i, f) := by simpa only [State.fieldFound?, State.vm_setVm] using hi1
  exact Cond.laysStatic_of (s := U) (by rw [hv.findClass]; exact hc) hi2 hst (by rw [hek]; exact ha) (hh a cell hcell hs) hs hcls hlt (by rw [hek]; exact hty)
theorem x_isRefStatic {s U : State} {A A1 : Array Value} {C n d : String} (hv : s.vm.Alike U.vm) (hh : x_sk s.heap U.heap) (hl : (Cond.laysStatic C n d).before A s = true) (h : (Cond.isRef (.static C n d)).before A s = true) : (Cond.isRef (.static C n d)).before A1 U = true := by
  obtain ⟨c, k, i, f, a, cell, hc, hi, hst, ha, hcell, hs, hcls, hlt, hty⟩ := Cond.laysStatic_spec hl
  obtain ⟨k1, hi1, hek⟩ := State.fieldFound?_setVm hv hi
  have hi2 : U.fieldFound? C n d = some (c, k1, i, f) := by simpa only [State.fieldFound?, State.vm_setVm] using hi1
  have ha1 : k1.statics = some a := by rw [hek]; exact ha
  have hcell1 := hh a cell hcell hs
  obtain ⟨u, hu⟩ := Cond.staticRefV (first := s) (o := none) (idx := []) hi hst ha hcell hs h
  have he : (Term.static C n d).eval A1 U none [] U = cell.slots[f.slot]? := by
    simp [Term.eval, State.fieldNamed?, hi2, hst, ha1, hcell1, hs]
  have hr := u.ok
  simp only [Cond.before, Cond.holds, Cond.value]
  rw [he, hu]
  generalize u.v = v at hr
  cases v <;> simp [Value.isRef] at hr <;> simp
theorem x_St.kept {s U : State} (hv : s.vm.Alike U.vm) (hh : x_sk s.heap U.heap) (h : x_St s) : x_St U := by
  intro w hw
  simp only [x_hw, List.mem_cons, List.not_mem_nil, or_false] at hw
  rcases hw with rfl | rfl | rfl | rfl
  · exact x_laysStatic hv hh (h _ (by simp [x_hw]))
  · exact x_laysStatic hv hh (h _ (by simp [x_hw]))
  · exact x_isRefStatic hv hh (h (.laysStatic x_tN "UNASSIGNED_STACK" "[Ljava/lang/StackTraceElement;") (by simp [x_hw])) (h _ (by simp [x_hw]))
  · exact x_isRefStatic hv hh (h (.laysStatic x_tN "SUPPRESSED_SENTINEL" "Ljava/util/List;") (by simp [x_hw])) (h _ (by simp [x_hw]))
theorem x_St.any {U : State} (h : x_St U) {A : Array Value} : ∀ w ∈ x_hw, w.before A U = true := by
  intro w hw
  have hs : x_sk U.heap U.heap := fun _ _ h _ => h
  have hv : U.vm.Alike U.vm := Vm.Alike.refl _
  simp only [x_hw, List.mem_cons, List.not_mem_nil, or_false] at hw
  rcases hw with rfl | rfl | rfl | rfl
  · exact x_laysStatic hv hs (h _ (by simp [x_hw]))
  · exact x_laysStatic hv hs (h _ (by simp [x_hw]))
  · exact x_isRefStatic hv hs (h (.laysStatic x_tN "UNASSIGNED_STACK" "[Ljava/lang/StackTraceElement;") (by simp [x_hw])) (h _ (by simp [x_hw]))
  · exact x_isRefStatic hv hs (h (.laysStatic x_tN "SUPPRESSED_SENTINEL" "Ljava/util/List;") (by simp [x_hw])) (h _ (by simp [x_hw]))
end XSTAT
