/-! A WALK's MIDDLE AS A START: what is told of a walk since its entry can be told since any of its points -/
section XREB
variable {p : Program} {l : Launch} {e : Env} {R : Room} {s : State} {m : MethodId} {args : Array Value} {below : List Frame} {meth : Method} {c : Code} {H : Heap} {locs : List Loc} {cells slots : Nat} {Q : State → Prop}
theorem x_rebase {T : State} {k n : Nat} (X : Stand p l e R s m args below meth c T locs k n) {R1 : Room} (hf : R1.frames = R.frames) (hl : R1.locals = R.locals) (hc : k + R1.cells ≤ R.cells) (hs : n + R1.slots ≤ R.slots) :
    Stand p l e R1 (T.setFrames (.invoking m args :: below)) m args below meth c T [] 0 0 := by
  obtain ⟨g0, hfr⟩ := X.frames_eq
  have hcur : T.cur < T.threads.size := State.cur_lt_of_frames hfr
  have hF : (T.setFrames (.invoking m args :: below)).frames = .invoking m args :: below := State.frames_setFrames _ hcur
  have hM : (T.setFrames (.invoking m args :: below)).vm.method? m = some meth := X.method'
  have hli : (T.setFrames (.invoking m args :: below)).localsInUse = s.localsInUse := by
    rw [State.localsInUse_invoking hF hM X.code, State.localsInUse_invoking X.frames X.method X.code]
  have hlim : e.platform.stackLimits (T.setFrames (.invoking m args :: below)).me = e.platform.stackLimits s.me := (State.stackLimits_setFrames _ _ _).trans X.limits
  have hby : (T.setFrames (.invoking m args :: below)).me.stackBytes = s.me.stackBytes := (State.stackBytes_setFrames _ _).trans X.bytes
  obtain ⟨th, hth, -⟩ := State.frames_cons hfr
  refine ⟨X.admits, X.cas, X.clock, hF, ?_, ?_, hM, X.code, X.here, X.tail, State.WarmedH.refl _, (State.stackLimits_setFrames _ _ _).symm, (State.stackBytes_setFrames _ _).symm, ?_⟩
  · have hr := X.room
    have hb : (T.setFrames (.invoking m args :: below)).slotsTrue = true := X.book
    have h1 : (T.setFrames (.invoking m args :: below)).heap.size ≤ s.heap.size + k := X.heapSize
    have h2 : (T.setFrames (.invoking m args :: below)).slotsUsed ≤ s.slotsUsed + n := X.used
    simp only [State.hasRoom, Bool.and_eq_true, decide_eq_true_eq] at hr ⊢
    rw [hF, hli, hlim, hby, hf, hl]
    rw [X.frames] at hr
    refine ⟨⟨⟨⟨hr.1.1.1.1, ?_⟩, by have := hr.1.1.2; omega⟩, by have := hr.1.2; omega⟩, hb⟩
    exact hr.1.1.1.2
  · have h := X.hears
    unfold State.hears at h ⊢
    split
    · rename_i g r
      have hc1 : (T.setFrames (.invoking m args :: .java g :: r)).code? g.method = s.code? g.method := by
        rw [State.code?_eq, State.code?_eq]
        have hm : (T.setFrames (.invoking m args :: .java g :: r)).vm.method? g.method = s.vm.method? g.method := X.warmed.alike.method? _
        rw [hm]
      rw [hc1]
      exact h
    · rfl
    · rfl
    · rename_i h1 h2 h3
      rw [hM]
      split at h
      · rename_i g r; exact absurd rfl (h1 g r)
      · rename_i g r; exact absurd rfl (h2 g r)
      · rename_i g r; exact absurd rfl (h3 g r)
      · rw [X.method] at h; exact h
  · have h := (State.sameButNew.refl (T.setFrames (.invoking m args :: below)) (x := { th with frames := .invoking m args :: below }) (by simp [State.setFrames, Array.getElem?_modify, hth])).setFrames T.frames (by simpa [State.setFrames] using hcur)
    have e1 : (T.setFrames (.invoking m args :: below)).setFrames T.frames = T := by rw [State.setFrames_setFrames, State.setFrames_self hth]
    rw [e1] at h
    exact h
end XREB
