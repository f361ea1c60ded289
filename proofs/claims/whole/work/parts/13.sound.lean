section WSOUND
def w_cx (RW : List Cond) (cl : List vw_C) (tyl : List FieldType) (own : String) (cc : ByteArray) (nL : Nat) (ret : Option FieldType) (hs : List w_Hd) (init : Bool) (scr : Option (Nat × Nat × (Nat → Int32))) (p : Program) (e : Env) (s : State) (m : MethodId) (args : Array Value) (meth : Method) (c : Code) (D : va_G) (aC : Nat → ClassId) (A : Nat → Prop) : Prop :=
  p.tables.exec = Jvm.exec ∧ c.code = cc ∧ c.maxLocals = nL ∧ s.vm.findClass own = some m.cls ∧ (∀ w ∈ w_TB RW, w.before args s = true) ∧ va_K D cl (w_tys aC tyl) s ∧ x_St s ∧ (∀ q, s.heap.size ≤ q → A q) ∧
  (∀ (q : Nat) (cell : Cell), A q → s.heap[q]? = some cell → cell.vm.isStatics = false) ∧ meth.locks = false ∧ meth.sig.returnType = ret ∧ e.platform.stackTraces = false ∧
  c.exceptionTable.toList.map (fun h => (h.startPc, h.endPc, h.handlerPc, h.catchType)) = hs.map (fun h => (h.1, h.2.1, h.2.2.1, h.2.2.2.1)) ∧ (init = true → meth.name = "<init>") ∧
  ∀ (a L : Nat) (xs : Nat → Int32), scr = some (a, L, xs) → va_X a L xs s s.heap ∧ a < s.heap.size ∧ ¬ A a
def w_V (p : Program) (l : Launch) (e : Env) (R : Room) (s : State) (m : MethodId) (args : Array Value) (below : List Frame) (meth : Method) (c : Code) (D : va_G) (cl : List vw_C) (aC : Nat → ClassId) (A : Nat → Prop) (nL : Nat) (Q : State → Prop) (pc : Nat) (lv : w_L) (st : List Value) (g : g_H) (k n : Nat) : Prop :=
  ∀ (H : Heap) (locs : List Loc) (ls : Array Slot), lv_has ls nL lv → g_ok D cl aC A g H → va_S A s.heap H locs → W p l e R s m args below meth c H locs k n Q (F0 m pc ls st)
theorem w_hnd_spec : ∀ {hs : List w_Hd} {pc : Nat} {C : String} {q : Nat}, w_hnd hs pc C = some q → ∃ (pre : List w_Hd) (x : w_Hd) (post : List w_Hd), hs = pre ++ x :: post ∧ x.2.2.1 = q ∧ x.1 ≤ pc ∧ pc < x.2.1 ∧ x.2.2.2.2 = C ∧ ∀ y ∈ pre, ¬ (y.1 ≤ pc ∧ pc < y.2.1 ∧ y.2.2.2.2 = C)
  | [], pc, C, q, h => by cases h
  | h :: t, pc, C, q, hh => by
    unfold w_hnd at hh
    split at hh
    · rename_i h1 h2 h3
      cases hh
      exact ⟨[], h, t, rfl, rfl, Nat.le_of_ble_eq_true h1, Nat.le_of_ble_eq_true h2, by simpa using h3, fun y hy => by cases hy⟩
    · rename_i hne
      obtain ⟨pre, x, post, e1, e2, e3, e4, e5, e6⟩ := w_hnd_spec hh
      refine ⟨h :: pre, x, post, by rw [e1]; rfl, e2, e3, e4, e5, fun y hy => ?_⟩
      rcases List.mem_cons.mp hy with rfl | hy
      · rintro ⟨a1, a2, a3⟩
        exact hne (Nat.ble_eq_true_of_le a1) (Nat.ble_eq_true_of_le a2) (by simpa using a3)
      · exact e6 y hy
theorem x_ncast {s : State} {args : Array Value} {a b : String} {ca cb : ClassId} (h : (Cond.not (.castable a b)).before args s = true) (ha : s.vm.findClass a = some ca) (hb : s.vm.findClass b = some cb) : s.vm.assignable ca cb = false := by
  simpa [Cond.before, Cond.holds, Cond.value, ha, hb] using h
variable {p : Program} {l : Launch} {e : Env} {s : State} {m : MethodId} {args : Array Value} {below : List Frame} {meth : Method} {c : Code} {H : Heap} {locs : List Loc} {k n : Nat}
variable {RW : List Cond} {D : va_G} {cl : List vw_C} {aC : Nat → ClassId} {tyl : List FieldType} {g0 g : g_H} {cc : ByteArray} {own : String} {nL fr lo MC MS : Nat} {ret : Option FieldType} {hs : List w_Hd} {init : Bool} {scr : Option (Nat × Nat × (Nat → Int32))} {P : x_O → g_H → Prop} {N : w_K}
/-- an exception comes out of a call -/
theorem w_end_go (hX : w_cx RW cl tyl own cc nL ret hs init scr p e s m args meth c D aC (x_A g0 s.heap.size)) (hh : w_he RW own hs) {pc : Nat} {lv : w_L} {C : String} {g1 : g_H} (he : w_end hs P MC MS N pc lv C g1 k n)
    (hN : ∀ pc lv st g k n, N pc lv st g k n → w_V p l e { frames := fr, cells := MC, slots := MS, locals := lo } s m args below meth c D cl aC (x_A g0 s.heap.size) nL (x_Q D cl aC below s g0 P MC MS) pc lv st g k n)
    {ls : Array Slot} (hl : lv_has ls nL lv) {rest : List Value} {T1 : State} {x : Addr} {cell : Cell} (hok : g_ok D cl aC (x_A g0 s.heap.size) g1 H) (hS : va_S (x_A g0 s.heap.size) s.heap H locs) (hT : T1.heap = H) (Z : Stand p l e { frames := fr, cells := MC, slots := MS, locals := lo } s m args below meth c T1 locs k n)
    (hcell : H[x]? = some cell) (hvm : cell.vm = .none) (hfc : s.vm.findClass C = some cell.cls) : ∃ t, Steps p.tables e below ((T1.setTop (F0 m pc ls rest)).pushFrame (.throwing x)) t ∧ x_Q D cl aC below s g0 P MC MS t := by
  obtain ⟨hexec, hb, hml, hown, hts, hK, hSt, hA, hAst, hlocks, hr, htr, htab, hin, hscr⟩ := hX
  subst hT
  unfold w_end at he
  split at he
  · obtain ⟨h1, h2, h3⟩ := he
    have hemp : c.exceptionTable.toList = [] := by simpa using htab
    exact x_leave Z (g := F0 m pc ls rest) rfl rfl rfl (by rw [hemp]; intro y hy; cases hy) hlocks hcell hvm hfc h1 hok hS h2 h3
  · rename_i h r
    split at he
    · exact he.elim
    · rename_i q hq
      obtain ⟨pre, y, post, e1, e2, e3, e4, e5, e6⟩ := w_hnd_spec hq
      rw [e1, List.map_append, List.map_cons] at htab
      obtain ⟨t1, t2, ht, hm1, hm2⟩ := List.map_eq_append_iff.mp htab
      obtain ⟨y1, t3, rfl, hy1, hm3⟩ := List.map_eq_cons_iff.mp hm2
      have hyin : y ∈ h :: r := by rw [e1]; simp
      obtain ⟨c1, c2, c3⟩ := hh y hyin
      simp only [Prod.mk.injEq] at hy1
      obtain ⟨a1, a2, a3, a4⟩ := hy1
      have hpl : e.platform.magicAccessors = ({} : Platform).magicAccessors := by rw [Z.admits.platform]
      obtain ⟨cT, hcT, hlk⟩ := x_link (e := e) (args := args) hpl hown (hts _ c2)
      rw [e5] at hcT
      cases hfc.symm.trans hcT
      obtain ⟨-, -, kk1, hkk1⟩ := hlk s.vm (State.WarmedH.refl s)
      refine x_catch Z (g := F0 m pc ls rest) rfl hown hcell hvm ⟨kk1, hkk1⟩ ht (nx := C) (cx := cell.cls) (by simp [covers, a1, a2, e3, e4]) (by rw [a4]; exact c1) (by rw [a4, ← e5]; exact hts _ c2) hfc (va_asg _ _) (fun z hz => ?_) ?_
      · have hz2 : (z.startPc, z.endPc, z.handlerPc, z.catchType) ∈ pre.map (fun h : w_Hd => (h.1, h.2.1, h.2.2.1, h.2.2.2.1)) := by
          rw [← hm1]
          exact List.mem_map.mpr ⟨z, hz, rfl⟩
        obtain ⟨w, hw, hwz⟩ := List.mem_map.mp hz2
        simp only [Prod.mk.injEq] at hwz
        obtain ⟨b1, b2, b3, b4⟩ := hwz
        have hwin : w ∈ h :: r := by rw [e1]; exact List.mem_append_left _ hw
        obtain ⟨f1, f2, f3⟩ := c3 w hwin
        have hne : w.2.2.2.2 ≠ y.2.2.2.2 := fun z => e6 w hw ⟨by rw [f1]; exact e3, by rw [f2]; exact e4, by rw [z, e5]⟩
        obtain ⟨d1, d2, d3⟩ := hh w hwin
        obtain ⟨cW, hcW, -⟩ := x_link (e := e) (args := args) hpl hown (hts _ d2)
        refine ⟨by simp [covers, ← b1, ← b2, f1, f2, e3, e4], by rw [← b4]; exact d1, w.2.2.2.2, cW, by rw [← b4]; exact hts _ d2, hcW, ?_⟩
        have h9 := hts _ (f3 hne)
        rw [e5] at h9
        exact x_ncast h9 hfc hcW
      · rw [a3, e2]
        exact hN q lv [.ref x] g1 k n (he x) T1.heap locs ls hl hok hS
end WSOUND
