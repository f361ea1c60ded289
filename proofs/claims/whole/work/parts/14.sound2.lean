section WSOUND2
variable {p : Program} {l : Launch} {e : Env} {s : State} {m : MethodId} {args : Array Value} {below : List Frame} {meth : Method} {c : Code} {H : Heap} {locs : List Loc} {k n : Nat}
variable {RW : List Cond} {D : va_G} {cl : List vw_C} {aC : Nat → ClassId} {tyl : List FieldType} {g0 g : g_H} {cc : ByteArray} {own : String} {nL fr lo MC MS : Nat} {ret : Option FieldType} {hs : List w_Hd} {init : Bool} {scr : Option (Nat × Nat × (Nat → Int32))} {P : x_O → g_H → Prop} {N : w_K} {mt : Nat → w_M}
abbrev w_CTm (l : Launch) (RW : List Cond) (D : va_G) (cl : List vw_C) (aC : Nat → ClassId) (tyl : List FieldType) (mt : Nat → w_M) : w_CT := fun y mc ms a g P1 => x_C l (w_TB RW) D cl aC (w_tys aC tyl) (mt y).1 (mt y).2.2.2.2.2.2.1 (mt y).2.2.2.2.2.2.2.1 mc ms a g P1
theorem w_mok_cd {M : w_M} (h : w_mokb RW M = true) : x_cd (w_TB RW) M.1 M.2.1 M.2.2.1 M.2.2.2.1 M.2.2.2.2.1 ∧ Cond.initialized M.1.cls ∈ w_TB RW ∧ plainFor M.1 = true ∧ (M.1.cls ≠ "java/lang/invoke/MethodHandle" ∧ M.1.cls ≠ "java/lang/invoke/VarHandle") ∧
    (parseMethodDescriptor M.1.desc).map (fun d => d.parameters.length) = some M.2.2.2.2.2.1 ∧ (M.2.2.2.2.2.2.2.2.1 = 0 → Cond.instanceMethod M.1 ∈ w_TB RW ∧ Cond.selects M.1.cls M.1 M.1 ∈ w_TB RW) ∧ (M.2.2.2.2.2.2.2.2.1 = 1 → Cond.static M.1 ∈ w_TB RW) ∧
    (M.2.2.2.2.2.2.2.2.1 = 2 → Cond.instanceMethod M.1 ∈ w_TB RW ∧ M.1.name = "<init>" ∧ Cond.code M.1 M.2.1 M.2.2.1 none ∈ w_TB RW) := by
  obtain ⟨y, bytes, maxL, ret, hs, np, f1, f2, kind, pc, pi, ps, pn⟩ := M
  simp only [w_mokb, Bool.and_eq_true, Bool.or_eq_true, decide_eq_true_eq] at h
  obtain ⟨⟨⟨⟨⟨⟨h1, h2⟩, h3⟩, h4⟩, h5⟩, h6⟩, h7⟩ := h
  refine ⟨?_, w_in_mem h2, h3, ⟨h4, h5⟩, h6, fun hk => ?_, fun hk => ?_, fun hk => ?_⟩
  · rcases h1 with ⟨h1, h9⟩ | h1
    · exact Or.inl ⟨h1, w_in_mem h9⟩
    · exact Or.inr (w_in_mem h1)
  · dsimp only at hk
    subst hk
    simp only [Bool.and_eq_true] at h7
    exact ⟨w_in_mem h7.1, w_in_mem h7.2⟩
  · dsimp only at hk
    subst hk
    exact w_in_mem h7
  · dsimp only at hk
    subst hk
    simp only [Bool.and_eq_true, decide_eq_true_eq] at h7
    exact ⟨w_in_mem h7.1.1, h7.1.2, w_in_mem h7.2⟩
theorem w_call_go (hX : w_cx RW cl tyl own cc nL ret hs init scr p e s m args meth c D aC (x_A g0 s.heap.size)) (hh : w_he RW own hs) {pc y : Nat} {lv : w_L} {st a rest : List Value} (hM : w_mokb RW (mt y) = true) (hrm : w_rmb (mt y) fr lo = true) (h : w_call (w_CTm l RW D cl aC tyl mt) hs P MC MS N pc lv g k n y a rest)
    (hN : ∀ pc lv st g k n, N pc lv st g k n → w_V p l e { frames := fr, cells := MC, slots := MS, locals := lo } s m args below meth c D cl aC (x_A g0 s.heap.size) nL (x_Q D cl aC below s g0 P MC MS) pc lv st g k n)
    {ls : Array Slot} (hl : lv_has ls nL lv) (hok : g_ok D cl aC (x_A g0 s.heap.size) g H) (hS : va_S (x_A g0 s.heap.size) s.heap H locs) {ig : Instr} (hdg : decode cc pc = .ok (ig, 3))
    (hlk : ∀ T : State, T.heap = H → Stand p l e { frames := fr, cells := MC, slots := MS, locals := lo } s m args below meth c T locs k n → x_Lk p l e { frames := fr, cells := MC, slots := MS, locals := lo } s m args below meth c T locs k n (F0 m pc ls st) rest (mt y).1 a) :
    W p l e { frames := fr, cells := MC, slots := MS, locals := lo } s m args below meth c H locs k n (x_Q D cl aC below s g0 P MC MS) (F0 m pc ls st) := by
  obtain ⟨hexec, hb, hml, hown, hts, hK, hSt, hA, hAst, hlocks, hr, htr, htab, hin, hscr⟩ := id hX
  obtain ⟨h1, mc, ms, P1, h2, h3, h4, h5, h6⟩ := h
  obtain ⟨m1, m2, m3, m4, m5, -⟩ := w_mok_cd hM
  simp only [w_rmb, Bool.and_eq_true] at hrm
  refine x_call h2 hexec (w_TB_good RW) hts m1 m3 hK hSt hAst hok hS hA rfl (hl.1.trans hml.symm) (by rw [hb]; exact hdg) (lv_room h1) (Nat.le_of_ble_eq_true hrm.1) (Nat.le_of_ble_eq_true hrm.2) h3 h4 hlk (fun v g1 H1 locs1 q1 q2 q3 => ?_) (fun C g1 H1 locs1 T1 x cell q1 q2 q3 q4 q5 q6 q7 q8 => ?_)
  · exact hN _ _ _ _ _ _ (h5 v g1 q1) H1 locs1 ls hl q2 q3
  · exact w_end_go hX hh (h6 C g1 q1) hN hl q2 q3 q4 q5 q6 q7 q8
theorem w_lkb_or {own : String} {idx h : Nat} {y : MethodName} (hw : w_lkb RW h own idx y = true) (hts : ∀ w ∈ w_TB RW, w.before args s = true) : (Cond.methodLink own idx y).before args s = true ∨ ∃ host, (Cond.methodLinkNest own idx y host).before args s = true := by
  simp only [w_lkb, Bool.or_eq_true] at hw
  rcases hw with hw | hw
  · exact Or.inl (hts _ (w_in_mem hw))
  · exact Or.inr ⟨_, hts _ (w_in_mem hw)⟩
theorem w_flb_or {own : String} {idx h : Nat} {q : String × String × String × Bool} (hw : w_flb RW h own idx q = true) : w_fl (w_TB RW) own idx q := by
  simp only [w_flb, Bool.or_eq_true] at hw
  rcases hw with hw | hw
  · exact Or.inl (w_in_mem hw)
  · exact Or.inr ⟨_, w_in_mem hw⟩
/-- the class of a cell of the ghost heap -/
theorem w_recv {A : Nat → Prop} (hK : va_K D cl (w_tys aC tyl) s) (hok : g_ok D cl aC A g H) {b ci : Nat} {fs : List Value} (hb : g b = some (.inr (ci, fs))) {q : vw_C} (hc : cl[ci]? = some q) : ∃ cell : Cell, H[b]? = some cell ∧ cell.vm.isStatics = false ∧ s.vm.findClass q.1 = some cell.cls := by
  obtain ⟨q0, hq⟩ := hok.at hb
  exact va_recv hK hok.pp hc hq
end WSOUND2
