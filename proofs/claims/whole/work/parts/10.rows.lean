/-! ROWS OVER THE GHOST HEAP -/
section XGB
/-- words that hold in every warmer state -/
def x_gb (w : Cond) : Bool := goodWord w || match w with
  | .fieldLinkNest .. => true
  | .methodLinkNest .. => true
  | .arrayOver (.object _) => true
  | .stringRef .. => true
  | .not (.castable ..) => true
  | .castable .. => true
  | .declares _ => true
  | _ => false
theorem x_gb_good {w : Cond} (h : x_gb w = true) (a a1 : Array Value) (s U : State) (hW : s.WarmedH U.vm) (hb : w.before a s = true) : w.before a1 U = true := by
  unfold x_gb at h
  rw [Bool.or_eq_true] at h
  rcases h with h | h
  · exact word_at hW (good_of_word h) hb
  · split at h
    · exact va_Nw.use rfl (va_Nw.warmF hW (va_Nw.of rfl hb))
    · exact va_Nw.use rfl (va_Nw.warmM hW (va_Nw.of rfl hb))
    · exact va_AO.use (va_AO.moved hW.alike (va_AO.of hb))
    · rename_i own index text
      obtain ⟨cur, hcur⟩ : ∃ cur, s.vm.findClass own = some cur := by
        have h1 := hb
        simp only [Cond.before, Cond.holds, Cond.value] at h1
        cases hc : s.vm.findClass own with
        | none => simp [hc] at h1
        | some cur => exact ⟨cur, rfl⟩
      obtain ⟨kk, cf, i, q, -, -, -, -, -, hev⟩ := Cond.stringRef_spec hcur hb
      have := (vk_R.warm hW (vk_R.of hb hev)).1
      exact this
    · rename_i x y
      have := Cond.castAtom_setVm (args := a) hW.alike (.not (.castable x y)) rfl hb
      simp only [Cond.before, Cond.holds, Cond.value] at this ⊢
      exact this
    · rename_i x y
      obtain ⟨c1, c2, q1, q2, q3⟩ := Cond.castable_spec hb
      have e1 : U.vm.findClass x = some c1 := by rw [hW.alike.findClass]; exact q1
      have e2 : U.vm.findClass y = some c2 := by rw [hW.alike.findClass]; exact q2
      have e3 : U.vm.assignable c1 c2 = true := by rw [hW.alike.assignable]; exact q3
      simp [Cond.before, Cond.holds, Cond.value, e1, e2, e3]
    · exact va_Nw.use rfl (va_Nw.warmD hW (va_Nw.of rfl hb))
    · cases h
def w_in (RW : List Cond) (h : Nat) (w : Cond) : Bool := decide (RW[h]? = some w) && x_gb w
abbrev w_TB (RW : List Cond) : List Cond := RW.filter x_gb
theorem w_in_mem {RW : List Cond} {h : Nat} {w : Cond} (hw : w_in RW h w = true) : w ∈ w_TB RW := by
  simp only [w_in, Bool.and_eq_true, decide_eq_true_eq] at hw
  exact List.mem_filter.mpr ⟨List.mem_of_getElem? hw.1, hw.2⟩
theorem w_TB_good (RW : List Cond) : x_good (w_TB RW) := fun w hw => x_gb_good (List.mem_filter.mp hw).2
end XGB
section WROWS
def w_tys (aC : Nat → ClassId) (tyl : List FieldType) : List (ClassId × FieldType) := tyl.mapIdx (fun i ty => (aC i, ty))
theorem w_tys_at {aC : Nat → ClassId} {tyl : List FieldType} {t : Nat} {ty : FieldType} (h : tyl[t]? = some ty) : (w_tys aC tyl)[t]? = some (aC t, ty) := by
  simp [w_tys, h]
variable {p : Program} {l : Launch} {e : Env} {R : Room} {s : State} {m : MethodId} {args : Array Value} {below : List Frame} {meth : Method} {c : Code} {H : Heap} {locs : List Loc} {k n : Nat} {Q : State → Prop}
variable {D : va_G} {cl : List vw_C} {aC : Nat → ClassId} {tyl : List FieldType} {A : Nat → Prop} {g : g_H} {TB : List Cond} {cc : ByteArray} {own C : String} {T : u_T} {N ci y pc idx a : Nat} {ls : Array Slot} {rest : List Value}
def w_fl (TB : List Cond) (own : String) (idx : Nat) (q : String × String × String × Bool) : Prop := Cond.fieldLink own idx q.1 q.2.1 q.2.2.1 ∈ TB ∨ ∃ host, Cond.fieldLinkNest own idx q.1 q.2.1 q.2.2.1 host ∈ TB
theorem w_get (hexec : p.tables.exec = Jvm.exec) (hb : c.code = cc) (hts : ∀ w ∈ TB, w.before args s = true) (hown : s.vm.findClass own = some m.cls) (hK : va_K D cl (w_tys aC tyl) s) (hok : g_ok D cl aC A g H) (hc : cl[ci]? = some (C, T, N)) (hin : ∀ w ∈ u_ws C T N, w ∈ TB) (hy : y < N) (hlink : w_fl TB own idx (T y))
    {fs : List Value} {v : Value} (ha : g a = some (.inr (ci, fs))) (hv : fs[y]? = some v) (hdg : decode cc pc = .ok (.getfield idx, 3)) (kk : W p l e R s m args below meth c H locs k n Q (F0 m (pc + 3) ls (v :: rest))) : W p l e R s m args below meth c H locs k n Q (F0 m pc ls (.ref a :: rest)) := by
  obtain ⟨q0, hq⟩ := hok.at ha
  rcases hlink with hlink | ⟨host, hlink⟩
  · exact va_get hexec hb hts hin hown hK hok.pp q0 hq hc y hy (hts _ hlink) (fun _ h => h) hv hdg kk
  · exact va_getN hexec hb hts hin hown hK hok.pp q0 hq hc y hy (hts _ hlink) (fun _ h => h) hv hdg kk
theorem w_put (hexec : p.tables.exec = Jvm.exec) (hb : c.code = cc) (hts : ∀ w ∈ TB, w.before args s = true) (hown : s.vm.findClass own = some m.cls) (hK : va_K D cl (w_tys aC tyl) s) (hok : g_ok D cl aC A g H) (hS : va_S A s.heap H locs) (hc : cl[ci]? = some (C, T, N)) (hin : ∀ w ∈ u_ws C T N, w ∈ TB) (hy : y < N) (hlink : Cond.fieldLink own idx (T y).1 (T y).2.1 (T y).2.2.1 ∈ TB)
    {ty : Nat → FieldType} (hty : ∀ j, j < N → parseFieldDescriptor (T j).2.2.1 = some (ty j)) (hnm : ∀ i, i < N → ∀ j, j < N → i ≠ j → (T i).2.1 ≠ (T j).2.1) (hfin : (T y).2.2.2 = false ∨ (meth.name = "<init>" ∧ (T y).1 = own))
    {fs : List Value} {v : Value} (ha : g a = some (.inr (ci, fs))) (hl : y < fs.length) (hn : narrow (ty y) v = v) (hf : fits (ty y) v = true) (hdg : decode cc pc = .ok (.putfield idx, 3))
    (kk : ∀ (H1 : Heap) (locs1 : List Loc), g_ok D cl aC A (g_up g a (.inr (ci, fs.set y v))) H1 → va_S A s.heap H1 locs1 → W p l e R s m args below meth c H1 locs1 k n Q (F0 m (pc + 3) ls rest)) : W p l e R s m args below meth c H locs k n Q (F0 m pc ls (v :: .ref a :: rest)) := by
  obtain ⟨q0, hq⟩ := hok.at ha
  cases hfin2 : (T y).2.2.2 with
  | false => exact va_put hexec hb hts hin ty hty hnm hown hK hok.pp hok.dd hS q0 hq hc y hy (hts _ hlink) (fun _ h => h) hfin2 (hty y hy) hn hf hl hdg (fun H1 locs1 hP _ hS1 => kk H1 locs1 (hok.set hq hP) hS1)
  | true =>
    rcases hfin with h | ⟨h1, h2⟩
    · rw [hfin2] at h; cases h
    · exact va_putF hexec hb hts hin ty hty hnm hown hK hok.pp hok.dd hS q0 hq hc y hy (hts _ hlink) (fun _ h => h) hfin2 h1 h2 (hty y hy) hn hf hl hdg (fun H1 locs1 hP _ hS1 => kk H1 locs1 (hok.set hq hP) hS1)
theorem w_new (hexec : p.tables.exec = Jvm.exec) (hb : c.code = cc) (hts : ∀ w ∈ TB, w.before args s = true) (hown : s.vm.findClass own = some m.cls) (hK : va_K D cl (w_tys aC tyl) s) (hok : g_ok D cl aC A g H) (hS : va_S A s.heap H locs) (hA : ∀ q, s.heap.size ≤ q → A q) (hc : cl[ci]? = some (C, T, N)) (hin : ∀ w ∈ u_ws C T N, w ∈ TB)
    {ty : Nat → FieldType} (hty : ∀ j, j < N → parseFieldDescriptor (T j).2.2.1 = some (ty j)) (hcl : Cond.classLink own idx C ∈ TB) (hins : Cond.instantiable C N ∈ TB) (hini : Cond.initialized C ∈ TB) {fs : List Value} (hfs : ∀ j, j < N → defaultValue (ty j) = vp_V fs j) (hk : k + 1 ≤ R.cells) (hn : n + N ≤ R.slots) (hdg : decode cc pc = .ok (.new idx, 3))
    (kk : ∀ (q : Nat) (H1 : Heap), g q = none → g_ok D cl aC A (g_up g q (.inr (ci, fs))) H1 → va_S A s.heap H1 locs → W p l e R s m args below meth c H1 locs (k + 1) (n + N) Q (F0 m (pc + 3) ls (.ref q :: rest))) : W p l e R s m args below meth c H locs k n Q (F0 m pc ls rest) :=
  va_new hexec hb hts hin ty hty hown (hts _ hcl) (hts _ hins) (hts _ hini) hK hok.pp hok.dd hS hA hc hfs hk hn hdg (fun q H1 hP hD hS1 => by
    obtain ⟨h1, h2⟩ := hok.push (e := .inr (ci, fs)) hP hD
    exact kk q H1 h1 h2 hS1)
/-- the class of an array of a type: the one that the tables know -/
theorem w_arrC (hK : va_K D cl (w_tys aC tyl) s) {t : Nat} {ty : FieldType} (ht : tyl[t]? = some ty) {cA : ClassId} (hA : va_K D cl (w_tys aC tyl ++ [(cA, ty)]) s) : cA = aC t := by
  have h1 := (hK.2 t _ (w_tys_at ht)).2
  have h2 := (hA.2 (w_tys aC tyl).length (cA, ty) (by simp)).2
  cases ty with
  | object E =>
    obtain ⟨_, _, _, _, _, h3⟩ := h1
    obtain ⟨_, _, _, _, _, h4⟩ := h2
    exact Option.some.inj (h4.symm.trans h3)
  | _ => exact Option.some.inj (Eq.trans (Eq.symm h2) h1)
theorem w_newa (hexec : p.tables.exec = Jvm.exec) (hb : c.code = cc) (hts : ∀ w ∈ TB, w.before args s = true) (hK : va_K D cl (w_tys aC tyl) s) (hok : g_ok D cl aC A g H) (hS : va_S A s.heap H locs) (hA : ∀ q, s.heap.size ≤ q → A q) {atype : ArrayType} {t : Nat} {ty : FieldType} (hty : newarray.typeOf atype = ty) (ht : tyl[t]? = some ty) (harr : Cond.arrayClass ty ∈ TB)
    {x : Int32} {N' : Nat} {a0 : vp_A} (ha : ∀ cA : ClassId, vp_cell cA a0 = arrV cA N' (fun _ => defaultValue ty)) (hx : x = nI N') (hN : N' < 2 ^ 20) (hcb : componentBytes ty ≤ 8) (hk : k + 1 ≤ R.cells) (hn : n + N' ≤ R.slots) (hdg : decode cc pc = .ok (.newarray atype, 2))
    (kk : ∀ (q : Nat) (H1 : Heap), g q = none → g_ok D cl aC A (g_up g q (.inl (t, a0))) H1 → va_S A s.heap H1 locs → W p l e R s m args below meth c H1 locs (k + 1) (n + N') Q (F0 m (pc + 2) ls (.ref q :: rest))) : W p l e R s m args below meth c H locs k n Q (F0 m pc ls (.int x :: rest)) := by
  subst hx
  have hb31 : N' < 2 ^ 31 := by omega
  refine va_newa hexec hb (by rw [hty]; exact hts _ harr) hty hK hok.pp hok.dd hS hA ha (nI_pos hb31) (nI_clamp hb31) (by
    have : N' * componentBytes ty ≤ 2 ^ 20 * 8 := Nat.mul_le_mul (by omega) hcb
    omega) hk hn hdg (fun q cA H1 hK1 hP hD hS1 => ?_)
  obtain rfl := w_arrC hK ht hK1
  obtain ⟨h1, h2⟩ := hok.push (e := .inl (t, a0)) hP hD
  exact kk q H1 h1 h2 hS1
theorem w_newq (hexec : p.tables.exec = Jvm.exec) (hb : c.code = cc) (hts : ∀ w ∈ TB, w.before args s = true) (hown : s.vm.findClass own = some m.cls) (hK : va_K D cl (w_tys aC tyl) s) (hok : g_ok D cl aC A g H) (hS : va_S A s.heap H locs) (hA : ∀ q, s.heap.size ≤ q → A q) {t : Nat} {E : String} (ht : tyl[t]? = some (.object E)) (hcl : Cond.classLink own idx E ∈ TB) (hov : Cond.arrayOver (.object E) ∈ TB)
    {x : Int32} {N' : Nat} (hx : x = nI N') (hN : N' < 2 ^ 20) (hk : k + 1 ≤ R.cells) (hn : n + N' ≤ R.slots) (hdg : decode cc pc = .ok (.anewarray idx, 3))
    (kk : ∀ (q : Nat) (H1 : Heap), g q = none → g_ok D cl aC A (g_up g q (.inl (t, N', .inr (.inr (.inr (.inr (fun _ => none))))))) H1 → va_S A s.heap H1 locs → W p l e R s m args below meth c H1 locs (k + 1) (n + N') Q (F0 m (pc + 3) ls (.ref q :: rest))) : W p l e R s m args below meth c H locs k n Q (F0 m pc ls (.int x :: rest)) := by
  subst hx
  have hb31 : N' < 2 ^ 31 := by omega
  refine va_newq hexec hb hown (hts _ hcl) (va_AO.of (hts _ hov)) hK hok.pp hok.dd hS hA (nI_pos hb31) (nI_clamp hb31) (by omega) hk hn hdg (fun q cA H1 hK1 hP hD hS1 => ?_)
  obtain rfl := w_arrC hK ht hK1
  obtain ⟨h1, h2⟩ := hok.push (e := .inl (t, N', .inr (.inr (.inr (.inr (fun _ => none)))))) hP hD
  exact kk q H1 h1 h2 hS1
end WROWS
