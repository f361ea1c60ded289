/-! THE CLAIM OUT OF THE LAW'S WALK -/
section LEND
theorem k_world {s : State} {A : Array Value} (hts : ∀ w ∈ w_TB k_RW, w.before A s = true) : ∃ (D : va_G) (aC : Nat → ClassId), va_K D k_cl (w_tys aC k_tyl) s := by
  have h : ∀ ci : Nat, ∃ (cC : ClassId) (iS : Nat → Nat), ∀ q : vw_C, k_cl[ci]? = some q → u_Kn s q.1 q.2.1 q.2.2 cC iS := by
    intro ci
    cases hq : k_cl[ci]? with
    | none => exact ⟨0, fun _ => 0, fun q h => by cases h⟩
    | some q =>
      obtain ⟨C, T, N⟩ := q
      obtain ⟨a, -, -, b, -⟩ := k_ce ci C T N hq
      obtain ⟨cC, iS, hk⟩ := u_known hts a (hts _ b)
      exact ⟨cC, iS, fun q h => by cases h; exact hk⟩
  have h2 : ∀ t : Nat, ∃ cA : ClassId, ∀ ty, k_tyl[t]? = some ty → ArrOfT s cA ty ∧ va_RA s cA ty := by
    intro t
    match t with
    | 0 =>
      obtain ⟨cA, kA, comp, f1, f2, f3⟩ := Cond.arrayClass_spec (hts (.arrayClass .byte) (k_inb_ok (by decide +kernel)))
      exact ⟨cA, fun ty h => by cases h; exact ⟨fun n z => ⟨fun k h => (by cases h), kA, f2, comp, f3⟩, f1⟩⟩
    | 1 =>
      obtain ⟨cA, kA, comp, f1, f2, f3⟩ := Cond.arrayClass_spec (hts (.arrayClass .int) (k_inb_ok (by decide +kernel)))
      exact ⟨cA, fun ty h => by cases h; exact ⟨fun n z => ⟨fun k h => (by cases h), kA, f2, comp, f3⟩, f1⟩⟩
    | 2 =>
      obtain ⟨cA, kA, comp, f1, f2, f3⟩ := Cond.arrayClass_spec (hts (.arrayClass .long) (k_inb_ok (by decide +kernel)))
      exact ⟨cA, fun ty h => by cases h; exact ⟨fun n z => ⟨fun k h => (by cases h), kA, f2, comp, f3⟩, f1⟩⟩
    | 3 =>
      obtain ⟨comp, c, k, h1, h2, h3, h4, h5⟩ := Cond.arrayOver_spec (hts (.arrayOver (.object "MirrorKeep$Entry")) (k_inb_ok (by decide +kernel)))
      exact ⟨c, fun ty h => by cases h; exact ⟨fun n z => ⟨fun k h => (by cases h), k, h3, comp, h4⟩, ⟨k, comp, h3, h4, h1, h5⟩⟩⟩
    | 4 =>
      obtain ⟨comp, c, k, h1, h2, h3, h4, h5⟩ := Cond.arrayOver_spec (hts (.arrayOver (.object "MirrorKeep$Session")) (k_inb_ok (by decide +kernel)))
      exact ⟨c, fun ty h => by cases h; exact ⟨fun n z => ⟨fun k h => (by cases h), k, h3, comp, h4⟩, ⟨k, comp, h3, h4, h1, h5⟩⟩⟩
    | t + 5 => exact ⟨0, fun ty h => by simp [k_tyl] at h⟩
  obtain ⟨aC, haC⟩ : ∃ aC : Nat → ClassId, ∀ t ty, k_tyl[t]? = some ty → ArrOfT s (aC t) ty ∧ va_RA s (aC t) ty := ⟨fun t => (h2 t).choose, fun t => (h2 t).choose_spec⟩
  refine ⟨(fun k => (h k).choose, fun k => (h k).choose_spec.choose), aC, fun c q hq => (h c).choose_spec.choose_spec q hq, fun k q hk => ?_⟩
  rw [w_tys, List.getElem?_mapIdx] at hk
  cases ht : k_tyl[k]? with
  | none => rw [ht] at hk; cases hk
  | some ty =>
    rw [ht] at hk
    cases hk
    exact haC k ty ht
theorem same_forget {s t : State} {L : List Loc} {k n : Nat} (h : s.sameButNew t L k n) (hL : ∀ q ∈ L, s.heap.size ≤ q.base) : s.sameButNew t [] k n := by
  obtain ⟨a, b, c, d, e, f⟩ := h
  refine ⟨a, b, c, d, e, fun x y hy => ?_⟩
  obtain ⟨c1, g1, g2, g3, g4⟩ := f x y hy
  refine ⟨c1, g1, g2, g3, fun i _ => g4 i (fun z => ?_)⟩
  have h1 := hL _ z
  have h2 := (Array.getElem?_eq_some_iff.mp hy).1
  exact absurd h2 (Nat.not_lt.mpr h1)
end LEND
def R_law : String := "MirrorKeepLaw"
def lw_P (b : Addr) (xs : List Int32) (args : Array Value) (s : State) : Prop := args = #[.ref b] ∧ s.IntsAt b xs ∧ xs.length ≤ 3072 ∧ (Jvm.Cond.and given_1 narrow_1).before args s = true
def lw_Q (_ : Array Value) (s : State) (o : Outcome) (t : State) : Prop := o = .returned (some (.int 1)) ∧ Framed s o t [] 601024 7293033
def lw_Z (below : List Frame) (a : Array Value) (s : State) : State → Prop := fun t => ∃ o, t.status = .running ∧ Ended t below o ∧ lw_Q a s o t
def lw_At (p : Program) (s : State) (m : MethodId) (meth : Method) (c : Code) (b L : Nat) (xs : Nat → Int32) : Prop :=
  p.tables.exec = Jvm.exec ∧ c.code = code ∧ meth.sig.returnType = ret ∧ c.maxLocals = 7 ∧ s.vm.findClass R_law = some m.cls ∧ (∀ w ∈ lw_tbl, w.before #[Value.ref b] s = true) ∧ va_X b L xs s s.heap ∧ b < s.heap.size ∧ meth.locks = false ∧ (Jvm.Cond.and given_1 narrow_1).before #[Value.ref b] s = true ∧ c.exceptionTable.toList = []
theorem whole_start {p : Program} {e : Env} {s : State} {m : MethodId} {below : List Frame} {meth : Method} {c : Code} {l : Launch} (hfl : l.flags = pinnedFlags ++ [noTraceFlag]) {b L : Nat} {xs : Nat → Int32} (hL : L ≤ 3072) (C0 : lw_At p s m meth c b L xs) : W p l e room_1 s m #[Value.ref b] below meth c s.heap [] 0 0 (lw_Z below #[Value.ref b] s) (entryFrame m ([Value.ref b] : List Value).toArray 7) := by
  obtain ⟨hx, hb, hr, hml, hown, hts, hX, hbl, hlocks, hgv, hxt⟩ := C0
  have htb : ∀ w ∈ w_TB k_RW, w.before #[Value.ref b] s = true := fun w hw => by
    rcases List.mem_append.mp (List.mem_filter.mp hw).1 with h | h
    · exact hts w h
    · simp only [List.mem_cons, List.not_mem_nil, or_false] at h
      rcases h with rfl | rfl
      · exact flat_of_before _ hgv _ (by decide +kernel)
      · exact flat_of_before _ hgv _ (by decide +kernel)
  obtain ⟨D, aC, hK⟩ := k_world htb
  have hSt : x_St s := fun w hw => by
    simp only [x_hw, List.mem_cons, List.not_mem_nil, or_false] at hw
    rcases hw with rfl | rfl | rfl | rfl
    · exact x_laysStatic (Vm.Alike.refl _) (fun q cell h _ => h) (hts _ (by decide +kernel))
    · exact x_laysStatic (Vm.Alike.refl _) (fun q cell h _ => h) (hts _ (by decide +kernel))
    · exact (flat_of_before _ hgv (.isRef (.static x_tN "UNASSIGNED_STACK" "[Ljava/lang/StackTraceElement;")) (by decide +kernel) :)
    · exact (flat_of_before _ hgv (.isRef (.static x_tN "SUPPRESSED_SENTINEL" "Ljava/util/List;")) (by decide +kernel) :)
  intro T hT X
  have htr : e.platform.stackTraces = false := Launch.traces_off hfl X.admits
  have hl := lv_entry ([.ref b] : List Value) (n := 7) (Nat.le_of_ble_eq_true rfl)
  have hA1 : ∀ (q : Nat) (cell : Cell), x_A (fun _ => none) s.heap.size q → s.heap[q]? = some cell → cell.vm.isStatics = false := by
    intro q cell hA hcell
    rcases hA with h | h
    · exact absurd rfl h
    · exact absurd (Array.getElem?_eq_some_iff.mp hcell).1 (Nat.not_lt.mpr h)
  have hA2 : ∀ (a L1 : Nat) (xs1 : Nat → Int32), some (b, L, xs) = some (a, L1, xs1) → va_X a L1 xs1 s s.heap ∧ a < s.heap.size ∧ ¬ x_A (fun _ => none) s.heap.size a := by
    intro a L1 xs1 h
    cases h
    refine ⟨hX, hbl, fun z => ?_⟩
    rcases z with h | h
    · exact absurd rfl h
    · exact absurd hbl (Nat.not_lt.mpr h)
  have hgo := l_all (l := l) (D := D) (aC := aC) hfl (sa := b) (L := L) (xs := xs) (MC := 601024) (MS := 7293033) (by omega) (by omega) (by omega) p e s m #[Value.ref b] below meth c ⟨hx, hb, hml, hown, htb, hK, hSt, fun q hq => Or.inr hq, hA1, hlocks, hr, htr, by rw [hxt]; rfl, fun h => (by cases h), hA2⟩ s.heap [] _ hl (fun q f hq => by cases hq) va_S.rf
  rw [lg_entry_eq]
  refine x_mono ?_ hgo T hT X
  rintro t ⟨o, oc, g1, Lc, a1, a2, a3, a4, a5, a6, a7, a8, a9⟩
  subst a4
  have a3 : o = .returned (some (.int 1)) := a3
  refine ⟨o, a1, a2, a3, ⟨_, a3⟩, a7, same_forget a8 (fun q hq => ?_)⟩
  rcases a9 q hq with h | h
  · exact absurd rfl h
  · exact h
set_option maxHeartbeats 4000000 in
theorem lw_walk {l : Launch} (hfl : l.flags = pinnedFlags ++ [noTraceFlag]) (b : Addr) (xs : List Int32) : MetFree l x (headSpec (Jvm.Cond.code x code maxLocals ret :: tables_1) room_1) (lw_P b xs) (fun _ _ _ _ _ => True) lw_Q := by
  refine MetFree.of_bodyS (code := code) (maxLocals := maxLocals) (ret := ret) (by decide) ?_ ?_
  · intro args s m h hn
    obtain ⟨meth, c, h1, h2, h3, h4, h5, h6, -, -⟩ := Cond.code_spec hn (atoms_spec (ws := Jvm.Cond.code x code maxLocals ret :: tables_1) h _ List.mem_cons_self)
    exact ⟨meth, c, h1, h2, h3, h4, h5, h6⟩
  · intro p e s m args below meth c s₁ B hml0 hP _
    obtain ⟨rfl, hx, hbd, hgv⟩ := hP
    obtain ⟨scr, harrAt, hlist, hof, hsmall⟩ := hx
    obtain ⟨hcb, hkn, -, -⟩ := State.arrayAt?_spec harrAt
    have hown : s.vm.findClass R_law = some m.cls := findClass_of_methodNamed B.named
    have hts0 : ∀ c ∈ (Jvm.Cond.code x code maxLocals ret :: tables_1), c.before #[Value.ref b] s = true := atoms_spec (ws := Jvm.Cond.code x code maxLocals ret :: tables_1) B.pre
    have hts : ∀ w ∈ lw_tbl, w.before #[Value.ref b] s = true := k2_hts_sels lw_privs (fun w hw => hts0 w (List.mem_cons_of_mem _ hw)) lw_privs_ok
    have hml : c.maxLocals = 7 := B.maxLocals_eq (hts0 _ List.mem_cons_self)
    have hxt : c.exceptionTable.toList = [] := by
      have h := B.noHandlers (hts0 _ List.mem_cons_self)
      simpa using h
    have X₀ : Stand p l e room_1 s m #[Value.ref b] below meth c s₁ [] 0 0 := Stand.of_body B
    have hh0 : s₁.heap = s.heap := by rw [B.state]; rfl
    have hsz : scr.slots.size = xs.length := by rw [← Array.length_toList, hlist, List.length_map]
    have hval : ∀ j : Nat, j < xs.length → scr.slots[j]? = some (.int (xs.getD j 0)) := fun j hj => by
      rw [← Array.getElem?_toList, hlist]
      simp [hj]
    have hbl : b < s.heap.size := (Array.getElem?_eq_some_iff.mp hcb).1
    have hX : va_X b xs.length (fun j => xs.getD j 0) s s.heap := ⟨scr, hcb, hof, hkn, hsz, hval⟩
    have K : W p l e room_1 s m #[Value.ref b] below meth c s₁.heap [] 0 0 (lw_Z below #[Value.ref b] s) (entryFrame m ([Value.ref b] : List Value).toArray 7) := by
      rw [hh0]
      exact whole_start hfl hbd ⟨B.exec, B.bytes, B.returns, hml, hown, hts, hX, hbl, B.notSynchronized, hgv, hxt⟩
    obtain ⟨t, a1, o, b1, b2, b3⟩ := K s₁ rfl X₀
    exact ⟨t, o, a1, b1, b2, b3⟩
theorem lw_pre_spec {args : Array Value} {s : State} (h : (Jvm.Cond.and given_1 narrow_1).before args s = true) (hr : rest_1_c.before args s = true) : ∃ (b : Addr) (xs : List Int32), lw_P b xs args s := by
  have hs := flat_of_before _ h
  have hq := flat_of_before _ hr
  have hc : (Cond.count 1).before args s = true := hs _ (by decide +kernel)
  have harr : (Cond.arrayOf (.arg 0) .int).before args s = true := hs _ (by decide +kernel)
  have hle : (Cond.le (.length (.arg 0)) (.int 3072)).before args s = true := hs _ (by decide +kernel)
  have hlen : (Cond.isInt (.length (.arg 0))).before args s = true := hq _ (by decide +kernel)
  have hall : (Cond.all (.arg 0) (.isInt (.elem (.arg 0) (.index 0)))).before args s = true := hq _ (by decide +kernel)
  obtain ⟨b, xs, hb, hx⟩ := State.ints_of_pre rfl harr hlen hall
  have hsm : xs.length < 2 ^ 31 := hx.choose_spec.2.2.2
  have hev : (Term.length (.arg 0)).eval args s none [] s = some (.int xs.length.toInt32) := hx.length_eval hb
  have hv := Cond.le_ints hev (show (Term.int 3072).eval args s none [] s = some (.int 3072) from rfl)
  have hd : xs.length.toInt32 ≤ 3072 := by
    simpa [Cond.before, Cond.holds, hv] using hle
  have hN : xs.length ≤ 3072 := (Int32.ofNat_le_ofNat hsm (by decide)).mp (show Int32.ofNat xs.length ≤ Int32.ofNat 3072 from hd)
  exact ⟨b, xs, Cond.one_arg hc (show args[0]? = some (.ref b) from hb), hx, hN, h⟩
theorem lw_comes {l : Launch} (hfl : l.flags = pinnedFlags ++ [noTraceFlag]) : Comes l x (Jvm.Cond.code x code maxLocals ret :: tables_1) room_1 (fun tb e args s => Calls_1 tb e args s ∧ rest_1 tb e args s ∧ Pre_1 tb e args s)
    (fun _ _ args s o t => lw_Q args s o t) := by
  intro p e ha hc hk s m args below hf hfit hheap happ hpre
  obtain ⟨b, xs, hP⟩ := lw_pre_spec hpre.2.2 hpre.2.1
  obtain ⟨k, o, h1, h2, h3, hQ⟩ := lw_walk hfl b xs p e ha hc hk s m args below hf ((Spec.applies_iff_loose hf).mp happ).1 hP trivial
  exact ⟨k, o, h1, h2, h3, hQ⟩
theorem lw_frame {s t : State} {o : Outcome} {args : Array Value} (h : Framed s o t [] 601024 7293033) :
    Framed s o t (fieldLocs frame_1_writes args s ++ arrayLocs frame_1_arrays args s ++ staticLocs frame_1_statics s) 601024 7293033 := h
theorem lw_limb (L : Cond) (hL : ∀ (args : Array Value) (s t : State), L.after args s (.returned (some (.int 1))) t = true) :
    ArmFor flags0 classFile x code maxLocals ret World_1 tables_1 room_1 Calls_1 rest_1 Pre_1
      (fun tb e a s o t => postC L tb e a s o t ∧ Framed s o t (fieldLocs frame_1_writes a s ++ arrayLocs frame_1_arrays a s ++ staticLocs frame_1_statics s) 601024 7293033) := by
  intro l hfl _ _ p e ha hc hk s m args below hf hfit hheap happ hpre
  obtain ⟨k, o, h1, h2, h3, rfl, hF⟩ := lw_comes hfl p e ha hc hk s m args below hf hfit hheap happ hpre
  exact ⟨k, _, h1, h2, h3, hL args s _, lw_frame hF⟩
theorem i_vc : Claimed_1_1 ∧ Claimed_1_2 := ⟨lw_limb limb_1_1 (fun args s t => by simp [limb_1_1, Cond.after, Cond.holds, Cond.value]), lw_limb limb_1_2 (fun args s t => Cond.after_iff.mpr (by
  first | (rw [show limb_1_2 = Cond.eq .result (.int 1) from rfl, Cond.eq_ints (x := 1) (y := 1) rfl rfl]; simp; done) | (simp [limb_1_2, Cond.value, Term.eval]; done)))⟩
