/-! MANY STEPS, up to cuts; a method's contract out of its walk -/
section WRUN
def w_find (tab : List w_R) (pc : Nat) : Option w_R := match tab with
  | [] => none
  | r :: t => match Nat.beq r.1 pc with
    | true => some r
    | false => w_find t pc
theorem w_find_mem : ∀ {tab : List w_R} {pc : Nat} {r : w_R}, w_find tab pc = some r → r ∈ tab ∧ r.1 = pc
  | [], _, _, h => by cases h
  | q :: t, pc, r, h => by
    unfold w_find at h
    split at h
    · rename_i hq
      cases h
      exact ⟨List.mem_cons_self, Nat.eq_of_beq_eq_true hq⟩
    · obtain ⟨h1, h2⟩ := w_find_mem h
      exact ⟨List.mem_cons_of_mem _ h1, h2⟩
def w_cut (cuts : List Nat) (pc : Nat) : Bool := match cuts with
  | [] => false
  | q :: t => match Nat.beq q pc with
    | true => true
    | false => w_cut t pc
def w_p (CT : w_CT) (np : Nat → Nat) (fty : Nat → Nat → FieldType) (dfl : Nat → List Value) (tyl : List FieldType) (ex : Nat → w_X) (hs : List w_Hd) (scr : Option (Nat × Nat × (Nat → Int32))) (ret : Option FieldType) (MC MS : Nat) (P : x_O → g_H → Prop) (tab : List w_R) (cuts : List Nat) (KP : w_K) : Nat → w_K
  | 0 => fun _ _ _ _ _ _ => False
  | f + 1 => fun pc lv st g k n => match w_find tab pc with
    | none => False
    | some r => w_1 CT np fty dfl tyl ex hs scr ret MC MS P (fun pc lv st g k n => match w_cut cuts pc with
      | true => KP pc lv st g k n
      | false => w_p CT np fty dfl tyl ex hs scr ret MC MS P tab cuts KP f pc lv st g k n) r lv st g k n
variable {l : Launch} {RW : List Cond} {D : va_G} {cl : List vw_C} {aC : Nat → ClassId} {tyl : List FieldType} {fty : Nat → Nat → FieldType} {dfl : Nat → List Value} {ex : Nat → w_X} {xcs : List (Nat × String)} {g0 g : g_H} {cc : ByteArray} {own : String} {nL fr lo MC MS : Nat} {ret : Option FieldType} {hs : List w_Hd} {init : Bool} {scr : Option (Nat × Nat × (Nat → Int32))} {P : x_O → g_H → Prop} {mt : Nat → w_M}
/-- from here the walk comes to its end, in every machine that the method runs in -/
def w_T (l : Launch) (RW : List Cond) (D : va_G) (cl : List vw_C) (aC : Nat → ClassId) (tyl : List FieldType) (own : String) (cc : ByteArray) (nL fr lo : Nat) (ret : Option FieldType) (hs : List w_Hd) (init : Bool) (scr : Option (Nat × Nat × (Nat → Int32))) (MC MS : Nat) (g0 : g_H) (P : x_O → g_H → Prop) (pc : Nat) (lv : w_L) (st : List Value) (g : g_H) (k n : Nat) : Prop :=
  ∀ (p : Program) (e : Env) (s : State) (m : MethodId) (args : Array Value) (below : List Frame) (meth : Method) (c : Code), w_cx RW cl tyl own cc nL ret hs init scr p e s m args meth c D aC (x_A g0 s.heap.size) →
    w_V p l e { frames := fr, cells := MC, slots := MS, locals := lo } s m args below meth c D cl aC (x_A g0 s.heap.size) nL (x_Q D cl aC below s g0 P MC MS) pc lv st g k n
theorem w_run (hce : w_ce RW cl fty dfl) (hwe : w_we RW xcs) (hme : ∀ y, w_mokb RW (mt y) = true) (hh : w_he RW own hs) {tab : List w_R} (htab : tab.all (w_okb RW cl tyl mt ex xcs own cc nL fr lo init) = true) (cuts : List Nat) (KP : w_K)
    (hK : ∀ pc lv st g k n, KP pc lv st g k n → w_T l RW D cl aC tyl own cc nL fr lo ret hs init scr MC MS g0 P pc lv st g k n) :
    ∀ (f : Nat) (pc : Nat) (lv : w_L) (st : List Value) (g : g_H) (k n : Nat), w_p (w_CTm l RW D cl aC tyl mt) (fun y => (mt y).2.2.2.2.2.1) fty dfl tyl ex hs scr ret MC MS P tab cuts KP f pc lv st g k n → w_T l RW D cl aC tyl own cc nL fr lo ret hs init scr MC MS g0 P pc lv st g k n := by
  intro f
  induction f with
  | zero => intro pc lv st g k n h; exact h.elim
  | succ f ih =>
    intro pc lv st g k n h p e s m args below meth c hX
    unfold w_p at h
    split at h
    · exact h.elim
    · rename_i r hr
      obtain ⟨h1, rfl⟩ := w_find_mem hr
      refine w_1_go hce hwe hme hX hh (List.all_eq_true.mp htab r h1) h (fun pc lv st g k n h2 => ?_)
      split at h2
      · exact hK pc lv st g k n h2 p e s m args below meth c hX
      · exact ih pc lv st g k n h2 p e s m args below meth c hX
/-- A METHOD's CONTRACT -/
theorem w_meth (hfl : l.flags = pinnedFlags ++ [noTraceFlag]) (y : Nat) (hM : w_mokb RW (mt y) = true) (hown : (mt y).1.cls = own) (hcc : (mt y).2.1 = cc) (hnL : (mt y).2.2.1 = nL) (hret : (mt y).2.2.2.1 = ret) (hhs : (mt y).2.2.2.2.1 = hs.map (fun h => (h.1, h.2.1, h.2.2.1, h.2.2.2.1))) (hfr : (mt y).2.2.2.2.2.2.1 = fr) (hlo : (mt y).2.2.2.2.2.2.2.1 = lo) (hinit : init = true → (mt y).1.name = "<init>")
    {a : List Value} (ha : (lg_sl a).length ≤ nL) (h : w_T l RW D cl aC tyl own cc nL fr lo ret hs init none MC MS g P 0 (lv_args 0 a) [] g 0 0) : w_CTm l RW D cl aC tyl mt y MC MS a g P := by
  subst hown hcc hnL hret hfr hlo
  intro p e s m below meth c maxL hexec hts hn hm hc hml hK hSt hok
  obtain ⟨m1, -⟩ := w_mok_cd hM
  obtain ⟨mk, methM, cM, c1, c2, c3, c4, c5, c6, c7, c8, c9⟩ := x_cd_spec m1 hts
  cases hn.symm.trans c1
  cases hm.symm.trans c2
  cases hc.symm.trans c3
  rw [hhs] at c6
  rw [← hml, c5]
  intro T hT X
  have htr : e.platform.stackTraces = false := Launch.traces_off hfl X.admits
  have hl := lv_entry a (n := (mt y).2.2.1) ha
  have hgo := h p e s m a.toArray below meth c ⟨hexec, c4, c5, findClass_of_methodNamed hn, hts, hK, hSt, fun q hq => Or.inr hq, fun q cell hA hcell => x_A_st hok hA hcell, c8, c7, htr, c6, fun hi => by rw [(name_of_methodNamed hn hm).1]; exact hinit hi, fun a L xs h => by cases h⟩
    s.heap [] _ hl (fun q f hq => ⟨(hok q f hq).1, Or.inl (by rw [hq]; simp)⟩) va_S.rf
  rw [lg_entry_eq]
  exact hgo T hT X
end WRUN
