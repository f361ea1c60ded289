/-! a method with loops, its heads' invariants given; what stays of a ghost heap -/
section KWHILE
theorem dl1 : (k_dfl 1).length = 3 := rfl
theorem dl2 : (k_dfl 2).length = 2 := rfl
theorem dl3 : (k_dfl 3).length = 5 := rfl
theorem dl4 : (k_dfl 4).length = 3 := rfl
theorem dl5 : (k_dfl 5).length = 2 := rfl
theorem dl6 : (k_dfl 6).length = 3 := rfl
/-- the list's spine first -/
def w_fs {α : Type} : List α → (List α → Prop) → Prop
  | [], K => K []
  | q :: r, K => w_fs r (fun s => K (q :: s))
theorem w_fs_iff {α : Type} : ∀ {L : List α} {K : List α → Prop}, w_fs L K ↔ K L
  | [], _ => Iff.rfl
  | q :: r, K => by unfold w_fs; exact w_fs_iff (L := r) (K := fun s => K (q :: s))
def w_q (CT : w_CT) (np : Nat → Nat) (fty : Nat → Nat → FieldType) (dfl : Nat → List Value) (tyl : List FieldType) (ex : Nat → w_X) (hs : List w_Hd) (scr : Option (Nat × Nat × (Nat → Int32))) (ret : Option FieldType) (MC MS : Nat) (P : x_O → g_H → Prop) (tab : List w_R) (cuts : List Nat) (KP : w_K) : Nat → w_K
  | 0 => fun _ _ _ _ _ _ => False
  | f + 1 => fun pc lv st g k n => match w_find tab pc with
    | none => False
    | some r => w_1 CT np fty dfl tyl ex hs scr ret MC MS P (fun pc lv st g k n => w_fs lv (fun lv => w_fs st (fun st => match w_cut cuts pc with
      | true => KP pc lv st g k n
      | false => w_q CT np fty dfl tyl ex hs scr ret MC MS P tab cuts KP f pc lv st g k n))) r lv st g k n
variable {l : Launch} {D : va_G} {aC : Nat → ClassId}
abbrev k_q (l : Launch) (D : va_G) (aC : Nat → ClassId) (hs : List w_Hd) (scr : Option (Nat × Nat × (Nat → Int32))) (ret : Option FieldType) (MC MS : Nat) (P : x_O → g_H → Prop) (tab : List w_R) (cuts : List Nat) (KP : w_K) : Nat → w_K :=
  w_q (k_CT l D aC) (fun y => (k_mt y).2.2.2.2.2.1) k_fty k_dfl k_tyl k_ex hs scr ret MC MS P tab cuts KP
theorem k_qrun {own : String} {cc : ByteArray} {nL fr lo : Nat} {init : Bool} {hs : List w_Hd} {scr : Option (Nat × Nat × (Nat → Int32))} (hh : w_he k_RW own hs) {tab : List w_R} (htab : tab.all (w_okb k_RW k_cl k_tyl k_mt k_ex k_xcs own cc nL fr lo init) = true) {ret : Option FieldType} {MC MS : Nat} {g0 : g_H} {P : x_O → g_H → Prop} (cuts : List Nat) (KP : w_K)
    (hK : ∀ pc lv st g k n, KP pc lv st g k n → k_T l D aC own cc nL fr lo ret hs init scr MC MS g0 P pc lv st g k n) : ∀ (f : Nat) {pc : Nat} {lv : w_L} {st : List Value} {g : g_H} {k n : Nat}, k_q l D aC hs scr ret MC MS P tab cuts KP f pc lv st g k n →
    k_T l D aC own cc nL fr lo ret hs init scr MC MS g0 P pc lv st g k n := by
  intro f
  induction f with
  | zero => intro pc lv st g k n h; exact h.elim
  | succ f ih =>
    intro pc lv st g k n h p e s m args below meth c hX
    unfold k_q w_q at h
    split at h
    · exact h.elim
    · rename_i r hr
      obtain ⟨h1, rfl⟩ := w_find_mem hr
      refine w_1_go k_ce k_we k_me hX hh (List.all_eq_true.mp htab r h1) h (fun pc lv st g k n h2 => ?_)
      have h2 := w_fs_iff.mp (w_fs_iff.mp h2)
      split at h2
      · exact hK pc lv st g k n h2 p e s m args below meth c hX
      · exact ih h2 p e s m args below meth c hX
/-- a method without loops -/
theorem k_ln (hfl : l.flags = pinnedFlags ++ [noTraceFlag]) (y : Nat) {own : String} {cc : ByteArray} {nL fr lo : Nat} {init : Bool} {tab : List w_R} (htab : tab.all (w_okb k_RW k_cl k_tyl k_mt k_ex k_xcs own cc nL fr lo init) = true) (e1 : (k_mt y).1.cls = own) (e2 : (k_mt y).2.1 = cc) (e3 : (k_mt y).2.2.1 = nL) (e4 : (k_mt y).2.2.2.2.1 = []) (e5 : (k_mt y).2.2.2.2.2.2.1 = fr) (e6 : (k_mt y).2.2.2.2.2.2.2.1 = lo) (e7 : init = true → (k_mt y).1.name = "<init>")
    {MC MS : Nat} {P : x_O → g_H → Prop} {a : List Value} {g : g_H} (ha : (lg_sl a).length ≤ nL) (f : Nat)
    (h : k_q l D aC [] none (k_mt y).2.2.2.1 MC MS P tab [] k_none f 0 (lv_args 0 a) [] g 0 0) : k_CT l D aC y MC MS a g P :=
  w_meth (hs := []) hfl y (k_me y) e1 e2 e3 rfl e4 e5 e6 e7 ha (k_qrun (fun _ hh => by cases hh) htab [] k_none (fun _ _ _ _ _ _ h => h.elim) f h)
theorem k_wh {own : String} {cc : ByteArray} {nL fr lo : Nat} {init : Bool} {hs : List w_Hd} {scr : Option (Nat × Nat × (Nat → Int32))} (hh : w_he k_RW own hs) {tab : List w_R} (htab : tab.all (w_okb k_RW k_cl k_tyl k_mt k_ex k_xcs own cc nL fr lo init) = true) {ret : Option FieldType} {MC MS : Nat} {g0 : g_H} {P : x_O → g_H → Prop} (cuts : List Nat)
    (I : Nat → Nat → w_L → g_H → Nat → Nat → Prop) (f : Nat) (step : ∀ d pc lv g k n, I pc d lv g k n → k_q l D aC hs scr ret MC MS P tab cuts (fun pc lv st g k n => st = [] ∧ ∃ d' lv1, d' < d ∧ I pc d' lv1 g k n ∧ w_sub lv lv1) f pc lv [] g k n) :
    ∀ d pc lv g k n, I pc d lv g k n → k_T l D aC own cc nL fr lo ret hs init scr MC MS g0 P pc lv [] g k n := by
  intro d
  induction d using Nat.strongRecOn with
  | _ d ih =>
    intro pc lv g k n h
    refine k_qrun hh htab cuts _ ?_ f (step d pc lv g k n h)
    rintro pc lv st g k n ⟨rfl, d', lv1, hd, hI, hs⟩
    exact k_sub hs (ih d' hd pc lv1 g k n hI)
theorem k_while (hfl : l.flags = pinnedFlags ++ [noTraceFlag]) (y : Nat) {own : String} {cc : ByteArray} {nL fr lo : Nat} {init : Bool} {tab : List w_R} (htab : tab.all (w_okb k_RW k_cl k_tyl k_mt k_ex k_xcs own cc nL fr lo init) = true) (e1 : (k_mt y).1.cls = own) (e2 : (k_mt y).2.1 = cc) (e3 : (k_mt y).2.2.1 = nL) (e4 : (k_mt y).2.2.2.2.1 = []) (e5 : (k_mt y).2.2.2.2.2.2.1 = fr) (e6 : (k_mt y).2.2.2.2.2.2.2.1 = lo) (e7 : init = true → (k_mt y).1.name = "<init>")
    {MC MS : Nat} {P : x_O → g_H → Prop} {a : List Value} {g : g_H} (ha : (lg_sl a).length ≤ nL) (cuts : List Nat) (I : Nat → Nat → w_L → g_H → Nat → Nat → Prop) (f0 : Nat)
    (h : k_q l D aC [] none (k_mt y).2.2.2.1 MC MS P tab cuts (fun pc lv st g k n => st = [] ∧ ∃ d lv1, I pc d lv1 g k n ∧ w_sub lv lv1) f0 0 (lv_args 0 a) [] g 0 0)
    (f : Nat) (step : ∀ d pc lv g k n, I pc d lv g k n → k_q l D aC [] none (k_mt y).2.2.2.1 MC MS P tab cuts (fun pc lv st g k n => st = [] ∧ ∃ d' lv1, d' < d ∧ I pc d' lv1 g k n ∧ w_sub lv lv1) f pc lv [] g k n) : k_CT l D aC y MC MS a g P := by
  refine w_meth (hs := []) hfl y (k_me y) e1 e2 e3 rfl e4 e5 e6 e7 ha (k_qrun (fun _ hh => by cases hh) htab cuts _ ?_ f0 h)
  rintro pc lv st g1 k n ⟨rfl, d, lv1, hI, hs⟩
  exact k_sub hs (k_wh (fun _ hh => by cases hh) htab cuts I f step d pc lv1 g1 k n hI)
end KWHILE
section FX
/-- what is there stays there; only the listed cells may change -/
def fx (S : List Nat) (g g1 : g_H) : Prop := ∀ q, g q ≠ none → g1 q ≠ none ∧ (q ∉ S → g1 q = g q)
theorem fx_rf {S : List Nat} {g : g_H} : fx S g g := fun _ h => ⟨h, fun _ => rfl⟩
theorem fx_tr {S : List Nat} {g g1 g2 : g_H} (h : fx S g g1) (h1 : fx S g1 g2) : fx S g g2 := fun q hn => by
  have h2 := h q hn
  have h3 := h1 q h2.1
  exact ⟨h3.1, fun z => (h3.2 z).trans (h2.2 z)⟩
theorem fx_sub {S S1 : List Nat} {g g1 : g_H} (h : fx S g g1) (hs : ∀ q ∈ S, q ∈ S1) : fx S1 g g1 := fun q hn => ⟨(h q hn).1, fun hq => (h q hn).2 (fun z => hq (hs q z))⟩
theorem g_up_nn {g : g_H} {a q : Nat} {e : g_C} (h : g q ≠ none) : g_up g a e q ≠ none := by
  by_cases hq : q = a
  · rw [hq, g_up_s]; simp
  · rw [g_up_n hq]; exact h
theorem fx_up {S : List Nat} {g g1 : g_H} {a : Nat} {e : g_C} (h : fx S g g1) (ha : a ∈ S) : fx S g (g_up g1 a e) := fun q hn => ⟨g_up_nn (h q hn).1, fun hq => by
  rw [g_up_n (fun z => hq (by rw [z]; exact ha))]
  exact (h q hn).2 hq⟩
theorem fx_new {S : List Nat} {g g1 : g_H} {a : Nat} {e : g_C} (h : fx S g g1) (ha : g a = none) : fx S g (g_up g1 a e) := fun q hn => ⟨g_up_nn (h q hn).1, fun hq => by
  rw [g_up_n (fun z => hn (by rw [z]; exact ha))]
  exact (h q hn).2 hq⟩
theorem fx_of_fr {S S1 : List Nat} {g g1 : g_H} (h : fr S g g1) (hs : ∀ q ∈ S, g q = none ∨ q ∈ S1 ∧ g1 q ≠ none) : fx S1 g g1 := fun q hn => by
  by_cases hq : q ∈ S
  · rcases hs q hq with h1 | h1
    · exact absurd h1 hn
    · exact ⟨h1.2, fun z => absurd h1.1 z⟩
  · rw [h q hq]
    exact ⟨hn, fun _ => rfl⟩
theorem fx_at {S : List Nat} {g g1 : g_H} {a : Nat} {e : g_C} (h : fx S g g1) (hg : g a = some e) (ha : a ∉ S) : g1 a = some e := by
  rw [(h a (by rw [hg]; simp)).2 ha]
  exact hg
theorem fx_by {S : List Nat} {g g1 : g_H} {a : Nat} {L : List Nat} (h : fx S g g1) (hg : isBy g a L) (ha : a ∉ S) : isBy g1 a L := by
  obtain ⟨f, a1, a2⟩ := hg
  exact ⟨f, fx_at h a1 ha, a2⟩
theorem fx_nil {S : List Nat} {g g1 : g_H} (h : fx [] g g1) : fx S g g1 := fx_sub h (fun _ hq => by cases hq)
/-- all of these are there -/
def al (U : List Nat) (g : g_H) : Prop := ∀ u ∈ U, g u ≠ none
theorem al_fx {S U : List Nat} {g g1 : g_H} (h : al U g) (h1 : fx S g g1) : al U g1 := fun u hu => (h1 u (h u hu)).1
theorem al_n {U : List Nat} {g : g_H} {q : Nat} (h : al U g) (hq : g q = none) : q ∉ U := fun z => h q z hq
end FX
section ENTRY
theorem b2_t : ¬ b2 true = 0 := by decide
theorem b2_f : b2 false = 0 := rfl
theorem sI (i : Nat) : some (Value.int (nI i + nI 1)) = some (Value.int (nI (i + 1))) := congrArg (fun z => some (Value.int z)) (nI_add i 1)
/-- path, kind, mode, time, content -/
abbrev Ent : Type := List Nat × Int32 × Int32 × Int32 × List Nat
abbrev eC (E : Ent) : List Nat := E.2.2.2.2
/-- an entry that stands outside U -/
def en (U : List Nat) (g : g_H) (a : Nat) (E : Ent) : Prop := ∃ p c, g a = some (.inr (3, [.ref p, .int E.2.1, .int E.2.2.1, .int E.2.2.2.1, .ref c])) ∧ isBy g p E.1 ∧ isBy g c (eC E) ∧ a ∉ U ∧ p ∉ U ∧ c ∉ U
theorem en_fx {S U : List Nat} {g g1 : g_H} {a : Nat} {E : Ent} (h : en U g a E) (h1 : fx S g g1) (hs : ∀ q ∈ S, q ∈ U) : en U g1 a E := by
  obtain ⟨p, c, a1, a2, a3, a4, a5, a6⟩ := h
  exact ⟨p, c, fx_at h1 a1 (fun z => a4 (hs _ z)), fx_by h1 a2 (fun z => a5 (hs _ z)), fx_by h1 a3 (fun z => a6 (hs _ z)), a4, a5, a6⟩
theorem isBy_nn {g : g_H} {a : Nat} {L : List Nat} (h : isBy g a L) : g a ≠ none := by
  obtain ⟨f, a1, -⟩ := h
  rw [a1]; simp
theorem isBy_up {g : g_H} {a q : Nat} {e : g_C} {L : List Nat} (h : isBy g a L) (hq : g q = none) : isBy (g_up g q e) a L := isBy_fr h (g_up_n (fun z => isBy_nn h (by rw [z]; exact hq)))
variable {l : Launch} {D : va_G} {aC : Nat → ClassId}
theorem c_E_init (hfl : l.flags = pinnedFlags ++ [noTraceFlag]) {q p c : Nat} {k m t : Int32} {g : g_H} (hq : g q = some (.inr (3, [.null, .int 0, .int 0, .int 0, .null]))) : k_CT l D aC n_E_init 0 0 [.ref q, .ref p, .int k, .int m, .int t, .ref c] g (rt none (g_up g q (.inr (3, [.ref p, .int k, .int m, .int t, .ref c])))) := by
  refine k_ln hfl n_E_init ok_E_init rfl rfl rfl rfl rfl rfl (fun _ => rfl) (Nat.le_of_ble_eq_true rfl) 60 ?_
  conv => whnf
  refine ⟨(Nat.le_of_ble_eq_true rfl), ?_⟩
  conv => whnf
  refine ⟨_, hq, by simp, rfl, rfl, ?_⟩
  conv => whnf
  refine ⟨_, g_up_s, by simp, rfl, rfl, ?_⟩
  conv => whnf
  refine ⟨_, g_up_s, by simp, rfl, rfl, ?_⟩
  conv => whnf
  refine ⟨_, g_up_s, by simp, rfl, rfl, ?_⟩
  conv => whnf
  refine ⟨_, g_up_s, by simp, rfl, rfl, ?_⟩
  conv => whnf
  refine ⟨rfl, ⟨rfl, ?_⟩, by first | omega | exact Nat.le_of_ble_eq_true rfl | (simp only [dl1, dl2, dl3, dl4, dl5, dl6]; omega), by first | omega | exact Nat.le_of_ble_eq_true rfl | (simp only [dl1, dl2, dl3, dl4, dl5, dl6]; omega)⟩
  rw [g_up_up, g_up_up, g_up_up, g_up_up]
  rfl
theorem c_E_withContent (hfl : l.flags = pinnedFlags ++ [noTraceFlag]) {U : List Nat} {a c : Nat} {E : Ent} {L : List Nat} {g : g_H} (hE : en U g a E) (hc : isBy g c L) (hcU : c ∉ U) (hU : al U g) : k_CT l D aC n_E_withContent 1 5 [.ref a, .ref c] g (fun oc g1 => ∃ q, oc = .inl (some (.ref q)) ∧ g q = none ∧ en U g1 q (E.1, E.2.1, E.2.2.1, E.2.2.2.1, L) ∧ fx [] g g1) := by
  obtain ⟨p, c0, a1, a2, a3, a4, a5, a6⟩ := hE
  refine k_ln hfl n_E_withContent ok_E_withContent rfl rfl rfl rfl rfl rfl (fun h => by cases h) (Nat.le_of_ble_eq_true rfl) 60 ?_
  conv => whnf
  refine ⟨by decide, by decide, fun q hq => ?_⟩
  have n1 := g_nn a1 hq
  conv => whnf
  refine ⟨_, _, (by rw [g_up_n n1]; exact a1), rfl, ?_⟩
  conv => whnf
  refine ⟨_, _, (by rw [g_up_n n1]; exact a1), rfl, ?_⟩
  conv => whnf
  refine ⟨_, _, (by rw [g_up_n n1]; exact a1), rfl, ?_⟩
  conv => whnf
  refine ⟨_, _, (by rw [g_up_n n1]; exact a1), rfl, ?_⟩
  conv => whnf
  refine ⟨(Nat.le_of_ble_eq_true rfl), _, _, _, c_E_init hfl g_up_s, by first | omega | exact Nat.le_of_ble_eq_true rfl | (simp only [dl1, dl2, dl3, dl4, dl5, dl6]; omega), by first | omega | exact Nat.le_of_ble_eq_true rfl | (simp only [dl1, dl2, dl3, dl4, dl5, dl6]; omega), k_rl ?_, k_rr⟩
  rw [g_up_up]
  conv => whnf
  refine ⟨⟨_, rfl, Or.inl ⟨_, rfl⟩⟩, ?_, by first | omega | exact Nat.le_of_ble_eq_true rfl | (simp only [dl1, dl2, dl3, dl4, dl5, dl6]; omega), by first | omega | exact Nat.le_of_ble_eq_true rfl | (simp only [dl1, dl2, dl3, dl4, dl5, dl6]; omega)⟩
  exact ⟨q, rfl, hq, ⟨p, c, g_up_s, isBy_up a2 hq, isBy_up hc hq, al_n hU hq, a5, hcU⟩, fx_new fx_rf hq⟩
theorem c_E_withModeAndTime (hfl : l.flags = pinnedFlags ++ [noTraceFlag]) {U : List Nat} {a : Nat} {m t : Int32} {E : Ent} {g : g_H} (hE : en U g a E) (hU : al U g) : k_CT l D aC n_E_withModeAndTime 1 5 [.ref a, .int m, .int t] g (fun oc g1 => ∃ q, oc = .inl (some (.ref q)) ∧ g q = none ∧ en U g1 q (E.1, E.2.1, m, t, eC E) ∧ fx [] g g1) := by
  obtain ⟨p, c0, a1, a2, a3, a4, a5, a6⟩ := hE
  refine k_ln hfl n_E_withModeAndTime ok_E_withModeAndTime rfl rfl rfl rfl rfl rfl (fun h => by cases h) (Nat.le_of_ble_eq_true rfl) 60 ?_
  conv => whnf
  refine ⟨by decide, by decide, fun q hq => ?_⟩
  have n1 := g_nn a1 hq
  conv => whnf
  refine ⟨_, _, (by rw [g_up_n n1]; exact a1), rfl, ?_⟩
  conv => whnf
  refine ⟨_, _, (by rw [g_up_n n1]; exact a1), rfl, ?_⟩
  conv => whnf
  refine ⟨_, _, (by rw [g_up_n n1]; exact a1), rfl, ?_⟩
  conv => whnf
  refine ⟨(Nat.le_of_ble_eq_true rfl), _, _, _, c_E_init hfl g_up_s, by first | omega | exact Nat.le_of_ble_eq_true rfl | (simp only [dl1, dl2, dl3, dl4, dl5, dl6]; omega), by first | omega | exact Nat.le_of_ble_eq_true rfl | (simp only [dl1, dl2, dl3, dl4, dl5, dl6]; omega), k_rl ?_, k_rr⟩
  rw [g_up_up]
  conv => whnf
  refine ⟨⟨_, rfl, Or.inl ⟨_, rfl⟩⟩, ?_, by first | omega | exact Nat.le_of_ble_eq_true rfl | (simp only [dl1, dl2, dl3, dl4, dl5, dl6]; omega), by first | omega | exact Nat.le_of_ble_eq_true rfl | (simp only [dl1, dl2, dl3, dl4, dl5, dl6]; omega)⟩
  exact ⟨q, rfl, hq, ⟨p, c0, g_up_s, isBy_up a2 hq, isBy_up a3 hq, al_n hU hq, a5, a6⟩, fx_new fx_rf hq⟩
theorem c_E_mostContent (hfl : l.flags = pinnedFlags ++ [noTraceFlag]) {U : List Nat} {a : Nat} {E : Ent} {g : g_H} (hE : en U g a E) : k_CT l D aC n_E_mostContent 0 0 [.ref a] g (rt (some (.int (nI (if E.2.1 = nI 3 then 100 else 1500)))) g) := by
  obtain ⟨p, c0, a1, a2, a3, a4, a5, a6⟩ := hE
  refine k_ln hfl n_E_mostContent ok_E_mostContent rfl rfl rfl rfl rfl rfl (fun h => by cases h) (Nat.le_of_ble_eq_true rfl) 60 ?_
  conv => whnf
  refine ⟨_, _, a1, rfl, ?_⟩
  conv => whnf
  refine ⟨fun h => ?_, fun h => ?_⟩
  · conv => whnf
    refine ⟨⟨_, rfl, rfl⟩, ⟨?_, rfl⟩, by first | omega | exact Nat.le_of_ble_eq_true rfl | (simp only [dl1, dl2, dl3, dl4, dl5, dl6]; omega), by first | omega | exact Nat.le_of_ble_eq_true rfl | (simp only [dl1, dl2, dl3, dl4, dl5, dl6]; omega)⟩
    rw [if_neg h]
  · conv => whnf
    refine ⟨⟨_, rfl, rfl⟩, ⟨?_, rfl⟩, by first | omega | exact Nat.le_of_ble_eq_true rfl | (simp only [dl1, dl2, dl3, dl4, dl5, dl6]; omega), by first | omega | exact Nat.le_of_ble_eq_true rfl | (simp only [dl1, dl2, dl3, dl4, dl5, dl6]; omega)⟩
    rw [if_pos (Classical.not_not.mp h)]
theorem list_ext0 {L1 L2 : List Nat} (h : L1.length = L2.length) (h1 : ∀ i, i < L1.length → L1.getD i 0 = L2.getD i 0) : L1 = L2 := by
  refine List.ext_getElem h (fun i h2 h3 => ?_)
  have := h1 i h2
  rwa [List.getD_eq_getElem?_getD, List.getD_eq_getElem?_getD, List.getElem?_eq_getElem h2, List.getElem?_eq_getElem h3] at this
theorem c_E_hasContent (hfl : l.flags = pinnedFlags ++ [noTraceFlag]) {U : List Nat} {a c : Nat} {E : Ent} {L : List Nat} {g : g_H} (hE : en U g a E) (hc : isBy g c L) : k_CT l D aC n_E_hasContent 0 0 [.ref a, .ref c] g (rt (some (.int (b2 (decide (eC E = L))))) g) := by
  obtain ⟨p, c0, a1, a2, ⟨f, b1, b2', b3, b4⟩, a4, a5, a6⟩ := hE
  obtain ⟨f2, d1, d2, d3, d4⟩ := hc
  refine k_while hfl n_E_hasContent ok_E_hasContent rfl rfl rfl rfl rfl rfl (fun h => by cases h) (Nat.le_of_ble_eq_true rfl) [14] (fun pc d lv g1 k n => ∃ i, pc = 14 ∧ d = (eC E).length - i ∧ lv = [(0, .ref a), (1, .ref c), (2, .int (nI i))] ∧ g1 = g ∧ k = 0 ∧ n = 0 ∧ i ≤ (eC E).length ∧ (eC E).length = L.length ∧ ∀ j, j < i → (eC E).getD j 0 = L.getD j 0) 60 ?_ 80 ?_
  · conv => whnf
    refine ⟨_, _, a1, rfl, ?_⟩
    conv => whnf
    refine Or.inl ⟨_, _, b1, by decide, ?_⟩
    conv => whnf
    refine Or.inl ⟨_, _, d1, by decide, ?_⟩
    conv => whnf
    refine ⟨fun h => ?_, fun h => ?_⟩
    · have hl := (q_eq (by omega) (by omega)).mp h
      conv => whnf
      exact ⟨rfl, _, _, ⟨0, rfl, rfl, rfl, rfl, rfl, rfl, by omega, hl, fun j hj => by omega⟩, rfl, rfl, rfl, trivial⟩
    · have hl : (eC E).length ≠ L.length := fun z => h ((q_eq (by omega) (by omega)).mpr z)
      conv => whnf
      refine ⟨⟨_, rfl, rfl⟩, ⟨?_, rfl⟩, by first | omega | exact Nat.le_of_ble_eq_true rfl | (simp only [dl1, dl2, dl3, dl4, dl5, dl6]; omega), by first | omega | exact Nat.le_of_ble_eq_true rfl | (simp only [dl1, dl2, dl3, dl4, dl5, dl6]; omega)⟩
      rw [decide_eq_false (fun z => hl (by rw [z]))]
      rfl
  · rintro d pc lv g1 k n ⟨i, rfl, rfl, rfl, rfl, rfl, rfl, hi, hl, hj⟩
    conv => whnf
    refine ⟨_, _, a1, rfl, ?_⟩
    conv => whnf
    refine Or.inl ⟨_, _, b1, by decide, ?_⟩
    conv => whnf
    refine ⟨fun h => ?_, fun h => ?_⟩
    · have h9 := (q_ge (by omega) (by omega)).mp h
      conv => whnf
      refine ⟨⟨_, rfl, rfl⟩, ⟨?_, rfl⟩, by first | omega | exact Nat.le_of_ble_eq_true rfl | (simp only [dl1, dl2, dl3, dl4, dl5, dl6]; omega), by first | omega | exact Nat.le_of_ble_eq_true rfl | (simp only [dl1, dl2, dl3, dl4, dl5, dl6]; omega)⟩
      rw [decide_eq_true (list_ext0 hl (fun j h => hj j (by omega)))]
      rfl
    · have h9 : i < (eC E).length := Nat.lt_of_not_le fun z => h ((q_ge (by omega) (by omega)).mpr z)
      conv => whnf
      refine ⟨_, _, a1, rfl, ?_⟩
      conv => whnf
      refine ⟨0, _, _, i, b1, rfl, rfl, by omega, by omega, ?_⟩
      conv => whnf
      refine ⟨0, _, _, i, d1, rfl, rfl, by omega, by omega, ?_⟩
      rw [b2' i h9, d2 i (by omega)]
      conv => whnf
      refine ⟨fun h => ?_, fun h => ?_⟩
      · have h8 := (sx_inj (getD_lt b3 h9) (getD_lt d3 (by omega))).mp h
        conv => whnf
        exact ⟨rfl, _, _, by omega, ⟨i + 1, rfl, rfl, rfl, rfl, rfl, rfl, by omega, hl, fun j hj1 => by
          by_cases h7 : j = i
          · rw [h7]; exact h8
          · exact hj j (by omega)⟩, rfl, rfl, sI i, trivial⟩
      · have h8 : (eC E).getD i 0 ≠ L.getD i 0 := fun z => h (congrArg sx z)
        conv => whnf
        refine ⟨⟨_, rfl, rfl⟩, ⟨?_, rfl⟩, by first | omega | exact Nat.le_of_ble_eq_true rfl | (simp only [dl1, dl2, dl3, dl4, dl5, dl6]; omega), by first | omega | exact Nat.le_of_ble_eq_true rfl | (simp only [dl1, dl2, dl3, dl4, dl5, dl6]; omega)⟩
        rw [decide_eq_false (fun z => h8 (by rw [z]))]
        rfl
/-- of one path, they are the same in all -/
def lkE (E F : Ent) : Bool := decide (E.2.1 = F.2.1 ∧ E.2.2.1 = F.2.2.1 ∧ E.2.2.2.1 = F.2.2.2.1 ∧ eC E = eC F)
theorem c_E_isLike (hfl : l.flags = pinnedFlags ++ [noTraceFlag]) {U : List Nat} {a b : Nat} {E F : Ent} {g : g_H} (hE : en U g a E) (hF : en U g b F) : k_CT l D aC n_E_isLike 0 0 [.ref a, .ref b] g (rt (some (.int (b2 (lkE E F)))) g) := by
  have hE0 := hE
  obtain ⟨p, c0, a1, a2, a3, a4⟩ := hE
  obtain ⟨p1, c1, b1, b2', b3, b4⟩ := hF
  refine k_ln hfl n_E_isLike ok_E_isLike rfl rfl rfl rfl rfl rfl (fun h => by cases h) (Nat.le_of_ble_eq_true rfl) 60 ?_
  conv => whnf
  refine ⟨_, _, a1, rfl, ?_⟩
  conv => whnf
  refine ⟨_, _, b1, rfl, ?_⟩
  conv => whnf
  refine ⟨fun h => ?_, fun h => ?_⟩
  · conv => whnf
    refine ⟨⟨_, rfl, rfl⟩, ⟨?_, rfl⟩, by first | omega | exact Nat.le_of_ble_eq_true rfl | (simp only [dl1, dl2, dl3, dl4, dl5, dl6]; omega), by first | omega | exact Nat.le_of_ble_eq_true rfl | (simp only [dl1, dl2, dl3, dl4, dl5, dl6]; omega)⟩
    rw [lkE, decide_eq_false (fun z => h z.1)]; rfl
  · have h1 : E.2.1 = F.2.1 := Classical.not_not.mp h
    conv => whnf
    refine ⟨_, _, a1, rfl, ?_⟩
    conv => whnf
    refine ⟨_, _, b1, rfl, ?_⟩
    conv => whnf
    refine ⟨fun h => ?_, fun h => ?_⟩
    · conv => whnf
      refine ⟨⟨_, rfl, rfl⟩, ⟨?_, rfl⟩, by first | omega | exact Nat.le_of_ble_eq_true rfl | (simp only [dl1, dl2, dl3, dl4, dl5, dl6]; omega), by first | omega | exact Nat.le_of_ble_eq_true rfl | (simp only [dl1, dl2, dl3, dl4, dl5, dl6]; omega)⟩
      rw [lkE, decide_eq_false (fun z => h z.2.1)]; rfl
    · have h2 : E.2.2.1 = F.2.2.1 := Classical.not_not.mp h
      conv => whnf
      refine ⟨_, _, a1, rfl, ?_⟩
      conv => whnf
      refine ⟨_, _, b1, rfl, ?_⟩
      conv => whnf
      refine ⟨fun h => ?_, fun h => ?_⟩
      · conv => whnf
        refine ⟨⟨_, rfl, rfl⟩, ⟨?_, rfl⟩, by first | omega | exact Nat.le_of_ble_eq_true rfl | (simp only [dl1, dl2, dl3, dl4, dl5, dl6]; omega), by first | omega | exact Nat.le_of_ble_eq_true rfl | (simp only [dl1, dl2, dl3, dl4, dl5, dl6]; omega)⟩
        rw [lkE, decide_eq_false (fun z => h z.2.2.1)]; rfl
      · have h3 : E.2.2.2.1 = F.2.2.2.1 := Classical.not_not.mp h
        conv => whnf
        refine ⟨_, _, b1, rfl, ?_⟩
        conv => whnf
        refine ⟨⟨_, a1⟩, (Nat.le_of_ble_eq_true rfl), _, _, _, c_E_hasContent hfl hE0 b3, by first | omega | exact Nat.le_of_ble_eq_true rfl | (simp only [dl1, dl2, dl3, dl4, dl5, dl6]; omega), by first | omega | exact Nat.le_of_ble_eq_true rfl | (simp only [dl1, dl2, dl3, dl4, dl5, dl6]; omega), k_rl ?_, k_rr⟩
        by_cases h4 : eC E = eC F
        · rw [decide_eq_true h4]
          conv => whnf
          refine ⟨fun h => absurd h b2_t, fun _ => ?_⟩
          conv => whnf
          refine ⟨⟨_, rfl, rfl⟩, ⟨?_, rfl⟩, by first | omega | exact Nat.le_of_ble_eq_true rfl | (simp only [dl1, dl2, dl3, dl4, dl5, dl6]; omega), by first | omega | exact Nat.le_of_ble_eq_true rfl | (simp only [dl1, dl2, dl3, dl4, dl5, dl6]; omega)⟩
          rw [lkE, decide_eq_true ⟨h1, h2, h3, h4⟩]; rfl
        · rw [decide_eq_false h4]
          conv => whnf
          refine ⟨fun _ => ?_, fun h => absurd b2_f h⟩
          conv => whnf
          refine ⟨⟨_, rfl, rfl⟩, ⟨?_, rfl⟩, by first | omega | exact Nat.le_of_ble_eq_true rfl | (simp only [dl1, dl2, dl3, dl4, dl5, dl6]; omega), by first | omega | exact Nat.le_of_ble_eq_true rfl | (simp only [dl1, dl2, dl3, dl4, dl5, dl6]; omega)⟩
          rw [lkE, decide_eq_false (fun z => h4 z.2.2.2)]; rfl
end ENTRY
