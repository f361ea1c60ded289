/-! MirrorKeepLaw: the helpers that catch -/
section LHP
variable {l : Launch} {D : va_G} {aC : Nat → ClassId}
theorem k_lh (hfl : l.flags = pinnedFlags ++ [noTraceFlag]) (y : Nat) {own : String} {cc : ByteArray} {nL fr lo : Nat} {hs : List w_Hd} (hh : w_he k_RW own hs) {tab : List w_R} (htab : tab.all (w_okb k_RW k_cl k_tyl k_mt k_ex k_xcs own cc nL fr lo false) = true) (e1 : (k_mt y).1.cls = own) (e2 : (k_mt y).2.1 = cc) (e3 : (k_mt y).2.2.1 = nL) (e4 : (k_mt y).2.2.2.2.1 = hs.map (fun h => (h.1, h.2.1, h.2.2.1, h.2.2.2.1))) (e5 : (k_mt y).2.2.2.2.2.2.1 = fr) (e6 : (k_mt y).2.2.2.2.2.2.2.1 = lo)
    {MC MS : Nat} {P : x_O → g_H → Prop} {a : List Value} {g : g_H} (ha : (lg_sl a).length ≤ nL) (f : Nat)
    (h : k_q l D aC hs none (k_mt y).2.2.2.1 MC MS P tab [] k_none f 0 (lv_args 0 a) [] g 0 0) : k_CT l D aC y MC MS a g P :=
  w_meth (hs := hs) (init := false) hfl y (k_me y) e1 e2 e3 rfl e4 e5 e6 (fun h => by cases h) ha (k_qrun hh htab [] k_none (fun _ _ _ _ _ _ h => h.elim) f h)
theorem k_inA : Cond.classLink "MirrorKeepLaw" 13 IA ∈ w_TB k_RW := k_inb_ok (by decide +kernel)
theorem k_inS : Cond.classLink "MirrorKeepLaw" 15 IS ∈ w_TB k_RW := k_inb_ok (by decide +kernel)
theorem k_nAS : Cond.not (.castable IA IS) ∈ w_TB k_RW := k_inb_ok (by decide +kernel)
theorem k_nSA : Cond.not (.castable IS IA) ∈ w_TB k_RW := k_inb_ok (by decide +kernel)
theorem he_AS {a b p q : Nat} : w_he k_RW "MirrorKeepLaw" [(a, b, p, 13, IA), (a, b, q, 15, IS)] := by
  intro h hh
  simp only [List.mem_cons, List.not_mem_nil, or_false] at hh
  rcases hh with rfl | rfl
  · refine ⟨(by show 13 ≠ 0; decide), k_inA, fun r hr => ?_⟩
    simp only [List.mem_cons, List.not_mem_nil, or_false] at hr
    rcases hr with rfl | rfl
    · exact ⟨rfl, rfl, fun z => absurd rfl z⟩
    · exact ⟨rfl, rfl, fun _ => k_nAS⟩
  · refine ⟨(by show 15 ≠ 0; decide), k_inS, fun r hr => ?_⟩
    simp only [List.mem_cons, List.not_mem_nil, or_false] at hr
    rcases hr with rfl | rfl
    · exact ⟨rfl, rfl, fun _ => k_nSA⟩
    · exact ⟨rfl, rfl, fun z => absurd rfl z⟩
theorem he_SA {a b p q : Nat} : w_he k_RW "MirrorKeepLaw" [(a, b, p, 15, IS), (a, b, q, 13, IA)] := by
  intro h hh
  simp only [List.mem_cons, List.not_mem_nil, or_false] at hh
  rcases hh with rfl | rfl
  · refine ⟨(by show 15 ≠ 0; decide), k_inS, fun r hr => ?_⟩
    simp only [List.mem_cons, List.not_mem_nil, or_false] at hr
    rcases hr with rfl | rfl
    · exact ⟨rfl, rfl, fun z => absurd rfl z⟩
    · exact ⟨rfl, rfl, fun _ => k_nSA⟩
  · refine ⟨(by show 13 ≠ 0; decide), k_inA, fun r hr => ?_⟩
    simp only [List.mem_cons, List.not_mem_nil, or_false] at hr
    rcases hr with rfl | rfl
    · exact ⟨rfl, rfl, fun _ => k_nAS⟩
    · exact ⟨rfl, rfl, fun z => absurd rfl z⟩
theorem he_S {a b p : Nat} : w_he k_RW "MirrorKeepLaw" [(a, b, p, 15, IS)] := by
  intro h hh
  simp only [List.mem_cons, List.not_mem_nil, or_false] at hh
  subst hh
  refine ⟨(by show 15 ≠ 0; decide), k_inS, fun r hr => ?_⟩
  simp only [List.mem_cons, List.not_mem_nil, or_false] at hr
  subst hr
  exact ⟨rfl, rfl, fun z => absurd rfl z⟩
theorem w_endS {h : w_Hd} {r : List w_Hd} {P : x_O → g_H → Prop} {MC MS pc k n q : Nat} {N : w_K} {lv : w_L} {C : String} {g : g_H} (e : w_hnd (h :: r) pc C = some q) (H : ∀ x : Nat, N q lv [.ref x] g k n) : w_end (h :: r) P MC MS N pc lv C g k n := by
  show (match w_hnd (h :: r) pc C with
    | none => False
    | some q => ∀ x : Nat, N q lv [.ref x] g k n)
  rw [e]
  exact H
/-- what a helper leaves behind: the answer in out, or the number of what was thrown -/
def lQ (Q : x_O → g_H → Prop) (o cA cS : Nat) : x_O → g_H → Prop := fun oc g2 => (∃ y g1 f, Q (.inl (some (.int y))) g1 ∧ g1 o = some (lc f) ∧ oc = .inl (some (.int (nI 0))) ∧ g2 = g_up g1 o (lc (vp_updL f 0 y.toInt64))) ∨ (Q (.inr IA) g2 ∧ oc = .inl (some (.int (nI cA)))) ∨ (Q (.inr IS) g2 ∧ oc = .inl (some (.int (nI cS))))
def lV (Q : x_O → g_H → Prop) (cA cS : Nat) : x_O → g_H → Prop := fun oc g2 => (Q (.inl none) g2 ∧ oc = .inl (some (.int (nI 0)))) ∨ (Q (.inr IA) g2 ∧ oc = .inl (some (.int (nI cA)))) ∨ (Q (.inr IS) g2 ∧ oc = .inl (some (.int (nI cS))))
variable {x o : Nat} {fs : List Value} {g : g_H} {Q : x_O → g_H → Prop}
theorem c_L_make (hfl : l.flags = pinnedFlags ++ [noTraceFlag]) {a b c : Int32} (hx : g x = some (.inr (0, fs))) (hQ : k_CT l D aC n_K_make 16 4000 [.ref x, .int a, .int b, .int c] g Q) (h1 : ∀ v g1, Q (.inl v) g1 → ∃ y f, v = some (.int y) ∧ g1 o = some (lc f)) (h2 : ∀ C g1, Q (.inr C) g1 → C = IA ∨ C = IS) : k_CT l D aC n_L_make 16 4000 [.ref x, .int a, .int b, .int c, .ref o] g (lQ Q o 1 2) := by
  refine k_lh hfl n_L_make (hs := [(0, 12, 15, 13, IA), (0, 12, 19, 15, IS)]) he_AS ok_L_make rfl rfl rfl rfl rfl rfl (Nat.le_of_ble_eq_true rfl) 40 ?_
  conv => whnf
  refine ⟨⟨_, hx⟩, (Nat.le_of_ble_eq_true rfl), _, _, _, hQ, by first | omega | exact Nat.le_of_ble_eq_true rfl | (simp only [dl1, dl2, dl3, dl4, dl5, dl6]; omega), by first | omega | exact Nat.le_of_ble_eq_true rfl | (simp only [dl1, dl2, dl3, dl4, dl5, dl6]; omega), fun v g1 hh => ?_, fun C g1 hh => ?_⟩
  · obtain ⟨y, f, rfl, ho⟩ := h1 _ _ hh
    conv => whnf
    refine ⟨2, 1, f, 0, ho, rfl, rfl, by decide, by decide, ?_⟩
    conv => whnf
    refine ⟨⟨_, rfl, rfl⟩, (Or.inl ⟨y, g1, f, hh, ho, rfl, rfl⟩), by first | omega | exact Nat.le_of_ble_eq_true rfl | (simp only [dl1, dl2, dl3, dl4, dl5, dl6]; omega), by first | omega | exact Nat.le_of_ble_eq_true rfl | (simp only [dl1, dl2, dl3, dl4, dl5, dl6]; omega)⟩
  · rcases h2 _ _ hh with rfl | rfl
    · refine w_endS (q := 15) (by decide +kernel) (fun z => ?_)
      conv => whnf
      refine ⟨⟨_, rfl, rfl⟩, (Or.inr (Or.inl ⟨hh, rfl⟩)), by first | omega | exact Nat.le_of_ble_eq_true rfl | (simp only [dl1, dl2, dl3, dl4, dl5, dl6]; omega), by first | omega | exact Nat.le_of_ble_eq_true rfl | (simp only [dl1, dl2, dl3, dl4, dl5, dl6]; omega)⟩
    · refine w_endS (q := 19) (by decide +kernel) (fun z => ?_)
      conv => whnf
      refine ⟨⟨_, rfl, rfl⟩, (Or.inr (Or.inr ⟨hh, rfl⟩)), by first | omega | exact Nat.le_of_ble_eq_true rfl | (simp only [dl1, dl2, dl3, dl4, dl5, dl6]; omega), by first | omega | exact Nat.le_of_ble_eq_true rfl | (simp only [dl1, dl2, dl3, dl4, dl5, dl6]; omega)⟩
theorem c_L_write (hfl : l.flags = pinnedFlags ++ [noTraceFlag]) {a : Int32} (hx : g x = some (.inr (0, fs))) (hQ : k_CT l D aC n_K_write 16 4000 [.ref x, .int a] g Q) (h1 : ∀ v g1, Q (.inl v) g1 → ∃ y f, v = some (.int y) ∧ g1 o = some (lc f)) (h2 : ∀ C g1, Q (.inr C) g1 → C = IA ∨ C = IS) : k_CT l D aC n_L_write 16 4000 [.ref x, .int a, .ref o] g (lQ Q o 1 2) := by
  refine k_lh hfl n_L_write (hs := [(0, 9, 12, 13, IA), (0, 9, 15, 15, IS)]) he_AS ok_L_write rfl rfl rfl rfl rfl rfl (Nat.le_of_ble_eq_true rfl) 40 ?_
  conv => whnf
  refine ⟨⟨_, hx⟩, (Nat.le_of_ble_eq_true rfl), _, _, _, hQ, by first | omega | exact Nat.le_of_ble_eq_true rfl | (simp only [dl1, dl2, dl3, dl4, dl5, dl6]; omega), by first | omega | exact Nat.le_of_ble_eq_true rfl | (simp only [dl1, dl2, dl3, dl4, dl5, dl6]; omega), fun v g1 hh => ?_, fun C g1 hh => ?_⟩
  · obtain ⟨y, f, rfl, ho⟩ := h1 _ _ hh
    conv => whnf
    refine ⟨2, 1, f, 0, ho, rfl, rfl, by decide, by decide, ?_⟩
    conv => whnf
    refine ⟨⟨_, rfl, rfl⟩, (Or.inl ⟨y, g1, f, hh, ho, rfl, rfl⟩), by first | omega | exact Nat.le_of_ble_eq_true rfl | (simp only [dl1, dl2, dl3, dl4, dl5, dl6]; omega), by first | omega | exact Nat.le_of_ble_eq_true rfl | (simp only [dl1, dl2, dl3, dl4, dl5, dl6]; omega)⟩
  · rcases h2 _ _ hh with rfl | rfl
    · refine w_endS (q := 12) (by decide +kernel) (fun z => ?_)
      conv => whnf
      refine ⟨⟨_, rfl, rfl⟩, (Or.inr (Or.inl ⟨hh, rfl⟩)), by first | omega | exact Nat.le_of_ble_eq_true rfl | (simp only [dl1, dl2, dl3, dl4, dl5, dl6]; omega), by first | omega | exact Nat.le_of_ble_eq_true rfl | (simp only [dl1, dl2, dl3, dl4, dl5, dl6]; omega)⟩
    · refine w_endS (q := 15) (by decide +kernel) (fun z => ?_)
      conv => whnf
      refine ⟨⟨_, rfl, rfl⟩, (Or.inr (Or.inr ⟨hh, rfl⟩)), by first | omega | exact Nat.le_of_ble_eq_true rfl | (simp only [dl1, dl2, dl3, dl4, dl5, dl6]; omega), by first | omega | exact Nat.le_of_ble_eq_true rfl | (simp only [dl1, dl2, dl3, dl4, dl5, dl6]; omega)⟩
theorem c_L_cut (hfl : l.flags = pinnedFlags ++ [noTraceFlag]) {a : Int32} (hx : g x = some (.inr (0, fs))) (hQ : k_CT l D aC n_K_cut 16 4000 [.ref x, .int a] g Q) (h1 : ∀ v g1, Q (.inl v) g1 → v = none) (h2 : ∀ C g1, Q (.inr C) g1 → C = IA ∨ C = IS) : k_CT l D aC n_L_cut 16 4000 [.ref x, .int a] g (lV Q 1 2) := by
  refine k_lh hfl n_L_cut (hs := [(0, 5, 8, 13, IA), (0, 5, 11, 15, IS)]) he_AS ok_L_cut rfl rfl rfl rfl rfl rfl (Nat.le_of_ble_eq_true rfl) 40 ?_
  conv => whnf
  refine ⟨⟨_, hx⟩, (Nat.le_of_ble_eq_true rfl), _, _, _, hQ, by first | omega | exact Nat.le_of_ble_eq_true rfl | (simp only [dl1, dl2, dl3, dl4, dl5, dl6]; omega), by first | omega | exact Nat.le_of_ble_eq_true rfl | (simp only [dl1, dl2, dl3, dl4, dl5, dl6]; omega), fun v g1 hh => ?_, fun C g1 hh => ?_⟩
  · obtain rfl := h1 _ _ hh
    conv => whnf
    refine ⟨⟨_, rfl, rfl⟩, (Or.inl ⟨hh, rfl⟩), by first | omega | exact Nat.le_of_ble_eq_true rfl | (simp only [dl1, dl2, dl3, dl4, dl5, dl6]; omega), by first | omega | exact Nat.le_of_ble_eq_true rfl | (simp only [dl1, dl2, dl3, dl4, dl5, dl6]; omega)⟩
  · rcases h2 _ _ hh with rfl | rfl
    · refine w_endS (q := 8) (by decide +kernel) (fun z => ?_)
      conv => whnf
      refine ⟨⟨_, rfl, rfl⟩, (Or.inr (Or.inl ⟨hh, rfl⟩)), by first | omega | exact Nat.le_of_ble_eq_true rfl | (simp only [dl1, dl2, dl3, dl4, dl5, dl6]; omega), by first | omega | exact Nat.le_of_ble_eq_true rfl | (simp only [dl1, dl2, dl3, dl4, dl5, dl6]; omega)⟩
    · refine w_endS (q := 11) (by decide +kernel) (fun z => ?_)
      conv => whnf
      refine ⟨⟨_, rfl, rfl⟩, (Or.inr (Or.inr ⟨hh, rfl⟩)), by first | omega | exact Nat.le_of_ble_eq_true rfl | (simp only [dl1, dl2, dl3, dl4, dl5, dl6]; omega), by first | omega | exact Nat.le_of_ble_eq_true rfl | (simp only [dl1, dl2, dl3, dl4, dl5, dl6]; omega)⟩
theorem c_L_set (hfl : l.flags = pinnedFlags ++ [noTraceFlag]) {a b : Int32} (hx : g x = some (.inr (0, fs))) (hQ : k_CT l D aC n_K_set 16 4000 [.ref x, .int a, .int b] g Q) (h1 : ∀ v g1, Q (.inl v) g1 → v = none) (h2 : ∀ C g1, Q (.inr C) g1 → C = IA ∨ C = IS) : k_CT l D aC n_L_set 16 4000 [.ref x, .int a, .int b] g (lV Q 1 2) := by
  refine k_lh hfl n_L_set (hs := [(0, 6, 9, 13, IA), (0, 6, 12, 15, IS)]) he_AS ok_L_set rfl rfl rfl rfl rfl rfl (Nat.le_of_ble_eq_true rfl) 40 ?_
  conv => whnf
  refine ⟨⟨_, hx⟩, (Nat.le_of_ble_eq_true rfl), _, _, _, hQ, by first | omega | exact Nat.le_of_ble_eq_true rfl | (simp only [dl1, dl2, dl3, dl4, dl5, dl6]; omega), by first | omega | exact Nat.le_of_ble_eq_true rfl | (simp only [dl1, dl2, dl3, dl4, dl5, dl6]; omega), fun v g1 hh => ?_, fun C g1 hh => ?_⟩
  · obtain rfl := h1 _ _ hh
    conv => whnf
    refine ⟨⟨_, rfl, rfl⟩, (Or.inl ⟨hh, rfl⟩), by first | omega | exact Nat.le_of_ble_eq_true rfl | (simp only [dl1, dl2, dl3, dl4, dl5, dl6]; omega), by first | omega | exact Nat.le_of_ble_eq_true rfl | (simp only [dl1, dl2, dl3, dl4, dl5, dl6]; omega)⟩
  · rcases h2 _ _ hh with rfl | rfl
    · refine w_endS (q := 9) (by decide +kernel) (fun z => ?_)
      conv => whnf
      refine ⟨⟨_, rfl, rfl⟩, (Or.inr (Or.inl ⟨hh, rfl⟩)), by first | omega | exact Nat.le_of_ble_eq_true rfl | (simp only [dl1, dl2, dl3, dl4, dl5, dl6]; omega), by first | omega | exact Nat.le_of_ble_eq_true rfl | (simp only [dl1, dl2, dl3, dl4, dl5, dl6]; omega)⟩
    · refine w_endS (q := 12) (by decide +kernel) (fun z => ?_)
      conv => whnf
      refine ⟨⟨_, rfl, rfl⟩, (Or.inr (Or.inr ⟨hh, rfl⟩)), by first | omega | exact Nat.le_of_ble_eq_true rfl | (simp only [dl1, dl2, dl3, dl4, dl5, dl6]; omega), by first | omega | exact Nat.le_of_ble_eq_true rfl | (simp only [dl1, dl2, dl3, dl4, dl5, dl6]; omega)⟩
theorem c_L_remove (hfl : l.flags = pinnedFlags ++ [noTraceFlag]) (hx : g x = some (.inr (0, fs))) (hQ : k_CT l D aC n_K_remove 16 4000 [.ref x] g Q) (h1 : ∀ v g1, Q (.inl v) g1 → ∃ y f, v = some (.int y) ∧ g1 o = some (lc f)) (h2 : ∀ C g1, Q (.inr C) g1 → C = IS) : k_CT l D aC n_L_remove 16 4000 [.ref x, .ref o] g (lQ Q o 9 1) := by
  refine k_lh hfl n_L_remove (hs := [(0, 8, 11, 15, IS)]) he_S ok_L_remove rfl rfl rfl rfl rfl rfl (Nat.le_of_ble_eq_true rfl) 40 ?_
  conv => whnf
  refine ⟨⟨_, hx⟩, (Nat.le_of_ble_eq_true rfl), _, _, _, hQ, by first | omega | exact Nat.le_of_ble_eq_true rfl | (simp only [dl1, dl2, dl3, dl4, dl5, dl6]; omega), by first | omega | exact Nat.le_of_ble_eq_true rfl | (simp only [dl1, dl2, dl3, dl4, dl5, dl6]; omega), fun v g1 hh => ?_, fun C g1 hh => ?_⟩
  · obtain ⟨y, f, rfl, ho⟩ := h1 _ _ hh
    conv => whnf
    refine ⟨2, 1, f, 0, ho, rfl, rfl, by decide, by decide, ?_⟩
    conv => whnf
    refine ⟨⟨_, rfl, rfl⟩, (Or.inl ⟨y, g1, f, hh, ho, rfl, rfl⟩), by first | omega | exact Nat.le_of_ble_eq_true rfl | (simp only [dl1, dl2, dl3, dl4, dl5, dl6]; omega), by first | omega | exact Nat.le_of_ble_eq_true rfl | (simp only [dl1, dl2, dl3, dl4, dl5, dl6]; omega)⟩
  · obtain rfl := h2 _ _ hh
    refine w_endS (q := 11) (by decide +kernel) (fun z => ?_)
    conv => whnf
    refine ⟨⟨_, rfl, rfl⟩, (Or.inr (Or.inr ⟨hh, rfl⟩)), by first | omega | exact Nat.le_of_ble_eq_true rfl | (simp only [dl1, dl2, dl3, dl4, dl5, dl6]; omega), by first | omega | exact Nat.le_of_ble_eq_true rfl | (simp only [dl1, dl2, dl3, dl4, dl5, dl6]; omega)⟩
theorem c_L_begin (hfl : l.flags = pinnedFlags ++ [noTraceFlag]) {a : Int32} (hx : g x = some (.inr (0, fs))) (hQ : k_CT l D aC n_K_begin 16 4000 [.ref x, .int a] g Q) (h1 : ∀ v g1, Q (.inl v) g1 → ∃ y f, v = some (.int y) ∧ g1 o = some (lc f)) (h2 : ∀ C g1, Q (.inr C) g1 → C = IA ∨ C = IS) : k_CT l D aC n_L_begin 16 4000 [.ref x, .int a, .ref o] g (lQ Q o 1 2) := by
  refine k_lh hfl n_L_begin (hs := [(0, 9, 12, 13, IA), (0, 9, 15, 15, IS)]) he_AS ok_L_begin rfl rfl rfl rfl rfl rfl (Nat.le_of_ble_eq_true rfl) 40 ?_
  conv => whnf
  refine ⟨⟨_, hx⟩, (Nat.le_of_ble_eq_true rfl), _, _, _, hQ, by first | omega | exact Nat.le_of_ble_eq_true rfl | (simp only [dl1, dl2, dl3, dl4, dl5, dl6]; omega), by first | omega | exact Nat.le_of_ble_eq_true rfl | (simp only [dl1, dl2, dl3, dl4, dl5, dl6]; omega), fun v g1 hh => ?_, fun C g1 hh => ?_⟩
  · obtain ⟨y, f, rfl, ho⟩ := h1 _ _ hh
    conv => whnf
    refine ⟨2, 1, f, 0, ho, rfl, rfl, by decide, by decide, ?_⟩
    conv => whnf
    refine ⟨⟨_, rfl, rfl⟩, (Or.inl ⟨y, g1, f, hh, ho, rfl, rfl⟩), by first | omega | exact Nat.le_of_ble_eq_true rfl | (simp only [dl1, dl2, dl3, dl4, dl5, dl6]; omega), by first | omega | exact Nat.le_of_ble_eq_true rfl | (simp only [dl1, dl2, dl3, dl4, dl5, dl6]; omega)⟩
  · rcases h2 _ _ hh with rfl | rfl
    · refine w_endS (q := 12) (by decide +kernel) (fun z => ?_)
      conv => whnf
      refine ⟨⟨_, rfl, rfl⟩, (Or.inr (Or.inl ⟨hh, rfl⟩)), by first | omega | exact Nat.le_of_ble_eq_true rfl | (simp only [dl1, dl2, dl3, dl4, dl5, dl6]; omega), by first | omega | exact Nat.le_of_ble_eq_true rfl | (simp only [dl1, dl2, dl3, dl4, dl5, dl6]; omega)⟩
    · refine w_endS (q := 15) (by decide +kernel) (fun z => ?_)
      conv => whnf
      refine ⟨⟨_, rfl, rfl⟩, (Or.inr (Or.inr ⟨hh, rfl⟩)), by first | omega | exact Nat.le_of_ble_eq_true rfl | (simp only [dl1, dl2, dl3, dl4, dl5, dl6]; omega), by first | omega | exact Nat.le_of_ble_eq_true rfl | (simp only [dl1, dl2, dl3, dl4, dl5, dl6]; omega)⟩
theorem c_L_step (hfl : l.flags = pinnedFlags ++ [noTraceFlag]) {a : Int32} (hx : g x = some (.inr (0, fs))) (hQ : k_CT l D aC n_K_step 16 4000 [.ref x, .int a] g Q) (h1 : ∀ v g1, Q (.inl v) g1 → ∃ y f, v = some (.int y) ∧ g1 o = some (lc f)) (h2 : ∀ C g1, Q (.inr C) g1 → C = IA ∨ C = IS) : k_CT l D aC n_L_step 16 4000 [.ref x, .int a, .ref o] g (lQ Q o 2 1) := by
  refine k_lh hfl n_L_step (hs := [(0, 9, 12, 15, IS), (0, 9, 15, 13, IA)]) he_SA ok_L_step rfl rfl rfl rfl rfl rfl (Nat.le_of_ble_eq_true rfl) 40 ?_
  conv => whnf
  refine ⟨⟨_, hx⟩, (Nat.le_of_ble_eq_true rfl), _, _, _, hQ, by first | omega | exact Nat.le_of_ble_eq_true rfl | (simp only [dl1, dl2, dl3, dl4, dl5, dl6]; omega), by first | omega | exact Nat.le_of_ble_eq_true rfl | (simp only [dl1, dl2, dl3, dl4, dl5, dl6]; omega), fun v g1 hh => ?_, fun C g1 hh => ?_⟩
  · obtain ⟨y, f, rfl, ho⟩ := h1 _ _ hh
    conv => whnf
    refine ⟨2, 1, f, 0, ho, rfl, rfl, by decide, by decide, ?_⟩
    conv => whnf
    refine ⟨⟨_, rfl, rfl⟩, (Or.inl ⟨y, g1, f, hh, ho, rfl, rfl⟩), by first | omega | exact Nat.le_of_ble_eq_true rfl | (simp only [dl1, dl2, dl3, dl4, dl5, dl6]; omega), by first | omega | exact Nat.le_of_ble_eq_true rfl | (simp only [dl1, dl2, dl3, dl4, dl5, dl6]; omega)⟩
  · rcases h2 _ _ hh with rfl | rfl
    · refine w_endS (q := 15) (by decide +kernel) (fun z => ?_)
      conv => whnf
      refine ⟨⟨_, rfl, rfl⟩, (Or.inr (Or.inl ⟨hh, rfl⟩)), by first | omega | exact Nat.le_of_ble_eq_true rfl | (simp only [dl1, dl2, dl3, dl4, dl5, dl6]; omega), by first | omega | exact Nat.le_of_ble_eq_true rfl | (simp only [dl1, dl2, dl3, dl4, dl5, dl6]; omega)⟩
    · refine w_endS (q := 12) (by decide +kernel) (fun z => ?_)
      conv => whnf
      refine ⟨⟨_, rfl, rfl⟩, (Or.inr (Or.inr ⟨hh, rfl⟩)), by first | omega | exact Nat.le_of_ble_eq_true rfl | (simp only [dl1, dl2, dl3, dl4, dl5, dl6]; omega), by first | omega | exact Nat.le_of_ble_eq_true rfl | (simp only [dl1, dl2, dl3, dl4, dl5, dl6]; omega)⟩
theorem c_L_crash (hfl : l.flags = pinnedFlags ++ [noTraceFlag]) (hx : g x = some (.inr (0, fs))) (hQ : k_CT l D aC n_K_crash 16 4000 [.ref x] g Q) (h1 : ∀ v g1, Q (.inl v) g1 → v = none) (h2 : ∀ C g1, Q (.inr C) g1 → C = IS) : k_CT l D aC n_L_crash 16 4000 [.ref x] g (lV Q 9 1) := by
  refine k_lh hfl n_L_crash (hs := [(0, 4, 7, 15, IS)]) he_S ok_L_crash rfl rfl rfl rfl rfl rfl (Nat.le_of_ble_eq_true rfl) 40 ?_
  conv => whnf
  refine ⟨⟨_, hx⟩, (Nat.le_of_ble_eq_true rfl), _, _, _, hQ, by first | omega | exact Nat.le_of_ble_eq_true rfl | (simp only [dl1, dl2, dl3, dl4, dl5, dl6]; omega), by first | omega | exact Nat.le_of_ble_eq_true rfl | (simp only [dl1, dl2, dl3, dl4, dl5, dl6]; omega), fun v g1 hh => ?_, fun C g1 hh => ?_⟩
  · obtain rfl := h1 _ _ hh
    conv => whnf
    refine ⟨⟨_, rfl, rfl⟩, (Or.inl ⟨hh, rfl⟩), by first | omega | exact Nat.le_of_ble_eq_true rfl | (simp only [dl1, dl2, dl3, dl4, dl5, dl6]; omega), by first | omega | exact Nat.le_of_ble_eq_true rfl | (simp only [dl1, dl2, dl3, dl4, dl5, dl6]; omega)⟩
  · obtain rfl := h2 _ _ hh
    refine w_endS (q := 7) (by decide +kernel) (fun z => ?_)
    conv => whnf
    refine ⟨⟨_, rfl, rfl⟩, (Or.inr (Or.inr ⟨hh, rfl⟩)), by first | omega | exact Nat.le_of_ble_eq_true rfl | (simp only [dl1, dl2, dl3, dl4, dl5, dl6]; omega), by first | omega | exact Nat.le_of_ble_eq_true rfl | (simp only [dl1, dl2, dl3, dl4, dl5, dl6]; omega)⟩
theorem c_L_regress (hfl : l.flags = pinnedFlags ++ [noTraceFlag]) {a : Int32} (hx : g x = some (.inr (0, fs))) (hQ : k_CT l D aC n_K_regress 16 4000 [.ref x, .int a] g Q) (h1 : ∀ v g1, Q (.inl v) g1 → ∃ y f, v = some (.int y) ∧ g1 o = some (lc f)) (h2 : ∀ C g1, Q (.inr C) g1 → C = IA ∨ C = IS) : k_CT l D aC n_L_regress 16 4000 [.ref x, .int a, .ref o] g (lQ Q o 2 1) := by
  refine k_lh hfl n_L_regress (hs := [(0, 9, 12, 15, IS), (0, 9, 15, 13, IA)]) he_SA ok_L_regress rfl rfl rfl rfl rfl rfl (Nat.le_of_ble_eq_true rfl) 40 ?_
  conv => whnf
  refine ⟨⟨_, hx⟩, (Nat.le_of_ble_eq_true rfl), _, _, _, hQ, by first | omega | exact Nat.le_of_ble_eq_true rfl | (simp only [dl1, dl2, dl3, dl4, dl5, dl6]; omega), by first | omega | exact Nat.le_of_ble_eq_true rfl | (simp only [dl1, dl2, dl3, dl4, dl5, dl6]; omega), fun v g1 hh => ?_, fun C g1 hh => ?_⟩
  · obtain ⟨y, f, rfl, ho⟩ := h1 _ _ hh
    conv => whnf
    refine ⟨2, 1, f, 0, ho, rfl, rfl, by decide, by decide, ?_⟩
    conv => whnf
    refine ⟨⟨_, rfl, rfl⟩, (Or.inl ⟨y, g1, f, hh, ho, rfl, rfl⟩), by first | omega | exact Nat.le_of_ble_eq_true rfl | (simp only [dl1, dl2, dl3, dl4, dl5, dl6]; omega), by first | omega | exact Nat.le_of_ble_eq_true rfl | (simp only [dl1, dl2, dl3, dl4, dl5, dl6]; omega)⟩
  · rcases h2 _ _ hh with rfl | rfl
    · refine w_endS (q := 15) (by decide +kernel) (fun z => ?_)
      conv => whnf
      refine ⟨⟨_, rfl, rfl⟩, (Or.inr (Or.inl ⟨hh, rfl⟩)), by first | omega | exact Nat.le_of_ble_eq_true rfl | (simp only [dl1, dl2, dl3, dl4, dl5, dl6]; omega), by first | omega | exact Nat.le_of_ble_eq_true rfl | (simp only [dl1, dl2, dl3, dl4, dl5, dl6]; omega)⟩
    · refine w_endS (q := 12) (by decide +kernel) (fun z => ?_)
      conv => whnf
      refine ⟨⟨_, rfl, rfl⟩, (Or.inr (Or.inr ⟨hh, rfl⟩)), by first | omega | exact Nat.le_of_ble_eq_true rfl | (simp only [dl1, dl2, dl3, dl4, dl5, dl6]; omega), by first | omega | exact Nat.le_of_ble_eq_true rfl | (simp only [dl1, dl2, dl3, dl4, dl5, dl6]; omega)⟩
theorem c_L_restore (hfl : l.flags = pinnedFlags ++ [noTraceFlag]) {a : Int32} (hx : g x = some (.inr (0, fs))) (hQ : k_CT l D aC n_K_restore 16 4000 [.ref x, .int a] g Q) (h1 : ∀ v g1, Q (.inl v) g1 → ∃ y f, v = some (.int y) ∧ g1 o = some (lc f)) (h2 : ∀ C g1, Q (.inr C) g1 → C = IS) : k_CT l D aC n_L_restore 16 4000 [.ref x, .int a, .ref o] g (lQ Q o 9 1) := by
  refine k_lh hfl n_L_restore (hs := [(0, 9, 12, 15, IS)]) he_S ok_L_restore rfl rfl rfl rfl rfl rfl (Nat.le_of_ble_eq_true rfl) 40 ?_
  conv => whnf
  refine ⟨⟨_, hx⟩, (Nat.le_of_ble_eq_true rfl), _, _, _, hQ, by first | omega | exact Nat.le_of_ble_eq_true rfl | (simp only [dl1, dl2, dl3, dl4, dl5, dl6]; omega), by first | omega | exact Nat.le_of_ble_eq_true rfl | (simp only [dl1, dl2, dl3, dl4, dl5, dl6]; omega), fun v g1 hh => ?_, fun C g1 hh => ?_⟩
  · obtain ⟨y, f, rfl, ho⟩ := h1 _ _ hh
    conv => whnf
    refine ⟨2, 1, f, 0, ho, rfl, rfl, by decide, by decide, ?_⟩
    conv => whnf
    refine ⟨⟨_, rfl, rfl⟩, (Or.inl ⟨y, g1, f, hh, ho, rfl, rfl⟩), by first | omega | exact Nat.le_of_ble_eq_true rfl | (simp only [dl1, dl2, dl3, dl4, dl5, dl6]; omega), by first | omega | exact Nat.le_of_ble_eq_true rfl | (simp only [dl1, dl2, dl3, dl4, dl5, dl6]; omega)⟩
  · obtain rfl := h2 _ _ hh
    refine w_endS (q := 12) (by decide +kernel) (fun z => ?_)
    conv => whnf
    refine ⟨⟨_, rfl, rfl⟩, (Or.inr (Or.inr ⟨hh, rfl⟩)), by first | omega | exact Nat.le_of_ble_eq_true rfl | (simp only [dl1, dl2, dl3, dl4, dl5, dl6]; omega), by first | omega | exact Nat.le_of_ble_eq_true rfl | (simp only [dl1, dl2, dl3, dl4, dl5, dl6]; omega)⟩
theorem c_L_prune (hfl : l.flags = pinnedFlags ++ [noTraceFlag]) {a : Int32} (hx : g x = some (.inr (0, fs))) (hQ : k_CT l D aC n_K_prune 16 4000 [.ref x, .int a] g Q) (h1 : ∀ v g1, Q (.inl v) g1 → ∃ y f, v = some (.int y) ∧ g1 o = some (lc f)) (h2 : ∀ C g1, Q (.inr C) g1 → C = IS) : k_CT l D aC n_L_prune 16 4000 [.ref x, .int a, .ref o] g (lQ Q o 9 1) := by
  refine k_lh hfl n_L_prune (hs := [(0, 9, 12, 15, IS)]) he_S ok_L_prune rfl rfl rfl rfl rfl rfl (Nat.le_of_ble_eq_true rfl) 40 ?_
  conv => whnf
  refine ⟨⟨_, hx⟩, (Nat.le_of_ble_eq_true rfl), _, _, _, hQ, by first | omega | exact Nat.le_of_ble_eq_true rfl | (simp only [dl1, dl2, dl3, dl4, dl5, dl6]; omega), by first | omega | exact Nat.le_of_ble_eq_true rfl | (simp only [dl1, dl2, dl3, dl4, dl5, dl6]; omega), fun v g1 hh => ?_, fun C g1 hh => ?_⟩
  · obtain ⟨y, f, rfl, ho⟩ := h1 _ _ hh
    conv => whnf
    refine ⟨2, 1, f, 0, ho, rfl, rfl, by decide, by decide, ?_⟩
    conv => whnf
    refine ⟨⟨_, rfl, rfl⟩, (Or.inl ⟨y, g1, f, hh, ho, rfl, rfl⟩), by first | omega | exact Nat.le_of_ble_eq_true rfl | (simp only [dl1, dl2, dl3, dl4, dl5, dl6]; omega), by first | omega | exact Nat.le_of_ble_eq_true rfl | (simp only [dl1, dl2, dl3, dl4, dl5, dl6]; omega)⟩
  · obtain rfl := h2 _ _ hh
    refine w_endS (q := 12) (by decide +kernel) (fun z => ?_)
    conv => whnf
    refine ⟨⟨_, rfl, rfl⟩, (Or.inr (Or.inr ⟨hh, rfl⟩)), by first | omega | exact Nat.le_of_ble_eq_true rfl | (simp only [dl1, dl2, dl3, dl4, dl5, dl6]; omega), by first | omega | exact Nat.le_of_ble_eq_true rfl | (simp only [dl1, dl2, dl3, dl4, dl5, dl6]; omega)⟩
end LHP
