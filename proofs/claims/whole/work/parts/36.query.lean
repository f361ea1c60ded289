/-! MirrorKeep: feed, end, and what only looks -/
section KQ
def kO (ad : Nat → Nat) (g : g_H) (v : x_O) (R T : List Nat) (S M Rs : List Ent) (Hs : List Ses) (X : List Chg) (ch st tm dn : Int32) : x_O → g_H → Prop := fun oc g1 => oc = v ∧ fx (UU ad) g g1 ∧ ∃ rs, cK ad g1 R T S M Rs Hs X ch st tm dn rs
def f5 (a b c d e : Int32) : Nat → Int32 := upd (upd (upd (upd (upd (fun _ => 0) 0 a) 1 b) 2 c) 3 d) 4 e
/-- the entry that a tree's number and a place name -/
def eT (S M Rs : List Ent) (t i : Int32) : Option Ent := if t.toInt = 0 then atI S i else if t.toInt = 1 then atI M i else if t.toInt = 2 then atI Rs i else none
def eA (o : Option Ent) (w : Int32) : Int32 := match o with
  | none => -1
  | some E => if w.toInt = 0 then E.2.1 else if w.toInt = 1 then E.2.2.1 else if w.toInt = 2 then E.2.2.2.1 else if w.toInt = 3 then nI (eC E).length else if w.toInt = 4 then nI E.1.length else -1
def bA (L : List Nat) (k : Int32) : Int32 := match atI L k with
  | none => -1
  | some b => nI b
def tA (o : Option Ent) (p : Bool) (k : Int32) : Int32 := match o with
  | none => -1
  | some E => bA (if p then E.1 else eC E) k
def sA (Hs : List Ses) (i w : Int32) : Int32 := match atI Hs i with
  | none => -1
  | some S => if w.toInt = 0 then S.1 else if w.toInt = 1 then (if i = 0 then -1 else nI S.2.1) else -1
def aA (T : List Nat) (S M Rs : List Ent) (Hs : List Ses) (nX op : Nat) (st w : Int32) : Int32 :=
  if w.toInt = 0 then st else if w.toInt = 1 then nI Hs.length else if w.toInt = 2 then nI op else if w.toInt = 3 then nI S.length else if w.toInt = 4 then nI M.length else if w.toInt = 5 then nI Rs.length else if w.toInt = 6 then nI (sumC S) else if w.toInt = 7 then nI (sumH Hs + min (op / 2) nX) else if w.toInt = 8 then nI T.length else -1
variable {ad : Nat → Nat} {g : g_H} {R T : List Nat} {S M Rs : List Ent} {Hs : List Ses} {X : List Chg} {ch st tm dn : Int32} {rs : Nat}
variable {l : Launch} {D : va_G} {aC : Nat → ClassId}
theorem kO_same {v : x_O} (h : cK ad g R T S M Rs Hs X ch st tm dn rs) : kO ad g v R T S M Rs Hs X ch st tm dn v g := ⟨rfl, fx_rf, rs, h⟩
theorem c_K_feed (hfl : l.flags = pinnedFlags ++ [noTraceFlag]) (h : cK ad g R T S M Rs Hs X ch st tm dn rs) {a b c d e : Int32} : k_CT l D aC n_K_feed 1 5 [.ref (ad 0), .int a, .int b, .int c, .int d, .int e] g (kO ad g (.inl none) (rdy (f5 a b c d e)) T S M Rs Hs X ch st tm dn) := by
  refine k_ln hfl n_K_feed ok_K_feed rfl rfl rfl rfl rfl rfl (fun h => by cases h) (Nat.le_of_ble_eq_true rfl) 60 ?_
  conv => whnf
  refine ⟨5, rfl, by decide, (Nat.le_of_ble_eq_true rfl), (Nat.le_of_ble_eq_true rfl), fun q hq => ?_⟩
  conv => whnf
  refine ⟨1, _, _, 0, g_up_s, rfl, rfl, by decide, by first | decide | omega, ?_⟩
  rw [g_up_up]
  conv => whnf
  refine ⟨1, _, _, 1, g_up_s, rfl, rfl, by decide, by first | decide | omega, ?_⟩
  rw [g_up_up]
  conv => whnf
  refine ⟨1, _, _, 2, g_up_s, rfl, rfl, by decide, by first | decide | omega, ?_⟩
  rw [g_up_up]
  conv => whnf
  refine ⟨1, _, _, 3, g_up_s, rfl, rfl, by decide, by first | decide | omega, ?_⟩
  rw [g_up_up]
  conv => whnf
  refine ⟨1, _, _, 4, g_up_s, rfl, rfl, by decide, by first | decide | omega, ?_⟩
  rw [g_up_up]
  have hf : fx (List.map ad []) g (g_up g q (.inl (1, 5, .inl (f5 a b c d e)))) := fx_new fx_rf hq
  have h1 := cK_fx h hf
  obtain ⟨hj, z1, t1, -⟩ := id h1
  obtain ⟨r1, r2, t2, -⟩ := id t1
  conv => whnf
  refine ⟨_, _, z1, rfl, ?_⟩
  conv => whnf
  refine ⟨⟨_, t2⟩, (Nat.le_of_ble_eq_true rfl), _, _, _, c_T_makeReady hfl t1 g_up_s, by first | omega | exact Nat.le_of_ble_eq_true rfl | (simp only [dl1, dl2, dl3, dl4, dl5, dl6]; omega), by first | omega | exact Nat.le_of_ble_eq_true rfl | (simp only [dl1, dl2, dl3, dl4, dl5, dl6]; omega), fun v g1 hh => ?_, fun C g1 hh => ?_⟩
  · obtain ⟨hv, h2, h3⟩ := hh
    cases hv
    conv => whnf
    refine ⟨rfl, ?_, by first | omega | exact Nat.le_of_ble_eq_true rfl | (simp only [dl1, dl2, dl3, dl4, dl5, dl6]; omega), by first | omega | exact Nat.le_of_ble_eq_true rfl | (simp only [dl1, dl2, dl3, dl4, dl5, dl6]; omega)⟩
    have h4 : fx (List.map ad [1, 2, 3]) (g_up g q (.inl (1, 5, .inl (f5 a b c d e)))) g1 := fx_sub h3 (by simp)
    exact ⟨rfl, fx_tr (fx_sub hf (by simp)) (fx_sub h4 (sUU rfl)), rs, cK_tp h1 h2 h4⟩
  · cases hh.1
theorem c_K_end_no (hfl : l.flags = pinnedFlags ++ [noTraceFlag]) (h : cK ad g R T S M Rs Hs X ch st tm dn rs) {x : Int32} (hx : x.toInt < 0 ∨ 20 < x.toInt ∨ 400 - (T.length : Int) < x.toInt) : k_CT l D aC n_K_end 0 0 [.ref (ad 0), .int x] g (kO ad g (.inl (some (.int (-1)))) R T S M Rs Hs X ch st tm dn) := by
  obtain ⟨hj, z1, t1, -⟩ := id h
  obtain ⟨r1, r2, t2, -⟩ := id t1
  refine k_ln hfl n_K_end ok_K_end rfl rfl rfl rfl rfl rfl (fun h => by cases h) (Nat.le_of_ble_eq_true rfl) 60 ?_
  conv => whnf
  refine ⟨_, _, z1, rfl, ?_⟩
  conv => whnf
  refine ⟨⟨_, t2⟩, (Nat.le_of_ble_eq_true rfl), _, _, _, c_T_append_no hfl t1 hx, by first | omega | exact Nat.le_of_ble_eq_true rfl | (simp only [dl1, dl2, dl3, dl4, dl5, dl6]; omega), by first | omega | exact Nat.le_of_ble_eq_true rfl | (simp only [dl1, dl2, dl3, dl4, dl5, dl6]; omega), k_rl ?_, k_rr⟩
  conv => whnf
  refine ⟨⟨_, rfl, rfl⟩, kO_same h, by first | omega | exact Nat.le_of_ble_eq_true rfl | (simp only [dl1, dl2, dl3, dl4, dl5, dl6]; omega), by first | omega | exact Nat.le_of_ble_eq_true rfl | (simp only [dl1, dl2, dl3, dl4, dl5, dl6]; omega)⟩
theorem c_K_end (hfl : l.flags = pinnedFlags ++ [noTraceFlag]) (h : cK ad g R T S M Rs Hs X ch st tm dn rs) {n : Nat} (hn : n ≤ 20) (hl : T.length + n ≤ 400) : k_CT l D aC n_K_end 0 0 [.ref (ad 0), .int (nI n)] g (kO ad g (.inl (some (.int (nI (T.length + n))))) (List.replicate 20 0) (T ++ R.take n) S M Rs Hs X ch st tm dn) := by
  obtain ⟨hj, z1, t1, -⟩ := id h
  obtain ⟨r1, r2, t2, -⟩ := id t1
  refine k_ln hfl n_K_end ok_K_end rfl rfl rfl rfl rfl rfl (fun h => by cases h) (Nat.le_of_ble_eq_true rfl) 60 ?_
  conv => whnf
  refine ⟨_, _, z1, rfl, ?_⟩
  conv => whnf
  refine ⟨⟨_, t2⟩, (Nat.le_of_ble_eq_true rfl), _, _, _, c_T_append hfl t1 hn hl, by first | omega | exact Nat.le_of_ble_eq_true rfl | (simp only [dl1, dl2, dl3, dl4, dl5, dl6]; omega), by first | omega | exact Nat.le_of_ble_eq_true rfl | (simp only [dl1, dl2, dl3, dl4, dl5, dl6]; omega), fun v g1 hh => ?_, fun C g1 hh => ?_⟩
  · obtain ⟨hv, h2, h3⟩ := hh
    cases hv
    conv => whnf
    refine ⟨⟨_, rfl, rfl⟩, ?_, by first | omega | exact Nat.le_of_ble_eq_true rfl | (simp only [dl1, dl2, dl3, dl4, dl5, dl6]; omega), by first | omega | exact Nat.le_of_ble_eq_true rfl | (simp only [dl1, dl2, dl3, dl4, dl5, dl6]; omega)⟩
    obtain ⟨u1, u2, u3, u4, u5, -⟩ := id h2
    have h4 : fx (List.map ad [1, 2, 3]) g g1 := fx_of_fr h3 (fun q hq => Or.inr ⟨hq, by
      simp only [List.mem_cons, List.not_mem_nil, or_false] at hq
      rcases hq with rfl | rfl | rfl
      · exact nn_of u3
      · exact nn_of u4
      · exact nn_of u5⟩)
    exact ⟨rfl, fx_sub h4 (sUU rfl), rs, cK_tp h h2 h4⟩
  · cases hh.1
theorem c_K_entryOfTree (hfl : l.flags = pinnedFlags ++ [noTraceFlag]) (h : cK ad g R T S M Rs Hs X ch st tm dn rs) {x y : Int32} : k_CT l D aC n_K_entryOfTree 0 0 [.ref (ad 0), .int x, .int y] g (fun oc g1 => g1 = g ∧ ∃ v, oc = .inl (some v) ∧ oE (UU ad) g v (eT S M Rs x y)) := by
  obtain ⟨hj, z1, t1, s1, m1, ⟨ra, r1, -⟩, -⟩ := id h
  obtain ⟨f1, s2, -⟩ := id s1
  obtain ⟨f2, m2, -⟩ := id m1
  obtain ⟨f3, r2, -⟩ := id r1
  refine k_ln hfl n_K_entryOfTree ok_K_entryOfTree rfl rfl rfl rfl rfl rfl (fun h => by cases h) (Nat.le_of_ble_eq_true rfl) 60 ?_
  conv => whnf
  refine ⟨⟨fun h0 => ?_, fun h0 => ?_, fun h0 => ?_, trivial⟩, fun h0 => ?_⟩
  · have h9 : x.toInt = 0 := h0
    conv => whnf
    refine ⟨_, _, z1, rfl, ?_⟩
    conv => whnf
    refine ⟨⟨_, s2⟩, (Nat.le_of_ble_eq_true rfl), _, _, _, c_R_entryAt' hfl s1, by first | omega | exact Nat.le_of_ble_eq_true rfl | (simp only [dl1, dl2, dl3, dl4, dl5, dl6]; omega), by first | omega | exact Nat.le_of_ble_eq_true rfl | (simp only [dl1, dl2, dl3, dl4, dl5, dl6]; omega), fun v g1 hh => ?_, fun C g1 hh => ?_⟩
    · obtain ⟨rfl, v, hv, hE⟩ := hh
      cases hv
      have hg : oE (UU ad) g1 v (eT S M Rs x y) := by rw [eT, if_pos h9]; exact hE
      generalize atI S y = o at hE
      cases o with
      | none =>
        cases hE
        conv => whnf
        refine ⟨⟨_, rfl, Or.inl ⟨_, rfl⟩⟩, ⟨rfl, _, rfl, hg⟩, by first | omega | exact Nat.le_of_ble_eq_true rfl | (simp only [dl1, dl2, dl3, dl4, dl5, dl6]; omega), by first | omega | exact Nat.le_of_ble_eq_true rfl | (simp only [dl1, dl2, dl3, dl4, dl5, dl6]; omega)⟩
      | some E =>
        obtain ⟨b, rfl, -⟩ := hE
        conv => whnf
        refine ⟨⟨_, rfl, Or.inl ⟨_, rfl⟩⟩, ⟨rfl, _, rfl, hg⟩, by first | omega | exact Nat.le_of_ble_eq_true rfl | (simp only [dl1, dl2, dl3, dl4, dl5, dl6]; omega), by first | omega | exact Nat.le_of_ble_eq_true rfl | (simp only [dl1, dl2, dl3, dl4, dl5, dl6]; omega)⟩
    · obtain ⟨-, v, hv, -⟩ := hh
      cases hv
  · have h9 : x.toInt = 1 := h0
    conv => whnf
    refine ⟨_, _, z1, rfl, ?_⟩
    conv => whnf
    refine ⟨⟨_, m2⟩, (Nat.le_of_ble_eq_true rfl), _, _, _, c_R_entryAt' hfl m1, by first | omega | exact Nat.le_of_ble_eq_true rfl | (simp only [dl1, dl2, dl3, dl4, dl5, dl6]; omega), by first | omega | exact Nat.le_of_ble_eq_true rfl | (simp only [dl1, dl2, dl3, dl4, dl5, dl6]; omega), fun v g1 hh => ?_, fun C g1 hh => ?_⟩
    · obtain ⟨rfl, v, hv, hE⟩ := hh
      cases hv
      have hg : oE (UU ad) g1 v (eT S M Rs x y) := by rw [eT, if_neg (by omega), if_pos h9]; exact hE
      generalize atI M y = o at hE
      cases o with
      | none =>
        cases hE
        conv => whnf
        refine ⟨⟨_, rfl, Or.inl ⟨_, rfl⟩⟩, ⟨rfl, _, rfl, hg⟩, by first | omega | exact Nat.le_of_ble_eq_true rfl | (simp only [dl1, dl2, dl3, dl4, dl5, dl6]; omega), by first | omega | exact Nat.le_of_ble_eq_true rfl | (simp only [dl1, dl2, dl3, dl4, dl5, dl6]; omega)⟩
      | some E =>
        obtain ⟨b, rfl, -⟩ := hE
        conv => whnf
        refine ⟨⟨_, rfl, Or.inl ⟨_, rfl⟩⟩, ⟨rfl, _, rfl, hg⟩, by first | omega | exact Nat.le_of_ble_eq_true rfl | (simp only [dl1, dl2, dl3, dl4, dl5, dl6]; omega), by first | omega | exact Nat.le_of_ble_eq_true rfl | (simp only [dl1, dl2, dl3, dl4, dl5, dl6]; omega)⟩
    · obtain ⟨-, v, hv, -⟩ := hh
      cases hv
  · have h9 : x.toInt = 2 := h0
    conv => whnf
    refine ⟨_, _, z1, rfl, ?_⟩
    conv => whnf
    refine ⟨⟨_, r2⟩, (Nat.le_of_ble_eq_true rfl), _, _, _, c_R_entryAt' hfl r1, by first | omega | exact Nat.le_of_ble_eq_true rfl | (simp only [dl1, dl2, dl3, dl4, dl5, dl6]; omega), by first | omega | exact Nat.le_of_ble_eq_true rfl | (simp only [dl1, dl2, dl3, dl4, dl5, dl6]; omega), fun v g1 hh => ?_, fun C g1 hh => ?_⟩
    · obtain ⟨rfl, v, hv, hE⟩ := hh
      cases hv
      have hg : oE (UU ad) g1 v (eT S M Rs x y) := by rw [eT, if_neg (by omega), if_neg (by omega), if_pos h9]; exact hE
      generalize atI Rs y = o at hE
      cases o with
      | none =>
        cases hE
        conv => whnf
        refine ⟨⟨_, rfl, Or.inl ⟨_, rfl⟩⟩, ⟨rfl, _, rfl, hg⟩, by first | omega | exact Nat.le_of_ble_eq_true rfl | (simp only [dl1, dl2, dl3, dl4, dl5, dl6]; omega), by first | omega | exact Nat.le_of_ble_eq_true rfl | (simp only [dl1, dl2, dl3, dl4, dl5, dl6]; omega)⟩
      | some E =>
        obtain ⟨b, rfl, -⟩ := hE
        conv => whnf
        refine ⟨⟨_, rfl, Or.inl ⟨_, rfl⟩⟩, ⟨rfl, _, rfl, hg⟩, by first | omega | exact Nat.le_of_ble_eq_true rfl | (simp only [dl1, dl2, dl3, dl4, dl5, dl6]; omega), by first | omega | exact Nat.le_of_ble_eq_true rfl | (simp only [dl1, dl2, dl3, dl4, dl5, dl6]; omega)⟩
    · obtain ⟨-, v, hv, -⟩ := hh
      cases hv
  · have h9 : x.toInt < 0 ∨ 2 < x.toInt := h0
    conv => whnf
    refine ⟨⟨_, rfl, Or.inl ⟨_, rfl⟩⟩, ?_, by first | omega | exact Nat.le_of_ble_eq_true rfl | (simp only [dl1, dl2, dl3, dl4, dl5, dl6]; omega), by first | omega | exact Nat.le_of_ble_eq_true rfl | (simp only [dl1, dl2, dl3, dl4, dl5, dl6]; omega)⟩
    exact ⟨rfl, _, rfl, by rw [eT, if_neg (by omega), if_neg (by omega), if_neg (by omega)]; rfl⟩
theorem c_K_entry (hfl : l.flags = pinnedFlags ++ [noTraceFlag]) (h : cK ad g R T S M Rs Hs X ch st tm dn rs) {x y w : Int32} : k_CT l D aC n_K_entry 0 0 [.ref (ad 0), .int x, .int y, .int w] g (kO ad g (.inl (some (.int (eA (eT S M Rs x y) w)))) R T S M Rs Hs X ch st tm dn) := by
  obtain ⟨hj, z1, -⟩ := id h
  refine k_ln hfl n_K_entry ok_K_entry rfl rfl rfl rfl rfl rfl (fun h => by cases h) (Nat.le_of_ble_eq_true rfl) 60 ?_
  conv => whnf
  refine ⟨⟨_, z1⟩, (Nat.le_of_ble_eq_true rfl), _, _, _, c_K_entryOfTree hfl h, by first | omega | exact Nat.le_of_ble_eq_true rfl | (simp only [dl1, dl2, dl3, dl4, dl5, dl6]; omega), by first | omega | exact Nat.le_of_ble_eq_true rfl | (simp only [dl1, dl2, dl3, dl4, dl5, dl6]; omega), fun v g1 hh => ?_, fun C g1 hh => ?_⟩
  · obtain ⟨rfl, v, hv, hE⟩ := hh
    cases hv
    generalize eT S M Rs x y = o at hE ⊢
    cases o with
    | none =>
      cases hE
      conv => whnf
      refine ⟨⟨_, rfl, rfl⟩, kO_same h, by first | omega | exact Nat.le_of_ble_eq_true rfl | (simp only [dl1, dl2, dl3, dl4, dl5, dl6]; omega), by first | omega | exact Nat.le_of_ble_eq_true rfl | (simp only [dl1, dl2, dl3, dl4, dl5, dl6]; omega)⟩
    | some E =>
      obtain ⟨b, rfl, ⟨p, c, e1, ⟨f1, e2, -⟩, ⟨f2, e3, -⟩, -⟩⟩ := hE
      conv => whnf
      refine ⟨⟨fun h0 => ?_, fun h0 => ?_, fun h0 => ?_, fun h0 => ?_, fun h0 => ?_, trivial⟩, fun h0 => ?_⟩
      · have h9 : w.toInt = 0 := h0
        conv => whnf
        refine ⟨_, _, e1, rfl, ?_⟩
        conv => whnf
        refine ⟨⟨_, rfl, rfl⟩, ?_, by first | omega | exact Nat.le_of_ble_eq_true rfl | (simp only [dl1, dl2, dl3, dl4, dl5, dl6]; omega), by first | omega | exact Nat.le_of_ble_eq_true rfl | (simp only [dl1, dl2, dl3, dl4, dl5, dl6]; omega)⟩
        rw [show eA (some E) w = E.2.1 by rw [eA, if_pos h9]]
        exact kO_same h
      · have h9 : w.toInt = 1 := h0
        conv => whnf
        refine ⟨_, _, e1, rfl, ?_⟩
        conv => whnf
        refine ⟨⟨_, rfl, rfl⟩, ?_, by first | omega | exact Nat.le_of_ble_eq_true rfl | (simp only [dl1, dl2, dl3, dl4, dl5, dl6]; omega), by first | omega | exact Nat.le_of_ble_eq_true rfl | (simp only [dl1, dl2, dl3, dl4, dl5, dl6]; omega)⟩
        rw [show eA (some E) w = E.2.2.1 by rw [eA, if_neg (by omega), if_pos h9]]
        exact kO_same h
      · have h9 : w.toInt = 2 := h0
        conv => whnf
        refine ⟨_, _, e1, rfl, ?_⟩
        conv => whnf
        refine ⟨⟨_, rfl, rfl⟩, ?_, by first | omega | exact Nat.le_of_ble_eq_true rfl | (simp only [dl1, dl2, dl3, dl4, dl5, dl6]; omega), by first | omega | exact Nat.le_of_ble_eq_true rfl | (simp only [dl1, dl2, dl3, dl4, dl5, dl6]; omega)⟩
        rw [show eA (some E) w = E.2.2.2.1 by rw [eA, if_neg (by omega), if_neg (by omega), if_pos h9]]
        exact kO_same h
      · have h9 : w.toInt = 3 := h0
        conv => whnf
        refine ⟨_, _, e1, rfl, ?_⟩
        conv => whnf
        refine Or.inl ⟨_, _, e3, by decide, ?_⟩
        conv => whnf
        refine ⟨⟨_, rfl, rfl⟩, ?_, by first | omega | exact Nat.le_of_ble_eq_true rfl | (simp only [dl1, dl2, dl3, dl4, dl5, dl6]; omega), by first | omega | exact Nat.le_of_ble_eq_true rfl | (simp only [dl1, dl2, dl3, dl4, dl5, dl6]; omega)⟩
        rw [show eA (some E) w = nI (eC E).length by rw [eA, if_neg (by omega), if_neg (by omega), if_neg (by omega), if_pos h9]]
        exact kO_same h
      · have h9 : w.toInt = 4 := h0
        conv => whnf
        refine ⟨_, _, e1, rfl, ?_⟩
        conv => whnf
        refine Or.inl ⟨_, _, e2, by decide, ?_⟩
        conv => whnf
        refine ⟨⟨_, rfl, rfl⟩, ?_, by first | omega | exact Nat.le_of_ble_eq_true rfl | (simp only [dl1, dl2, dl3, dl4, dl5, dl6]; omega), by first | omega | exact Nat.le_of_ble_eq_true rfl | (simp only [dl1, dl2, dl3, dl4, dl5, dl6]; omega)⟩
        rw [show eA (some E) w = nI E.1.length by rw [eA, if_neg (by omega), if_neg (by omega), if_neg (by omega), if_neg (by omega), if_pos h9]]
        exact kO_same h
      · have h9 : w.toInt < 0 ∨ 4 < w.toInt := h0
        conv => whnf
        refine ⟨⟨_, rfl, rfl⟩, ?_, by first | omega | exact Nat.le_of_ble_eq_true rfl | (simp only [dl1, dl2, dl3, dl4, dl5, dl6]; omega), by first | omega | exact Nat.le_of_ble_eq_true rfl | (simp only [dl1, dl2, dl3, dl4, dl5, dl6]; omega)⟩
        rw [show eA (some E) w = -1 by rw [eA, if_neg (by omega), if_neg (by omega), if_neg (by omega), if_neg (by omega), if_neg (by omega)]]
        exact kO_same h
  · obtain ⟨-, v, hv, -⟩ := hh
    cases hv
theorem c_K_at (hfl : l.flags = pinnedFlags ++ [noTraceFlag]) (h : cK ad g R T S M Rs Hs X ch st tm dn rs) {x y k : Int32} {p : Bool} : k_CT l D aC n_K_at 0 0 [.ref (ad 0), .int x, .int y, .int (b2 p), .int k] g (kO ad g (.inl (some (.int (tA (eT S M Rs x y) p k)))) R T S M Rs Hs X ch st tm dn) := by
  obtain ⟨hj, z1, -⟩ := id h
  refine k_ln hfl n_K_at ok_K_at rfl rfl rfl rfl rfl rfl (fun h => by cases h) (Nat.le_of_ble_eq_true rfl) 60 ?_
  conv => whnf
  refine ⟨⟨_, z1⟩, (Nat.le_of_ble_eq_true rfl), _, _, _, c_K_entryOfTree hfl h, by first | omega | exact Nat.le_of_ble_eq_true rfl | (simp only [dl1, dl2, dl3, dl4, dl5, dl6]; omega), by first | omega | exact Nat.le_of_ble_eq_true rfl | (simp only [dl1, dl2, dl3, dl4, dl5, dl6]; omega), fun v g1 hh => ?_, fun C g1 hh => ?_⟩
  · obtain ⟨rfl, v, hv, hE⟩ := hh
    cases hv
    generalize eT S M Rs x y = o at hE ⊢
    cases o with
    | none =>
      cases hE
      conv => whnf
      refine ⟨⟨_, rfl, rfl⟩, kO_same h, by first | omega | exact Nat.le_of_ble_eq_true rfl | (simp only [dl1, dl2, dl3, dl4, dl5, dl6]; omega), by first | omega | exact Nat.le_of_ble_eq_true rfl | (simp only [dl1, dl2, dl3, dl4, dl5, dl6]; omega)⟩
    | some E =>
      obtain ⟨b, rfl, ⟨pp, c, e1, ⟨f1, e2, e4, e5, e6⟩, ⟨f2, e3, e7, e8, e9⟩, -⟩⟩ := hE
      cases p with
      | false =>
        conv => whnf
        refine ⟨fun _ => ?_, fun h => absurd b2_f h⟩
        conv => whnf
        refine ⟨_, _, e1, rfl, ?_⟩
        conv => whnf
        refine ⟨fun h1 => ?_, fun h1 => ?_⟩
        · have h1 : k.toInt < 0 := h1
          conv => whnf
          refine ⟨⟨_, rfl, rfl⟩, ?_, by first | omega | exact Nat.le_of_ble_eq_true rfl | (simp only [dl1, dl2, dl3, dl4, dl5, dl6]; omega), by first | omega | exact Nat.le_of_ble_eq_true rfl | (simp only [dl1, dl2, dl3, dl4, dl5, dl6]; omega)⟩
          rw [show tA (some E) false k = -1 by show bA (eC E) k = -1; rw [bA, atI, if_pos h1]]
          exact kO_same h
        · have h1 : ¬ k.toInt < 0 := h1
          obtain ⟨hk, hlt⟩ := nI_ofT h1
          have hat : atI (eC E) k = ((eC E))[k.toInt.toNat]? := by rw [atI, if_neg h1]
          generalize k.toInt.toNat = i at hk hlt hat
          subst hk
          conv => whnf
          refine Or.inl ⟨_, _, e3, by decide, ?_⟩
          conv => whnf
          refine ⟨fun h2 => ?_, fun h2 => ?_⟩
          · have h3 := (q_lt (by omega) (by omega)).mp h2
            conv => whnf
            refine ⟨0, _, _, i, e3, rfl, rfl, h3, by omega, ?_⟩
            rw [e7 i h3]
            conv => whnf
            refine ⟨⟨_, rfl, rfl⟩, ?_, by first | omega | exact Nat.le_of_ble_eq_true rfl | (simp only [dl1, dl2, dl3, dl4, dl5, dl6]; omega), by first | omega | exact Nat.le_of_ble_eq_true rfl | (simp only [dl1, dl2, dl3, dl4, dl5, dl6]; omega)⟩
            rw [show tA (some E) false (nI i) = nI (((eC E)).getD i 0) by show bA (eC E) (nI i) = _; rw [bA, hat, List.getElem?_eq_getElem h3, List.getD_eq_getElem?_getD, List.getElem?_eq_getElem h3]; rfl]
            exact ⟨congrArg (fun z => Sum.inl (some (Value.int z))) (sx_and (getD_lt e8 h3)), fx_rf, rs, h⟩
          · have h3 : ¬ i < ((eC E)).length := fun z => h2 ((q_lt (by omega) (by omega)).mpr z)
            conv => whnf
            refine ⟨⟨_, rfl, rfl⟩, ?_, by first | omega | exact Nat.le_of_ble_eq_true rfl | (simp only [dl1, dl2, dl3, dl4, dl5, dl6]; omega), by first | omega | exact Nat.le_of_ble_eq_true rfl | (simp only [dl1, dl2, dl3, dl4, dl5, dl6]; omega)⟩
            rw [show tA (some E) false (nI i) = -1 by show bA (eC E) (nI i) = _; rw [bA, hat, List.getElem?_eq_none (by omega)]]
            exact kO_same h
      | true =>
        conv => whnf
        refine ⟨fun h => absurd h b2_t, fun _ => ?_⟩
        conv => whnf
        refine ⟨_, _, e1, rfl, ?_⟩
        conv => whnf
        refine ⟨fun h1 => ?_, fun h1 => ?_⟩
        · have h1 : k.toInt < 0 := h1
          conv => whnf
          refine ⟨⟨_, rfl, rfl⟩, ?_, by first | omega | exact Nat.le_of_ble_eq_true rfl | (simp only [dl1, dl2, dl3, dl4, dl5, dl6]; omega), by first | omega | exact Nat.le_of_ble_eq_true rfl | (simp only [dl1, dl2, dl3, dl4, dl5, dl6]; omega)⟩
          rw [show tA (some E) true k = -1 by show bA E.1 k = -1; rw [bA, atI, if_pos h1]]
          exact kO_same h
        · have h1 : ¬ k.toInt < 0 := h1
          obtain ⟨hk, hlt⟩ := nI_ofT h1
          have hat : atI E.1 k = (E.1)[k.toInt.toNat]? := by rw [atI, if_neg h1]
          generalize k.toInt.toNat = i at hk hlt hat
          subst hk
          conv => whnf
          refine Or.inl ⟨_, _, e2, by decide, ?_⟩
          conv => whnf
          refine ⟨fun h2 => ?_, fun h2 => ?_⟩
          · have h3 := (q_lt (by omega) (by omega)).mp h2
            conv => whnf
            refine ⟨0, _, _, i, e2, rfl, rfl, h3, by omega, ?_⟩
            rw [e4 i h3]
            conv => whnf
            refine ⟨⟨_, rfl, rfl⟩, ?_, by first | omega | exact Nat.le_of_ble_eq_true rfl | (simp only [dl1, dl2, dl3, dl4, dl5, dl6]; omega), by first | omega | exact Nat.le_of_ble_eq_true rfl | (simp only [dl1, dl2, dl3, dl4, dl5, dl6]; omega)⟩
            rw [show tA (some E) true (nI i) = nI ((E.1).getD i 0) by show bA E.1 (nI i) = _; rw [bA, hat, List.getElem?_eq_getElem h3, List.getD_eq_getElem?_getD, List.getElem?_eq_getElem h3]; rfl]
            exact ⟨congrArg (fun z => Sum.inl (some (Value.int z))) (sx_and (getD_lt e5 h3)), fx_rf, rs, h⟩
          · have h3 : ¬ i < (E.1).length := fun z => h2 ((q_lt (by omega) (by omega)).mpr z)
            conv => whnf
            refine ⟨⟨_, rfl, rfl⟩, ?_, by first | omega | exact Nat.le_of_ble_eq_true rfl | (simp only [dl1, dl2, dl3, dl4, dl5, dl6]; omega), by first | omega | exact Nat.le_of_ble_eq_true rfl | (simp only [dl1, dl2, dl3, dl4, dl5, dl6]; omega)⟩
            rw [show tA (some E) true (nI i) = -1 by show bA E.1 (nI i) = _; rw [bA, hat, List.getElem?_eq_none (by omega)]]
            exact kO_same h
  · obtain ⟨-, v, hv, -⟩ := hh
    cases hv
theorem c_K_operations (hfl : l.flags = pinnedFlags ++ [noTraceFlag]) (h : cK ad g R T S M Rs Hs X ch st tm dn rs) : k_CT l D aC n_K_operations 0 0 [.ref (ad 0)] g (rt (some (.int (nI (2 * X.length + 3)))) g) := by
  obtain ⟨hj, z1, -, -, -, -, -, c1, -⟩ := id h
  obtain ⟨f1, f2, c2, -⟩ := id c1
  refine k_ln hfl n_K_operations ok_K_operations rfl rfl rfl rfl rfl rfl (fun h => by cases h) (Nat.le_of_ble_eq_true rfl) 60 ?_
  conv => whnf
  refine ⟨_, _, z1, rfl, ?_⟩
  conv => whnf
  refine ⟨⟨_, c2⟩, (Nat.le_of_ble_eq_true rfl), _, _, _, c_C_size hfl c1, by first | omega | exact Nat.le_of_ble_eq_true rfl | (simp only [dl1, dl2, dl3, dl4, dl5, dl6]; omega), by first | omega | exact Nat.le_of_ble_eq_true rfl | (simp only [dl1, dl2, dl3, dl4, dl5, dl6]; omega), k_rl ?_, k_rr⟩
  conv => whnf
  refine ⟨⟨_, rfl, rfl⟩, ⟨?_, rfl⟩, by first | omega | exact Nat.le_of_ble_eq_true rfl | (simp only [dl1, dl2, dl3, dl4, dl5, dl6]; omega), by first | omega | exact Nat.le_of_ble_eq_true rfl | (simp only [dl1, dl2, dl3, dl4, dl5, dl6]; omega)⟩
  rw [← nI_add, ← pk_mul]
theorem c_K_incrementsDone (hfl : l.flags = pinnedFlags ++ [noTraceFlag]) {op : Nat} (hop : op < 2 ^ 30) (h : cK ad g R T S M Rs Hs X ch st tm (nI op) rs) : k_CT l D aC n_K_incrementsDone 0 0 [.ref (ad 0)] g (rt (some (.int (nI (min (op / 2) X.length)))) g) := by
  obtain ⟨hj, z1, -, -, -, -, -, c1, -⟩ := id h
  obtain ⟨f1, f2, c2, -, -, -, c3, -⟩ := id c1
  refine k_ln hfl n_K_incrementsDone ok_K_incrementsDone rfl rfl rfl rfl rfl rfl (fun h => by cases h) (Nat.le_of_ble_eq_true rfl) 60 ?_
  conv => whnf
  refine ⟨_, _, z1, rfl, ?_⟩
  conv => whnf
  refine ⟨by decide, ?_⟩
  conv => whnf
  refine ⟨_, _, z1, rfl, ?_⟩
  conv => whnf
  refine ⟨⟨_, c2⟩, (Nat.le_of_ble_eq_true rfl), _, _, _, c_C_size hfl c1, by first | omega | exact Nat.le_of_ble_eq_true rfl | (simp only [dl1, dl2, dl3, dl4, dl5, dl6]; omega), by first | omega | exact Nat.le_of_ble_eq_true rfl | (simp only [dl1, dl2, dl3, dl4, dl5, dl6]; omega), k_rl ?_, k_rr⟩
  have e1 : nI op / nI 2 = nI (op / 2) := pk_div (by omega) (by decide) (by decide)
  have hm := c_J_min (l := l) (D := D) (aC := aC) (g := g) hfl (a := op / 2) (b := X.length) (by omega) (by omega)
  rw [← e1] at hm
  conv => whnf
  refine ⟨(Nat.le_of_ble_eq_true rfl), _, _, _, hm, by first | omega | exact Nat.le_of_ble_eq_true rfl | (simp only [dl1, dl2, dl3, dl4, dl5, dl6]; omega), by first | omega | exact Nat.le_of_ble_eq_true rfl | (simp only [dl1, dl2, dl3, dl4, dl5, dl6]; omega), k_rl ?_, k_rr⟩
  conv => whnf
  refine ⟨⟨_, rfl, rfl⟩, ⟨rfl, rfl⟩, by first | omega | exact Nat.le_of_ble_eq_true rfl | (simp only [dl1, dl2, dl3, dl4, dl5, dl6]; omega), by first | omega | exact Nat.le_of_ble_eq_true rfl | (simp only [dl1, dl2, dl3, dl4, dl5, dl6]; omega)⟩
theorem c_K_about (hfl : l.flags = pinnedFlags ++ [noTraceFlag]) {op : Nat} (hop : op < 2 ^ 30) (h : cK ad g R T S M Rs Hs X ch st tm (nI op) rs) {w : Int32} : k_CT l D aC n_K_about 0 0 [.ref (ad 0), .int w] g (kO ad g (.inl (some (.int (aA T S M Rs Hs X.length op st w)))) R T S M Rs Hs X ch st tm (nI op)) := by
  obtain ⟨hj, z1, t1, s1, m1, ⟨ra, r1, -⟩, h1, c1, -⟩ := id h
  obtain ⟨r8, r9, t2, -⟩ := id t1
  obtain ⟨f1, s2, -⟩ := id s1
  obtain ⟨f2, m2, -⟩ := id m1
  obtain ⟨f3, r2, -⟩ := id r1
  obtain ⟨f4, h2, -⟩ := id h1
  refine k_ln hfl n_K_about ok_K_about rfl rfl rfl rfl rfl rfl (fun h => by cases h) (Nat.le_of_ble_eq_true rfl) 60 ?_
  conv => whnf
  refine ⟨⟨fun h0 => ?_, fun h0 => ?_, fun h0 => ?_, fun h0 => ?_, fun h0 => ?_, fun h0 => ?_, fun h0 => ?_, fun h0 => ?_, fun h0 => ?_, trivial⟩, fun h0 => ?_⟩
  · have h9 : w.toInt = 0 := h0
    rw [show aA T S M Rs Hs X.length op st w = st by rw [aA]; simp only [h9]; rfl]
    conv => whnf
    refine ⟨_, _, z1, rfl, ?_⟩
    conv => whnf
    refine ⟨⟨_, rfl, rfl⟩, kO_same h, by first | omega | exact Nat.le_of_ble_eq_true rfl | (simp only [dl1, dl2, dl3, dl4, dl5, dl6]; omega), by first | omega | exact Nat.le_of_ble_eq_true rfl | (simp only [dl1, dl2, dl3, dl4, dl5, dl6]; omega)⟩
  · have h9 : w.toInt = 1 := h0
    rw [show aA T S M Rs Hs X.length op st w = nI Hs.length by rw [aA]; simp only [h9]; rfl]
    conv => whnf
    refine ⟨_, _, z1, rfl, ?_⟩
    conv => whnf
    refine ⟨⟨_, h2⟩, (Nat.le_of_ble_eq_true rfl), _, _, _, c_H_size hfl h1, by first | omega | exact Nat.le_of_ble_eq_true rfl | (simp only [dl1, dl2, dl3, dl4, dl5, dl6]; omega), by first | omega | exact Nat.le_of_ble_eq_true rfl | (simp only [dl1, dl2, dl3, dl4, dl5, dl6]; omega), k_rl ?_, k_rr⟩
    conv => whnf
    refine ⟨⟨_, rfl, rfl⟩, kO_same h, by first | omega | exact Nat.le_of_ble_eq_true rfl | (simp only [dl1, dl2, dl3, dl4, dl5, dl6]; omega), by first | omega | exact Nat.le_of_ble_eq_true rfl | (simp only [dl1, dl2, dl3, dl4, dl5, dl6]; omega)⟩
  · have h9 : w.toInt = 2 := h0
    rw [show aA T S M Rs Hs X.length op st w = nI op by rw [aA]; simp only [h9]; rfl]
    conv => whnf
    refine ⟨_, _, z1, rfl, ?_⟩
    conv => whnf
    refine ⟨⟨_, rfl, rfl⟩, kO_same h, by first | omega | exact Nat.le_of_ble_eq_true rfl | (simp only [dl1, dl2, dl3, dl4, dl5, dl6]; omega), by first | omega | exact Nat.le_of_ble_eq_true rfl | (simp only [dl1, dl2, dl3, dl4, dl5, dl6]; omega)⟩
  · have h9 : w.toInt = 3 := h0
    rw [show aA T S M Rs Hs X.length op st w = nI S.length by rw [aA]; simp only [h9]; rfl]
    conv => whnf
    refine ⟨_, _, z1, rfl, ?_⟩
    conv => whnf
    refine ⟨⟨_, s2⟩, (Nat.le_of_ble_eq_true rfl), _, _, _, c_R_size' hfl s1, by first | omega | exact Nat.le_of_ble_eq_true rfl | (simp only [dl1, dl2, dl3, dl4, dl5, dl6]; omega), by first | omega | exact Nat.le_of_ble_eq_true rfl | (simp only [dl1, dl2, dl3, dl4, dl5, dl6]; omega), k_rl ?_, k_rr⟩
    conv => whnf
    refine ⟨⟨_, rfl, rfl⟩, kO_same h, by first | omega | exact Nat.le_of_ble_eq_true rfl | (simp only [dl1, dl2, dl3, dl4, dl5, dl6]; omega), by first | omega | exact Nat.le_of_ble_eq_true rfl | (simp only [dl1, dl2, dl3, dl4, dl5, dl6]; omega)⟩
  · have h9 : w.toInt = 4 := h0
    rw [show aA T S M Rs Hs X.length op st w = nI M.length by rw [aA]; simp only [h9]; rfl]
    conv => whnf
    refine ⟨_, _, z1, rfl, ?_⟩
    conv => whnf
    refine ⟨⟨_, m2⟩, (Nat.le_of_ble_eq_true rfl), _, _, _, c_R_size' hfl m1, by first | omega | exact Nat.le_of_ble_eq_true rfl | (simp only [dl1, dl2, dl3, dl4, dl5, dl6]; omega), by first | omega | exact Nat.le_of_ble_eq_true rfl | (simp only [dl1, dl2, dl3, dl4, dl5, dl6]; omega), k_rl ?_, k_rr⟩
    conv => whnf
    refine ⟨⟨_, rfl, rfl⟩, kO_same h, by first | omega | exact Nat.le_of_ble_eq_true rfl | (simp only [dl1, dl2, dl3, dl4, dl5, dl6]; omega), by first | omega | exact Nat.le_of_ble_eq_true rfl | (simp only [dl1, dl2, dl3, dl4, dl5, dl6]; omega)⟩
  · have h9 : w.toInt = 5 := h0
    rw [show aA T S M Rs Hs X.length op st w = nI Rs.length by rw [aA]; simp only [h9]; rfl]
    conv => whnf
    refine ⟨_, _, z1, rfl, ?_⟩
    conv => whnf
    refine ⟨⟨_, r2⟩, (Nat.le_of_ble_eq_true rfl), _, _, _, c_R_size' hfl r1, by first | omega | exact Nat.le_of_ble_eq_true rfl | (simp only [dl1, dl2, dl3, dl4, dl5, dl6]; omega), by first | omega | exact Nat.le_of_ble_eq_true rfl | (simp only [dl1, dl2, dl3, dl4, dl5, dl6]; omega), k_rl ?_, k_rr⟩
    conv => whnf
    refine ⟨⟨_, rfl, rfl⟩, kO_same h, by first | omega | exact Nat.le_of_ble_eq_true rfl | (simp only [dl1, dl2, dl3, dl4, dl5, dl6]; omega), by first | omega | exact Nat.le_of_ble_eq_true rfl | (simp only [dl1, dl2, dl3, dl4, dl5, dl6]; omega)⟩
  · have h9 : w.toInt = 6 := h0
    rw [show aA T S M Rs Hs X.length op st w = nI (sumC S) by rw [aA]; simp only [h9]; rfl]
    conv => whnf
    refine ⟨_, _, z1, rfl, ?_⟩
    conv => whnf
    refine ⟨⟨_, s2⟩, (Nat.le_of_ble_eq_true rfl), _, _, _, c_R_contentLength hfl s1, by first | omega | exact Nat.le_of_ble_eq_true rfl | (simp only [dl1, dl2, dl3, dl4, dl5, dl6]; omega), by first | omega | exact Nat.le_of_ble_eq_true rfl | (simp only [dl1, dl2, dl3, dl4, dl5, dl6]; omega), k_rl ?_, k_rr⟩
    conv => whnf
    refine ⟨⟨_, rfl, rfl⟩, kO_same h, by first | omega | exact Nat.le_of_ble_eq_true rfl | (simp only [dl1, dl2, dl3, dl4, dl5, dl6]; omega), by first | omega | exact Nat.le_of_ble_eq_true rfl | (simp only [dl1, dl2, dl3, dl4, dl5, dl6]; omega)⟩
  · have h9 : w.toInt = 7 := h0
    rw [show aA T S M Rs Hs X.length op st w = nI (sumH Hs + min (op / 2) X.length) by rw [aA]; simp only [h9]; rfl]
    conv => whnf
    refine ⟨_, _, z1, rfl, ?_⟩
    conv => whnf
    refine ⟨⟨_, h2⟩, (Nat.le_of_ble_eq_true rfl), _, _, _, c_H_increments hfl h1, by first | omega | exact Nat.le_of_ble_eq_true rfl | (simp only [dl1, dl2, dl3, dl4, dl5, dl6]; omega), by first | omega | exact Nat.le_of_ble_eq_true rfl | (simp only [dl1, dl2, dl3, dl4, dl5, dl6]; omega), k_rl ?_, k_rr⟩
    conv => whnf
    refine ⟨⟨_, z1⟩, (Nat.le_of_ble_eq_true rfl), _, _, _, c_K_incrementsDone hfl hop h, by first | omega | exact Nat.le_of_ble_eq_true rfl | (simp only [dl1, dl2, dl3, dl4, dl5, dl6]; omega), by first | omega | exact Nat.le_of_ble_eq_true rfl | (simp only [dl1, dl2, dl3, dl4, dl5, dl6]; omega), k_rl ?_, k_rr⟩
    conv => whnf
    refine ⟨⟨_, rfl, rfl⟩, ⟨congrArg (fun z => Sum.inl (some (Value.int z))) (nI_add _ _), fx_rf, rs, h⟩, by first | omega | exact Nat.le_of_ble_eq_true rfl | (simp only [dl1, dl2, dl3, dl4, dl5, dl6]; omega), by first | omega | exact Nat.le_of_ble_eq_true rfl | (simp only [dl1, dl2, dl3, dl4, dl5, dl6]; omega)⟩
  · have h9 : w.toInt = 8 := h0
    rw [show aA T S M Rs Hs X.length op st w = nI T.length by rw [aA]; simp only [h9]; rfl]
    conv => whnf
    refine ⟨_, _, z1, rfl, ?_⟩
    conv => whnf
    refine ⟨⟨_, t2⟩, (Nat.le_of_ble_eq_true rfl), _, _, _, c_T_length hfl t1, by first | omega | exact Nat.le_of_ble_eq_true rfl | (simp only [dl1, dl2, dl3, dl4, dl5, dl6]; omega), by first | omega | exact Nat.le_of_ble_eq_true rfl | (simp only [dl1, dl2, dl3, dl4, dl5, dl6]; omega), k_rl ?_, k_rr⟩
    conv => whnf
    refine ⟨⟨_, rfl, rfl⟩, kO_same h, by first | omega | exact Nat.le_of_ble_eq_true rfl | (simp only [dl1, dl2, dl3, dl4, dl5, dl6]; omega), by first | omega | exact Nat.le_of_ble_eq_true rfl | (simp only [dl1, dl2, dl3, dl4, dl5, dl6]; omega)⟩
  · have h9 : w.toInt < 0 ∨ 8 < w.toInt := h0
    rw [show aA T S M Rs Hs X.length op st w = -1 by rw [aA, if_neg (by omega), if_neg (by omega), if_neg (by omega), if_neg (by omega), if_neg (by omega), if_neg (by omega), if_neg (by omega), if_neg (by omega), if_neg (by omega)]]
    conv => whnf
    refine ⟨⟨_, rfl, rfl⟩, kO_same h, by first | omega | exact Nat.le_of_ble_eq_true rfl | (simp only [dl1, dl2, dl3, dl4, dl5, dl6]; omega), by first | omega | exact Nat.le_of_ble_eq_true rfl | (simp only [dl1, dl2, dl3, dl4, dl5, dl6]; omega)⟩
theorem c_K_session (hfl : l.flags = pinnedFlags ++ [noTraceFlag]) (h : cK ad g R T S M Rs Hs X ch st tm dn rs) {i w : Int32} : k_CT l D aC n_K_session 0 0 [.ref (ad 0), .int i, .int w] g (kO ad g (.inl (some (.int (sA Hs i w)))) R T S M Rs Hs X ch st tm dn) := by
  obtain ⟨hj, z1, t1, s1, m1, r1, h1, c1, -⟩ := id h
  obtain ⟨f4, h2, -⟩ := id h1
  refine k_ln hfl n_K_session ok_K_session rfl rfl rfl rfl rfl rfl (fun h => by cases h) (Nat.le_of_ble_eq_true rfl) 60 ?_
  conv => whnf
  refine ⟨_, _, z1, rfl, ?_⟩
  conv => whnf
  refine ⟨⟨_, h2⟩, (Nat.le_of_ble_eq_true rfl), _, _, _, c_H_sessionAt hfl h1, by first | omega | exact Nat.le_of_ble_eq_true rfl | (simp only [dl1, dl2, dl3, dl4, dl5, dl6]; omega), by first | omega | exact Nat.le_of_ble_eq_true rfl | (simp only [dl1, dl2, dl3, dl4, dl5, dl6]; omega), fun v g1 hh => ?_, fun C g1 hh => ?_⟩
  · obtain ⟨rfl, v, hv, hE⟩ := hh
    cases hv
    cases ho : atI Hs i with
    | none =>
      rw [ho] at hE
      cases hE
      rw [show sA Hs i w = -1 by rw [sA, ho]]
      conv => whnf
      refine ⟨⟨_, rfl, rfl⟩, kO_same h, by first | omega | exact Nat.le_of_ble_eq_true rfl | (simp only [dl1, dl2, dl3, dl4, dl5, dl6]; omega), by first | omega | exact Nat.le_of_ble_eq_true rfl | (simp only [dl1, dl2, dl3, dl4, dl5, dl6]; omega)⟩
    | some E =>
      rw [ho] at hE
      obtain ⟨b, rfl, ⟨t, e1, -⟩⟩ := hE
      have hs : sA Hs i w = if w.toInt = 0 then E.1 else if w.toInt = 1 then (if i = 0 then -1 else nI E.2.1) else -1 := by rw [sA, ho]
      conv => whnf
      refine ⟨fun h0 => ?_, fun h0 => ⟨fun h5 => ?_, fun h5 => ?_⟩⟩
      · have h9 : w.toInt = 0 := h0
        rw [hs, if_pos h9]
        conv => whnf
        refine ⟨_, _, e1, rfl, ?_⟩
        conv => whnf
        refine ⟨⟨_, rfl, rfl⟩, kO_same h, by first | omega | exact Nat.le_of_ble_eq_true rfl | (simp only [dl1, dl2, dl3, dl4, dl5, dl6]; omega), by first | omega | exact Nat.le_of_ble_eq_true rfl | (simp only [dl1, dl2, dl3, dl4, dl5, dl6]; omega)⟩
      · have h8 : ¬ w.toInt = 0 := h0
        have h9 : w.toInt = 1 := h5
        rw [hs, if_neg h8, if_pos h9]
        conv => whnf
        refine ⟨fun h6 => ?_, fun h6 => ?_⟩
        · have h7 : ¬ i = 0 := h6
          rw [if_neg h7]
          conv => whnf
          refine ⟨_, _, e1, rfl, ?_⟩
          conv => whnf
          refine ⟨⟨_, rfl, rfl⟩, kO_same h, by first | omega | exact Nat.le_of_ble_eq_true rfl | (simp only [dl1, dl2, dl3, dl4, dl5, dl6]; omega), by first | omega | exact Nat.le_of_ble_eq_true rfl | (simp only [dl1, dl2, dl3, dl4, dl5, dl6]; omega)⟩
        · have h7 : i = 0 := Classical.not_not.mp h6
          rw [if_pos h7]
          conv => whnf
          refine ⟨⟨_, rfl, rfl⟩, kO_same h, by first | omega | exact Nat.le_of_ble_eq_true rfl | (simp only [dl1, dl2, dl3, dl4, dl5, dl6]; omega), by first | omega | exact Nat.le_of_ble_eq_true rfl | (simp only [dl1, dl2, dl3, dl4, dl5, dl6]; omega)⟩
      · have h8 : ¬ w.toInt = 0 := h0
        have h9 : ¬ w.toInt = 1 := h5
        rw [hs, if_neg h8, if_neg h9]
        conv => whnf
        refine ⟨⟨_, rfl, rfl⟩, kO_same h, by first | omega | exact Nat.le_of_ble_eq_true rfl | (simp only [dl1, dl2, dl3, dl4, dl5, dl6]; omega), by first | omega | exact Nat.le_of_ble_eq_true rfl | (simp only [dl1, dl2, dl3, dl4, dl5, dl6]; omega)⟩
  · obtain ⟨-, v, hv, -⟩ := hh
    cases hv
end KQ
