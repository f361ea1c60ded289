/-! MirrorKeep: set, cut, remove -/
section KS
variable {ad : Nat → Nat} {g : g_H} {R T : List Nat} {S M Rs : List Ent} {Hs : List Ses} {X : List Chg} {ch st tm dn : Int32} {rs : Nat}
variable {l : Launch} {D : va_G} {aC : Nat → ClassId}
theorem c_K_set_uw (hfl : l.flags = pinnedFlags ++ [noTraceFlag]) (h : cK ad g R T S M Rs Hs X ch st tm dn rs) (hs : st = nI 1) {m t : Int32} : k_CT l D aC n_K_set 16 4000 [.ref (ad 0), .int m, .int t] g (kO ad g (.inr IS) R T S M Rs Hs X ch st tm dn) := by
  refine k_ln hfl n_K_set ok_K_set rfl rfl rfl rfl rfl rfl (fun h => by cases h) (Nat.le_of_ble_eq_true rfl) 60 ?_
  conv => whnf
  refine ⟨⟨_, h.2.1⟩, (Nat.le_of_ble_eq_true rfl), _, _, _, c_K_rw_no hfl h hs, by first | omega | exact Nat.le_of_ble_eq_true rfl | (simp only [dl1, dl2, dl3, dl4, dl5, dl6]; omega), by first | omega | exact Nat.le_of_ble_eq_true rfl | (simp only [dl1, dl2, dl3, dl4, dl5, dl6]; omega), fun v g1 hh => ?_, fun C g1 hh => ?_⟩
  · cases hh.1
  · obtain ⟨hv, rfl⟩ := hh
    cases hv
    exact ⟨kO_same h, by first | omega | exact Nat.le_of_ble_eq_true rfl | (simp only [dl1, dl2, dl3, dl4, dl5, dl6]; omega), by first | omega | exact Nat.le_of_ble_eq_true rfl | (simp only [dl1, dl2, dl3, dl4, dl5, dl6]; omega)⟩
theorem c_K_set_no (hfl : l.flags = pinnedFlags ++ [noTraceFlag]) (h : cK ad g R T S M Rs Hs X ch st tm dn rs) (hs : st ≠ nI 1) (hc : atI S ch = none) {m t : Int32} : k_CT l D aC n_K_set 16 4000 [.ref (ad 0), .int m, .int t] g (kO ad g (.inr IS) R T S M Rs Hs X ch st tm dn) := by
  refine k_ln hfl n_K_set ok_K_set rfl rfl rfl rfl rfl rfl (fun h => by cases h) (Nat.le_of_ble_eq_true rfl) 60 ?_
  conv => whnf
  refine ⟨⟨_, h.2.1⟩, (Nat.le_of_ble_eq_true rfl), _, _, _, c_K_rw hfl h hs, by first | omega | exact Nat.le_of_ble_eq_true rfl | (simp only [dl1, dl2, dl3, dl4, dl5, dl6]; omega), by first | omega | exact Nat.le_of_ble_eq_true rfl | (simp only [dl1, dl2, dl3, dl4, dl5, dl6]; omega), k_rl ?_, k_rr⟩
  conv => whnf
  refine ⟨⟨_, h.2.1⟩, (Nat.le_of_ble_eq_true rfl), _, _, _, c_K_chosenEntry_no hfl h hc, by first | omega | exact Nat.le_of_ble_eq_true rfl | (simp only [dl1, dl2, dl3, dl4, dl5, dl6]; omega), by first | omega | exact Nat.le_of_ble_eq_true rfl | (simp only [dl1, dl2, dl3, dl4, dl5, dl6]; omega), fun v g1 hh => ?_, fun C g1 hh => ?_⟩
  · cases hh.1
  · obtain ⟨hv, rfl⟩ := hh
    cases hv
    exact ⟨kO_same h, by first | omega | exact Nat.le_of_ble_eq_true rfl | (simp only [dl1, dl2, dl3, dl4, dl5, dl6]; omega), by first | omega | exact Nat.le_of_ble_eq_true rfl | (simp only [dl1, dl2, dl3, dl4, dl5, dl6]; omega)⟩
theorem c_K_set_bad (hfl : l.flags = pinnedFlags ++ [noTraceFlag]) (h : cK ad g R T S M Rs Hs X ch st tm dn rs) (hs : st ≠ nI 1) {E : Ent} (hc : atI S ch = some E) {m t : Int32} (hb : (mdOk m && tmOk t) = false) : k_CT l D aC n_K_set 16 4000 [.ref (ad 0), .int m, .int t] g (kO ad g (.inr IA) R T S M Rs Hs X ch st tm dn) := by
  refine k_ln hfl n_K_set ok_K_set rfl rfl rfl rfl rfl rfl (fun h => by cases h) (Nat.le_of_ble_eq_true rfl) 60 ?_
  conv => whnf
  refine ⟨⟨_, h.2.1⟩, (Nat.le_of_ble_eq_true rfl), _, _, _, c_K_rw hfl h hs, by first | omega | exact Nat.le_of_ble_eq_true rfl | (simp only [dl1, dl2, dl3, dl4, dl5, dl6]; omega), by first | omega | exact Nat.le_of_ble_eq_true rfl | (simp only [dl1, dl2, dl3, dl4, dl5, dl6]; omega), k_rl ?_, k_rr⟩
  conv => whnf
  refine ⟨⟨_, h.2.1⟩, (Nat.le_of_ble_eq_true rfl), _, _, _, c_K_chosenEntry hfl h hc, by first | omega | exact Nat.le_of_ble_eq_true rfl | (simp only [dl1, dl2, dl3, dl4, dl5, dl6]; omega), by first | omega | exact Nat.le_of_ble_eq_true rfl | (simp only [dl1, dl2, dl3, dl4, dl5, dl6]; omega), fun v g1 hh => ?_, fun C g1 hh => ?_⟩
  · obtain ⟨rfl, b, hv, hE⟩ := hh
    cases hv
    conv => whnf
    refine ⟨(Nat.le_of_ble_eq_true rfl), _, _, _, c_K_isMode hfl, by first | omega | exact Nat.le_of_ble_eq_true rfl | (simp only [dl1, dl2, dl3, dl4, dl5, dl6]; omega), by first | omega | exact Nat.le_of_ble_eq_true rfl | (simp only [dl1, dl2, dl3, dl4, dl5, dl6]; omega), k_rl ?_, k_rr⟩
    cases hm : mdOk m with
    | false =>
      conv => whnf
      refine ⟨fun _ => ?_, fun h => absurd b2_f h⟩
      conv => whnf
      refine ⟨(Nat.le_of_ble_eq_true rfl), kO_same h, by first | omega | exact Nat.le_of_ble_eq_true rfl | (simp only [dl1, dl2, dl3, dl4, dl5, dl6]; omega), by first | omega | exact Nat.le_of_ble_eq_true rfl | (simp only [dl1, dl2, dl3, dl4, dl5, dl6]; omega)⟩
    | true =>
    rw [hm, Bool.true_and] at hb
    conv => whnf
    refine ⟨fun h => absurd h b2_t, fun _ => ?_⟩
    conv => whnf
    refine ⟨(Nat.le_of_ble_eq_true rfl), _, _, _, c_K_isTime hfl, by first | omega | exact Nat.le_of_ble_eq_true rfl | (simp only [dl1, dl2, dl3, dl4, dl5, dl6]; omega), by first | omega | exact Nat.le_of_ble_eq_true rfl | (simp only [dl1, dl2, dl3, dl4, dl5, dl6]; omega), k_rl ?_, k_rr⟩
    rw [hb]
    conv => whnf
    refine ⟨fun h => absurd h (fun z => z b2_f), fun _ => ?_⟩
    conv => whnf
    refine ⟨(Nat.le_of_ble_eq_true rfl), kO_same h, by first | omega | exact Nat.le_of_ble_eq_true rfl | (simp only [dl1, dl2, dl3, dl4, dl5, dl6]; omega), by first | omega | exact Nat.le_of_ble_eq_true rfl | (simp only [dl1, dl2, dl3, dl4, dl5, dl6]; omega)⟩
  · obtain ⟨-, v, hv, -⟩ := hh
    cases hv
theorem c_K_set (hfl : l.flags = pinnedFlags ++ [noTraceFlag]) (h : cK ad g R T S M Rs Hs X ch st tm dn rs) (hs : st ≠ nI 1) {E : Ent} (hc : atI S ch = some E) {m t : Int32} (hb : (mdOk m && tmOk t) = true) (hl : (putL S (E.1, E.2.1, m, t, eC E)).length ≤ 120) : k_CT l D aC n_K_set 16 4000 [.ref (ad 0), .int m, .int t] g (kO ad g (.inl none) R T (putL S (E.1, E.2.1, m, t, eC E)) M Rs Hs X ch st tm dn) := by
  have hb2 := (Bool.and_eq_true _ _).mp hb
  have hU := cK_al h
  refine k_ln hfl n_K_set ok_K_set rfl rfl rfl rfl rfl rfl (fun h => by cases h) (Nat.le_of_ble_eq_true rfl) 60 ?_
  conv => whnf
  refine ⟨⟨_, h.2.1⟩, (Nat.le_of_ble_eq_true rfl), _, _, _, c_K_rw hfl h hs, by first | omega | exact Nat.le_of_ble_eq_true rfl | (simp only [dl1, dl2, dl3, dl4, dl5, dl6]; omega), by first | omega | exact Nat.le_of_ble_eq_true rfl | (simp only [dl1, dl2, dl3, dl4, dl5, dl6]; omega), k_rl ?_, k_rr⟩
  conv => whnf
  refine ⟨⟨_, h.2.1⟩, (Nat.le_of_ble_eq_true rfl), _, _, _, c_K_chosenEntry hfl h hc, by first | omega | exact Nat.le_of_ble_eq_true rfl | (simp only [dl1, dl2, dl3, dl4, dl5, dl6]; omega), by first | omega | exact Nat.le_of_ble_eq_true rfl | (simp only [dl1, dl2, dl3, dl4, dl5, dl6]; omega), fun v g1 hh => ?_, fun C g1 hh => ?_⟩
  · obtain ⟨rfl, b, hv, hE⟩ := hh
    cases hv
    conv => whnf
    refine ⟨(Nat.le_of_ble_eq_true rfl), _, _, _, c_K_isMode hfl, by first | omega | exact Nat.le_of_ble_eq_true rfl | (simp only [dl1, dl2, dl3, dl4, dl5, dl6]; omega), by first | omega | exact Nat.le_of_ble_eq_true rfl | (simp only [dl1, dl2, dl3, dl4, dl5, dl6]; omega), k_rl ?_, k_rr⟩
    rw [hb2.1]
    conv => whnf
    refine ⟨fun h => absurd h b2_t, fun _ => ?_⟩
    conv => whnf
    refine ⟨(Nat.le_of_ble_eq_true rfl), _, _, _, c_K_isTime hfl, by first | omega | exact Nat.le_of_ble_eq_true rfl | (simp only [dl1, dl2, dl3, dl4, dl5, dl6]; omega), by first | omega | exact Nat.le_of_ble_eq_true rfl | (simp only [dl1, dl2, dl3, dl4, dl5, dl6]; omega), k_rl ?_, k_rr⟩
    rw [hb2.2]
    conv => whnf
    refine ⟨fun _ => ?_, fun h => absurd b2_t h⟩
    obtain ⟨pp, c, e1, -⟩ := id hE
    conv => whnf
    refine ⟨_, _, h.2.1, rfl, ?_⟩
    conv => whnf
    refine ⟨⟨_, e1⟩, (Nat.le_of_ble_eq_true rfl), _, _, _, c_E_withModeAndTime hfl hE hU, by first | omega | exact Nat.le_of_ble_eq_true rfl | (simp only [dl1, dl2, dl3, dl4, dl5, dl6]; omega), by first | omega | exact Nat.le_of_ble_eq_true rfl | (simp only [dl1, dl2, dl3, dl4, dl5, dl6]; omega), fun v g2 hh => ?_, fun C g2 hh => ?_⟩
    · obtain ⟨q, hv, hq, hE2, hf⟩ := hh
      cases hv
      have h2 := cK_fx h (g1 := g2) hf
      obtain ⟨-, -, -, s6, -⟩ := id h2
      obtain ⟨f7, s7, -⟩ := id s6
      conv => whnf
      refine ⟨⟨_, s7⟩, (Nat.le_of_ble_eq_true rfl), _, _, _, c_R_put hfl s6 hE2 (iUU rfl) (iUU rfl) hl, by first | omega | exact Nat.le_of_ble_eq_true rfl | (simp only [dl1, dl2, dl3, dl4, dl5, dl6]; omega), by first | omega | exact Nat.le_of_ble_eq_true rfl | (simp only [dl1, dl2, dl3, dl4, dl5, dl6]; omega), fun v g3 hh => ?_, fun C g3 hh => ?_⟩
      · obtain ⟨hv, hT3, hf3⟩ := hh
        cases hv
        conv => whnf
        refine ⟨rfl, ?_, by first | omega | exact Nat.le_of_ble_eq_true rfl | (simp only [dl1, dl2, dl3, dl4, dl5, dl6]; omega), by first | omega | exact Nat.le_of_ble_eq_true rfl | (simp only [dl1, dl2, dl3, dl4, dl5, dl6]; omega)⟩
        exact ⟨rfl, fx_tr (fx_nil hf) (fx_sub hf3 (sUU (I := [4, 5]) rfl)), rs, cK_src h2 hT3 hf3⟩
      · cases hh.1
    · obtain ⟨q, hv, -⟩ := hh
      cases hv
  · obtain ⟨-, v, hv, -⟩ := hh
    cases hv
theorem c_K_cut_uw (hfl : l.flags = pinnedFlags ++ [noTraceFlag]) (h : cK ad g R T S M Rs Hs X ch st tm dn rs) (hs : st = nI 1) {x : Int32} : k_CT l D aC n_K_cut 16 4000 [.ref (ad 0), .int x] g (kO ad g (.inr IS) R T S M Rs Hs X ch st tm dn) := by
  refine k_ln hfl n_K_cut ok_K_cut rfl rfl rfl rfl rfl rfl (fun h => by cases h) (Nat.le_of_ble_eq_true rfl) 60 ?_
  conv => whnf
  refine ⟨⟨_, h.2.1⟩, (Nat.le_of_ble_eq_true rfl), _, _, _, c_K_rw_no hfl h hs, by first | omega | exact Nat.le_of_ble_eq_true rfl | (simp only [dl1, dl2, dl3, dl4, dl5, dl6]; omega), by first | omega | exact Nat.le_of_ble_eq_true rfl | (simp only [dl1, dl2, dl3, dl4, dl5, dl6]; omega), fun v g1 hh => ?_, fun C g1 hh => ?_⟩
  · cases hh.1
  · obtain ⟨hv, rfl⟩ := hh
    cases hv
    exact ⟨kO_same h, by first | omega | exact Nat.le_of_ble_eq_true rfl | (simp only [dl1, dl2, dl3, dl4, dl5, dl6]; omega), by first | omega | exact Nat.le_of_ble_eq_true rfl | (simp only [dl1, dl2, dl3, dl4, dl5, dl6]; omega)⟩
theorem c_K_cut_no (hfl : l.flags = pinnedFlags ++ [noTraceFlag]) (h : cK ad g R T S M Rs Hs X ch st tm dn rs) (hs : st ≠ nI 1) (hc : chC S ch = none) {x : Int32} : k_CT l D aC n_K_cut 16 4000 [.ref (ad 0), .int x] g (kO ad g (.inr IS) R T S M Rs Hs X ch st tm dn) := by
  refine k_ln hfl n_K_cut ok_K_cut rfl rfl rfl rfl rfl rfl (fun h => by cases h) (Nat.le_of_ble_eq_true rfl) 60 ?_
  conv => whnf
  refine ⟨⟨_, h.2.1⟩, (Nat.le_of_ble_eq_true rfl), _, _, _, c_K_rw hfl h hs, by first | omega | exact Nat.le_of_ble_eq_true rfl | (simp only [dl1, dl2, dl3, dl4, dl5, dl6]; omega), by first | omega | exact Nat.le_of_ble_eq_true rfl | (simp only [dl1, dl2, dl3, dl4, dl5, dl6]; omega), k_rl ?_, k_rr⟩
  conv => whnf
  refine ⟨⟨_, h.2.1⟩, (Nat.le_of_ble_eq_true rfl), _, _, _, c_K_chosenWithContent_no hfl h hc, by first | omega | exact Nat.le_of_ble_eq_true rfl | (simp only [dl1, dl2, dl3, dl4, dl5, dl6]; omega), by first | omega | exact Nat.le_of_ble_eq_true rfl | (simp only [dl1, dl2, dl3, dl4, dl5, dl6]; omega), fun v g1 hh => ?_, fun C g1 hh => ?_⟩
  · cases hh.1
  · obtain ⟨hv, rfl⟩ := hh
    cases hv
    exact ⟨kO_same h, by first | omega | exact Nat.le_of_ble_eq_true rfl | (simp only [dl1, dl2, dl3, dl4, dl5, dl6]; omega), by first | omega | exact Nat.le_of_ble_eq_true rfl | (simp only [dl1, dl2, dl3, dl4, dl5, dl6]; omega)⟩
theorem c_K_cut_bad (hfl : l.flags = pinnedFlags ++ [noTraceFlag]) (h : cK ad g R T S M Rs Hs X ch st tm dn rs) (hs : st ≠ nI 1) {E : Ent} (hc : chC S ch = some E) {x : Int32} (hb : x.toInt < 0 ∨ ((eC E).length : Int) < x.toInt) : k_CT l D aC n_K_cut 16 4000 [.ref (ad 0), .int x] g (kO ad g (.inr IA) R T S M Rs Hs X ch st tm dn) := by
  refine k_ln hfl n_K_cut ok_K_cut rfl rfl rfl rfl rfl rfl (fun h => by cases h) (Nat.le_of_ble_eq_true rfl) 60 ?_
  conv => whnf
  refine ⟨⟨_, h.2.1⟩, (Nat.le_of_ble_eq_true rfl), _, _, _, c_K_rw hfl h hs, by first | omega | exact Nat.le_of_ble_eq_true rfl | (simp only [dl1, dl2, dl3, dl4, dl5, dl6]; omega), by first | omega | exact Nat.le_of_ble_eq_true rfl | (simp only [dl1, dl2, dl3, dl4, dl5, dl6]; omega), k_rl ?_, k_rr⟩
  conv => whnf
  refine ⟨⟨_, h.2.1⟩, (Nat.le_of_ble_eq_true rfl), _, _, _, c_K_chosenWithContent hfl h hc, by first | omega | exact Nat.le_of_ble_eq_true rfl | (simp only [dl1, dl2, dl3, dl4, dl5, dl6]; omega), by first | omega | exact Nat.le_of_ble_eq_true rfl | (simp only [dl1, dl2, dl3, dl4, dl5, dl6]; omega), fun v g1 hh => ?_, fun C g1 hh => ?_⟩
  · obtain ⟨rfl, b, hv, hE⟩ := hh
    cases hv
    obtain ⟨pp, c, e1, -, ⟨f2, e3, -, -, e4⟩, -⟩ := id hE
    conv => whnf
    refine ⟨fun h5 => ?_, fun h5 => ?_⟩
    · conv => whnf
      refine ⟨(Nat.le_of_ble_eq_true rfl), kO_same h, by first | omega | exact Nat.le_of_ble_eq_true rfl | (simp only [dl1, dl2, dl3, dl4, dl5, dl6]; omega), by first | omega | exact Nat.le_of_ble_eq_true rfl | (simp only [dl1, dl2, dl3, dl4, dl5, dl6]; omega)⟩
    · have h5 : ¬ x.toInt < 0 := h5
      conv => whnf
      refine ⟨_, _, e1, rfl, ?_⟩
      conv => whnf
      refine Or.inl ⟨_, _, e3, by decide, ?_⟩
      conv => whnf
      refine ⟨fun h => absurd h (show ¬ x.toInt ≤ (nI (eC E).length).toInt by rw [nI_toInt (by omega)]; omega), fun _ => ?_⟩
      conv => whnf
      refine ⟨(Nat.le_of_ble_eq_true rfl), kO_same h, by first | omega | exact Nat.le_of_ble_eq_true rfl | (simp only [dl1, dl2, dl3, dl4, dl5, dl6]; omega), by first | omega | exact Nat.le_of_ble_eq_true rfl | (simp only [dl1, dl2, dl3, dl4, dl5, dl6]; omega)⟩
  · obtain ⟨-, v, hv, -⟩ := hh
    cases hv
theorem c_K_cut (hfl : l.flags = pinnedFlags ++ [noTraceFlag]) (h : cK ad g R T S M Rs Hs X ch st tm dn rs) (hs : st ≠ nI 1) {E : Ent} (hc : chC S ch = some E) {n : Nat} (hn : n ≤ (eC E).length) (he : (eC E).length ≤ 1500) (hl : (putL S (E.1, E.2.1, E.2.2.1, E.2.2.2.1, (eC E).take n)).length ≤ 120) : k_CT l D aC n_K_cut 16 4000 [.ref (ad 0), .int (nI n)] g (kO ad g (.inl none) R T (putL S (E.1, E.2.1, E.2.2.1, E.2.2.2.1, (eC E).take n)) M Rs Hs X ch st tm dn) := by
  have hU := cK_al h
  refine k_ln hfl n_K_cut ok_K_cut rfl rfl rfl rfl rfl rfl (fun h => by cases h) (Nat.le_of_ble_eq_true rfl) 60 ?_
  conv => whnf
  refine ⟨⟨_, h.2.1⟩, (Nat.le_of_ble_eq_true rfl), _, _, _, c_K_rw hfl h hs, by first | omega | exact Nat.le_of_ble_eq_true rfl | (simp only [dl1, dl2, dl3, dl4, dl5, dl6]; omega), by first | omega | exact Nat.le_of_ble_eq_true rfl | (simp only [dl1, dl2, dl3, dl4, dl5, dl6]; omega), k_rl ?_, k_rr⟩
  conv => whnf
  refine ⟨⟨_, h.2.1⟩, (Nat.le_of_ble_eq_true rfl), _, _, _, c_K_chosenWithContent hfl h hc, by first | omega | exact Nat.le_of_ble_eq_true rfl | (simp only [dl1, dl2, dl3, dl4, dl5, dl6]; omega), by first | omega | exact Nat.le_of_ble_eq_true rfl | (simp only [dl1, dl2, dl3, dl4, dl5, dl6]; omega), fun v g1 hh => ?_, fun C g1 hh => ?_⟩
  · obtain ⟨rfl, b, hv, hE⟩ := hh
    cases hv
    obtain ⟨pp, c, e1, -, ⟨f2, e3, e5, e6, e4⟩, -⟩ := id hE
    conv => whnf
    refine ⟨fun h => absurd h (q_lt0 (by omega)), fun _ => ?_⟩
    conv => whnf
    refine ⟨_, _, e1, rfl, ?_⟩
    conv => whnf
    refine Or.inl ⟨_, _, e3, by decide, ?_⟩
    conv => whnf
    refine ⟨fun _ => ?_, fun h => absurd ((q_le (by omega) (by omega)).mpr hn) h⟩
    conv => whnf
    refine ⟨_, _, h.2.1, rfl, ?_⟩
    conv => whnf
    refine ⟨_, _, e1, rfl, ?_⟩
    conv => whnf
    refine ⟨(Nat.le_of_ble_eq_true rfl), _, _, _, c_A_copyOf (m := n) hfl e3 (fun i hi => by rw [e5 i hi]; exact sx_fits _) (by omega) (by omega), by first | omega | exact Nat.le_of_ble_eq_true rfl | (simp only [dl1, dl2, dl3, dl4, dl5, dl6]; omega), by first | omega | exact Nat.le_of_ble_eq_true rfl | (simp only [dl1, dl2, dl3, dl4, dl5, dl6]; omega), fun v g2 hh => ?_, fun C g2 hh => ?_⟩
    · obtain ⟨q, f1, hq, hv, rfl, hf1⟩ := hh
      cases hv
      have hf : fx (List.map ad []) g1 (g_up g1 q (.inl (0, n, .inl f1))) := fx_new fx_rf hq
      have hby : isBy (g_up g1 q (.inl (0, n, .inl f1))) q ((eC E).take n) := isBy_take (m := 0) g_up_s hn (fun i hi => by rw [hf1 i hi, if_pos (by omega), e5 i (by omega)]) e6 e4
      have h1 := cK_fx h hf
      have hE1 := en_fx hE hf (by simp)
      obtain ⟨pp1, c1, e7, -⟩ := id hE1
      conv => whnf
      refine ⟨⟨_, e7⟩, (Nat.le_of_ble_eq_true rfl), _, _, _, c_E_withContent hfl hE1 hby (al_n hU hq) (al_fx hU hf), by first | omega | exact Nat.le_of_ble_eq_true rfl | (simp only [dl1, dl2, dl3, dl4, dl5, dl6]; omega), by first | omega | exact Nat.le_of_ble_eq_true rfl | (simp only [dl1, dl2, dl3, dl4, dl5, dl6]; omega), fun v g3 hh => ?_, fun C g3 hh => ?_⟩
      · obtain ⟨q2, hv, hq2, hE2, hf2⟩ := hh
        cases hv
        have h2 := cK_fx h1 (g1 := g3) hf2
        obtain ⟨-, -, -, s6, -⟩ := id h2
        obtain ⟨f7, s7, -⟩ := id s6
        conv => whnf
        refine ⟨⟨_, s7⟩, (Nat.le_of_ble_eq_true rfl), _, _, _, c_R_put hfl s6 hE2 (iUU rfl) (iUU rfl) hl, by first | omega | exact Nat.le_of_ble_eq_true rfl | (simp only [dl1, dl2, dl3, dl4, dl5, dl6]; omega), by first | omega | exact Nat.le_of_ble_eq_true rfl | (simp only [dl1, dl2, dl3, dl4, dl5, dl6]; omega), fun v g4 hh => ?_, fun C g4 hh => ?_⟩
        · obtain ⟨hv, hT3, hf3⟩ := hh
          cases hv
          conv => whnf
          refine ⟨rfl, ?_, by first | omega | exact Nat.le_of_ble_eq_true rfl | (simp only [dl1, dl2, dl3, dl4, dl5, dl6]; omega), by first | omega | exact Nat.le_of_ble_eq_true rfl | (simp only [dl1, dl2, dl3, dl4, dl5, dl6]; omega)⟩
          exact ⟨rfl, fx_tr (fx_tr (fx_nil hf) (fx_nil hf2)) (fx_sub hf3 (sUU (I := [4, 5]) rfl)), rs, cK_src h2 hT3 hf3⟩
        · cases hh.1
      · obtain ⟨q, hv, -⟩ := hh
        cases hv
    · obtain ⟨q, f1, hq, hv, -⟩ := hh
      cases hv
  · obtain ⟨-, v, hv, -⟩ := hh
    cases hv
theorem c_K_remove_uw (hfl : l.flags = pinnedFlags ++ [noTraceFlag]) (h : cK ad g R T S M Rs Hs X ch st tm dn rs) (hs : st = nI 1) : k_CT l D aC n_K_remove 16 4000 [.ref (ad 0)] g (kO ad g (.inr IS) R T S M Rs Hs X ch st tm dn) := by
  refine k_ln hfl n_K_remove ok_K_remove rfl rfl rfl rfl rfl rfl (fun h => by cases h) (Nat.le_of_ble_eq_true rfl) 60 ?_
  conv => whnf
  refine ⟨⟨_, h.2.1⟩, (Nat.le_of_ble_eq_true rfl), _, _, _, c_K_rw_no hfl h hs, by first | omega | exact Nat.le_of_ble_eq_true rfl | (simp only [dl1, dl2, dl3, dl4, dl5, dl6]; omega), by first | omega | exact Nat.le_of_ble_eq_true rfl | (simp only [dl1, dl2, dl3, dl4, dl5, dl6]; omega), fun v g1 hh => ?_, fun C g1 hh => ?_⟩
  · cases hh.1
  · obtain ⟨hv, rfl⟩ := hh
    cases hv
    exact ⟨kO_same h, by first | omega | exact Nat.le_of_ble_eq_true rfl | (simp only [dl1, dl2, dl3, dl4, dl5, dl6]; omega), by first | omega | exact Nat.le_of_ble_eq_true rfl | (simp only [dl1, dl2, dl3, dl4, dl5, dl6]; omega)⟩
theorem c_K_remove_no (hfl : l.flags = pinnedFlags ++ [noTraceFlag]) (h : cK ad g R T S M Rs Hs X ch st tm dn rs) (hs : st ≠ nI 1) (hc : atI S ch = none) : k_CT l D aC n_K_remove 16 4000 [.ref (ad 0)] g (kO ad g (.inr IS) R T S M Rs Hs X ch st tm dn) := by
  refine k_ln hfl n_K_remove ok_K_remove rfl rfl rfl rfl rfl rfl (fun h => by cases h) (Nat.le_of_ble_eq_true rfl) 60 ?_
  conv => whnf
  refine ⟨⟨_, h.2.1⟩, (Nat.le_of_ble_eq_true rfl), _, _, _, c_K_rw hfl h hs, by first | omega | exact Nat.le_of_ble_eq_true rfl | (simp only [dl1, dl2, dl3, dl4, dl5, dl6]; omega), by first | omega | exact Nat.le_of_ble_eq_true rfl | (simp only [dl1, dl2, dl3, dl4, dl5, dl6]; omega), k_rl ?_, k_rr⟩
  conv => whnf
  refine ⟨_, _, h.2.1, rfl, ?_⟩
  conv => whnf
  refine ⟨⟨_, h.2.1⟩, (Nat.le_of_ble_eq_true rfl), _, _, _, c_K_chosenEntry_no hfl h hc, by first | omega | exact Nat.le_of_ble_eq_true rfl | (simp only [dl1, dl2, dl3, dl4, dl5, dl6]; omega), by first | omega | exact Nat.le_of_ble_eq_true rfl | (simp only [dl1, dl2, dl3, dl4, dl5, dl6]; omega), fun v g1 hh => ?_, fun C g1 hh => ?_⟩
  · cases hh.1
  · obtain ⟨hv, rfl⟩ := hh
    cases hv
    exact ⟨kO_same h, by first | omega | exact Nat.le_of_ble_eq_true rfl | (simp only [dl1, dl2, dl3, dl4, dl5, dl6]; omega), by first | omega | exact Nat.le_of_ble_eq_true rfl | (simp only [dl1, dl2, dl3, dl4, dl5, dl6]; omega)⟩
theorem c_K_remove (hfl : l.flags = pinnedFlags ++ [noTraceFlag]) (h : cK ad g R T S M Rs Hs X ch st tm dn rs) (hs : st ≠ nI 1) {E : Ent} (hc : atI S ch = some E) : k_CT l D aC n_K_remove 16 4000 [.ref (ad 0)] g (kO ad g (.inl (some (.int (nI (S.length - (keepL S E.1).length))))) R T (keepL S E.1) M Rs Hs X (-1) st tm dn) := by
  refine k_ln hfl n_K_remove ok_K_remove rfl rfl rfl rfl rfl rfl (fun h => by cases h) (Nat.le_of_ble_eq_true rfl) 60 ?_
  conv => whnf
  refine ⟨⟨_, h.2.1⟩, (Nat.le_of_ble_eq_true rfl), _, _, _, c_K_rw hfl h hs, by first | omega | exact Nat.le_of_ble_eq_true rfl | (simp only [dl1, dl2, dl3, dl4, dl5, dl6]; omega), by first | omega | exact Nat.le_of_ble_eq_true rfl | (simp only [dl1, dl2, dl3, dl4, dl5, dl6]; omega), k_rl ?_, k_rr⟩
  conv => whnf
  refine ⟨_, _, h.2.1, rfl, ?_⟩
  conv => whnf
  refine ⟨⟨_, h.2.1⟩, (Nat.le_of_ble_eq_true rfl), _, _, _, c_K_chosenEntry hfl h hc, by first | omega | exact Nat.le_of_ble_eq_true rfl | (simp only [dl1, dl2, dl3, dl4, dl5, dl6]; omega), by first | omega | exact Nat.le_of_ble_eq_true rfl | (simp only [dl1, dl2, dl3, dl4, dl5, dl6]; omega), fun v g1 hh => ?_, fun C g1 hh => ?_⟩
  · obtain ⟨rfl, b, hv, hE⟩ := hh
    cases hv
    obtain ⟨pp, c, e1, e2, -, -, e3, -⟩ := id hE
    obtain ⟨-, -, -, s6, -⟩ := id h
    obtain ⟨f7, s7, -⟩ := id s6
    conv => whnf
    refine ⟨_, _, e1, rfl, ?_⟩
    conv => whnf
    refine ⟨⟨_, s7⟩, (Nat.le_of_ble_eq_true rfl), _, _, _, c_R_dropAllFrom hfl s6 e2 e3 (iUU rfl) (iUU rfl), by first | omega | exact Nat.le_of_ble_eq_true rfl | (simp only [dl1, dl2, dl3, dl4, dl5, dl6]; omega), by first | omega | exact Nat.le_of_ble_eq_true rfl | (simp only [dl1, dl2, dl3, dl4, dl5, dl6]; omega), fun v g3 hh => ?_, fun C g3 hh => ?_⟩
    · obtain ⟨hv, hT3, hf3⟩ := hh
      cases hv
      have h3 := cK_src h hT3 hf3
      conv => whnf
      refine ⟨_, h3.2.1, by simp, rfl, rfl, ?_⟩
      conv => whnf
      refine ⟨⟨_, rfl, rfl⟩, ?_, by first | omega | exact Nat.le_of_ble_eq_true rfl | (simp only [dl1, dl2, dl3, dl4, dl5, dl6]; omega), by first | omega | exact Nat.le_of_ble_eq_true rfl | (simp only [dl1, dl2, dl3, dl4, dl5, dl6]; omega)⟩
      exact ⟨rfl, fx_up (fx_sub hf3 (sUU (I := [4, 5]) rfl)) (iUU rfl), rs, cK_z h3⟩
    · cases hh.1
  · obtain ⟨-, v, hv, -⟩ := hh
    cases hv
end KS
