/-! MirrorKeepModel: cut, write, remove -/
section MWR
variable {am : Nat → Nat} {A A1 : mA} {F F1 : mF} {g : g_H} {R T : List Nat} {S M Rs : List Ent} {Hs : List Ses} {O N : List Ent} {cp : Option (List Nat)} {st tv : Int32} {op nX : Nat}
variable {l : Launch} {D : va_G} {aC : Nat → ClassId}
theorem ib_nil {f : Nat → Int32} : ib f [] := ⟨fun i hi => absurd hi (by simp), fun b hb => by cases hb⟩
theorem wrC_nil (C : List Nat) : wrC C 0 [] = C := by simp [wrC]
theorem chC_at {ch : Int32} (hl : S.length ≤ 120) (hc : chR S ch cp) : (cp = none ∧ ch = -1 ∧ chC S ch = none) ∨ ∃ i E, cp = some E.1 ∧ S[i]? = some E ∧ ch = nI i ∧ i < S.length ∧ (E.2.1 = nI 2 ∧ chC S ch = none ∨ ¬ E.2.1 = nI 2 ∧ chC S ch = some E) := by
  rcases chR_at hl hc with ⟨h1, h2, h3⟩ | ⟨i, E, h1, h2, h3, h4, h5⟩
  · exact Or.inl ⟨h1, h2, by unfold chC; rw [h3]⟩
  · refine Or.inr ⟨i, E, h1, h2, h3, h5, ?_⟩
    by_cases hk : E.2.1 = nI 2
    · exact Or.inl ⟨hk, by unfold chC; rw [h4]; exact if_pos hk⟩
    · exact Or.inr ⟨hk, by unfold chC; rw [h4]; exact if_neg hk⟩
theorem c_M_cut_no (hfl : l.flags = pinnedFlags ++ [noTraceFlag]) (h : mg am A F g) (r : mR A F R T S M Rs Hs O N cp st tv op nX) (hS : srt S) {ch : Int32} (hc : chR S ch cp) (hs : st = nI 1 ∨ chC S ch = none) {x : Int32} : k_CT l D aC n_M_cut 0 0 [.ref (am 0), .int x] g (mO am g (.inl none) 2 R T S M Rs Hs O N cp st tv op nX) := by
  obtain ⟨⟨-, f2, -⟩, -, -, hT0, -, -, -, -, -, hcp⟩ := id r
  have hl2 := hT0.2.2.1
  have h1 := mg_z h (F1 := uF F 0 (nI 2))
  have hP : mO am g (.inl none) 2 R T S M Rs Hs O N cp st tv op nX (.inl none) (g_up g (am 0) (mo am (uF F 0 (nI 2)))) := ⟨rfl, fx_up fx_rf (iUU rfl), A, _, h1, uF_s, mR_z r⟩
  refine k_ln hfl n_M_cut ok_M_cut rfl rfl rfl rfl rfl rfl (fun h => by cases h) (Nat.le_of_ble_eq_true rfl) 60 ?_
  conv => whnf
  refine ⟨⟨_, h.z⟩, (Nat.le_of_ble_eq_true rfl), _, _, _, c_M_chosenAt hfl h hT0 hS hcp hc, by first | omega | exact Nat.le_of_ble_eq_true rfl | (simp only [dl1, dl2, dl3, dl4, dl5, dl6]; omega), by first | omega | exact Nat.le_of_ble_eq_true rfl | (simp only [dl1, dl2, dl3, dl4, dl5, dl6]; omega), k_rl ?_, k_rr⟩
  conv => whnf
  refine ⟨_, _, h.z, rfl, ?_⟩
  rw [f2]
  conv => whnf
  refine ⟨fun h5 => ?_, fun h5 => ?_⟩
  · conv => whnf
    refine ⟨_, h.z, by simp, rfl, rfl, ?_⟩
    conv => whnf
    refine ⟨_, _, h1.z, rfl, ?_⟩
    rw [show uF F 0 (nI 2) 0 = nI 2 from uF_s]
    conv => whnf
    refine ⟨fun _ => ?_, fun h => absurd (by simp only [w_cmp]; decide) h⟩
    conv => whnf
    refine ⟨rfl, hP, by first | omega | exact Nat.le_of_ble_eq_true rfl | (simp only [dl1, dl2, dl3, dl4, dl5, dl6]; omega), by first | omega | exact Nat.le_of_ble_eq_true rfl | (simp only [dl1, dl2, dl3, dl4, dl5, dl6]; omega)⟩
  · rcases hs with z | z
    · exact absurd z h5
    · rcases chC_at hl2 hc with ⟨-, e1, -⟩ | ⟨i, E, -, e0, e1, hi, hk⟩
      · rw [e1]
        conv => whnf
        refine ⟨fun _ => ?_, fun h => absurd (by simp only [w_cmp]; decide) h⟩
        conv => whnf
        refine ⟨_, h.z, by simp, rfl, rfl, ?_⟩
        conv => whnf
        refine ⟨_, _, h1.z, rfl, ?_⟩
        rw [show uF F 0 (nI 2) 0 = nI 2 from uF_s]
        conv => whnf
        refine ⟨fun _ => ?_, fun h => absurd (by simp only [w_cmp]; decide) h⟩
        conv => whnf
        refine ⟨rfl, hP, by first | omega | exact Nat.le_of_ble_eq_true rfl | (simp only [dl1, dl2, dl3, dl4, dl5, dl6]; omega), by first | omega | exact Nat.le_of_ble_eq_true rfl | (simp only [dl1, dl2, dl3, dl4, dl5, dl6]; omega)⟩
      · rw [e1]
        conv => whnf
        refine ⟨fun h => absurd h (q_lt0 (by omega)), fun _ => ?_⟩
        conv => whnf
        refine ⟨_, _, h.z, rfl, ?_⟩
        conv => whnf
        refine ⟨(Nat.le_of_ble_eq_true rfl), _, _, _, c_M_place hfl, by first | omega | exact Nat.le_of_ble_eq_true rfl | (simp only [dl1, dl2, dl3, dl4, dl5, dl6]; omega), by first | omega | exact Nat.le_of_ble_eq_true rfl | (simp only [dl1, dl2, dl3, dl4, dl5, dl6]; omega), k_rl ?_, k_rr⟩
        conv => whnf
        refine Or.inl ⟨1, _, _, 120 * 0 + i, h.a3, rfl, rfl, by omega, by first | decide | omega, ?_⟩
        rw [(hT0.2.2.2.2 i _ e0).2.1]
        rcases hk with ⟨hk, -⟩ | ⟨-, hk⟩
        · rw [hk]
          conv => whnf
          refine ⟨fun h => absurd h (fun y => y rfl), fun _ => ?_⟩
          conv => whnf
          refine ⟨_, h.z, by simp, rfl, rfl, ?_⟩
          conv => whnf
          refine ⟨_, _, h1.z, rfl, ?_⟩
          rw [show uF F 0 (nI 2) 0 = nI 2 from uF_s]
          conv => whnf
          refine ⟨fun _ => ?_, fun h => absurd (by simp only [w_cmp]; decide) h⟩
          conv => whnf
          refine ⟨rfl, hP, by first | omega | exact Nat.le_of_ble_eq_true rfl | (simp only [dl1, dl2, dl3, dl4, dl5, dl6]; omega), by first | omega | exact Nat.le_of_ble_eq_true rfl | (simp only [dl1, dl2, dl3, dl4, dl5, dl6]; omega)⟩
        · rw [z] at hk; cases hk
theorem c_M_cut_bad (hfl : l.flags = pinnedFlags ++ [noTraceFlag]) (h : mg am A F g) (r : mR A F R T S M Rs Hs O N cp st tv op nX) (hS : srt S) {ch : Int32} (hc : chR S ch cp) (hs : st ≠ nI 1) {E : Ent} {i : Nat} (e0 : S[i]? = some E) (e1 : ch = nI i) (hk : ¬ E.2.1 = nI 2) {x : Int32} (hb : x.toInt < 0 ∨ ((eC E).length : Int) < x.toInt) : k_CT l D aC n_M_cut 0 0 [.ref (am 0), .int x] g (mO am g (.inl none) 1 R T S M Rs Hs O N cp st tv op nX) := by
  obtain ⟨⟨-, f2, -⟩, -, -, hT0, -, -, -, -, -, hcp⟩ := id r
  have hl2 := hT0.2.2.1
  have hi := (List.getElem?_eq_some_iff.mp e0).1
  have hle := sumC_le e0
  have hsm := hT0.2.2.2.1
  obtain ⟨hB, s3, s4, s5, s6, s7, s8, -⟩ := hT0.2.2.2.2 i _ e0
  have h1 := mg_z h (F1 := uF F 0 (nI 1))
  have hP : mO am g (.inl none) 1 R T S M Rs Hs O N cp st tv op nX (.inl none) (g_up g (am 0) (mo am (uF F 0 (nI 1)))) := ⟨rfl, fx_up fx_rf (iUU rfl), A, _, h1, uF_s, mR_z r⟩
  refine k_ln hfl n_M_cut ok_M_cut rfl rfl rfl rfl rfl rfl (fun h => by cases h) (Nat.le_of_ble_eq_true rfl) 60 ?_
  conv => whnf
  refine ⟨⟨_, h.z⟩, (Nat.le_of_ble_eq_true rfl), _, _, _, c_M_chosenAt hfl h hT0 hS hcp hc, by first | omega | exact Nat.le_of_ble_eq_true rfl | (simp only [dl1, dl2, dl3, dl4, dl5, dl6]; omega), by first | omega | exact Nat.le_of_ble_eq_true rfl | (simp only [dl1, dl2, dl3, dl4, dl5, dl6]; omega), k_rl ?_, k_rr⟩
  conv => whnf
  refine ⟨_, _, h.z, rfl, ?_⟩
  rw [f2, e1]
  conv => whnf
  refine ⟨fun h => absurd h hs, fun _ => ?_⟩
  conv => whnf
  refine ⟨fun h => absurd h (q_lt0 (by omega)), fun _ => ?_⟩
  conv => whnf
  refine ⟨_, _, h.z, rfl, ?_⟩
  conv => whnf
  refine ⟨(Nat.le_of_ble_eq_true rfl), _, _, _, c_M_place hfl, by first | omega | exact Nat.le_of_ble_eq_true rfl | (simp only [dl1, dl2, dl3, dl4, dl5, dl6]; omega), by first | omega | exact Nat.le_of_ble_eq_true rfl | (simp only [dl1, dl2, dl3, dl4, dl5, dl6]; omega), k_rl ?_, k_rr⟩
  conv => whnf
  refine Or.inl ⟨1, _, _, 120 * 0 + i, h.a3, rfl, rfl, by omega, by first | decide | omega, ?_⟩
  rw [s3]
  conv => whnf
  refine ⟨fun _ => ?_, fun h => absurd hk h⟩
  conv => whnf
  refine ⟨fun h5 => ?_, fun h5 => ?_⟩
  · conv => whnf
    refine ⟨_, h.z, by simp, rfl, rfl, ?_⟩
    conv => whnf
    refine ⟨_, _, h1.z, rfl, ?_⟩
    rw [show uF F 0 (nI 1) 0 = nI 1 from uF_s]
    conv => whnf
    refine ⟨fun _ => ?_, fun h => absurd (by simp only [w_cmp]; decide) h⟩
    conv => whnf
    refine ⟨rfl, hP, by first | omega | exact Nat.le_of_ble_eq_true rfl | (simp only [dl1, dl2, dl3, dl4, dl5, dl6]; omega), by first | omega | exact Nat.le_of_ble_eq_true rfl | (simp only [dl1, dl2, dl3, dl4, dl5, dl6]; omega)⟩
  · have k1 : ¬ x.toInt < 0 := h5
    conv => whnf
    refine ⟨_, _, h.z, rfl, ?_⟩
    conv => whnf
    refine ⟨(Nat.le_of_ble_eq_true rfl), _, _, _, c_M_place hfl, by first | omega | exact Nat.le_of_ble_eq_true rfl | (simp only [dl1, dl2, dl3, dl4, dl5, dl6]; omega), by first | omega | exact Nat.le_of_ble_eq_true rfl | (simp only [dl1, dl2, dl3, dl4, dl5, dl6]; omega), k_rl ?_, k_rr⟩
    conv => whnf
    refine Or.inl ⟨1, _, _, 120 * 0 + i, h.a8, rfl, rfl, by omega, by first | decide | omega, ?_⟩
    rw [s8]
    conv => whnf
    refine ⟨fun h => absurd h (fun z => absurd ((x_le (by omega)).mp z) (by omega)), fun _ => ?_⟩
    conv => whnf
    refine ⟨_, h.z, by simp, rfl, rfl, ?_⟩
    conv => whnf
    refine ⟨_, _, h1.z, rfl, ?_⟩
    rw [show uF F 0 (nI 1) 0 = nI 1 from uF_s]
    conv => whnf
    refine ⟨fun _ => ?_, fun h => absurd (by simp only [w_cmp]; decide) h⟩
    conv => whnf
    refine ⟨rfl, hP, by first | omega | exact Nat.le_of_ble_eq_true rfl | (simp only [dl1, dl2, dl3, dl4, dl5, dl6]; omega), by first | omega | exact Nat.le_of_ble_eq_true rfl | (simp only [dl1, dl2, dl3, dl4, dl5, dl6]; omega)⟩
theorem c_M_cut (hfl : l.flags = pinnedFlags ++ [noTraceFlag]) (h : mg am A F g) (r : mR A F R T S M Rs Hs O N cp st tv op nX) (hS : srt S) {ch : Int32} (hc : chR S ch cp) (hs : st ≠ nI 1) {E : Ent} {i : Nat} (e0 : S[i]? = some E) (e1 : ch = nI i) (hk : ¬ E.2.1 = nI 2) {n : Nat} (hn : n ≤ (eC E).length) : k_CT l D aC n_M_cut 0 0 [.ref (am 0), .int (nI n)] g (mO am g (.inl none) 0 R T (S.set i (E.1, E.2.1, E.2.2.1, E.2.2.2.1, (eC E).take n)) M Rs Hs O N cp st tv op nX) := by
  obtain ⟨⟨-, f2, -⟩, -, -, hT0, -, -, -, -, -, hcp⟩ := id r
  have hl2 := hT0.2.2.1
  have hi := (List.getElem?_eq_some_iff.mp e0).1
  have hle := sumC_le e0
  have hsm := hT0.2.2.2.1
  obtain ⟨hB, s3, s4, s5, s6, s7, s8, -⟩ := hT0.2.2.2.2 i _ e0
  have h1 := mg_z h (F1 := uF F 0 (nI 0))
  have hch := c_M_change (l := l) (D := D) (aC := aC) hfl h1 (mR_z r) (P := []) (len := n) (fr := 0) ib_nil (by simp) e0 (by omega) (by rw [wrC_nil]; exact hn) (by rw [wrC_nil]; omega)
  rw [wrC_nil] at hch
  refine k_ln hfl n_M_cut ok_M_cut rfl rfl rfl rfl rfl rfl (fun h => by cases h) (Nat.le_of_ble_eq_true rfl) 60 ?_
  conv => whnf
  refine ⟨⟨_, h.z⟩, (Nat.le_of_ble_eq_true rfl), _, _, _, c_M_chosenAt hfl h hT0 hS hcp hc, by first | omega | exact Nat.le_of_ble_eq_true rfl | (simp only [dl1, dl2, dl3, dl4, dl5, dl6]; omega), by first | omega | exact Nat.le_of_ble_eq_true rfl | (simp only [dl1, dl2, dl3, dl4, dl5, dl6]; omega), k_rl ?_, k_rr⟩
  conv => whnf
  refine ⟨_, _, h.z, rfl, ?_⟩
  rw [f2, e1]
  conv => whnf
  refine ⟨fun h => absurd h hs, fun _ => ?_⟩
  conv => whnf
  refine ⟨fun h => absurd h (q_lt0 (by omega)), fun _ => ?_⟩
  conv => whnf
  refine ⟨_, _, h.z, rfl, ?_⟩
  conv => whnf
  refine ⟨(Nat.le_of_ble_eq_true rfl), _, _, _, c_M_place hfl, by first | omega | exact Nat.le_of_ble_eq_true rfl | (simp only [dl1, dl2, dl3, dl4, dl5, dl6]; omega), by first | omega | exact Nat.le_of_ble_eq_true rfl | (simp only [dl1, dl2, dl3, dl4, dl5, dl6]; omega), k_rl ?_, k_rr⟩
  conv => whnf
  refine Or.inl ⟨1, _, _, 120 * 0 + i, h.a3, rfl, rfl, by omega, by first | decide | omega, ?_⟩
  rw [s3]
  conv => whnf
  refine ⟨fun _ => ?_, fun h => absurd hk h⟩
  conv => whnf
  refine ⟨fun h => absurd h (q_lt0 (by omega)), fun _ => ?_⟩
  conv => whnf
  refine ⟨_, _, h.z, rfl, ?_⟩
  conv => whnf
  refine ⟨(Nat.le_of_ble_eq_true rfl), _, _, _, c_M_place hfl, by first | omega | exact Nat.le_of_ble_eq_true rfl | (simp only [dl1, dl2, dl3, dl4, dl5, dl6]; omega), by first | omega | exact Nat.le_of_ble_eq_true rfl | (simp only [dl1, dl2, dl3, dl4, dl5, dl6]; omega), k_rl ?_, k_rr⟩
  conv => whnf
  refine Or.inl ⟨1, _, _, 120 * 0 + i, h.a8, rfl, rfl, by omega, by first | decide | omega, ?_⟩
  rw [s8]
  conv => whnf
  refine ⟨fun _ => ?_, fun h => absurd ((q_le (by omega) (by omega)).mpr hn) h⟩
  conv => whnf
  refine ⟨_, h.z, by simp, rfl, rfl, ?_⟩
  conv => whnf
  refine ⟨_, _, h1.z, rfl, ?_⟩
  rw [show uF F 0 (nI 0) 0 = nI 0 from uF_s]
  conv => whnf
  refine ⟨fun h => absurd h (by simp only [w_cmp]; decide), fun _ => ?_⟩
  conv => whnf
  refine ⟨⟨_, h1.z⟩, (Nat.le_of_ble_eq_true rfl), _, _, _, hch, by first | omega | exact Nat.le_of_ble_eq_true rfl | (simp only [dl1, dl2, dl3, dl4, dl5, dl6]; omega), by first | omega | exact Nat.le_of_ble_eq_true rfl | (simp only [dl1, dl2, dl3, dl4, dl5, dl6]; omega), fun v g1 hh => ?_, fun C g1 hh => ?_⟩
  · obtain ⟨hv, hfx, A1, h2, r2⟩ := hh
    cases hv
    conv => whnf
    refine ⟨rfl, ⟨rfl, fx_tr (fx_up fx_rf (iUU rfl)) hfx, A1, _, h2, uF_s, r2⟩, by first | omega | exact Nat.le_of_ble_eq_true rfl | (simp only [dl1, dl2, dl3, dl4, dl5, dl6]; omega), by first | omega | exact Nat.le_of_ble_eq_true rfl | (simp only [dl1, dl2, dl3, dl4, dl5, dl6]; omega)⟩
  · cases hh.1
theorem c_M_write_uw (hfl : l.flags = pinnedFlags ++ [noTraceFlag]) (h : mg am A F g) (r : mR A F R T S M Rs Hs O N cp st tv op nX) (hs : st = nI 1) {x : Int32} : k_CT l D aC n_M_write 0 0 [.ref (am 0), .int x] g (mO am g (.inl (some (.int (nI 0)))) 2 R T S M Rs Hs O N cp st tv op nX) := by
  have f2 : F 2 = st := r.1.2.1
  refine k_ln hfl n_M_write ok_M_write rfl rfl rfl rfl rfl rfl (fun h => by cases h) (Nat.le_of_ble_eq_true rfl) 60 ?_
  conv => whnf
  refine ⟨_, _, h.z, rfl, ?_⟩
  rw [f2]
  conv => whnf
  refine ⟨fun h => absurd h (fun z => z hs), fun _ => ?_⟩
  conv => whnf
  refine ⟨_, h.z, by simp, rfl, rfl, ?_⟩
  have h1 := mg_z h (F1 := uF F 0 (nI 2))
  conv => whnf
  refine ⟨_, _, h1.z, rfl, ?_⟩
  rw [show uF F 0 (nI 2) 0 = nI 2 from uF_s]
  conv => whnf
  refine ⟨fun h => absurd h (by simp only [w_cmp]; decide), fun _ => ?_⟩
  conv => whnf
  refine ⟨⟨_, rfl, rfl⟩, ⟨rfl, fx_up fx_rf (iUU rfl), A, _, h1, uF_s, mR_z r⟩, by first | omega | exact Nat.le_of_ble_eq_true rfl | (simp only [dl1, dl2, dl3, dl4, dl5, dl6]; omega), by first | omega | exact Nat.le_of_ble_eq_true rfl | (simp only [dl1, dl2, dl3, dl4, dl5, dl6]; omega)⟩
theorem c_M_write_no (hfl : l.flags = pinnedFlags ++ [noTraceFlag]) (h : mg am A F g) (r : mR A F R T S M Rs Hs O N cp st tv op nX) (hS : srt S) {ch : Int32} (hc : chR S ch cp) (hs : st ≠ nI 1) (hk : chC S ch = none) {x : Int32} : k_CT l D aC n_M_write 0 0 [.ref (am 0), .int x] g (mO am g (.inl (some (.int (nI 0)))) 2 R [] S M Rs Hs O N cp st tv op nX) := by
  obtain ⟨⟨f1, f2, -⟩, -, ⟨t1, t2⟩, hT0, -, -, -, -, -, hcp⟩ := id r
  have f1' : uF F 0 (nI 0) 1 = nI T.length := f1
  have hl2 := hT0.2.2.1
  have hsm := hT0.2.2.2.1
  have h1 := mg_z h (F1 := uF F 0 (nI 0))
  have h2 := mg_z h1 (F1 := uF (uF F 0 (nI 0)) 1 (nI 0))
  have r2 := mR_t0 (mR_z (x := nI 0) r)
  have h3 := mg_z h2 (F1 := uF (uF (uF F 0 (nI 0)) 1 (nI 0)) 0 (nI 2))
  refine k_ln hfl n_M_write ok_M_write rfl rfl rfl rfl rfl rfl (fun h => by cases h) (Nat.le_of_ble_eq_true rfl) 100 ?_
  conv => whnf
  refine ⟨_, _, h.z, rfl, ?_⟩
  rw [f2]
  conv => whnf
  refine ⟨fun _ => ?_, fun h => absurd hs h⟩
  conv => whnf
  refine ⟨_, h.z, by simp, rfl, rfl, ?_⟩
  conv => whnf
  refine ⟨_, _, h1.z, rfl, ?_⟩
  rw [show uF F 0 (nI 0) 0 = nI 0 from uF_s]
  conv => whnf
  refine ⟨fun _ => ?_, fun h => absurd (by simp only [w_cmp]; decide) h⟩
  conv => whnf
  refine ⟨_, _, h1.z, rfl, ?_⟩
  rw [f1']
  conv => whnf
  refine ⟨_, h1.z, by simp, rfl, rfl, ?_⟩
  conv => whnf
  refine ⟨⟨_, h2.z⟩, (Nat.le_of_ble_eq_true rfl), _, _, _, c_M_chosenAt hfl h2 hT0 hS r2.2.2.2.2.2.2.2.2.2 hc, by first | omega | exact Nat.le_of_ble_eq_true rfl | (simp only [dl1, dl2, dl3, dl4, dl5, dl6]; omega), by first | omega | exact Nat.le_of_ble_eq_true rfl | (simp only [dl1, dl2, dl3, dl4, dl5, dl6]; omega), k_rl ?_, k_rr⟩
  rcases chC_at hl2 hc with ⟨-, e1, -⟩ | ⟨i, E, -, e0, e1, hi, hk2⟩
  · rw [e1]
    conv => whnf
    refine ⟨fun h => absurd h (by simp only [w_cmp]; decide), fun _ => ?_⟩
    conv => whnf
    refine ⟨fun h => absurd h (fun y => y rfl), fun _ => ?_⟩
    conv => whnf
    refine ⟨_, h2.z, by simp, rfl, rfl, ?_⟩
    conv => whnf
    refine ⟨_, _, h3.z, rfl, ?_⟩
    rw [show uF (uF (uF F 0 (nI 0)) 1 (nI 0)) 0 (nI 2) 0 = nI 2 from uF_s]
    conv => whnf
    refine ⟨fun h => absurd h (by simp only [w_cmp]; decide), fun _ => ?_⟩
    conv => whnf
    refine ⟨⟨_, rfl, rfl⟩, ⟨rfl, fx_up (fx_up (fx_up fx_rf (iUU rfl)) (iUU rfl)) (iUU rfl), A, _, h3, uF_s, mR_z r2⟩, by first | omega | exact Nat.le_of_ble_eq_true rfl | (simp only [dl1, dl2, dl3, dl4, dl5, dl6]; omega), by first | omega | exact Nat.le_of_ble_eq_true rfl | (simp only [dl1, dl2, dl3, dl4, dl5, dl6]; omega)⟩
  · rw [e1]
    conv => whnf
    refine ⟨fun _ => ?_, fun h => absurd (q_ge0 (by omega)) h⟩
    conv => whnf
    refine ⟨_, _, h2.z, rfl, ?_⟩
    conv => whnf
    refine ⟨(Nat.le_of_ble_eq_true rfl), _, _, _, c_M_place hfl, by first | omega | exact Nat.le_of_ble_eq_true rfl | (simp only [dl1, dl2, dl3, dl4, dl5, dl6]; omega), by first | omega | exact Nat.le_of_ble_eq_true rfl | (simp only [dl1, dl2, dl3, dl4, dl5, dl6]; omega), k_rl ?_, k_rr⟩
    conv => whnf
    refine Or.inl ⟨1, _, _, 120 * 0 + i, h2.a3, rfl, rfl, by omega, by first | decide | omega, ?_⟩
    rw [(hT0.2.2.2.2 i _ e0).2.1]
    rcases hk2 with ⟨hk2, -⟩ | ⟨-, hk2⟩
    · rw [hk2]
      conv => whnf
      refine ⟨fun h => absurd h (fun y => y rfl), fun _ => ?_⟩
      conv => whnf
      refine ⟨_, h2.z, by simp, rfl, rfl, ?_⟩
      conv => whnf
      refine ⟨_, _, h3.z, rfl, ?_⟩
      rw [show uF (uF (uF F 0 (nI 0)) 1 (nI 0)) 0 (nI 2) 0 = nI 2 from uF_s]
      conv => whnf
      refine ⟨fun h => absurd h (by simp only [w_cmp]; decide), fun _ => ?_⟩
      conv => whnf
      refine ⟨⟨_, rfl, rfl⟩, ⟨rfl, fx_up (fx_up (fx_up fx_rf (iUU rfl)) (iUU rfl)) (iUU rfl), A, _, h3, uF_s, mR_z r2⟩, by first | omega | exact Nat.le_of_ble_eq_true rfl | (simp only [dl1, dl2, dl3, dl4, dl5, dl6]; omega), by first | omega | exact Nat.le_of_ble_eq_true rfl | (simp only [dl1, dl2, dl3, dl4, dl5, dl6]; omega)⟩
    · rw [hk] at hk2; cases hk2
theorem c_M_write_big (hfl : l.flags = pinnedFlags ++ [noTraceFlag]) (h : mg am A F g) (r : mR A F R T S M Rs Hs O N cp st tv op nX) (hS : srt S) {ch : Int32} (hc : chR S ch cp) (hs : st ≠ nI 1) {E : Ent} {i : Nat} (e0 : S[i]? = some E) (e1 : ch = nI i) (hk : ¬ E.2.1 = nI 2) (hkd : kdOk E.2.1 = true) {x : Int32} (hbig : wrBig S E x T) : k_CT l D aC n_M_write 0 0 [.ref (am 0), .int x] g (mO am g (.inl (some (.int (nI 0)))) 2 R [] S M Rs Hs O N cp st tv op nX) := by
  obtain ⟨⟨f1, f2, -⟩, -, ⟨t1, t2⟩, hT0, -, -, -, -, -, hcp⟩ := id r
  have f1' : uF F 0 (nI 0) 1 = nI T.length := f1
  have hl2 := hT0.2.2.1
  have hsm := hT0.2.2.2.1
  have h1 := mg_z h (F1 := uF F 0 (nI 0))
  have h2 := mg_z h1 (F1 := uF (uF F 0 (nI 0)) 1 (nI 0))
  have r2 := mR_t0 (mR_z (x := nI 0) r)
  have hi := (List.getElem?_eq_some_iff.mp e0).1
  have hle := sumC_le e0
  have hge := sumC_ge e0
  obtain ⟨hB, s3, s4, s5, s6, s7, s8, -⟩ := hT0.2.2.2.2 i _ e0
  have h3 := mg_z h2 (F1 := uF (uF (uF F 0 (nI 0)) 1 (nI 0)) 0 (nI 0))
  have v1 : ((nI (eC E).length).toInt64).toInt = (eC E).length := by rw [Int32.toInt_toInt64, nI_toInt (by omega)]
  have v2 : ((nI T.length).toInt64).toInt = T.length := by rw [Int32.toInt_toInt64, nI_toInt (by omega)]
  have v3 : (x.toInt64 + (nI T.length).toInt64).toInt = x.toInt + T.length := by rw [l_add (l_i _).1 (l_i _).2 (l_i _).1 (l_i _).2, v2, Int32.toInt_toInt64]
  have hx1 := Int32.toInt_lt x
  have hx2 := Int32.le_toInt x
  have hwb : wrN E x T ≤ 2 ^ 33 ∧ -2 ^ 33 ≤ wrN E x T := by unfold wrN; omega
  have v5 : ((nI (sumC S) - nI (eC E).length).toInt64).toInt = (sumC S : Int) - (eC E).length := by
    rw [pk_sub hge, Int32.toInt_toInt64, nI_toInt (by omega)]
    omega
  have v7 : (Int32.toInt64 (nI 4000)).toInt = 4000 := by decide
  have hmost : ∀ nl : Int64, nl.toInt = wrN E x T → (E.2.1 = nI 1 → (w_cmp .gt (lg_cmp nl (nI 1500).toInt64) 0 ↔ (mostE E : Int) < wrN E x T)) ∧ (¬ E.2.1 = nI 1 → (w_cmp .gt (lg_cmp nl (nI 100).toInt64) 0 ↔ (mostE E : Int) < wrN E x T)) := by
    intro nl hnl
    constructor
    · intro hk1
      rw [lc_gt, hnl, mostE, if_neg (by rw [hk1]; decide), Int32.toInt_toInt64, nI_toInt (by decide)]
    · intro hk1
      have hk3 : E.2.1 = nI 3 := by
        have := of_decide_eq_true hkd
        rcases this with z | z | z
        · exact absurd z hk1
        · exact absurd z hk
        · exact z
      rw [lc_gt, hnl, mostE, if_pos hk3, Int32.toInt_toInt64, nI_toInt (by decide)]
  have hsix : ∀ nl : Int64, nl.toInt = wrN E x T → ((nI (sumC S) - nI (eC E).length).toInt64 + nl).toInt = (sumC S : Int) - (eC E).length + wrN E x T := by
    intro nl hnl
    rw [l_add (l_i _).1 (l_i _).2 (by omega) (by omega), v5, hnl]
  refine k_while hfl n_M_write ok_M_write rfl rfl rfl rfl rfl rfl (fun h => by cases h) (Nat.le_of_ble_eq_true rfl) [123] (fun pc d lv g1 k0 n0 => ∃ nl F1, pc = 123 ∧ d = 10 ∧ lv = [(0, .ref (am 0)), (1, .int x), (2, .int (nI T.length)), (3, .int (nI i)), (4, .int E.2.1), (5, .int (nI (eC E).length)), (8, .long nl)] ∧ k0 = 0 ∧ n0 = 0 ∧ fx (UU am) g g1 ∧ mg am A F1 g1 ∧ F1 0 = nI 0 ∧ mR A F1 R [] S M Rs Hs O N cp st tv op nX ∧ nl.toInt = wrN E x T) 100 ?_ 100 ?_
  · conv => whnf
    refine ⟨_, _, h.z, rfl, ?_⟩
    rw [f2]
    conv => whnf
    refine ⟨fun _ => ?_, fun h => absurd hs h⟩
    conv => whnf
    refine ⟨_, h.z, by simp, rfl, rfl, ?_⟩
    conv => whnf
    refine ⟨_, _, h1.z, rfl, ?_⟩
    rw [show uF F 0 (nI 0) 0 = nI 0 from uF_s]
    conv => whnf
    refine ⟨fun _ => ?_, fun h => absurd (by simp only [w_cmp]; decide) h⟩
    conv => whnf
    refine ⟨_, _, h1.z, rfl, ?_⟩
    rw [f1']
    conv => whnf
    refine ⟨_, h1.z, by simp, rfl, rfl, ?_⟩
    conv => whnf
    refine ⟨⟨_, h2.z⟩, (Nat.le_of_ble_eq_true rfl), _, _, _, c_M_chosenAt hfl h2 hT0 hS r2.2.2.2.2.2.2.2.2.2 hc, by first | omega | exact Nat.le_of_ble_eq_true rfl | (simp only [dl1, dl2, dl3, dl4, dl5, dl6]; omega), by first | omega | exact Nat.le_of_ble_eq_true rfl | (simp only [dl1, dl2, dl3, dl4, dl5, dl6]; omega), k_rl ?_, k_rr⟩
    rw [e1]
    conv => whnf
    refine ⟨fun _ => ?_, fun h => absurd (q_ge0 (by omega)) h⟩
    conv => whnf
    refine ⟨_, _, h2.z, rfl, ?_⟩
    conv => whnf
    refine ⟨(Nat.le_of_ble_eq_true rfl), _, _, _, c_M_place hfl, by first | omega | exact Nat.le_of_ble_eq_true rfl | (simp only [dl1, dl2, dl3, dl4, dl5, dl6]; omega), by first | omega | exact Nat.le_of_ble_eq_true rfl | (simp only [dl1, dl2, dl3, dl4, dl5, dl6]; omega), k_rl ?_, k_rr⟩
    conv => whnf
    refine Or.inl ⟨1, _, _, 120 * 0 + i, h2.a3, rfl, rfl, by omega, by first | decide | omega, ?_⟩
    rw [s3]
    conv => whnf
    refine ⟨fun _ => ?_, fun h => absurd hk h⟩
    conv => whnf
    refine ⟨_, h2.z, by simp, rfl, rfl, ?_⟩
    conv => whnf
    refine ⟨_, _, h3.z, rfl, ?_⟩
    rw [show uF (uF (uF F 0 (nI 0)) 1 (nI 0)) 0 (nI 0) 0 = nI 0 from uF_s]
    conv => whnf
    refine ⟨fun _ => ?_, fun h => absurd (by simp only [w_cmp]; decide) h⟩
    conv => whnf
    refine ⟨_, _, h3.z, rfl, ?_⟩
    conv => whnf
    refine ⟨(Nat.le_of_ble_eq_true rfl), _, _, _, c_M_place hfl, by first | omega | exact Nat.le_of_ble_eq_true rfl | (simp only [dl1, dl2, dl3, dl4, dl5, dl6]; omega), by first | omega | exact Nat.le_of_ble_eq_true rfl | (simp only [dl1, dl2, dl3, dl4, dl5, dl6]; omega), k_rl ?_, k_rr⟩
    conv => whnf
    refine Or.inl ⟨1, _, _, 120 * 0 + i, h3.a8, rfl, rfl, by omega, by first | decide | omega, ?_⟩
    rw [s8]
    conv => whnf
    refine ⟨fun h5 => ?_, fun h5 => ?_⟩
    · have h5 : w_cmp .le (lg_cmp (x.toInt64 + (nI T.length).toInt64) (nI (eC E).length).toInt64) 0 := h5
      rw [lc_le, v3, v1] at h5
      conv => whnf
      refine ⟨rfl, _, _, ⟨_, _, rfl, rfl, rfl, rfl, rfl, fx_up (fx_up (fx_up fx_rf (iUU rfl)) (iUU rfl)) (iUU rfl), h3, uF_s, mR_z r2, ?_⟩, rfl, rfl, rfl, rfl, rfl, rfl, rfl, trivial⟩
      rw [v1, wrN]; omega
    · have h5 : ¬ w_cmp .le (lg_cmp (x.toInt64 + (nI T.length).toInt64) (nI (eC E).length).toInt64) 0 := h5
      rw [lc_le, v3, v1] at h5
      conv => whnf
      refine ⟨rfl, _, _, ⟨_, _, rfl, rfl, rfl, rfl, rfl, fx_up (fx_up (fx_up fx_rf (iUU rfl)) (iUU rfl)) (iUU rfl), h3, uF_s, mR_z r2, ?_⟩, rfl, rfl, rfl, rfl, rfl, rfl, rfl, trivial⟩
      rw [v3, wrN]; omega
  rintro d pc lv g1 k0 n0 ⟨nl, F1, rfl, rfl, rfl, rfl, rfl, hfx, h4, hth, r4, hnl⟩
  obtain ⟨m1', m2⟩ := hmost nl hnl
  have v6 := hsix nl hnl
  have h5z := mg_z h4 (F1 := uF F1 0 (nI 2))
  have h6z := mg_z h4 (F1 := uF F1 0 (nI 1))
  conv => whnf
  refine ⟨fun hk1 => ?_, fun hk1 => ?_⟩
  · conv => whnf
    refine ⟨fun h6 => ?_, fun h6 => ?_⟩
    · conv => whnf
      refine ⟨_, h4.z, by simp, rfl, rfl, ?_⟩
      conv => whnf
      refine ⟨_, _, h5z.z, rfl, ?_⟩
      rw [show uF F1 0 (nI 2) 0 = nI 2 from uF_s]
      conv => whnf
      refine ⟨fun h => absurd h (by simp only [w_cmp]; decide), fun _ => ?_⟩
      conv => whnf
      refine ⟨⟨_, rfl, rfl⟩, ⟨rfl, fx_up hfx (iUU rfl), A, _, h5z, uF_s, mR_z r4⟩, by first | omega | exact Nat.le_of_ble_eq_true rfl | (simp only [dl1, dl2, dl3, dl4, dl5, dl6]; omega), by first | omega | exact Nat.le_of_ble_eq_true rfl | (simp only [dl1, dl2, dl3, dl4, dl5, dl6]; omega)⟩
    · have h7 : ¬ (mostE E : Int) < wrN E x T := fun z => h6 ((m2 hk1).mpr z)
      conv => whnf
      refine ⟨_, _, h4.z, rfl, ?_⟩
      conv => whnf
      refine Or.inl ⟨1, _, _, 0, h4.a2, rfl, rfl, by omega, by first | decide | omega, ?_⟩
      rw [hT0.2.1]
      have h8 : ¬ w_cmp .le (lg_cmp ((nI (sumC S) - nI (eC E).length).toInt64 + nl) (Int32.toInt64 (nI 4000))) 0 := by
        rw [lc_le, v6, v7]
        rcases hbig with z|z <;> omega
      conv => whnf
      refine ⟨fun h => absurd h h8, fun _ => ?_⟩
      conv => whnf
      refine ⟨_, h4.z, by simp, rfl, rfl, ?_⟩
      conv => whnf
      refine ⟨_, _, h5z.z, rfl, ?_⟩
      rw [show uF F1 0 (nI 2) 0 = nI 2 from uF_s]
      conv => whnf
      refine ⟨fun h => absurd h (by simp only [w_cmp]; decide), fun _ => ?_⟩
      conv => whnf
      refine ⟨⟨_, rfl, rfl⟩, ⟨rfl, fx_up hfx (iUU rfl), A, _, h5z, uF_s, mR_z r4⟩, by first | omega | exact Nat.le_of_ble_eq_true rfl | (simp only [dl1, dl2, dl3, dl4, dl5, dl6]; omega), by first | omega | exact Nat.le_of_ble_eq_true rfl | (simp only [dl1, dl2, dl3, dl4, dl5, dl6]; omega)⟩
  · have hk1 := Classical.not_not.mp hk1
    conv => whnf
    refine ⟨fun h6 => ?_, fun h6 => ?_⟩
    · conv => whnf
      refine ⟨_, h4.z, by simp, rfl, rfl, ?_⟩
      conv => whnf
      refine ⟨_, _, h5z.z, rfl, ?_⟩
      rw [show uF F1 0 (nI 2) 0 = nI 2 from uF_s]
      conv => whnf
      refine ⟨fun h => absurd h (by simp only [w_cmp]; decide), fun _ => ?_⟩
      conv => whnf
      refine ⟨⟨_, rfl, rfl⟩, ⟨rfl, fx_up hfx (iUU rfl), A, _, h5z, uF_s, mR_z r4⟩, by first | omega | exact Nat.le_of_ble_eq_true rfl | (simp only [dl1, dl2, dl3, dl4, dl5, dl6]; omega), by first | omega | exact Nat.le_of_ble_eq_true rfl | (simp only [dl1, dl2, dl3, dl4, dl5, dl6]; omega)⟩
    · have h7 : ¬ (mostE E : Int) < wrN E x T := fun z => h6 ((m1' hk1).mpr z)
      conv => whnf
      refine ⟨_, _, h4.z, rfl, ?_⟩
      conv => whnf
      refine Or.inl ⟨1, _, _, 0, h4.a2, rfl, rfl, by omega, by first | decide | omega, ?_⟩
      rw [hT0.2.1]
      have h8 : ¬ w_cmp .le (lg_cmp ((nI (sumC S) - nI (eC E).length).toInt64 + nl) (Int32.toInt64 (nI 4000))) 0 := by
        rw [lc_le, v6, v7]
        rcases hbig with z|z <;> omega
      conv => whnf
      refine ⟨fun h => absurd h h8, fun _ => ?_⟩
      conv => whnf
      refine ⟨_, h4.z, by simp, rfl, rfl, ?_⟩
      conv => whnf
      refine ⟨_, _, h5z.z, rfl, ?_⟩
      rw [show uF F1 0 (nI 2) 0 = nI 2 from uF_s]
      conv => whnf
      refine ⟨fun h => absurd h (by simp only [w_cmp]; decide), fun _ => ?_⟩
      conv => whnf
      refine ⟨⟨_, rfl, rfl⟩, ⟨rfl, fx_up hfx (iUU rfl), A, _, h5z, uF_s, mR_z r4⟩, by first | omega | exact Nat.le_of_ble_eq_true rfl | (simp only [dl1, dl2, dl3, dl4, dl5, dl6]; omega), by first | omega | exact Nat.le_of_ble_eq_true rfl | (simp only [dl1, dl2, dl3, dl4, dl5, dl6]; omega)⟩
theorem c_M_write_bad (hfl : l.flags = pinnedFlags ++ [noTraceFlag]) (h : mg am A F g) (r : mR A F R T S M Rs Hs O N cp st tv op nX) (hS : srt S) {ch : Int32} (hc : chR S ch cp) (hs : st ≠ nI 1) {E : Ent} {i : Nat} (e0 : S[i]? = some E) (e1 : ch = nI i) (hk : ¬ E.2.1 = nI 2) (hkd : kdOk E.2.1 = true) {x : Int32} (hbig : ¬ wrBig S E x T) (hb : x.toInt < 0 ∨ ((eC E).length : Int) < x.toInt) : k_CT l D aC n_M_write 0 0 [.ref (am 0), .int x] g (mO am g (.inl (some (.int (nI 0)))) 1 R [] S M Rs Hs O N cp st tv op nX) := by
  obtain ⟨⟨f1, f2, -⟩, -, ⟨t1, t2⟩, hT0, -, -, -, -, -, hcp⟩ := id r
  have f1' : uF F 0 (nI 0) 1 = nI T.length := f1
  have hl2 := hT0.2.2.1
  have hsm := hT0.2.2.2.1
  have h1 := mg_z h (F1 := uF F 0 (nI 0))
  have h2 := mg_z h1 (F1 := uF (uF F 0 (nI 0)) 1 (nI 0))
  have r2 := mR_t0 (mR_z (x := nI 0) r)
  have hi := (List.getElem?_eq_some_iff.mp e0).1
  have hle := sumC_le e0
  have hge := sumC_ge e0
  obtain ⟨hB, s3, s4, s5, s6, s7, s8, -⟩ := hT0.2.2.2.2 i _ e0
  have h3 := mg_z h2 (F1 := uF (uF (uF F 0 (nI 0)) 1 (nI 0)) 0 (nI 0))
  have v1 : ((nI (eC E).length).toInt64).toInt = (eC E).length := by rw [Int32.toInt_toInt64, nI_toInt (by omega)]
  have v2 : ((nI T.length).toInt64).toInt = T.length := by rw [Int32.toInt_toInt64, nI_toInt (by omega)]
  have v3 : (x.toInt64 + (nI T.length).toInt64).toInt = x.toInt + T.length := by rw [l_add (l_i _).1 (l_i _).2 (l_i _).1 (l_i _).2, v2, Int32.toInt_toInt64]
  have hx1 := Int32.toInt_lt x
  have hx2 := Int32.le_toInt x
  have hwb : wrN E x T ≤ 2 ^ 33 ∧ -2 ^ 33 ≤ wrN E x T := by unfold wrN; omega
  have v5 : ((nI (sumC S) - nI (eC E).length).toInt64).toInt = (sumC S : Int) - (eC E).length := by
    rw [pk_sub hge, Int32.toInt_toInt64, nI_toInt (by omega)]
    omega
  have v7 : (Int32.toInt64 (nI 4000)).toInt = 4000 := by decide
  have hmost : ∀ nl : Int64, nl.toInt = wrN E x T → (E.2.1 = nI 1 → (w_cmp .gt (lg_cmp nl (nI 1500).toInt64) 0 ↔ (mostE E : Int) < wrN E x T)) ∧ (¬ E.2.1 = nI 1 → (w_cmp .gt (lg_cmp nl (nI 100).toInt64) 0 ↔ (mostE E : Int) < wrN E x T)) := by
    intro nl hnl
    constructor
    · intro hk1
      rw [lc_gt, hnl, mostE, if_neg (by rw [hk1]; decide), Int32.toInt_toInt64, nI_toInt (by decide)]
    · intro hk1
      have hk3 : E.2.1 = nI 3 := by
        have := of_decide_eq_true hkd
        rcases this with z | z | z
        · exact absurd z hk1
        · exact absurd z hk
        · exact z
      rw [lc_gt, hnl, mostE, if_pos hk3, Int32.toInt_toInt64, nI_toInt (by decide)]
  have hsix : ∀ nl : Int64, nl.toInt = wrN E x T → ((nI (sumC S) - nI (eC E).length).toInt64 + nl).toInt = (sumC S : Int) - (eC E).length + wrN E x T := by
    intro nl hnl
    rw [l_add (l_i _).1 (l_i _).2 (by omega) (by omega), v5, hnl]
  refine k_while hfl n_M_write ok_M_write rfl rfl rfl rfl rfl rfl (fun h => by cases h) (Nat.le_of_ble_eq_true rfl) [123] (fun pc d lv g1 k0 n0 => ∃ nl F1, pc = 123 ∧ d = 10 ∧ lv = [(0, .ref (am 0)), (1, .int x), (2, .int (nI T.length)), (3, .int (nI i)), (4, .int E.2.1), (5, .int (nI (eC E).length)), (8, .long nl)] ∧ k0 = 0 ∧ n0 = 0 ∧ fx (UU am) g g1 ∧ mg am A F1 g1 ∧ F1 0 = nI 0 ∧ mR A F1 R [] S M Rs Hs O N cp st tv op nX ∧ nl.toInt = wrN E x T) 100 ?_ 100 ?_
  · conv => whnf
    refine ⟨_, _, h.z, rfl, ?_⟩
    rw [f2]
    conv => whnf
    refine ⟨fun _ => ?_, fun h => absurd hs h⟩
    conv => whnf
    refine ⟨_, h.z, by simp, rfl, rfl, ?_⟩
    conv => whnf
    refine ⟨_, _, h1.z, rfl, ?_⟩
    rw [show uF F 0 (nI 0) 0 = nI 0 from uF_s]
    conv => whnf
    refine ⟨fun _ => ?_, fun h => absurd (by simp only [w_cmp]; decide) h⟩
    conv => whnf
    refine ⟨_, _, h1.z, rfl, ?_⟩
    rw [f1']
    conv => whnf
    refine ⟨_, h1.z, by simp, rfl, rfl, ?_⟩
    conv => whnf
    refine ⟨⟨_, h2.z⟩, (Nat.le_of_ble_eq_true rfl), _, _, _, c_M_chosenAt hfl h2 hT0 hS r2.2.2.2.2.2.2.2.2.2 hc, by first | omega | exact Nat.le_of_ble_eq_true rfl | (simp only [dl1, dl2, dl3, dl4, dl5, dl6]; omega), by first | omega | exact Nat.le_of_ble_eq_true rfl | (simp only [dl1, dl2, dl3, dl4, dl5, dl6]; omega), k_rl ?_, k_rr⟩
    rw [e1]
    conv => whnf
    refine ⟨fun _ => ?_, fun h => absurd (q_ge0 (by omega)) h⟩
    conv => whnf
    refine ⟨_, _, h2.z, rfl, ?_⟩
    conv => whnf
    refine ⟨(Nat.le_of_ble_eq_true rfl), _, _, _, c_M_place hfl, by first | omega | exact Nat.le_of_ble_eq_true rfl | (simp only [dl1, dl2, dl3, dl4, dl5, dl6]; omega), by first | omega | exact Nat.le_of_ble_eq_true rfl | (simp only [dl1, dl2, dl3, dl4, dl5, dl6]; omega), k_rl ?_, k_rr⟩
    conv => whnf
    refine Or.inl ⟨1, _, _, 120 * 0 + i, h2.a3, rfl, rfl, by omega, by first | decide | omega, ?_⟩
    rw [s3]
    conv => whnf
    refine ⟨fun _ => ?_, fun h => absurd hk h⟩
    conv => whnf
    refine ⟨_, h2.z, by simp, rfl, rfl, ?_⟩
    conv => whnf
    refine ⟨_, _, h3.z, rfl, ?_⟩
    rw [show uF (uF (uF F 0 (nI 0)) 1 (nI 0)) 0 (nI 0) 0 = nI 0 from uF_s]
    conv => whnf
    refine ⟨fun _ => ?_, fun h => absurd (by simp only [w_cmp]; decide) h⟩
    conv => whnf
    refine ⟨_, _, h3.z, rfl, ?_⟩
    conv => whnf
    refine ⟨(Nat.le_of_ble_eq_true rfl), _, _, _, c_M_place hfl, by first | omega | exact Nat.le_of_ble_eq_true rfl | (simp only [dl1, dl2, dl3, dl4, dl5, dl6]; omega), by first | omega | exact Nat.le_of_ble_eq_true rfl | (simp only [dl1, dl2, dl3, dl4, dl5, dl6]; omega), k_rl ?_, k_rr⟩
    conv => whnf
    refine Or.inl ⟨1, _, _, 120 * 0 + i, h3.a8, rfl, rfl, by omega, by first | decide | omega, ?_⟩
    rw [s8]
    conv => whnf
    refine ⟨fun h5 => ?_, fun h5 => ?_⟩
    · have h5 : w_cmp .le (lg_cmp (x.toInt64 + (nI T.length).toInt64) (nI (eC E).length).toInt64) 0 := h5
      rw [lc_le, v3, v1] at h5
      conv => whnf
      refine ⟨rfl, _, _, ⟨_, _, rfl, rfl, rfl, rfl, rfl, fx_up (fx_up (fx_up fx_rf (iUU rfl)) (iUU rfl)) (iUU rfl), h3, uF_s, mR_z r2, ?_⟩, rfl, rfl, rfl, rfl, rfl, rfl, rfl, trivial⟩
      rw [v1, wrN]; omega
    · have h5 : ¬ w_cmp .le (lg_cmp (x.toInt64 + (nI T.length).toInt64) (nI (eC E).length).toInt64) 0 := h5
      rw [lc_le, v3, v1] at h5
      conv => whnf
      refine ⟨rfl, _, _, ⟨_, _, rfl, rfl, rfl, rfl, rfl, fx_up (fx_up (fx_up fx_rf (iUU rfl)) (iUU rfl)) (iUU rfl), h3, uF_s, mR_z r2, ?_⟩, rfl, rfl, rfl, rfl, rfl, rfl, rfl, trivial⟩
      rw [v3, wrN]; omega
  rintro d pc lv g1 k0 n0 ⟨nl, F1, rfl, rfl, rfl, rfl, rfl, hfx, h4, hth, r4, hnl⟩
  obtain ⟨m1', m2⟩ := hmost nl hnl
  have v6 := hsix nl hnl
  have h5z := mg_z h4 (F1 := uF F1 0 (nI 2))
  have h6z := mg_z h4 (F1 := uF F1 0 (nI 1))
  conv => whnf
  refine ⟨fun hk1 => ?_, fun hk1 => ?_⟩
  · conv => whnf
    refine ⟨fun h => absurd h (fun z => hbig (Or.inl ((m2 hk1).mp z))), fun _ => ?_⟩
    conv => whnf
    refine ⟨_, _, h4.z, rfl, ?_⟩
    conv => whnf
    refine Or.inl ⟨1, _, _, 0, h4.a2, rfl, rfl, by omega, by first | decide | omega, ?_⟩
    rw [hT0.2.1]
    have h8 : w_cmp .le (lg_cmp ((nI (sumC S) - nI (eC E).length).toInt64 + nl) (Int32.toInt64 (nI 4000))) 0 := by
      rw [lc_le, v6, v7]
      have : ¬ 4000 < (sumC S : Int) - (eC E).length + wrN E x T := fun z => hbig (Or.inr z)
      omega
    conv => whnf
    refine ⟨fun _ => ?_, fun h => absurd h8 h⟩
    conv => whnf
    refine ⟨fun h9 => ?_, fun h9 => ?_⟩
    · conv => whnf
      refine ⟨_, h4.z, by simp, rfl, rfl, ?_⟩
      conv => whnf
      refine ⟨_, _, h6z.z, rfl, ?_⟩
      rw [show uF F1 0 (nI 1) 0 = nI 1 from uF_s]
      conv => whnf
      refine ⟨fun h => absurd h (by simp only [w_cmp]; decide), fun _ => ?_⟩
      conv => whnf
      refine ⟨⟨_, rfl, rfl⟩, ⟨rfl, fx_up hfx (iUU rfl), A, _, h6z, uF_s, mR_z r4⟩, by first | omega | exact Nat.le_of_ble_eq_true rfl | (simp only [dl1, dl2, dl3, dl4, dl5, dl6]; omega), by first | omega | exact Nat.le_of_ble_eq_true rfl | (simp only [dl1, dl2, dl3, dl4, dl5, dl6]; omega)⟩
    · have h9 : ¬ x.toInt < 0 := h9
      conv => whnf
      refine ⟨fun h => absurd h (fun z => absurd ((x_le (by omega)).mp z) (by omega)), fun _ => ?_⟩
      conv => whnf
      refine ⟨_, h4.z, by simp, rfl, rfl, ?_⟩
      conv => whnf
      refine ⟨_, _, h6z.z, rfl, ?_⟩
      rw [show uF F1 0 (nI 1) 0 = nI 1 from uF_s]
      conv => whnf
      refine ⟨fun h => absurd h (by simp only [w_cmp]; decide), fun _ => ?_⟩
      conv => whnf
      refine ⟨⟨_, rfl, rfl⟩, ⟨rfl, fx_up hfx (iUU rfl), A, _, h6z, uF_s, mR_z r4⟩, by first | omega | exact Nat.le_of_ble_eq_true rfl | (simp only [dl1, dl2, dl3, dl4, dl5, dl6]; omega), by first | omega | exact Nat.le_of_ble_eq_true rfl | (simp only [dl1, dl2, dl3, dl4, dl5, dl6]; omega)⟩
  · have hk1 := Classical.not_not.mp hk1
    conv => whnf
    refine ⟨fun h => absurd h (fun z => hbig (Or.inl ((m1' hk1).mp z))), fun _ => ?_⟩
    conv => whnf
    refine ⟨_, _, h4.z, rfl, ?_⟩
    conv => whnf
    refine Or.inl ⟨1, _, _, 0, h4.a2, rfl, rfl, by omega, by first | decide | omega, ?_⟩
    rw [hT0.2.1]
    have h8 : w_cmp .le (lg_cmp ((nI (sumC S) - nI (eC E).length).toInt64 + nl) (Int32.toInt64 (nI 4000))) 0 := by
      rw [lc_le, v6, v7]
      have : ¬ 4000 < (sumC S : Int) - (eC E).length + wrN E x T := fun z => hbig (Or.inr z)
      omega
    conv => whnf
    refine ⟨fun _ => ?_, fun h => absurd h8 h⟩
    conv => whnf
    refine ⟨fun h9 => ?_, fun h9 => ?_⟩
    · conv => whnf
      refine ⟨_, h4.z, by simp, rfl, rfl, ?_⟩
      conv => whnf
      refine ⟨_, _, h6z.z, rfl, ?_⟩
      rw [show uF F1 0 (nI 1) 0 = nI 1 from uF_s]
      conv => whnf
      refine ⟨fun h => absurd h (by simp only [w_cmp]; decide), fun _ => ?_⟩
      conv => whnf
      refine ⟨⟨_, rfl, rfl⟩, ⟨rfl, fx_up hfx (iUU rfl), A, _, h6z, uF_s, mR_z r4⟩, by first | omega | exact Nat.le_of_ble_eq_true rfl | (simp only [dl1, dl2, dl3, dl4, dl5, dl6]; omega), by first | omega | exact Nat.le_of_ble_eq_true rfl | (simp only [dl1, dl2, dl3, dl4, dl5, dl6]; omega)⟩
    · have h9 : ¬ x.toInt < 0 := h9
      conv => whnf
      refine ⟨fun h => absurd h (fun z => absurd ((x_le (by omega)).mp z) (by omega)), fun _ => ?_⟩
      conv => whnf
      refine ⟨_, h4.z, by simp, rfl, rfl, ?_⟩
      conv => whnf
      refine ⟨_, _, h6z.z, rfl, ?_⟩
      rw [show uF F1 0 (nI 1) 0 = nI 1 from uF_s]
      conv => whnf
      refine ⟨fun h => absurd h (by simp only [w_cmp]; decide), fun _ => ?_⟩
      conv => whnf
      refine ⟨⟨_, rfl, rfl⟩, ⟨rfl, fx_up hfx (iUU rfl), A, _, h6z, uF_s, mR_z r4⟩, by first | omega | exact Nat.le_of_ble_eq_true rfl | (simp only [dl1, dl2, dl3, dl4, dl5, dl6]; omega), by first | omega | exact Nat.le_of_ble_eq_true rfl | (simp only [dl1, dl2, dl3, dl4, dl5, dl6]; omega)⟩
theorem c_M_write (hfl : l.flags = pinnedFlags ++ [noTraceFlag]) (h : mg am A F g) (r : mR A F R T S M Rs Hs O N cp st tv op nX) (hS : srt S) {ch : Int32} (hc : chR S ch cp) (hs : st ≠ nI 1) {E : Ent} {i : Nat} (e0 : S[i]? = some E) (e1 : ch = nI i) (hk : ¬ E.2.1 = nI 2) (hkd : kdOk E.2.1 = true) {n : Nat} (hbig : ¬ wrBig S E (nI n) T) (hn : n ≤ (eC E).length) : k_CT l D aC n_M_write 0 0 [.ref (am 0), .int (nI n)] g (mO am g (.inl (some (.int (nI (max (eC E).length (n + T.length)))))) 0 R [] (S.set i (E.1, E.2.1, E.2.2.1, E.2.2.2.1, wrC (eC E) n T)) M Rs Hs O N cp st tv op nX) := by
  have hlx := sumC_le e0
  have hsx := r.2.2.2.1.2.2.2.1
  generalize hx : nI n = x at hbig ⊢
  have hx0 : x.toInt = n := by rw [← hx, nI_toInt (by omega)]
  obtain ⟨⟨f1, f2, -⟩, -, ⟨t1, t2⟩, hT0, -, -, -, -, -, hcp⟩ := id r
  have f1' : uF F 0 (nI 0) 1 = nI T.length := f1
  have hl2 := hT0.2.2.1
  have hsm := hT0.2.2.2.1
  have h1 := mg_z h (F1 := uF F 0 (nI 0))
  have h2 := mg_z h1 (F1 := uF (uF F 0 (nI 0)) 1 (nI 0))
  have r2 := mR_t0 (mR_z (x := nI 0) r)
  have hi := (List.getElem?_eq_some_iff.mp e0).1
  have hle := sumC_le e0
  have hge := sumC_ge e0
  obtain ⟨hB, s3, s4, s5, s6, s7, s8, -⟩ := hT0.2.2.2.2 i _ e0
  have h3 := mg_z h2 (F1 := uF (uF (uF F 0 (nI 0)) 1 (nI 0)) 0 (nI 0))
  have v1 : ((nI (eC E).length).toInt64).toInt = (eC E).length := by rw [Int32.toInt_toInt64, nI_toInt (by omega)]
  have v2 : ((nI T.length).toInt64).toInt = T.length := by rw [Int32.toInt_toInt64, nI_toInt (by omega)]
  have v3 : (x.toInt64 + (nI T.length).toInt64).toInt = x.toInt + T.length := by rw [l_add (l_i _).1 (l_i _).2 (l_i _).1 (l_i _).2, v2, Int32.toInt_toInt64]
  have hx1 := Int32.toInt_lt x
  have hx2 := Int32.le_toInt x
  have hwb : wrN E x T ≤ 2 ^ 33 ∧ -2 ^ 33 ≤ wrN E x T := by unfold wrN; omega
  have v5 : ((nI (sumC S) - nI (eC E).length).toInt64).toInt = (sumC S : Int) - (eC E).length := by
    rw [pk_sub hge, Int32.toInt_toInt64, nI_toInt (by omega)]
    omega
  have v7 : (Int32.toInt64 (nI 4000)).toInt = 4000 := by decide
  have hmost : ∀ nl : Int64, nl.toInt = wrN E x T → (E.2.1 = nI 1 → (w_cmp .gt (lg_cmp nl (nI 1500).toInt64) 0 ↔ (mostE E : Int) < wrN E x T)) ∧ (¬ E.2.1 = nI 1 → (w_cmp .gt (lg_cmp nl (nI 100).toInt64) 0 ↔ (mostE E : Int) < wrN E x T)) := by
    intro nl hnl
    constructor
    · intro hk1
      rw [lc_gt, hnl, mostE, if_neg (by rw [hk1]; decide), Int32.toInt_toInt64, nI_toInt (by decide)]
    · intro hk1
      have hk3 : E.2.1 = nI 3 := by
        have := of_decide_eq_true hkd
        rcases this with z | z | z
        · exact absurd z hk1
        · exact absurd z hk
        · exact z
      rw [lc_gt, hnl, mostE, if_pos hk3, Int32.toInt_toInt64, nI_toInt (by decide)]
  have hsix : ∀ nl : Int64, nl.toInt = wrN E x T → ((nI (sumC S) - nI (eC E).length).toInt64 + nl).toInt = (sumC S : Int) - (eC E).length + wrN E x T := by
    intro nl hnl
    rw [l_add (l_i _).1 (l_i _).2 (by omega) (by omega), v5, hnl]
  refine k_while hfl n_M_write ok_M_write rfl rfl rfl rfl rfl rfl (fun h => by cases h) (Nat.le_of_ble_eq_true rfl) [123] (fun pc d lv g1 k0 n0 => ∃ nl F1, pc = 123 ∧ d = 10 ∧ lv = [(0, .ref (am 0)), (1, .int x), (2, .int (nI T.length)), (3, .int (nI i)), (4, .int E.2.1), (5, .int (nI (eC E).length)), (8, .long nl)] ∧ k0 = 0 ∧ n0 = 0 ∧ fx (UU am) g g1 ∧ mg am A F1 g1 ∧ F1 0 = nI 0 ∧ mR A F1 R [] S M Rs Hs O N cp st tv op nX ∧ nl.toInt = wrN E x T) 100 ?_ 100 ?_
  · conv => whnf
    refine ⟨_, _, h.z, rfl, ?_⟩
    rw [f2]
    conv => whnf
    refine ⟨fun _ => ?_, fun h => absurd hs h⟩
    conv => whnf
    refine ⟨_, h.z, by simp, rfl, rfl, ?_⟩
    conv => whnf
    refine ⟨_, _, h1.z, rfl, ?_⟩
    rw [show uF F 0 (nI 0) 0 = nI 0 from uF_s]
    conv => whnf
    refine ⟨fun _ => ?_, fun h => absurd (by simp only [w_cmp]; decide) h⟩
    conv => whnf
    refine ⟨_, _, h1.z, rfl, ?_⟩
    rw [f1']
    conv => whnf
    refine ⟨_, h1.z, by simp, rfl, rfl, ?_⟩
    conv => whnf
    refine ⟨⟨_, h2.z⟩, (Nat.le_of_ble_eq_true rfl), _, _, _, c_M_chosenAt hfl h2 hT0 hS r2.2.2.2.2.2.2.2.2.2 hc, by first | omega | exact Nat.le_of_ble_eq_true rfl | (simp only [dl1, dl2, dl3, dl4, dl5, dl6]; omega), by first | omega | exact Nat.le_of_ble_eq_true rfl | (simp only [dl1, dl2, dl3, dl4, dl5, dl6]; omega), k_rl ?_, k_rr⟩
    rw [e1]
    conv => whnf
    refine ⟨fun _ => ?_, fun h => absurd (q_ge0 (by omega)) h⟩
    conv => whnf
    refine ⟨_, _, h2.z, rfl, ?_⟩
    conv => whnf
    refine ⟨(Nat.le_of_ble_eq_true rfl), _, _, _, c_M_place hfl, by first | omega | exact Nat.le_of_ble_eq_true rfl | (simp only [dl1, dl2, dl3, dl4, dl5, dl6]; omega), by first | omega | exact Nat.le_of_ble_eq_true rfl | (simp only [dl1, dl2, dl3, dl4, dl5, dl6]; omega), k_rl ?_, k_rr⟩
    conv => whnf
    refine Or.inl ⟨1, _, _, 120 * 0 + i, h2.a3, rfl, rfl, by omega, by first | decide | omega, ?_⟩
    rw [s3]
    conv => whnf
    refine ⟨fun _ => ?_, fun h => absurd hk h⟩
    conv => whnf
    refine ⟨_, h2.z, by simp, rfl, rfl, ?_⟩
    conv => whnf
    refine ⟨_, _, h3.z, rfl, ?_⟩
    rw [show uF (uF (uF F 0 (nI 0)) 1 (nI 0)) 0 (nI 0) 0 = nI 0 from uF_s]
    conv => whnf
    refine ⟨fun _ => ?_, fun h => absurd (by simp only [w_cmp]; decide) h⟩
    conv => whnf
    refine ⟨_, _, h3.z, rfl, ?_⟩
    conv => whnf
    refine ⟨(Nat.le_of_ble_eq_true rfl), _, _, _, c_M_place hfl, by first | omega | exact Nat.le_of_ble_eq_true rfl | (simp only [dl1, dl2, dl3, dl4, dl5, dl6]; omega), by first | omega | exact Nat.le_of_ble_eq_true rfl | (simp only [dl1, dl2, dl3, dl4, dl5, dl6]; omega), k_rl ?_, k_rr⟩
    conv => whnf
    refine Or.inl ⟨1, _, _, 120 * 0 + i, h3.a8, rfl, rfl, by omega, by first | decide | omega, ?_⟩
    rw [s8]
    conv => whnf
    refine ⟨fun h5 => ?_, fun h5 => ?_⟩
    · have h5 : w_cmp .le (lg_cmp (x.toInt64 + (nI T.length).toInt64) (nI (eC E).length).toInt64) 0 := h5
      rw [lc_le, v3, v1] at h5
      conv => whnf
      refine ⟨rfl, _, _, ⟨_, _, rfl, rfl, rfl, rfl, rfl, fx_up (fx_up (fx_up fx_rf (iUU rfl)) (iUU rfl)) (iUU rfl), h3, uF_s, mR_z r2, ?_⟩, rfl, rfl, rfl, rfl, rfl, rfl, rfl, trivial⟩
      rw [v1, wrN]; omega
    · have h5 : ¬ w_cmp .le (lg_cmp (x.toInt64 + (nI T.length).toInt64) (nI (eC E).length).toInt64) 0 := h5
      rw [lc_le, v3, v1] at h5
      conv => whnf
      refine ⟨rfl, _, _, ⟨_, _, rfl, rfl, rfl, rfl, rfl, fx_up (fx_up (fx_up fx_rf (iUU rfl)) (iUU rfl)) (iUU rfl), h3, uF_s, mR_z r2, ?_⟩, rfl, rfl, rfl, rfl, rfl, rfl, rfl, trivial⟩
      rw [v3, wrN]; omega
  rintro d pc lv g1 k0 n0 ⟨nl, F1, rfl, rfl, rfl, rfl, rfl, hfx, h4, hth, r4, hnl⟩
  obtain ⟨m1', m2⟩ := hmost nl hnl
  have v6 := hsix nl hnl
  have h5z := mg_z h4 (F1 := uF F1 0 (nI 2))
  have h6z := mg_z h4 (F1 := uF F1 0 (nI 1))
  have hwn : wrN E x T = (max (eC E).length (n + T.length) : Nat) := by unfold wrN; rw [hx0]; omega
  have hme : mostE E ≤ 1500 := by unfold mostE; split <;> omega
  have hNl : max (eC E).length (n + T.length) ≤ 1500 := by
    have : ¬ (mostE E : Int) < wrN E x T := fun z => hbig (Or.inl z)
    omega
  have hli : nl.toInt32 = nI (max (eC E).length (n + T.length)) := by
    have h9 : nl = lN (max (eC E).length (n + T.length)) := Int64.toInt_inj.mp (by rw [hnl, hwn, lN_toInt (by omega)])
    rw [h9, lN_i]
  have hwl := wrC_len (T := T) hn
  have hs4 : ¬ 4000 < (sumC S : Int) - (eC E).length + wrN E x T := fun z => hbig (Or.inr z)
  have hch := c_M_change (l := l) (D := D) (aC := aC) hfl h4 r4 (P := T) (len := (wrC (eC E) n T).length) (fr := n) t2 t1 e0 hn (Nat.le_refl _) (by omega)
  rw [List.take_length, hwl, ← hli, hx] at hch
  conv => whnf
  refine ⟨fun hk1 => ?_, fun hk1 => ?_⟩
  · conv => whnf
    refine ⟨fun h => absurd h (fun z => hbig (Or.inl ((m2 hk1).mp z))), fun _ => ?_⟩
    conv => whnf
    refine ⟨_, _, h4.z, rfl, ?_⟩
    conv => whnf
    refine Or.inl ⟨1, _, _, 0, h4.a2, rfl, rfl, by omega, by first | decide | omega, ?_⟩
    rw [hT0.2.1]
    have h8 : w_cmp .le (lg_cmp ((nI (sumC S) - nI (eC E).length).toInt64 + nl) (Int32.toInt64 (nI 4000))) 0 := by
      rw [lc_le, v6, v7]
      have : ¬ 4000 < (sumC S : Int) - (eC E).length + wrN E x T := fun z => hbig (Or.inr z)
      omega
    conv => whnf
    refine ⟨fun _ => ?_, fun h => absurd h8 h⟩
    conv => whnf
    refine ⟨fun h => absurd h (show ¬ x.toInt < 0 by omega), fun _ => ?_⟩
    conv => whnf
    refine ⟨fun _ => ?_, fun h => absurd ((x_le (by omega)).mpr (by omega)) h⟩
    conv => whnf
    refine ⟨_, _, h4.z, rfl, ?_⟩
    rw [hth]
    conv => whnf
    refine ⟨fun _ => ?_, fun h => absurd (by simp only [w_cmp]; decide) h⟩
    conv => whnf
    refine ⟨⟨_, h4.z⟩, (Nat.le_of_ble_eq_true rfl), _, _, _, hch, by first | omega | exact Nat.le_of_ble_eq_true rfl | (simp only [dl1, dl2, dl3, dl4, dl5, dl6]; omega), by first | omega | exact Nat.le_of_ble_eq_true rfl | (simp only [dl1, dl2, dl3, dl4, dl5, dl6]; omega), fun v g1 hh => ?_, fun C g1 hh => ?_⟩
    · obtain ⟨hv, hfx2, A1, h7, r7⟩ := hh
      cases hv
      conv => whnf
      rw [hli]
      conv => whnf
      refine ⟨⟨_, rfl, rfl⟩, ⟨rfl, fx_tr hfx hfx2, A1, _, h7, hth, r7⟩, by first | omega | exact Nat.le_of_ble_eq_true rfl | (simp only [dl1, dl2, dl3, dl4, dl5, dl6]; omega), by first | omega | exact Nat.le_of_ble_eq_true rfl | (simp only [dl1, dl2, dl3, dl4, dl5, dl6]; omega)⟩
    · cases hh.1
  · have hk1 := Classical.not_not.mp hk1
    conv => whnf
    refine ⟨fun h => absurd h (fun z => hbig (Or.inl ((m1' hk1).mp z))), fun _ => ?_⟩
    conv => whnf
    refine ⟨_, _, h4.z, rfl, ?_⟩
    conv => whnf
    refine Or.inl ⟨1, _, _, 0, h4.a2, rfl, rfl, by omega, by first | decide | omega, ?_⟩
    rw [hT0.2.1]
    have h8 : w_cmp .le (lg_cmp ((nI (sumC S) - nI (eC E).length).toInt64 + nl) (Int32.toInt64 (nI 4000))) 0 := by
      rw [lc_le, v6, v7]
      have : ¬ 4000 < (sumC S : Int) - (eC E).length + wrN E x T := fun z => hbig (Or.inr z)
      omega
    conv => whnf
    refine ⟨fun _ => ?_, fun h => absurd h8 h⟩
    conv => whnf
    refine ⟨fun h => absurd h (show ¬ x.toInt < 0 by omega), fun _ => ?_⟩
    conv => whnf
    refine ⟨fun _ => ?_, fun h => absurd ((x_le (by omega)).mpr (by omega)) h⟩
    conv => whnf
    refine ⟨_, _, h4.z, rfl, ?_⟩
    rw [hth]
    conv => whnf
    refine ⟨fun _ => ?_, fun h => absurd (by simp only [w_cmp]; decide) h⟩
    conv => whnf
    refine ⟨⟨_, h4.z⟩, (Nat.le_of_ble_eq_true rfl), _, _, _, hch, by first | omega | exact Nat.le_of_ble_eq_true rfl | (simp only [dl1, dl2, dl3, dl4, dl5, dl6]; omega), by first | omega | exact Nat.le_of_ble_eq_true rfl | (simp only [dl1, dl2, dl3, dl4, dl5, dl6]; omega), fun v g1 hh => ?_, fun C g1 hh => ?_⟩
    · obtain ⟨hv, hfx2, A1, h7, r7⟩ := hh
      cases hv
      conv => whnf
      rw [hli]
      conv => whnf
      refine ⟨⟨_, rfl, rfl⟩, ⟨rfl, fx_tr hfx hfx2, A1, _, h7, hth, r7⟩, by first | omega | exact Nat.le_of_ble_eq_true rfl | (simp only [dl1, dl2, dl3, dl4, dl5, dl6]; omega), by first | omega | exact Nat.le_of_ble_eq_true rfl | (simp only [dl1, dl2, dl3, dl4, dl5, dl6]; omega)⟩
    · cases hh.1
theorem isBel_no {L U : List Nat} (h : ¬ (U.length ≤ L.length ∧ (∀ i, i < U.length → L.getD i 0 = U.getD i 0) ∧ (L.length = U.length ∨ L.getD U.length 0 = 47))) : isBel L U = false := by
  unfold isBel
  rw [← Bool.decide_and, ← Bool.decide_or, ← Bool.decide_and]
  exact decide_eq_false (fun z => h ⟨z.1.1, z.1.2, z.2⟩)
theorem isBel_yes {L U : List Nat} (h : U.length ≤ L.length ∧ (∀ i, i < U.length → L.getD i 0 = U.getD i 0) ∧ (L.length = U.length ∨ L.getD U.length 0 = 47)) : isBel L U = true := by
  unfold isBel
  rw [← Bool.decide_and, ← Bool.decide_or, ← Bool.decide_and]
  exact decide_eq_true ⟨⟨h.1, h.2.1⟩, h.2.2⟩
theorem c_M_isBelow (hfl : l.flags = pinnedFlags ++ [noTraceFlag]) (h : mg am A F g) (hS : tm A 0 S) {i : Nat} {E : Ent} (hE : S[i]? = some E) {P : List Nat} (hcp : cpR A F (some P)) : k_CT l D aC n_M_isBelow 0 0 [.ref (am 0), .int (nI i)] g (rt (some (.int (b2 (isBel E.1 P)))) g) := by
  obtain ⟨c1, c2, c3, c4⟩ := hcp
  have hi := (List.getElem?_eq_some_iff.mp hE).1
  have hl := hS.2.2.1
  obtain ⟨hB, s3, s4, s5, s6, s7, s8, s9, -⟩ := hS.2.2.2.2 i _ hE
  rw [show 120 * 0 + i = i by omega] at s3 s4 s5 s6 s7 s8 s9
  have hpl := hB.1
  refine k_while hfl n_M_isBelow ok_M_isBelow rfl rfl rfl rfl rfl rfl (fun h => by cases h) (Nat.le_of_ble_eq_true rfl) [61] (fun pc d lv g1 k0 n0 => ∃ k is, pc = 61 ∧ d = P.length - k ∧ lv = [(0, .ref (am 0)), (2, .int (nI i)), (3, .int (b2 is)), (4, .int (nI k))] ∧ g1 = g ∧ k0 = 0 ∧ n0 = 0 ∧ k ≤ P.length ∧ (is = true → P.length ≤ E.1.length ∧ (∀ j, j < k → E.1.getD j 0 = P.getD j 0) ∧ (E.1.length = P.length ∨ E.1.getD P.length 0 = 47)) ∧ (is = false → isBel E.1 P = false)) 60 ?_ 80 ?_
  · conv => whnf
    refine ⟨(Nat.le_of_ble_eq_true rfl), _, _, _, c_M_place hfl, by first | omega | exact Nat.le_of_ble_eq_true rfl | (simp only [dl1, dl2, dl3, dl4, dl5, dl6]; omega), by first | omega | exact Nat.le_of_ble_eq_true rfl | (simp only [dl1, dl2, dl3, dl4, dl5, dl6]; omega), k_rl ?_, k_rr⟩
    rw [show 120 * 0 + i = i by omega]
    conv => whnf
    refine ⟨_, _, h.z, rfl, ?_⟩
    conv => whnf
    refine Or.inl ⟨1, _, _, i, h.a6, rfl, rfl, by omega, by first | decide | omega, ?_⟩
    rw [s6]
    conv => whnf
    refine ⟨_, _, h.z, rfl, ?_⟩
    rw [c2]
    conv => whnf
    refine ⟨fun h5 => ?_, fun h5 => ?_⟩
    · have h6 := (q_eq (by omega) (by omega)).mp h5
      conv => whnf
      exact ⟨rfl, _, _, ⟨0, true, rfl, rfl, rfl, rfl, rfl, rfl, by omega, (fun _ => ⟨by omega, fun j hj => by omega, Or.inl h6⟩), (fun z => by cases z)⟩, rfl, rfl, rfl, rfl, trivial⟩
    · have h6 : E.1.length ≠ P.length := fun z => h5 ((q_eq (by omega) (by omega)).mpr z)
      conv => whnf
      refine ⟨_, _, h.z, rfl, ?_⟩
      conv => whnf
      refine Or.inl ⟨1, _, _, i, h.a6, rfl, rfl, by omega, by first | decide | omega, ?_⟩
      rw [s6]
      conv => whnf
      refine ⟨_, _, h.z, rfl, ?_⟩
      rw [c2]
      conv => whnf
      refine ⟨fun h5 => ?_, fun h5 => ?_⟩
      · have h7 := (q_le (by omega) (by omega)).mp h5
        conv => whnf
        exact ⟨rfl, _, _, ⟨0, false, rfl, rfl, rfl, rfl, rfl, rfl, by omega, (fun z => by cases z), (fun _ => isBel_no (by omega))⟩, rfl, rfl, rfl, rfl, trivial⟩
      · have h7 : P.length < E.1.length := Nat.lt_of_not_le fun z => h5 ((q_le (by omega) (by omega)).mpr z)
        have hb0 := getD_lt hB.2.1 h7
        conv => whnf
        refine ⟨_, _, h.z, rfl, ?_⟩
        conv => whnf
        refine ⟨_, _, h.z, rfl, ?_⟩
        rw [c2]
        conv => whnf
        refine Or.inl ⟨1, _, _, 150 * i + P.length, h.a9, rfl, (ix1 150 i P.length), (by omega), by first | decide | omega, ?_⟩
        rw [s9 _ h7]
        conv => whnf
        refine ⟨fun h5 => ?_, fun h5 => ?_⟩
        · have h8 := (q_ne (by omega) (by decide)).mp h5
          conv => whnf
          exact ⟨rfl, _, _, ⟨0, false, rfl, rfl, rfl, rfl, rfl, rfl, by omega, (fun z => by cases z), (fun _ => isBel_no (fun z => by rcases z.2.2 with y|y; exact h6 y; exact h8 y))⟩, rfl, rfl, rfl, rfl, trivial⟩
        · have h8 : E.1.getD P.length 0 = 47 := Classical.not_not.mp fun z => h5 ((q_ne (by omega) (by decide)).mpr z)
          conv => whnf
          exact ⟨rfl, _, _, ⟨0, true, rfl, rfl, rfl, rfl, rfl, rfl, by omega, (fun _ => ⟨by omega, fun j hj => by omega, Or.inr h8⟩), (fun z => by cases z)⟩, rfl, rfl, rfl, rfl, trivial⟩
  · rintro d pc lv g1 k0 n0 ⟨k, is, rfl, rfl, rfl, rfl, rfl, rfl, hk, i1, i2⟩
    conv => whnf
    refine ⟨_, _, h.z, rfl, ?_⟩
    rw [c2]
    conv => whnf
    refine ⟨fun h5 => ?_, fun h5 => ?_⟩
    · have h6 := (q_ge (by omega) (by omega)).mp h5
      cases is with
      | true =>
        obtain ⟨j1, j2, j3⟩ := i1 rfl
        conv => whnf
        refine ⟨⟨_, rfl, rfl⟩, ⟨?_, rfl⟩, by first | omega | exact Nat.le_of_ble_eq_true rfl | (simp only [dl1, dl2, dl3, dl4, dl5, dl6]; omega), by first | omega | exact Nat.le_of_ble_eq_true rfl | (simp only [dl1, dl2, dl3, dl4, dl5, dl6]; omega)⟩
        rw [isBel_yes ⟨j1, fun j hj => j2 j (by omega), j3⟩]
      | false =>
        conv => whnf
        refine ⟨⟨_, rfl, rfl⟩, ⟨?_, rfl⟩, by first | omega | exact Nat.le_of_ble_eq_true rfl | (simp only [dl1, dl2, dl3, dl4, dl5, dl6]; omega), by first | omega | exact Nat.le_of_ble_eq_true rfl | (simp only [dl1, dl2, dl3, dl4, dl5, dl6]; omega)⟩
        rw [i2 rfl]
    · have h6 : k < P.length := Nat.lt_of_not_le fun z => h5 ((q_ge (by omega) (by omega)).mpr z)
      cases is with
      | false =>
        conv => whnf
        refine ⟨fun _ => ?_, fun h => absurd b2_f h⟩
        conv => whnf
        refine ⟨⟨_, rfl, rfl⟩, ⟨?_, rfl⟩, by first | omega | exact Nat.le_of_ble_eq_true rfl | (simp only [dl1, dl2, dl3, dl4, dl5, dl6]; omega), by first | omega | exact Nat.le_of_ble_eq_true rfl | (simp only [dl1, dl2, dl3, dl4, dl5, dl6]; omega)⟩
        rw [i2 rfl]
      | true =>
        obtain ⟨j1, j2, j3⟩ := i1 rfl
        have hb0 := getD_lt hB.2.1 (by omega : k < E.1.length)
        have hb1 := getD_lt c4.2 h6
        conv => whnf
        refine ⟨fun h => absurd h b2_t, fun _ => ?_⟩
        conv => whnf
        refine ⟨_, _, h.z, rfl, ?_⟩
        conv => whnf
        refine Or.inl ⟨1, _, _, 150 * i + k, h.a9, rfl, (ix1 150 i k), (by omega), by first | decide | omega, ?_⟩
        rw [s9 k (by omega)]
        conv => whnf
        refine ⟨_, _, h.z, rfl, ?_⟩
        conv => whnf
        refine Or.inl ⟨1, _, _, k, h.a15, rfl, rfl, by omega, by first | decide | omega, ?_⟩
        rw [c4.1 k h6]
        conv => whnf
        refine ⟨fun h7 => ?_, fun h7 => ?_⟩
        · have h8 := (q_ne (by omega) (by omega)).mp h7
          conv => whnf
          exact ⟨rfl, _, _, by omega, ⟨k + 1, false, rfl, rfl, rfl, rfl, rfl, rfl, h6, fun z => (by cases z), fun _ => isBel_no (fun z => h8 (z.2.1 k h6))⟩, rfl, rfl, rfl, sI k, trivial⟩
        · have h8 : E.1.getD k 0 = P.getD k 0 := Classical.not_not.mp fun z => h7 ((q_ne (by omega) (by omega)).mpr z)
          conv => whnf
          exact ⟨rfl, _, _, by omega, ⟨k + 1, true, rfl, rfl, rfl, rfl, rfl, rfl, h6, fun _ => ⟨j1, fun j hj => by
            by_cases h3 : j = k
            · rw [h3]; exact h8
            · exact j2 j (by omega), j3⟩, fun z => (by cases z)⟩, rfl, rfl, rfl, sI k, trivial⟩
theorem c_M_remove_no (hfl : l.flags = pinnedFlags ++ [noTraceFlag]) (h : mg am A F g) (r : mR A F R T S M Rs Hs O N cp st tv op nX) (hS : srt S) {ch : Int32} (hc : chR S ch cp) (hs : st = nI 1 ∨ atI S ch = none) : k_CT l D aC n_M_remove 0 0 [.ref (am 0)] g (mO am g (.inl (some (.int (nI 0)))) 1 R T S M Rs Hs O N cp st tv op nX) := by
  obtain ⟨⟨-, f2, -⟩, -, -, hT0, -, -, -, -, -, hcp⟩ := id r
  have hl2 := hT0.2.2.1
  have h1 := mg_z h (F1 := uF F 0 (nI 1))
  refine k_while hfl n_M_remove ok_M_remove rfl rfl rfl rfl rfl rfl (fun h => by cases h) (Nat.le_of_ble_eq_true rfl) [40] (fun pc d lv g1 k n => False) 60 ?_ 80 ?_
  · conv => whnf
    refine ⟨_, _, h.z, rfl, ?_⟩
    rw [f2]
    conv => whnf
    refine ⟨fun h5 => ?_, fun h5 => ?_⟩
    · conv => whnf
      refine ⟨_, h.z, by simp, rfl, rfl, ?_⟩
      conv => whnf
      refine ⟨_, _, h1.z, rfl, ?_⟩
      rw [show uF F 0 (nI 1) 0 = nI 1 from uF_s]
      conv => whnf
      refine ⟨fun h => absurd h (by simp only [w_cmp]; decide), fun _ => ?_⟩
      conv => whnf
      refine ⟨⟨_, rfl, rfl⟩, ⟨rfl, fx_up fx_rf (iUU rfl), A, _, h1, uF_s, mR_z r⟩, by first | omega | exact Nat.le_of_ble_eq_true rfl | (simp only [dl1, dl2, dl3, dl4, dl5, dl6]; omega), by first | omega | exact Nat.le_of_ble_eq_true rfl | (simp only [dl1, dl2, dl3, dl4, dl5, dl6]; omega)⟩
    · rcases hs with z | z
      · exact absurd z h5
      · conv => whnf
        refine ⟨⟨_, h.z⟩, (Nat.le_of_ble_eq_true rfl), _, _, _, c_M_chosenAt hfl h hT0 hS hcp hc, by first | omega | exact Nat.le_of_ble_eq_true rfl | (simp only [dl1, dl2, dl3, dl4, dl5, dl6]; omega), by first | omega | exact Nat.le_of_ble_eq_true rfl | (simp only [dl1, dl2, dl3, dl4, dl5, dl6]; omega), k_rl ?_, k_rr⟩
        rcases chR_at hl2 hc with ⟨-, e1, -⟩ | ⟨i, E, -, -, -, e1, -⟩
        · rw [e1]
          conv => whnf
          refine ⟨fun h => absurd h (by simp only [w_cmp]; decide), fun _ => ?_⟩
          conv => whnf
          refine ⟨_, h.z, by simp, rfl, rfl, ?_⟩
          conv => whnf
          refine ⟨_, _, h1.z, rfl, ?_⟩
          rw [show uF F 0 (nI 1) 0 = nI 1 from uF_s]
          conv => whnf
          refine ⟨fun h => absurd h (by simp only [w_cmp]; decide), fun _ => ?_⟩
          conv => whnf
          refine ⟨⟨_, rfl, rfl⟩, ⟨rfl, fx_up fx_rf (iUU rfl), A, _, h1, uF_s, mR_z r⟩, by first | omega | exact Nat.le_of_ble_eq_true rfl | (simp only [dl1, dl2, dl3, dl4, dl5, dl6]; omega), by first | omega | exact Nat.le_of_ble_eq_true rfl | (simp only [dl1, dl2, dl3, dl4, dl5, dl6]; omega)⟩
        · rw [z] at e1; cases e1
  · intro d pc lv g1 k n z
    exact z.elim
theorem c_M_remove (hfl : l.flags = pinnedFlags ++ [noTraceFlag]) (h : mg am A F g) (r : mR A F R T S M Rs Hs O N cp st tv op nX) (hS : srt S) {ch : Int32} (hc : chR S ch cp) (hs : st ≠ nI 1) {E : Ent} {i0 : Nat} (e0 : S[i0]? = some E) (e1 : ch = nI i0) (hcE : cp = some E.1) : k_CT l D aC n_M_remove 0 0 [.ref (am 0)] g (mO am g (.inl (some (.int (nI (S.length - (keepL S E.1).length))))) 0 R T (keepL S E.1) M Rs Hs O N none st tv op nX) := by
  obtain ⟨⟨-, f2, -⟩, -, -, hT0, -, -, -, -, -, hcp⟩ := id r
  have hl2 := hT0.2.2.1
  have hsm := hT0.2.2.2.1
  have hi0 := (List.getElem?_eq_some_iff.mp e0).1
  have h1 := mg_z h (F1 := uF F 0 (nI 0))
  have hkl : (keepL S E.1).length ≤ S.length := List.length_filter_le _ _
  refine k_while hfl n_M_remove ok_M_remove rfl rfl rfl rfl rfl rfl (fun h => by cases h) (Nat.le_of_ble_eq_true rfl) [40] (fun pc d lv g1 k n => ∃ i A1, pc = 40 ∧ d = S.length - i ∧ lv = [(0, .ref (am 0)), (1, .int (nI i))] ∧ k = 0 ∧ n = 0 ∧ fx (UU am) g g1 ∧ mg am A1 (uF F 0 (nI 0)) g1 ∧ dif A A1 (Wt 5) ∧ i ≤ S.length ∧ tm A1 5 (keepL (S.take i) E.1)) 60 ?_ 80 ?_
  · conv => whnf
    refine ⟨_, _, h.z, rfl, ?_⟩
    rw [f2]
    conv => whnf
    refine ⟨fun h => absurd h hs, fun _ => ?_⟩
    conv => whnf
    refine ⟨⟨_, h.z⟩, (Nat.le_of_ble_eq_true rfl), _, _, _, c_M_chosenAt hfl h hT0 hS hcp hc, by first | omega | exact Nat.le_of_ble_eq_true rfl | (simp only [dl1, dl2, dl3, dl4, dl5, dl6]; omega), by first | omega | exact Nat.le_of_ble_eq_true rfl | (simp only [dl1, dl2, dl3, dl4, dl5, dl6]; omega), k_rl ?_, k_rr⟩
    rw [e1]
    conv => whnf
    refine ⟨fun _ => ?_, fun h => absurd (q_ge0 (by omega)) h⟩
    conv => whnf
    refine ⟨_, h.z, by simp, rfl, rfl, ?_⟩
    conv => whnf
    refine ⟨_, _, h1.z, rfl, ?_⟩
    rw [show uF F 0 (nI 0) 0 = nI 0 from uF_s]
    conv => whnf
    refine ⟨fun _ => ?_, fun h => absurd (by simp only [w_cmp]; decide) h⟩
    conv => whnf
    refine ⟨⟨_, h1.z⟩, (Nat.le_of_ble_eq_true rfl), _, _, _, c_M_empty hfl h1 (by decide), by first | omega | exact Nat.le_of_ble_eq_true rfl | (simp only [dl1, dl2, dl3, dl4, dl5, dl6]; omega), by first | omega | exact Nat.le_of_ble_eq_true rfl | (simp only [dl1, dl2, dl3, dl4, dl5, dl6]; omega), fun v g1 hh => ?_, fun C g1 hh => ?_⟩
    · obtain ⟨hv, hfx2, A1, h2, hd, ht5⟩ := hh
      cases hv
      conv => whnf
      exact ⟨rfl, _, _, ⟨0, A1, rfl, rfl, rfl, rfl, rfl, fx_tr (fx_up fx_rf (iUU rfl)) hfx2, h2, hd, by omega, ht5⟩, rfl, rfl, trivial⟩
    · cases hh.1
  · rintro d pc lv g1 k n ⟨i, A1, rfl, rfl, rfl, rfl, rfl, hfx, h2, hd, hi, ht5⟩
    have hS0 : tm A1 0 S := tm_dif hT0 hd (by decide)
    have r1 := mR_5 (mR_z (x := nI 0) r) hd
    conv => whnf
    refine ⟨_, _, h2.z, rfl, ?_⟩
    conv => whnf
    refine Or.inl ⟨1, _, _, 0, h2.a1, rfl, rfl, by omega, by first | decide | omega, ?_⟩
    rw [hS0.1]
    conv => whnf
    refine ⟨fun h6 => ?_, fun h6 => ?_⟩
    · have h7 := (q_ge (by omega) (by omega)).mp h6
      rw [List.take_of_length_le h7] at ht5
      conv => whnf
      refine ⟨_, _, h2.z, rfl, ?_⟩
      conv => whnf
      refine Or.inl ⟨1, _, _, 0, h2.a1, rfl, rfl, by omega, by first | decide | omega, ?_⟩
      rw [hS0.1]
      conv => whnf
      refine ⟨_, _, h2.z, rfl, ?_⟩
      conv => whnf
      refine Or.inl ⟨1, _, _, 5, h2.a1, rfl, rfl, by omega, by first | decide | omega, ?_⟩
      rw [ht5.1]
      conv => whnf
      rw [pk_sub hkl]
      conv => whnf
      refine ⟨⟨_, h2.z⟩, (Nat.le_of_ble_eq_true rfl), _, _, _, c_M_copy hfl h2 (by decide) (by decide) (by decide) ht5, by first | omega | exact Nat.le_of_ble_eq_true rfl | (simp only [dl1, dl2, dl3, dl4, dl5, dl6]; omega), by first | omega | exact Nat.le_of_ble_eq_true rfl | (simp only [dl1, dl2, dl3, dl4, dl5, dl6]; omega), fun v g2 hh => ?_, fun C g2 hh => ?_⟩
      · obtain ⟨hv, hfx2, A2, h3, hd2, ht2⟩ := hh
        cases hv
        conv => whnf
        refine ⟨_, h3.z, by simp, rfl, rfl, ?_⟩
        have h4 := mg_z h3 (F1 := uF (uF F 0 (nI 0)) 7 (nI 0))
        conv => whnf
        refine ⟨⟨_, rfl, rfl⟩, ⟨rfl, fx_up (fx_tr hfx hfx2) (iUU rfl), A2, _, h4, rfl, mR_cn (mR_0 r1 hd2 ht2)⟩, by first | omega | exact Nat.le_of_ble_eq_true rfl | (simp only [dl1, dl2, dl3, dl4, dl5, dl6]; omega), by first | omega | exact Nat.le_of_ble_eq_true rfl | (simp only [dl1, dl2, dl3, dl4, dl5, dl6]; omega)⟩
      · cases hh.1
    · have h7 : i < S.length := Nat.lt_of_not_le fun z => h6 ((q_ge (by omega) (by omega)).mpr z)
      have hG := List.getElem?_eq_getElem h7
      have hst : keepL (S.take (i + 1)) E.1 = keepL (S.take i) E.1 ++ if isBel S[i].1 E.1 then [] else [S[i]] := by
        unfold keepL
        rw [take_s hG, List.filter_append, List.filter_cons, List.filter_nil]
        cases isBel S[i].1 E.1 <;> rfl
      have hkl2 : (keepL (S.take i) E.1).length ≤ i := Nat.le_trans (List.length_filter_le _ _) (by rw [List.length_take]; omega)
      have hks : sumC (keepL (S.take i) E.1) ≤ sumC (S.take i) := sumC_filter _ _
      have hsl := sumC_le hG
      conv => whnf
      refine ⟨⟨_, h2.z⟩, (Nat.le_of_ble_eq_true rfl), _, _, _, c_M_isBelow hfl h2 hS0 hG (by have := r1.2.2.2.2.2.2.2.2.2; rw [hcE] at this; exact this), by first | omega | exact Nat.le_of_ble_eq_true rfl | (simp only [dl1, dl2, dl3, dl4, dl5, dl6]; omega), by first | omega | exact Nat.le_of_ble_eq_true rfl | (simp only [dl1, dl2, dl3, dl4, dl5, dl6]; omega), k_rl ?_, k_rr⟩
      cases hb : isBel S[i].1 E.1 with
      | true =>
        rw [hb] at hst
        conv => whnf
        refine ⟨fun _ => ?_, fun h => absurd b2_t h⟩
        conv => whnf
        refine ⟨rfl, _, _, by omega, ⟨i + 1, A1, rfl, rfl, rfl, rfl, rfl, hfx, h2, hd, h7, ?_⟩, rfl, sI i, trivial⟩
        rw [hst]
        simpa using ht5
      | false =>
        rw [hb] at hst
        conv => whnf
        refine ⟨fun h => absurd h (fun z => z b2_f), fun _ => ?_⟩
        conv => whnf
        refine ⟨⟨_, h2.z⟩, (Nat.le_of_ble_eq_true rfl), _, _, _, c_M_append hfl h2 (by decide) (by decide) (by decide) hS0 ht5 hG (by omega) (by omega), by first | omega | exact Nat.le_of_ble_eq_true rfl | (simp only [dl1, dl2, dl3, dl4, dl5, dl6]; omega), by first | omega | exact Nat.le_of_ble_eq_true rfl | (simp only [dl1, dl2, dl3, dl4, dl5, dl6]; omega), fun v g2 hh => ?_, fun C g2 hh => ?_⟩
        · obtain ⟨hv, hfx2, A2, h3, hd2, ht2⟩ := hh
          cases hv
          conv => whnf
          refine ⟨rfl, _, _, by omega, ⟨i + 1, A2, rfl, rfl, rfl, rfl, rfl, fx_tr hfx hfx2, h3, dif_tr hd hd2, h7, ?_⟩, rfl, sI i, trivial⟩
          rw [hst]
          simpa using ht2
        · cases hh.1
end MWR
