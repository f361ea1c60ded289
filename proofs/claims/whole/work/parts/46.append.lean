/-! MirrorKeepModel: append, copy -/
section MAPP
variable {am : Nat → Nat} {A : mA} {F : mF} {g : g_H}
variable {l : Launch} {D : va_G} {aC : Nat → ClassId}
theorem tm_app {A A1 : mA} {t : Nat} {L : List Ent} {E : Ent} (h : tm A t L) (hd : dif A A1 (Wb (120 * t + L.length) t (sumC L))) (hB : enB E) (hl : L.length < 120) (hs : sumC L + (eC E).length ≤ 8000) (h1 : A1 1 t = nI (L.length + 1)) (h2 : A1 2 t = nI (sumC L + (eC E).length)) (h3 : sl A1 t (120 * t + L.length) (sumC L) E) : tm A1 t (L ++ [E]) := by
  obtain ⟨a1, a2, a3, a4, a5⟩ := h
  have hsum : sumC (L ++ [E]) = sumC L + (eC E).length := by simp [sumC]
  refine ⟨by rw [h1, List.length_append]; rfl, by rw [h2, hsum], by simp; omega, by omega, fun i G hG => ?_⟩
  by_cases hi : i < L.length
  · rw [List.getElem?_append_left hi] at hG
    have hc := sumC_le hG
    have hp := (a5 i G hG).1.1
    refine ⟨(a5 i G hG).1, ?_⟩
    rw [List.take_append_of_le_length (by omega)]
    refine sl_dif (a5 i G hG).2 hd (fun r _ _ => by unfold Wb; omega) (fun k hk => by unfold Wb; omega) (fun k hk => by unfold Wb; omega)
  · have hi2 := (List.getElem?_eq_some_iff.mp hG).1
    have hi3 : i = L.length := by simp at hi2; omega
    subst hi3
    rw [List.getElem?_append_right (Nat.le_refl _), Nat.sub_self] at hG
    cases hG
    refine ⟨hB, ?_⟩
    rw [List.take_append_of_le_length (Nat.le_refl _), List.take_length]
    exact h3
set_option maxHeartbeats 1000000 in
theorem c_M_append (hfl : l.flags = pinnedFlags ++ [noTraceFlag]) (h : mg am A F g) {f t i : Nat} {Lf Lt : List Ent} {E : Ent} (hf : f < 46) (ht : t < 46) (hft : f ≠ t) (hF : tm A f Lf) (hT : tm A t Lt) (hE : Lf[i]? = some E) (hl : Lt.length < 120) (hs : sumC Lt + (eC E).length ≤ 8000) : k_CT l D aC n_M_append 0 0 [.ref (am 0), .int (nI f), .int (nI i), .int (nI t)] g (fun oc g1 => oc = .inl none ∧ fx (UU am) g g1 ∧ ∃ A1, mg am A1 F g1 ∧ dif A A1 (Wt t) ∧ tm A1 t (Lt ++ [E])) := by
  have hi := (List.getElem?_eq_some_iff.mp hE).1
  obtain ⟨p1, p2, p3, p4, p5⟩ := id hF
  obtain ⟨t1, t2, t3, t4, t5⟩ := id hT
  obtain ⟨hB, hS⟩ := p5 i E hE
  have hc := sumC_le hE
  generalize hcv : sumC (Lf.take i) = c at hS hc
  have hpl := hB.1
  have hsrc : ∀ {A1 : mA}, dif A A1 (Wb (120 * t + Lt.length) t (sumC Lt)) → sl A1 f (120 * f + i) c E := fun hd => sl_dif hS hd (fun r _ _ => by unfold Wb; omega) (fun k hk => by unfold Wb; omega) (fun k hk => by unfold Wb; omega)
  generalize hav : 120 * f + i = a at hS hsrc
  generalize hbv : 120 * t + Lt.length = b at hsrc
  generalize hBv : sumC Lt = B at *
  generalize hnv : Lt.length = n at *
  have hab : a ≠ b := by omega
  have ha : a < 5520 := by omega
  have hb : b < 5520 := by omega
  refine k_while hfl n_M_append ok_M_append rfl rfl rfl rfl rfl rfl (fun h => by cases h) (Nat.le_of_ble_eq_true rfl) [78, 154] (fun pc d lv g1 k0 n0 => (∃ k A1, pc = 78 ∧ d = 200 + (eC E).length + (E.1.length - k) ∧ lv = [(0, .ref (am 0)), (1, .int (nI f)), (3, .int (nI t)), (4, .int (nI a)), (5, .int (nI b)), (6, .int (nI k))] ∧ k0 = 0 ∧ n0 = 0 ∧ mg am A1 F g1 ∧ fx (UU am) g g1 ∧ dif A A1 (Wb b t B) ∧ A1 1 t = nI n ∧ A1 2 t = nI B ∧ A1 3 b = E.2.1 ∧ A1 4 b = E.2.2.1 ∧ A1 5 b = E.2.2.2.1 ∧ A1 6 b = nI E.1.length ∧ k ≤ E.1.length ∧ ∀ j, j < k → A1 9 (150 * b + j) = nI (E.1.getD j 0)) ∨ (∃ k A1, pc = 154 ∧ d = (eC E).length - k ∧ lv = [(0, .ref (am 0)), (1, .int (nI f)), (3, .int (nI t)), (4, .int (nI a)), (5, .int (nI b)), (6, .int (nI k))] ∧ k0 = 0 ∧ n0 = 0 ∧ mg am A1 F g1 ∧ fx (UU am) g g1 ∧ dif A A1 (Wb b t B) ∧ A1 1 t = nI n ∧ A1 2 t = nI B ∧ A1 3 b = E.2.1 ∧ A1 4 b = E.2.2.1 ∧ A1 5 b = E.2.2.2.1 ∧ A1 6 b = nI E.1.length ∧ A1 7 b = nI B ∧ A1 8 b = nI (eC E).length ∧ k ≤ (eC E).length ∧ (∀ j, j < E.1.length → A1 9 (150 * b + j) = nI (E.1.getD j 0)) ∧ ∀ j, j < k → A1 10 (8000 * t + B + j) = nI ((eC E).getD j 0))) 60 ?_ 80 ?_
  · obtain ⟨s1, s2, s3, s4, s5, s6, s7, s8⟩ := id hS
    conv => whnf
    refine ⟨(Nat.le_of_ble_eq_true rfl), _, _, _, c_M_place hfl, by first | omega | exact Nat.le_of_ble_eq_true rfl | (simp only [dl1, dl2, dl3, dl4, dl5, dl6]; omega), by first | omega | exact Nat.le_of_ble_eq_true rfl | (simp only [dl1, dl2, dl3, dl4, dl5, dl6]; omega), k_rl ?_, k_rr⟩
    rw [hav]
    conv => whnf
    refine ⟨_, _, h.z, rfl, ?_⟩
    conv => whnf
    refine Or.inl ⟨1, _, _, t, h.a1, rfl, rfl, by omega, by first | decide | omega, ?_⟩
    rw [t1]
    conv => whnf
    refine ⟨(Nat.le_of_ble_eq_true rfl), _, _, _, c_M_place hfl, by first | omega | exact Nat.le_of_ble_eq_true rfl | (simp only [dl1, dl2, dl3, dl4, dl5, dl6]; omega), by first | omega | exact Nat.le_of_ble_eq_true rfl | (simp only [dl1, dl2, dl3, dl4, dl5, dl6]; omega), k_rl ?_, k_rr⟩
    rw [hbv]
    conv => whnf
    refine ⟨_, _, h.z, rfl, ?_⟩
    conv => whnf
    refine ⟨_, _, h.z, rfl, ?_⟩
    conv => whnf
    refine Or.inl ⟨1, _, _, a, h.a3, rfl, rfl, by omega, by first | decide | omega, ?_⟩
    conv => whnf
    refine ⟨1, _, _, b, h.a3, rfl, rfl, by omega, by first | decide | omega, ?_⟩
    have h1 := mg_up h (i := 3) (by decide) (by decide) (f := upd (A 3) b (A 3 a))
    conv => whnf
    refine ⟨_, _, h1.z, rfl, ?_⟩
    conv => whnf
    refine ⟨_, _, h1.z, rfl, ?_⟩
    conv => whnf
    refine Or.inl ⟨1, _, _, a, h1.a4, rfl, rfl, by omega, by first | decide | omega, ?_⟩
    conv => whnf
    refine ⟨1, _, _, b, h1.a4, rfl, rfl, by omega, by first | decide | omega, ?_⟩
    have h2 := mg_up h1 (i := 4) (by decide) (by decide) (f := upd (A 4) b (A 4 a))
    conv => whnf
    refine ⟨_, _, h2.z, rfl, ?_⟩
    conv => whnf
    refine ⟨_, _, h2.z, rfl, ?_⟩
    conv => whnf
    refine Or.inl ⟨1, _, _, a, h2.a5, rfl, rfl, by omega, by first | decide | omega, ?_⟩
    conv => whnf
    refine ⟨1, _, _, b, h2.a5, rfl, rfl, by omega, by first | decide | omega, ?_⟩
    have h3 := mg_up h2 (i := 5) (by decide) (by decide) (f := upd (A 5) b (A 5 a))
    conv => whnf
    refine ⟨_, _, h3.z, rfl, ?_⟩
    conv => whnf
    refine ⟨_, _, h3.z, rfl, ?_⟩
    conv => whnf
    refine Or.inl ⟨1, _, _, a, h3.a6, rfl, rfl, by omega, by first | decide | omega, ?_⟩
    conv => whnf
    refine ⟨1, _, _, b, h3.a6, rfl, rfl, by omega, by first | decide | omega, ?_⟩
    have h4 := mg_up h3 (i := 6) (by decide) (by decide) (f := upd (A 6) b (A 6 a))
    conv => whnf
    refine ⟨rfl, _, _, Or.inl ⟨0, _, rfl, rfl, rfl, rfl, rfl, h4, fx_up (fx_up (fx_up (fx_up fx_rf (iUU rfl)) (iUU rfl)) (iUU rfl)) (iUU rfl), ?_, ?_, ?_, ?_, ?_, ?_, ?_, by omega, fun j hj => by omega⟩, rfl, rfl, rfl, rfl, rfl, rfl, trivial⟩
    · exact dif_up (A1 := uA (uA (uA A 3 (upd (A 3) b (A 3 a))) 4 (upd (A 4) b (A 4 a))) 5 (upd (A 5) b (A 5 a))) (dif_up (A1 := uA (uA A 3 (upd (A 3) b (A 3 a))) 4 (upd (A 4) b (A 4 a))) (dif_up (A1 := uA A 3 (upd (A 3) b (A 3 a))) (dif_up dif_rf (by unfold Wb; omega)) (by unfold Wb; omega)) (by unfold Wb; omega)) (by unfold Wb; omega)
    · rw [uA_n (by decide), uA_n (by decide), uA_n (by decide), uA_n (by decide)]; exact t1
    · rw [uA_n (by decide), uA_n (by decide), uA_n (by decide), uA_n (by decide)]; exact t2
    · rw [uA_n (by decide), uA_n (by decide), uA_n (by decide), uA_s, pk_us]; exact s1
    · rw [uA_n (by decide), uA_n (by decide), uA_s, pk_us]; exact s2
    · rw [uA_n (by decide), uA_s, pk_us]; exact s3
    · rw [uA_s, pk_us]; exact s4
  · rintro d pc lv g1 k0 n0 (⟨k, A1, rfl, rfl, rfl, rfl, rfl, h1, hfx, hd, q1, q2, q3, q4, q5, q6, hk, q9⟩ | ⟨k, A1, rfl, rfl, rfl, rfl, rfl, h1, hfx, hd, q1, q2, q3, q4, q5, q6, q7, q8, hk, q9, q10⟩)
    · obtain ⟨s1, s2, s3, s4, s5, s6, s7, s8⟩ := hsrc hd
      conv => whnf
      refine ⟨_, _, h1.z, rfl, ?_⟩
      conv => whnf
      refine Or.inl ⟨1, _, _, a, h1.a6, rfl, rfl, by omega, by first | decide | omega, ?_⟩
      rw [s4]
      conv => whnf
      refine ⟨fun h5 => ?_, fun h5 => ?_⟩
      · have h9 := (q_ge (by omega) (by omega)).mp h5
        obtain rfl : k = E.1.length := by omega
        conv => whnf
        refine ⟨_, _, h1.z, rfl, ?_⟩
        conv => whnf
        refine ⟨_, _, h1.z, rfl, ?_⟩
        conv => whnf
        refine Or.inl ⟨1, _, _, a, h1.a8, rfl, rfl, by omega, by first | decide | omega, ?_⟩
        rw [s6]
        conv => whnf
        refine ⟨1, _, _, b, h1.a8, rfl, rfl, by omega, by first | decide | omega, ?_⟩
        have h2 := mg_up h1 (i := 8) (by decide) (by decide) (f := upd (A1 8) b (nI (eC E).length))
        conv => whnf
        refine ⟨_, _, h2.z, rfl, ?_⟩
        conv => whnf
        refine ⟨_, _, h2.z, rfl, ?_⟩
        conv => whnf
        refine Or.inl ⟨1, _, _, t, h2.a2, rfl, rfl, by omega, by first | decide | omega, ?_⟩
        rw [uA_n (by decide), q2]
        conv => whnf
        refine ⟨1, _, _, b, h2.a7, rfl, rfl, by omega, by first | decide | omega, ?_⟩
        have h3 := mg_up h2 (i := 7) (by decide) (by decide) (f := upd (A1 7) b (nI B))
        conv => whnf
        refine ⟨rfl, _, _, ?_, Or.inr ⟨0, _, rfl, rfl, rfl, rfl, rfl, h3, fx_up (fx_up hfx (iUU rfl)) (iUU rfl), ?_, ?_, ?_, ?_, ?_, ?_, ?_, ?_, ?_, by omega, ?_, fun j hj => by omega⟩, rfl, rfl, rfl, rfl, rfl, rfl, trivial⟩
        · omega
        · exact dif_up (A1 := uA A1 8 (upd (A1 8) b (nI (eC E).length))) (dif_up hd (by unfold Wb; omega)) (by unfold Wb; omega)
        · rw [uA_n (by decide), uA_n (by decide)]; exact q1
        · rw [uA_n (by decide), uA_n (by decide)]; exact q2
        · rw [uA_n (by decide), uA_n (by decide)]; exact q3
        · rw [uA_n (by decide), uA_n (by decide)]; exact q4
        · rw [uA_n (by decide), uA_n (by decide)]; exact q5
        · rw [uA_n (by decide), uA_n (by decide)]; exact q6
        · rw [uA_s, pk_us]
        · rw [uA_n (by decide), uA_s, pk_us]
        · rw [uA_n (by decide), uA_n (by decide)]; exact q9
      · have h9 : k < E.1.length := Nat.lt_of_not_le fun z => h5 ((q_ge (by omega) (by omega)).mpr z)
        conv => whnf
        refine ⟨_, _, h1.z, rfl, ?_⟩
        conv => whnf
        refine ⟨_, _, h1.z, rfl, ?_⟩
        conv => whnf
        refine Or.inl ⟨1, _, _, 150 * a + k, h1.a9, rfl, (ix1 150 a k), (by omega), by first | decide | omega, ?_⟩
        rw [s7 k h9]
        conv => whnf
        refine ⟨1, _, _, 150 * b + k, h1.a9, rfl, (ix1 150 b k), (by omega), by first | decide | omega, ?_⟩
        have h2 := mg_up h1 (i := 9) (by decide) (by decide) (f := upd (A1 9) (150 * b + k) (nI (E.1.getD k 0)))
        conv => whnf
        refine ⟨rfl, _, _, ?_, Or.inl ⟨k + 1, _, rfl, rfl, rfl, rfl, rfl, h2, fx_up hfx (iUU rfl), ?_, ?_, ?_, ?_, ?_, ?_, ?_, by omega, fun j hj => ?_⟩, rfl, rfl, rfl, rfl, rfl, sI k, trivial⟩
        · omega
        · exact dif_up hd (by unfold Wb; omega)
        · rw [uA_n (by decide)]; exact q1
        · rw [uA_n (by decide)]; exact q2
        · rw [uA_n (by decide)]; exact q3
        · rw [uA_n (by decide)]; exact q4
        · rw [uA_n (by decide)]; exact q5
        · rw [uA_n (by decide)]; exact q6
        · rw [uA_s]
          by_cases hjk : j = k
          · subst hjk; rw [pk_us]
          · rw [pk_un (by omega)]; exact q9 j (by omega)
    · obtain ⟨s1, s2, s3, s4, s5, s6, s7, s8⟩ := hsrc hd
      conv => whnf
      refine ⟨_, _, h1.z, rfl, ?_⟩
      conv => whnf
      refine Or.inl ⟨1, _, _, a, h1.a8, rfl, rfl, by omega, by first | decide | omega, ?_⟩
      rw [s6]
      conv => whnf
      refine ⟨fun h5 => ?_, fun h5 => ?_⟩
      · have h9 := (q_ge (by omega) (by omega)).mp h5
        obtain rfl : k = (eC E).length := by omega
        conv => whnf
        refine ⟨_, _, h1.z, rfl, ?_⟩
        conv => whnf
        refine Or.inl ⟨1, _, _, t, h1.a2, rfl, rfl, by omega, by first | decide | omega, ?_⟩
        rw [q2]
        conv => whnf
        refine ⟨_, _, h1.z, rfl, ?_⟩
        conv => whnf
        refine Or.inl ⟨1, _, _, a, h1.a8, rfl, rfl, by omega, by first | decide | omega, ?_⟩
        rw [s6]
        conv => whnf
        refine ⟨1, _, _, t, h1.a2, rfl, rfl, by omega, by first | decide | omega, ?_⟩
        rw [nI_add]
        have h2 := mg_up h1 (i := 2) (by decide) (by decide) (f := upd (A1 2) t (nI (B + (eC E).length)))
        conv => whnf
        refine ⟨_, _, h2.z, rfl, ?_⟩
        conv => whnf
        refine Or.inl ⟨1, _, _, t, h2.a1, rfl, rfl, by omega, by first | decide | omega, ?_⟩
        rw [uA_n (by decide), q1]
        conv => whnf
        refine ⟨1, _, _, t, h2.a1, rfl, rfl, by omega, by first | decide | omega, ?_⟩
        have h3 := mg_up h2 (i := 1) (by decide) (by decide) (f := upd (A1 1) t (nI n + nI 1))
        conv => whnf
        refine ⟨rfl, ?_, by first | omega | exact Nat.le_of_ble_eq_true rfl | (simp only [dl1, dl2, dl3, dl4, dl5, dl6]; omega), by first | omega | exact Nat.le_of_ble_eq_true rfl | (simp only [dl1, dl2, dl3, dl4, dl5, dl6]; omega)⟩
        have hdf : dif A (uA (uA A1 2 (upd (A1 2) t (nI (B + (eC E).length)))) 1 (upd (A1 1) t (nI n + nI 1))) (Wb b t B) := dif_up (A1 := uA A1 2 (upd (A1 2) t (nI (B + (eC E).length)))) (dif_up hd (by unfold Wb; omega)) (by unfold Wb; omega)
        refine ⟨rfl, fx_up (fx_up hfx (iUU rfl)) (iUU rfl), _, h3, dif_mono hdf (fun r q hw => Wb_t hbv.symm (by omega) hw), ?_⟩
        refine tm_app hT (by rw [hnv, hbv, hBv]; exact hdf) hB (by omega) (by omega) ?_ ?_ ?_
        · rw [uA_s, pk_us, nI_add, hnv]
        · rw [uA_n (by decide), uA_s, pk_us, hBv]
        · rw [hnv, hbv, hBv]
          refine ⟨?_, ?_, ?_, ?_, ?_, ?_, ?_, ?_⟩
          · rw [uA_n (by decide), uA_n (by decide)]; exact q3
          · rw [uA_n (by decide), uA_n (by decide)]; exact q4
          · rw [uA_n (by decide), uA_n (by decide)]; exact q5
          · rw [uA_n (by decide), uA_n (by decide)]; exact q6
          · rw [uA_n (by decide), uA_n (by decide)]; exact q7
          · rw [uA_n (by decide), uA_n (by decide)]; exact q8
          · rw [uA_n (by decide), uA_n (by decide)]; exact q9
          · rw [uA_n (by decide), uA_n (by decide)]; exact q10
      · have h9 : k < (eC E).length := Nat.lt_of_not_le fun z => h5 ((q_ge (by omega) (by omega)).mpr z)
        conv => whnf
        refine ⟨_, _, h1.z, rfl, ?_⟩
        conv => whnf
        refine ⟨_, _, h1.z, rfl, ?_⟩
        conv => whnf
        refine Or.inl ⟨1, _, _, t, h1.a2, rfl, rfl, by omega, by first | decide | omega, ?_⟩
        rw [q2]
        conv => whnf
        refine ⟨_, _, h1.z, rfl, ?_⟩
        conv => whnf
        refine ⟨_, _, h1.z, rfl, ?_⟩
        conv => whnf
        refine Or.inl ⟨1, _, _, a, h1.a7, rfl, rfl, by omega, by first | decide | omega, ?_⟩
        rw [s5]
        conv => whnf
        refine Or.inl ⟨1, _, _, 8000 * f + c + k, h1.a10, rfl, (ix2 8000 f c k), (by omega), by first | decide | omega, ?_⟩
        rw [s8 k h9]
        conv => whnf
        refine ⟨1, _, _, 8000 * t + B + k, h1.a10, rfl, (ix2 8000 t B k), (by omega), by first | decide | omega, ?_⟩
        have h2 := mg_up h1 (i := 10) (by decide) (by decide) (f := upd (A1 10) (8000 * t + B + k) (nI ((eC E).getD k 0)))
        conv => whnf
        refine ⟨rfl, _, _, ?_, Or.inr ⟨k + 1, _, rfl, rfl, rfl, rfl, rfl, h2, fx_up hfx (iUU rfl), ?_, ?_, ?_, ?_, ?_, ?_, ?_, ?_, ?_, by omega, ?_, fun j hj => ?_⟩, rfl, rfl, rfl, rfl, rfl, sI k, trivial⟩
        · omega
        · exact dif_up hd (by unfold Wb; omega)
        · rw [uA_n (by decide)]; exact q1
        · rw [uA_n (by decide)]; exact q2
        · rw [uA_n (by decide)]; exact q3
        · rw [uA_n (by decide)]; exact q4
        · rw [uA_n (by decide)]; exact q5
        · rw [uA_n (by decide)]; exact q6
        · rw [uA_n (by decide)]; exact q7
        · rw [uA_n (by decide)]; exact q8
        · rw [uA_n (by decide)]; exact q9
        · rw [uA_s]
          by_cases hjk : j = k
          · subst hjk; rw [pk_us]
          · rw [pk_un (by omega)]; exact q10 j (by omega)
end MAPP
