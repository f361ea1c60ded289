/-! MirrorKeepModel: join into a tree; mirror -/
section JOIN2
variable {am : Nat → Nat} {A : mA} {F : mF} {g : g_H}
variable {l : Launch} {D : va_G} {aC : Nat → ClassId}
theorem out_ok {out rest J : List Ent} {E : Ent} (h : out ++ ([E] ++ rest) = J) (hl : J.length ≤ 120) (hs : sumC J ≤ 8000) : out.length < 120 ∧ sumC out + (eC E).length ≤ 8000 := by
  subst h
  rw [sumC_app, sumC_app] at hs
  have h1 : sumC [E] = (eC E).length := by simp [sumC]
  simp only [List.length_append, List.length_cons, List.length_nil] at hl
  omega
theorem jE_l {c : Int} {o m : Option Ent} {n u : Nat} (h : isCh (o1 c o) (m1 c m) = true) (hn : n < u) : jnE c o m n u = m1 c m := by rw [jnE, if_pos ⟨h, hn⟩]
theorem jE_o {c : Int} {o m : Option Ent} {n u : Nat} (h : ¬ (isCh (o1 c o) (m1 c m) = true ∧ n < u)) : jnE c o m n u = o1 c o := by rw [jnE, if_neg h]
set_option maxHeartbeats 4000000 in
theorem c_M_join (hfl : l.flags = pinnedFlags ++ [noTraceFlag]) (h0 : mg am A F g) {s t to u : Nat} {L M : List Ent} (hs : s < 46) (ht : t < 46) (hto : to < 46) (hst : s ≠ to) (htt : t ≠ to) (hu : u < 2 ^ 20) (hL0 : tm A s L) (hM0 : tm A t M) (hJl : (jnL (L.length + M.length) L M 0 u).length ≤ 120) (hJs : sumC (jnL (L.length + M.length) L M 0 u) ≤ 8000) : k_CT l D aC n_M_join 0 0 [.ref (am 0), .int (nI s), .int (nI t), .int (nI u), .int (nI to)] g (fun oc g1 => oc = .inl (some (.int (nI (difL (L.length + M.length) L M).length))) ∧ fx (UU am) g g1 ∧ ∃ A1, mg am A1 F g1 ∧ dif A A1 (Wt to) ∧ tm A1 to (jnL (L.length + M.length) L M 0 u)) := by
  have hl1 := hL0.2.2.1
  have hl2 := hM0.2.2.1
  generalize hNv : (difL (L.length + M.length) L M).length = N
  generalize hJv : jnL (L.length + M.length) L M 0 u = J at *
  refine k_while hfl n_M_join ok_M_join rfl rfl rfl rfl rfl rfl (fun h => by cases h) (Nat.le_of_ble_eq_true rfl) [20, 84] (fun pc d lv g1 k0 n0 => (∃ i j n f A1 out, pc = 20 ∧ d = 2 * ((L.length - i) + (M.length - j)) + 1 ∧ lv = [(0, .ref (am 0)), (1, .int (nI s)), (2, .int (nI t)), (3, .int (nI u)), (4, .int (nI to)), (5, .int (nI i)), (6, .int (nI j)), (7, .int (nI n))] ∧ k0 = 0 ∧ n0 = 0 ∧ i ≤ L.length ∧ j ≤ M.length ∧ (L.length - i) + (M.length - j) ≤ f ∧ mg am A1 F g1 ∧ fx (UU am) g g1 ∧ dif A A1 (Wt to) ∧ tm A1 to out ∧ out ++ jnL f (L.drop i) (M.drop j) n u = J ∧ n + (difL f (L.drop i) (M.drop j)).length = N) ∨ (∃ i j n f A1 out, pc = 84 ∧ d = 2 * ((L.length - i) + (M.length - j)) ∧ lv = [(0, .ref (am 0)), (1, .int (nI s)), (2, .int (nI t)), (3, .int (nI u)), (4, .int (nI to)), (5, .int (nI i)), (6, .int (nI j)), (7, .int (nI n)), (8, .int (Int32.ofInt (cmpO L[i]? M[j]?)))] ∧ k0 = 0 ∧ n0 = 0 ∧ i ≤ L.length ∧ j ≤ M.length ∧ (L.length - i) + (M.length - j) ≤ f ∧ mg am A1 F g1 ∧ fx (UU am) g g1 ∧ dif A A1 (Wt to) ∧ tm A1 to out ∧ out ++ jnL f (L.drop i) (M.drop j) n u = J ∧ n + (difL f (L.drop i) (M.drop j)).length = N ∧ (i < L.length ∨ j < M.length))) 60 ?_ 80 ?_
  · conv => whnf
    refine ⟨fun h => absurd h (q_lt0 (by omega)), fun _ => ?_⟩
    conv => whnf
    refine ⟨⟨_, h0.z⟩, (Nat.le_of_ble_eq_true rfl), _, _, _, c_M_empty hfl h0 hto, by first | omega | exact Nat.le_of_ble_eq_true rfl | (simp only [dl1, dl2, dl3, dl4, dl5, dl6]; omega), by first | omega | exact Nat.le_of_ble_eq_true rfl | (simp only [dl1, dl2, dl3, dl4, dl5, dl6]; omega), fun v g1 hh => ?_, fun C g1 hh => ?_⟩
    · obtain ⟨hv, hfx, A1, h1, hd, ht1⟩ := hh
      cases hv
      conv => whnf
      exact ⟨rfl, _, _, Or.inl ⟨0, 0, 0, L.length + M.length, A1, [], rfl, rfl, rfl, rfl, rfl, by omega, by omega, by omega, h1, hfx, hd, ht1, by rw [← hJv]; simp, by rw [← hNv]; simp⟩, rfl, rfl, rfl, rfl, rfl, rfl, rfl, rfl, trivial⟩
    · cases hh.1
  · rintro d pc lv g1 k0 n0 (⟨i, j, n, f, A1, out, rfl, rfl, rfl, rfl, rfl, hi, hj, hf, h1, hfx, hd, ho1, hJ, hN⟩ | ⟨i, j, n, f, A1, out, rfl, rfl, rfl, rfl, rfl, hi, hj, hf, h1, hfx, hd, ho1, hJ, hN, hij⟩)
    · have hL1 := tm_dif hL0 hd hst
      have hM1 := tm_dif hM0 hd htt
      conv => whnf
      refine ⟨_, _, h1.z, rfl, ?_⟩
      conv => whnf
      refine Or.inl ⟨1, _, _, s, h1.a1, rfl, rfl, by omega, by first | decide | omega, ?_⟩
      rw [hL1.1]
      have hgo : i < L.length ∨ j < M.length → True := fun _ => trivial
      by_cases hi2 : i < L.length
      · conv => whnf
        refine ⟨fun _ => ?_, fun h => absurd ((q_lt (by omega) (by omega)).mpr hi2) h⟩
        conv => whnf
        refine ⟨_, _, h1.z, rfl, ?_⟩
        conv => whnf
        refine Or.inl ⟨1, _, _, s, h1.a1, rfl, rfl, by omega, by first | decide | omega, ?_⟩
        rw [hL1.1]
        by_cases hie : i = L.length
        · conv => whnf
          refine ⟨fun h => absurd h (fun z => (q_ne (by omega) (by omega)).mp z hie), fun _ => ?_⟩
          have ho : L[i]? = none := List.getElem?_eq_none (by omega)
          have hce : Int32.ofInt (cmpO L[i]? M[j]?) = nI 1 := by rw [ho]; rfl
          conv => whnf
          exact ⟨rfl, _, _, by omega, Or.inr ⟨i, j, n, f, A1, out, rfl, rfl, rfl, rfl, rfl, hi, hj, hf, h1, hfx, hd, ho1, hJ, hN, (Or.inl hi2)⟩, rfl, rfl, rfl, rfl, rfl, rfl, rfl, rfl, by rw [hce]; rfl, trivial⟩
        · conv => whnf
          refine ⟨fun _ => ?_, fun h => absurd ((q_ne (by omega) (by omega)).mpr hie) h⟩
          conv => whnf
          refine ⟨_, _, h1.z, rfl, ?_⟩
          conv => whnf
          refine Or.inl ⟨1, _, _, t, h1.a1, rfl, rfl, by omega, by first | decide | omega, ?_⟩
          rw [hM1.1]
          have hi3 : i < L.length := by omega
          have ho := List.getElem?_eq_getElem hi3
          by_cases hje : j = M.length
          · conv => whnf
            refine ⟨fun h => absurd h (fun z => (q_ne (by omega) (by omega)).mp z hje), fun _ => ?_⟩
            have hm : M[j]? = none := List.getElem?_eq_none (by omega)
            have hce : Int32.ofInt (cmpO L[i]? M[j]?) = -1 := by rw [ho, hm]; rfl
            conv => whnf
            exact ⟨rfl, _, _, by omega, Or.inr ⟨i, j, n, f, A1, out, rfl, rfl, rfl, rfl, rfl, hi, hj, hf, h1, hfx, hd, ho1, hJ, hN, (Or.inl hi2)⟩, rfl, rfl, rfl, rfl, rfl, rfl, rfl, rfl, by rw [hce]; rfl, trivial⟩
          · conv => whnf
            refine ⟨fun _ => ?_, fun h => absurd ((q_ne (by omega) (by omega)).mpr hje) h⟩
            have hj3 : j < M.length := by omega
            have hm := List.getElem?_eq_getElem hj3
            conv => whnf
            refine ⟨⟨_, h1.z⟩, (Nat.le_of_ble_eq_true rfl), _, _, _, c_M_orderOf hfl h1 hs ht hL1 hM1 ho hm, by first | omega | exact Nat.le_of_ble_eq_true rfl | (simp only [dl1, dl2, dl3, dl4, dl5, dl6]; omega), by first | omega | exact Nat.le_of_ble_eq_true rfl | (simp only [dl1, dl2, dl3, dl4, dl5, dl6]; omega), k_rl ?_, k_rr⟩
            have hce : Int32.ofInt (cmpO L[i]? M[j]?) = Int32.ofInt (cmpP L[i].1 M[j].1) := by rw [ho, hm]; rfl
            conv => whnf
            exact ⟨rfl, _, _, by omega, Or.inr ⟨i, j, n, f, A1, out, rfl, rfl, rfl, rfl, rfl, hi, hj, hf, h1, hfx, hd, ho1, hJ, hN, (Or.inl hi2)⟩, rfl, rfl, rfl, rfl, rfl, rfl, rfl, rfl, by rw [hce]; rfl, trivial⟩
      · conv => whnf
        refine ⟨fun h => absurd h (fun z => hi2 ((q_lt (by omega) (by omega)).mp z)), fun _ => ?_⟩
        conv => whnf
        refine ⟨_, _, h1.z, rfl, ?_⟩
        conv => whnf
        refine Or.inl ⟨1, _, _, t, h1.a1, rfl, rfl, by omega, by first | decide | omega, ?_⟩
        rw [hM1.1]
        by_cases hj2 : j < M.length
        · conv => whnf
          refine ⟨fun h => absurd h (fun z => absurd ((q_ge (by omega) (by omega)).mp z) (by omega)), fun _ => ?_⟩
          conv => whnf
          refine ⟨_, _, h1.z, rfl, ?_⟩
          conv => whnf
          refine Or.inl ⟨1, _, _, s, h1.a1, rfl, rfl, by omega, by first | decide | omega, ?_⟩
          rw [hL1.1]
          by_cases hie : i = L.length
          · conv => whnf
            refine ⟨fun h => absurd h (fun z => (q_ne (by omega) (by omega)).mp z hie), fun _ => ?_⟩
            have ho : L[i]? = none := List.getElem?_eq_none (by omega)
            have hce : Int32.ofInt (cmpO L[i]? M[j]?) = nI 1 := by rw [ho]; rfl
            conv => whnf
            exact ⟨rfl, _, _, by omega, Or.inr ⟨i, j, n, f, A1, out, rfl, rfl, rfl, rfl, rfl, hi, hj, hf, h1, hfx, hd, ho1, hJ, hN, (Or.inr hj2)⟩, rfl, rfl, rfl, rfl, rfl, rfl, rfl, rfl, by rw [hce]; rfl, trivial⟩
          · conv => whnf
            refine ⟨fun _ => ?_, fun h => absurd ((q_ne (by omega) (by omega)).mpr hie) h⟩
            conv => whnf
            refine ⟨_, _, h1.z, rfl, ?_⟩
            conv => whnf
            refine Or.inl ⟨1, _, _, t, h1.a1, rfl, rfl, by omega, by first | decide | omega, ?_⟩
            rw [hM1.1]
            have hi3 : i < L.length := by omega
            have ho := List.getElem?_eq_getElem hi3
            by_cases hje : j = M.length
            · conv => whnf
              refine ⟨fun h => absurd h (fun z => (q_ne (by omega) (by omega)).mp z hje), fun _ => ?_⟩
              have hm : M[j]? = none := List.getElem?_eq_none (by omega)
              have hce : Int32.ofInt (cmpO L[i]? M[j]?) = -1 := by rw [ho, hm]; rfl
              conv => whnf
              exact ⟨rfl, _, _, by omega, Or.inr ⟨i, j, n, f, A1, out, rfl, rfl, rfl, rfl, rfl, hi, hj, hf, h1, hfx, hd, ho1, hJ, hN, (Or.inr hj2)⟩, rfl, rfl, rfl, rfl, rfl, rfl, rfl, rfl, by rw [hce]; rfl, trivial⟩
            · conv => whnf
              refine ⟨fun _ => ?_, fun h => absurd ((q_ne (by omega) (by omega)).mpr hje) h⟩
              have hj3 : j < M.length := by omega
              have hm := List.getElem?_eq_getElem hj3
              conv => whnf
              refine ⟨⟨_, h1.z⟩, (Nat.le_of_ble_eq_true rfl), _, _, _, c_M_orderOf hfl h1 hs ht hL1 hM1 ho hm, by first | omega | exact Nat.le_of_ble_eq_true rfl | (simp only [dl1, dl2, dl3, dl4, dl5, dl6]; omega), by first | omega | exact Nat.le_of_ble_eq_true rfl | (simp only [dl1, dl2, dl3, dl4, dl5, dl6]; omega), k_rl ?_, k_rr⟩
              have hce : Int32.ofInt (cmpO L[i]? M[j]?) = Int32.ofInt (cmpP L[i].1 M[j].1) := by rw [ho, hm]; rfl
              conv => whnf
              exact ⟨rfl, _, _, by omega, Or.inr ⟨i, j, n, f, A1, out, rfl, rfl, rfl, rfl, rfl, hi, hj, hf, h1, hfx, hd, ho1, hJ, hN, (Or.inr hj2)⟩, rfl, rfl, rfl, rfl, rfl, rfl, rfl, rfl, by rw [hce]; rfl, trivial⟩
        · conv => whnf
          refine ⟨fun _ => ?_, fun h => absurd ((q_ge (by omega) (by omega)).mpr (by omega)) h⟩
          have ei : L.drop i = [] := List.drop_eq_nil_of_le (by omega)
          have ej : M.drop j = [] := List.drop_eq_nil_of_le (by omega)
          rw [ei, ej, difL_nil, List.length_nil, Nat.add_zero] at hN
          rw [ei, ej, jnL_nil, List.append_nil] at hJ
          subst hJ
          conv => whnf
          refine ⟨⟨_, rfl, rfl⟩, ⟨by rw [hN], hfx, A1, h1, hd, ho1⟩, by first | omega | exact Nat.le_of_ble_eq_true rfl | (simp only [dl1, dl2, dl3, dl4, dl5, dl6]; omega), by first | omega | exact Nat.le_of_ble_eq_true rfl | (simp only [dl1, dl2, dl3, dl4, dl5, dl6]; omega)⟩
    · have hL1 := tm_dif hL0 hd hst
      have hM1 := tm_dif hM0 hd htt
      have hcb := cmpO_b (i := i) (j := j) hL1 hM1
      obtain ⟨f, rfl⟩ : ∃ f', f = f' + 1 := ⟨f - 1, by omega⟩
      have hnn : ¬ (L[i]? = none ∧ M[j]? = none) := fun z => by
        have z1 := List.getElem?_eq_none_iff.mp z.1
        have z2 := List.getElem?_eq_none_iff.mp z.2
        omega
      have hl0 : n < 2 ^ 20 := by
        have := difL_len (L.length + M.length) L M
        omega
      rw [jn_step rfl rfl] at hJ
      have hngt : ¬ 0 < cmpO L[i]? M[j]? → ¬ w_cmp .gt (Int32.ofInt (cmpO L[i]? M[j]?)) 0 := fun z y => z ((cmp_gt0 hcb.1 hcb.2).mp y)
      have hnlt : ¬ cmpO L[i]? M[j]? < 0 → ¬ w_cmp .lt (Int32.ofInt (cmpO L[i]? M[j]?)) 0 := fun z y => z ((cmp_lt0 hcb.1 hcb.2).mp y)
      have hto0 : ¬ w_cmp .lt (nI to) 0 := q_lt0 (by omega)
      rcases Int.lt_trichotomy (cmpO L[i]? M[j]?) 0 with hc | hc | hc
      · obtain ⟨E, hE⟩ := cmpO_neg hc
        have hi3 := (List.getElem?_eq_some_iff.mp hE).1
        have hch : isCh (o1 (cmpO L[i]? M[j]?) L[i]?) (m1 (cmpO L[i]? M[j]?) M[j]?) = true := by
          rw [hE]; exact ch_neg (by rw [← hE]; exact hc)
        conv => whnf
        refine ⟨fun _ => ?_, fun h => absurd ((cmp_ne0 hcb.1 hcb.2).mpr (by omega)) h⟩
        conv => whnf
        refine ⟨fun h => absurd h b2_t, fun _ => ?_⟩
        by_cases hnu : n < u
        · conv => whnf
          refine ⟨fun h => absurd h (fun z => absurd ((q_ge (by omega) (by omega)).mp z) (by omega)), fun _ => ?_⟩
          conv => whnf
          refine ⟨fun h => absurd h hto0, fun _ => ?_⟩
          conv => whnf
          refine ⟨fun h => absurd h b2_t, fun _ => ?_⟩
          conv => whnf
          refine ⟨fun _ => ?_, fun h => absurd ((cmp_lt0 hcb.1 hcb.2).mpr hc) h⟩
          conv => whnf
          refine ⟨fun h => absurd h hto0, fun _ => ?_⟩
          conv => whnf
          refine ⟨fun _ => ?_, fun h => absurd b2_t h⟩
          conv => whnf
          refine ⟨fun h => absurd h b2_t, fun _ => ?_⟩
          conv => whnf
          refine ⟨fun h => absurd h (hngt (by omega)), fun _ => ?_⟩
          conv => whnf
          refine ⟨fun _ => ?_, fun h => absurd ((cmp_lt0 hcb.1 hcb.2).mpr hc) h⟩
          rw [jE_l hch hnu, chN, if_pos hch, if_pos (by omega : cmpO L[i]? M[j]? ≤ 0), if_neg (by omega : ¬ 0 ≤ cmpO L[i]? M[j]?), show m1 (cmpO L[i]? M[j]?) M[j]? = none by rw [m1, if_neg (by omega)]] at hJ
          conv => whnf
          refine ⟨rfl, _, _, ?_, Or.inl ⟨i + 1, j, n + 1, f, A1, out, rfl, rfl, rfl, rfl, rfl, by omega, by omega, by omega, h1, hfx, hd, ho1, hJ, ?_⟩, rfl, rfl, rfl, rfl, rfl, sI i, s0 j, sI n, trivial⟩
          · omega
          · rw [dif_len rfl rfl, chN] at hN
            rw [if_pos hch, if_pos (by omega : cmpO L[i]? M[j]? ≤ 0), if_neg (by omega : ¬ 0 ≤ cmpO L[i]? M[j]?)] at hN
            omega
        · conv => whnf
          refine ⟨fun _ => ?_, fun h => absurd ((q_ge (by omega) (by omega)).mpr (by omega)) h⟩
          conv => whnf
          refine ⟨fun h => absurd h hto0, fun _ => ?_⟩
          conv => whnf
          refine ⟨fun _ => ?_, fun h => absurd b2_f h⟩
          conv => whnf
          refine ⟨fun h => absurd h hto0, fun _ => ?_⟩
          conv => whnf
          refine ⟨fun h => absurd h (fun z => z b2_f), fun _ => ?_⟩
          conv => whnf
          refine ⟨fun h => absurd h (hngt (by omega)), fun _ => ?_⟩
          rw [jE_o (fun z => hnu z.2), chN, if_pos hch, if_pos (by omega : cmpO L[i]? M[j]? ≤ 0), if_neg (by omega : ¬ 0 ≤ cmpO L[i]? M[j]?), show o1 (cmpO L[i]? M[j]?) L[i]? = some E by rw [o1, if_pos (by omega), hE]] at hJ
          have hok := out_ok hJ hJl hJs
          conv => whnf
          refine ⟨⟨_, h1.z⟩, (Nat.le_of_ble_eq_true rfl), _, _, _, c_M_append hfl h1 hs hto hst hL1 ho1 hE hok.1 hok.2, by first | omega | exact Nat.le_of_ble_eq_true rfl | (simp only [dl1, dl2, dl3, dl4, dl5, dl6]; omega), by first | omega | exact Nat.le_of_ble_eq_true rfl | (simp only [dl1, dl2, dl3, dl4, dl5, dl6]; omega), fun v g2 hh => ?_, fun C g2 hh => ?_⟩
          · obtain ⟨hv, hfx2, A2, h2, hd2, ho2⟩ := hh
            cases hv
            conv => whnf
            refine ⟨fun h => absurd h b2_t, fun _ => ?_⟩
            conv => whnf
            refine ⟨fun h => absurd h (hngt (by omega)), fun _ => ?_⟩
            conv => whnf
            refine ⟨fun _ => ?_, fun h => absurd ((cmp_lt0 hcb.1 hcb.2).mpr hc) h⟩
            rw [← List.append_assoc] at hJ
            conv => whnf
            refine ⟨rfl, _, _, ?_, Or.inl ⟨i + 1, j, n + 1, f, A2, _, rfl, rfl, rfl, rfl, rfl, by omega, by omega, by omega, h2, fx_tr hfx hfx2, dif_tr hd hd2, ho2, hJ, ?_⟩, rfl, rfl, rfl, rfl, rfl, sI i, s0 j, sI n, trivial⟩
            · omega
            · rw [dif_len rfl rfl, chN] at hN
              rw [if_pos hch, if_pos (by omega : cmpO L[i]? M[j]? ≤ 0), if_neg (by omega : ¬ 0 ≤ cmpO L[i]? M[j]?)] at hN
              omega
          · cases hh.1
      · obtain ⟨E, G, hE, hG⟩ := cmpO_zero hc
        have hi3 := (List.getElem?_eq_some_iff.mp hE).1
        have hj3 := (List.getElem?_eq_some_iff.mp hG).1
        have hchz : isCh (o1 (cmpO L[i]? M[j]?) L[i]?) (m1 (cmpO L[i]? M[j]?) M[j]?) = !lkE E G := by
          rw [hE, hG, ch_zero (by rw [← hE, ← hG]; exact hc)]
        rw [if_pos (by omega : cmpO L[i]? M[j]? ≤ 0), if_pos (by omega : 0 ≤ cmpO L[i]? M[j]?)] at hJ
        have ho1' : o1 (cmpO L[i]? M[j]?) L[i]? = some E := by rw [o1, if_pos (by omega), hE]
        have hm1' : m1 (cmpO L[i]? M[j]?) M[j]? = some G := by rw [m1, if_pos (by omega), hG]
        conv => whnf
        refine ⟨fun h => absurd h (fun z => absurd hc ((cmp_ne0 hcb.1 hcb.2).mp z)), fun _ => ?_⟩
        conv => whnf
        refine ⟨⟨_, h1.z⟩, (Nat.le_of_ble_eq_true rfl), _, _, _, c_M_isSame hfl h1 hs ht hL1 hM1 hE hG, by first | omega | exact Nat.le_of_ble_eq_true rfl | (simp only [dl1, dl2, dl3, dl4, dl5, dl6]; omega), by first | omega | exact Nat.le_of_ble_eq_true rfl | (simp only [dl1, dl2, dl3, dl4, dl5, dl6]; omega), k_rl ?_, k_rr⟩
        cases hlk : lkE E G with
        | false =>
          have hch : isCh (o1 (cmpO L[i]? M[j]?) L[i]?) (m1 (cmpO L[i]? M[j]?) M[j]?) = true := by rw [hchz, hlk]; rfl
          conv => whnf
          refine ⟨fun h => absurd h (fun z => z b2_f), fun _ => ?_⟩
          conv => whnf
          refine ⟨fun h => absurd h b2_t, fun _ => ?_⟩
          by_cases hnu : n < u
          · conv => whnf
            refine ⟨fun h => absurd h (fun z => absurd ((q_ge (by omega) (by omega)).mp z) (by omega)), fun _ => ?_⟩
            conv => whnf
            refine ⟨fun h => absurd h hto0, fun _ => ?_⟩
            conv => whnf
            refine ⟨fun h => absurd h b2_t, fun _ => ?_⟩
            conv => whnf
            refine ⟨fun h => absurd h (hnlt (by omega)), fun _ => ?_⟩
            rw [jE_l hch hnu, chN, if_pos hch, hm1'] at hJ
            have hok := out_ok hJ hJl hJs
            conv => whnf
            refine ⟨⟨_, h1.z⟩, (Nat.le_of_ble_eq_true rfl), _, _, _, c_M_append hfl h1 ht hto htt hM1 ho1 hG hok.1 hok.2, by first | omega | exact Nat.le_of_ble_eq_true rfl | (simp only [dl1, dl2, dl3, dl4, dl5, dl6]; omega), by first | omega | exact Nat.le_of_ble_eq_true rfl | (simp only [dl1, dl2, dl3, dl4, dl5, dl6]; omega), fun v g2 hh => ?_, fun C g2 hh => ?_⟩
            · obtain ⟨hv, hfx2, A2, h2, hd2, ho2⟩ := hh
              cases hv
              conv => whnf
              refine ⟨fun h => absurd h hto0, fun _ => ?_⟩
              conv => whnf
              refine ⟨fun _ => ?_, fun h => absurd b2_t h⟩
              conv => whnf
              refine ⟨fun h => absurd h b2_t, fun _ => ?_⟩
              conv => whnf
              refine ⟨fun h => absurd h (hngt (by omega)), fun _ => ?_⟩
              conv => whnf
              refine ⟨fun h => absurd h (hnlt (by omega)), fun _ => ?_⟩
              rw [← List.append_assoc] at hJ
              conv => whnf
              refine ⟨rfl, _, _, ?_, Or.inl ⟨i + 1, j + 1, n + 1, f, A2, _, rfl, rfl, rfl, rfl, rfl, by omega, by omega, by omega, h2, fx_tr hfx hfx2, dif_tr hd hd2, ho2, hJ, ?_⟩, rfl, rfl, rfl, rfl, rfl, sI i, sI j, sI n, trivial⟩
              · omega
              · rw [dif_len rfl rfl, chN] at hN
                rw [if_pos hch, if_pos (by omega : cmpO L[i]? M[j]? ≤ 0), if_pos (by omega : 0 ≤ cmpO L[i]? M[j]?)] at hN
                omega
            · cases hh.1
          · conv => whnf
            refine ⟨fun _ => ?_, fun h => absurd ((q_ge (by omega) (by omega)).mpr (by omega)) h⟩
            conv => whnf
            refine ⟨fun h => absurd h hto0, fun _ => ?_⟩
            conv => whnf
            refine ⟨fun _ => ?_, fun h => absurd b2_f h⟩
            conv => whnf
            refine ⟨fun h => absurd h hto0, fun _ => ?_⟩
            conv => whnf
            refine ⟨fun h => absurd h (fun z => z b2_f), fun _ => ?_⟩
            conv => whnf
            refine ⟨fun h => absurd h (hngt (by omega)), fun _ => ?_⟩
            rw [jE_o (fun z => hnu z.2), chN, if_pos hch, ho1'] at hJ
            have hok := out_ok hJ hJl hJs
            conv => whnf
            refine ⟨⟨_, h1.z⟩, (Nat.le_of_ble_eq_true rfl), _, _, _, c_M_append hfl h1 hs hto hst hL1 ho1 hE hok.1 hok.2, by first | omega | exact Nat.le_of_ble_eq_true rfl | (simp only [dl1, dl2, dl3, dl4, dl5, dl6]; omega), by first | omega | exact Nat.le_of_ble_eq_true rfl | (simp only [dl1, dl2, dl3, dl4, dl5, dl6]; omega), fun v g2 hh => ?_, fun C g2 hh => ?_⟩
            · obtain ⟨hv, hfx2, A2, h2, hd2, ho2⟩ := hh
              cases hv
              conv => whnf
              refine ⟨fun h => absurd h b2_t, fun _ => ?_⟩
              conv => whnf
              refine ⟨fun h => absurd h (hngt (by omega)), fun _ => ?_⟩
              conv => whnf
              refine ⟨fun h => absurd h (hnlt (by omega)), fun _ => ?_⟩
              rw [← List.append_assoc] at hJ
              conv => whnf
              refine ⟨rfl, _, _, ?_, Or.inl ⟨i + 1, j + 1, n + 1, f, A2, _, rfl, rfl, rfl, rfl, rfl, by omega, by omega, by omega, h2, fx_tr hfx hfx2, dif_tr hd hd2, ho2, hJ, ?_⟩, rfl, rfl, rfl, rfl, rfl, sI i, sI j, sI n, trivial⟩
              · omega
              · rw [dif_len rfl rfl, chN] at hN
                rw [if_pos hch, if_pos (by omega : cmpO L[i]? M[j]? ≤ 0), if_pos (by omega : 0 ≤ cmpO L[i]? M[j]?)] at hN
                omega
            · cases hh.1
        | true =>
          have hch : ¬ isCh (o1 (cmpO L[i]? M[j]?) L[i]?) (m1 (cmpO L[i]? M[j]?) M[j]?) = true := by rw [hchz, hlk]; decide
          conv => whnf
          refine ⟨fun _ => ?_, fun h => absurd b2_t h⟩
          conv => whnf
          refine ⟨fun _ => ?_, fun h => absurd b2_f h⟩
          conv => whnf
          refine ⟨fun h => absurd h hto0, fun _ => ?_⟩
          conv => whnf
          refine ⟨fun _ => ?_, fun h => absurd b2_f h⟩
          conv => whnf
          refine ⟨fun h => absurd h hto0, fun _ => ?_⟩
          conv => whnf
          refine ⟨fun h => absurd h (fun z => z b2_f), fun _ => ?_⟩
          conv => whnf
          refine ⟨fun h => absurd h (hngt (by omega)), fun _ => ?_⟩
          rw [jE_o (fun z => hch z.1), chN, if_neg hch, ho1'] at hJ
          have hok := out_ok hJ hJl hJs
          conv => whnf
          refine ⟨⟨_, h1.z⟩, (Nat.le_of_ble_eq_true rfl), _, _, _, c_M_append hfl h1 hs hto hst hL1 ho1 hE hok.1 hok.2, by first | omega | exact Nat.le_of_ble_eq_true rfl | (simp only [dl1, dl2, dl3, dl4, dl5, dl6]; omega), by first | omega | exact Nat.le_of_ble_eq_true rfl | (simp only [dl1, dl2, dl3, dl4, dl5, dl6]; omega), fun v g2 hh => ?_, fun C g2 hh => ?_⟩
          · obtain ⟨hv, hfx2, A2, h2, hd2, ho2⟩ := hh
            cases hv
            conv => whnf
            refine ⟨fun _ => ?_, fun h => absurd b2_f h⟩
            conv => whnf
            refine ⟨fun h => absurd h (hngt (by omega)), fun _ => ?_⟩
            conv => whnf
            refine ⟨fun h => absurd h (hnlt (by omega)), fun _ => ?_⟩
            rw [← List.append_assoc] at hJ
            conv => whnf
            refine ⟨rfl, _, _, ?_, Or.inl ⟨i + 1, j + 1, n, f, A2, _, rfl, rfl, rfl, rfl, rfl, by omega, by omega, by omega, h2, fx_tr hfx hfx2, dif_tr hd hd2, ho2, hJ, ?_⟩, rfl, rfl, rfl, rfl, rfl, sI i, sI j, s0 n, trivial⟩
            · omega
            · rw [dif_len rfl rfl, chN] at hN
              rw [if_neg hch, if_pos (by omega : cmpO L[i]? M[j]? ≤ 0), if_pos (by omega : 0 ≤ cmpO L[i]? M[j]?)] at hN
              omega
          · cases hh.1
      · obtain ⟨G, hG⟩ := cmpO_pos hc hnn
        have hj3 := (List.getElem?_eq_some_iff.mp hG).1
        have hch : isCh (o1 (cmpO L[i]? M[j]?) L[i]?) (m1 (cmpO L[i]? M[j]?) M[j]?) = true := by
          rw [hG]; exact ch_pos (by rw [← hG]; exact hc)
        rw [if_neg (by omega : ¬ cmpO L[i]? M[j]? ≤ 0), if_pos (by omega : 0 ≤ cmpO L[i]? M[j]?)] at hJ
        conv => whnf
        refine ⟨fun _ => ?_, fun h => absurd ((cmp_ne0 hcb.1 hcb.2).mpr (by omega)) h⟩
        conv => whnf
        refine ⟨fun h => absurd h b2_t, fun _ => ?_⟩
        by_cases hnu : n < u
        · conv => whnf
          refine ⟨fun h => absurd h (fun z => absurd ((q_ge (by omega) (by omega)).mp z) (by omega)), fun _ => ?_⟩
          conv => whnf
          refine ⟨fun h => absurd h hto0, fun _ => ?_⟩
          conv => whnf
          refine ⟨fun h => absurd h b2_t, fun _ => ?_⟩
          conv => whnf
          refine ⟨fun h => absurd h (hnlt (by omega)), fun _ => ?_⟩
          rw [jE_l hch hnu, chN, if_pos hch, show m1 (cmpO L[i]? M[j]?) M[j]? = some G by rw [m1, if_pos (by omega), hG]] at hJ
          have hok := out_ok hJ hJl hJs
          conv => whnf
          refine ⟨⟨_, h1.z⟩, (Nat.le_of_ble_eq_true rfl), _, _, _, c_M_append hfl h1 ht hto htt hM1 ho1 hG hok.1 hok.2, by first | omega | exact Nat.le_of_ble_eq_true rfl | (simp only [dl1, dl2, dl3, dl4, dl5, dl6]; omega), by first | omega | exact Nat.le_of_ble_eq_true rfl | (simp only [dl1, dl2, dl3, dl4, dl5, dl6]; omega), fun v g2 hh => ?_, fun C g2 hh => ?_⟩
          · obtain ⟨hv, hfx2, A2, h2, hd2, ho2⟩ := hh
            cases hv
            conv => whnf
            refine ⟨fun h => absurd h hto0, fun _ => ?_⟩
            conv => whnf
            refine ⟨fun _ => ?_, fun h => absurd b2_t h⟩
            conv => whnf
            refine ⟨fun h => absurd h b2_t, fun _ => ?_⟩
            conv => whnf
            refine ⟨fun _ => ?_, fun h => absurd ((cmp_gt0 hcb.1 hcb.2).mpr hc) h⟩
            conv => whnf
            refine ⟨fun h => absurd h (hnlt (by omega)), fun _ => ?_⟩
            rw [← List.append_assoc] at hJ
            conv => whnf
            refine ⟨rfl, _, _, ?_, Or.inl ⟨i, j + 1, n + 1, f, A2, _, rfl, rfl, rfl, rfl, rfl, by omega, by omega, by omega, h2, fx_tr hfx hfx2, dif_tr hd hd2, ho2, hJ, ?_⟩, rfl, rfl, rfl, rfl, rfl, s0 i, sI j, sI n, trivial⟩
            · omega
            · rw [dif_len rfl rfl, chN] at hN
              rw [if_pos hch, if_neg (by omega : ¬ cmpO L[i]? M[j]? ≤ 0), if_pos (by omega : 0 ≤ cmpO L[i]? M[j]?)] at hN
              omega
          · cases hh.1
        · conv => whnf
          refine ⟨fun _ => ?_, fun h => absurd ((q_ge (by omega) (by omega)).mpr (by omega)) h⟩
          conv => whnf
          refine ⟨fun h => absurd h hto0, fun _ => ?_⟩
          conv => whnf
          refine ⟨fun _ => ?_, fun h => absurd b2_f h⟩
          conv => whnf
          refine ⟨fun h => absurd h hto0, fun _ => ?_⟩
          conv => whnf
          refine ⟨fun h => absurd h (fun z => z b2_f), fun _ => ?_⟩
          conv => whnf
          refine ⟨fun _ => ?_, fun h => absurd ((cmp_gt0 hcb.1 hcb.2).mpr hc) h⟩
          conv => whnf
          refine ⟨fun h => absurd h b2_t, fun _ => ?_⟩
          conv => whnf
          refine ⟨fun _ => ?_, fun h => absurd ((cmp_gt0 hcb.1 hcb.2).mpr hc) h⟩
          conv => whnf
          refine ⟨fun h => absurd h (hnlt (by omega)), fun _ => ?_⟩
          rw [jE_o (fun z => hnu z.2), chN, if_pos hch, show o1 (cmpO L[i]? M[j]?) L[i]? = none by rw [o1, if_neg (by omega)]] at hJ
          conv => whnf
          refine ⟨rfl, _, _, ?_, Or.inl ⟨i, j + 1, n + 1, f, A1, out, rfl, rfl, rfl, rfl, rfl, by omega, by omega, by omega, h1, hfx, hd, ho1, hJ, ?_⟩, rfl, rfl, rfl, rfl, rfl, s0 i, sI j, sI n, trivial⟩
          · omega
          · rw [dif_len rfl rfl, chN] at hN
            rw [if_pos hch, if_neg (by omega : ¬ cmpO L[i]? M[j]? ≤ 0), if_pos (by omega : 0 ≤ cmpO L[i]? M[j]?)] at hN
            omega
end JOIN2
