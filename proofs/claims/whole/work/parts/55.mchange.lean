/-! MirrorKeepModel: change, set, cut, write -/
section MCH
theorem tm_re {A A1 : mA} {t : Nat} {L : List Ent} {E E1 : Ent} (h : tm A t (L ++ [E])) (hd : dif A A1 (Wb (120 * t + L.length) t (sumC L))) (hB : enB E1) (hs : sumC L + (eC E1).length ≤ 8000) (h1 : A1 1 t = nI (L.length + 1)) (h2 : A1 2 t = nI (sumC L + (eC E1).length)) (h3 : sl A1 t (120 * t + L.length) (sumC L) E1) : tm A1 t (L ++ [E1]) := by
  obtain ⟨a1, a2, a3, a4, a5⟩ := h
  have hsum : sumC (L ++ [E1]) = sumC L + (eC E1).length := by simp [sumC]
  have hsu0 : sumC (L ++ [E]) = sumC L + (eC E).length := by simp [sumC]
  rw [List.length_append] at a3
  simp only [List.length_singleton] at a3
  refine ⟨by rw [h1, List.length_append]; rfl, by rw [h2, hsum], by simp; omega, by omega, fun i G hG => ?_⟩
  by_cases hi : i < L.length
  · rw [List.getElem?_append_left hi] at hG
    have hG2 : (L ++ [E])[i]? = some G := by rw [List.getElem?_append_left hi]; exact hG
    have hc := sumC_le hG
    have hp := (a5 i G hG2).1.1
    have hsl := (a5 i G hG2).2
    rw [List.take_append_of_le_length (by omega)] at hsl
    refine ⟨(a5 i G hG2).1, ?_⟩
    rw [List.take_append_of_le_length (by omega)]
    refine sl_dif hsl hd (fun r _ _ => by unfold Wb; omega) (fun k hk => by unfold Wb; omega) (fun k hk => by unfold Wb; omega)
  · have hi2 := (List.getElem?_eq_some_iff.mp hG).1
    have hi3 : i = L.length := by simp at hi2; omega
    subst hi3
    rw [List.getElem?_append_right (Nat.le_refl _), Nat.sub_self] at hG
    cases hG
    refine ⟨hB, ?_⟩
    rw [List.take_append_of_le_length (Nat.le_refl _), List.take_length]
    exact h3
theorem i_swap (a b c : Nat) : nI (a + b) + (nI c - nI b) = nI (a + c) := by
  rw [← nI_add, ← nI_add, Int32.add_assoc, Int32.add_comm (nI b), Int32.sub_add_cancel]
theorem wr_lt {C T : List Nat} {n : Nat} (h1 : ∀ b ∈ C, b < 256) (h2 : ∀ b ∈ T, b < 256) : ∀ b ∈ wrC C n T, b < 256 := by
  intro b hb
  unfold wrC at hb
  rcases List.mem_append.mp hb with z | z
  · rcases List.mem_append.mp z with y | y
    · exact h1 b (List.mem_of_mem_take y)
    · exact h2 b y
  · exact h1 b (List.mem_of_mem_drop z)
variable {am : Nat → Nat} {A A1 : mA} {F F1 : mF} {g : g_H} {R T : List Nat} {S M Rs : List Ent} {Hs : List Ses} {O N : List Ent} {cp : Option (List Nat)} {st tv : Int32} {op nX : Nat}
variable {l : Launch} {D : va_G} {aC : Nat → ClassId}
set_option maxHeartbeats 2000000 in
theorem c_M_change (hfl : l.flags = pinnedFlags ++ [noTraceFlag]) (h : mg am A F g) (r : mR A F R T S M Rs Hs O N cp st tv op nX) {P : List Nat} (hb : ib (A 12) P) (hl : P.length ≤ 400) {i len fr : Nat} {E : Ent} (hE : S[i]? = some E) (hfr : fr ≤ (eC E).length) (hlen : len ≤ (wrC (eC E) fr P).length) (hsum : sumC S - (eC E).length + (wrC (eC E) fr P).length ≤ 8000) : k_CT l D aC n_M_change 0 0 [.ref (am 0), .int (nI i), .int (nI len), .int (nI fr), .int (nI P.length)] g (fun oc g1 => oc = .inl none ∧ fx (UU am) g g1 ∧ ∃ A1, mg am A1 F g1 ∧ mR A1 F R T (S.set i (E.1, E.2.1, E.2.2.1, E.2.2.2.1, (wrC (eC E) fr P).take len)) M Rs Hs O N cp st tv op nX) := by
  have hT0 := r.2.2.2.1
  have hl2 := hT0.2.2.1
  have hsm := hT0.2.2.2.1
  have hi := (List.getElem?_eq_some_iff.mp hE).1
  obtain ⟨hB, hS8⟩ := hT0.2.2.2.2 i E hE
  have hcl := sumC_le hE
  have hwl := wrC_len (T := P) hfr
  have hwb := wr_lt (n := fr) hB.2.2 hb.2
  generalize hWv : wrC (eC E) fr P = W at *
  generalize hEv : ((E.1, E.2.1, E.2.2.1, E.2.2.2.1, W.take len) : Ent) = E1
  have hEc : eC E1 = W.take len := by rw [← hEv]
  have hEl : (eC E1).length = len := by rw [hEc, List.length_take]; omega
  have hss := sumC_set (E := E1) hE
  generalize hcv : sumC (S.take i) = c at *
  have hss8 : sumC (S.set i E1) ≤ 8000 := by omega
  refine k_while hfl n_M_change ok_M_change rfl rfl rfl rfl rfl rfl (fun h => by cases h) (Nat.le_of_ble_eq_true rfl) [8, 59] (fun pc d lv g1 k0 n0 => (∃ j A1, pc = 8 ∧ d = 1000 * (S.length - j) + 500 ∧ lv = [(0, .ref (am 0)), (1, .int (nI i)), (2, .int (nI len)), (3, .int (nI fr)), (4, .int (nI P.length)), (5, .int (nI j))] ∧ k0 = 0 ∧ n0 = 0 ∧ fx (UU am) g g1 ∧ mg am A1 F g1 ∧ dif A A1 (Wt 5) ∧ j ≤ S.length ∧ tm A1 5 ((S.set i E1).take j)) ∨ (∃ k A0 A1, pc = 59 ∧ d = 1000 * (S.length - i) + (P.length - k) ∧ lv = [(0, .ref (am 0)), (1, .int (nI i)), (2, .int (nI len)), (3, .int (nI fr)), (4, .int (nI P.length)), (5, .int (nI i)), (6, .int (nI (600 + i))), (7, .int (nI (40000 + c))), (8, .int (nI k))] ∧ k0 = 0 ∧ n0 = 0 ∧ fx (UU am) g g1 ∧ mg am A1 F g1 ∧ dif A A1 (Wt 5) ∧ tm A0 5 (S.take i ++ [E]) ∧ dif A0 A1 (fun r q => r = 10 ∧ 40000 + c + fr ≤ q ∧ q < 40000 + c + fr + P.length) ∧ k ≤ P.length ∧ ∀ q, q < k → A1 10 (40000 + c + fr + q) = nI (P.getD q 0))) 100 ?_ 100 ?_
  · conv => whnf
    refine ⟨⟨_, h.z⟩, (Nat.le_of_ble_eq_true rfl), _, _, _, c_M_empty hfl h (by decide), by first | omega | exact Nat.le_of_ble_eq_true rfl | (simp only [dl1, dl2, dl3, dl4, dl5, dl6]; omega), by first | omega | exact Nat.le_of_ble_eq_true rfl | (simp only [dl1, dl2, dl3, dl4, dl5, dl6]; omega), fun v g1 hh => ?_, fun C g1 hh => ?_⟩
    · obtain ⟨hv, hfx2, A1, h2, hd, ht5⟩ := hh
      cases hv
      conv => whnf
      exact ⟨rfl, _, _, Or.inl ⟨0, A1, rfl, rfl, rfl, rfl, rfl, hfx2, h2, hd, by omega, ht5⟩, rfl, rfl, rfl, rfl, rfl, rfl, trivial⟩
    · cases hh.1
  · rintro d pc lv g1 k0 n0 (⟨j, A1, rfl, rfl, rfl, rfl, rfl, hfx, h1, hd, hj, ht5⟩ | ⟨k, A0, A1, rfl, rfl, rfl, rfl, rfl, hfx, h1, hd, ht5, hd0, hk, hq⟩)
    · have hS0 : tm A1 0 S := tm_dif hT0 hd (by decide)
      conv => whnf
      refine ⟨_, _, h1.z, rfl, ?_⟩
      conv => whnf
      refine Or.inl ⟨1, _, _, 0, h1.a1, rfl, rfl, by omega, by first | decide | omega, ?_⟩
      rw [hS0.1]
      conv => whnf
      refine ⟨fun h6 => ?_, fun h6 => ?_⟩
      · have h7 := (q_ge (by omega) (by omega)).mp h6
        obtain rfl : j = S.length := by omega
        rw [List.take_of_length_le (by rw [List.length_set]; omega)] at ht5
        conv => whnf
        refine ⟨⟨_, h1.z⟩, (Nat.le_of_ble_eq_true rfl), _, _, _, c_M_copy hfl h1 (by decide) (by decide) (by decide) ht5, by first | omega | exact Nat.le_of_ble_eq_true rfl | (simp only [dl1, dl2, dl3, dl4, dl5, dl6]; omega), by first | omega | exact Nat.le_of_ble_eq_true rfl | (simp only [dl1, dl2, dl3, dl4, dl5, dl6]; omega), fun v g2 hh => ?_, fun C g2 hh => ?_⟩
        · obtain ⟨hv, hfx2, A2, h2, hd2, ht2⟩ := hh
          cases hv
          conv => whnf
          refine ⟨rfl, ⟨rfl, fx_tr hfx hfx2, A2, h2, mR_0 (mR_5 r hd) hd2 ht2⟩, by first | omega | exact Nat.le_of_ble_eq_true rfl | (simp only [dl1, dl2, dl3, dl4, dl5, dl6]; omega), by first | omega | exact Nat.le_of_ble_eq_true rfl | (simp only [dl1, dl2, dl3, dl4, dl5, dl6]; omega)⟩
        · cases hh.1
      · have h7 : j < S.length := Nat.lt_of_not_le fun z => h6 ((q_ge (by omega) (by omega)).mpr z)
        by_cases hji : j = i
        · subst hji
          rw [set_take] at ht5
          conv => whnf
          refine ⟨⟨_, h1.z⟩, (Nat.le_of_ble_eq_true rfl), _, _, _, c_M_append hfl h1 (by decide) (by decide) (by decide) hS0 ht5 hE (by rw [List.length_take]; omega) (by omega), by first | omega | exact Nat.le_of_ble_eq_true rfl | (simp only [dl1, dl2, dl3, dl4, dl5, dl6]; omega), by first | omega | exact Nat.le_of_ble_eq_true rfl | (simp only [dl1, dl2, dl3, dl4, dl5, dl6]; omega), fun v g2 hh => ?_, fun C g2 hh => ?_⟩
          · obtain ⟨hv, hfx2, A2, h2, hd2, ht2⟩ := hh
            cases hv
            have hlt : (S.take j).length = j := by rw [List.length_take]; omega
            have hent := ht2.2.2.2.2 j E (by rw [List.getElem?_append_right (by omega), hlt, Nat.sub_self]; rfl)
            rw [List.take_append_of_le_length (by omega), List.take_of_length_le (by omega), hcv] at hent
            conv => whnf
            refine ⟨fun _ => ?_, fun h => absurd rfl h⟩
            conv => whnf
            refine ⟨(Nat.le_of_ble_eq_true rfl), _, _, _, c_M_place hfl, by first | omega | exact Nat.le_of_ble_eq_true rfl | (simp only [dl1, dl2, dl3, dl4, dl5, dl6]; omega), by first | omega | exact Nat.le_of_ble_eq_true rfl | (simp only [dl1, dl2, dl3, dl4, dl5, dl6]; omega), k_rl ?_, k_rr⟩
            rw [show 120 * 5 + j = 600 + j by omega]
            conv => whnf
            refine ⟨_, _, h2.z, rfl, ?_⟩
            conv => whnf
            refine Or.inl ⟨1, _, _, 600 + j, h2.a7, rfl, rfl, by omega, by first | decide | omega, ?_⟩
            rw [show A2 7 (600 + j) = nI c from hent.2.2.2.2.2.1]
            conv => whnf
            rw [nI_add]
            conv => whnf
            refine ⟨rfl, _, _, ?_, Or.inr ⟨0, A2, A2, rfl, rfl, rfl, rfl, rfl, fx_tr hfx hfx2, h2, dif_tr hd hd2, ht2, dif_rf, by omega, fun q hq => by omega⟩, rfl, rfl, rfl, rfl, rfl, rfl, rfl, rfl, rfl, trivial⟩
            omega
          · cases hh.1
        · have hG := List.getElem?_eq_getElem h7
          have hG2 : (S.set i E1)[j]? = some S[j] := by rw [set_get hE, if_neg hji]; exact hG
          have hsl := sumC_le hG2
          conv => whnf
          refine ⟨⟨_, h1.z⟩, (Nat.le_of_ble_eq_true rfl), _, _, _, c_M_append hfl h1 (by decide) (by decide) (by decide) hS0 ht5 hG (by rw [List.length_take, List.length_set]; omega) (by omega), by first | omega | exact Nat.le_of_ble_eq_true rfl | (simp only [dl1, dl2, dl3, dl4, dl5, dl6]; omega), by first | omega | exact Nat.le_of_ble_eq_true rfl | (simp only [dl1, dl2, dl3, dl4, dl5, dl6]; omega), fun v g2 hh => ?_, fun C g2 hh => ?_⟩
          · obtain ⟨hv, hfx2, A2, h2, hd2, ht2⟩ := hh
            cases hv
            conv => whnf
            refine ⟨fun h => absurd h (fun z => hji ((q_eq (by omega) (by omega)).mp z)), fun _ => ?_⟩
            conv => whnf
            refine ⟨rfl, _, _, ?_, Or.inl ⟨j + 1, A2, rfl, rfl, rfl, rfl, rfl, fx_tr hfx hfx2, h2, dif_tr hd hd2, h7, ?_⟩, rfl, rfl, rfl, rfl, rfl, sI j, trivial⟩
            · omega
            · rw [take_s hG2]; exact ht2
          · cases hh.1
    · have hlt : (S.take i).length = i := by rw [List.length_take]; omega
      have hent := ht5.2.2.2.2 i E (by rw [List.getElem?_append_right (by omega), hlt, Nat.sub_self]; rfl)
      rw [List.take_append_of_le_length (by omega), List.take_of_length_le (by omega), hcv] at hent
      obtain ⟨-, s3, s4, s5, s6, s7, s8, s9, s10⟩ := hent
      have ed : ∀ r q, r ≠ 10 → A1 r q = A0 r q := fun r q hr => hd0 r q (fun z => hr z.1)
      conv => whnf
      refine ⟨fun h6 => ?_, fun h6 => ?_⟩
      · have h7 := (q_ge (by omega) (by omega)).mp h6
        have a2v : A1 2 5 = nI (c + (eC E).length) := by
          rw [ed 2 5 (by decide), ht5.2.1]
          congr 1
          rw [← hcv]; simp [sumC]
        have a1v : A1 1 5 = nI (i + 1) := by
          rw [ed 1 5 (by decide), ht5.1, List.length_append, hlt]; rfl
        conv => whnf
        refine ⟨_, _, h1.z, rfl, ?_⟩
        conv => whnf
        refine Or.inl ⟨1, _, _, 5, h1.a2, rfl, rfl, by omega, by first | decide | omega, ?_⟩
        rw [a2v]
        conv => whnf
        refine ⟨_, _, h1.z, rfl, ?_⟩
        conv => whnf
        refine Or.inl ⟨1, _, _, 600 + i, h1.a8, rfl, rfl, by omega, by first | decide | omega, ?_⟩
        rw [ed 8 _ (by decide), show A0 8 (600 + i) = nI (eC E).length from s8]
        conv => whnf
        refine ⟨1, _, _, 5, h1.a2, rfl, rfl, by omega, by first | decide | omega, ?_⟩
        rw [i_swap]
        have h2 := mg_up h1 (i := 2) (by decide) (by decide) (f := upd (A1 2) 5 (nI (c + len)))
        conv => whnf
        refine ⟨_, _, h2.z, rfl, ?_⟩
        conv => whnf
        refine ⟨1, _, _, 600 + i, h2.a8, rfl, rfl, by omega, by first | decide | omega, ?_⟩
        have h3 := mg_up h2 (i := 8) (by decide) (by decide) (f := upd (A1 8) (600 + i) (nI len))
        have hdf : dif A0 (uA (uA A1 2 (upd (A1 2) 5 (nI (c + len)))) 8 (upd (A1 8) (600 + i) (nI len))) (Wb (600 + i) 5 c) := dif_up (A1 := uA A1 2 (upd (A1 2) 5 (nI (c + len)))) (dif_up (dif_mono hd0 (fun r q z => by unfold Wb; omega)) (by unfold Wb; omega)) (by unfold Wb; omega)
        conv => whnf
        refine ⟨rfl, _, _, ?_, Or.inl ⟨i + 1, _, rfl, rfl, rfl, rfl, rfl, fx_up (fx_up hfx (iUU rfl)) (iUU rfl), h3, dif_up (A1 := uA A1 2 (upd (A1 2) 5 (nI (c + len)))) (dif_up hd (by unfold Wt; omega)) (by unfold Wt; omega), hi, ?_⟩, rfl, rfl, rfl, rfl, rfl, sI i, trivial⟩
        · omega
        · rw [take_s (show (S.set i E1)[i]? = some E1 by rw [set_get hE, if_pos rfl]), set_take]
          refine tm_re ht5 (by rw [hlt, hcv]; exact hdf) ⟨by rw [← hEv]; exact hB.1, by rw [← hEv]; exact hB.2.1, by rw [hEc]; exact fun b hb => hwb b (List.mem_of_mem_take hb)⟩ (by omega) ?_ ?_ ?_
          · rw [uA_n (by decide), uA_n (by decide), hlt]; exact a1v
          · rw [uA_n (by decide), uA_s, pk_us, hcv, hEl]
          · rw [hlt, hcv, ← hEv]
            refine ⟨?_, ?_, ?_, ?_, ?_, ?_, ?_, ?_⟩
            · rw [uA_n (by decide), uA_n (by decide)]; exact (ed _ _ (by decide)).trans s3
            · rw [uA_n (by decide), uA_n (by decide)]; exact (ed _ _ (by decide)).trans s4
            · rw [uA_n (by decide), uA_n (by decide)]; exact (ed _ _ (by decide)).trans s5
            · rw [uA_n (by decide), uA_n (by decide)]; exact (ed _ _ (by decide)).trans s6
            · rw [uA_n (by decide), uA_n (by decide)]; exact (ed _ _ (by decide)).trans s7
            · rw [uA_s, show 120 * 5 + i = 600 + i by omega, pk_us]; show nI len = nI (W.take len).length; rw [← hEc, hEl]
            · intro q hq2; rw [uA_n (by decide), uA_n (by decide)]; exact (ed _ _ (by decide)).trans (s9 q hq2)
            · intro q hq2
              have hq3 : q < len := by rw [← hEl, hEc]; exact hq2
              rw [uA_n (by decide), uA_n (by decide)]
              show A1 10 (8000 * 5 + c + q) = nI ((W.take len).getD q 0)
              rw [List.getD_eq_getElem?_getD, List.getElem?_take_of_lt hq3, ← List.getD_eq_getElem?_getD, ← hWv, wrC_at hfr]
              by_cases hin : fr ≤ q ∧ q < fr + P.length
              · rw [if_pos hin, show 8000 * 5 + c + q = 40000 + c + fr + (q - fr) by omega]
                exact hq (q - fr) (by omega)
              · rw [if_neg hin, hd0 10 _ (fun z => by omega)]
                exact s10 q (by omega)
      · have h7 : k < P.length := Nat.lt_of_not_le fun z => h6 ((q_ge (by omega) (by omega)).mpr z)
        have e12 : A1 12 = A 12 := hi_dif hd (by decide)
        conv => whnf
        refine ⟨_, _, h1.z, rfl, ?_⟩
        conv => whnf
        refine ⟨_, _, h1.z, rfl, ?_⟩
        conv => whnf
        refine Or.inl ⟨1, _, _, k, h1.a12, rfl, rfl, by omega, by first | decide | omega, ?_⟩
        rw [e12, hb.1 k h7]
        conv => whnf
        refine ⟨1, _, _, 40000 + c + fr + k, h1.a10, rfl, (by rw [nI_add, nI_add]), (by omega), by first | decide | omega, ?_⟩
        have h2 := mg_up h1 (i := 10) (by decide) (by decide) (f := upd (A1 10) (40000 + c + fr + k) (nI (P.getD k 0)))
        conv => whnf
        refine ⟨rfl, _, _, ?_, Or.inr ⟨k + 1, A0, _, rfl, rfl, rfl, rfl, rfl, fx_up hfx (iUU rfl), h2, dif_up hd (by unfold Wt; omega), ht5, dif_up hd0 (by omega), h7, fun q hq2 => ?_⟩, rfl, rfl, rfl, rfl, rfl, rfl, rfl, rfl, sI k, trivial⟩
        · omega
        · rw [uA_s]
          by_cases hqk : q = k
          · rw [hqk, pk_us]
          · rw [pk_un (by omega)]; exact hq q (by omega)
/-- what is chosen, by its path -/
theorem chR_at {ch : Int32} (hl : S.length ≤ 120) (hc : chR S ch cp) : (cp = none ∧ ch = -1 ∧ atI S ch = none) ∨ ∃ i E, cp = some E.1 ∧ S[i]? = some E ∧ ch = nI i ∧ atI S ch = some E ∧ i < S.length := by
  cases cp with
  | none =>
    have hc : ch = -1 := hc
    refine Or.inl ⟨rfl, hc, ?_⟩
    rw [hc]; rfl
  | some P =>
    obtain ⟨i, E, h1, h2, h3⟩ := hc
    have hi := (List.getElem?_eq_some_iff.mp h1).1
    exact Or.inr ⟨i, E, by rw [h2], h1, h3, by rw [h3, atI_nI (by omega)]; exact h1, hi⟩
theorem c_M_set_no (hfl : l.flags = pinnedFlags ++ [noTraceFlag]) (h : mg am A F g) (r : mR A F R T S M Rs Hs O N cp st tv op nX) (hS : srt S) {ch : Int32} (hc : chR S ch cp) (hs : st = nI 1 ∨ atI S ch = none) {m t : Int32} : k_CT l D aC n_M_set 0 0 [.ref (am 0), .int m, .int t] g (mO am g (.inl none) 2 R T S M Rs Hs O N cp st tv op nX) := by
  obtain ⟨⟨-, f2, -⟩, -, -, hT0, -, -, -, -, -, hcp⟩ := id r
  have hl2 := hT0.2.2.1
  have h1 := mg_z h (F1 := uF F 0 (nI 2))
  have hP : mO am g (.inl none) 2 R T S M Rs Hs O N cp st tv op nX (.inl none) (g_up g (am 0) (mo am (uF F 0 (nI 2)))) := ⟨rfl, fx_up fx_rf (iUU rfl), A, _, h1, uF_s, mR_z r⟩
  refine k_ln hfl n_M_set ok_M_set rfl rfl rfl rfl rfl rfl (fun h => by cases h) (Nat.le_of_ble_eq_true rfl) 60 ?_
  conv => whnf
  refine ⟨⟨_, h.z⟩, (Nat.le_of_ble_eq_true rfl), _, _, _, c_M_chosenAt hfl h hT0 hS hcp hc, by first | omega | exact Nat.le_of_ble_eq_true rfl | (simp only [dl1, dl2, dl3, dl4, dl5, dl6]; omega), by first | omega | exact Nat.le_of_ble_eq_true rfl | (simp only [dl1, dl2, dl3, dl4, dl5, dl6]; omega), k_rl ?_, k_rr⟩
  conv => whnf
  refine ⟨_, _, h.z, rfl, ?_⟩
  rw [f2]
  conv => whnf
  refine ⟨fun h5 => ?_, fun h5 => ?_⟩
  · conv => whnf
    refine ⟨_, h.z, by simp, rfl, rfl, ?_⟩
    conv => whnf
    refine ⟨_, _, h1.z, rfl, ?_⟩
    rw [show uF F 0 (nI 2) 0 = nI 2 from uF_s]
    conv => whnf
    refine ⟨fun h => absurd h (by simp only [w_cmp]; decide), fun _ => ?_⟩
    conv => whnf
    refine ⟨rfl, hP, by first | omega | exact Nat.le_of_ble_eq_true rfl | (simp only [dl1, dl2, dl3, dl4, dl5, dl6]; omega), by first | omega | exact Nat.le_of_ble_eq_true rfl | (simp only [dl1, dl2, dl3, dl4, dl5, dl6]; omega)⟩
  · rcases hs with z | z
    · exact absurd z h5
    · rcases chR_at hl2 hc with ⟨-, e1, -⟩ | ⟨i, E, -, -, -, e1, -⟩
      · rw [e1]
        conv => whnf
        refine ⟨fun h => absurd h (by simp only [w_cmp]; decide), fun _ => ?_⟩
        conv => whnf
        refine ⟨_, h.z, by simp, rfl, rfl, ?_⟩
        conv => whnf
        refine ⟨_, _, h1.z, rfl, ?_⟩
        rw [show uF F 0 (nI 2) 0 = nI 2 from uF_s]
        conv => whnf
        refine ⟨fun h => absurd h (by simp only [w_cmp]; decide), fun _ => ?_⟩
        conv => whnf
        refine ⟨rfl, hP, by first | omega | exact Nat.le_of_ble_eq_true rfl | (simp only [dl1, dl2, dl3, dl4, dl5, dl6]; omega), by first | omega | exact Nat.le_of_ble_eq_true rfl | (simp only [dl1, dl2, dl3, dl4, dl5, dl6]; omega)⟩
      · rw [z] at e1; cases e1
theorem c_M_set_bad (hfl : l.flags = pinnedFlags ++ [noTraceFlag]) (h : mg am A F g) (r : mR A F R T S M Rs Hs O N cp st tv op nX) (hS : srt S) {ch : Int32} (hc : chR S ch cp) (hs : st ≠ nI 1) {E : Ent} (hat : atI S ch = some E) {m t : Int32} (hb : (mdOk m && tmOk t) = false) : k_CT l D aC n_M_set 0 0 [.ref (am 0), .int m, .int t] g (mO am g (.inl none) 1 R T S M Rs Hs O N cp st tv op nX) := by
  obtain ⟨⟨-, f2, -⟩, -, -, hT0, -, -, -, -, -, hcp⟩ := id r
  have hl2 := hT0.2.2.1
  have h1 := mg_z h (F1 := uF F 0 (nI 1))
  have hP : mO am g (.inl none) 1 R T S M Rs Hs O N cp st tv op nX (.inl none) (g_up g (am 0) (mo am (uF F 0 (nI 1)))) := ⟨rfl, fx_up fx_rf (iUU rfl), A, _, h1, uF_s, mR_z r⟩
  rcases chR_at hl2 hc with ⟨-, -, e1⟩ | ⟨i, E0, -, e0, e1, -, hi⟩
  · rw [hat] at e1; cases e1
  · refine k_ln hfl n_M_set ok_M_set rfl rfl rfl rfl rfl rfl (fun h => by cases h) (Nat.le_of_ble_eq_true rfl) 60 ?_
    conv => whnf
    refine ⟨⟨_, h.z⟩, (Nat.le_of_ble_eq_true rfl), _, _, _, c_M_chosenAt hfl h hT0 hS hcp hc, by first | omega | exact Nat.le_of_ble_eq_true rfl | (simp only [dl1, dl2, dl3, dl4, dl5, dl6]; omega), by first | omega | exact Nat.le_of_ble_eq_true rfl | (simp only [dl1, dl2, dl3, dl4, dl5, dl6]; omega), k_rl ?_, k_rr⟩
    conv => whnf
    refine ⟨_, _, h.z, rfl, ?_⟩
    rw [f2, e1]
    conv => whnf
    refine ⟨fun h => absurd h hs, fun _ => ?_⟩
    conv => whnf
    refine ⟨fun _ => ?_, fun h => absurd (q_ge0 (by omega)) h⟩
    conv => whnf
    refine ⟨fun h5 => ?_, fun h5 => ?_⟩
    · conv => whnf
      refine ⟨_, h.z, by simp, rfl, rfl, ?_⟩
      conv => whnf
      refine ⟨_, _, h1.z, rfl, ?_⟩
      rw [show uF F 0 (nI 1) 0 = nI 1 from uF_s]
      conv => whnf
      refine ⟨fun h => absurd h (by simp only [w_cmp]; decide), fun _ => ?_⟩
      conv => whnf
      refine ⟨rfl, hP, by first | omega | exact Nat.le_of_ble_eq_true rfl | (simp only [dl1, dl2, dl3, dl4, dl5, dl6]; omega), by first | omega | exact Nat.le_of_ble_eq_true rfl | (simp only [dl1, dl2, dl3, dl4, dl5, dl6]; omega)⟩
    · have k1 : ¬ m.toInt < 0 := h5
      conv => whnf
      refine ⟨fun h5 => ?_, fun h5 => ?_⟩
      · conv => whnf
        refine ⟨_, h.z, by simp, rfl, rfl, ?_⟩
        conv => whnf
        refine ⟨_, _, h1.z, rfl, ?_⟩
        rw [show uF F 0 (nI 1) 0 = nI 1 from uF_s]
        conv => whnf
        refine ⟨fun h => absurd h (by simp only [w_cmp]; decide), fun _ => ?_⟩
        conv => whnf
        refine ⟨rfl, hP, by first | omega | exact Nat.le_of_ble_eq_true rfl | (simp only [dl1, dl2, dl3, dl4, dl5, dl6]; omega), by first | omega | exact Nat.le_of_ble_eq_true rfl | (simp only [dl1, dl2, dl3, dl4, dl5, dl6]; omega)⟩
      · have k2 : ¬ ((4095 : Nat) : Int) < m.toInt := fun z => h5 ((x_gt (by decide)).mpr z)
        conv => whnf
        refine ⟨fun h5 => ?_, fun h5 => ?_⟩
        · have k3 : 0 ≤ t.toInt := h5
          exfalso
          unfold mdOk tmOk at hb
          rw [decide_eq_true (⟨by omega, by omega⟩ : 0 ≤ m.toInt ∧ m.toInt ≤ 4095), decide_eq_true k3] at hb
          cases hb
        · conv => whnf
          refine ⟨_, h.z, by simp, rfl, rfl, ?_⟩
          conv => whnf
          refine ⟨_, _, h1.z, rfl, ?_⟩
          rw [show uF F 0 (nI 1) 0 = nI 1 from uF_s]
          conv => whnf
          refine ⟨fun h => absurd h (by simp only [w_cmp]; decide), fun _ => ?_⟩
          conv => whnf
          refine ⟨rfl, hP, by first | omega | exact Nat.le_of_ble_eq_true rfl | (simp only [dl1, dl2, dl3, dl4, dl5, dl6]; omega), by first | omega | exact Nat.le_of_ble_eq_true rfl | (simp only [dl1, dl2, dl3, dl4, dl5, dl6]; omega)⟩
theorem c_M_set (hfl : l.flags = pinnedFlags ++ [noTraceFlag]) (h : mg am A F g) (r : mR A F R T S M Rs Hs O N cp st tv op nX) (hS : srt S) {ch : Int32} (hc : chR S ch cp) (hs : st ≠ nI 1) {E : Ent} {i : Nat} (hat : S[i]? = some E) (hi0 : ch = nI i) {m t : Int32} (hb : (mdOk m && tmOk t) = true) : k_CT l D aC n_M_set 0 0 [.ref (am 0), .int m, .int t] g (mO am g (.inl none) 0 R T (S.set i (E.1, E.2.1, m, t, eC E)) M Rs Hs O N cp st tv op nX) := by
  obtain ⟨⟨-, f2, -⟩, -, -, hT0, -, -, -, -, -, hcp⟩ := id r
  have hl2 := hT0.2.2.1
  have hi := (List.getElem?_eq_some_iff.mp hat).1
  have h1 := mg_z h (F1 := uF F 0 (nI 0))
  rw [Bool.and_eq_true] at hb
  have b1 := of_decide_eq_true hb.1
  have b2' := of_decide_eq_true hb.2
  refine k_ln hfl n_M_set ok_M_set rfl rfl rfl rfl rfl rfl (fun h => by cases h) (Nat.le_of_ble_eq_true rfl) 100 ?_
  conv => whnf
  refine ⟨⟨_, h.z⟩, (Nat.le_of_ble_eq_true rfl), _, _, _, c_M_chosenAt hfl h hT0 hS hcp hc, by first | omega | exact Nat.le_of_ble_eq_true rfl | (simp only [dl1, dl2, dl3, dl4, dl5, dl6]; omega), by first | omega | exact Nat.le_of_ble_eq_true rfl | (simp only [dl1, dl2, dl3, dl4, dl5, dl6]; omega), k_rl ?_, k_rr⟩
  conv => whnf
  refine ⟨_, _, h.z, rfl, ?_⟩
  rw [f2, hi0]
  conv => whnf
  refine ⟨fun h => absurd h hs, fun _ => ?_⟩
  conv => whnf
  refine ⟨fun _ => ?_, fun h => absurd (q_ge0 (by omega)) h⟩
  conv => whnf
  refine ⟨fun h => absurd h (show ¬ m.toInt < 0 by omega), fun _ => ?_⟩
  conv => whnf
  refine ⟨fun h => absurd h (fun z => absurd ((x_gt (by decide)).mp z) (by omega)), fun _ => ?_⟩
  conv => whnf
  refine ⟨fun _ => ?_, fun h => absurd b2' h⟩
  conv => whnf
  refine ⟨_, h.z, by simp, rfl, rfl, ?_⟩
  conv => whnf
  refine ⟨_, _, h1.z, rfl, ?_⟩
  rw [show uF F 0 (nI 0) 0 = nI 0 from uF_s]
  conv => whnf
  refine ⟨fun _ => ?_, fun h => absurd (by simp only [w_cmp]; decide) h⟩
  conv => whnf
  refine ⟨_, _, h1.z, rfl, ?_⟩
  conv => whnf
  refine ⟨(Nat.le_of_ble_eq_true rfl), _, _, _, c_M_place hfl, by first | omega | exact Nat.le_of_ble_eq_true rfl | (simp only [dl1, dl2, dl3, dl4, dl5, dl6]; omega), by first | omega | exact Nat.le_of_ble_eq_true rfl | (simp only [dl1, dl2, dl3, dl4, dl5, dl6]; omega), k_rl ?_, k_rr⟩
  conv => whnf
  refine ⟨1, _, _, 120 * 0 + i, h1.a4, rfl, rfl, by omega, by first | decide | omega, ?_⟩
  have h2 := mg_up h1 (i := 4) (by decide) (by decide) (f := upd (A 4) (120 * 0 + i) m)
  conv => whnf
  refine ⟨_, _, h2.z, rfl, ?_⟩
  conv => whnf
  refine ⟨(Nat.le_of_ble_eq_true rfl), _, _, _, c_M_place hfl, by first | omega | exact Nat.le_of_ble_eq_true rfl | (simp only [dl1, dl2, dl3, dl4, dl5, dl6]; omega), by first | omega | exact Nat.le_of_ble_eq_true rfl | (simp only [dl1, dl2, dl3, dl4, dl5, dl6]; omega), k_rl ?_, k_rr⟩
  conv => whnf
  refine ⟨1, _, _, 120 * 0 + i, h2.a5, rfl, rfl, by omega, by first | decide | omega, ?_⟩
  have h3 := mg_up h2 (i := 5) (by decide) (by decide) (f := upd (A 5) (120 * 0 + i) t)
  conv => whnf
  refine ⟨rfl, ?_, by first | omega | exact Nat.le_of_ble_eq_true rfl | (simp only [dl1, dl2, dl3, dl4, dl5, dl6]; omega), by first | omega | exact Nat.le_of_ble_eq_true rfl | (simp only [dl1, dl2, dl3, dl4, dl5, dl6]; omega)⟩
  have hd : dif A (uA (uA A 4 (upd (A 4) (120 * 0 + i) m)) 5 (upd (A 5) (120 * 0 + i) t)) (fun r q => (r = 4 ∨ r = 5) ∧ q = i) := dif_up (A1 := uA A 4 (upd (A 4) (120 * 0 + i) m)) (dif_up dif_rf (by omega)) (by omega)
  have hsc : ∀ j, sumC ((S.set i (E.1, E.2.1, m, t, eC E)).take j) = sumC (S.take j) := by
    intro j
    unfold sumC
    rw [List.map_take, List.map_take, List.map_set]
    have : (S.map (fun E => (eC E).length)).set i (eC E).length = S.map (fun E => (eC E).length) := by
      apply List.ext_getElem?
      intro q
      rw [List.getElem?_set, List.getElem?_map, List.length_map, if_pos hi]
      split
      · rename_i hq; rw [← hq, hat]; rfl
      · rfl
    exact congrArg List.sum (congrArg (List.take j) this)
  refine ⟨rfl, fx_up (fx_up (fx_up fx_rf (iUU rfl)) (iUU rfl)) (iUU rfl), _, _, h3, uF_s, ?_⟩
  refine mR_0 (mR_z r) (dif_mono hd (fun r q z => by unfold Wt; omega)) ⟨?_, ?_, ?_, ?_, fun j G hG => ?_⟩
  · rw [List.length_set]; exact hT0.1
  · have := hsc (S.set i (E.1, E.2.1, m, t, eC E)).length
    rw [List.take_length, List.length_set, List.take_length] at this
    rw [this]; exact hT0.2.1
  · rw [List.length_set]; exact hl2
  · have := hsc (S.set i (E.1, E.2.1, m, t, eC E)).length
    rw [List.take_length, List.length_set, List.take_length] at this
    rw [this]; exact hT0.2.2.2.1
  · rw [hsc, set_get hat] at *
    by_cases hji : j = i
    · rw [if_pos hji] at hG
      cases hG
      subst hji
      obtain ⟨hB, s3, s4, s5, s6, s7, s8, s9, s10⟩ := hT0.2.2.2.2 j E hat
      refine ⟨hB, ?_, ?_, ?_, ?_, ?_, ?_, ?_, ?_⟩
      · rw [uA_n (by decide), uA_n (by decide)]; exact s3
      · rw [uA_n (by decide), uA_s, pk_us]
      · rw [uA_s, pk_us]
      · rw [uA_n (by decide), uA_n (by decide)]; exact s6
      · rw [uA_n (by decide), uA_n (by decide)]; exact s7
      · rw [uA_n (by decide), uA_n (by decide)]; exact s8
      · rw [uA_n (by decide), uA_n (by decide)]; exact s9
      · rw [uA_n (by decide), uA_n (by decide)]; exact s10
    · rw [if_neg hji] at hG
      obtain ⟨hB, hsl⟩ := hT0.2.2.2.2 j G hG
      exact ⟨hB, sl_dif hsl hd (fun r _ _ => by omega) (fun k hk => by omega) (fun k hk => by omega)⟩
end MCH
