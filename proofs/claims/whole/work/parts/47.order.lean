/-! MirrorKeepModel: copy, rank, order, find, isSame -/
section MORD
variable {am : Nat → Nat} {A : mA} {F : mF} {g : g_H}
variable {l : Launch} {D : va_G} {aC : Nat → ClassId}
theorem sumC_app (L M : List Ent) : sumC (L ++ M) = sumC L + sumC M := by simp [sumC]
theorem sumC_tk (L : List Ent) (i : Nat) : sumC (L.take i) ≤ sumC L := by
  have : sumC L = sumC (L.take i) + sumC (L.drop i) := by rw [← sumC_app, List.take_append_drop]
  omega
theorem c_M_copy (hfl : l.flags = pinnedFlags ++ [noTraceFlag]) (h : mg am A F g) {f t : Nat} {L : List Ent} (hf : f < 46) (ht : t < 46) (hft : f ≠ t) (hF : tm A f L) : k_CT l D aC n_M_copy 0 0 [.ref (am 0), .int (nI f), .int (nI t)] g (fun oc g1 => oc = .inl none ∧ fx (UU am) g g1 ∧ ∃ A1, mg am A1 F g1 ∧ dif A A1 (Wt t) ∧ tm A1 t L) := by
  refine k_while hfl n_M_copy ok_M_copy rfl rfl rfl rfl rfl rfl (fun h => by cases h) (Nat.le_of_ble_eq_true rfl) [7] (fun pc d lv g1 k n => ∃ i A1, pc = 7 ∧ d = L.length - i ∧ lv = [(0, .ref (am 0)), (1, .int (nI f)), (2, .int (nI t)), (3, .int (nI i))] ∧ k = 0 ∧ n = 0 ∧ i ≤ L.length ∧ fx (UU am) g g1 ∧ mg am A1 F g1 ∧ dif A A1 (Wt t) ∧ tm A1 t (L.take i)) 60 ?_ 80 ?_
  · conv => whnf
    refine ⟨⟨_, h.z⟩, (Nat.le_of_ble_eq_true rfl), _, _, _, c_M_empty hfl h ht, by first | omega | exact Nat.le_of_ble_eq_true rfl | (simp only [dl1, dl2, dl3, dl4, dl5, dl6]; omega), by first | omega | exact Nat.le_of_ble_eq_true rfl | (simp only [dl1, dl2, dl3, dl4, dl5, dl6]; omega), fun v g1 hh => ?_, fun C g1 hh => ?_⟩
    · obtain ⟨hv, hfx, A1, h1, hd, ht1⟩ := hh
      cases hv
      conv => whnf
      exact ⟨rfl, _, _, ⟨0, A1, rfl, rfl, rfl, rfl, rfl, by omega, hfx, h1, hd, ht1⟩, rfl, rfl, rfl, rfl, trivial⟩
    · cases hh.1
  · rintro d pc lv g1 k n ⟨i, A1, rfl, rfl, rfl, rfl, rfl, hi, hfx, h1, hd, ht1⟩
    have hF1 := tm_dif hF hd hft
    have hl := hF.2.2.1
    conv => whnf
    refine ⟨_, _, h1.z, rfl, ?_⟩
    conv => whnf
    refine Or.inl ⟨1, _, _, f, h1.a1, rfl, rfl, by omega, by first | decide | omega, ?_⟩
    rw [hF1.1]
    conv => whnf
    refine ⟨fun h5 => ?_, fun h5 => ?_⟩
    · have h9 := (q_ge (by omega) (by omega)).mp h5
      rw [List.take_of_length_le h9] at ht1
      conv => whnf
      refine ⟨rfl, ⟨rfl, hfx, A1, h1, hd, ht1⟩, by first | omega | exact Nat.le_of_ble_eq_true rfl | (simp only [dl1, dl2, dl3, dl4, dl5, dl6]; omega), by first | omega | exact Nat.le_of_ble_eq_true rfl | (simp only [dl1, dl2, dl3, dl4, dl5, dl6]; omega)⟩
    · have h9 : i < L.length := Nat.lt_of_not_le fun z => h5 ((q_ge (by omega) (by omega)).mpr z)
      have hE := List.getElem?_eq_getElem h9
      have hsum := hF.2.2.2.1
      have hle := sumC_le hE
      conv => whnf
      refine ⟨⟨_, h1.z⟩, (Nat.le_of_ble_eq_true rfl), _, _, _, c_M_append hfl h1 hf ht hft hF1 ht1 hE (by rw [List.length_take]; omega) (by omega), by first | omega | exact Nat.le_of_ble_eq_true rfl | (simp only [dl1, dl2, dl3, dl4, dl5, dl6]; omega), by first | omega | exact Nat.le_of_ble_eq_true rfl | (simp only [dl1, dl2, dl3, dl4, dl5, dl6]; omega), fun v g2 hh => ?_, fun C g2 hh => ?_⟩
      · obtain ⟨hv, hfx2, A2, h2, hd2, ht2⟩ := hh
        cases hv
        conv => whnf
        refine ⟨rfl, _, _, ?_, ⟨i + 1, A2, rfl, rfl, rfl, rfl, rfl, h9, fx_tr hfx hfx2, h2, dif_tr hd hd2, ?_⟩, rfl, rfl, rfl, sI i, trivial⟩
        · omega
        · rw [List.take_add_one, hE]; exact ht2
      · cases hh.1
/-- the path P lies in the array p from o on -/
def pa (g : g_H) (p o : Nat) (P : List Nat) : Prop := ∃ m f, g p = some (ac m f) ∧ o + P.length ≤ m ∧ m < 2 ^ 20 ∧ (∀ k, k < P.length → f (o + k) = nI (P.getD k 0)) ∧ ∀ b ∈ P, b < 256
theorem c_M_rank (hfl : l.flags = pinnedFlags ++ [noTraceFlag]) {p o n k : Nat} {P : List Nat} (hp : pa g p o P) (hn : n = P.length) (hk : k < 2 ^ 20) : k_CT l D aC n_M_rank 0 0 [.ref p, .int (nI o), .int (nI n), .int (nI k)] g (rt (some (.int (Int32.ofInt (rk P k + 1)))) g) := by
  subst hn
  obtain ⟨m, f, p1, p2, p3, p4, p5⟩ := hp
  refine k_ln hfl n_M_rank ok_M_rank rfl rfl rfl rfl rfl rfl (fun h => by cases h) (Nat.le_of_ble_eq_true rfl) 60 ?_
  conv => whnf
  refine ⟨fun h5 => ?_, fun h5 => ?_⟩
  · have h9 := (q_lt (by omega) (by omega)).mp h5
    have hb := getD_lt p5 h9
    conv => whnf
    refine Or.inl ⟨1, _, _, o + k, p1, rfl, (nI_add o k), (by omega), by first | decide | omega, ?_⟩
    rw [p4 k h9]
    conv => whnf
    refine ⟨fun h6 => ?_, fun h6 => ?_⟩
    · have h7 := (q_ne (by omega) (by decide)).mp h6
      conv => whnf
      refine Or.inl ⟨1, _, _, o + k, p1, rfl, (nI_add o k), (by omega), by first | decide | omega, ?_⟩
      rw [p4 k h9]
      conv => whnf
      refine ⟨⟨_, rfl, rfl⟩, ⟨?_, rfl⟩, by first | omega | exact Nat.le_of_ble_eq_true rfl | (simp only [dl1, dl2, dl3, dl4, dl5, dl6]; omega), by first | omega | exact Nat.le_of_ble_eq_true rfl | (simp only [dl1, dl2, dl3, dl4, dl5, dl6]; omega)⟩
      rw [rk, if_pos h9, rkb, if_neg h7]
      exact congrArg (fun z => Sum.inl (some (Value.int z))) (nI_add _ 1)
    · have h7 : P.getD k 0 = 47 := Classical.not_not.mp fun z => h6 ((q_ne (by omega) (by decide)).mpr z)
      conv => whnf
      refine ⟨⟨_, rfl, rfl⟩, ⟨?_, rfl⟩, by first | omega | exact Nat.le_of_ble_eq_true rfl | (simp only [dl1, dl2, dl3, dl4, dl5, dl6]; omega), by first | omega | exact Nat.le_of_ble_eq_true rfl | (simp only [dl1, dl2, dl3, dl4, dl5, dl6]; omega)⟩
      rw [rk, if_pos h9, rkb, if_pos h7]
      rfl
  · have h9 : ¬ k < P.length := fun z => h5 ((q_lt (by omega) (by omega)).mpr z)
    conv => whnf
    refine ⟨⟨_, rfl, rfl⟩, ⟨?_, rfl⟩, by first | omega | exact Nat.le_of_ble_eq_true rfl | (simp only [dl1, dl2, dl3, dl4, dl5, dl6]; omega), by first | omega | exact Nat.le_of_ble_eq_true rfl | (simp only [dl1, dl2, dl3, dl4, dl5, dl6]; omega)⟩
    rw [rk, if_neg h9]
    rfl
theorem ord_end {L1 L2 : List Nat} {k : Nat} (h1 : k ≤ L1.length) (h2 : k ≤ L2.length) (hj : ∀ j, j < k → L1.getD j 0 = L2.getD j 0) (hn : ¬ (k < L1.length ∧ k < L2.length ∧ L1.getD k 0 = L2.getD k 0)) : cmpP L1 L2 = rk L1 k - rk L2 k := by
  have hr : ∀ j, j < k → rk L1 j = rk L2 j := fun j hj1 => by rw [rk, rk, if_pos (by omega), if_pos (by omega), hj j hj1]
  by_cases he : rk L1 k = rk L2 k
  · rw [he, Int.sub_self]
    have hl : L1.length = L2.length := by
      by_cases a : k < L1.length
      · by_cases b : k < L2.length
        · rw [rk, rk, if_pos a, if_pos b] at he
          exact absurd ⟨a, b, rkb_inj he⟩ hn
        · rw [rk, rk, if_pos a, if_neg b] at he
          have := rkb_ge (L1.getD k 0)
          omega
      · by_cases b : k < L2.length
        · rw [rk, rk, if_neg a, if_pos b] at he
          have := rkb_ge (L2.getD k 0)
          omega
        · omega
    refine cmpP_0 (fun j => ?_)
    by_cases hjk : j < k
    · exact hr j hjk
    · by_cases a : k < L1.length
      · rw [rk, rk, if_pos a, if_pos (by omega)] at he
        exact absurd ⟨a, by omega, rkb_inj he⟩ hn
      · rw [rk, rk, if_neg (by omega), if_neg (by omega)]
  · exact cmpP_at hr he
theorem c_M_order (hfl : l.flags = pinnedFlags ++ [noTraceFlag]) {p o n q r m : Nat} {P Q : List Nat} (hp : pa g p o P) (hq : pa g q r Q) (hn : n = P.length) (hm : m = Q.length) : k_CT l D aC n_M_order 0 0 [.ref p, .int (nI o), .int (nI n), .ref q, .int (nI r), .int (nI m)] g (rt (some (.int (Int32.ofInt (cmpP P Q)))) g) := by
  obtain ⟨m1, f, p1, p2, p3, p4, p5⟩ := id hp
  obtain ⟨m2, f2, q1, q2, q3, q4, q5⟩ := id hq
  subst hn hm
  refine k_while hfl n_M_order ok_M_order rfl rfl rfl rfl rfl rfl (fun h => by cases h) (Nat.le_of_ble_eq_true rfl) [3] (fun pc d lv g1 k0 n0 => ∃ k, pc = 3 ∧ d = P.length - k ∧ lv = [(0, .ref p), (1, .int (nI o)), (2, .int (nI P.length)), (3, .ref q), (4, .int (nI r)), (5, .int (nI Q.length)), (6, .int (nI k))] ∧ g1 = g ∧ k0 = 0 ∧ n0 = 0 ∧ k ≤ P.length ∧ k ≤ Q.length ∧ ∀ j, j < k → P.getD j 0 = Q.getD j 0) 60 ?_ 80 ?_
  · conv => whnf
    exact ⟨rfl, _, _, ⟨0, rfl, rfl, rfl, rfl, rfl, rfl, by omega, by omega, fun j hj => by omega⟩, rfl, rfl, rfl, rfl, rfl, rfl, rfl, trivial⟩
  · rintro d pc lv g1 k0 n0 ⟨k, rfl, rfl, rfl, rfl, rfl, rfl, hk1, hk2, hj⟩
    conv => whnf
    refine ⟨fun h5 => ?_, fun h5 => ?_⟩
    · have h9 := (q_ge (by omega) (by omega)).mp h5
      conv => whnf
      refine ⟨(Nat.le_of_ble_eq_true rfl), _, _, _, c_M_rank hfl hp rfl (by omega), by first | omega | exact Nat.le_of_ble_eq_true rfl | (simp only [dl1, dl2, dl3, dl4, dl5, dl6]; omega), by first | omega | exact Nat.le_of_ble_eq_true rfl | (simp only [dl1, dl2, dl3, dl4, dl5, dl6]; omega), k_rl ?_, k_rr⟩
      conv => whnf
      refine ⟨(Nat.le_of_ble_eq_true rfl), _, _, _, c_M_rank hfl hq rfl (by omega), by first | omega | exact Nat.le_of_ble_eq_true rfl | (simp only [dl1, dl2, dl3, dl4, dl5, dl6]; omega), by first | omega | exact Nat.le_of_ble_eq_true rfl | (simp only [dl1, dl2, dl3, dl4, dl5, dl6]; omega), k_rl ?_, k_rr⟩
      conv => whnf
      refine ⟨⟨_, rfl, rfl⟩, ⟨?_, rfl⟩, by first | omega | exact Nat.le_of_ble_eq_true rfl | (simp only [dl1, dl2, dl3, dl4, dl5, dl6]; omega), by first | omega | exact Nat.le_of_ble_eq_true rfl | (simp only [dl1, dl2, dl3, dl4, dl5, dl6]; omega)⟩
      rw [ord_end hk1 hk2 hj (by omega)]
      have e0 : rk P k - rk Q k = (rk P k + 1) - (rk Q k + 1) := by omega
      rw [e0, ← ofInt_sub]
    · have h9 : k < P.length := Nat.lt_of_not_le fun z => h5 ((q_ge (by omega) (by omega)).mpr z)
      conv => whnf
      refine ⟨fun h6 => ?_, fun h6 => ?_⟩
      · have h8 := (q_ge (by omega) (by omega)).mp h6
        conv => whnf
        refine ⟨(Nat.le_of_ble_eq_true rfl), _, _, _, c_M_rank hfl hp rfl (by omega), by first | omega | exact Nat.le_of_ble_eq_true rfl | (simp only [dl1, dl2, dl3, dl4, dl5, dl6]; omega), by first | omega | exact Nat.le_of_ble_eq_true rfl | (simp only [dl1, dl2, dl3, dl4, dl5, dl6]; omega), k_rl ?_, k_rr⟩
        conv => whnf
        refine ⟨(Nat.le_of_ble_eq_true rfl), _, _, _, c_M_rank hfl hq rfl (by omega), by first | omega | exact Nat.le_of_ble_eq_true rfl | (simp only [dl1, dl2, dl3, dl4, dl5, dl6]; omega), by first | omega | exact Nat.le_of_ble_eq_true rfl | (simp only [dl1, dl2, dl3, dl4, dl5, dl6]; omega), k_rl ?_, k_rr⟩
        conv => whnf
        refine ⟨⟨_, rfl, rfl⟩, ⟨?_, rfl⟩, by first | omega | exact Nat.le_of_ble_eq_true rfl | (simp only [dl1, dl2, dl3, dl4, dl5, dl6]; omega), by first | omega | exact Nat.le_of_ble_eq_true rfl | (simp only [dl1, dl2, dl3, dl4, dl5, dl6]; omega)⟩
        rw [ord_end hk1 hk2 hj (by omega)]
        have e0 : rk P k - rk Q k = (rk P k + 1) - (rk Q k + 1) := by omega
        rw [e0, ← ofInt_sub]
      · have h8 : k < Q.length := Nat.lt_of_not_le fun z => h6 ((q_ge (by omega) (by omega)).mpr z)
        have b1 := getD_lt p5 h9
        have b2' := getD_lt q5 h8
        conv => whnf
        refine Or.inl ⟨1, _, _, o + k, p1, rfl, (nI_add o k), (by omega), by first | decide | omega, ?_⟩
        rw [p4 k h9]
        conv => whnf
        refine Or.inl ⟨1, _, _, r + k, q1, rfl, (nI_add r k), (by omega), by first | decide | omega, ?_⟩
        rw [q4 k h8]
        conv => whnf
        refine ⟨fun h7 => ?_, fun h7 => ?_⟩
        · have hne := (q_ne (by omega) (by omega)).mp h7
          conv => whnf
          refine ⟨(Nat.le_of_ble_eq_true rfl), _, _, _, c_M_rank hfl hp rfl (by omega), by first | omega | exact Nat.le_of_ble_eq_true rfl | (simp only [dl1, dl2, dl3, dl4, dl5, dl6]; omega), by first | omega | exact Nat.le_of_ble_eq_true rfl | (simp only [dl1, dl2, dl3, dl4, dl5, dl6]; omega), k_rl ?_, k_rr⟩
          conv => whnf
          refine ⟨(Nat.le_of_ble_eq_true rfl), _, _, _, c_M_rank hfl hq rfl (by omega), by first | omega | exact Nat.le_of_ble_eq_true rfl | (simp only [dl1, dl2, dl3, dl4, dl5, dl6]; omega), by first | omega | exact Nat.le_of_ble_eq_true rfl | (simp only [dl1, dl2, dl3, dl4, dl5, dl6]; omega), k_rl ?_, k_rr⟩
          conv => whnf
          refine ⟨⟨_, rfl, rfl⟩, ⟨?_, rfl⟩, by first | omega | exact Nat.le_of_ble_eq_true rfl | (simp only [dl1, dl2, dl3, dl4, dl5, dl6]; omega), by first | omega | exact Nat.le_of_ble_eq_true rfl | (simp only [dl1, dl2, dl3, dl4, dl5, dl6]; omega)⟩
          rw [ord_end hk1 hk2 hj (fun z => hne z.2.2)]
          have e0 : rk P k - rk Q k = (rk P k + 1) - (rk Q k + 1) := by omega
          rw [e0, ← ofInt_sub]
        · have heq : P.getD k 0 = Q.getD k 0 := Classical.not_not.mp fun z => h7 ((q_ne (by omega) (by omega)).mpr z)
          conv => whnf
          exact ⟨rfl, _, _, by omega, ⟨k + 1, rfl, rfl, rfl, rfl, rfl, rfl, h9, h8, fun j hj1 => by
            by_cases h3 : j = k
            · rw [h3]; exact heq
            · exact hj j (by omega)⟩, rfl, rfl, rfl, rfl, rfl, rfl, sI k, trivial⟩
theorem pa_tm (h : mg am A F g) {t i : Nat} {L : List Ent} {E : Ent} (ht : t < 46) (hT : tm A t L) (hE : L[i]? = some E) : pa g (am 9) (150 * (120 * t + i)) E.1 := by
  obtain ⟨hB, hS⟩ := hT.2.2.2.2 i E hE
  have hi := (List.getElem?_eq_some_iff.mp hE).1
  have hl := hT.2.2.1
  have hp := hB.1
  exact ⟨828000, A 9, h.a9, by omega, by decide, hS.2.2.2.2.2.2.1, hB.2.1⟩
theorem ent_p {t i : Nat} {L : List Ent} {E : Ent} (hT : tm A t L) (hE : L[i]? = some E) : A 6 (120 * t + i) = nI E.1.length := (hT.2.2.2.2 i E hE).2.2.2.2.1
theorem c_M_orderOf (hfl : l.flags = pinnedFlags ++ [noTraceFlag]) (h : mg am A F g) {s i t j : Nat} {L M : List Ent} {E G : Ent} (hs : s < 46) (ht : t < 46) (hL : tm A s L) (hM : tm A t M) (hE : L[i]? = some E) (hG : M[j]? = some G) : k_CT l D aC n_M_orderOf 0 0 [.ref (am 0), .int (nI s), .int (nI i), .int (nI t), .int (nI j)] g (rt (some (.int (Int32.ofInt (cmpP E.1 G.1)))) g) := by
  have hi := (List.getElem?_eq_some_iff.mp hE).1
  have hj := (List.getElem?_eq_some_iff.mp hG).1
  have hl1 := hL.2.2.1
  have hl2 := hM.2.2.1
  have hc := c_M_order (l := l) (D := D) (aC := aC) hfl (pa_tm h hs hL hE) (pa_tm h ht hM hG) rfl rfl
  refine k_ln hfl n_M_orderOf ok_M_orderOf rfl rfl rfl rfl rfl rfl (fun h => by cases h) (Nat.le_of_ble_eq_true rfl) 60 ?_
  conv => whnf
  refine ⟨_, _, h.z, rfl, ?_⟩
  conv => whnf
  refine ⟨(Nat.le_of_ble_eq_true rfl), _, _, _, c_M_place hfl, by first | omega | exact Nat.le_of_ble_eq_true rfl | (simp only [dl1, dl2, dl3, dl4, dl5, dl6]; omega), by first | omega | exact Nat.le_of_ble_eq_true rfl | (simp only [dl1, dl2, dl3, dl4, dl5, dl6]; omega), k_rl ?_, k_rr⟩
  conv => whnf
  refine ⟨_, _, h.z, rfl, ?_⟩
  conv => whnf
  refine ⟨(Nat.le_of_ble_eq_true rfl), _, _, _, c_M_place hfl, by first | omega | exact Nat.le_of_ble_eq_true rfl | (simp only [dl1, dl2, dl3, dl4, dl5, dl6]; omega), by first | omega | exact Nat.le_of_ble_eq_true rfl | (simp only [dl1, dl2, dl3, dl4, dl5, dl6]; omega), k_rl ?_, k_rr⟩
  conv => whnf
  refine Or.inl ⟨1, _, _, 120 * s + i, h.a6, rfl, rfl, by omega, by first | decide | omega, ?_⟩
  rw [ent_p hL hE]
  conv => whnf
  refine ⟨_, _, h.z, rfl, ?_⟩
  conv => whnf
  refine ⟨(Nat.le_of_ble_eq_true rfl), _, _, _, c_M_place hfl, by first | omega | exact Nat.le_of_ble_eq_true rfl | (simp only [dl1, dl2, dl3, dl4, dl5, dl6]; omega), by first | omega | exact Nat.le_of_ble_eq_true rfl | (simp only [dl1, dl2, dl3, dl4, dl5, dl6]; omega), k_rl ?_, k_rr⟩
  conv => whnf
  refine ⟨_, _, h.z, rfl, ?_⟩
  conv => whnf
  refine ⟨(Nat.le_of_ble_eq_true rfl), _, _, _, c_M_place hfl, by first | omega | exact Nat.le_of_ble_eq_true rfl | (simp only [dl1, dl2, dl3, dl4, dl5, dl6]; omega), by first | omega | exact Nat.le_of_ble_eq_true rfl | (simp only [dl1, dl2, dl3, dl4, dl5, dl6]; omega), k_rl ?_, k_rr⟩
  conv => whnf
  refine Or.inl ⟨1, _, _, 120 * t + j, h.a6, rfl, rfl, by omega, by first | decide | omega, ?_⟩
  rw [ent_p hM hG]
  rw [← pk_mul, ← pk_mul] at hc
  conv => whnf
  refine ⟨(Nat.le_of_ble_eq_true rfl), _, _, _, hc, by first | omega | exact Nat.le_of_ble_eq_true rfl | (simp only [dl1, dl2, dl3, dl4, dl5, dl6]; omega), by first | omega | exact Nat.le_of_ble_eq_true rfl | (simp only [dl1, dl2, dl3, dl4, dl5, dl6]; omega), k_rl ?_, k_rr⟩
  conv => whnf
  refine ⟨⟨_, rfl, rfl⟩, ⟨rfl, rfl⟩, by first | omega | exact Nat.le_of_ble_eq_true rfl | (simp only [dl1, dl2, dl3, dl4, dl5, dl6]; omega), by first | omega | exact Nat.le_of_ble_eq_true rfl | (simp only [dl1, dl2, dl3, dl4, dl5, dl6]; omega)⟩
/-- the last of the first n places that has this path -/
def fnd (L : List Ent) (P : List Nat) : Nat → Option Nat
  | 0 => none
  | n + 1 => if ∃ E, L[n]? = some E ∧ cmpP E.1 P = 0 then some n else fnd L P n
theorem fnd_lt {L : List Ent} {P : List Nat} : ∀ {c n : Nat}, fnd L P c = some n → n < c
  | 0, n, h => by cases h
  | c + 1, n, h => by
    unfold fnd at h
    split at h
    · cases h; omega
    · have := fnd_lt h; omega
theorem c_M_find (hfl : l.flags = pinnedFlags ++ [noTraceFlag]) (h : mg am A F g) {t p n : Nat} {L : List Ent} {P : List Nat} (ht : t < 46) (hT : tm A t L) (hp : pa g p 0 P) (hn : n = P.length) : k_CT l D aC n_M_find 0 0 [.ref (am 0), .int (nI t), .ref p, .int (nI n)] g (rt (some (.int (slI (fnd L P L.length)))) g) := by
  subst hn
  have hl := hT.2.2.1
  obtain ⟨m1, f, p1, p2, p3, p4, p5⟩ := id hp
  refine k_while hfl n_M_find ok_M_find rfl rfl rfl rfl rfl rfl (fun h => by cases h) (Nat.le_of_ble_eq_true rfl) [6] (fun pc d lv g1 k0 n0 => ∃ i, pc = 6 ∧ d = L.length - i ∧ lv = [(0, .ref (am 0)), (1, .int (nI t)), (2, .ref p), (3, .int (nI P.length)), (4, .int (slI (fnd L P i))), (5, .int (nI i))] ∧ g1 = g ∧ k0 = 0 ∧ n0 = 0 ∧ i ≤ L.length) 60 ?_ 80 ?_
  · conv => whnf
    exact ⟨rfl, _, _, ⟨0, rfl, rfl, rfl, rfl, rfl, rfl, by omega⟩, rfl, rfl, rfl, rfl, rfl, rfl, trivial⟩
  · rintro d pc lv g1 k0 n0 ⟨i, rfl, rfl, rfl, rfl, rfl, rfl, hi⟩
    conv => whnf
    refine ⟨_, _, h.z, rfl, ?_⟩
    conv => whnf
    refine Or.inl ⟨1, _, _, t, h.a1, rfl, rfl, by omega, by first | decide | omega, ?_⟩
    rw [hT.1]
    conv => whnf
    refine ⟨fun h5 => ?_, fun h5 => ?_⟩
    · have h9 := (q_ge (by omega) (by omega)).mp h5
      obtain rfl : i = L.length := by omega
      conv => whnf
      refine ⟨⟨_, rfl, rfl⟩, ⟨rfl, rfl⟩, by first | omega | exact Nat.le_of_ble_eq_true rfl | (simp only [dl1, dl2, dl3, dl4, dl5, dl6]; omega), by first | omega | exact Nat.le_of_ble_eq_true rfl | (simp only [dl1, dl2, dl3, dl4, dl5, dl6]; omega)⟩
    · have h9 : i < L.length := Nat.lt_of_not_le fun z => h5 ((q_ge (by omega) (by omega)).mpr z)
      have hE := List.getElem?_eq_getElem h9
      have hpa := pa_tm h ht hT hE
      have hc := c_M_order (l := l) (D := D) (aC := aC) hfl hpa hp rfl rfl
      rw [← pk_mul] at hc
      have hb := cmpP_bound (hT.2.2.2.2 i _ hE).1.2.1 p5
      conv => whnf
      refine ⟨_, _, h.z, rfl, ?_⟩
      conv => whnf
      refine ⟨(Nat.le_of_ble_eq_true rfl), _, _, _, c_M_place hfl, by first | omega | exact Nat.le_of_ble_eq_true rfl | (simp only [dl1, dl2, dl3, dl4, dl5, dl6]; omega), by first | omega | exact Nat.le_of_ble_eq_true rfl | (simp only [dl1, dl2, dl3, dl4, dl5, dl6]; omega), k_rl ?_, k_rr⟩
      conv => whnf
      refine ⟨_, _, h.z, rfl, ?_⟩
      conv => whnf
      refine ⟨(Nat.le_of_ble_eq_true rfl), _, _, _, c_M_place hfl, by first | omega | exact Nat.le_of_ble_eq_true rfl | (simp only [dl1, dl2, dl3, dl4, dl5, dl6]; omega), by first | omega | exact Nat.le_of_ble_eq_true rfl | (simp only [dl1, dl2, dl3, dl4, dl5, dl6]; omega), k_rl ?_, k_rr⟩
      conv => whnf
      refine Or.inl ⟨1, _, _, 120 * t + i, h.a6, rfl, rfl, by omega, by first | decide | omega, ?_⟩
      rw [ent_p hT hE]
      conv => whnf
      refine ⟨(Nat.le_of_ble_eq_true rfl), _, _, _, hc, by first | omega | exact Nat.le_of_ble_eq_true rfl | (simp only [dl1, dl2, dl3, dl4, dl5, dl6]; omega), by first | omega | exact Nat.le_of_ble_eq_true rfl | (simp only [dl1, dl2, dl3, dl4, dl5, dl6]; omega), k_rl ?_, k_rr⟩
      conv => whnf
      refine ⟨fun h6 => ?_, fun h6 => ?_⟩
      · have h7 := (cmp_ne0 hb.1 hb.2).mp h6
        conv => whnf
        exact ⟨rfl, _, _, by omega, ⟨i + 1, rfl, rfl, rfl, rfl, rfl, rfl, h9⟩, rfl, rfl, rfl, rfl, by
          rw [fnd, if_neg]
          · rfl
          · rintro ⟨E, hE1, h0⟩
            rw [hE] at hE1
            cases hE1
            exact h7 h0, sI i, trivial⟩
      · have h7 : cmpP L[i].1 P = 0 := Classical.not_not.mp fun z => h6 ((cmp_ne0 hb.1 hb.2).mpr z)
        conv => whnf
        exact ⟨rfl, _, _, by omega, ⟨i + 1, rfl, rfl, rfl, rfl, rfl, rfl, h9⟩, rfl, rfl, rfl, rfl, by
          rw [fnd, if_pos ⟨_, hE, h7⟩]
          rfl, sI i, trivial⟩
theorem lkE_no {E G : Ent} (h : ¬ (E.2.1 = G.2.1 ∧ E.2.2.1 = G.2.2.1 ∧ E.2.2.2.1 = G.2.2.2.1 ∧ eC E = eC G)) : lkE E G = false := decide_eq_false h
set_option maxHeartbeats 1000000 in
theorem c_M_isSame (hfl : l.flags = pinnedFlags ++ [noTraceFlag]) (h : mg am A F g) {s i t j : Nat} {L M : List Ent} {E G : Ent} (hs : s < 46) (ht : t < 46) (hL : tm A s L) (hM : tm A t M) (hE : L[i]? = some E) (hG : M[j]? = some G) : k_CT l D aC n_M_isSame 0 0 [.ref (am 0), .int (nI s), .int (nI i), .int (nI t), .int (nI j)] g (rt (some (.int (b2 (lkE E G)))) g) := by
  have hi := (List.getElem?_eq_some_iff.mp hE).1
  have hj := (List.getElem?_eq_some_iff.mp hG).1
  have hl1 := hL.2.2.1
  have hl2 := hM.2.2.1
  have hc1 := sumC_le hE
  have hc2 := sumC_le hG
  have hm1 := hL.2.2.2.1
  have hm2 := hM.2.2.2.1
  obtain ⟨hB1, s1, s2, s3, s4, s5, s6, s7, s8⟩ := hL.2.2.2.2 i E hE
  obtain ⟨hB2, t1, t2, t3, t4, t5, t6, t7, t8⟩ := hM.2.2.2.2 j G hG
  generalize hav : 120 * s + i = a at *
  generalize hbv : 120 * t + j = b at *
  generalize sumC (L.take i) = c at *
  generalize sumC (M.take j) = e at *
  have ha : a < 5520 := by omega
  have hb : b < 5520 := by omega
  refine k_while hfl n_M_isSame ok_M_isSame rfl rfl rfl rfl rfl rfl (fun h => by cases h) (Nat.le_of_ble_eq_true rfl) [93] (fun pc d lv g1 k0 n0 => ∃ k is, pc = 93 ∧ d = (eC E).length - k ∧ lv = [(0, .ref (am 0)), (1, .int (nI s)), (3, .int (nI t)), (5, .int (nI a)), (6, .int (nI b)), (7, .int (b2 is)), (8, .int (nI k))] ∧ g1 = g ∧ k0 = 0 ∧ n0 = 0 ∧ k ≤ (eC E).length ∧ (is = true → E.2.1 = G.2.1 ∧ E.2.2.1 = G.2.2.1 ∧ E.2.2.2.1 = G.2.2.2.1 ∧ (eC E).length = (eC G).length ∧ ∀ j, j < k → (eC E).getD j 0 = (eC G).getD j 0) ∧ (is = false → lkE E G = false)) 60 ?_ 80 ?_
  · conv => whnf
    refine ⟨(Nat.le_of_ble_eq_true rfl), _, _, _, c_M_place hfl, by first | omega | exact Nat.le_of_ble_eq_true rfl | (simp only [dl1, dl2, dl3, dl4, dl5, dl6]; omega), by first | omega | exact Nat.le_of_ble_eq_true rfl | (simp only [dl1, dl2, dl3, dl4, dl5, dl6]; omega), k_rl ?_, k_rr⟩
    rw [hav]
    conv => whnf
    refine ⟨(Nat.le_of_ble_eq_true rfl), _, _, _, c_M_place hfl, by first | omega | exact Nat.le_of_ble_eq_true rfl | (simp only [dl1, dl2, dl3, dl4, dl5, dl6]; omega), by first | omega | exact Nat.le_of_ble_eq_true rfl | (simp only [dl1, dl2, dl3, dl4, dl5, dl6]; omega), k_rl ?_, k_rr⟩
    rw [hbv]
    conv => whnf
    refine ⟨_, _, h.z, rfl, ?_⟩
    conv => whnf
    refine Or.inl ⟨1, _, _, a, h.a3, rfl, rfl, by omega, by first | decide | omega, ?_⟩
    rw [s1]
    conv => whnf
    refine ⟨_, _, h.z, rfl, ?_⟩
    conv => whnf
    refine Or.inl ⟨1, _, _, b, h.a3, rfl, rfl, by omega, by first | decide | omega, ?_⟩
    rw [t1]
    conv => whnf
    refine ⟨fun h5 => ?_, fun h5 => ?_⟩
    · conv => whnf
      exact ⟨rfl, _, _, ⟨0, false, rfl, rfl, rfl, rfl, rfl, rfl, by omega, fun z => (by cases z), fun _ => lkE_no (fun z => h5 z.1)⟩, rfl, rfl, rfl, rfl, rfl, rfl, rfl, trivial⟩
    · have e1 : E.2.1 = G.2.1 := Classical.not_not.mp h5
      conv => whnf
      refine ⟨_, _, h.z, rfl, ?_⟩
      conv => whnf
      refine Or.inl ⟨1, _, _, a, h.a4, rfl, rfl, by omega, by first | decide | omega, ?_⟩
      rw [s2]
      conv => whnf
      refine ⟨_, _, h.z, rfl, ?_⟩
      conv => whnf
      refine Or.inl ⟨1, _, _, b, h.a4, rfl, rfl, by omega, by first | decide | omega, ?_⟩
      rw [t2]
      conv => whnf
      refine ⟨fun h5 => ?_, fun h5 => ?_⟩
      · conv => whnf
        exact ⟨rfl, _, _, ⟨0, false, rfl, rfl, rfl, rfl, rfl, rfl, by omega, fun z => (by cases z), fun _ => lkE_no (fun z => h5 z.2.1)⟩, rfl, rfl, rfl, rfl, rfl, rfl, rfl, trivial⟩
      · have e2 : E.2.2.1 = G.2.2.1 := Classical.not_not.mp h5
        conv => whnf
        refine ⟨_, _, h.z, rfl, ?_⟩
        conv => whnf
        refine Or.inl ⟨1, _, _, a, h.a5, rfl, rfl, by omega, by first | decide | omega, ?_⟩
        rw [s3]
        conv => whnf
        refine ⟨_, _, h.z, rfl, ?_⟩
        conv => whnf
        refine Or.inl ⟨1, _, _, b, h.a5, rfl, rfl, by omega, by first | decide | omega, ?_⟩
        rw [t3]
        conv => whnf
        refine ⟨fun h5 => ?_, fun h5 => ?_⟩
        · conv => whnf
          exact ⟨rfl, _, _, ⟨0, false, rfl, rfl, rfl, rfl, rfl, rfl, by omega, fun z => (by cases z), fun _ => lkE_no (fun z => h5 z.2.2.1)⟩, rfl, rfl, rfl, rfl, rfl, rfl, rfl, trivial⟩
        · have e3 : E.2.2.2.1 = G.2.2.2.1 := Classical.not_not.mp h5
          conv => whnf
          refine ⟨_, _, h.z, rfl, ?_⟩
          conv => whnf
          refine Or.inl ⟨1, _, _, a, h.a8, rfl, rfl, by omega, by first | decide | omega, ?_⟩
          rw [s6]
          conv => whnf
          refine ⟨_, _, h.z, rfl, ?_⟩
          conv => whnf
          refine Or.inl ⟨1, _, _, b, h.a8, rfl, rfl, by omega, by first | decide | omega, ?_⟩
          rw [t6]
          conv => whnf
          refine ⟨fun h5 => ?_, fun h5 => ?_⟩
          · conv => whnf
            exact ⟨rfl, _, _, ⟨0, false, rfl, rfl, rfl, rfl, rfl, rfl, by omega, fun z => (by cases z), fun _ => lkE_no (fun z => (q_ne (by omega) (by omega)).mp h5 (by rw [z.2.2.2]))⟩, rfl, rfl, rfl, rfl, rfl, rfl, rfl, trivial⟩
          · have e4 : (eC E).length = (eC G).length := Classical.not_not.mp fun z => h5 ((q_ne (by omega) (by omega)).mpr z)
            conv => whnf
            exact ⟨rfl, _, _, ⟨0, true, rfl, rfl, rfl, rfl, rfl, rfl, by omega, fun _ => ⟨e1, e2, e3, e4, fun j hj => by omega⟩, fun z => (by cases z)⟩, rfl, rfl, rfl, rfl, rfl, rfl, rfl, trivial⟩
  · rintro d pc lv g1 k0 n0 ⟨k, is, rfl, rfl, rfl, rfl, rfl, rfl, hk, hy, hno⟩
    conv => whnf
    refine ⟨_, _, h.z, rfl, ?_⟩
    conv => whnf
    refine Or.inl ⟨1, _, _, a, h.a8, rfl, rfl, by omega, by first | decide | omega, ?_⟩
    rw [s6]
    conv => whnf
    refine ⟨fun h5 => ?_, fun h5 => ?_⟩
    · have h9 := (q_ge (by omega) (by omega)).mp h5
      cases is with
      | false =>
        conv => whnf
        refine ⟨⟨_, rfl, rfl⟩, ⟨?_, rfl⟩, by first | omega | exact Nat.le_of_ble_eq_true rfl | (simp only [dl1, dl2, dl3, dl4, dl5, dl6]; omega), by first | omega | exact Nat.le_of_ble_eq_true rfl | (simp only [dl1, dl2, dl3, dl4, dl5, dl6]; omega)⟩
        rw [hno rfl]
      | true =>
        obtain ⟨e1, e2, e3, e4, e5⟩ := hy rfl
        conv => whnf
        refine ⟨⟨_, rfl, rfl⟩, ⟨?_, rfl⟩, by first | omega | exact Nat.le_of_ble_eq_true rfl | (simp only [dl1, dl2, dl3, dl4, dl5, dl6]; omega), by first | omega | exact Nat.le_of_ble_eq_true rfl | (simp only [dl1, dl2, dl3, dl4, dl5, dl6]; omega)⟩
        rw [lkE, decide_eq_true ⟨e1, e2, e3, list_ext0 e4 (fun j hj => e5 j (by omega))⟩]
    · have h9 : k < (eC E).length := Nat.lt_of_not_le fun z => h5 ((q_ge (by omega) (by omega)).mpr z)
      cases is with
      | false =>
        conv => whnf
        refine ⟨fun _ => ?_, fun h => absurd b2_f h⟩
        conv => whnf
        refine ⟨⟨_, rfl, rfl⟩, ⟨?_, rfl⟩, by first | omega | exact Nat.le_of_ble_eq_true rfl | (simp only [dl1, dl2, dl3, dl4, dl5, dl6]; omega), by first | omega | exact Nat.le_of_ble_eq_true rfl | (simp only [dl1, dl2, dl3, dl4, dl5, dl6]; omega)⟩
        rw [hno rfl]
      | true =>
        obtain ⟨e1, e2, e3, e4, e5⟩ := hy rfl
        have b1 := getD_lt hB1.2.2 h9
        have b2' := getD_lt hB2.2.2 (by omega : k < (eC G).length)
        conv => whnf
        refine ⟨fun h => absurd h b2_t, fun _ => ?_⟩
        conv => whnf
        refine ⟨_, _, h.z, rfl, ?_⟩
        conv => whnf
        refine ⟨_, _, h.z, rfl, ?_⟩
        conv => whnf
        refine Or.inl ⟨1, _, _, a, h.a7, rfl, rfl, by omega, by first | decide | omega, ?_⟩
        rw [s5]
        conv => whnf
        refine Or.inl ⟨1, _, _, 8000 * s + c + k, h.a10, rfl, (ix2 8000 s c k), (by omega), by first | decide | omega, ?_⟩
        rw [s8 k h9]
        conv => whnf
        refine ⟨_, _, h.z, rfl, ?_⟩
        conv => whnf
        refine ⟨_, _, h.z, rfl, ?_⟩
        conv => whnf
        refine Or.inl ⟨1, _, _, b, h.a7, rfl, rfl, by omega, by first | decide | omega, ?_⟩
        rw [t5]
        conv => whnf
        refine Or.inl ⟨1, _, _, 8000 * t + e + k, h.a10, rfl, (ix2 8000 t e k), (by omega), by first | decide | omega, ?_⟩
        rw [t8 k (by omega)]
        conv => whnf
        refine ⟨fun h6 => ?_, fun h6 => ?_⟩
        · have h7 := (q_ne (by omega) (by omega)).mp h6
          conv => whnf
          exact ⟨rfl, _, _, by omega, ⟨k + 1, false, rfl, rfl, rfl, rfl, rfl, rfl, h9, fun z => (by cases z), fun _ => lkE_no (fun z => h7 (by rw [z.2.2.2]))⟩, rfl, rfl, rfl, rfl, rfl, rfl, sI k, trivial⟩
        · have h7 : (eC E).getD k 0 = (eC G).getD k 0 := Classical.not_not.mp fun z => h6 ((q_ne (by omega) (by omega)).mpr z)
          conv => whnf
          exact ⟨rfl, _, _, by omega, ⟨k + 1, true, rfl, rfl, rfl, rfl, rfl, rfl, h9, fun _ => ⟨e1, e2, e3, e4, fun j hj => by
            by_cases h3 : j = k
            · rw [h3]; exact h7
            · exact e5 j (by omega)⟩, fun z => (by cases z)⟩, rfl, rfl, rfl, rfl, rfl, rfl, sI k, trivial⟩
end MORD
