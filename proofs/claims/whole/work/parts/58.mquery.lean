/-! MirrorKeepModel: entry, at, about, session, thrown -/
section MQ
variable {am : Nat → Nat} {A A1 : mA} {F F1 : mF} {g : g_H} {R T : List Nat} {S M Rs : List Ent} {Hs : List Ses} {O N : List Ent} {cp : Option (List Nat)} {st tv : Int32} {op nX : Nat}
variable {l : Launch} {D : va_G} {aC : Nat → ClassId}
def tL (S M Rs : List Ent) : Nat → List Ent
  | 0 => S
  | 1 => M
  | _ => Rs
theorem eT_no {t i : Int32} (h : t.toInt < 0 ∨ 3 ≤ t.toInt) : eT S M Rs t i = none := by rw [eT, if_neg (by omega), if_neg (by omega), if_neg (by omega)]
theorem eT_at {n : Nat} {i : Int32} (h : n < 3) : eT S M Rs (nI n) i = atI (tL S M Rs n) i := by
  rw [eT, nI_toInt (by omega)]
  rcases (by omega : n = 0 ∨ n = 1 ∨ n = 2) with rfl | rfl | rfl
  · exact if_pos rfl
  · exact (if_neg (by decide)).trans (if_pos rfl)
  · exact (if_neg (by decide)).trans ((if_neg (by decide)).trans (if_pos rfl))
theorem tm_L (r : mR A F R T S M Rs Hs O N cp st tv op nX) {n : Nat} (h : n < 3) : tm A n (tL S M Rs n) := by
  rcases (by omega : n = 0 ∨ n = 1 ∨ n = 2) with rfl | rfl | rfl
  · exact r.2.2.2.1
  · exact r.2.2.2.2.1
  · exact r.2.2.2.2.2.1
theorem eT_some {t i : Int32} {E : Ent} (h : eT S M Rs t i = some E) : ∃ n j, n < 3 ∧ t = nI n ∧ i = nI j ∧ (tL S M Rs n)[j]? = some E ∧ j < 2 ^ 31 := by
  have h1 : ¬ (t.toInt < 0 ∨ 3 ≤ t.toInt) := fun z => by rw [eT_no z] at h; cases h
  obtain ⟨e1, e2⟩ := nI_ofT (x := t) (by omega)
  rw [e1, eT_at (by omega)] at h
  obtain ⟨a, b⟩ := atI_ge h
  obtain ⟨e3, e4⟩ := nI_ofT b
  exact ⟨_, _, by omega, e1, e3, a, e4⟩
theorem c_M_isEntry (hfl : l.flags = pinnedFlags ++ [noTraceFlag]) (h : mg am A F g) (r : mR A F R T S M Rs Hs O N cp st tv op nX) {t i : Int32} : k_CT l D aC n_M_isEntry 0 0 [.ref (am 0), .int t, .int i] g (rt (some (.int (b2 (eT S M Rs t i).isSome))) g) := by
  refine k_ln hfl n_M_isEntry ok_M_isEntry rfl rfl rfl rfl rfl rfl (fun h => by cases h) (Nat.le_of_ble_eq_true rfl) 60 ?_
  conv => whnf
  refine ⟨fun h5 => ?_, fun h5 => ?_⟩
  · have h6 : t.toInt < 0 := h5
    conv => whnf
    refine ⟨⟨_, rfl, rfl⟩, ⟨?_, rfl⟩, by first | omega | exact Nat.le_of_ble_eq_true rfl | (simp only [dl1, dl2, dl3, dl4, dl5, dl6]; omega), by first | omega | exact Nat.le_of_ble_eq_true rfl | (simp only [dl1, dl2, dl3, dl4, dl5, dl6]; omega)⟩
    rw [eT_no (Or.inl h6)]; rfl
  · have h6 : ¬ t.toInt < 0 := h5
    conv => whnf
    refine ⟨fun h5 => ?_, fun h5 => ?_⟩
    · have h7 := (x_ge (by decide)).mp h5
      conv => whnf
      refine ⟨⟨_, rfl, rfl⟩, ⟨?_, rfl⟩, by first | omega | exact Nat.le_of_ble_eq_true rfl | (simp only [dl1, dl2, dl3, dl4, dl5, dl6]; omega), by first | omega | exact Nat.le_of_ble_eq_true rfl | (simp only [dl1, dl2, dl3, dl4, dl5, dl6]; omega)⟩
      rw [eT_no (Or.inr h7)]; rfl
    · have h7 : ¬ ((3 : Nat) : Int) ≤ t.toInt := fun z => h5 ((x_ge (by decide)).mpr z)
      obtain ⟨e1, e2⟩ := nI_ofT h6
      have hn : t.toInt.toNat < 3 := by omega
      generalize t.toInt.toNat = n at *
      subst e1
      have hT := tm_L r hn
      have hl := hT.2.2.1
      rw [eT_at hn]
      conv => whnf
      refine ⟨fun h5 => ?_, fun h5 => ?_⟩
      · have h8 : i.toInt < 0 := h5
        conv => whnf
        refine ⟨⟨_, rfl, rfl⟩, ⟨?_, rfl⟩, by first | omega | exact Nat.le_of_ble_eq_true rfl | (simp only [dl1, dl2, dl3, dl4, dl5, dl6]; omega), by first | omega | exact Nat.le_of_ble_eq_true rfl | (simp only [dl1, dl2, dl3, dl4, dl5, dl6]; omega)⟩
        rw [atI, if_pos h8]; rfl
      · have h8 : ¬ i.toInt < 0 := h5
        obtain ⟨e3, e4⟩ := nI_ofT h8
        generalize i.toInt.toNat = j at *
        subst e3
        rw [atI_nI e4]
        conv => whnf
        refine ⟨_, _, h.z, rfl, ?_⟩
        conv => whnf
        refine Or.inl ⟨1, _, _, n, h.a1, rfl, rfl, by omega, by first | decide | omega, ?_⟩
        rw [hT.1]
        conv => whnf
        refine ⟨fun h5 => ?_, fun h5 => ?_⟩
        · have h9 := (q_ge e4 (by omega)).mp h5
          conv => whnf
          refine ⟨⟨_, rfl, rfl⟩, ⟨?_, rfl⟩, by first | omega | exact Nat.le_of_ble_eq_true rfl | (simp only [dl1, dl2, dl3, dl4, dl5, dl6]; omega), by first | omega | exact Nat.le_of_ble_eq_true rfl | (simp only [dl1, dl2, dl3, dl4, dl5, dl6]; omega)⟩
          rw [List.getElem?_eq_none h9]; rfl
        · have h9 : j < (tL S M Rs n).length := Nat.lt_of_not_le fun z => h5 ((q_ge e4 (by omega)).mpr z)
          conv => whnf
          refine ⟨⟨_, rfl, rfl⟩, ⟨?_, rfl⟩, by first | omega | exact Nat.le_of_ble_eq_true rfl | (simp only [dl1, dl2, dl3, dl4, dl5, dl6]; omega), by first | omega | exact Nat.le_of_ble_eq_true rfl | (simp only [dl1, dl2, dl3, dl4, dl5, dl6]; omega)⟩
          rw [List.getElem?_eq_getElem h9]; rfl
theorem c_M_entry (hfl : l.flags = pinnedFlags ++ [noTraceFlag]) (h : mg am A F g) (r : mR A F R T S M Rs Hs O N cp st tv op nX) {t i w : Int32} : k_CT l D aC n_M_entry 0 0 [.ref (am 0), .int t, .int i, .int w] g (mO am g (.inl (some (.int (eA (eT S M Rs t i) w)))) 0 R T S M Rs Hs O N cp st tv op nX) := by
  have h1 := mg_z h (F1 := uF F 0 (nI 0))
  have hP : ∀ v, mO am g v 0 R T S M Rs Hs O N cp st tv op nX v (g_up g (am 0) (mo am (uF F 0 (nI 0)))) := fun v => ⟨rfl, fx_up fx_rf (iUU rfl), A, _, h1, uF_s, mR_z r⟩
  refine k_ln hfl n_M_entry ok_M_entry rfl rfl rfl rfl rfl rfl (fun h => by cases h) (Nat.le_of_ble_eq_true rfl) 60 ?_
  conv => whnf
  refine ⟨_, h.z, by simp, rfl, rfl, ?_⟩
  conv => whnf
  refine ⟨⟨_, h1.z⟩, (Nat.le_of_ble_eq_true rfl), _, _, _, c_M_isEntry hfl h1 (mR_z r), by first | omega | exact Nat.le_of_ble_eq_true rfl | (simp only [dl1, dl2, dl3, dl4, dl5, dl6]; omega), by first | omega | exact Nat.le_of_ble_eq_true rfl | (simp only [dl1, dl2, dl3, dl4, dl5, dl6]; omega), k_rl ?_, k_rr⟩
  cases he : eT S M Rs t i with
  | none =>
    conv => whnf
    refine ⟨fun h => absurd h (fun y => y b2_f), fun _ => ?_⟩
    conv => whnf
    refine ⟨⟨_, rfl, rfl⟩, (hP _), by first | omega | exact Nat.le_of_ble_eq_true rfl | (simp only [dl1, dl2, dl3, dl4, dl5, dl6]; omega), by first | omega | exact Nat.le_of_ble_eq_true rfl | (simp only [dl1, dl2, dl3, dl4, dl5, dl6]; omega)⟩
  | some E =>
    conv => whnf
    refine ⟨fun _ => ?_, fun h => absurd b2_t h⟩
    obtain ⟨n, j, hn, rfl, rfl, hE, hj⟩ := eT_some he
    have hT := tm_L r hn
    have hl := hT.2.2.1
    have hjl := (List.getElem?_eq_some_iff.mp hE).1
    obtain ⟨hB, s3, s4, s5, s6, s7, s8, -⟩ := hT.2.2.2.2 j E hE
    conv => whnf
    refine ⟨(Nat.le_of_ble_eq_true rfl), _, _, _, c_M_place hfl, by first | omega | exact Nat.le_of_ble_eq_true rfl | (simp only [dl1, dl2, dl3, dl4, dl5, dl6]; omega), by first | omega | exact Nat.le_of_ble_eq_true rfl | (simp only [dl1, dl2, dl3, dl4, dl5, dl6]; omega), k_rl ?_, k_rr⟩
    generalize hav : 120 * n + j = a at *
    have ha : a < 5520 := by omega
    conv => whnf
    refine ⟨⟨fun h0 => ?_, fun h0 => ?_, fun h0 => ?_, fun h0 => ?_, fun h0 => ?_, trivial⟩, fun h0 => ?_⟩
    · have h9 : w.toInt = 0 := h0
      conv => whnf
      refine ⟨_, _, h1.z, rfl, ?_⟩
      conv => whnf
      refine Or.inl ⟨1, _, _, a, h1.a3, rfl, rfl, by omega, by first | decide | omega, ?_⟩
      conv => whnf
      refine ⟨⟨_, rfl, rfl⟩, ?_, by first | omega | exact Nat.le_of_ble_eq_true rfl | (simp only [dl1, dl2, dl3, dl4, dl5, dl6]; omega), by first | omega | exact Nat.le_of_ble_eq_true rfl | (simp only [dl1, dl2, dl3, dl4, dl5, dl6]; omega)⟩
      rw [s3, show eA (some E) w = E.2.1 by rw [eA, if_pos h9]]
      exact hP _
    · have h9 : w.toInt = 1 := h0
      conv => whnf
      refine ⟨_, _, h1.z, rfl, ?_⟩
      conv => whnf
      refine Or.inl ⟨1, _, _, a, h1.a4, rfl, rfl, by omega, by first | decide | omega, ?_⟩
      conv => whnf
      refine ⟨⟨_, rfl, rfl⟩, ?_, by first | omega | exact Nat.le_of_ble_eq_true rfl | (simp only [dl1, dl2, dl3, dl4, dl5, dl6]; omega), by first | omega | exact Nat.le_of_ble_eq_true rfl | (simp only [dl1, dl2, dl3, dl4, dl5, dl6]; omega)⟩
      rw [s4, show eA (some E) w = E.2.2.1 by rw [eA, if_neg (by omega), if_pos h9]]
      exact hP _
    · have h9 : w.toInt = 2 := h0
      conv => whnf
      refine ⟨_, _, h1.z, rfl, ?_⟩
      conv => whnf
      refine Or.inl ⟨1, _, _, a, h1.a5, rfl, rfl, by omega, by first | decide | omega, ?_⟩
      conv => whnf
      refine ⟨⟨_, rfl, rfl⟩, ?_, by first | omega | exact Nat.le_of_ble_eq_true rfl | (simp only [dl1, dl2, dl3, dl4, dl5, dl6]; omega), by first | omega | exact Nat.le_of_ble_eq_true rfl | (simp only [dl1, dl2, dl3, dl4, dl5, dl6]; omega)⟩
      rw [s5, show eA (some E) w = E.2.2.2.1 by rw [eA, if_neg (by omega), if_neg (by omega), if_pos h9]]
      exact hP _
    · have h9 : w.toInt = 3 := h0
      conv => whnf
      refine ⟨_, _, h1.z, rfl, ?_⟩
      conv => whnf
      refine Or.inl ⟨1, _, _, a, h1.a8, rfl, rfl, by omega, by first | decide | omega, ?_⟩
      conv => whnf
      refine ⟨⟨_, rfl, rfl⟩, ?_, by first | omega | exact Nat.le_of_ble_eq_true rfl | (simp only [dl1, dl2, dl3, dl4, dl5, dl6]; omega), by first | omega | exact Nat.le_of_ble_eq_true rfl | (simp only [dl1, dl2, dl3, dl4, dl5, dl6]; omega)⟩
      rw [s8, show eA (some E) w = nI (eC E).length by rw [eA, if_neg (by omega), if_neg (by omega), if_neg (by omega), if_pos h9]]
      exact hP _
    · have h9 : w.toInt = 4 := h0
      conv => whnf
      refine ⟨_, _, h1.z, rfl, ?_⟩
      conv => whnf
      refine Or.inl ⟨1, _, _, a, h1.a6, rfl, rfl, by omega, by first | decide | omega, ?_⟩
      conv => whnf
      refine ⟨⟨_, rfl, rfl⟩, ?_, by first | omega | exact Nat.le_of_ble_eq_true rfl | (simp only [dl1, dl2, dl3, dl4, dl5, dl6]; omega), by first | omega | exact Nat.le_of_ble_eq_true rfl | (simp only [dl1, dl2, dl3, dl4, dl5, dl6]; omega)⟩
      rw [s6, show eA (some E) w = nI E.1.length by rw [eA, if_neg (by omega), if_neg (by omega), if_neg (by omega), if_neg (by omega), if_pos h9]]
      exact hP _
    · have h9 : w.toInt < 0 ∨ 4 < w.toInt := h0
      conv => whnf
      refine ⟨⟨_, rfl, rfl⟩, ?_, by first | omega | exact Nat.le_of_ble_eq_true rfl | (simp only [dl1, dl2, dl3, dl4, dl5, dl6]; omega), by first | omega | exact Nat.le_of_ble_eq_true rfl | (simp only [dl1, dl2, dl3, dl4, dl5, dl6]; omega)⟩
      rw [show eA (some E) w = -1 by rw [eA, if_neg (by omega), if_neg (by omega), if_neg (by omega), if_neg (by omega), if_neg (by omega)]]
      exact hP _
theorem c_M_at (hfl : l.flags = pinnedFlags ++ [noTraceFlag]) (h : mg am A F g) (r : mR A F R T S M Rs Hs O N cp st tv op nX) {t i k : Int32} {p : Bool} : k_CT l D aC n_M_at 0 0 [.ref (am 0), .int t, .int i, .int (b2 p), .int k] g (mO am g (.inl (some (.int (tA (eT S M Rs t i) p k)))) 0 R T S M Rs Hs O N cp st tv op nX) := by
  have h1 := mg_z h (F1 := uF F 0 (nI 0))
  have hP : ∀ v, mO am g v 0 R T S M Rs Hs O N cp st tv op nX v (g_up g (am 0) (mo am (uF F 0 (nI 0)))) := fun v => ⟨rfl, fx_up fx_rf (iUU rfl), A, _, h1, uF_s, mR_z r⟩
  have bneg : ∀ L : List Nat, k.toInt < 0 → bA L k = -1 := fun L hk => by rw [bA, atI, if_pos hk]
  refine k_ln hfl n_M_at ok_M_at rfl rfl rfl rfl rfl rfl (fun h => by cases h) (Nat.le_of_ble_eq_true rfl) 60 ?_
  conv => whnf
  refine ⟨_, h.z, by simp, rfl, rfl, ?_⟩
  conv => whnf
  refine ⟨⟨_, h1.z⟩, (Nat.le_of_ble_eq_true rfl), _, _, _, c_M_isEntry hfl h1 (mR_z r), by first | omega | exact Nat.le_of_ble_eq_true rfl | (simp only [dl1, dl2, dl3, dl4, dl5, dl6]; omega), by first | omega | exact Nat.le_of_ble_eq_true rfl | (simp only [dl1, dl2, dl3, dl4, dl5, dl6]; omega), k_rl ?_, k_rr⟩
  cases he : eT S M Rs t i with
  | none =>
    conv => whnf
    refine ⟨fun _ => ?_, fun h => absurd b2_f h⟩
    conv => whnf
    refine ⟨⟨_, rfl, rfl⟩, (hP _), by first | omega | exact Nat.le_of_ble_eq_true rfl | (simp only [dl1, dl2, dl3, dl4, dl5, dl6]; omega), by first | omega | exact Nat.le_of_ble_eq_true rfl | (simp only [dl1, dl2, dl3, dl4, dl5, dl6]; omega)⟩
  | some E =>
    conv => whnf
    refine ⟨fun h => absurd h b2_t, fun _ => ?_⟩
    obtain ⟨n, j, hn, rfl, rfl, hE, hj⟩ := eT_some he
    have hT := tm_L r hn
    have hl := hT.2.2.1
    have hsm := hT.2.2.2.1
    have hle := sumC_le hE
    have hjl := (List.getElem?_eq_some_iff.mp hE).1
    obtain ⟨hB, s3, s4, s5, s6, s7, s8, s9, s10⟩ := hT.2.2.2.2 j E hE
    generalize hav : 120 * n + j = a at *
    generalize sumC ((tL S M Rs n).take j) = c at *
    have hpl := hB.1
    have ha : a < 5520 := by omega
    conv => whnf
    refine ⟨fun h5 => ?_, fun h5 => ?_⟩
    · have h6 : (0 : Int32).toInt ≤ k.toInt := h5
      have h6 : ¬ k.toInt < 0 := by rw [Int32.toInt_zero] at h6; omega
      obtain ⟨e3, e4⟩ := nI_ofT h6
      generalize k.toInt.toNat = q at *
      subst e3
      conv => whnf
      rw [ix1, hav]
      cases p with
      | true =>
        conv => whnf
        refine ⟨fun h => absurd h b2_t, fun _ => ?_⟩
        conv => whnf
        refine ⟨_, _, h1.z, rfl, ?_⟩
        conv => whnf
        refine Or.inl ⟨1, _, _, a, h1.a6, rfl, rfl, by omega, by first | decide | omega, ?_⟩
        rw [s6]
        conv => whnf
        refine ⟨fun h7 => ?_, fun h7 => ?_⟩
        · have h8 := (q_ge e4 (by omega)).mp h7
          conv => whnf
          refine ⟨⟨_, rfl, rfl⟩, ?_, by first | omega | exact Nat.le_of_ble_eq_true rfl | (simp only [dl1, dl2, dl3, dl4, dl5, dl6]; omega), by first | omega | exact Nat.le_of_ble_eq_true rfl | (simp only [dl1, dl2, dl3, dl4, dl5, dl6]; omega)⟩
          rw [show tA (some E) true (nI q) = -1 by rw [tA, if_pos rfl, bA, atI_nI e4, List.getElem?_eq_none h8]]
          exact hP _
        · have h8 : q < E.1.length := Nat.lt_of_not_le fun z => h7 ((q_ge e4 (by omega)).mpr z)
          conv => whnf
          refine ⟨_, _, h1.z, rfl, ?_⟩
          conv => whnf
          refine Or.inl ⟨1, _, _, 150 * a + q, h1.a9, rfl, (ix1 150 a q), (by omega), by first | decide | omega, ?_⟩
          rw [s9 q h8]
          conv => whnf
          refine ⟨⟨_, rfl, rfl⟩, ?_, by first | omega | exact Nat.le_of_ble_eq_true rfl | (simp only [dl1, dl2, dl3, dl4, dl5, dl6]; omega), by first | omega | exact Nat.le_of_ble_eq_true rfl | (simp only [dl1, dl2, dl3, dl4, dl5, dl6]; omega)⟩
          rw [show tA (some E) true (nI q) = nI (E.1.getD q 0) by rw [tA, if_pos rfl, bA, atI_nI e4, List.getD_eq_getElem?_getD, List.getElem?_eq_getElem h8]; rfl]
          exact hP _
      | false =>
        conv => whnf
        refine ⟨fun _ => ?_, fun h => absurd b2_f h⟩
        conv => whnf
        refine ⟨_, _, h1.z, rfl, ?_⟩
        conv => whnf
        refine Or.inl ⟨1, _, _, a, h1.a8, rfl, rfl, by omega, by first | decide | omega, ?_⟩
        rw [s8]
        conv => whnf
        refine ⟨fun h7 => ?_, fun h7 => ?_⟩
        · have h8 := (q_ge e4 (by omega)).mp h7
          conv => whnf
          refine ⟨⟨_, rfl, rfl⟩, ?_, by first | omega | exact Nat.le_of_ble_eq_true rfl | (simp only [dl1, dl2, dl3, dl4, dl5, dl6]; omega), by first | omega | exact Nat.le_of_ble_eq_true rfl | (simp only [dl1, dl2, dl3, dl4, dl5, dl6]; omega)⟩
          rw [show tA (some E) false (nI q) = -1 by rw [tA, if_neg (by decide), bA, atI_nI e4, List.getElem?_eq_none h8]]
          exact hP _
        · have h8 : q < (eC E).length := Nat.lt_of_not_le fun z => h7 ((q_ge e4 (by omega)).mpr z)
          conv => whnf
          refine ⟨_, _, h1.z, rfl, ?_⟩
          conv => whnf
          refine ⟨_, _, h1.z, rfl, ?_⟩
          conv => whnf
          refine Or.inl ⟨1, _, _, a, h1.a7, rfl, rfl, by omega, by first | decide | omega, ?_⟩
          rw [s7]
          conv => whnf
          refine Or.inl ⟨1, _, _, 8000 * n + c + q, h1.a10, rfl, (ix2 8000 n c q), (by omega), by first | decide | omega, ?_⟩
          rw [s10 q h8]
          conv => whnf
          refine ⟨⟨_, rfl, rfl⟩, ?_, by first | omega | exact Nat.le_of_ble_eq_true rfl | (simp only [dl1, dl2, dl3, dl4, dl5, dl6]; omega), by first | omega | exact Nat.le_of_ble_eq_true rfl | (simp only [dl1, dl2, dl3, dl4, dl5, dl6]; omega)⟩
          rw [show tA (some E) false (nI q) = nI ((eC E).getD q 0) by rw [tA, if_neg (by decide), bA, atI_nI e4, List.getD_eq_getElem?_getD, List.getElem?_eq_getElem h8]; rfl]
          exact hP _
    · have h6 : k.toInt < 0 := by
        have h6 : ¬ (0 : Int32).toInt ≤ k.toInt := h5
        rw [Int32.toInt_zero] at h6; omega
      conv => whnf
      refine ⟨⟨_, rfl, rfl⟩, ?_, by first | omega | exact Nat.le_of_ble_eq_true rfl | (simp only [dl1, dl2, dl3, dl4, dl5, dl6]; omega), by first | omega | exact Nat.le_of_ble_eq_true rfl | (simp only [dl1, dl2, dl3, dl4, dl5, dl6]; omega)⟩
      rw [show tA (some E) p k = -1 from bneg _ h6]
      exact hP _
theorem c_M_session (hfl : l.flags = pinnedFlags ++ [noTraceFlag]) (h : mg am A F g) (r : mR A F R T S M Rs Hs O N cp st tv op nX) {i w : Int32} : k_CT l D aC n_M_session 0 0 [.ref (am 0), .int i, .int w] g (mO am g (.inl (some (.int (sA Hs i w)))) 0 R T S M Rs Hs O N cp st tv op nX) := by
  obtain ⟨⟨-, -, -, -, f5, -⟩, -, -, -, -, -, -, -, hse, -⟩ := id r
  have hl := hse.1
  have f5' : uF F 0 (nI 0) 5 = nI Hs.length := f5
  have h1 := mg_z h (F1 := uF F 0 (nI 0))
  have hP : ∀ v, mO am g v 0 R T S M Rs Hs O N cp st tv op nX v (g_up g (am 0) (mo am (uF F 0 (nI 0)))) := fun v => ⟨rfl, fx_up fx_rf (iUU rfl), A, _, h1, uF_s, mR_z r⟩
  refine k_ln hfl n_M_session ok_M_session rfl rfl rfl rfl rfl rfl (fun h => by cases h) (Nat.le_of_ble_eq_true rfl) 60 ?_
  conv => whnf
  refine ⟨_, h.z, by simp, rfl, rfl, ?_⟩
  conv => whnf
  refine ⟨fun h5 => ?_, fun h5 => ?_⟩
  · have h6 : i.toInt < 0 := h5
    conv => whnf
    refine ⟨⟨_, rfl, rfl⟩, ?_, by first | omega | exact Nat.le_of_ble_eq_true rfl | (simp only [dl1, dl2, dl3, dl4, dl5, dl6]; omega), by first | omega | exact Nat.le_of_ble_eq_true rfl | (simp only [dl1, dl2, dl3, dl4, dl5, dl6]; omega)⟩
    rw [show sA Hs i w = -1 by rw [sA, atI, if_pos h6]]
    exact hP _
  · have h6 : ¬ i.toInt < 0 := h5
    obtain ⟨e3, e4⟩ := nI_ofT h6
    generalize i.toInt.toNat = q at *
    subst e3
    conv => whnf
    refine ⟨_, _, h1.z, rfl, ?_⟩
    rw [f5']
    conv => whnf
    refine ⟨fun h7 => ?_, fun h7 => ?_⟩
    · have h8 := (q_lt e4 (by omega)).mp h7
      have hX := List.getElem?_eq_getElem h8
      obtain ⟨x13, x14, -⟩ := hse.2 q _ hX
      have hsA : sA Hs (nI q) w = if w.toInt = 0 then Hs[q].1 else if w.toInt = 1 then (if nI q = 0 then -1 else nI Hs[q].2.1) else -1 := by rw [sA, atI_nI e4, hX]
      rw [hsA]
      conv => whnf
      refine ⟨fun h9 => ?_, fun h9 => ?_⟩
      · have hw : ¬ w.toInt = 0 := fun z => h9 (Int32.toInt_inj.mp (by rw [z, Int32.toInt_zero]))
        rw [if_neg hw]
        conv => whnf
        refine ⟨fun h10 => ?_, fun h10 => ?_⟩
        · have hw1 : ¬ w.toInt = 1 := fun z => h10 (Int32.toInt_inj.mp (by rw [z]; rfl))
          rw [if_neg hw1]
          conv => whnf
          refine ⟨⟨_, rfl, rfl⟩, (hP _), by first | omega | exact Nat.le_of_ble_eq_true rfl | (simp only [dl1, dl2, dl3, dl4, dl5, dl6]; omega), by first | omega | exact Nat.le_of_ble_eq_true rfl | (simp only [dl1, dl2, dl3, dl4, dl5, dl6]; omega)⟩
        · have hw1 : w = nI 1 := Classical.not_not.mp h10
          rw [if_pos (by rw [hw1]; rfl)]
          conv => whnf
          refine ⟨fun h11 => ?_, fun h11 => ?_⟩
          · have hq := (q_le0 e4).mp h11
            rw [if_pos (by rw [hq]; rfl)]
            conv => whnf
            refine ⟨⟨_, rfl, rfl⟩, (hP _), by first | omega | exact Nat.le_of_ble_eq_true rfl | (simp only [dl1, dl2, dl3, dl4, dl5, dl6]; omega), by first | omega | exact Nat.le_of_ble_eq_true rfl | (simp only [dl1, dl2, dl3, dl4, dl5, dl6]; omega)⟩
          · have hq : q ≠ 0 := fun z => h11 ((q_le0 e4).mpr z)
            rw [if_neg (show ¬ nI q = 0 from fun z => hq ((q_eq0 e4).mp z))]
            conv => whnf
            refine ⟨_, _, h1.z, rfl, ?_⟩
            conv => whnf
            refine Or.inl ⟨1, _, _, q, h1.a14, rfl, rfl, by omega, by first | decide | omega, ?_⟩
            rw [x14]
            conv => whnf
            refine ⟨⟨_, rfl, rfl⟩, (hP _), by first | omega | exact Nat.le_of_ble_eq_true rfl | (simp only [dl1, dl2, dl3, dl4, dl5, dl6]; omega), by first | omega | exact Nat.le_of_ble_eq_true rfl | (simp only [dl1, dl2, dl3, dl4, dl5, dl6]; omega)⟩
      · have hw : w = 0 := Classical.not_not.mp h9
        rw [if_pos (by rw [hw]; rfl)]
        conv => whnf
        refine ⟨_, _, h1.z, rfl, ?_⟩
        conv => whnf
        refine Or.inl ⟨1, _, _, q, h1.a13, rfl, rfl, by omega, by first | decide | omega, ?_⟩
        rw [x13]
        conv => whnf
        refine ⟨⟨_, rfl, rfl⟩, (hP _), by first | omega | exact Nat.le_of_ble_eq_true rfl | (simp only [dl1, dl2, dl3, dl4, dl5, dl6]; omega), by first | omega | exact Nat.le_of_ble_eq_true rfl | (simp only [dl1, dl2, dl3, dl4, dl5, dl6]; omega)⟩
    · have h8 : ¬ q < Hs.length := fun z => h7 ((q_lt e4 (by omega)).mpr z)
      conv => whnf
      refine ⟨⟨_, rfl, rfl⟩, ?_, by first | omega | exact Nat.le_of_ble_eq_true rfl | (simp only [dl1, dl2, dl3, dl4, dl5, dl6]; omega), by first | omega | exact Nat.le_of_ble_eq_true rfl | (simp only [dl1, dl2, dl3, dl4, dl5, dl6]; omega)⟩
      rw [show sA Hs (nI q) w = -1 by rw [sA, atI_nI e4, List.getElem?_eq_none (by omega)]]
      exact hP _
theorem c_M_thrown (hfl : l.flags = pinnedFlags ++ [noTraceFlag]) (h : mg am A F g) : k_CT l D aC n_M_thrown 0 0 [.ref (am 0)] g (rt (some (.int (F 0))) g) := by
  refine k_ln hfl n_M_thrown ok_M_thrown rfl rfl rfl rfl rfl rfl (fun h => by cases h) (Nat.le_of_ble_eq_true rfl) 60 ?_
  conv => whnf
  refine ⟨_, _, h.z, rfl, ?_⟩
  conv => whnf
  refine ⟨⟨_, rfl, rfl⟩, ⟨rfl, rfl⟩, by first | omega | exact Nat.le_of_ble_eq_true rfl | (simp only [dl1, dl2, dl3, dl4, dl5, dl6]; omega), by first | omega | exact Nat.le_of_ble_eq_true rfl | (simp only [dl1, dl2, dl3, dl4, dl5, dl6]; omega)⟩
theorem c_M_about (hfl : l.flags = pinnedFlags ++ [noTraceFlag]) (h : mg am A F g) (r : mR A F R T S M Rs Hs O N cp st tv op nX) (ho : op < 2 ^ 20) (hx : nX < 2 ^ 20) (hso : st = 0 → op = 0) {w : Int32} : k_CT l D aC n_M_about 0 0 [.ref (am 0), .int w] g (mO am g (.inl (some (.int (aA T S M Rs Hs nX op st w)))) 0 R T S M Rs Hs O N cp st tv op nX) := by
  obtain ⟨⟨f1, f2, f3, f4, f5, f6⟩, -, -, t0, t1, t2, -, -, hse, -⟩ := id r
  have hl := hse.1
  have h1 := mg_z h (F1 := uF F 0 (nI 0))
  have hP : ∀ v, mO am g v 0 R T S M Rs Hs O N cp st tv op nX v (g_up g (am 0) (mo am (uF F 0 (nI 0)))) := fun v => ⟨rfl, fx_up fx_rf (iUU rfl), A, _, h1, uF_s, mR_z r⟩
  refine k_while hfl n_M_about ok_M_about rfl rfl rfl rfl rfl rfl (fun h => by cases h) (Nat.le_of_ble_eq_true rfl) [117] (fun pc d lv g1 k0 n0 => ∃ k, pc = 117 ∧ d = Hs.length - k ∧ lv = [(0, .ref (am 0)), (2, .int (nI (sumH (Hs.take k) + min (op / 2) nX))), (3, .int (nI k))] ∧ k0 = 0 ∧ n0 = 0 ∧ g1 = g_up g (am 0) (mo am (uF F 0 (nI 0))) ∧ w.toInt = 7 ∧ 1 ≤ k ∧ (k ≤ Hs.length ∨ k = 1)) 60 ?_ 80 ?_
  · conv => whnf
    refine ⟨_, h.z, by simp, rfl, rfl, ?_⟩
    conv => whnf
    refine ⟨⟨fun h0 => ?_, fun h0 => ?_, fun h0 => ?_, fun h0 => ?_, fun h0 => ?_, fun h0 => ?_, fun h0 => ?_, fun h0 => ?_, fun h0 => ?_, trivial⟩, fun h0 => ?_⟩
    · have h9 : w.toInt = 0 := h0
      conv => whnf
      refine ⟨_, _, h1.z, rfl, ?_⟩
      conv => whnf
      refine ⟨⟨_, rfl, rfl⟩, ?_, by first | omega | exact Nat.le_of_ble_eq_true rfl | (simp only [dl1, dl2, dl3, dl4, dl5, dl6]; omega), by first | omega | exact Nat.le_of_ble_eq_true rfl | (simp only [dl1, dl2, dl3, dl4, dl5, dl6]; omega)⟩
      rw [show uF F 0 (nI 0) 2 = st from f2, show aA T S M Rs Hs nX op st w = st by rw [aA, if_pos h9]]
      exact hP _
    · have h9 : w.toInt = 1 := h0
      conv => whnf
      refine ⟨_, _, h1.z, rfl, ?_⟩
      conv => whnf
      refine ⟨⟨_, rfl, rfl⟩, ?_, by first | omega | exact Nat.le_of_ble_eq_true rfl | (simp only [dl1, dl2, dl3, dl4, dl5, dl6]; omega), by first | omega | exact Nat.le_of_ble_eq_true rfl | (simp only [dl1, dl2, dl3, dl4, dl5, dl6]; omega)⟩
      rw [show uF F 0 (nI 0) 5 = nI Hs.length from f5, show aA T S M Rs Hs nX op st w = nI Hs.length by rw [aA, if_neg (by omega), if_pos h9]]
      exact hP _
    · have h9 : w.toInt = 2 := h0
      conv => whnf
      refine ⟨_, _, h1.z, rfl, ?_⟩
      conv => whnf
      refine ⟨⟨_, rfl, rfl⟩, ?_, by first | omega | exact Nat.le_of_ble_eq_true rfl | (simp only [dl1, dl2, dl3, dl4, dl5, dl6]; omega), by first | omega | exact Nat.le_of_ble_eq_true rfl | (simp only [dl1, dl2, dl3, dl4, dl5, dl6]; omega)⟩
      rw [show uF F 0 (nI 0) 3 = nI op from f3, show aA T S M Rs Hs nX op st w = nI op by rw [aA, if_neg (by omega), if_neg (by omega), if_pos h9]]
      exact hP _
    · have h9 : w.toInt = 3 := h0
      conv => whnf
      refine ⟨_, _, h1.z, rfl, ?_⟩
      conv => whnf
      refine Or.inl ⟨1, _, _, 0, h1.a1, rfl, rfl, by omega, by first | decide | omega, ?_⟩
      rw [t0.1]
      conv => whnf
      refine ⟨⟨_, rfl, rfl⟩, ?_, by first | omega | exact Nat.le_of_ble_eq_true rfl | (simp only [dl1, dl2, dl3, dl4, dl5, dl6]; omega), by first | omega | exact Nat.le_of_ble_eq_true rfl | (simp only [dl1, dl2, dl3, dl4, dl5, dl6]; omega)⟩
      rw [show aA T S M Rs Hs nX op st w = nI S.length by rw [aA, if_neg (by omega), if_neg (by omega), if_neg (by omega), if_pos h9]]
      exact hP _
    · have h9 : w.toInt = 4 := h0
      conv => whnf
      refine ⟨_, _, h1.z, rfl, ?_⟩
      conv => whnf
      refine Or.inl ⟨1, _, _, 1, h1.a1, rfl, rfl, by omega, by first | decide | omega, ?_⟩
      rw [t1.1]
      conv => whnf
      refine ⟨⟨_, rfl, rfl⟩, ?_, by first | omega | exact Nat.le_of_ble_eq_true rfl | (simp only [dl1, dl2, dl3, dl4, dl5, dl6]; omega), by first | omega | exact Nat.le_of_ble_eq_true rfl | (simp only [dl1, dl2, dl3, dl4, dl5, dl6]; omega)⟩
      rw [show aA T S M Rs Hs nX op st w = nI M.length by rw [aA, if_neg (by omega), if_neg (by omega), if_neg (by omega), if_neg (by omega), if_pos h9]]
      exact hP _
    · have h9 : w.toInt = 5 := h0
      conv => whnf
      refine ⟨_, _, h1.z, rfl, ?_⟩
      conv => whnf
      refine Or.inl ⟨1, _, _, 2, h1.a1, rfl, rfl, by omega, by first | decide | omega, ?_⟩
      rw [t2.1]
      conv => whnf
      refine ⟨⟨_, rfl, rfl⟩, ?_, by first | omega | exact Nat.le_of_ble_eq_true rfl | (simp only [dl1, dl2, dl3, dl4, dl5, dl6]; omega), by first | omega | exact Nat.le_of_ble_eq_true rfl | (simp only [dl1, dl2, dl3, dl4, dl5, dl6]; omega)⟩
      rw [show aA T S M Rs Hs nX op st w = nI Rs.length by rw [aA, if_neg (by omega), if_neg (by omega), if_neg (by omega), if_neg (by omega), if_neg (by omega), if_pos h9]]
      exact hP _
    · have h9 : w.toInt = 6 := h0
      conv => whnf
      refine ⟨_, _, h1.z, rfl, ?_⟩
      conv => whnf
      refine Or.inl ⟨1, _, _, 0, h1.a2, rfl, rfl, by omega, by first | decide | omega, ?_⟩
      rw [t0.2.1]
      conv => whnf
      refine ⟨⟨_, rfl, rfl⟩, ?_, by first | omega | exact Nat.le_of_ble_eq_true rfl | (simp only [dl1, dl2, dl3, dl4, dl5, dl6]; omega), by first | omega | exact Nat.le_of_ble_eq_true rfl | (simp only [dl1, dl2, dl3, dl4, dl5, dl6]; omega)⟩
      rw [show aA T S M Rs Hs nX op st w = nI (sumC S) by rw [aA, if_neg (by omega), if_neg (by omega), if_neg (by omega), if_neg (by omega), if_neg (by omega), if_neg (by omega), if_pos h9]]
      exact hP _
    · have h9 : w.toInt = 7 := h0
      have hs1 : sumH (Hs.take 1) = 0 := by
        cases Hs with
        | nil => rfl
        | cons X H => rfl
      conv => whnf
      refine ⟨_, _, h1.z, rfl, ?_⟩
      rw [show uF F 0 (nI 0) 2 = st from f2]
      conv => whnf
      refine ⟨fun h5 => ?_, fun h5 => ?_⟩
      · conv => whnf
        refine ⟨⟨_, h1.z⟩, (Nat.le_of_ble_eq_true rfl), _, _, _, c_M_increments hfl h1 (mR_z r) ho hx, by first | omega | exact Nat.le_of_ble_eq_true rfl | (simp only [dl1, dl2, dl3, dl4, dl5, dl6]; omega), by first | omega | exact Nat.le_of_ble_eq_true rfl | (simp only [dl1, dl2, dl3, dl4, dl5, dl6]; omega), k_rl ?_, k_rr⟩
        conv => whnf
        exact ⟨rfl, _, _, ⟨1, rfl, rfl, rfl, rfl, rfl, rfl, h9, Nat.le_refl _, Or.inr rfl⟩, rfl, by
          show some (Value.int (nI (min (op / 2) nX))) = some (Value.int (nI (sumH (Hs.take 1) + min (op / 2) nX)))
          rw [hs1, Nat.zero_add], rfl, trivial⟩
      · have hst : st = 0 := Classical.not_not.mp h5
        conv => whnf
        exact ⟨rfl, _, _, ⟨1, rfl, rfl, rfl, rfl, rfl, rfl, h9, Nat.le_refl _, Or.inr rfl⟩, rfl, by
          show some (Value.int (nI 0)) = some (Value.int (nI (sumH (Hs.take 1) + min (op / 2) nX)))
          rw [hs1, hso hst, Nat.zero_div, Nat.zero_min], rfl, trivial⟩
    · have h9 : w.toInt = 8 := h0
      conv => whnf
      refine ⟨_, _, h1.z, rfl, ?_⟩
      conv => whnf
      refine ⟨⟨_, rfl, rfl⟩, ?_, by first | omega | exact Nat.le_of_ble_eq_true rfl | (simp only [dl1, dl2, dl3, dl4, dl5, dl6]; omega), by first | omega | exact Nat.le_of_ble_eq_true rfl | (simp only [dl1, dl2, dl3, dl4, dl5, dl6]; omega)⟩
      rw [show uF F 0 (nI 0) 1 = nI T.length from f1, show aA T S M Rs Hs nX op st w = nI T.length by rw [aA, if_neg (by omega), if_neg (by omega), if_neg (by omega), if_neg (by omega), if_neg (by omega), if_neg (by omega), if_neg (by omega), if_neg (by omega), if_pos h9]]
      exact hP _
    · have h9 : w.toInt < 0 ∨ 8 < w.toInt := h0
      conv => whnf
      refine ⟨⟨_, rfl, rfl⟩, ?_, by first | omega | exact Nat.le_of_ble_eq_true rfl | (simp only [dl1, dl2, dl3, dl4, dl5, dl6]; omega), by first | omega | exact Nat.le_of_ble_eq_true rfl | (simp only [dl1, dl2, dl3, dl4, dl5, dl6]; omega)⟩
      rw [show aA T S M Rs Hs nX op st w = -1 by rw [aA, if_neg (by omega), if_neg (by omega), if_neg (by omega), if_neg (by omega), if_neg (by omega), if_neg (by omega), if_neg (by omega), if_neg (by omega), if_neg (by omega)]]
      exact hP _
  · rintro d pc lv g1 k0 n0 ⟨k, rfl, rfl, rfl, rfl, rfl, rfl, h9, hk1, hk⟩
    have f5' : uF F 0 (nI 0) 5 = nI Hs.length := f5
    conv => whnf
    refine ⟨_, _, h1.z, rfl, ?_⟩
    rw [f5']
    conv => whnf
    refine ⟨fun h5 => ?_, fun h5 => ?_⟩
    · have h6 := (q_ge (by omega) (by omega)).mp h5
      rw [List.take_of_length_le h6]
      conv => whnf
      refine ⟨⟨_, rfl, rfl⟩, ?_, by first | omega | exact Nat.le_of_ble_eq_true rfl | (simp only [dl1, dl2, dl3, dl4, dl5, dl6]; omega), by first | omega | exact Nat.le_of_ble_eq_true rfl | (simp only [dl1, dl2, dl3, dl4, dl5, dl6]; omega)⟩
      rw [show aA T S M Rs Hs nX op st w = nI (sumH Hs + min (op / 2) nX) by rw [aA, if_neg (by omega), if_neg (by omega), if_neg (by omega), if_neg (by omega), if_neg (by omega), if_neg (by omega), if_neg (by omega), if_pos h9]]
      exact hP _
    · have h6 : k < Hs.length := Nat.lt_of_not_le fun z => h5 ((q_ge (by omega) (by omega)).mpr z)
      have hX := List.getElem?_eq_getElem h6
      conv => whnf
      refine ⟨_, _, h1.z, rfl, ?_⟩
      conv => whnf
      refine Or.inl ⟨1, _, _, k, h1.a14, rfl, rfl, by omega, by first | decide | omega, ?_⟩
      rw [(hse.2 k _ hX).2.1]
      conv => whnf
      exact ⟨rfl, _, _, by omega, ⟨k + 1, rfl, rfl, rfl, rfl, rfl, rfl, h9, by omega, Or.inl h6⟩, rfl, by
        show some (Value.int (nI (sumH (Hs.take k) + min (op / 2) nX) + nI Hs[k].2.1)) = some (Value.int (nI (sumH (Hs.take (k + 1)) + min (op / 2) nX)))
        rw [nI_add, sumH_s hX hk1, show sumH (Hs.take k) + Hs[k].2.1 + min (op / 2) nX = sumH (Hs.take k) + min (op / 2) nX + Hs[k].2.1 by omega], sI k, trivial⟩
end MQ
