/-! MirrorKeep: step, regress, as a whole; the constructor -/
section KT2
variable {ad : Nat → Nat} {g : g_H} {R T : List Nat} {S M Rs : List Ent} {Hs : List Ses} {X : List Chg} {ch st tm dn : Int32} {rs : Nat}
variable {l : Launch} {D : va_G} {aC : Nat → ClassId}
theorem c_K_step_no (hfl : l.flags = pinnedFlags ++ [noTraceFlag]) (h : cK ad g R T S M Rs Hs X ch st tm dn rs) {x : Int32} (hs : ¬ st = nI 1) : k_CT l D aC n_K_step 16 4000 [.ref (ad 0), .int x] g (kO ad g (.inr IS) R T S M Rs Hs X ch st tm dn) := by
  refine k_while hfl n_K_step ok_K_step rfl rfl rfl rfl rfl rfl (fun h => by cases h) (Nat.le_of_ble_eq_true rfl) [38] (fun _ _ _ _ _ _ => False) 60 ?_ 80 ?_
  · conv => whnf
    refine ⟨_, _, h.2.1, rfl, ?_⟩
    conv => whnf
    refine ⟨fun h => absurd h hs, fun _ => ?_⟩
    conv => whnf
    refine ⟨(Nat.le_of_ble_eq_true rfl), kO_same h, by first | omega | exact Nat.le_of_ble_eq_true rfl | (simp only [dl1, dl2, dl3, dl4, dl5, dl6]; omega), by first | omega | exact Nat.le_of_ble_eq_true rfl | (simp only [dl1, dl2, dl3, dl4, dl5, dl6]; omega)⟩
  · intro d pc lv g k n z; exact z.elim
theorem c_K_step_bad (hfl : l.flags = pinnedFlags ++ [noTraceFlag]) (h : cK ad g R T S M Rs Hs X ch st tm dn rs) {x : Int32} (hs : st = nI 1) (hx : x.toInt < 0 ∨ 200 < x.toInt) : k_CT l D aC n_K_step 16 4000 [.ref (ad 0), .int x] g (kO ad g (.inr IA) R T S M Rs Hs X ch st tm dn) := by
  refine k_while hfl n_K_step ok_K_step rfl rfl rfl rfl rfl rfl (fun h => by cases h) (Nat.le_of_ble_eq_true rfl) [38] (fun _ _ _ _ _ _ => False) 60 ?_ 80 ?_
  · conv => whnf
    refine ⟨_, _, h.2.1, rfl, ?_⟩
    conv => whnf
    refine ⟨fun _ => ?_, fun h => absurd hs h⟩
    conv => whnf
    refine ⟨(Nat.le_of_ble_eq_true rfl), _, _, _, c_K_rm_no hfl hx, by first | omega | exact Nat.le_of_ble_eq_true rfl | (simp only [dl1, dl2, dl3, dl4, dl5, dl6]; omega), by first | omega | exact Nat.le_of_ble_eq_true rfl | (simp only [dl1, dl2, dl3, dl4, dl5, dl6]; omega), fun v g1 hh => ?_, fun C g1 hh => ?_⟩
    · cases hh.1
    · obtain ⟨hv, rfl⟩ := hh
      cases hv
      exact ⟨kO_same h, by first | omega | exact Nat.le_of_ble_eq_true rfl | (simp only [dl1, dl2, dl3, dl4, dl5, dl6]; omega), by first | omega | exact Nat.le_of_ble_eq_true rfl | (simp only [dl1, dl2, dl3, dl4, dl5, dl6]; omega)⟩
  · intro d pc lv g k n z; exact z.elim
def stP (ad : Nat → Nat) (g : g_H) (R T : List Nat) (S M Rs : List Ent) (Hs : List Ses) (X : List Chg) (ch tm : Int32) (op s : Nat) : x_O → g_H → Prop := if op + s < 2 * X.length + 3 then kO ad g (.inl (some (.int (nI s)))) R T S (itM X M op s) Rs Hs X ch (nI 1) tm (nI (op + s)) else kO ad g (.inl (some (.int (nI s)))) R T S (itM X M op s) Rs (Hs ++ [(tm, X.length, itM X M op s)]) X ch 0 tm 0
theorem c_K_step (hfl : l.flags = pinnedFlags ++ [noTraceFlag]) {op n : Nat} (h : cK ad g R T S M Rs Hs X ch (nI 1) tm (nI op) rs) (hn : n ≤ 200) (hop : op < 2 * X.length + 3) (hl : Hs.length < 40) (hroom : ∀ j, j ≤ min n (2 * X.length + 3 - op) → (itM X M op j).length ≤ 120) : k_CT l D aC n_K_step 16 4000 [.ref (ad 0), .int (nI n)] g (stP ad g R T S M Rs Hs X ch tm op (min n (2 * X.length + 3 - op))) := by
  obtain ⟨hj, z1, t1, s1, m1, r1, h1, c1, -⟩ := id h
  obtain ⟨f1, f2, c3, -, -, -, c4, -⟩ := id c1
  generalize hs0 : min n (2 * X.length + 3 - op) = s at hroom ⊢
  refine k_while hfl n_K_step ok_K_step rfl rfl rfl rfl rfl rfl (fun h => by cases h) (Nat.le_of_ble_eq_true rfl) [38] (fun pc d lv g1 k n => ∃ i, pc = 38 ∧ d = s - i ∧ lv = [(0, .ref (ad 0)), (2, .int (nI s)), (3, .int (nI i))] ∧ i ≤ s ∧ fx (UU ad) g g1 ∧ ((op + i < 2 * X.length + 3 ∧ k = 0 ∧ n = 0 ∧ ∃ rs, cK ad g1 R T S (itM X M op i) Rs Hs X ch (nI 1) tm (nI (op + i)) rs) ∨ (op + i = 2 * X.length + 3 ∧ k = 3 ∧ n = 125 ∧ ∃ rs, cK ad g1 R T S (itM X M op i) Rs (Hs ++ [(tm, X.length, itM X M op i)]) X ch 0 tm 0 rs))) 60 ?_ 80 ?_
  · conv => whnf
    refine ⟨_, _, h.2.1, rfl, ?_⟩
    conv => whnf
    refine ⟨fun _ => ?_, fun h => absurd rfl h⟩
    conv => whnf
    refine ⟨(Nat.le_of_ble_eq_true rfl), _, _, _, c_K_rm hfl (by rw [nI_toInt (by omega)]; omega) (by rw [nI_toInt (by omega)]; omega), by first | omega | exact Nat.le_of_ble_eq_true rfl | (simp only [dl1, dl2, dl3, dl4, dl5, dl6]; omega), by first | omega | exact Nat.le_of_ble_eq_true rfl | (simp only [dl1, dl2, dl3, dl4, dl5, dl6]; omega), k_rl ?_, k_rr⟩
    conv => whnf
    refine ⟨⟨_, h.2.1⟩, (Nat.le_of_ble_eq_true rfl), _, _, _, c_K_operations hfl h, by first | omega | exact Nat.le_of_ble_eq_true rfl | (simp only [dl1, dl2, dl3, dl4, dl5, dl6]; omega), by first | omega | exact Nat.le_of_ble_eq_true rfl | (simp only [dl1, dl2, dl3, dl4, dl5, dl6]; omega), k_rl ?_, k_rr⟩
    conv => whnf
    refine ⟨_, _, h.2.1, rfl, ?_⟩
    have e1 : nI (2 * X.length + 3) - nI op = nI (2 * X.length + 3 - op) := pk_sub (by omega)
    have hm := c_J_min (l := l) (D := D) (aC := aC) (g := g) hfl (a := n) (b := 2 * X.length + 3 - op) (by omega) (by omega)
    rw [← e1, hs0] at hm
    conv => whnf
    refine ⟨(Nat.le_of_ble_eq_true rfl), _, _, _, hm, by first | omega | exact Nat.le_of_ble_eq_true rfl | (simp only [dl1, dl2, dl3, dl4, dl5, dl6]; omega), by first | omega | exact Nat.le_of_ble_eq_true rfl | (simp only [dl1, dl2, dl3, dl4, dl5, dl6]; omega), k_rl ?_, k_rr⟩
    conv => whnf
    exact ⟨rfl, _, _, ⟨0, rfl, rfl, rfl, by omega, fx_rf, Or.inl ⟨by omega, rfl, rfl, rs, h⟩⟩, rfl, rfl, rfl, trivial⟩
  · rintro d pc lv g1 k n ⟨i, rfl, rfl, rfl, hi, hf, hst⟩
    conv => whnf
    refine ⟨fun h5 => ?_, fun h5 => ?_⟩
    · have h9 := (q_ge (by omega) (by omega)).mp h5
      obtain rfl : i = s := by omega
      unfold stP
      rcases hst with ⟨ha, rfl, rfl, rs1, hK⟩ | ⟨ha, rfl, rfl, rs1, hK⟩
      · rw [if_pos ha]
        conv => whnf
        refine ⟨⟨_, rfl, rfl⟩, ⟨rfl, hf, rs1, hK⟩, by first | omega | exact Nat.le_of_ble_eq_true rfl | (simp only [dl1, dl2, dl3, dl4, dl5, dl6]; omega), by first | omega | exact Nat.le_of_ble_eq_true rfl | (simp only [dl1, dl2, dl3, dl4, dl5, dl6]; omega)⟩
      · rw [if_neg (by omega)]
        conv => whnf
        refine ⟨⟨_, rfl, rfl⟩, ⟨rfl, hf, rs1, hK⟩, by first | omega | exact Nat.le_of_ble_eq_true rfl | (simp only [dl1, dl2, dl3, dl4, dl5, dl6]; omega), by first | omega | exact Nat.le_of_ble_eq_true rfl | (simp only [dl1, dl2, dl3, dl4, dl5, dl6]; omega)⟩
    · have h9 : i < s := Nat.lt_of_not_le fun z => h5 ((q_ge (by omega) (by omega)).mpr z)
      rcases hst with ⟨ha, rfl, rfl, rs1, hK⟩ | ⟨ha, rfl, rfl, rs1, hK⟩
      · by_cases hb : op + i + 1 < 2 * X.length + 3
        · conv => whnf
          refine ⟨⟨_, hK.2.1⟩, (Nat.le_of_ble_eq_true rfl), _, _, _, c_K_next hfl hK hb (hroom (i + 1) h9), by first | omega | exact Nat.le_of_ble_eq_true rfl | (simp only [dl1, dl2, dl3, dl4, dl5, dl6]; omega), by first | omega | exact Nat.le_of_ble_eq_true rfl | (simp only [dl1, dl2, dl3, dl4, dl5, dl6]; omega), fun v g2 hh => ?_, fun C g2 hh => ?_⟩
          · obtain ⟨hv, hf2, rs2, hK2⟩ := hh
            cases hv
            conv => whnf
            exact ⟨rfl, _, _, by omega, ⟨i + 1, rfl, rfl, rfl, h9, fx_tr hf hf2, Or.inl ⟨by omega, rfl, rfl, rs2, hK2⟩⟩, rfl, rfl, sI i, trivial⟩
          · cases hh.1
        · have hlast : itM X M op (i + 1) = itM X M op i := by
            rw [itM, upM, show op + i = 2 * X.length + 2 by omega, updB_end]
          conv => whnf
          refine ⟨⟨_, hK.2.1⟩, (Nat.le_of_ble_eq_true rfl), _, _, _, c_K_last hfl hK (by omega) hl, by first | omega | exact Nat.le_of_ble_eq_true rfl | (simp only [dl1, dl2, dl3, dl4, dl5, dl6]; omega), by first | omega | exact Nat.le_of_ble_eq_true rfl | (simp only [dl1, dl2, dl3, dl4, dl5, dl6]; omega), fun v g2 hh => ?_, fun C g2 hh => ?_⟩
          · obtain ⟨hv, hf2, rs2, hK2⟩ := hh
            cases hv
            conv => whnf
            exact ⟨rfl, _, _, by omega, ⟨i + 1, rfl, rfl, rfl, h9, fx_tr hf hf2, Or.inr ⟨by omega, rfl, rfl, rs2, by rw [hlast]; exact hK2⟩⟩, rfl, rfl, sI i, trivial⟩
          · cases hh.1
      · omega
theorem c_K_regress_no (hfl : l.flags = pinnedFlags ++ [noTraceFlag]) (h : cK ad g R T S M Rs Hs X ch st tm dn rs) {x : Int32} (hs : ¬ st = nI 2) : k_CT l D aC n_K_regress 16 4000 [.ref (ad 0), .int x] g (kO ad g (.inr IS) R T S M Rs Hs X ch st tm dn) := by
  refine k_while hfl n_K_regress ok_K_regress rfl rfl rfl rfl rfl rfl (fun h => by cases h) (Nat.le_of_ble_eq_true rfl) [33] (fun _ _ _ _ _ _ => False) 60 ?_ 80 ?_
  · conv => whnf
    refine ⟨_, _, h.2.1, rfl, ?_⟩
    conv => whnf
    refine ⟨fun h => absurd h hs, fun _ => ?_⟩
    conv => whnf
    refine ⟨(Nat.le_of_ble_eq_true rfl), kO_same h, by first | omega | exact Nat.le_of_ble_eq_true rfl | (simp only [dl1, dl2, dl3, dl4, dl5, dl6]; omega), by first | omega | exact Nat.le_of_ble_eq_true rfl | (simp only [dl1, dl2, dl3, dl4, dl5, dl6]; omega)⟩
  · intro d pc lv g k n z; exact z.elim
theorem c_K_regress_bad (hfl : l.flags = pinnedFlags ++ [noTraceFlag]) (h : cK ad g R T S M Rs Hs X ch st tm dn rs) {x : Int32} (hs : st = nI 2) (hx : x.toInt < 0 ∨ 200 < x.toInt) : k_CT l D aC n_K_regress 16 4000 [.ref (ad 0), .int x] g (kO ad g (.inr IA) R T S M Rs Hs X ch st tm dn) := by
  refine k_while hfl n_K_regress ok_K_regress rfl rfl rfl rfl rfl rfl (fun h => by cases h) (Nat.le_of_ble_eq_true rfl) [33] (fun _ _ _ _ _ _ => False) 60 ?_ 80 ?_
  · conv => whnf
    refine ⟨_, _, h.2.1, rfl, ?_⟩
    conv => whnf
    refine ⟨fun _ => ?_, fun h => absurd hs h⟩
    conv => whnf
    refine ⟨(Nat.le_of_ble_eq_true rfl), _, _, _, c_K_rm_no hfl hx, by first | omega | exact Nat.le_of_ble_eq_true rfl | (simp only [dl1, dl2, dl3, dl4, dl5, dl6]; omega), by first | omega | exact Nat.le_of_ble_eq_true rfl | (simp only [dl1, dl2, dl3, dl4, dl5, dl6]; omega), fun v g1 hh => ?_, fun C g1 hh => ?_⟩
    · cases hh.1
    · obtain ⟨hv, rfl⟩ := hh
      cases hv
      exact ⟨kO_same h, by first | omega | exact Nat.le_of_ble_eq_true rfl | (simp only [dl1, dl2, dl3, dl4, dl5, dl6]; omega), by first | omega | exact Nat.le_of_ble_eq_true rfl | (simp only [dl1, dl2, dl3, dl4, dl5, dl6]; omega)⟩
  · intro d pc lv g k n z; exact z.elim
theorem c_K_regress (hfl : l.flags = pinnedFlags ++ [noTraceFlag]) {op n : Nat} (h : cK ad g R T S M Rs Hs X ch (nI 2) tm (nI op) rs) (hn : n ≤ 200) (hop : op < 2 ^ 20) (hroom : ∀ j, j ≤ min n op → (itD X M op j).length ≤ 120) : k_CT l D aC n_K_regress 16 4000 [.ref (ad 0), .int (nI n)] g (kO ad g (.inl (some (.int (nI (min n op))))) R T S (itD X M op (min n op)) Rs Hs X ch (if op - min n op = 0 then 0 else nI 2) tm (nI (op - min n op))) := by
  obtain ⟨hj, z1, t1, s1, m1, r1, h1, c1, -⟩ := id h
  have hs1 : min n op ≤ op := by omega
  have hs2 : min n op ≤ 200 := by omega
  have hmn := c_J_min (l := l) (D := D) (aC := aC) (g := g) hfl (a := n) (b := op) (by omega) (by omega)
  generalize hs0 : min n op = s at hroom hs1 hs2 hmn ⊢
  refine k_while hfl n_K_regress ok_K_regress rfl rfl rfl rfl rfl rfl (fun h => by cases h) (Nat.le_of_ble_eq_true rfl) [33] (fun pc d lv g1 k n => ∃ i, pc = 33 ∧ d = s - i ∧ lv = [(0, .ref (ad 0)), (2, .int (nI s)), (3, .int (nI i))] ∧ i ≤ s ∧ fx (UU ad) g g1 ∧ k = 0 ∧ n = 0 ∧ ∃ rs, cK ad g1 R T S (itD X M op i) Rs Hs X ch (nI 2) tm (nI (op - i)) rs) 60 ?_ 80 ?_
  · conv => whnf
    refine ⟨_, _, h.2.1, rfl, ?_⟩
    conv => whnf
    refine ⟨fun _ => ?_, fun h => absurd rfl h⟩
    conv => whnf
    refine ⟨(Nat.le_of_ble_eq_true rfl), _, _, _, c_K_rm hfl (by rw [nI_toInt (by omega)]; omega) (by rw [nI_toInt (by omega)]; omega), by first | omega | exact Nat.le_of_ble_eq_true rfl | (simp only [dl1, dl2, dl3, dl4, dl5, dl6]; omega), by first | omega | exact Nat.le_of_ble_eq_true rfl | (simp only [dl1, dl2, dl3, dl4, dl5, dl6]; omega), k_rl ?_, k_rr⟩
    conv => whnf
    refine ⟨_, _, h.2.1, rfl, ?_⟩
    conv => whnf
    refine ⟨(Nat.le_of_ble_eq_true rfl), _, _, _, hmn, by first | omega | exact Nat.le_of_ble_eq_true rfl | (simp only [dl1, dl2, dl3, dl4, dl5, dl6]; omega), by first | omega | exact Nat.le_of_ble_eq_true rfl | (simp only [dl1, dl2, dl3, dl4, dl5, dl6]; omega), k_rl ?_, k_rr⟩
    conv => whnf
    exact ⟨rfl, _, _, ⟨0, rfl, rfl, rfl, by omega, fx_rf, rfl, rfl, rs, h⟩, rfl, rfl, rfl, trivial⟩
  · rintro d pc lv g1 k n ⟨i, rfl, rfl, rfl, hi, hf, rfl, rfl, rs1, hK⟩
    conv => whnf
    refine ⟨fun h5 => ?_, fun h5 => ?_⟩
    · have h9 := (q_ge (by omega) (by omega)).mp h5
      obtain rfl : i = s := by omega
      conv => whnf
      refine ⟨_, _, hK.2.1, rfl, ?_⟩
      conv => whnf
      refine ⟨fun h6 => ?_, fun h6 => ?_⟩
      · have h7 : op - i ≠ 0 := (q_ne0 (by omega)).mp h6
        rw [if_neg h7]
        conv => whnf
        refine ⟨⟨_, rfl, rfl⟩, ⟨rfl, hf, rs1, hK⟩, by first | omega | exact Nat.le_of_ble_eq_true rfl | (simp only [dl1, dl2, dl3, dl4, dl5, dl6]; omega), by first | omega | exact Nat.le_of_ble_eq_true rfl | (simp only [dl1, dl2, dl3, dl4, dl5, dl6]; omega)⟩
      · have h7 : op - i = 0 := Classical.not_not.mp fun z => h6 ((q_ne0 (by omega)).mpr z)
        rw [if_pos h7]
        conv => whnf
        refine ⟨_, hK.2.1, by simp, rfl, rfl, ?_⟩
        conv => whnf
        refine ⟨⟨_, rfl, rfl⟩, ⟨rfl, fx_up hf (iUU rfl), rs1, cK_z hK⟩, by first | omega | exact Nat.le_of_ble_eq_true rfl | (simp only [dl1, dl2, dl3, dl4, dl5, dl6]; omega), by first | omega | exact Nat.le_of_ble_eq_true rfl | (simp only [dl1, dl2, dl3, dl4, dl5, dl6]; omega)⟩
    · have h9 : i < s := Nat.lt_of_not_le fun z => h5 ((q_ge (by omega) (by omega)).mpr z)
      rw [show op - i = op - (i + 1) + 1 by omega] at hK
      conv => whnf
      refine ⟨⟨_, hK.2.1⟩, (Nat.le_of_ble_eq_true rfl), _, _, _, c_K_back hfl hK (by omega) (hroom (i + 1) h9), by first | omega | exact Nat.le_of_ble_eq_true rfl | (simp only [dl1, dl2, dl3, dl4, dl5, dl6]; omega), by first | omega | exact Nat.le_of_ble_eq_true rfl | (simp only [dl1, dl2, dl3, dl4, dl5, dl6]; omega), fun v g2 hh => ?_, fun C g2 hh => ?_⟩
      · obtain ⟨hv, hf2, rs2, hK2⟩ := hh
        cases hv
        conv => whnf
        exact ⟨rfl, _, _, by omega, ⟨i + 1, rfl, rfl, rfl, h9, fx_tr hf hf2, rfl, rfl, rs2, hK2⟩, rfl, rfl, sI i, trivial⟩
      · cases hh.1
end KT2
