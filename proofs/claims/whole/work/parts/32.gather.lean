/-! MirrorKeep$Changes: note, gather -/
section GATHER
variable {l : Launch} {D : va_G} {aC : Nat → ClassId}
abbrev rc (m : Nat) (f : Nat → Option Nat) : g_C := .inl (3, m, .inr (.inr (.inr (.inr f))))
theorem note_post {U : List Nat} {g : g_H} {c oa na : Nat} {X : List Chg} {fo fn : Nat → Option Nat} (a1 : g c = some (.inr (4, [.ref oa, .ref na, .int (nI X.length)]))) (a2 : g oa = some (rc 180 fo)) (a3 : g na = some (rc 180 fn)) (a4 : oa ≠ na) (a5 : X.length < 180)
    (a6 : ∀ i x, X[i]? = some x → oR U g (fo i) x.1 ∧ oR U g (fn i) x.2) (hc : c ∈ U) (ho : oa ∈ U) (hn : na ∈ U) {x y : Option Nat} {o n : Option Ent} (hx : oR U g x o) (hy : oR U g y n) :
    chs U (g_up (g_up (g_up g oa (rc 180 (va_up fo X.length x))) na (rc 180 (va_up fn X.length y))) c (.inr (4, [.ref oa, .ref na, .int (nI (X.length + 1))]))) c oa na (X ++ [(o, n)]) := by
  have n1 : c ≠ oa := g_ne a1 a2 (by simp)
  have n2 : c ≠ na := g_ne a1 a3 (by simp)
  have hfx : fx [c, oa, na] g (g_up (g_up (g_up g oa (rc 180 (va_up fo X.length x))) na (rc 180 (va_up fn X.length y))) c (.inr (4, [.ref oa, .ref na, .int (nI (X.length + 1))]))) := fx_up (fx_up (fx_up fx_rf (by simp)) (by simp)) (by simp)
  have hs : ∀ q ∈ [c, oa, na], q ∈ U := by
    intro q hq
    simp only [List.mem_cons, List.not_mem_nil, or_false] at hq
    rcases hq with rfl | rfl | rfl <;> assumption
  refine ⟨va_up fo X.length x, va_up fn X.length y, by rw [g_up_s, List.length_append]; rfl, ?_, ?_, a4, by simp; omega, fun i z hz => ?_⟩
  · rw [g_up_n n1.symm, g_up_n a4, g_up_s]
  · rw [g_up_n n2.symm, g_up_s]
  · by_cases hi : i < X.length
    · rw [List.getElem?_append_left hi] at hz
      rw [va_up_ne _ _ (by omega), va_up_ne _ _ (by omega)]
      exact ⟨oR_fx (a6 i z hz).1 hfx hs, oR_fx (a6 i z hz).2 hfx hs⟩
    · have h2 := (List.getElem?_eq_some_iff.mp hz).1
      have h3 : i = X.length := by simp at h2; omega
      subst h3
      rw [List.getElem?_append_right (Nat.le_refl _), Nat.sub_self] at hz
      cases hz
      rw [va_up_self, va_up_self]
      exact ⟨oR_fx hx hfx hs, oR_fx hy hfx hs⟩
theorem c_C_note (hfl : l.flags = pinnedFlags ++ [noTraceFlag]) {U : List Nat} {c oa na : Nat} {X : List Chg} {v w : Value} {o n : Option Ent} {g : g_H} (h : chs U g c oa na X) (hX : X.length < 180) (hc : c ∈ U) (ho : oa ∈ U) (hn : na ∈ U) (hv : oE U g v o) (hw : oE U g w n) : k_CT l D aC n_C_note 0 0 [.ref c, v, w] g (fun oc g1 => oc = .inl none ∧ chs U g1 c oa na (noteL X o n) ∧ fx [c, oa, na] g g1) := by
  have h0 := h
  obtain ⟨fo, fn, a1, a2, a3, a4, a5, a6⟩ := h
  have n1 : c ≠ oa := g_ne a1 a2 (by simp)
  have n2 : c ≠ na := g_ne a1 a3 (by simp)
  have hv0 := hv
  have hw0 := hw
  cases o with
  | none =>
    cases hv
    cases n with
    | none =>
      cases hw
      refine k_ln hfl n_C_note ok_C_note rfl rfl rfl rfl rfl rfl (fun h => by cases h) (Nat.le_of_ble_eq_true rfl) 80 ?_
      conv => whnf
      refine ⟨(Nat.le_of_ble_eq_true rfl), _, _, _, c_C_isChange (U := U) hfl hv0 hw0, by first | omega | exact Nat.le_of_ble_eq_true rfl | (simp only [dl1, dl2, dl3, dl4, dl5, dl6]; omega), by first | omega | exact Nat.le_of_ble_eq_true rfl | (simp only [dl1, dl2, dl3, dl4, dl5, dl6]; omega), k_rl ?_, k_rr⟩
      cases hh : isCh (none : Option Ent) (none : Option Ent)
      · conv => whnf
        refine ⟨fun _ => ?_, fun h => absurd b2_f h⟩
        conv => whnf
        refine ⟨rfl, ?_, by first | omega | exact Nat.le_of_ble_eq_true rfl | (simp only [dl1, dl2, dl3, dl4, dl5, dl6]; omega), by first | omega | exact Nat.le_of_ble_eq_true rfl | (simp only [dl1, dl2, dl3, dl4, dl5, dl6]; omega)⟩
        exact ⟨rfl, by rw [noteL, hh]; exact h0, fx_rf⟩
      · conv => whnf
        refine ⟨fun h => absurd h b2_t, fun _ => ?_⟩
        conv => whnf
        refine ⟨_, _, a1, rfl, ?_⟩
        conv => whnf
        refine ⟨fun h => absurd h (fun z => absurd ((q_ge (by omega) (by decide)).mp z) (by omega)), fun _ => ?_⟩
        conv => whnf
        refine ⟨_, _, a1, rfl, ?_⟩
        conv => whnf
        refine ⟨_, _, a1, rfl, ?_⟩
        conv => whnf
        refine ⟨3, 180, _, _, _, a2, rfl, rfl, hX, by decide, ?_⟩
        conv => whnf
        refine ⟨_, _, (by rw [g_up_n n1]; exact a1), rfl, ?_⟩
        conv => whnf
        refine ⟨_, _, (by rw [g_up_n n1]; exact a1), rfl, ?_⟩
        conv => whnf
        refine ⟨3, 180, _, _, _, by rw [g_up_n a4.symm]; exact a3, rfl, rfl, hX, by decide, ?_⟩
        conv => whnf
        refine ⟨_, _, (by rw [g_up_n n2, g_up_n n1]; exact a1), rfl, ?_⟩
        conv => whnf
        refine ⟨_, (by rw [g_up_n n2, g_up_n n1]; exact a1), by simp, rfl, rfl, ?_⟩
        conv => whnf
        refine ⟨rfl, ?_, by first | omega | exact Nat.le_of_ble_eq_true rfl | (simp only [dl1, dl2, dl3, dl4, dl5, dl6]; omega), by first | omega | exact Nat.le_of_ble_eq_true rfl | (simp only [dl1, dl2, dl3, dl4, dl5, dl6]; omega)⟩
        refine ⟨rfl, ?_, fx_up (fx_up (fx_up fx_rf (by simp)) (by simp)) (by simp)⟩
        rw [noteL, hh, nI_add]
        exact note_post a1 a2 a3 a4 hX a6 hc ho hn (x := none) rfl (y := none) rfl
    | some F =>
      obtain ⟨b, rfl, hF⟩ := hw
      obtain ⟨p2, c2, d1, -, -, d4, -⟩ := id hF
      refine k_ln hfl n_C_note ok_C_note rfl rfl rfl rfl rfl rfl (fun h => by cases h) (Nat.le_of_ble_eq_true rfl) 80 ?_
      conv => whnf
      refine ⟨(Nat.le_of_ble_eq_true rfl), _, _, _, c_C_isChange (U := U) hfl hv0 hw0, by first | omega | exact Nat.le_of_ble_eq_true rfl | (simp only [dl1, dl2, dl3, dl4, dl5, dl6]; omega), by first | omega | exact Nat.le_of_ble_eq_true rfl | (simp only [dl1, dl2, dl3, dl4, dl5, dl6]; omega), k_rl ?_, k_rr⟩
      cases hh : isCh (none : Option Ent) (some F)
      · conv => whnf
        refine ⟨fun _ => ?_, fun h => absurd b2_f h⟩
        conv => whnf
        refine ⟨rfl, ?_, by first | omega | exact Nat.le_of_ble_eq_true rfl | (simp only [dl1, dl2, dl3, dl4, dl5, dl6]; omega), by first | omega | exact Nat.le_of_ble_eq_true rfl | (simp only [dl1, dl2, dl3, dl4, dl5, dl6]; omega)⟩
        exact ⟨rfl, by rw [noteL, hh]; exact h0, fx_rf⟩
      · conv => whnf
        refine ⟨fun h => absurd h b2_t, fun _ => ?_⟩
        conv => whnf
        refine ⟨_, _, a1, rfl, ?_⟩
        conv => whnf
        refine ⟨fun h => absurd h (fun z => absurd ((q_ge (by omega) (by decide)).mp z) (by omega)), fun _ => ?_⟩
        conv => whnf
        refine ⟨_, _, a1, rfl, ?_⟩
        conv => whnf
        refine ⟨_, _, a1, rfl, ?_⟩
        conv => whnf
        refine ⟨3, 180, _, _, _, a2, rfl, rfl, hX, by decide, ?_⟩
        conv => whnf
        refine ⟨_, _, (by rw [g_up_n n1]; exact a1), rfl, ?_⟩
        conv => whnf
        refine ⟨_, _, (by rw [g_up_n n1]; exact a1), rfl, ?_⟩
        conv => whnf
        refine ⟨3, 180, _, _, 3, _, by rw [g_up_n a4.symm]; exact a3, by rw [g_up_n (fun z => d4 (by rw [z]; exact ho))]; exact d1, rfl, rfl, rfl, hX, by decide, ?_⟩
        conv => whnf
        refine ⟨_, _, (by rw [g_up_n n2, g_up_n n1]; exact a1), rfl, ?_⟩
        conv => whnf
        refine ⟨_, (by rw [g_up_n n2, g_up_n n1]; exact a1), by simp, rfl, rfl, ?_⟩
        conv => whnf
        refine ⟨rfl, ?_, by first | omega | exact Nat.le_of_ble_eq_true rfl | (simp only [dl1, dl2, dl3, dl4, dl5, dl6]; omega), by first | omega | exact Nat.le_of_ble_eq_true rfl | (simp only [dl1, dl2, dl3, dl4, dl5, dl6]; omega)⟩
        refine ⟨rfl, ?_, fx_up (fx_up (fx_up fx_rf (by simp)) (by simp)) (by simp)⟩
        rw [noteL, hh, nI_add]
        exact note_post a1 a2 a3 a4 hX a6 hc ho hn (x := none) rfl (y := some b) ⟨b, rfl, hF⟩
  | some E =>
    obtain ⟨a, rfl, hE⟩ := hv
    obtain ⟨p1, c1, e1, -, -, e4, -⟩ := id hE
    cases n with
    | none =>
      cases hw
      refine k_ln hfl n_C_note ok_C_note rfl rfl rfl rfl rfl rfl (fun h => by cases h) (Nat.le_of_ble_eq_true rfl) 80 ?_
      conv => whnf
      refine ⟨(Nat.le_of_ble_eq_true rfl), _, _, _, c_C_isChange (U := U) hfl hv0 hw0, by first | omega | exact Nat.le_of_ble_eq_true rfl | (simp only [dl1, dl2, dl3, dl4, dl5, dl6]; omega), by first | omega | exact Nat.le_of_ble_eq_true rfl | (simp only [dl1, dl2, dl3, dl4, dl5, dl6]; omega), k_rl ?_, k_rr⟩
      cases hh : isCh (some E) (none : Option Ent)
      · conv => whnf
        refine ⟨fun _ => ?_, fun h => absurd b2_f h⟩
        conv => whnf
        refine ⟨rfl, ?_, by first | omega | exact Nat.le_of_ble_eq_true rfl | (simp only [dl1, dl2, dl3, dl4, dl5, dl6]; omega), by first | omega | exact Nat.le_of_ble_eq_true rfl | (simp only [dl1, dl2, dl3, dl4, dl5, dl6]; omega)⟩
        exact ⟨rfl, by rw [noteL, hh]; exact h0, fx_rf⟩
      · conv => whnf
        refine ⟨fun h => absurd h b2_t, fun _ => ?_⟩
        conv => whnf
        refine ⟨_, _, a1, rfl, ?_⟩
        conv => whnf
        refine ⟨fun h => absurd h (fun z => absurd ((q_ge (by omega) (by decide)).mp z) (by omega)), fun _ => ?_⟩
        conv => whnf
        refine ⟨_, _, a1, rfl, ?_⟩
        conv => whnf
        refine ⟨_, _, a1, rfl, ?_⟩
        conv => whnf
        refine ⟨3, 180, _, _, 3, _, a2, e1, rfl, rfl, rfl, hX, by decide, ?_⟩
        conv => whnf
        refine ⟨_, _, (by rw [g_up_n n1]; exact a1), rfl, ?_⟩
        conv => whnf
        refine ⟨_, _, (by rw [g_up_n n1]; exact a1), rfl, ?_⟩
        conv => whnf
        refine ⟨3, 180, _, _, _, by rw [g_up_n a4.symm]; exact a3, rfl, rfl, hX, by decide, ?_⟩
        conv => whnf
        refine ⟨_, _, (by rw [g_up_n n2, g_up_n n1]; exact a1), rfl, ?_⟩
        conv => whnf
        refine ⟨_, (by rw [g_up_n n2, g_up_n n1]; exact a1), by simp, rfl, rfl, ?_⟩
        conv => whnf
        refine ⟨rfl, ?_, by first | omega | exact Nat.le_of_ble_eq_true rfl | (simp only [dl1, dl2, dl3, dl4, dl5, dl6]; omega), by first | omega | exact Nat.le_of_ble_eq_true rfl | (simp only [dl1, dl2, dl3, dl4, dl5, dl6]; omega)⟩
        refine ⟨rfl, ?_, fx_up (fx_up (fx_up fx_rf (by simp)) (by simp)) (by simp)⟩
        rw [noteL, hh, nI_add]
        exact note_post a1 a2 a3 a4 hX a6 hc ho hn (x := some a) ⟨a, rfl, hE⟩ (y := none) rfl
    | some F =>
      obtain ⟨b, rfl, hF⟩ := hw
      obtain ⟨p2, c2, d1, -, -, d4, -⟩ := id hF
      refine k_ln hfl n_C_note ok_C_note rfl rfl rfl rfl rfl rfl (fun h => by cases h) (Nat.le_of_ble_eq_true rfl) 80 ?_
      conv => whnf
      refine ⟨(Nat.le_of_ble_eq_true rfl), _, _, _, c_C_isChange (U := U) hfl hv0 hw0, by first | omega | exact Nat.le_of_ble_eq_true rfl | (simp only [dl1, dl2, dl3, dl4, dl5, dl6]; omega), by first | omega | exact Nat.le_of_ble_eq_true rfl | (simp only [dl1, dl2, dl3, dl4, dl5, dl6]; omega), k_rl ?_, k_rr⟩
      cases hh : isCh (some E) (some F)
      · conv => whnf
        refine ⟨fun _ => ?_, fun h => absurd b2_f h⟩
        conv => whnf
        refine ⟨rfl, ?_, by first | omega | exact Nat.le_of_ble_eq_true rfl | (simp only [dl1, dl2, dl3, dl4, dl5, dl6]; omega), by first | omega | exact Nat.le_of_ble_eq_true rfl | (simp only [dl1, dl2, dl3, dl4, dl5, dl6]; omega)⟩
        exact ⟨rfl, by rw [noteL, hh]; exact h0, fx_rf⟩
      · conv => whnf
        refine ⟨fun h => absurd h b2_t, fun _ => ?_⟩
        conv => whnf
        refine ⟨_, _, a1, rfl, ?_⟩
        conv => whnf
        refine ⟨fun h => absurd h (fun z => absurd ((q_ge (by omega) (by decide)).mp z) (by omega)), fun _ => ?_⟩
        conv => whnf
        refine ⟨_, _, a1, rfl, ?_⟩
        conv => whnf
        refine ⟨_, _, a1, rfl, ?_⟩
        conv => whnf
        refine ⟨3, 180, _, _, 3, _, a2, e1, rfl, rfl, rfl, hX, by decide, ?_⟩
        conv => whnf
        refine ⟨_, _, (by rw [g_up_n n1]; exact a1), rfl, ?_⟩
        conv => whnf
        refine ⟨_, _, (by rw [g_up_n n1]; exact a1), rfl, ?_⟩
        conv => whnf
        refine ⟨3, 180, _, _, 3, _, by rw [g_up_n a4.symm]; exact a3, by rw [g_up_n (fun z => d4 (by rw [z]; exact ho))]; exact d1, rfl, rfl, rfl, hX, by decide, ?_⟩
        conv => whnf
        refine ⟨_, _, (by rw [g_up_n n2, g_up_n n1]; exact a1), rfl, ?_⟩
        conv => whnf
        refine ⟨_, (by rw [g_up_n n2, g_up_n n1]; exact a1), by simp, rfl, rfl, ?_⟩
        conv => whnf
        refine ⟨rfl, ?_, by first | omega | exact Nat.le_of_ble_eq_true rfl | (simp only [dl1, dl2, dl3, dl4, dl5, dl6]; omega), by first | omega | exact Nat.le_of_ble_eq_true rfl | (simp only [dl1, dl2, dl3, dl4, dl5, dl6]; omega)⟩
        refine ⟨rfl, ?_, fx_up (fx_up (fx_up fx_rf (by simp)) (by simp)) (by simp)⟩
        rw [noteL, hh, nI_add]
        exact note_post a1 a2 a3 a4 hX a6 hc ho hn (x := some a) ⟨a, rfl, hE⟩ (y := some b) ⟨b, rfl, hF⟩
theorem noteL_len (X : List Chg) (o n : Option Ent) : (noteL X o n).length ≤ X.length + 1 := by
  unfold noteL
  split <;> simp
theorem cmpO_bound {U : List Nat} {g : g_H} {v w : Value} {o n : Option Ent} (hv : oE U g v o) (hw : oE U g w n) : -258 ≤ cmpO o n ∧ cmpO o n ≤ 258 := by
  cases o with
  | none => exact ⟨by show (-258 : Int) ≤ 1; decide, by show (1 : Int) ≤ 258; decide⟩
  | some E => cases n with
    | none => exact ⟨by show (-258 : Int) ≤ -1; decide, by show (-1 : Int) ≤ 258; decide⟩
    | some F =>
      obtain ⟨a, -, ⟨p, c, -, e2, -⟩⟩ := hv
      obtain ⟨b, -, ⟨p1, c1, -, d2, -⟩⟩ := hw
      exact cmp_b e2 d2
theorem head_drop {α : Type} (L : List α) (i : Nat) : (L.drop i).head? = L[i]? := by rw [List.head?_drop]
theorem tail_drop' {α : Type} (L : List α) (i : Nat) : (L.drop i).tail = L.drop (i + 1) := List.tail_drop
theorem dif_step {f : Nat} {L M : List Ent} {i j : Nat} {o n : Option Ent} (ho : L[i]? = o) (hn : M[j]? = n) : difL (f + 1) (L.drop i) (M.drop j) = noteL [] (if cmpO o n ≤ 0 then o else none) (if 0 ≤ cmpO o n then n else none) ++ difL f (L.drop (if cmpO o n ≤ 0 then i + 1 else i)) (M.drop (if 0 ≤ cmpO o n then j + 1 else j)) := by
  rw [difL, head_drop, head_drop, tail_drop', tail_drop', ho, hn]
  congr 1
  split <;> split <;> rfl
set_option maxHeartbeats 1000000 in
theorem c_C_gather (hfl : l.flags = pinnedFlags ++ [noTraceFlag]) {U : List Nat} {c oa na s sa t ta : Nat} {X0 : List Chg} {L M : List Ent} {g : g_H} (h : chs U g c oa na X0) (hL : tr U g s sa L) (hM : tr U g t ta M) (hlm : L.length + M.length ≤ 180) (hc : c ∈ U) (ho : oa ∈ U) (hn : na ∈ U) : k_CT l D aC n_C_gather 0 0 [.ref c, .ref s, .ref t] g (fun oc g1 => oc = .inl none ∧ chs U g1 c oa na (difL (L.length + M.length) L M) ∧ fx [c, oa, na] g g1) := by
  obtain ⟨fo0, fn0, b1, b2', b3, b4, b5, b6⟩ := h
  have hs : ∀ q ∈ [c, oa, na], q ∈ U := by
    intro q hq
    simp only [List.mem_cons, List.not_mem_nil, or_false] at hq
    rcases hq with rfl | rfl | rfl <;> assumption
  have n1 : c ≠ oa := g_ne b1 b2' (by simp)
  have n2 : c ≠ na := g_ne b1 b3 (by simp)
  have hap : ∀ {x xa : Nat} {N : List Ent}, tr U g x xa N → x ∉ [c, oa, na] ∧ xa ∉ [c, oa, na] := by
    intro x xa N hN
    obtain ⟨f, a1, a2, a3, a4⟩ := hN
    refine ⟨fun z => ?_, fun z => ?_⟩
    · simp only [List.mem_cons, List.not_mem_nil, or_false] at z
      rcases z with z | z | z
      · exact g_ne a1 b1 (by simp) z
      · exact g_ne a1 b2' (by simp) z
      · exact g_ne a1 b3 (by simp) z
    · simp only [List.mem_cons, List.not_mem_nil, or_false] at z
      rcases z with z | z | z
      · exact g_ne a2 b1 (by simp) z
      · exact g_ne a2 b2' (by simp) z
      · exact g_ne a2 b3 (by simp) z
  have hL9 : ∀ {g1}, fx [c, oa, na] g g1 → tr U g1 s sa L := fun hf => tr_fx hL hf hs (hap hL).1 (hap hL).2
  have hM9 : ∀ {g1}, fx [c, oa, na] g g1 → tr U g1 t ta M := fun hf => tr_fx hM hf hs (hap hM).1 (hap hM).2
  generalize hT : L.length + M.length = T
  refine k_while hfl n_C_gather ok_C_gather rfl rfl rfl rfl rfl rfl (fun h => by cases h) (Nat.le_of_ble_eq_true rfl) [24, 97] (fun pc d lv g1 k n => (∃ tn i j X, pc = 24 ∧ d = 2 * (T - tn) ∧ lv = [(0, .ref c), (1, .ref s), (2, .ref t), (3, .int (nI i)), (4, .int (nI j)), (5, .int (nI T)), (6, .int (nI tn))] ∧ k = 0 ∧ n = 0 ∧ chs U g1 c oa na X ∧ fx [c, oa, na] g g1 ∧ tn ≤ T ∧ X.length ≤ tn ∧ i ≤ tn ∧ j ≤ tn ∧ X ++ difL (T - tn) (L.drop i) (M.drop j) = difL T L M) ∨ (∃ tn i j X, pc = 97 ∧ d = 2 * (T - tn) - 1 ∧ lv = [(0, .ref c), (1, .ref s), (2, .ref t), (3, .int (nI i)), (4, .int (nI j)), (5, .int (nI T)), (6, .int (nI tn))] ∧ k = 0 ∧ n = 0 ∧ chs U g1 c oa na X ∧ fx [c, oa, na] g g1 ∧ tn < T ∧ X.length ≤ tn + 1 ∧ i ≤ tn + 1 ∧ j ≤ tn + 1 ∧ X ++ difL (T - (tn + 1)) (L.drop i) (M.drop j) = difL T L M)) 60 ?_ 80 ?_
  · conv => whnf
    refine ⟨_, b1, by simp, rfl, rfl, ?_⟩
    have hfx : fx [c, oa, na] g (g_up g c (.inr (4, List.set [Value.ref oa, .ref na, .int (nI X0.length)] 2 (.int (nI 0))))) := fx_up fx_rf (by simp)
    obtain ⟨f1, d1, -⟩ := id (hL9 hfx)
    obtain ⟨f2, d2, -⟩ := id (hM9 hfx)
    conv => whnf
    refine ⟨⟨_, d1⟩, (Nat.le_of_ble_eq_true rfl), _, _, _, c_R_size' (U := U) hfl (hL9 hfx), by first | omega | exact Nat.le_of_ble_eq_true rfl | (simp only [dl1, dl2, dl3, dl4, dl5, dl6]; omega), by first | omega | exact Nat.le_of_ble_eq_true rfl | (simp only [dl1, dl2, dl3, dl4, dl5, dl6]; omega), k_rl ?_, k_rr⟩
    conv => whnf
    refine ⟨⟨_, d2⟩, (Nat.le_of_ble_eq_true rfl), _, _, _, c_R_size' (U := U) hfl (hM9 hfx), by first | omega | exact Nat.le_of_ble_eq_true rfl | (simp only [dl1, dl2, dl3, dl4, dl5, dl6]; omega), by first | omega | exact Nat.le_of_ble_eq_true rfl | (simp only [dl1, dl2, dl3, dl4, dl5, dl6]; omega), k_rl ?_, k_rr⟩
    conv => whnf
    refine ⟨rfl, _, _, Or.inl ⟨0, 0, 0, [], rfl, rfl, rfl, rfl, rfl, ⟨fo0, fn0, g_up_s, by rw [g_up_n n1.symm]; exact b2', by rw [g_up_n n2.symm]; exact b3, b4, by simp, fun i x h => by simp at h⟩, hfx, by omega, by simp, by omega, by omega, by simp⟩, rfl, rfl, rfl, rfl, rfl, ?_, rfl, trivial⟩
    rw [← hT, ← nI_add]
    rfl
  · rintro d pc lv g1 k n (⟨tn, i, j, X, rfl, rfl, rfl, rfl, rfl, hch, hfx, hle, hXl, hi, hj, heq⟩ | ⟨tn, i, j, X, rfl, rfl, rfl, rfl, rfl, hch, hfx, hlt, hXl, hi, hj, heq⟩)
    · conv => whnf
      refine ⟨fun h => ?_, fun h => ?_⟩
      · have h9 := (q_ge (by omega) (by omega)).mp h
        have h8 : T - tn = 0 := by omega
        rw [h8, difL, List.append_nil] at heq
        conv => whnf
        refine ⟨rfl, ?_, by first | omega | exact Nat.le_of_ble_eq_true rfl | (simp only [dl1, dl2, dl3, dl4, dl5, dl6]; omega), by first | omega | exact Nat.le_of_ble_eq_true rfl | (simp only [dl1, dl2, dl3, dl4, dl5, dl6]; omega)⟩
        rw [← heq]
        exact ⟨rfl, hch, hfx⟩
      · have hlt : tn < T := Nat.lt_of_not_le fun z => h ((q_ge (by omega) (by omega)).mpr z)
        have hsub : T - tn = T - (tn + 1) + 1 := by omega
        obtain ⟨f1, d1, -⟩ := id (hL9 hfx)
        obtain ⟨f2, d2, -⟩ := id (hM9 hfx)
        obtain ⟨fo, fn, ch1, -⟩ := id hch
        conv => whnf
        refine ⟨⟨_, d1⟩, (Nat.le_of_ble_eq_true rfl), _, _, _, c_R_entryAt' (U := U) hfl (hL9 hfx), by first | omega | exact Nat.le_of_ble_eq_true rfl | (simp only [dl1, dl2, dl3, dl4, dl5, dl6]; omega), by first | omega | exact Nat.le_of_ble_eq_true rfl | (simp only [dl1, dl2, dl3, dl4, dl5, dl6]; omega), fun v g1 hh => ?_, fun C g1 hh => ?_⟩
        · obtain ⟨rfl, v, hv0, hv⟩ := hh
          cases hv0
          rw [atI_nI (by omega)] at hv
          cases ho7 : L[i]? with
          | none =>
            rw [ho7] at hv
            cases hv
            conv => whnf
            refine ⟨⟨_, d2⟩, (Nat.le_of_ble_eq_true rfl), _, _, _, c_R_entryAt' (U := U) hfl (hM9 hfx), by first | omega | exact Nat.le_of_ble_eq_true rfl | (simp only [dl1, dl2, dl3, dl4, dl5, dl6]; omega), by first | omega | exact Nat.le_of_ble_eq_true rfl | (simp only [dl1, dl2, dl3, dl4, dl5, dl6]; omega), fun v g1 hh => ?_, fun C g1 hh => ?_⟩
            · obtain ⟨rfl, w, hv0, hw⟩ := hh
              cases hv0
              rw [atI_nI (by omega)] at hw
              have hv : oE U g1 .null none := rfl
              have hcb := cmpO_bound hv hw
              have hcs : 0 < cmpO none M[j]? := by show (0 : Int) < 1; decide
              cases ho8 : M[j]? with
              | none =>
                rw [ho8] at hw hcb hcs
                cases hw
                have hw : oE U g1 .null none := rfl
                conv => whnf
                refine ⟨(Nat.le_of_ble_eq_true rfl), _, _, _, c_C_compare (U := U) hfl hv hw, by first | omega | exact Nat.le_of_ble_eq_true rfl | (simp only [dl1, dl2, dl3, dl4, dl5, dl6]; omega), by first | omega | exact Nat.le_of_ble_eq_true rfl | (simp only [dl1, dl2, dl3, dl4, dl5, dl6]; omega), k_rl ?_, k_rr⟩
                conv => whnf
                refine ⟨fun _ => ?_, fun h => absurd ((cmp_gt0 hcb.1 hcb.2).mpr hcs) h⟩
                conv => whnf
                refine ⟨fun h => absurd h (fun z => absurd ((cmp_lt0 hcb.1 hcb.2).mp z) (by omega)), fun _ => ?_⟩
                conv => whnf
                refine ⟨fun _ => ?_, fun h => absurd ((cmp_gt0 hcb.1 hcb.2).mpr hcs) h⟩
                conv => whnf
                refine ⟨fun h => absurd h (fun z => absurd ((cmp_lt0 hcb.1 hcb.2).mp z) (by omega)), fun _ => ?_⟩
                conv => whnf
                refine ⟨⟨_, ch1⟩, (Nat.le_of_ble_eq_true rfl), _, _, _, c_C_note (U := U) hfl hch (by omega) hc ho hn (v := .null) (o := none) rfl hw, by first | omega | exact Nat.le_of_ble_eq_true rfl | (simp only [dl1, dl2, dl3, dl4, dl5, dl6]; omega), by first | omega | exact Nat.le_of_ble_eq_true rfl | (simp only [dl1, dl2, dl3, dl4, dl5, dl6]; omega), fun v g1 hh => ?_, fun C g1 hh => ?_⟩
                · obtain ⟨hv9, hch2, hfx2⟩ := hh
                  cases hv9
                  have hl := noteL_len X none none
                  conv => whnf
                  refine ⟨rfl, _, _, ?_, Or.inr ⟨tn, i, j + 1, _, rfl, rfl, rfl, rfl, rfl, hch2, fx_tr hfx hfx2, hlt, by omega, by omega, by omega, ?_⟩, rfl, rfl, rfl, rfl, sI j, rfl, rfl, trivial⟩
                  · omega
                  · rw [noteL_app, List.append_assoc, ← heq, hsub, dif_step ho7 ho8, if_neg (by omega), if_pos (by omega), if_neg (by omega), if_pos (by omega)]
                · cases hh.1
              | some F =>
                rw [ho8] at hw hcb hcs
                obtain ⟨b, rfl, hF⟩ := id hw
                conv => whnf
                refine ⟨(Nat.le_of_ble_eq_true rfl), _, _, _, c_C_compare (U := U) hfl hv hw, by first | omega | exact Nat.le_of_ble_eq_true rfl | (simp only [dl1, dl2, dl3, dl4, dl5, dl6]; omega), by first | omega | exact Nat.le_of_ble_eq_true rfl | (simp only [dl1, dl2, dl3, dl4, dl5, dl6]; omega), k_rl ?_, k_rr⟩
                conv => whnf
                refine ⟨fun _ => ?_, fun h => absurd ((cmp_gt0 hcb.1 hcb.2).mpr hcs) h⟩
                conv => whnf
                refine ⟨fun h => absurd h (fun z => absurd ((cmp_lt0 hcb.1 hcb.2).mp z) (by omega)), fun _ => ?_⟩
                conv => whnf
                refine ⟨fun _ => ?_, fun h => absurd ((cmp_gt0 hcb.1 hcb.2).mpr hcs) h⟩
                conv => whnf
                refine ⟨fun h => absurd h (fun z => absurd ((cmp_lt0 hcb.1 hcb.2).mp z) (by omega)), fun _ => ?_⟩
                conv => whnf
                refine ⟨⟨_, ch1⟩, (Nat.le_of_ble_eq_true rfl), _, _, _, c_C_note (U := U) hfl hch (by omega) hc ho hn (v := .null) (o := none) rfl hw, by first | omega | exact Nat.le_of_ble_eq_true rfl | (simp only [dl1, dl2, dl3, dl4, dl5, dl6]; omega), by first | omega | exact Nat.le_of_ble_eq_true rfl | (simp only [dl1, dl2, dl3, dl4, dl5, dl6]; omega), fun v g1 hh => ?_, fun C g1 hh => ?_⟩
                · obtain ⟨hv9, hch2, hfx2⟩ := hh
                  cases hv9
                  have hl := noteL_len X none (some F)
                  conv => whnf
                  refine ⟨rfl, _, _, ?_, Or.inr ⟨tn, i, j + 1, _, rfl, rfl, rfl, rfl, rfl, hch2, fx_tr hfx hfx2, hlt, by omega, by omega, by omega, ?_⟩, rfl, rfl, rfl, rfl, sI j, rfl, rfl, trivial⟩
                  · omega
                  · rw [noteL_app, List.append_assoc, ← heq, hsub, dif_step ho7 ho8, if_neg (by omega), if_pos (by omega), if_neg (by omega), if_pos (by omega)]
                · cases hh.1
            · obtain ⟨-, w, hw, -⟩ := hh
              cases hw
          | some E =>
            rw [ho7] at hv
            obtain ⟨b, rfl, hE⟩ := id hv
            conv => whnf
            refine ⟨⟨_, d2⟩, (Nat.le_of_ble_eq_true rfl), _, _, _, c_R_entryAt' (U := U) hfl (hM9 hfx), by first | omega | exact Nat.le_of_ble_eq_true rfl | (simp only [dl1, dl2, dl3, dl4, dl5, dl6]; omega), by first | omega | exact Nat.le_of_ble_eq_true rfl | (simp only [dl1, dl2, dl3, dl4, dl5, dl6]; omega), fun v g1 hh => ?_, fun C g1 hh => ?_⟩
            · obtain ⟨rfl, w, hv0, hw⟩ := hh
              cases hv0
              rw [atI_nI (by omega)] at hw
              have hcb := cmpO_bound hv hw
              cases ho8 : M[j]? with
              | none =>
                rw [ho8] at hw hcb
                cases hw
                have hw : oE U g1 .null none := rfl
                have hcs : cmpO (some E) none < 0 := by show (-1 : Int) < 0; decide
                conv => whnf
                refine ⟨(Nat.le_of_ble_eq_true rfl), _, _, _, c_C_compare (U := U) hfl hv hw, by first | omega | exact Nat.le_of_ble_eq_true rfl | (simp only [dl1, dl2, dl3, dl4, dl5, dl6]; omega), by first | omega | exact Nat.le_of_ble_eq_true rfl | (simp only [dl1, dl2, dl3, dl4, dl5, dl6]; omega), k_rl ?_, k_rr⟩
                conv => whnf
                refine ⟨fun h => absurd h (fun z => absurd ((cmp_gt0 hcb.1 hcb.2).mp z) (by omega)), fun _ => ?_⟩
                conv => whnf
                refine ⟨fun _ => ?_, fun h => absurd ((cmp_lt0 hcb.1 hcb.2).mpr hcs) h⟩
                conv => whnf
                refine ⟨fun h => absurd h (fun z => absurd ((cmp_gt0 hcb.1 hcb.2).mp z) (by omega)), fun _ => ?_⟩
                conv => whnf
                refine ⟨fun _ => ?_, fun h => absurd ((cmp_lt0 hcb.1 hcb.2).mpr hcs) h⟩
                conv => whnf
                refine ⟨⟨_, ch1⟩, (Nat.le_of_ble_eq_true rfl), _, _, _, c_C_note (U := U) hfl hch (by omega) hc ho hn hv (w := .null) (n := none) rfl, by first | omega | exact Nat.le_of_ble_eq_true rfl | (simp only [dl1, dl2, dl3, dl4, dl5, dl6]; omega), by first | omega | exact Nat.le_of_ble_eq_true rfl | (simp only [dl1, dl2, dl3, dl4, dl5, dl6]; omega), fun v g1 hh => ?_, fun C g1 hh => ?_⟩
                · obtain ⟨hv9, hch2, hfx2⟩ := hh
                  cases hv9
                  have hl := noteL_len X (some E) none
                  conv => whnf
                  refine ⟨rfl, _, _, ?_, Or.inr ⟨tn, i + 1, j, _, rfl, rfl, rfl, rfl, rfl, hch2, fx_tr hfx hfx2, hlt, by omega, by omega, by omega, ?_⟩, rfl, rfl, rfl, sI i, rfl, rfl, rfl, trivial⟩
                  · omega
                  · rw [noteL_app, List.append_assoc, ← heq, hsub, dif_step ho7 ho8, if_pos (by omega), if_neg (by omega), if_pos (by omega), if_neg (by omega)]
                · cases hh.1
              | some F =>
                rw [ho8] at hw hcb
                obtain ⟨b, rfl, hF⟩ := id hw
                conv => whnf
                refine ⟨(Nat.le_of_ble_eq_true rfl), _, _, _, c_C_compare (U := U) hfl hv hw, by first | omega | exact Nat.le_of_ble_eq_true rfl | (simp only [dl1, dl2, dl3, dl4, dl5, dl6]; omega), by first | omega | exact Nat.le_of_ble_eq_true rfl | (simp only [dl1, dl2, dl3, dl4, dl5, dl6]; omega), k_rl ?_, k_rr⟩
                rcases Int.lt_trichotomy (cmpO (some E) (some F)) 0 with hcs | hcs | hcs
                · conv => whnf
                  refine ⟨fun h => absurd h (fun z => absurd ((cmp_gt0 hcb.1 hcb.2).mp z) (by omega)), fun _ => ?_⟩
                  conv => whnf
                  refine ⟨fun _ => ?_, fun h => absurd ((cmp_lt0 hcb.1 hcb.2).mpr hcs) h⟩
                  conv => whnf
                  refine ⟨fun h => absurd h (fun z => absurd ((cmp_gt0 hcb.1 hcb.2).mp z) (by omega)), fun _ => ?_⟩
                  conv => whnf
                  refine ⟨fun _ => ?_, fun h => absurd ((cmp_lt0 hcb.1 hcb.2).mpr hcs) h⟩
                  conv => whnf
                  refine ⟨⟨_, ch1⟩, (Nat.le_of_ble_eq_true rfl), _, _, _, c_C_note (U := U) hfl hch (by omega) hc ho hn hv (w := .null) (n := none) rfl, by first | omega | exact Nat.le_of_ble_eq_true rfl | (simp only [dl1, dl2, dl3, dl4, dl5, dl6]; omega), by first | omega | exact Nat.le_of_ble_eq_true rfl | (simp only [dl1, dl2, dl3, dl4, dl5, dl6]; omega), fun v g1 hh => ?_, fun C g1 hh => ?_⟩
                  · obtain ⟨hv9, hch2, hfx2⟩ := hh
                    cases hv9
                    have hl := noteL_len X (some E) none
                    conv => whnf
                    refine ⟨rfl, _, _, ?_, Or.inr ⟨tn, i + 1, j, _, rfl, rfl, rfl, rfl, rfl, hch2, fx_tr hfx hfx2, hlt, by omega, by omega, by omega, ?_⟩, rfl, rfl, rfl, sI i, rfl, rfl, rfl, trivial⟩
                    · omega
                    · rw [noteL_app, List.append_assoc, ← heq, hsub, dif_step ho7 ho8, if_pos (by omega), if_neg (by omega), if_pos (by omega), if_neg (by omega)]
                  · cases hh.1
                · conv => whnf
                  refine ⟨fun h => absurd h (fun z => absurd ((cmp_gt0 hcb.1 hcb.2).mp z) (by omega)), fun _ => ?_⟩
                  conv => whnf
                  refine ⟨fun h => absurd h (fun z => absurd ((cmp_lt0 hcb.1 hcb.2).mp z) (by omega)), fun _ => ?_⟩
                  conv => whnf
                  refine ⟨fun h => absurd h (fun z => absurd ((cmp_gt0 hcb.1 hcb.2).mp z) (by omega)), fun _ => ?_⟩
                  conv => whnf
                  refine ⟨fun h => absurd h (fun z => absurd ((cmp_lt0 hcb.1 hcb.2).mp z) (by omega)), fun _ => ?_⟩
                  conv => whnf
                  refine ⟨⟨_, ch1⟩, (Nat.le_of_ble_eq_true rfl), _, _, _, c_C_note (U := U) hfl hch (by omega) hc ho hn hv hw, by first | omega | exact Nat.le_of_ble_eq_true rfl | (simp only [dl1, dl2, dl3, dl4, dl5, dl6]; omega), by first | omega | exact Nat.le_of_ble_eq_true rfl | (simp only [dl1, dl2, dl3, dl4, dl5, dl6]; omega), fun v g1 hh => ?_, fun C g1 hh => ?_⟩
                  · obtain ⟨hv9, hch2, hfx2⟩ := hh
                    cases hv9
                    have hl := noteL_len X (some E) (some F)
                    conv => whnf
                    refine ⟨rfl, _, _, ?_, Or.inr ⟨tn, i + 1, j + 1, _, rfl, rfl, rfl, rfl, rfl, hch2, fx_tr hfx hfx2, hlt, by omega, by omega, by omega, ?_⟩, rfl, rfl, rfl, sI i, sI j, rfl, rfl, trivial⟩
                    · omega
                    · rw [noteL_app, List.append_assoc, ← heq, hsub, dif_step ho7 ho8, if_pos (by omega), if_pos (by omega), if_pos (by omega), if_pos (by omega)]
                  · cases hh.1
                · conv => whnf
                  refine ⟨fun _ => ?_, fun h => absurd ((cmp_gt0 hcb.1 hcb.2).mpr hcs) h⟩
                  conv => whnf
                  refine ⟨fun h => absurd h (fun z => absurd ((cmp_lt0 hcb.1 hcb.2).mp z) (by omega)), fun _ => ?_⟩
                  conv => whnf
                  refine ⟨fun _ => ?_, fun h => absurd ((cmp_gt0 hcb.1 hcb.2).mpr hcs) h⟩
                  conv => whnf
                  refine ⟨fun h => absurd h (fun z => absurd ((cmp_lt0 hcb.1 hcb.2).mp z) (by omega)), fun _ => ?_⟩
                  conv => whnf
                  refine ⟨⟨_, ch1⟩, (Nat.le_of_ble_eq_true rfl), _, _, _, c_C_note (U := U) hfl hch (by omega) hc ho hn (v := .null) (o := none) rfl hw, by first | omega | exact Nat.le_of_ble_eq_true rfl | (simp only [dl1, dl2, dl3, dl4, dl5, dl6]; omega), by first | omega | exact Nat.le_of_ble_eq_true rfl | (simp only [dl1, dl2, dl3, dl4, dl5, dl6]; omega), fun v g1 hh => ?_, fun C g1 hh => ?_⟩
                  · obtain ⟨hv9, hch2, hfx2⟩ := hh
                    cases hv9
                    have hl := noteL_len X none (some F)
                    conv => whnf
                    refine ⟨rfl, _, _, ?_, Or.inr ⟨tn, i, j + 1, _, rfl, rfl, rfl, rfl, rfl, hch2, fx_tr hfx hfx2, hlt, by omega, by omega, by omega, ?_⟩, rfl, rfl, rfl, rfl, sI j, rfl, rfl, trivial⟩
                    · omega
                    · rw [noteL_app, List.append_assoc, ← heq, hsub, dif_step ho7 ho8, if_neg (by omega), if_pos (by omega), if_neg (by omega), if_pos (by omega)]
                  · cases hh.1
            · obtain ⟨-, w, hw, -⟩ := hh
              cases hw
        · obtain ⟨-, w, hw, -⟩ := hh
          cases hw
    · conv => whnf
      refine ⟨rfl, _, _, ?_, Or.inl ⟨tn + 1, i, j, X, rfl, rfl, rfl, rfl, rfl, hch, hfx, by omega, hXl, hi, hj, heq⟩, rfl, rfl, rfl, rfl, rfl, rfl, sI tn, trivial⟩
      omega
end GATHER
