/-! MirrorKeepModel: begin, step, crash, regress, restore, prune, differ -/
section MBG
variable {am : Nat → Nat} {A A1 : mA} {F F1 : mF} {g : g_H} {R T : List Nat} {S M Rs : List Ent} {Hs : List Ses} {O N : List Ent} {cp : Option (List Nat)} {st tv : Int32} {op nX : Nat}
variable {l : Launch} {D : va_G} {aC : Nat → ClassId}
theorem mR_13 (h : mR A F R T S M Rs Hs O N cp st tv op nX) (e : ∀ r, r ≠ 13 → r ≠ 14 → A1 r = A r) (e2 : ∀ q, q < Hs.length → A1 13 q = A 13 q ∧ A1 14 q = A 14 q) : mR A1 F R T S M Rs Hs O N cp st tv op nX := by
  obtain ⟨h1, h2, h3, h4, h5, h6, h7, h8, h9, h10⟩ := h
  have e1 : ∀ r, r < 11 → A1 r = A r := fun r hr => e r (by omega) (by omega)
  refine ⟨h1, by rw [e 11 (by decide) (by decide)]; exact h2, by rw [e 12 (by decide) (by decide)]; exact h3, tm_eq h4 e1, tm_eq h5 e1, tm_eq h6 e1, tm_eq h7 e1, tm_eq h8 e1, ⟨h9.1, fun i X hX => ?_⟩, cpR_eq h10 (e 15 (by decide) (by decide)) rfl rfl⟩
  have hi := (List.getElem?_eq_some_iff.mp hX).1
  obtain ⟨a, b, c⟩ := h9.2 i X hX
  exact ⟨(e2 i hi).1.trans a, (e2 i hi).2.trans b, tm_eq c e1⟩
theorem mR_tr {t : Nat} (h : mR A F R T S M Rs Hs O N cp st tv op nX) (hd : dif A A1 (Wt t)) (ht : 6 + Hs.length ≤ t) : mR A1 F R T S M Rs Hs O N cp st tv op nX := by
  obtain ⟨h1, h2, h3, h4, h5, h6, h7, h8, h9, h10⟩ := h
  refine ⟨h1, by rw [hi_dif hd (by decide)]; exact h2, by rw [hi_dif hd (by decide)]; exact h3, tm_dif h4 hd (by omega), tm_dif h5 hd (by omega), tm_dif h6 hd (by omega), tm_dif h7 hd (by omega), tm_dif h8 hd (by omega), ⟨h9.1, fun i X hX => ?_⟩, cpR_dif h10 hd⟩
  have hi := (List.getElem?_eq_some_iff.mp hX).1
  obtain ⟨a, b, c⟩ := h9.2 i X hX
  exact ⟨by rw [hi_dif hd (by decide)]; exact a, by rw [hi_dif hd (by decide)]; exact b, tm_dif c hd (by omega)⟩
theorem mR_push {X : Ses} (h : mR A F R T S M Rs Hs O N cp st tv op nX) (hl : Hs.length < 40) (h13 : A 13 Hs.length = X.1) (h14 : A 14 Hs.length = nI X.2.1) (ht : tm A (6 + Hs.length) X.2.2) : mR A (uF F 5 (nI (Hs.length + 1))) R T S M Rs (Hs ++ [X]) O N cp st tv op nX := by
  obtain ⟨⟨f1, f2, f3, f4, f5, f6⟩, h2, h3, h4, h5, h6, h7, h8, h9, h10⟩ := h
  refine ⟨⟨f1, f2, f3, f4, by rw [uF_s, List.length_append]; rfl, f6⟩, h2, h3, h4, h5, h6, h7, h8, ⟨by simp; omega, fun i Y hY => ?_⟩, cpR_eq h10 rfl rfl rfl⟩
  by_cases hi : i < Hs.length
  · rw [List.getElem?_append_left hi] at hY
    exact h9.2 i Y hY
  · have hi2 := (List.getElem?_eq_some_iff.mp hY).1
    have hi3 : i = Hs.length := by simp at hi2; omega
    subst hi3
    rw [List.getElem?_append_right (Nat.le_refl _), Nat.sub_self] at hY
    cases hY
    exact ⟨h13, h14, ht⟩
theorem mR_h0 (h : mR A F R T S M Rs Hs O N cp st tv op nX) : mR A (uF F 5 (nI 0)) R T S M Rs [] O N cp st tv op nX := by
  obtain ⟨⟨f1, f2, f3, f4, f5, f6⟩, h2, h3, h4, h5, h6, h7, h8, h9, h10⟩ := h
  exact ⟨⟨f1, f2, f3, f4, uF_s, f6⟩, h2, h3, h4, h5, h6, h7, h8, ⟨by simp, fun i X hX => by simp at hX⟩, cpR_eq h10 rfl rfl rfl⟩
theorem mR_hs {H1 : List Ses} (h : mR A (uF F 5 (nI 0)) R T S M Rs [] O N cp st tv op nX) (hs : seR A H1) : mR A (uF F 5 (nI H1.length)) R T S M Rs H1 O N cp st tv op nX := by
  obtain ⟨⟨f1, f2, f3, f4, f5, f6⟩, h2, h3, h4, h5, h6, h7, h8, h9, h10⟩ := h
  exact ⟨⟨f1, f2, f3, f4, uF_s, f6⟩, h2, h3, h4, h5, h6, h7, h8, hs, cpR_eq h10 rfl rfl rfl⟩
theorem beR_2 {x : Int32} (h : beR Hs x = 2) : 40 ≤ Hs.length := by
  unfold beR at h
  split at h
  · assumption
  · split at h <;> cases h
theorem c_M_begin_no (hfl : l.flags = pinnedFlags ++ [noTraceFlag]) (h : mg am A F g) (r : mR A F R T S M Rs Hs O N cp st tv op nX) {x : Int32} (hs : ¬ st = 0 ∨ beR Hs x = 2) : k_CT l D aC n_M_begin 0 0 [.ref (am 0), .int x] g (mO am g (.inl (some (.int (nI 0)))) 2 R T S M Rs Hs O N cp st tv op nX) := by
  obtain ⟨⟨-, f2, -, -, f5, -⟩, -, -, -, -, -, -, -, hse, -⟩ := id r
  have h1 := mg_z h (F1 := uF F 0 (nI 2))
  refine k_ln hfl n_M_begin ok_M_begin rfl rfl rfl rfl rfl rfl (fun h => by cases h) (Nat.le_of_ble_eq_true rfl) 60 ?_
  conv => whnf
  refine ⟨_, _, h.z, rfl, ?_⟩
  rw [f2]
  conv => whnf
  refine ⟨fun h5 => ?_, fun h5 => ?_⟩
  · conv => whnf
    refine ⟨_, h.z, by simp, rfl, rfl, ?_⟩
    conv => whnf
    refine ⟨_, _, h1.z, rfl, ?_⟩
    rw [show uF F 0 (nI 2) 0 = nI 2 from uF_s]
    conv => whnf
    refine ⟨fun h => absurd h (by simp only [w_cmp]; decide), fun _ => ?_⟩
    conv => whnf
    refine ⟨⟨_, rfl, rfl⟩, ⟨rfl, fx_up fx_rf (iUU rfl), A, _, h1, uF_s, mR_z r⟩, by first | omega | exact Nat.le_of_ble_eq_true rfl | (simp only [dl1, dl2, dl3, dl4, dl5, dl6]; omega), by first | omega | exact Nat.le_of_ble_eq_true rfl | (simp only [dl1, dl2, dl3, dl4, dl5, dl6]; omega)⟩
  · have hst : st = 0 := Classical.not_not.mp h5
    rcases hs with z | z
    · exact absurd hst z
    · have h40 := beR_2 z
      have := hse.1
      conv => whnf
      refine ⟨_, _, h.z, rfl, ?_⟩
      rw [f5]
      conv => whnf
      refine ⟨fun h => absurd h (fun y => (q_ne (by omega) (by decide)).mp y (by omega)), fun _ => ?_⟩
      conv => whnf
      refine ⟨_, h.z, by simp, rfl, rfl, ?_⟩
      conv => whnf
      refine ⟨_, _, h1.z, rfl, ?_⟩
      rw [show uF F 0 (nI 2) 0 = nI 2 from uF_s]
      conv => whnf
      refine ⟨fun h => absurd h (by simp only [w_cmp]; decide), fun _ => ?_⟩
      conv => whnf
      refine ⟨⟨_, rfl, rfl⟩, ⟨rfl, fx_up fx_rf (iUU rfl), A, _, h1, uF_s, mR_z r⟩, by first | omega | exact Nat.le_of_ble_eq_true rfl | (simp only [dl1, dl2, dl3, dl4, dl5, dl6]; omega), by first | omega | exact Nat.le_of_ble_eq_true rfl | (simp only [dl1, dl2, dl3, dl4, dl5, dl6]; omega)⟩
theorem c_M_begin_bad (hfl : l.flags = pinnedFlags ++ [noTraceFlag]) (h : mg am A F g) (r : mR A F R T S M Rs Hs O N cp st tv op nX) {x : Int32} (hs : st = 0) (hb : beR Hs x = 1) : k_CT l D aC n_M_begin 0 0 [.ref (am 0), .int x] g (mO am g (.inl (some (.int (nI 0)))) 1 R T S M Rs Hs O N cp st tv op nX) := by
  obtain ⟨⟨-, f2, -, -, f5, -⟩, -, -, -, -, -, -, -, hse, -⟩ := id r
  have h1 := mg_z h (F1 := uF F 0 (nI 1))
  have h40 : ¬ 40 ≤ Hs.length := fun z => by unfold beR at hb; rw [if_pos z] at hb; cases hb
  have hb2 : x.toInt < 0 ∨ ∃ S, Hs[Hs.length - 1]? = some S ∧ x.toInt ≤ S.1.toInt := by
    unfold beR at hb
    rw [if_neg h40] at hb
    split at hb
    · assumption
    · cases hb
  refine k_ln hfl n_M_begin ok_M_begin rfl rfl rfl rfl rfl rfl (fun h => by cases h) (Nat.le_of_ble_eq_true rfl) 60 ?_
  conv => whnf
  refine ⟨_, _, h.z, rfl, ?_⟩
  rw [f2]
  conv => whnf
  refine ⟨fun h => absurd h (fun y => y hs), fun _ => ?_⟩
  conv => whnf
  refine ⟨_, _, h.z, rfl, ?_⟩
  rw [f5]
  conv => whnf
  refine ⟨fun _ => ?_, fun h => absurd ((q_ne (by omega) (by decide)).mpr (by omega)) h⟩
  conv => whnf
  refine ⟨fun h5 => ?_, fun h5 => ?_⟩
  · conv => whnf
    refine ⟨_, h.z, by simp, rfl, rfl, ?_⟩
    conv => whnf
    refine ⟨_, _, h1.z, rfl, ?_⟩
    rw [show uF F 0 (nI 1) 0 = nI 1 from uF_s]
    conv => whnf
    refine ⟨fun h => absurd h (by simp only [w_cmp]; decide), fun _ => ?_⟩
    conv => whnf
    refine ⟨⟨_, rfl, rfl⟩, ⟨rfl, fx_up fx_rf (iUU rfl), A, _, h1, uF_s, mR_z r⟩, by first | omega | exact Nat.le_of_ble_eq_true rfl | (simp only [dl1, dl2, dl3, dl4, dl5, dl6]; omega), by first | omega | exact Nat.le_of_ble_eq_true rfl | (simp only [dl1, dl2, dl3, dl4, dl5, dl6]; omega)⟩
  · have k1 : ¬ x.toInt < 0 := h5
    rcases hb2 with z | ⟨X, hX, z⟩
    · exact absurd z k1
    · have hi := (List.getElem?_eq_some_iff.mp hX).1
      conv => whnf
      refine ⟨_, _, h.z, rfl, ?_⟩
      rw [f5]
      conv => whnf
      refine ⟨fun h => absurd h (fun y => by have := (q_le0 (by omega)).mp y; omega), fun _ => ?_⟩
      conv => whnf
      refine ⟨_, _, h.z, rfl, ?_⟩
      conv => whnf
      refine ⟨_, _, h.z, rfl, ?_⟩
      rw [f5]
      conv => whnf
      rw [pk_sub (by omega)]
      conv => whnf
      refine Or.inl ⟨1, _, _, Hs.length - 1, h.a13, rfl, rfl, by omega, by first | decide | omega, ?_⟩
      rw [(hse.2 _ X hX).1]
      conv => whnf
      refine ⟨fun h => absurd h (fun y => by have y : X.1.toInt < x.toInt := y; omega), fun _ => ?_⟩
      conv => whnf
      refine ⟨_, h.z, by simp, rfl, rfl, ?_⟩
      conv => whnf
      refine ⟨_, _, h1.z, rfl, ?_⟩
      rw [show uF F 0 (nI 1) 0 = nI 1 from uF_s]
      conv => whnf
      refine ⟨fun h => absurd h (by simp only [w_cmp]; decide), fun _ => ?_⟩
      conv => whnf
      refine ⟨⟨_, rfl, rfl⟩, ⟨rfl, fx_up fx_rf (iUU rfl), A, _, h1, uF_s, mR_z r⟩, by first | omega | exact Nat.le_of_ble_eq_true rfl | (simp only [dl1, dl2, dl3, dl4, dl5, dl6]; omega), by first | omega | exact Nat.le_of_ble_eq_true rfl | (simp only [dl1, dl2, dl3, dl4, dl5, dl6]; omega)⟩
theorem c_M_begin (hfl : l.flags = pinnedFlags ++ [noTraceFlag]) (h : mg am A F g) (r : mR A F R T S M Rs Hs O N cp st tv op nX) {x : Int32} (hs : st = 0) (hb : beR Hs x = 0) : k_CT l D aC n_M_begin 0 0 [.ref (am 0), .int x] g (mO am g (.inl (some (.int (nI (2 * (difL (M.length + S.length) M S).length + 3))))) 0 R T S M Rs Hs M S cp (nI 1) x 0 (difL (M.length + S.length) M S).length) := by
  obtain ⟨⟨-, f2, -, -, f5, -⟩, -, -, hS0, hM0, -, -, -, hse, -⟩ := id r
  have h40 : ¬ 40 ≤ Hs.length := fun z => by unfold beR at hb; rw [if_pos z] at hb; cases hb
  have hb2 : ¬ (x.toInt < 0 ∨ ∃ S, Hs[Hs.length - 1]? = some S ∧ x.toInt ≤ S.1.toInt) := by
    unfold beR at hb
    rw [if_neg h40] at hb
    split at hb
    · cases hb
    · assumption
  have h1 := mg_z h (F1 := uF F 0 (nI 0))
  have h2 := mg_z h1 (F1 := uF (uF F 0 (nI 0)) 2 (nI 1))
  have h3 := mg_z h2 (F1 := uF (uF (uF F 0 (nI 0)) 2 (nI 1)) 3 (nI 0))
  have h4 := mg_z h3 (F1 := uF (uF (uF (uF F 0 (nI 0)) 2 (nI 1)) 3 (nI 0)) 6 x)
  have r4 := mR_tv (tv1 := x) (mR_op (op1 := 0) (mR_st (st1 := nI 1) (mR_z (x := nI 0) r)))
  refine k_ln hfl n_M_begin ok_M_begin rfl rfl rfl rfl rfl rfl (fun h => by cases h) (Nat.le_of_ble_eq_true rfl) 120 ?_
  conv => whnf
  refine ⟨_, _, h.z, rfl, ?_⟩
  rw [f2]
  conv => whnf
  refine ⟨fun h => absurd h (fun y => y hs), fun _ => ?_⟩
  conv => whnf
  refine ⟨_, _, h.z, rfl, ?_⟩
  rw [f5]
  conv => whnf
  refine ⟨fun _ => ?_, fun h => absurd ((q_ne (by omega) (by decide)).mpr (by omega)) h⟩
  conv => whnf
  refine ⟨fun h => absurd h (show ¬ x.toInt < 0 from fun z => hb2 (Or.inl z)), fun _ => ?_⟩
  conv => whnf
  refine ⟨_, _, h.z, rfl, ?_⟩
  rw [f5]
  conv => whnf
  refine ⟨fun h9 => ?_, fun h9 => ?_⟩
  · conv => whnf
    refine ⟨_, h.z, by simp, rfl, rfl, ?_⟩
    conv => whnf
    refine ⟨_, _, h1.z, rfl, ?_⟩
    rw [show uF F 0 (nI 0) 0 = nI 0 from uF_s]
    conv => whnf
    refine ⟨fun _ => ?_, fun h => absurd (by simp only [w_cmp]; decide) h⟩
    conv => whnf
    refine ⟨_, h1.z, by simp, rfl, rfl, ?_⟩
    conv => whnf
    refine ⟨_, h2.z, by simp, rfl, rfl, ?_⟩
    conv => whnf
    refine ⟨_, h3.z, by simp, rfl, rfl, ?_⟩
    conv => whnf
    refine ⟨⟨_, h4.z⟩, (Nat.le_of_ble_eq_true rfl), _, _, _, c_M_copy hfl h4 (by decide) (by decide) (by decide) hM0, by first | omega | exact Nat.le_of_ble_eq_true rfl | (simp only [dl1, dl2, dl3, dl4, dl5, dl6]; omega), by first | omega | exact Nat.le_of_ble_eq_true rfl | (simp only [dl1, dl2, dl3, dl4, dl5, dl6]; omega), fun v g1 hh => ?_, fun C g1 hh => ?_⟩
    rotate_left
    · cases hh.1
    obtain ⟨hv, hfx, A1, h5', hd, ht3⟩ := hh
    cases hv
    have r5 := mR_3 r4 hd ht3
    conv => whnf
    refine ⟨⟨_, h5'.z⟩, (Nat.le_of_ble_eq_true rfl), _, _, _, c_M_copy hfl h5' (by decide) (by decide) (by decide) r5.2.2.2.1, by first | omega | exact Nat.le_of_ble_eq_true rfl | (simp only [dl1, dl2, dl3, dl4, dl5, dl6]; omega), by first | omega | exact Nat.le_of_ble_eq_true rfl | (simp only [dl1, dl2, dl3, dl4, dl5, dl6]; omega), fun v g2 hh => ?_, fun C g2 hh => ?_⟩
    rotate_left
    · cases hh.1
    obtain ⟨hv, hfx2, A2, h6, hd2, ht4⟩ := hh
    cases hv
    have r6 := mR_4 r5 hd2 ht4
    conv => whnf
    refine ⟨⟨_, h6.z⟩, (Nat.le_of_ble_eq_true rfl), _, _, _, c_M_joinN hfl h6 (by decide) (by decide) r6.2.2.2.2.2.2.1 ht4, by first | omega | exact Nat.le_of_ble_eq_true rfl | (simp only [dl1, dl2, dl3, dl4, dl5, dl6]; omega), by first | omega | exact Nat.le_of_ble_eq_true rfl | (simp only [dl1, dl2, dl3, dl4, dl5, dl6]; omega), k_rl ?_, k_rr⟩
    conv => whnf
    refine ⟨_, h6.z, by simp, rfl, rfl, ?_⟩
    have h7 := mg_z h6 (F1 := uF (uF (uF (uF (uF F 0 (nI 0)) 2 (nI 1)) 3 (nI 0)) 6 x) 4 (nI (difL (M.length + S.length) M S).length))
    conv => whnf
    refine ⟨_, _, h7.z, rfl, ?_⟩
    rw [show uF (uF (uF (uF (uF F 0 (nI 0)) 2 (nI 1)) 3 (nI 0)) 6 x) 4 (nI (difL (M.length + S.length) M S).length) 4 = nI (difL (M.length + S.length) M S).length from uF_s]
    conv => whnf
    rw [ix1]
    conv => whnf
    refine ⟨⟨_, rfl, rfl⟩, ⟨rfl, fx_up (fx_tr (fx_up (fx_up (fx_up (fx_up fx_rf (iUU rfl)) (iUU rfl)) (iUU rfl)) (iUU rfl)) (fx_tr hfx hfx2)) (iUU rfl), A2, _, h7, rfl, mR_nX r6⟩, by first | omega | exact Nat.le_of_ble_eq_true rfl | (simp only [dl1, dl2, dl3, dl4, dl5, dl6]; omega), by first | omega | exact Nat.le_of_ble_eq_true rfl | (simp only [dl1, dl2, dl3, dl4, dl5, dl6]; omega)⟩
  · have hp : 0 < Hs.length := Nat.pos_of_ne_zero fun z => h9 ((q_le0 (by omega)).mpr z)
    have hX := List.getElem?_eq_getElem (show Hs.length - 1 < Hs.length by omega)
    conv => whnf
    refine ⟨_, _, h.z, rfl, ?_⟩
    conv => whnf
    refine ⟨_, _, h.z, rfl, ?_⟩
    rw [f5]
    conv => whnf
    rw [pk_sub (by omega)]
    conv => whnf
    refine Or.inl ⟨1, _, _, Hs.length - 1, h.a13, rfl, rfl, by omega, by first | decide | omega, ?_⟩
    rw [(hse.2 _ _ hX).1]
    conv => whnf
    refine ⟨fun _ => ?_, fun h => absurd (show (Hs[Hs.length - 1]'(by omega)).1.toInt < x.toInt from Int.lt_of_not_ge fun z => hb2 (Or.inr ⟨_, hX, z⟩)) h⟩
    conv => whnf
    refine ⟨_, h.z, by simp, rfl, rfl, ?_⟩
    conv => whnf
    refine ⟨_, _, h1.z, rfl, ?_⟩
    rw [show uF F 0 (nI 0) 0 = nI 0 from uF_s]
    conv => whnf
    refine ⟨fun _ => ?_, fun h => absurd (by simp only [w_cmp]; decide) h⟩
    conv => whnf
    refine ⟨_, h1.z, by simp, rfl, rfl, ?_⟩
    conv => whnf
    refine ⟨_, h2.z, by simp, rfl, rfl, ?_⟩
    conv => whnf
    refine ⟨_, h3.z, by simp, rfl, rfl, ?_⟩
    conv => whnf
    refine ⟨⟨_, h4.z⟩, (Nat.le_of_ble_eq_true rfl), _, _, _, c_M_copy hfl h4 (by decide) (by decide) (by decide) hM0, by first | omega | exact Nat.le_of_ble_eq_true rfl | (simp only [dl1, dl2, dl3, dl4, dl5, dl6]; omega), by first | omega | exact Nat.le_of_ble_eq_true rfl | (simp only [dl1, dl2, dl3, dl4, dl5, dl6]; omega), fun v g1 hh => ?_, fun C g1 hh => ?_⟩
    rotate_left
    · cases hh.1
    obtain ⟨hv, hfx, A1, h5', hd, ht3⟩ := hh
    cases hv
    have r5 := mR_3 r4 hd ht3
    conv => whnf
    refine ⟨⟨_, h5'.z⟩, (Nat.le_of_ble_eq_true rfl), _, _, _, c_M_copy hfl h5' (by decide) (by decide) (by decide) r5.2.2.2.1, by first | omega | exact Nat.le_of_ble_eq_true rfl | (simp only [dl1, dl2, dl3, dl4, dl5, dl6]; omega), by first | omega | exact Nat.le_of_ble_eq_true rfl | (simp only [dl1, dl2, dl3, dl4, dl5, dl6]; omega), fun v g2 hh => ?_, fun C g2 hh => ?_⟩
    rotate_left
    · cases hh.1
    obtain ⟨hv, hfx2, A2, h6, hd2, ht4⟩ := hh
    cases hv
    have r6 := mR_4 r5 hd2 ht4
    conv => whnf
    refine ⟨⟨_, h6.z⟩, (Nat.le_of_ble_eq_true rfl), _, _, _, c_M_joinN hfl h6 (by decide) (by decide) r6.2.2.2.2.2.2.1 ht4, by first | omega | exact Nat.le_of_ble_eq_true rfl | (simp only [dl1, dl2, dl3, dl4, dl5, dl6]; omega), by first | omega | exact Nat.le_of_ble_eq_true rfl | (simp only [dl1, dl2, dl3, dl4, dl5, dl6]; omega), k_rl ?_, k_rr⟩
    conv => whnf
    refine ⟨_, h6.z, by simp, rfl, rfl, ?_⟩
    have h7 := mg_z h6 (F1 := uF (uF (uF (uF (uF F 0 (nI 0)) 2 (nI 1)) 3 (nI 0)) 6 x) 4 (nI (difL (M.length + S.length) M S).length))
    conv => whnf
    refine ⟨_, _, h7.z, rfl, ?_⟩
    rw [show uF (uF (uF (uF (uF F 0 (nI 0)) 2 (nI 1)) 3 (nI 0)) 6 x) 4 (nI (difL (M.length + S.length) M S).length) 4 = nI (difL (M.length + S.length) M S).length from uF_s]
    conv => whnf
    rw [ix1]
    conv => whnf
    refine ⟨⟨_, rfl, rfl⟩, ⟨rfl, fx_up (fx_tr (fx_up (fx_up (fx_up (fx_up fx_rf (iUU rfl)) (iUU rfl)) (iUU rfl)) (iUU rfl)) (fx_tr hfx hfx2)) (iUU rfl), A2, _, h7, rfl, mR_nX r6⟩, by first | omega | exact Nat.le_of_ble_eq_true rfl | (simp only [dl1, dl2, dl3, dl4, dl5, dl6]; omega), by first | omega | exact Nat.le_of_ble_eq_true rfl | (simp only [dl1, dl2, dl3, dl4, dl5, dl6]; omega)⟩
theorem c_M_updates (hfl : l.flags = pinnedFlags ++ [noTraceFlag]) (h : mg am A F g) (r : mR A F R T S M Rs Hs O N cp st tv op nX) (ho : op < 2 ^ 20) (hx : nX < 2 ^ 20) : k_CT l D aC n_M_updates 0 0 [.ref (am 0)] g (rt (some (.int (nI (upN nX op)))) g) := by
  obtain ⟨⟨-, -, f3, f4, -⟩, -⟩ := id r
  refine k_ln hfl n_M_updates ok_M_updates rfl rfl rfl rfl rfl rfl (fun h => by cases h) (Nat.le_of_ble_eq_true rfl) 60 ?_
  conv => whnf
  refine ⟨_, _, h.z, rfl, ?_⟩
  rw [f3]
  conv => whnf
  refine ⟨fun h5 => ?_, fun h5 => ?_⟩
  · have h6 : 1 ≤ op := (q_ge (by omega) (by decide)).mp h5
    conv => whnf
    refine ⟨_, _, h.z, rfl, ?_⟩
    rw [f3]
    conv => whnf
    rw [pk_sub h6]
    conv => whnf
    refine ⟨by decide, ?_⟩
    rw [pk_div (by omega) (by decide) (by decide)]
    conv => whnf
    refine ⟨_, _, h.z, rfl, ?_⟩
    rw [f4]
    conv => whnf
    refine ⟨fun h5 => ?_, fun h5 => ?_⟩
    · have h7 := (q_ge (by omega) (by omega)).mp h5
      conv => whnf
      refine ⟨_, _, h.z, rfl, ?_⟩
      rw [f4]
      conv => whnf
      refine ⟨⟨_, rfl, rfl⟩, ⟨?_, rfl⟩, by first | omega | exact Nat.le_of_ble_eq_true rfl | (simp only [dl1, dl2, dl3, dl4, dl5, dl6]; omega), by first | omega | exact Nat.le_of_ble_eq_true rfl | (simp only [dl1, dl2, dl3, dl4, dl5, dl6]; omega)⟩
      rw [upN, if_neg (by omega), Nat.min_eq_right h7]
    · have h7 : (op - 1) / 2 < nX := Nat.lt_of_not_le fun z => h5 ((q_ge (by omega) (by omega)).mpr z)
      conv => whnf
      refine ⟨_, _, h.z, rfl, ?_⟩
      rw [f3]
      conv => whnf
      rw [pk_sub h6]
      conv => whnf
      refine ⟨by decide, ?_⟩
      rw [pk_div (by omega) (by decide) (by decide)]
      conv => whnf
      refine ⟨⟨_, rfl, rfl⟩, ⟨?_, rfl⟩, by first | omega | exact Nat.le_of_ble_eq_true rfl | (simp only [dl1, dl2, dl3, dl4, dl5, dl6]; omega), by first | omega | exact Nat.le_of_ble_eq_true rfl | (simp only [dl1, dl2, dl3, dl4, dl5, dl6]; omega)⟩
      rw [upN, if_neg (by omega), Nat.min_eq_left (by omega)]
  · have h6 : ¬ 1 ≤ op := fun z => h5 ((q_ge (by omega) (by decide)).mpr z)
    conv => whnf
    refine ⟨⟨_, rfl, rfl⟩, ⟨?_, rfl⟩, by first | omega | exact Nat.le_of_ble_eq_true rfl | (simp only [dl1, dl2, dl3, dl4, dl5, dl6]; omega), by first | omega | exact Nat.le_of_ble_eq_true rfl | (simp only [dl1, dl2, dl3, dl4, dl5, dl6]; omega)⟩
    rw [upN, if_pos (by omega)]
theorem c_M_increments (hfl : l.flags = pinnedFlags ++ [noTraceFlag]) (h : mg am A F g) (r : mR A F R T S M Rs Hs O N cp st tv op nX) (ho : op < 2 ^ 20) (hx : nX < 2 ^ 20) : k_CT l D aC n_M_increments 0 0 [.ref (am 0)] g (rt (some (.int (nI (min (op / 2) nX)))) g) := by
  obtain ⟨⟨-, -, f3, f4, -⟩, -⟩ := id r
  refine k_ln hfl n_M_increments ok_M_increments rfl rfl rfl rfl rfl rfl (fun h => by cases h) (Nat.le_of_ble_eq_true rfl) 60 ?_
  conv => whnf
  refine ⟨_, _, h.z, rfl, ?_⟩
  rw [f3]
  conv => whnf
  refine ⟨by decide, ?_⟩
  rw [pk_div (by omega) (by decide) (by decide)]
  conv => whnf
  refine ⟨_, _, h.z, rfl, ?_⟩
  rw [f4]
  conv => whnf
  refine ⟨fun h5 => ?_, fun h5 => ?_⟩
  · have h7 := (q_ge (by omega) (by omega)).mp h5
    conv => whnf
    refine ⟨_, _, h.z, rfl, ?_⟩
    rw [f4]
    conv => whnf
    refine ⟨⟨_, rfl, rfl⟩, ⟨?_, rfl⟩, by first | omega | exact Nat.le_of_ble_eq_true rfl | (simp only [dl1, dl2, dl3, dl4, dl5, dl6]; omega), by first | omega | exact Nat.le_of_ble_eq_true rfl | (simp only [dl1, dl2, dl3, dl4, dl5, dl6]; omega)⟩
    rw [Nat.min_eq_right h7]
  · have h7 : op / 2 < nX := Nat.lt_of_not_le fun z => h5 ((q_ge (by omega) (by omega)).mpr z)
    conv => whnf
    refine ⟨_, _, h.z, rfl, ?_⟩
    rw [f3]
    conv => whnf
    refine ⟨by decide, ?_⟩
    rw [pk_div (by omega) (by decide) (by decide)]
    conv => whnf
    refine ⟨⟨_, rfl, rfl⟩, ⟨?_, rfl⟩, by first | omega | exact Nat.le_of_ble_eq_true rfl | (simp only [dl1, dl2, dl3, dl4, dl5, dl6]; omega), by first | omega | exact Nat.le_of_ble_eq_true rfl | (simp only [dl1, dl2, dl3, dl4, dl5, dl6]; omega)⟩
    rw [Nat.min_eq_left (by omega)]
theorem c_M_mirror (hfl : l.flags = pinnedFlags ++ [noTraceFlag]) (h : mg am A F g) (r : mR A F R T S M Rs Hs O N cp st tv op nX) (hO : good O) (hN : good N) (ho : op < 2 ^ 20) (hx : nX = (difL (O.length + N.length) O N).length) : k_CT l D aC n_M_mirror 0 0 [.ref (am 0)] g (fun oc g1 => oc = .inl none ∧ fx (UU am) g g1 ∧ ∃ A1, mg am A1 F g1 ∧ mR A1 F R T S (mir O N op) Rs Hs O N cp st tv op nX) := by
  have hm := mir_size hO.1 hN.1 op
  have hd0 := difL_len (O.length + N.length) O N
  have l1 := hO.2.1
  have l2 := hN.2.1
  have l3 := hO.2.2.1
  have l4 := hN.2.2.1
  have hup : upN nX op ≤ nX := by unfold upN; split <;> omega
  have hj := c_M_join (l := l) (D := D) (aC := aC) hfl h (s := 3) (t := 4) (to := 1) (u := upN nX op) (by decide) (by decide) (by decide) (by decide) (by decide) (by omega) r.2.2.2.2.2.2.1 r.2.2.2.2.2.2.2.1 (by rw [hx]; exact Nat.le_trans hm.1 (by omega)) (by rw [hx]; exact Nat.le_trans hm.2 (by omega))
  refine k_ln hfl n_M_mirror ok_M_mirror rfl rfl rfl rfl rfl rfl (fun h => by cases h) (Nat.le_of_ble_eq_true rfl) 60 ?_
  conv => whnf
  refine ⟨⟨_, h.z⟩, (Nat.le_of_ble_eq_true rfl), _, _, _, c_M_updates hfl h r ho (by omega), by first | omega | exact Nat.le_of_ble_eq_true rfl | (simp only [dl1, dl2, dl3, dl4, dl5, dl6]; omega), by first | omega | exact Nat.le_of_ble_eq_true rfl | (simp only [dl1, dl2, dl3, dl4, dl5, dl6]; omega), k_rl ?_, k_rr⟩
  conv => whnf
  refine ⟨⟨_, h.z⟩, (Nat.le_of_ble_eq_true rfl), _, _, _, hj, by first | omega | exact Nat.le_of_ble_eq_true rfl | (simp only [dl1, dl2, dl3, dl4, dl5, dl6]; omega), by first | omega | exact Nat.le_of_ble_eq_true rfl | (simp only [dl1, dl2, dl3, dl4, dl5, dl6]; omega), fun v g1 hh => ?_, fun C g1 hh => ?_⟩
  · obtain ⟨hv, hfx, A1, h1, hd, ht⟩ := hh
    cases hv
    rw [hx] at ht
    conv => whnf
    refine ⟨rfl, ⟨rfl, hfx, A1, h1, mR_1 r hd ht⟩, by first | omega | exact Nat.le_of_ble_eq_true rfl | (simp only [dl1, dl2, dl3, dl4, dl5, dl6]; omega), by first | omega | exact Nat.le_of_ble_eq_true rfl | (simp only [dl1, dl2, dl3, dl4, dl5, dl6]; omega)⟩
  · cases hh.1
theorem c_M_step_no (hfl : l.flags = pinnedFlags ++ [noTraceFlag]) (h : mg am A F g) (r : mR A F R T S M Rs Hs O N cp st tv op nX) {x : Int32} (hs : ¬ st = nI 1) : k_CT l D aC n_M_step 0 0 [.ref (am 0), .int x] g (mO am g (.inl (some (.int (nI 0)))) 1 R T S M Rs Hs O N cp st tv op nX) := by
  obtain ⟨⟨-, f2, -⟩, -⟩ := id r
  have h1 := mg_z h (F1 := uF F 0 (nI 1))
  refine k_ln hfl n_M_step ok_M_step rfl rfl rfl rfl rfl rfl (fun h => by cases h) (Nat.le_of_ble_eq_true rfl) 60 ?_
  conv => whnf
  refine ⟨_, _, h.z, rfl, ?_⟩
  rw [f2]
  conv => whnf
  refine ⟨fun h => absurd h hs, fun _ => ?_⟩
  conv => whnf
  refine ⟨_, h.z, by simp, rfl, rfl, ?_⟩
  conv => whnf
  refine ⟨_, _, h1.z, rfl, ?_⟩
  rw [show uF F 0 (nI 1) 0 = nI 1 from uF_s]
  conv => whnf
  refine ⟨fun h => absurd h (by simp only [w_cmp]; decide), fun _ => ?_⟩
  conv => whnf
  refine ⟨⟨_, rfl, rfl⟩, ⟨rfl, fx_up fx_rf (iUU rfl), A, _, h1, uF_s, mR_z r⟩, by first | omega | exact Nat.le_of_ble_eq_true rfl | (simp only [dl1, dl2, dl3, dl4, dl5, dl6]; omega), by first | omega | exact Nat.le_of_ble_eq_true rfl | (simp only [dl1, dl2, dl3, dl4, dl5, dl6]; omega)⟩
theorem c_M_step_bad (hfl : l.flags = pinnedFlags ++ [noTraceFlag]) (h : mg am A F g) (r : mR A F R T S M Rs Hs O N cp st tv op nX) {x : Int32} (hs : st = nI 1) (hx : x.toInt < 0 ∨ 200 < x.toInt) : k_CT l D aC n_M_step 0 0 [.ref (am 0), .int x] g (mO am g (.inl (some (.int (nI 0)))) 2 R T S M Rs Hs O N cp st tv op nX) := by
  obtain ⟨⟨-, f2, -⟩, -⟩ := id r
  have h1 := mg_z h (F1 := uF F 0 (nI 2))
  refine k_ln hfl n_M_step ok_M_step rfl rfl rfl rfl rfl rfl (fun h => by cases h) (Nat.le_of_ble_eq_true rfl) 60 ?_
  conv => whnf
  refine ⟨_, _, h.z, rfl, ?_⟩
  rw [f2]
  conv => whnf
  refine ⟨fun _ => ?_, fun h => absurd hs h⟩
  conv => whnf
  refine ⟨fun h5 => ?_, fun h5 => ?_⟩
  · conv => whnf
    refine ⟨_, h.z, by simp, rfl, rfl, ?_⟩
    conv => whnf
    refine ⟨_, _, h1.z, rfl, ?_⟩
    rw [show uF F 0 (nI 2) 0 = nI 2 from uF_s]
    conv => whnf
    refine ⟨fun h => absurd h (by simp only [w_cmp]; decide), fun _ => ?_⟩
    conv => whnf
    refine ⟨⟨_, rfl, rfl⟩, ⟨rfl, fx_up fx_rf (iUU rfl), A, _, h1, uF_s, mR_z r⟩, by first | omega | exact Nat.le_of_ble_eq_true rfl | (simp only [dl1, dl2, dl3, dl4, dl5, dl6]; omega), by first | omega | exact Nat.le_of_ble_eq_true rfl | (simp only [dl1, dl2, dl3, dl4, dl5, dl6]; omega)⟩
  · have k1 : ¬ x.toInt < 0 := h5
    conv => whnf
    refine ⟨fun h => absurd h (fun y => absurd ((x_le (by decide)).mp y) (by omega)), fun _ => ?_⟩
    conv => whnf
    refine ⟨_, h.z, by simp, rfl, rfl, ?_⟩
    conv => whnf
    refine ⟨_, _, h1.z, rfl, ?_⟩
    rw [show uF F 0 (nI 2) 0 = nI 2 from uF_s]
    conv => whnf
    refine ⟨fun h => absurd h (by simp only [w_cmp]; decide), fun _ => ?_⟩
    conv => whnf
    refine ⟨⟨_, rfl, rfl⟩, ⟨rfl, fx_up fx_rf (iUU rfl), A, _, h1, uF_s, mR_z r⟩, by first | omega | exact Nat.le_of_ble_eq_true rfl | (simp only [dl1, dl2, dl3, dl4, dl5, dl6]; omega), by first | omega | exact Nat.le_of_ble_eq_true rfl | (simp only [dl1, dl2, dl3, dl4, dl5, dl6]; omega)⟩
def stQ (am : Nat → Nat) (g : g_H) (R T : List Nat) (S Rs : List Ent) (Hs : List Ses) (O N : List Ent) (cp : Option (List Nat)) (tv : Int32) (op nX s : Nat) : x_O → g_H → Prop := if op + s < 2 * nX + 3 then mO am g (.inl (some (.int (nI s)))) 0 R T S (mir O N (op + s)) Rs Hs O N cp (nI 1) tv (op + s) nX else mO am g (.inl (some (.int (nI s)))) 0 R T S (mir O N (op + s)) Rs (Hs ++ [(tv, nX, N)]) O N cp 0 tv 0 nX
theorem c_M_step (hfl : l.flags = pinnedFlags ++ [noTraceFlag]) (h : mg am A F g) (r : mR A F R T S M Rs Hs O N cp (nI 1) tv op nX) (hO : good O) (hN : good N) (hx : nX = (difL (O.length + N.length) O N).length) {n : Nat} (hn : n ≤ 200) (hop : op < 2 * nX + 3) (hl : Hs.length < 40) : k_CT l D aC n_M_step 0 0 [.ref (am 0), .int (nI n)] g (stQ am g R T S Rs Hs O N cp tv op nX (min n (2 * nX + 3 - op))) := by
  obtain ⟨⟨-, f2, f3, f4, f5, f6⟩, -⟩ := id r
  have hd0 := difL_len (O.length + N.length) O N
  have l1 := hO.2.1
  have l2 := hN.2.1
  have h1 := mg_z h (F1 := uF F 0 (nI 0))
  generalize hsv : min n (2 * nX + 3 - op) = s
  have h2 := mg_z h1 (F1 := uF (uF F 0 (nI 0)) 3 (nI (op + s)))
  have r2 := mR_op (op1 := op + s) (mR_z (x := nI 0) r)
  refine k_ln hfl n_M_step ok_M_step rfl rfl rfl rfl rfl rfl (fun h => by cases h) (Nat.le_of_ble_eq_true rfl) 150 ?_
  conv => whnf
  refine ⟨_, _, h.z, rfl, ?_⟩
  rw [f2]
  conv => whnf
  refine ⟨fun _ => ?_, fun h => absurd rfl h⟩
  conv => whnf
  refine ⟨fun h => absurd h (q_lt0 (by omega)), fun _ => ?_⟩
  conv => whnf
  refine ⟨fun _ => ?_, fun h => absurd ((q_le (by omega) (by decide)).mpr hn) h⟩
  conv => whnf
  refine ⟨_, h.z, by simp, rfl, rfl, ?_⟩
  conv => whnf
  refine ⟨_, _, h1.z, rfl, ?_⟩
  rw [show uF F 0 (nI 0) 0 = nI 0 from uF_s]
  conv => whnf
  refine ⟨fun _ => ?_, fun h => absurd (by simp only [w_cmp]; decide) h⟩
  conv => whnf
  refine ⟨_, _, h1.z, rfl, ?_⟩
  rw [show uF F 0 (nI 0) 4 = nI nX from f4]
  conv => whnf
  refine ⟨_, _, h1.z, rfl, ?_⟩
  rw [show uF F 0 (nI 0) 3 = nI op from f3, ix1]
  conv => whnf
  rw [pk_sub (by omega)]
  conv => whnf
  refine ⟨fun h5 => ?_, fun h5 => ?_⟩
  · have h6 := (q_ge (by omega) (by omega)).mp h5
    rw [show 2 * nX + 3 - op = s by omega]
    conv => whnf
    refine ⟨_, _, h1.z, rfl, ?_⟩
    rw [show uF F 0 (nI 0) 3 = nI op from f3]
    conv => whnf
    rw [nI_add]
    conv => whnf
    refine ⟨_, h1.z, by simp, rfl, rfl, ?_⟩
    conv => whnf
    refine ⟨⟨_, h2.z⟩, (Nat.le_of_ble_eq_true rfl), _, _, _, c_M_mirror hfl h2 r2 hO hN (by omega) hx, by first | omega | exact Nat.le_of_ble_eq_true rfl | (simp only [dl1, dl2, dl3, dl4, dl5, dl6]; omega), by first | omega | exact Nat.le_of_ble_eq_true rfl | (simp only [dl1, dl2, dl3, dl4, dl5, dl6]; omega), fun v g1 hh => ?_, fun C g1 hh => ?_⟩
    rotate_left
    · cases hh.1
    obtain ⟨hv, hfx, A1, h3, r3⟩ := hh
    cases hv
    conv => whnf
    refine ⟨fun h => absurd h (fun y => y rfl), fun _ => ?_⟩
    obtain ⟨⟨-, -, -, q4, q5, q6⟩, -⟩ := id r3
    have hse := r3.2.2.2.2.2.2.2.2.1
    conv => whnf
    refine ⟨_, _, h3.z, rfl, ?_⟩
    conv => whnf
    refine ⟨_, _, h3.z, rfl, ?_⟩
    rw [q5]
    conv => whnf
    refine ⟨_, _, h3.z, rfl, ?_⟩
    rw [q6]
    conv => whnf
    refine ⟨1, _, _, Hs.length, h3.a13, rfl, rfl, by omega, by first | decide | omega, ?_⟩
    have h4 := mg_up h3 (i := 13) (by decide) (by decide) (f := upd (A1 13) Hs.length tv)
    conv => whnf
    refine ⟨_, _, h4.z, rfl, ?_⟩
    conv => whnf
    refine ⟨_, _, h4.z, rfl, ?_⟩
    rw [q5]
    conv => whnf
    refine ⟨_, _, h4.z, rfl, ?_⟩
    rw [q4]
    conv => whnf
    refine ⟨1, _, _, Hs.length, h4.a14, rfl, rfl, by omega, by first | decide | omega, ?_⟩
    have h5' := mg_up h4 (i := 14) (by decide) (by decide) (f := upd (A1 14) Hs.length (nI nX))
    have r5 := mR_13 (A1 := uA (uA A1 13 (upd (A1 13) Hs.length tv)) 14 (upd (A1 14) Hs.length (nI nX))) r3 (fun q a b => by rw [uA_n b, uA_n a]) (fun q hq => ⟨by rw [uA_n (by decide), uA_s, pk_un (by omega)], by rw [uA_s, pk_un (by omega)]⟩)
    conv => whnf
    refine ⟨_, _, h5'.z, rfl, ?_⟩
    rw [q5]
    conv => whnf
    rw [nI_add]
    conv => whnf
    refine ⟨⟨_, h5'.z⟩, (Nat.le_of_ble_eq_true rfl), _, _, _, c_M_copy hfl h5' (by decide) (by omega) (by omega) r5.2.2.2.2.2.2.2.1, by first | omega | exact Nat.le_of_ble_eq_true rfl | (simp only [dl1, dl2, dl3, dl4, dl5, dl6]; omega), by first | omega | exact Nat.le_of_ble_eq_true rfl | (simp only [dl1, dl2, dl3, dl4, dl5, dl6]; omega), fun v g2 hh => ?_, fun C g2 hh => ?_⟩
    rotate_left
    · cases hh.1
    obtain ⟨hv, hfx2, A2, h6', hd2, ht2⟩ := hh
    cases hv
    have r6 := mR_push (X := (tv, nX, N)) (mR_tr r5 hd2 (Nat.le_refl _)) hl (by rw [hi_dif hd2 (by decide), uA_n (by decide), uA_s, pk_us]) (by rw [hi_dif hd2 (by decide), uA_s, pk_us]) ht2
    conv => whnf
    refine ⟨_, _, h6'.z, rfl, ?_⟩
    rw [q5]
    conv => whnf
    rw [nI_add]
    conv => whnf
    refine ⟨_, h6'.z, by simp, rfl, rfl, ?_⟩
    have h7 := mg_z h6' (F1 := uF (uF (uF F 0 (nI 0)) 3 (nI (op + s))) 5 (nI (Hs.length + 1)))
    conv => whnf
    refine ⟨_, h7.z, by simp, rfl, rfl, ?_⟩
    have h8 := mg_z h7 (F1 := uF (uF (uF (uF F 0 (nI 0)) 3 (nI (op + s))) 5 (nI (Hs.length + 1))) 2 (nI 0))
    conv => whnf
    refine ⟨_, h8.z, by simp, rfl, rfl, ?_⟩
    have h9 := mg_z h8 (F1 := uF (uF (uF (uF (uF F 0 (nI 0)) 3 (nI (op + s))) 5 (nI (Hs.length + 1))) 2 (nI 0)) 3 (nI 0))
    conv => whnf
    refine ⟨⟨_, rfl, rfl⟩, ?_, by first | omega | exact Nat.le_of_ble_eq_true rfl | (simp only [dl1, dl2, dl3, dl4, dl5, dl6]; omega), by first | omega | exact Nat.le_of_ble_eq_true rfl | (simp only [dl1, dl2, dl3, dl4, dl5, dl6]; omega)⟩
    unfold stQ
    rw [if_neg (by omega)]
    exact ⟨rfl, fx_up (fx_up (fx_up (fx_tr (fx_up (fx_up (fx_tr (fx_up (fx_up fx_rf (iUU rfl)) (iUU rfl)) hfx) (iUU rfl)) (iUU rfl)) hfx2) (iUU rfl)) (iUU rfl)) (iUU rfl), A2, _, h9, rfl, mR_op (op1 := 0) (mR_st (st1 := 0) r6)⟩
  · have h6 : n < 2 * nX + 3 - op := Nat.lt_of_not_le fun z => h5 ((q_ge (by omega) (by omega)).mpr z)
    obtain rfl : n = s := by omega
    conv => whnf
    refine ⟨_, _, h1.z, rfl, ?_⟩
    rw [show uF F 0 (nI 0) 3 = nI op from f3]
    conv => whnf
    rw [nI_add]
    conv => whnf
    refine ⟨_, h1.z, by simp, rfl, rfl, ?_⟩
    conv => whnf
    refine ⟨⟨_, h2.z⟩, (Nat.le_of_ble_eq_true rfl), _, _, _, c_M_mirror hfl h2 r2 hO hN (by omega) hx, by first | omega | exact Nat.le_of_ble_eq_true rfl | (simp only [dl1, dl2, dl3, dl4, dl5, dl6]; omega), by first | omega | exact Nat.le_of_ble_eq_true rfl | (simp only [dl1, dl2, dl3, dl4, dl5, dl6]; omega), fun v g1 hh => ?_, fun C g1 hh => ?_⟩
    rotate_left
    · cases hh.1
    obtain ⟨hv, hfx, A1, h3, r3⟩ := hh
    cases hv
    conv => whnf
    refine ⟨fun _ => ?_, fun h => absurd ((q_ne (by omega) (by omega)).mpr (by omega)) h⟩
    conv => whnf
    refine ⟨⟨_, rfl, rfl⟩, ?_, by first | omega | exact Nat.le_of_ble_eq_true rfl | (simp only [dl1, dl2, dl3, dl4, dl5, dl6]; omega), by first | omega | exact Nat.le_of_ble_eq_true rfl | (simp only [dl1, dl2, dl3, dl4, dl5, dl6]; omega)⟩
    unfold stQ
    rw [if_pos (by omega)]
    exact ⟨rfl, fx_tr (fx_up (fx_up fx_rf (iUU rfl)) (iUU rfl)) hfx, A1, _, h3, rfl, r3⟩
theorem c_M_crash (hfl : l.flags = pinnedFlags ++ [noTraceFlag]) (h : mg am A F g) (r : mR A F R T S M Rs Hs O N cp st tv op nX) (hs : st = nI 1) : k_CT l D aC n_M_crash 0 0 [.ref (am 0)] g (mO am g (.inl none) 0 R T S M Rs Hs O N cp (nI 2) tv op nX) := by
  obtain ⟨⟨-, f2, -⟩, -⟩ := id r
  have h1 := mg_z h (F1 := uF F 0 (nI 0))
  have h2 := mg_z h1 (F1 := uF (uF F 0 (nI 0)) 2 (nI 2))
  refine k_ln hfl n_M_crash ok_M_crash rfl rfl rfl rfl rfl rfl (fun h => by cases h) (Nat.le_of_ble_eq_true rfl) 60 ?_
  conv => whnf
  refine ⟨_, _, h.z, rfl, ?_⟩
  rw [f2]
  conv => whnf
  refine ⟨fun h => absurd h (fun y => y hs), fun _ => ?_⟩
  conv => whnf
  refine ⟨_, h.z, by simp, rfl, rfl, ?_⟩
  conv => whnf
  refine ⟨_, _, h1.z, rfl, ?_⟩
  rw [show uF F 0 (nI 0) 0 = nI 0 from uF_s]
  conv => whnf
  refine ⟨fun h => absurd h (by simp only [w_cmp]; decide), fun _ => ?_⟩
  conv => whnf
  refine ⟨_, h1.z, by simp, rfl, rfl, ?_⟩
  conv => whnf
  refine ⟨rfl, ⟨rfl, fx_up (fx_up fx_rf (iUU rfl)) (iUU rfl), A, _, h2, rfl, mR_st (mR_z r)⟩, by first | omega | exact Nat.le_of_ble_eq_true rfl | (simp only [dl1, dl2, dl3, dl4, dl5, dl6]; omega), by first | omega | exact Nat.le_of_ble_eq_true rfl | (simp only [dl1, dl2, dl3, dl4, dl5, dl6]; omega)⟩
theorem c_M_crash_no (hfl : l.flags = pinnedFlags ++ [noTraceFlag]) (h : mg am A F g) (r : mR A F R T S M Rs Hs O N cp st tv op nX) (hs : ¬ st = nI 1) : k_CT l D aC n_M_crash 0 0 [.ref (am 0)] g (mO am g (.inl none) 1 R T S M Rs Hs O N cp st tv op nX) := by
  obtain ⟨⟨-, f2, -⟩, -⟩ := id r
  have h1 := mg_z h (F1 := uF F 0 (nI 1))
  refine k_ln hfl n_M_crash ok_M_crash rfl rfl rfl rfl rfl rfl (fun h => by cases h) (Nat.le_of_ble_eq_true rfl) 60 ?_
  conv => whnf
  refine ⟨_, _, h.z, rfl, ?_⟩
  rw [f2]
  conv => whnf
  refine ⟨fun _ => ?_, fun h => absurd hs h⟩
  conv => whnf
  refine ⟨_, h.z, by simp, rfl, rfl, ?_⟩
  conv => whnf
  refine ⟨_, _, h1.z, rfl, ?_⟩
  rw [show uF F 0 (nI 1) 0 = nI 1 from uF_s]
  conv => whnf
  refine ⟨fun _ => ?_, fun h => absurd (by simp only [w_cmp]; decide) h⟩
  conv => whnf
  refine ⟨rfl, ⟨rfl, fx_up fx_rf (iUU rfl), A, _, h1, uF_s, mR_z r⟩, by first | omega | exact Nat.le_of_ble_eq_true rfl | (simp only [dl1, dl2, dl3, dl4, dl5, dl6]; omega), by first | omega | exact Nat.le_of_ble_eq_true rfl | (simp only [dl1, dl2, dl3, dl4, dl5, dl6]; omega)⟩
theorem c_M_regress_no (hfl : l.flags = pinnedFlags ++ [noTraceFlag]) (h : mg am A F g) (r : mR A F R T S M Rs Hs O N cp st tv op nX) {x : Int32} (hs : ¬ st = nI 2) : k_CT l D aC n_M_regress 0 0 [.ref (am 0), .int x] g (mO am g (.inl (some (.int (nI 0)))) 1 R T S M Rs Hs O N cp st tv op nX) := by
  obtain ⟨⟨-, f2, -⟩, -⟩ := id r
  have h1 := mg_z h (F1 := uF F 0 (nI 1))
  refine k_ln hfl n_M_regress ok_M_regress rfl rfl rfl rfl rfl rfl (fun h => by cases h) (Nat.le_of_ble_eq_true rfl) 60 ?_
  conv => whnf
  refine ⟨_, _, h.z, rfl, ?_⟩
  rw [f2]
  conv => whnf
  refine ⟨fun h => absurd h hs, fun _ => ?_⟩
  conv => whnf
  refine ⟨_, h.z, by simp, rfl, rfl, ?_⟩
  conv => whnf
  refine ⟨_, _, h1.z, rfl, ?_⟩
  rw [show uF F 0 (nI 1) 0 = nI 1 from uF_s]
  conv => whnf
  refine ⟨fun h => absurd h (by simp only [w_cmp]; decide), fun _ => ?_⟩
  conv => whnf
  refine ⟨⟨_, rfl, rfl⟩, ⟨rfl, fx_up fx_rf (iUU rfl), A, _, h1, uF_s, mR_z r⟩, by first | omega | exact Nat.le_of_ble_eq_true rfl | (simp only [dl1, dl2, dl3, dl4, dl5, dl6]; omega), by first | omega | exact Nat.le_of_ble_eq_true rfl | (simp only [dl1, dl2, dl3, dl4, dl5, dl6]; omega)⟩
theorem c_M_regress_bad (hfl : l.flags = pinnedFlags ++ [noTraceFlag]) (h : mg am A F g) (r : mR A F R T S M Rs Hs O N cp st tv op nX) {x : Int32} (hs : st = nI 2) (hx : x.toInt < 0 ∨ 200 < x.toInt) : k_CT l D aC n_M_regress 0 0 [.ref (am 0), .int x] g (mO am g (.inl (some (.int (nI 0)))) 2 R T S M Rs Hs O N cp st tv op nX) := by
  obtain ⟨⟨-, f2, -⟩, -⟩ := id r
  have h1 := mg_z h (F1 := uF F 0 (nI 2))
  refine k_ln hfl n_M_regress ok_M_regress rfl rfl rfl rfl rfl rfl (fun h => by cases h) (Nat.le_of_ble_eq_true rfl) 60 ?_
  conv => whnf
  refine ⟨_, _, h.z, rfl, ?_⟩
  rw [f2]
  conv => whnf
  refine ⟨fun _ => ?_, fun h => absurd hs h⟩
  conv => whnf
  refine ⟨fun h5 => ?_, fun h5 => ?_⟩
  · conv => whnf
    refine ⟨_, h.z, by simp, rfl, rfl, ?_⟩
    conv => whnf
    refine ⟨_, _, h1.z, rfl, ?_⟩
    rw [show uF F 0 (nI 2) 0 = nI 2 from uF_s]
    conv => whnf
    refine ⟨fun h => absurd h (by simp only [w_cmp]; decide), fun _ => ?_⟩
    conv => whnf
    refine ⟨⟨_, rfl, rfl⟩, ⟨rfl, fx_up fx_rf (iUU rfl), A, _, h1, uF_s, mR_z r⟩, by first | omega | exact Nat.le_of_ble_eq_true rfl | (simp only [dl1, dl2, dl3, dl4, dl5, dl6]; omega), by first | omega | exact Nat.le_of_ble_eq_true rfl | (simp only [dl1, dl2, dl3, dl4, dl5, dl6]; omega)⟩
  · have k1 : ¬ x.toInt < 0 := h5
    conv => whnf
    refine ⟨fun h => absurd h (fun y => absurd ((x_le (by decide)).mp y) (by omega)), fun _ => ?_⟩
    conv => whnf
    refine ⟨_, h.z, by simp, rfl, rfl, ?_⟩
    conv => whnf
    refine ⟨_, _, h1.z, rfl, ?_⟩
    rw [show uF F 0 (nI 2) 0 = nI 2 from uF_s]
    conv => whnf
    refine ⟨fun h => absurd h (by simp only [w_cmp]; decide), fun _ => ?_⟩
    conv => whnf
    refine ⟨⟨_, rfl, rfl⟩, ⟨rfl, fx_up fx_rf (iUU rfl), A, _, h1, uF_s, mR_z r⟩, by first | omega | exact Nat.le_of_ble_eq_true rfl | (simp only [dl1, dl2, dl3, dl4, dl5, dl6]; omega), by first | omega | exact Nat.le_of_ble_eq_true rfl | (simp only [dl1, dl2, dl3, dl4, dl5, dl6]; omega)⟩
theorem c_M_regress (hfl : l.flags = pinnedFlags ++ [noTraceFlag]) (h : mg am A F g) (r : mR A F R T S M Rs Hs O N cp (nI 2) tv op nX) (hO : good O) (hN : good N) (hx : nX = (difL (O.length + N.length) O N).length) {n : Nat} (hn : n ≤ 200) (hop : op < 2 * nX + 3) : k_CT l D aC n_M_regress 0 0 [.ref (am 0), .int (nI n)] g (mO am g (.inl (some (.int (nI (min n op))))) 0 R T S (mir O N (op - min n op)) Rs Hs O N cp (if op - min n op = 0 then 0 else nI 2) tv (op - min n op) nX) := by
  obtain ⟨⟨-, f2, f3, f4, f5, f6⟩, -⟩ := id r
  have hd0 := difL_len (O.length + N.length) O N
  have l1 := hO.2.1
  have l2 := hN.2.1
  have h1 := mg_z h (F1 := uF F 0 (nI 0))
  generalize hsv : min n op = s
  have h2 := mg_z h1 (F1 := uF (uF F 0 (nI 0)) 3 (nI (op - s)))
  have r2 := mR_op (op1 := op - s) (mR_z (x := nI 0) r)
  refine k_ln hfl n_M_regress ok_M_regress rfl rfl rfl rfl rfl rfl (fun h => by cases h) (Nat.le_of_ble_eq_true rfl) 150 ?_
  conv => whnf
  refine ⟨_, _, h.z, rfl, ?_⟩
  rw [f2]
  conv => whnf
  refine ⟨fun _ => ?_, fun h => absurd rfl h⟩
  conv => whnf
  refine ⟨fun h => absurd h (q_lt0 (by omega)), fun _ => ?_⟩
  conv => whnf
  refine ⟨fun _ => ?_, fun h => absurd ((q_le (by omega) (by decide)).mpr hn) h⟩
  conv => whnf
  refine ⟨_, h.z, by simp, rfl, rfl, ?_⟩
  conv => whnf
  refine ⟨_, _, h1.z, rfl, ?_⟩
  rw [show uF F 0 (nI 0) 0 = nI 0 from uF_s]
  conv => whnf
  refine ⟨fun _ => ?_, fun h => absurd (by simp only [w_cmp]; decide) h⟩
  conv => whnf
  refine ⟨_, _, h1.z, rfl, ?_⟩
  rw [show uF F 0 (nI 0) 3 = nI op from f3]
  conv => whnf
  refine ⟨fun h5 => ?_, fun h5 => ?_⟩
  · have h6 := (q_ge (by omega) (by omega)).mp h5
    obtain rfl : op = s := by omega
    conv => whnf
    refine ⟨_, _, h1.z, rfl, ?_⟩
    rw [show uF F 0 (nI 0) 3 = nI op from f3]
    conv => whnf
    refine ⟨_, _, h1.z, rfl, ?_⟩
    rw [show uF F 0 (nI 0) 3 = nI op from f3]
    conv => whnf
    rw [pk_sub (by omega)]
    conv => whnf
    refine ⟨_, h1.z, by simp, rfl, rfl, ?_⟩
    conv => whnf
    refine ⟨⟨_, h2.z⟩, (Nat.le_of_ble_eq_true rfl), _, _, _, c_M_mirror hfl h2 r2 hO hN (by omega) hx, by first | omega | exact Nat.le_of_ble_eq_true rfl | (simp only [dl1, dl2, dl3, dl4, dl5, dl6]; omega), by first | omega | exact Nat.le_of_ble_eq_true rfl | (simp only [dl1, dl2, dl3, dl4, dl5, dl6]; omega), fun v g1 hh => ?_, fun C g1 hh => ?_⟩
    rotate_left
    · cases hh.1
    obtain ⟨hv, hfx, A1, h3, r3⟩ := hh
    cases hv
    obtain ⟨⟨-, -, q3, -⟩, -⟩ := id r3
    conv => whnf
    refine ⟨_, _, h3.z, rfl, ?_⟩
    rw [q3]
    conv => whnf
    refine ⟨fun h9 => ?_, fun h9 => ?_⟩
    · have h8 := (q_ne0 (by omega)).mp h9
      conv => whnf
      refine ⟨_, h3.z, by simp, rfl, rfl, ?_⟩
      have h4 := mg_z h3 (F1 := uF (uF (uF F 0 (nI 0)) 3 (nI (op - op))) 2 (nI 2))
      conv => whnf
      refine ⟨⟨_, rfl, rfl⟩, ?_, by first | omega | exact Nat.le_of_ble_eq_true rfl | (simp only [dl1, dl2, dl3, dl4, dl5, dl6]; omega), by first | omega | exact Nat.le_of_ble_eq_true rfl | (simp only [dl1, dl2, dl3, dl4, dl5, dl6]; omega)⟩
      rw [if_neg h8]
      exact ⟨rfl, fx_up (fx_tr (fx_up (fx_up fx_rf (iUU rfl)) (iUU rfl)) hfx) (iUU rfl), A1, _, h4, rfl, mR_st r3⟩
    · have h8 : op - op = 0 := Classical.not_not.mp fun z => h9 ((q_ne0 (by omega)).mpr z)
      conv => whnf
      refine ⟨_, h3.z, by simp, rfl, rfl, ?_⟩
      have h4 := mg_z h3 (F1 := uF (uF (uF F 0 (nI 0)) 3 (nI (op - op))) 2 (nI 0))
      conv => whnf
      refine ⟨⟨_, rfl, rfl⟩, ?_, by first | omega | exact Nat.le_of_ble_eq_true rfl | (simp only [dl1, dl2, dl3, dl4, dl5, dl6]; omega), by first | omega | exact Nat.le_of_ble_eq_true rfl | (simp only [dl1, dl2, dl3, dl4, dl5, dl6]; omega)⟩
      rw [if_pos h8]
      exact ⟨rfl, fx_up (fx_tr (fx_up (fx_up fx_rf (iUU rfl)) (iUU rfl)) hfx) (iUU rfl), A1, _, h4, rfl, mR_st (st1 := 0) r3⟩
  · have h6 : n < op := Nat.lt_of_not_le fun z => h5 ((q_ge (by omega) (by omega)).mpr z)
    obtain rfl : n = s := by omega
    conv => whnf
    refine ⟨_, _, h1.z, rfl, ?_⟩
    rw [show uF F 0 (nI 0) 3 = nI op from f3]
    conv => whnf
    rw [pk_sub (by omega)]
    conv => whnf
    refine ⟨_, h1.z, by simp, rfl, rfl, ?_⟩
    conv => whnf
    refine ⟨⟨_, h2.z⟩, (Nat.le_of_ble_eq_true rfl), _, _, _, c_M_mirror hfl h2 r2 hO hN (by omega) hx, by first | omega | exact Nat.le_of_ble_eq_true rfl | (simp only [dl1, dl2, dl3, dl4, dl5, dl6]; omega), by first | omega | exact Nat.le_of_ble_eq_true rfl | (simp only [dl1, dl2, dl3, dl4, dl5, dl6]; omega), fun v g1 hh => ?_, fun C g1 hh => ?_⟩
    rotate_left
    · cases hh.1
    obtain ⟨hv, hfx, A1, h3, r3⟩ := hh
    cases hv
    obtain ⟨⟨-, -, q3, -⟩, -⟩ := id r3
    conv => whnf
    refine ⟨_, _, h3.z, rfl, ?_⟩
    rw [q3]
    conv => whnf
    refine ⟨fun h9 => ?_, fun h9 => ?_⟩
    · have h8 := (q_ne0 (by omega)).mp h9
      conv => whnf
      refine ⟨_, h3.z, by simp, rfl, rfl, ?_⟩
      have h4 := mg_z h3 (F1 := uF (uF (uF F 0 (nI 0)) 3 (nI (op - n))) 2 (nI 2))
      conv => whnf
      refine ⟨⟨_, rfl, rfl⟩, ?_, by first | omega | exact Nat.le_of_ble_eq_true rfl | (simp only [dl1, dl2, dl3, dl4, dl5, dl6]; omega), by first | omega | exact Nat.le_of_ble_eq_true rfl | (simp only [dl1, dl2, dl3, dl4, dl5, dl6]; omega)⟩
      rw [if_neg h8]
      exact ⟨rfl, fx_up (fx_tr (fx_up (fx_up fx_rf (iUU rfl)) (iUU rfl)) hfx) (iUU rfl), A1, _, h4, rfl, mR_st r3⟩
    · have h8 : op - n = 0 := Classical.not_not.mp fun z => h9 ((q_ne0 (by omega)).mpr z)
      conv => whnf
      refine ⟨_, h3.z, by simp, rfl, rfl, ?_⟩
      have h4 := mg_z h3 (F1 := uF (uF (uF F 0 (nI 0)) 3 (nI (op - n))) 2 (nI 0))
      conv => whnf
      refine ⟨⟨_, rfl, rfl⟩, ?_, by first | omega | exact Nat.le_of_ble_eq_true rfl | (simp only [dl1, dl2, dl3, dl4, dl5, dl6]; omega), by first | omega | exact Nat.le_of_ble_eq_true rfl | (simp only [dl1, dl2, dl3, dl4, dl5, dl6]; omega)⟩
      rw [if_pos h8]
      exact ⟨rfl, fx_up (fx_tr (fx_up (fx_up fx_rf (iUU rfl)) (iUU rfl)) hfx) (iUU rfl), A1, _, h4, rfl, mR_st (st1 := 0) r3⟩
theorem c_M_latest (hfl : l.flags = pinnedFlags ++ [noTraceFlag]) (h : mg am A F g) (r : mR A F R T S M Rs Hs O N cp st tv op nX) {x : Int32} : k_CT l D aC n_M_latest 0 0 [.ref (am 0), .int x] g (rt (some (.int (slI (lastLe Hs x Hs.length)))) g) := by
  obtain ⟨⟨-, -, -, -, f5, -⟩, -, -, -, -, -, -, -, hse, -⟩ := id r
  have hl := hse.1
  refine k_while hfl n_M_latest ok_M_latest rfl rfl rfl rfl rfl rfl (fun h => by cases h) (Nat.le_of_ble_eq_true rfl) [4] (fun pc d lv g1 k n => ∃ i, pc = 4 ∧ d = Hs.length - i ∧ lv = [(0, .ref (am 0)), (1, .int x), (2, .int (slI (lastLe Hs x i))), (3, .int (nI i))] ∧ g1 = g ∧ k = 0 ∧ n = 0 ∧ i ≤ Hs.length) 60 ?_ 80 ?_
  · conv => whnf
    exact ⟨rfl, _, _, ⟨0, rfl, rfl, rfl, rfl, rfl, rfl, by omega⟩, rfl, rfl, rfl, rfl, trivial⟩
  · rintro d pc lv g1 k n ⟨i, rfl, rfl, rfl, rfl, rfl, rfl, hi⟩
    conv => whnf
    refine ⟨_, _, h.z, rfl, ?_⟩
    rw [f5]
    conv => whnf
    refine ⟨fun h5 => ?_, fun h5 => ?_⟩
    · have h6 := (q_ge (by omega) (by omega)).mp h5
      obtain rfl : i = Hs.length := by omega
      conv => whnf
      refine ⟨⟨_, rfl, rfl⟩, ⟨rfl, rfl⟩, by first | omega | exact Nat.le_of_ble_eq_true rfl | (simp only [dl1, dl2, dl3, dl4, dl5, dl6]; omega), by first | omega | exact Nat.le_of_ble_eq_true rfl | (simp only [dl1, dl2, dl3, dl4, dl5, dl6]; omega)⟩
    · have h6 : i < Hs.length := Nat.lt_of_not_le fun z => h5 ((q_ge (by omega) (by omega)).mpr z)
      have hX := List.getElem?_eq_getElem h6
      conv => whnf
      refine ⟨_, _, h.z, rfl, ?_⟩
      conv => whnf
      refine Or.inl ⟨1, _, _, i, h.a13, rfl, rfl, by omega, by first | decide | omega, ?_⟩
      rw [(hse.2 i _ hX).1]
      conv => whnf
      refine ⟨fun h7 => ?_, fun h7 => ?_⟩
      · have h8 : x.toInt < Hs[i].1.toInt := h7
        conv => whnf
        exact ⟨rfl, _, _, by omega, ⟨i + 1, rfl, rfl, rfl, rfl, rfl, rfl, h6⟩, rfl, rfl, by
          rw [lastLe, if_neg]
          · rfl
          · rintro ⟨Y, hY, hle⟩
            rw [hX] at hY
            cases hY
            omega, sI i, trivial⟩
      · have h8 : ¬ x.toInt < Hs[i].1.toInt := h7
        conv => whnf
        exact ⟨rfl, _, _, by omega, ⟨i + 1, rfl, rfl, rfl, rfl, rfl, rfl, h6⟩, rfl, rfl, by
          rw [lastLe, if_pos ⟨_, hX, by omega⟩]
          rfl, sI i, trivial⟩
theorem c_M_restore_no (hfl : l.flags = pinnedFlags ++ [noTraceFlag]) (h : mg am A F g) (r : mR A F R T S M Rs Hs O N cp st tv op nX) {x : Int32} (hs : ¬ st = 0 ∨ lastLe Hs x Hs.length = none) : k_CT l D aC n_M_restore 0 0 [.ref (am 0), .int x] g (mO am g (.inl (some (.int (nI 0)))) 1 R T S M Rs Hs O N cp st tv op nX) := by
  obtain ⟨⟨-, f2, -⟩, -⟩ := id r
  have h1 := mg_z h (F1 := uF F 0 (nI 1))
  refine k_ln hfl n_M_restore ok_M_restore rfl rfl rfl rfl rfl rfl (fun h => by cases h) (Nat.le_of_ble_eq_true rfl) 60 ?_
  conv => whnf
  refine ⟨⟨_, h.z⟩, (Nat.le_of_ble_eq_true rfl), _, _, _, c_M_latest hfl h r, by first | omega | exact Nat.le_of_ble_eq_true rfl | (simp only [dl1, dl2, dl3, dl4, dl5, dl6]; omega), by first | omega | exact Nat.le_of_ble_eq_true rfl | (simp only [dl1, dl2, dl3, dl4, dl5, dl6]; omega), k_rl ?_, k_rr⟩
  conv => whnf
  refine ⟨_, _, h.z, rfl, ?_⟩
  rw [f2]
  conv => whnf
  refine ⟨fun h5 => ?_, fun h5 => ?_⟩
  · conv => whnf
    refine ⟨_, h.z, by simp, rfl, rfl, ?_⟩
    conv => whnf
    refine ⟨_, _, h1.z, rfl, ?_⟩
    rw [show uF F 0 (nI 1) 0 = nI 1 from uF_s]
    conv => whnf
    refine ⟨fun h => absurd h (by simp only [w_cmp]; decide), fun _ => ?_⟩
    conv => whnf
    refine ⟨⟨_, rfl, rfl⟩, ⟨rfl, fx_up fx_rf (iUU rfl), A, _, h1, uF_s, mR_z r⟩, by first | omega | exact Nat.le_of_ble_eq_true rfl | (simp only [dl1, dl2, dl3, dl4, dl5, dl6]; omega), by first | omega | exact Nat.le_of_ble_eq_true rfl | (simp only [dl1, dl2, dl3, dl4, dl5, dl6]; omega)⟩
  · have hst : st = 0 := Classical.not_not.mp h5
    rcases hs with z | z
    · exact absurd hst z
    · rw [z]
      conv => whnf
      refine ⟨fun h => absurd h (by simp only [w_cmp]; decide), fun _ => ?_⟩
      conv => whnf
      refine ⟨_, h.z, by simp, rfl, rfl, ?_⟩
      conv => whnf
      refine ⟨_, _, h1.z, rfl, ?_⟩
      rw [show uF F 0 (nI 1) 0 = nI 1 from uF_s]
      conv => whnf
      refine ⟨fun h => absurd h (by simp only [w_cmp]; decide), fun _ => ?_⟩
      conv => whnf
      refine ⟨⟨_, rfl, rfl⟩, ⟨rfl, fx_up fx_rf (iUU rfl), A, _, h1, uF_s, mR_z r⟩, by first | omega | exact Nat.le_of_ble_eq_true rfl | (simp only [dl1, dl2, dl3, dl4, dl5, dl6]; omega), by first | omega | exact Nat.le_of_ble_eq_true rfl | (simp only [dl1, dl2, dl3, dl4, dl5, dl6]; omega)⟩
theorem c_M_restore (hfl : l.flags = pinnedFlags ++ [noTraceFlag]) (h : mg am A F g) (r : mR A F R T S M Rs Hs O N cp st tv op nX) {x : Int32} (hs : st = 0) {i : Nat} {E : Ses} (hi : lastLe Hs x Hs.length = some i) (hE : Hs[i]? = some E) : k_CT l D aC n_M_restore 0 0 [.ref (am 0), .int x] g (mO am g (.inl (some (.int (nI E.2.2.length)))) 0 R T S M E.2.2 Hs O N cp st tv op nX) := by
  obtain ⟨⟨-, f2, -⟩, -, -, -, -, -, -, -, hse, -⟩ := id r
  have hl := hse.1
  have hi2 := lastLe_lt hi
  have h1 := mg_z h (F1 := uF F 0 (nI 0))
  refine k_ln hfl n_M_restore ok_M_restore rfl rfl rfl rfl rfl rfl (fun h => by cases h) (Nat.le_of_ble_eq_true rfl) 60 ?_
  conv => whnf
  refine ⟨⟨_, h.z⟩, (Nat.le_of_ble_eq_true rfl), _, _, _, c_M_latest hfl h r, by first | omega | exact Nat.le_of_ble_eq_true rfl | (simp only [dl1, dl2, dl3, dl4, dl5, dl6]; omega), by first | omega | exact Nat.le_of_ble_eq_true rfl | (simp only [dl1, dl2, dl3, dl4, dl5, dl6]; omega), k_rl ?_, k_rr⟩
  rw [hi, show slI (some i) = nI i from rfl]
  conv => whnf
  refine ⟨_, _, h.z, rfl, ?_⟩
  rw [f2]
  conv => whnf
  refine ⟨fun h => absurd h (fun y => y hs), fun _ => ?_⟩
  conv => whnf
  refine ⟨fun _ => ?_, fun h => absurd (q_ge0 (by omega)) h⟩
  conv => whnf
  refine ⟨_, h.z, by simp, rfl, rfl, ?_⟩
  conv => whnf
  refine ⟨_, _, h1.z, rfl, ?_⟩
  rw [show uF F 0 (nI 0) 0 = nI 0 from uF_s]
  conv => whnf
  refine ⟨fun _ => ?_, fun h => absurd (by simp only [w_cmp]; decide) h⟩
  conv => whnf
  rw [nI_add]
  conv => whnf
  refine ⟨⟨_, h1.z⟩, (Nat.le_of_ble_eq_true rfl), _, _, _, c_M_copy hfl h1 (by omega) (by decide) (by omega) (hse.2 i E hE).2.2, by first | omega | exact Nat.le_of_ble_eq_true rfl | (simp only [dl1, dl2, dl3, dl4, dl5, dl6]; omega), by first | omega | exact Nat.le_of_ble_eq_true rfl | (simp only [dl1, dl2, dl3, dl4, dl5, dl6]; omega), fun v g1 hh => ?_, fun C g1 hh => ?_⟩
  · obtain ⟨hv, hfx, A1, h2, hd, ht⟩ := hh
    cases hv
    conv => whnf
    refine ⟨_, _, h2.z, rfl, ?_⟩
    conv => whnf
    refine Or.inl ⟨1, _, _, 2, h2.a1, rfl, rfl, by omega, by first | decide | omega, ?_⟩
    rw [ht.1]
    conv => whnf
    refine ⟨⟨_, rfl, rfl⟩, ⟨rfl, fx_tr (fx_up fx_rf (iUU rfl)) hfx, A1, _, h2, uF_s, mR_2 (mR_z r) hd ht⟩, by first | omega | exact Nat.le_of_ble_eq_true rfl | (simp only [dl1, dl2, dl3, dl4, dl5, dl6]; omega), by first | omega | exact Nat.le_of_ble_eq_true rfl | (simp only [dl1, dl2, dl3, dl4, dl5, dl6]; omega)⟩
  · cases hh.1
theorem c_M_differ (hfl : l.flags = pinnedFlags ++ [noTraceFlag]) (h : mg am A F g) (r : mR A F R T S M Rs Hs O N cp st tv op nX) : k_CT l D aC n_M_differ 0 0 [.ref (am 0)] g (mO am g (.inl (some (.int (nI (difL (M.length + S.length) M S).length)))) 0 R T S M Rs Hs O N cp st tv op nX) := by
  have h1 := mg_z h (F1 := uF F 0 (nI 0))
  refine k_ln hfl n_M_differ ok_M_differ rfl rfl rfl rfl rfl rfl (fun h => by cases h) (Nat.le_of_ble_eq_true rfl) 60 ?_
  conv => whnf
  refine ⟨_, h.z, by simp, rfl, rfl, ?_⟩
  conv => whnf
  refine ⟨⟨_, h1.z⟩, (Nat.le_of_ble_eq_true rfl), _, _, _, c_M_joinN hfl h1 (by decide) (by decide) r.2.2.2.2.1 r.2.2.2.1, by first | omega | exact Nat.le_of_ble_eq_true rfl | (simp only [dl1, dl2, dl3, dl4, dl5, dl6]; omega), by first | omega | exact Nat.le_of_ble_eq_true rfl | (simp only [dl1, dl2, dl3, dl4, dl5, dl6]; omega), k_rl ?_, k_rr⟩
  conv => whnf
  refine ⟨⟨_, rfl, rfl⟩, ⟨rfl, fx_up fx_rf (iUU rfl), A, _, h1, uF_s, mR_z r⟩, by first | omega | exact Nat.le_of_ble_eq_true rfl | (simp only [dl1, dl2, dl3, dl4, dl5, dl6]; omega), by first | omega | exact Nat.le_of_ble_eq_true rfl | (simp only [dl1, dl2, dl3, dl4, dl5, dl6]; omega)⟩
theorem c_M_prune_no (hfl : l.flags = pinnedFlags ++ [noTraceFlag]) (h : mg am A F g) (r : mR A F R T S M Rs Hs O N cp st tv op nX) {x : Int32} (hs : ¬ st = 0) : k_CT l D aC n_M_prune 0 0 [.ref (am 0), .int x] g (mO am g (.inl (some (.int (nI 0)))) 1 R T S M Rs Hs O N cp st tv op nX) := by
  obtain ⟨⟨-, f2, -⟩, -⟩ := id r
  have h1 := mg_z h (F1 := uF F 0 (nI 1))
  refine k_while hfl n_M_prune ok_M_prune rfl rfl rfl rfl rfl rfl (fun h => by cases h) (Nat.le_of_ble_eq_true rfl) [37] (fun pc d lv g1 k n => False) 60 ?_ 80 ?_
  · conv => whnf
    refine ⟨_, _, h.z, rfl, ?_⟩
    rw [f2]
    conv => whnf
    refine ⟨fun h => absurd h hs, fun _ => ?_⟩
    conv => whnf
    refine ⟨_, h.z, by simp, rfl, rfl, ?_⟩
    conv => whnf
    refine ⟨⟨_, h1.z⟩, (Nat.le_of_ble_eq_true rfl), _, _, _, c_M_latest hfl h1 (mR_z r), by first | omega | exact Nat.le_of_ble_eq_true rfl | (simp only [dl1, dl2, dl3, dl4, dl5, dl6]; omega), by first | omega | exact Nat.le_of_ble_eq_true rfl | (simp only [dl1, dl2, dl3, dl4, dl5, dl6]; omega), k_rl ?_, k_rr⟩
    conv => whnf
    refine ⟨_, _, h1.z, rfl, ?_⟩
    rw [show uF F 0 (nI 1) 0 = nI 1 from uF_s]
    conv => whnf
    refine ⟨fun _ => ?_, fun h => absurd (by simp only [w_cmp]; decide) h⟩
    conv => whnf
    refine ⟨⟨_, rfl, rfl⟩, ⟨rfl, fx_up fx_rf (iUU rfl), A, _, h1, uF_s, mR_z r⟩, by first | omega | exact Nat.le_of_ble_eq_true rfl | (simp only [dl1, dl2, dl3, dl4, dl5, dl6]; omega), by first | omega | exact Nat.le_of_ble_eq_true rfl | (simp only [dl1, dl2, dl3, dl4, dl5, dl6]; omega)⟩
  · intro d pc lv g1 k n z
    exact z.elim
set_option maxHeartbeats 1000000 in
theorem c_M_prune (hfl : l.flags = pinnedFlags ++ [noTraceFlag]) (h : mg am A F g) (r : mR A F R T S M Rs Hs O N cp st tv op nX) {x : Int32} (hs : st = 0) : k_CT l D aC n_M_prune 0 0 [.ref (am 0), .int x] g (mO am g (.inl (some (.int (nI (prN Hs x))))) 0 R T S M Rs (Hs.drop (prN Hs x)) O N cp st tv op nX) := by
  obtain ⟨⟨-, f2, -, -, f5, -⟩, -, -, -, -, -, -, -, hse, -⟩ := id r
  have hl := hse.1
  have h1 := mg_z h (F1 := uF F 0 (nI 0))
  have f5' : uF F 0 (nI 0) 5 = nI Hs.length := f5
  generalize hsv : prN Hs x = s
  refine k_while hfl n_M_prune ok_M_prune rfl rfl rfl rfl rfl rfl (fun h => by cases h) (Nat.le_of_ble_eq_true rfl) [37] (fun pc d lv g1 k0 n0 => ∃ k A1, pc = 37 ∧ d = Hs.length - k ∧ lv = [(0, .ref (am 0)), (2, .int (nI s)), (3, .int (nI k))] ∧ k0 = 0 ∧ n0 = 0 ∧ 0 < s ∧ s ≤ k ∧ k ≤ Hs.length ∧ fx (UU am) g g1 ∧ mg am A1 (uF F 0 (nI 0)) g1 ∧ mR A1 (uF (uF F 0 (nI 0)) 5 (nI 0)) R T S M Rs [] O N cp st tv op nX ∧ (∀ i X, i + s < k → Hs[i + s]? = some X → A1 13 i = X.1 ∧ A1 14 i = nI X.2.1 ∧ tm A1 (6 + i) X.2.2) ∧ (∀ j X, k ≤ j → Hs[j]? = some X → A1 13 j = X.1 ∧ A1 14 j = nI X.2.1 ∧ tm A1 (6 + j) X.2.2)) 60 ?_ 80 ?_
  · conv => whnf
    refine ⟨_, _, h.z, rfl, ?_⟩
    rw [f2]
    conv => whnf
    refine ⟨fun _ => ?_, fun h => absurd hs h⟩
    conv => whnf
    refine ⟨_, h.z, by simp, rfl, rfl, ?_⟩
    conv => whnf
    refine ⟨⟨_, h1.z⟩, (Nat.le_of_ble_eq_true rfl), _, _, _, c_M_latest hfl h1 (mR_z r), by first | omega | exact Nat.le_of_ble_eq_true rfl | (simp only [dl1, dl2, dl3, dl4, dl5, dl6]; omega), by first | omega | exact Nat.le_of_ble_eq_true rfl | (simp only [dl1, dl2, dl3, dl4, dl5, dl6]; omega), k_rl ?_, k_rr⟩
    conv => whnf
    refine ⟨_, _, h1.z, rfl, ?_⟩
    rw [show uF F 0 (nI 0) 0 = nI 0 from uF_s]
    conv => whnf
    refine ⟨fun h => absurd h (by simp only [w_cmp]; decide), fun _ => ?_⟩
    cases hla : lastLe Hs x Hs.length with
    | none =>
      conv => whnf
      refine ⟨fun h => absurd h (by simp only [w_cmp]; decide), fun _ => ?_⟩
      obtain rfl : s = 0 := by rw [← hsv, prN, hla]; rfl
      conv => whnf
      refine ⟨⟨_, rfl, rfl⟩, ⟨rfl, fx_up fx_rf (iUU rfl), A, _, h1, uF_s, mR_z r⟩, by first | omega | exact Nat.le_of_ble_eq_true rfl | (simp only [dl1, dl2, dl3, dl4, dl5, dl6]; omega), by first | omega | exact Nat.le_of_ble_eq_true rfl | (simp only [dl1, dl2, dl3, dl4, dl5, dl6]; omega)⟩
    | some i =>
      have hi := lastLe_lt hla
      cases i with
      | zero =>
        conv => whnf
        refine ⟨fun h => absurd h (by simp only [w_cmp]; decide), fun _ => ?_⟩
        obtain rfl : s = 0 := by rw [← hsv, prN, hla]; rfl
        conv => whnf
        refine ⟨⟨_, rfl, rfl⟩, ⟨rfl, fx_up fx_rf (iUU rfl), A, _, h1, uF_s, mR_z r⟩, by first | omega | exact Nat.le_of_ble_eq_true rfl | (simp only [dl1, dl2, dl3, dl4, dl5, dl6]; omega), by first | omega | exact Nat.le_of_ble_eq_true rfl | (simp only [dl1, dl2, dl3, dl4, dl5, dl6]; omega)⟩
      | succ i =>
        obtain rfl : s = i + 1 := by rw [← hsv, prN, hla]; rfl
        rw [show slI (some (i + 1)) = nI (i + 1) from rfl]
        conv => whnf
        refine ⟨fun _ => ?_, fun h => absurd ((q_gt0 (by omega)).mpr (by omega)) h⟩
        conv => whnf
        exact ⟨rfl, _, _, ⟨i + 1, A, rfl, rfl, rfl, rfl, rfl, by omega, Nat.le_refl _, by omega, fx_up fx_rf (iUU rfl), h1, mR_h0 (mR_z r), fun j X hj => by omega, fun j X _ hX => hse.2 j X hX⟩, rfl, rfl, rfl, trivial⟩
  · rintro d pc lv g1 k0 n0 ⟨k, A1, rfl, rfl, rfl, rfl, rfl, hs0, hsk, hk, hfx, h2, r2, hlo, hhi⟩
    conv => whnf
    refine ⟨_, _, h2.z, rfl, ?_⟩
    rw [f5']
    conv => whnf
    refine ⟨fun h5 => ?_, fun h5 => ?_⟩
    · have h6 := (q_ge (by omega) (by omega)).mp h5
      conv => whnf
      refine ⟨_, _, h2.z, rfl, ?_⟩
      rw [f5']
      conv => whnf
      rw [pk_sub (by omega)]
      conv => whnf
      refine ⟨_, h2.z, by simp, rfl, rfl, ?_⟩
      have h3 := mg_z h2 (F1 := uF (uF F 0 (nI 0)) 5 (nI (Hs.length - s)))
      have hse1 : seR A1 (Hs.drop s) := ⟨by rw [List.length_drop]; omega, fun i X hX => by
        rw [List.getElem?_drop, Nat.add_comm] at hX
        have := (List.getElem?_eq_some_iff.mp hX).1
        exact hlo i X (by omega) hX⟩
      have r3 := mR_hs r2 hse1
      rw [List.length_drop] at r3
      conv => whnf
      refine ⟨⟨_, rfl, rfl⟩, ⟨rfl, fx_up hfx (iUU rfl), A1, _, h3, rfl, r3⟩, by first | omega | exact Nat.le_of_ble_eq_true rfl | (simp only [dl1, dl2, dl3, dl4, dl5, dl6]; omega), by first | omega | exact Nat.le_of_ble_eq_true rfl | (simp only [dl1, dl2, dl3, dl4, dl5, dl6]; omega)⟩
    · have h6 : k < Hs.length := Nat.lt_of_not_le fun z => h5 ((q_ge (by omega) (by omega)).mpr z)
      have hX := List.getElem?_eq_getElem h6
      obtain ⟨x13, x14, xt⟩ := hhi k _ (Nat.le_refl _) hX
      conv => whnf
      rw [nI_add]
      conv => whnf
      rw [pk_sub (by omega), show 6 + k - s = 6 + (k - s) by omega]
      conv => whnf
      refine ⟨⟨_, h2.z⟩, (Nat.le_of_ble_eq_true rfl), _, _, _, c_M_copy hfl h2 (by omega) (by omega) (by omega) xt, by first | omega | exact Nat.le_of_ble_eq_true rfl | (simp only [dl1, dl2, dl3, dl4, dl5, dl6]; omega), by first | omega | exact Nat.le_of_ble_eq_true rfl | (simp only [dl1, dl2, dl3, dl4, dl5, dl6]; omega), fun v g2 hh => ?_, fun C g2 hh => ?_⟩
      rotate_left
      · cases hh.1
      obtain ⟨hv, hfx2, A2, h3, hd, ht⟩ := hh
      cases hv
      have d13 : A2 13 = A1 13 := hi_dif hd (by decide)
      have d14 : A2 14 = A1 14 := hi_dif hd (by decide)
      conv => whnf
      refine ⟨_, _, h3.z, rfl, ?_⟩
      conv => whnf
      rw [pk_sub hsk]
      conv => whnf
      refine ⟨_, _, h3.z, rfl, ?_⟩
      conv => whnf
      refine Or.inl ⟨1, _, _, k, h3.a13, rfl, rfl, by omega, by first | decide | omega, ?_⟩
      rw [d13, x13]
      conv => whnf
      refine ⟨1, _, _, k - s, h3.a13, rfl, rfl, by omega, by first | decide | omega, ?_⟩
      have h4 := mg_up h3 (i := 13) (by decide) (by decide) (f := upd (A2 13) (k - s) Hs[k].1)
      conv => whnf
      refine ⟨_, _, h4.z, rfl, ?_⟩
      conv => whnf
      rw [pk_sub hsk]
      conv => whnf
      refine ⟨_, _, h4.z, rfl, ?_⟩
      conv => whnf
      refine Or.inl ⟨1, _, _, k, h4.a14, rfl, rfl, by omega, by first | decide | omega, ?_⟩
      rw [uA_n (by decide), d14, x14]
      conv => whnf
      refine ⟨1, _, _, k - s, h4.a14, rfl, rfl, by omega, by first | decide | omega, ?_⟩
      have h5' := mg_up h4 (i := 14) (by decide) (by decide) (f := upd (A2 14) (k - s) (nI Hs[k].2.1))
      have r5 := mR_13 (A1 := uA (uA A2 13 (upd (A2 13) (k - s) Hs[k].1)) 14 (upd (A2 14) (k - s) (nI Hs[k].2.1))) (mR_tr r2 hd (by simp)) (fun q a b => by rw [uA_n b, uA_n a]) (fun q hq => by simp at hq)
      have et : ∀ {t : Nat} {L : List Ent}, tm A2 t L → tm (uA (uA A2 13 (upd (A2 13) (k - s) Hs[k].1)) 14 (upd (A2 14) (k - s) (nI Hs[k].2.1))) t L := fun hh => tm_eq hh (fun q hq => by rw [uA_n (by omega), uA_n (by omega)])
      conv => whnf
      refine ⟨rfl, _, _, by omega, ⟨k + 1, _, rfl, rfl, rfl, rfl, rfl, hs0, by omega, h6, fx_up (fx_up (fx_tr hfx hfx2) (iUU rfl)) (iUU rfl), h5', r5, fun i X hi hX2 => ?_, fun j X hj hX2 => ?_⟩, rfl, rfl, sI k, trivial⟩
      · rw [uA_n (by decide : (13 : Nat) ≠ 14), uA_s, uA_s]
        by_cases hik : i + s = k
        · rw [hik, hX] at hX2
          cases hX2
          rw [show i = k - s by omega, pk_us, pk_us]
          exact ⟨rfl, rfl, et ht⟩
        · obtain ⟨a, b, c⟩ := hlo i X (by omega) hX2
          rw [pk_un (by omega), pk_un (by omega), d13, d14]
          exact ⟨a, b, et (tm_dif c hd (by omega))⟩
      · obtain ⟨a, b, c⟩ := hhi j X (by omega) hX2
        rw [uA_n (by decide : (13 : Nat) ≠ 14), uA_s, uA_s, pk_un (by omega), pk_un (by omega), d13, d14]
        exact ⟨a, b, et (tm_dif c hd (by omega))⟩
end MBG
