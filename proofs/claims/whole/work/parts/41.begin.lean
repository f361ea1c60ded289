/-! MirrorKeep: begin, crash, restore, prune, differ -/
section KB
variable {ad : Nat → Nat} {g : g_H} {R T : List Nat} {S M Rs : List Ent} {Hs : List Ses} {X : List Chg} {ch st tm dn : Int32} {rs : Nat}
variable {l : Launch} {D : va_G} {aC : Nat → ClassId}
def beR (Hs : List Ses) (x : Int32) : Nat := if 40 ≤ Hs.length then 2 else if x.toInt < 0 ∨ (∃ S, Hs[Hs.length - 1]? = some S ∧ x.toInt ≤ S.1.toInt) then 1 else 0
theorem atI_last (Hs : List Ses) (h : Hs.length ≤ 40) : atI Hs (nI Hs.length - nI 1) = Hs[Hs.length - 1]? := by
  cases Hs with
  | nil =>
    show atI [] (nI 0 - nI 1) = none
    rw [atI, if_pos (by decide)]
  | cons a r =>
    rw [pk_sub (by simp), atI_nI (by simp only [List.length_cons] at *; omega)]
theorem c_K_begin_no (hfl : l.flags = pinnedFlags ++ [noTraceFlag]) (h : cK ad g R T S M Rs Hs X ch st tm dn rs) {x : Int32} (hs : ¬ st = 0 ∨ beR Hs x = 2) : k_CT l D aC n_K_begin 16 4000 [.ref (ad 0), .int x] g (kO ad g (.inr IS) R T S M Rs Hs X ch st tm dn) := by
  by_cases hs0 : st = 0
  · have hb : 40 ≤ Hs.length := by
      rcases hs with z | z
      · exact absurd hs0 z
      · unfold beR at z
        split at z
        · assumption
        · split at z <;> cases z
    obtain ⟨hj, z1, t1, s1, m1, r1, h1, c1, -⟩ := id h
    obtain ⟨f4, h2, -, h3, -⟩ := id h1
    refine k_ln hfl n_K_begin ok_K_begin rfl rfl rfl rfl rfl rfl (fun h => by cases h) (Nat.le_of_ble_eq_true rfl) 60 ?_
    conv => whnf
    refine ⟨⟨_, z1⟩, (Nat.le_of_ble_eq_true rfl), _, _, _, c_K_rr hfl h hs0, by first | omega | exact Nat.le_of_ble_eq_true rfl | (simp only [dl1, dl2, dl3, dl4, dl5, dl6]; omega), by first | omega | exact Nat.le_of_ble_eq_true rfl | (simp only [dl1, dl2, dl3, dl4, dl5, dl6]; omega), k_rl ?_, k_rr⟩
    conv => whnf
    refine ⟨_, _, z1, rfl, ?_⟩
    conv => whnf
    refine ⟨⟨_, h2⟩, (Nat.le_of_ble_eq_true rfl), _, _, _, c_H_size hfl h1, by first | omega | exact Nat.le_of_ble_eq_true rfl | (simp only [dl1, dl2, dl3, dl4, dl5, dl6]; omega), by first | omega | exact Nat.le_of_ble_eq_true rfl | (simp only [dl1, dl2, dl3, dl4, dl5, dl6]; omega), k_rl ?_, k_rr⟩
    conv => whnf
    refine ⟨fun h => absurd h (fun z => absurd ((q_lt (by omega) (by decide)).mp z) (by omega)), fun _ => ?_⟩
    conv => whnf
    refine ⟨(Nat.le_of_ble_eq_true rfl), kO_same h, by first | omega | exact Nat.le_of_ble_eq_true rfl | (simp only [dl1, dl2, dl3, dl4, dl5, dl6]; omega), by first | omega | exact Nat.le_of_ble_eq_true rfl | (simp only [dl1, dl2, dl3, dl4, dl5, dl6]; omega)⟩
  · refine k_ln hfl n_K_begin ok_K_begin rfl rfl rfl rfl rfl rfl (fun h => by cases h) (Nat.le_of_ble_eq_true rfl) 60 ?_
    conv => whnf
    refine ⟨⟨_, h.2.1⟩, (Nat.le_of_ble_eq_true rfl), _, _, _, c_K_rr_no hfl h hs0, by first | omega | exact Nat.le_of_ble_eq_true rfl | (simp only [dl1, dl2, dl3, dl4, dl5, dl6]; omega), by first | omega | exact Nat.le_of_ble_eq_true rfl | (simp only [dl1, dl2, dl3, dl4, dl5, dl6]; omega), fun v g1 hh => ?_, fun C g1 hh => ?_⟩
    · cases hh.1
    · obtain ⟨hv, rfl⟩ := hh
      cases hv
      exact ⟨kO_same h, by first | omega | exact Nat.le_of_ble_eq_true rfl | (simp only [dl1, dl2, dl3, dl4, dl5, dl6]; omega), by first | omega | exact Nat.le_of_ble_eq_true rfl | (simp only [dl1, dl2, dl3, dl4, dl5, dl6]; omega)⟩
theorem c_K_begin_bad (hfl : l.flags = pinnedFlags ++ [noTraceFlag]) (h : cK ad g R T S M Rs Hs X ch st tm dn rs) (hs : st = 0) {x : Int32} (hb : beR Hs x = 1) : k_CT l D aC n_K_begin 16 4000 [.ref (ad 0), .int x] g (kO ad g (.inr IA) R T S M Rs Hs X ch st tm dn) := by
  obtain ⟨hj, z1, t1, s1, m1, r1, h1, c1, -⟩ := id h
  obtain ⟨f4, h2, -, h3, -⟩ := id h1
  have hlt : Hs.length < 40 := by
    unfold beR at hb
    split at hb
    · cases hb
    · omega
  refine k_ln hfl n_K_begin ok_K_begin rfl rfl rfl rfl rfl rfl (fun h => by cases h) (Nat.le_of_ble_eq_true rfl) 60 ?_
  conv => whnf
  refine ⟨⟨_, z1⟩, (Nat.le_of_ble_eq_true rfl), _, _, _, c_K_rr hfl h hs, by first | omega | exact Nat.le_of_ble_eq_true rfl | (simp only [dl1, dl2, dl3, dl4, dl5, dl6]; omega), by first | omega | exact Nat.le_of_ble_eq_true rfl | (simp only [dl1, dl2, dl3, dl4, dl5, dl6]; omega), k_rl ?_, k_rr⟩
  conv => whnf
  refine ⟨_, _, z1, rfl, ?_⟩
  conv => whnf
  refine ⟨⟨_, h2⟩, (Nat.le_of_ble_eq_true rfl), _, _, _, c_H_size hfl h1, by first | omega | exact Nat.le_of_ble_eq_true rfl | (simp only [dl1, dl2, dl3, dl4, dl5, dl6]; omega), by first | omega | exact Nat.le_of_ble_eq_true rfl | (simp only [dl1, dl2, dl3, dl4, dl5, dl6]; omega), k_rl ?_, k_rr⟩
  conv => whnf
  refine ⟨fun _ => ?_, fun h => absurd ((q_lt (by omega) (by decide)).mpr hlt) h⟩
  conv => whnf
  refine ⟨_, _, z1, rfl, ?_⟩
  conv => whnf
  refine ⟨_, _, z1, rfl, ?_⟩
  conv => whnf
  refine ⟨⟨_, h2⟩, (Nat.le_of_ble_eq_true rfl), _, _, _, c_H_size hfl h1, by first | omega | exact Nat.le_of_ble_eq_true rfl | (simp only [dl1, dl2, dl3, dl4, dl5, dl6]; omega), by first | omega | exact Nat.le_of_ble_eq_true rfl | (simp only [dl1, dl2, dl3, dl4, dl5, dl6]; omega), k_rl ?_, k_rr⟩
  conv => whnf
  refine ⟨⟨_, h2⟩, (Nat.le_of_ble_eq_true rfl), _, _, _, c_H_sessionAt hfl h1, by first | omega | exact Nat.le_of_ble_eq_true rfl | (simp only [dl1, dl2, dl3, dl4, dl5, dl6]; omega), by first | omega | exact Nat.le_of_ble_eq_true rfl | (simp only [dl1, dl2, dl3, dl4, dl5, dl6]; omega), fun v g1 hh => ?_, fun C g1 hh => ?_⟩
  rotate_left
  · obtain ⟨-, v, hv, -⟩ := hh
    cases hv
  obtain ⟨rfl, v, hv, hE⟩ := hh
  cases hv
  have hE : oS (UU ad) g1 v (atI Hs (nI Hs.length - nI 1)) := hE
  rw [atI_last Hs h3] at hE
  have hb2 : x.toInt < 0 ∨ (∃ S, Hs[Hs.length - 1]? = some S ∧ x.toInt ≤ S.1.toInt) := by
    unfold beR at hb
    rw [if_neg (by omega)] at hb
    split at hb
    · assumption
    · cases hb
  cases ho : Hs[Hs.length - 1]? with
  | none =>
    rw [ho] at hE
    cases hE
    conv => whnf
    refine ⟨(Nat.le_of_ble_eq_true rfl), _, _, _, c_K_isTime hfl, by first | omega | exact Nat.le_of_ble_eq_true rfl | (simp only [dl1, dl2, dl3, dl4, dl5, dl6]; omega), by first | omega | exact Nat.le_of_ble_eq_true rfl | (simp only [dl1, dl2, dl3, dl4, dl5, dl6]; omega), k_rl ?_, k_rr⟩
    have : tmOk x = false := by
      rw [tmOk]
      rcases hb2 with z | ⟨S, hS, -⟩
      · exact decide_eq_false (by omega)
      · rw [ho] at hS; cases hS
    rw [this]
    conv => whnf
    refine ⟨fun _ => ?_, fun h => absurd b2_f h⟩
    conv => whnf
    refine ⟨(Nat.le_of_ble_eq_true rfl), kO_same h, by first | omega | exact Nat.le_of_ble_eq_true rfl | (simp only [dl1, dl2, dl3, dl4, dl5, dl6]; omega), by first | omega | exact Nat.le_of_ble_eq_true rfl | (simp only [dl1, dl2, dl3, dl4, dl5, dl6]; omega)⟩
  | some E =>
    rw [ho] at hE
    obtain ⟨b, rfl, ⟨t, e1, -⟩⟩ := hE
    conv => whnf
    refine ⟨(Nat.le_of_ble_eq_true rfl), _, _, _, c_K_isTime hfl, by first | omega | exact Nat.le_of_ble_eq_true rfl | (simp only [dl1, dl2, dl3, dl4, dl5, dl6]; omega), by first | omega | exact Nat.le_of_ble_eq_true rfl | (simp only [dl1, dl2, dl3, dl4, dl5, dl6]; omega), k_rl ?_, k_rr⟩
    by_cases hx : x.toInt < 0
    · have : tmOk x = false := by rw [tmOk]; exact decide_eq_false (by omega)
      rw [this]
      conv => whnf
      refine ⟨fun _ => ?_, fun h => absurd b2_f h⟩
      conv => whnf
      refine ⟨(Nat.le_of_ble_eq_true rfl), kO_same h, by first | omega | exact Nat.le_of_ble_eq_true rfl | (simp only [dl1, dl2, dl3, dl4, dl5, dl6]; omega), by first | omega | exact Nat.le_of_ble_eq_true rfl | (simp only [dl1, dl2, dl3, dl4, dl5, dl6]; omega)⟩
    · have : tmOk x = true := by rw [tmOk]; exact decide_eq_true (by omega)
      rw [this]
      conv => whnf
      refine ⟨fun h => absurd h b2_t, fun _ => ?_⟩
      conv => whnf
      refine ⟨_, _, e1, rfl, ?_⟩
      have hle : x.toInt ≤ E.1.toInt := by
        rcases hb2 with z | ⟨S, hS, hl⟩
        · exact absurd z hx
        · rw [ho] at hS; cases hS; exact hl
      conv => whnf
      refine ⟨fun h => absurd h (show ¬ E.1.toInt < x.toInt by omega), fun _ => ?_⟩
      conv => whnf
      refine ⟨(Nat.le_of_ble_eq_true rfl), kO_same h, by first | omega | exact Nat.le_of_ble_eq_true rfl | (simp only [dl1, dl2, dl3, dl4, dl5, dl6]; omega), by first | omega | exact Nat.le_of_ble_eq_true rfl | (simp only [dl1, dl2, dl3, dl4, dl5, dl6]; omega)⟩
theorem c_K_begin (hfl : l.flags = pinnedFlags ++ [noTraceFlag]) (h : cK ad g R T S M Rs Hs X ch st tm dn rs) (hs : st = 0) {x : Int32} (hb : beR Hs x = 0) (hl : M.length + S.length ≤ 180) : k_CT l D aC n_K_begin 16 4000 [.ref (ad 0), .int x] g (kO ad g (.inl (some (.int (nI (2 * (difL (M.length + S.length) M S).length + 3))))) R T S M Rs Hs (difL (M.length + S.length) M S) ch (nI 1) x dn) := by
  obtain ⟨hj, z1, t1, s1, m1, r1, h1, c1, -⟩ := id h
  obtain ⟨f4, h2, -, h3, -⟩ := id h1
  have hlt : Hs.length < 40 := by
    unfold beR at hb
    split at hb
    · cases hb
    · omega
  refine k_ln hfl n_K_begin ok_K_begin rfl rfl rfl rfl rfl rfl (fun h => by cases h) (Nat.le_of_ble_eq_true rfl) 60 ?_
  conv => whnf
  refine ⟨⟨_, z1⟩, (Nat.le_of_ble_eq_true rfl), _, _, _, c_K_rr hfl h hs, by first | omega | exact Nat.le_of_ble_eq_true rfl | (simp only [dl1, dl2, dl3, dl4, dl5, dl6]; omega), by first | omega | exact Nat.le_of_ble_eq_true rfl | (simp only [dl1, dl2, dl3, dl4, dl5, dl6]; omega), k_rl ?_, k_rr⟩
  conv => whnf
  refine ⟨_, _, z1, rfl, ?_⟩
  conv => whnf
  refine ⟨⟨_, h2⟩, (Nat.le_of_ble_eq_true rfl), _, _, _, c_H_size hfl h1, by first | omega | exact Nat.le_of_ble_eq_true rfl | (simp only [dl1, dl2, dl3, dl4, dl5, dl6]; omega), by first | omega | exact Nat.le_of_ble_eq_true rfl | (simp only [dl1, dl2, dl3, dl4, dl5, dl6]; omega), k_rl ?_, k_rr⟩
  conv => whnf
  refine ⟨fun _ => ?_, fun h => absurd ((q_lt (by omega) (by decide)).mpr hlt) h⟩
  conv => whnf
  refine ⟨_, _, z1, rfl, ?_⟩
  conv => whnf
  refine ⟨_, _, z1, rfl, ?_⟩
  conv => whnf
  refine ⟨⟨_, h2⟩, (Nat.le_of_ble_eq_true rfl), _, _, _, c_H_size hfl h1, by first | omega | exact Nat.le_of_ble_eq_true rfl | (simp only [dl1, dl2, dl3, dl4, dl5, dl6]; omega), by first | omega | exact Nat.le_of_ble_eq_true rfl | (simp only [dl1, dl2, dl3, dl4, dl5, dl6]; omega), k_rl ?_, k_rr⟩
  conv => whnf
  refine ⟨⟨_, h2⟩, (Nat.le_of_ble_eq_true rfl), _, _, _, c_H_sessionAt hfl h1, by first | omega | exact Nat.le_of_ble_eq_true rfl | (simp only [dl1, dl2, dl3, dl4, dl5, dl6]; omega), by first | omega | exact Nat.le_of_ble_eq_true rfl | (simp only [dl1, dl2, dl3, dl4, dl5, dl6]; omega), fun v g1 hh => ?_, fun C g1 hh => ?_⟩
  rotate_left
  · obtain ⟨-, v, hv, -⟩ := hh
    cases hv
  obtain ⟨rfl, v, hv, hE⟩ := hh
  cases hv
  have hE : oS (UU ad) g1 v (atI Hs (nI Hs.length - nI 1)) := hE
  rw [atI_last Hs h3] at hE
  have hb2 : ¬ (x.toInt < 0 ∨ (∃ S, Hs[Hs.length - 1]? = some S ∧ x.toInt ≤ S.1.toInt)) := by
    unfold beR at hb
    rw [if_neg (by omega)] at hb
    split at hb
    · cases hb
    · assumption
  have htm : tmOk x = true := by rw [tmOk]; exact decide_eq_true (Int.not_lt.mp fun z => hb2 (Or.inl z))
  obtain ⟨f5, f6, c2, -⟩ := id c1
  cases ho : Hs[Hs.length - 1]? with
  | none =>
    rw [ho] at hE
    cases hE
    conv => whnf
    refine ⟨(Nat.le_of_ble_eq_true rfl), _, _, _, c_K_isTime hfl, by first | omega | exact Nat.le_of_ble_eq_true rfl | (simp only [dl1, dl2, dl3, dl4, dl5, dl6]; omega), by first | omega | exact Nat.le_of_ble_eq_true rfl | (simp only [dl1, dl2, dl3, dl4, dl5, dl6]; omega), k_rl ?_, k_rr⟩
    rw [htm]
    conv => whnf
    refine ⟨fun h => absurd h b2_t, fun _ => ?_⟩
    conv => whnf
    refine ⟨_, _, z1, rfl, ?_⟩
    conv => whnf
    refine ⟨_, _, z1, rfl, ?_⟩
    conv => whnf
    refine ⟨_, _, z1, rfl, ?_⟩
    conv => whnf
    refine ⟨⟨_, c2⟩, (Nat.le_of_ble_eq_true rfl), _, _, _, c_C_gather hfl c1 m1 s1 hl (iUU rfl) (iUU rfl) (iUU rfl), by first | omega | exact Nat.le_of_ble_eq_true rfl | (simp only [dl1, dl2, dl3, dl4, dl5, dl6]; omega), by first | omega | exact Nat.le_of_ble_eq_true rfl | (simp only [dl1, dl2, dl3, dl4, dl5, dl6]; omega), fun v g2 hh => ?_, fun C g2 hh => ?_⟩
    · obtain ⟨hv, hc5, hf5⟩ := hh
      cases hv
      have h5 := cK_chs h hc5 hf5
      conv => whnf
      refine ⟨_, h5.2.1, by simp, rfl, rfl, ?_⟩
      have h6 := cK_z (ch1 := ch) (st1 := st) (tm1 := x) (dn1 := dn) h5
      conv => whnf
      refine ⟨_, h6.2.1, by simp, rfl, rfl, ?_⟩
      have h7 := cK_z (ch1 := ch) (st1 := nI 1) (tm1 := x) (dn1 := dn) h6
      conv => whnf
      refine ⟨⟨_, h7.2.1⟩, (Nat.le_of_ble_eq_true rfl), _, _, _, c_K_operations hfl h7, by first | omega | exact Nat.le_of_ble_eq_true rfl | (simp only [dl1, dl2, dl3, dl4, dl5, dl6]; omega), by first | omega | exact Nat.le_of_ble_eq_true rfl | (simp only [dl1, dl2, dl3, dl4, dl5, dl6]; omega), k_rl ?_, k_rr⟩
      conv => whnf
      refine ⟨⟨_, rfl, rfl⟩, ?_, by first | omega | exact Nat.le_of_ble_eq_true rfl | (simp only [dl1, dl2, dl3, dl4, dl5, dl6]; omega), by first | omega | exact Nat.le_of_ble_eq_true rfl | (simp only [dl1, dl2, dl3, dl4, dl5, dl6]; omega)⟩
      exact ⟨rfl, fx_up (fx_up (fx_sub hf5 (sUU (I := [10, 11, 12]) rfl)) (iUU rfl)) (iUU rfl), rs, h7⟩
    · cases hh.1
  | some E =>
    rw [ho] at hE
    obtain ⟨b, rfl, ⟨t, e1, -⟩⟩ := hE
    conv => whnf
    refine ⟨(Nat.le_of_ble_eq_true rfl), _, _, _, c_K_isTime hfl, by first | omega | exact Nat.le_of_ble_eq_true rfl | (simp only [dl1, dl2, dl3, dl4, dl5, dl6]; omega), by first | omega | exact Nat.le_of_ble_eq_true rfl | (simp only [dl1, dl2, dl3, dl4, dl5, dl6]; omega), k_rl ?_, k_rr⟩
    rw [htm]
    conv => whnf
    refine ⟨fun h => absurd h b2_t, fun _ => ?_⟩
    conv => whnf
    refine ⟨_, _, e1, rfl, ?_⟩
    conv => whnf
    refine ⟨fun _ => ?_, fun h => absurd (show E.1.toInt < x.toInt from Int.not_le.mp fun z => hb2 (Or.inr ⟨E, ho, z⟩)) h⟩
    conv => whnf
    refine ⟨_, _, z1, rfl, ?_⟩
    conv => whnf
    refine ⟨_, _, z1, rfl, ?_⟩
    conv => whnf
    refine ⟨_, _, z1, rfl, ?_⟩
    conv => whnf
    refine ⟨⟨_, c2⟩, (Nat.le_of_ble_eq_true rfl), _, _, _, c_C_gather hfl c1 m1 s1 hl (iUU rfl) (iUU rfl) (iUU rfl), by first | omega | exact Nat.le_of_ble_eq_true rfl | (simp only [dl1, dl2, dl3, dl4, dl5, dl6]; omega), by first | omega | exact Nat.le_of_ble_eq_true rfl | (simp only [dl1, dl2, dl3, dl4, dl5, dl6]; omega), fun v g2 hh => ?_, fun C g2 hh => ?_⟩
    · obtain ⟨hv, hc5, hf5⟩ := hh
      cases hv
      have h5 := cK_chs h hc5 hf5
      conv => whnf
      refine ⟨_, h5.2.1, by simp, rfl, rfl, ?_⟩
      have h6 := cK_z (ch1 := ch) (st1 := st) (tm1 := x) (dn1 := dn) h5
      conv => whnf
      refine ⟨_, h6.2.1, by simp, rfl, rfl, ?_⟩
      have h7 := cK_z (ch1 := ch) (st1 := nI 1) (tm1 := x) (dn1 := dn) h6
      conv => whnf
      refine ⟨⟨_, h7.2.1⟩, (Nat.le_of_ble_eq_true rfl), _, _, _, c_K_operations hfl h7, by first | omega | exact Nat.le_of_ble_eq_true rfl | (simp only [dl1, dl2, dl3, dl4, dl5, dl6]; omega), by first | omega | exact Nat.le_of_ble_eq_true rfl | (simp only [dl1, dl2, dl3, dl4, dl5, dl6]; omega), k_rl ?_, k_rr⟩
      conv => whnf
      refine ⟨⟨_, rfl, rfl⟩, ?_, by first | omega | exact Nat.le_of_ble_eq_true rfl | (simp only [dl1, dl2, dl3, dl4, dl5, dl6]; omega), by first | omega | exact Nat.le_of_ble_eq_true rfl | (simp only [dl1, dl2, dl3, dl4, dl5, dl6]; omega)⟩
      exact ⟨rfl, fx_up (fx_up (fx_sub hf5 (sUU (I := [10, 11, 12]) rfl)) (iUU rfl)) (iUU rfl), rs, h7⟩
    · cases hh.1
theorem c_K_crash (hfl : l.flags = pinnedFlags ++ [noTraceFlag]) (h : cK ad g R T S M Rs Hs X ch st tm dn rs) (hs : st = nI 1) : k_CT l D aC n_K_crash 16 4000 [.ref (ad 0)] g (kO ad g (.inl none) R T S M Rs Hs X ch (nI 2) tm dn) := by
  refine k_ln hfl n_K_crash ok_K_crash rfl rfl rfl rfl rfl rfl (fun h => by cases h) (Nat.le_of_ble_eq_true rfl) 60 ?_
  conv => whnf
  refine ⟨_, _, h.2.1, rfl, ?_⟩
  conv => whnf
  refine ⟨fun _ => ?_, fun h => absurd hs h⟩
  conv => whnf
  refine ⟨_, h.2.1, by simp, rfl, rfl, ?_⟩
  conv => whnf
  refine ⟨rfl, ?_, by first | omega | exact Nat.le_of_ble_eq_true rfl | (simp only [dl1, dl2, dl3, dl4, dl5, dl6]; omega), by first | omega | exact Nat.le_of_ble_eq_true rfl | (simp only [dl1, dl2, dl3, dl4, dl5, dl6]; omega)⟩
  exact ⟨rfl, fx_up fx_rf (iUU rfl), rs, cK_z h⟩
theorem c_K_crash_no (hfl : l.flags = pinnedFlags ++ [noTraceFlag]) (h : cK ad g R T S M Rs Hs X ch st tm dn rs) (hs : ¬ st = nI 1) : k_CT l D aC n_K_crash 16 4000 [.ref (ad 0)] g (kO ad g (.inr IS) R T S M Rs Hs X ch st tm dn) := by
  refine k_ln hfl n_K_crash ok_K_crash rfl rfl rfl rfl rfl rfl (fun h => by cases h) (Nat.le_of_ble_eq_true rfl) 60 ?_
  conv => whnf
  refine ⟨_, _, h.2.1, rfl, ?_⟩
  conv => whnf
  refine ⟨fun h => absurd h hs, fun _ => ?_⟩
  conv => whnf
  refine ⟨(Nat.le_of_ble_eq_true rfl), kO_same h, by first | omega | exact Nat.le_of_ble_eq_true rfl | (simp only [dl1, dl2, dl3, dl4, dl5, dl6]; omega), by first | omega | exact Nat.le_of_ble_eq_true rfl | (simp only [dl1, dl2, dl3, dl4, dl5, dl6]; omega)⟩
theorem lastLe_lt {Hs : List Ses} {x : Int32} : ∀ {c n : Nat}, lastLe Hs x c = some n → n < c
  | 0, n, h => by cases h
  | c + 1, n, h => by
    unfold lastLe at h
    split at h
    · cases h; omega
    · have := lastLe_lt h; omega
theorem slI_neg {α : Type} (L : List α) : atI L (slI none) = none := by
  rw [atI, if_pos (by decide)]
theorem c_K_restore_no (hfl : l.flags = pinnedFlags ++ [noTraceFlag]) (h : cK ad g R T S M Rs Hs X ch st tm dn rs) {x : Int32} (hs : ¬ st = 0 ∨ lastLe Hs x Hs.length = none) : k_CT l D aC n_K_restore 16 4000 [.ref (ad 0), .int x] g (kO ad g (.inr IS) R T S M Rs Hs X ch st tm dn) := by
  by_cases hs0 : st = 0
  · have hb : lastLe Hs x Hs.length = none := by
      rcases hs with z | z
      · exact absurd hs0 z
      · exact z
    obtain ⟨hj, z1, t1, s1, m1, r1, h1, c1, -⟩ := id h
    obtain ⟨f4, h2, -, h3, -⟩ := id h1
    refine k_ln hfl n_K_restore ok_K_restore rfl rfl rfl rfl rfl rfl (fun h => by cases h) (Nat.le_of_ble_eq_true rfl) 60 ?_
    conv => whnf
    refine ⟨⟨_, z1⟩, (Nat.le_of_ble_eq_true rfl), _, _, _, c_K_rr hfl h hs0, by first | omega | exact Nat.le_of_ble_eq_true rfl | (simp only [dl1, dl2, dl3, dl4, dl5, dl6]; omega), by first | omega | exact Nat.le_of_ble_eq_true rfl | (simp only [dl1, dl2, dl3, dl4, dl5, dl6]; omega), k_rl ?_, k_rr⟩
    conv => whnf
    refine ⟨_, _, z1, rfl, ?_⟩
    conv => whnf
    refine ⟨_, _, z1, rfl, ?_⟩
    conv => whnf
    refine ⟨⟨_, h2⟩, (Nat.le_of_ble_eq_true rfl), _, _, _, c_H_latestNotAbove hfl h1, by first | omega | exact Nat.le_of_ble_eq_true rfl | (simp only [dl1, dl2, dl3, dl4, dl5, dl6]; omega), by first | omega | exact Nat.le_of_ble_eq_true rfl | (simp only [dl1, dl2, dl3, dl4, dl5, dl6]; omega), k_rl ?_, k_rr⟩
    conv => whnf
    refine ⟨⟨_, h2⟩, (Nat.le_of_ble_eq_true rfl), _, _, _, c_H_sessionAt hfl h1, by first | omega | exact Nat.le_of_ble_eq_true rfl | (simp only [dl1, dl2, dl3, dl4, dl5, dl6]; omega), by first | omega | exact Nat.le_of_ble_eq_true rfl | (simp only [dl1, dl2, dl3, dl4, dl5, dl6]; omega), fun v g1 hh => ?_, fun C g1 hh => ?_⟩
    · obtain ⟨rfl, v, hv, hE⟩ := hh
      cases hv
      rw [hb, slI_neg] at hE
      cases hE
      conv => whnf
      refine ⟨(Nat.le_of_ble_eq_true rfl), kO_same h, by first | omega | exact Nat.le_of_ble_eq_true rfl | (simp only [dl1, dl2, dl3, dl4, dl5, dl6]; omega), by first | omega | exact Nat.le_of_ble_eq_true rfl | (simp only [dl1, dl2, dl3, dl4, dl5, dl6]; omega)⟩
    · obtain ⟨-, v, hv, -⟩ := hh
      cases hv
  · refine k_ln hfl n_K_restore ok_K_restore rfl rfl rfl rfl rfl rfl (fun h => by cases h) (Nat.le_of_ble_eq_true rfl) 60 ?_
    conv => whnf
    refine ⟨⟨_, h.2.1⟩, (Nat.le_of_ble_eq_true rfl), _, _, _, c_K_rr_no hfl h hs0, by first | omega | exact Nat.le_of_ble_eq_true rfl | (simp only [dl1, dl2, dl3, dl4, dl5, dl6]; omega), by first | omega | exact Nat.le_of_ble_eq_true rfl | (simp only [dl1, dl2, dl3, dl4, dl5, dl6]; omega), fun v g1 hh => ?_, fun C g1 hh => ?_⟩
    · cases hh.1
    · obtain ⟨hv, rfl⟩ := hh
      cases hv
      exact ⟨kO_same h, by first | omega | exact Nat.le_of_ble_eq_true rfl | (simp only [dl1, dl2, dl3, dl4, dl5, dl6]; omega), by first | omega | exact Nat.le_of_ble_eq_true rfl | (simp only [dl1, dl2, dl3, dl4, dl5, dl6]; omega)⟩
theorem c_K_restore (hfl : l.flags = pinnedFlags ++ [noTraceFlag]) (h : cK ad g R T S M Rs Hs X ch st tm dn rs) (hs : st = 0) {x : Int32} {i : Nat} {E : Ses} (hi : lastLe Hs x Hs.length = some i) (hE0 : Hs[i]? = some E) : k_CT l D aC n_K_restore 16 4000 [.ref (ad 0), .int x] g (kO ad g (.inl (some (.int (nI E.2.2.length)))) R T S M E.2.2 Hs X ch st tm dn) := by
  obtain ⟨hj, z1, t1, s1, m1, r1, h1, c1, -⟩ := id h
  obtain ⟨f4, h2, -, h3, -⟩ := id h1
  have hlt := lastLe_lt hi
  refine k_ln hfl n_K_restore ok_K_restore rfl rfl rfl rfl rfl rfl (fun h => by cases h) (Nat.le_of_ble_eq_true rfl) 60 ?_
  conv => whnf
  refine ⟨⟨_, z1⟩, (Nat.le_of_ble_eq_true rfl), _, _, _, c_K_rr hfl h hs, by first | omega | exact Nat.le_of_ble_eq_true rfl | (simp only [dl1, dl2, dl3, dl4, dl5, dl6]; omega), by first | omega | exact Nat.le_of_ble_eq_true rfl | (simp only [dl1, dl2, dl3, dl4, dl5, dl6]; omega), k_rl ?_, k_rr⟩
  conv => whnf
  refine ⟨_, _, z1, rfl, ?_⟩
  conv => whnf
  refine ⟨_, _, z1, rfl, ?_⟩
  conv => whnf
  refine ⟨⟨_, h2⟩, (Nat.le_of_ble_eq_true rfl), _, _, _, c_H_latestNotAbove hfl h1, by first | omega | exact Nat.le_of_ble_eq_true rfl | (simp only [dl1, dl2, dl3, dl4, dl5, dl6]; omega), by first | omega | exact Nat.le_of_ble_eq_true rfl | (simp only [dl1, dl2, dl3, dl4, dl5, dl6]; omega), k_rl ?_, k_rr⟩
  conv => whnf
  refine ⟨⟨_, h2⟩, (Nat.le_of_ble_eq_true rfl), _, _, _, c_H_sessionAt hfl h1, by first | omega | exact Nat.le_of_ble_eq_true rfl | (simp only [dl1, dl2, dl3, dl4, dl5, dl6]; omega), by first | omega | exact Nat.le_of_ble_eq_true rfl | (simp only [dl1, dl2, dl3, dl4, dl5, dl6]; omega), fun v g1 hh => ?_, fun C g1 hh => ?_⟩
  · obtain ⟨rfl, v, hv, hE⟩ := hh
    cases hv
    rw [hi] at hE
    have hE : oS (UU ad) g1 v (atI Hs (nI i)) := hE
    rw [atI_nI (by omega), hE0] at hE
    obtain ⟨b, rfl, ⟨t, e1, e2, -⟩⟩ := hE
    conv => whnf
    refine ⟨_, _, e1, rfl, ?_⟩
    conv => whnf
    refine ⟨_, z1, by simp, rfl, rfl, ?_⟩
    have h5 := cK_r (rs1 := t) h e2
    obtain ⟨-, z2, -, -, -, ⟨ra, r5, -⟩, -⟩ := id h5
    obtain ⟨f6, r6, -⟩ := id r5
    conv => whnf
    refine ⟨_, _, z2, rfl, ?_⟩
    conv => whnf
    refine ⟨⟨_, r6⟩, (Nat.le_of_ble_eq_true rfl), _, _, _, c_R_size' hfl r5, by first | omega | exact Nat.le_of_ble_eq_true rfl | (simp only [dl1, dl2, dl3, dl4, dl5, dl6]; omega), by first | omega | exact Nat.le_of_ble_eq_true rfl | (simp only [dl1, dl2, dl3, dl4, dl5, dl6]; omega), k_rl ?_, k_rr⟩
    conv => whnf
    refine ⟨⟨_, rfl, rfl⟩, ?_, by first | omega | exact Nat.le_of_ble_eq_true rfl | (simp only [dl1, dl2, dl3, dl4, dl5, dl6]; omega), by first | omega | exact Nat.le_of_ble_eq_true rfl | (simp only [dl1, dl2, dl3, dl4, dl5, dl6]; omega)⟩
    exact ⟨rfl, fx_up fx_rf (iUU rfl), t, h5⟩
  · obtain ⟨-, v, hv, -⟩ := hh
    cases hv
theorem c_K_prune_no (hfl : l.flags = pinnedFlags ++ [noTraceFlag]) (h : cK ad g R T S M Rs Hs X ch st tm dn rs) {x : Int32} (hs : ¬ st = 0) : k_CT l D aC n_K_prune 16 4000 [.ref (ad 0), .int x] g (kO ad g (.inr IS) R T S M Rs Hs X ch st tm dn) := by
  refine k_ln hfl n_K_prune ok_K_prune rfl rfl rfl rfl rfl rfl (fun h => by cases h) (Nat.le_of_ble_eq_true rfl) 60 ?_
  conv => whnf
  refine ⟨⟨_, h.2.1⟩, (Nat.le_of_ble_eq_true rfl), _, _, _, c_K_rr_no hfl h hs, by first | omega | exact Nat.le_of_ble_eq_true rfl | (simp only [dl1, dl2, dl3, dl4, dl5, dl6]; omega), by first | omega | exact Nat.le_of_ble_eq_true rfl | (simp only [dl1, dl2, dl3, dl4, dl5, dl6]; omega), fun v g1 hh => ?_, fun C g1 hh => ?_⟩
  · cases hh.1
  · obtain ⟨hv, rfl⟩ := hh
    cases hv
    exact ⟨kO_same h, by first | omega | exact Nat.le_of_ble_eq_true rfl | (simp only [dl1, dl2, dl3, dl4, dl5, dl6]; omega), by first | omega | exact Nat.le_of_ble_eq_true rfl | (simp only [dl1, dl2, dl3, dl4, dl5, dl6]; omega)⟩
/-- how many a prune forgets -/
def prN (Hs : List Ses) (x : Int32) : Nat := (lastLe Hs x Hs.length).getD 0
theorem c_K_prune (hfl : l.flags = pinnedFlags ++ [noTraceFlag]) (h : cK ad g R T S M Rs Hs X ch st tm dn rs) (hs : st = 0) {x : Int32} : k_CT l D aC n_K_prune 16 4000 [.ref (ad 0), .int x] g (kO ad g (.inl (some (.int (nI (prN Hs x))))) R T S M Rs (Hs.drop (prN Hs x)) X ch st tm dn) := by
  obtain ⟨hj, z1, t1, s1, m1, r1, h1, c1, -⟩ := id h
  obtain ⟨f4, h2, -, h3, -⟩ := id h1
  refine k_ln hfl n_K_prune ok_K_prune rfl rfl rfl rfl rfl rfl (fun h => by cases h) (Nat.le_of_ble_eq_true rfl) 60 ?_
  conv => whnf
  refine ⟨⟨_, z1⟩, (Nat.le_of_ble_eq_true rfl), _, _, _, c_K_rr hfl h hs, by first | omega | exact Nat.le_of_ble_eq_true rfl | (simp only [dl1, dl2, dl3, dl4, dl5, dl6]; omega), by first | omega | exact Nat.le_of_ble_eq_true rfl | (simp only [dl1, dl2, dl3, dl4, dl5, dl6]; omega), k_rl ?_, k_rr⟩
  conv => whnf
  refine ⟨_, _, z1, rfl, ?_⟩
  conv => whnf
  refine ⟨_, _, z1, rfl, ?_⟩
  conv => whnf
  refine ⟨⟨_, h2⟩, (Nat.le_of_ble_eq_true rfl), _, _, _, c_H_latestNotAbove hfl h1, by first | omega | exact Nat.le_of_ble_eq_true rfl | (simp only [dl1, dl2, dl3, dl4, dl5, dl6]; omega), by first | omega | exact Nat.le_of_ble_eq_true rfl | (simp only [dl1, dl2, dl3, dl4, dl5, dl6]; omega), k_rl ?_, k_rr⟩
  cases hi : lastLe Hs x Hs.length with
  | none =>
    conv => whnf
    refine ⟨⟨_, h2⟩, (Nat.le_of_ble_eq_true rfl), _, _, _, c_H_forget_no (U := UU ad) (ha := ad 9) (Hs := Hs) hfl (by decide), by first | omega | exact Nat.le_of_ble_eq_true rfl | (simp only [dl1, dl2, dl3, dl4, dl5, dl6]; omega), by first | omega | exact Nat.le_of_ble_eq_true rfl | (simp only [dl1, dl2, dl3, dl4, dl5, dl6]; omega), k_rl ?_, k_rr⟩
    rw [show prN Hs x = 0 by rw [prN, hi]; rfl]
    conv => whnf
    refine ⟨⟨_, rfl, rfl⟩, kO_same h, by first | omega | exact Nat.le_of_ble_eq_true rfl | (simp only [dl1, dl2, dl3, dl4, dl5, dl6]; omega), by first | omega | exact Nat.le_of_ble_eq_true rfl | (simp only [dl1, dl2, dl3, dl4, dl5, dl6]; omega)⟩
  | some i =>
    have hlt := lastLe_lt hi
    rw [show prN Hs x = i by rw [prN, hi]; rfl]
    by_cases h0 : i = 0
    · subst h0
      conv => whnf
      refine ⟨⟨_, h2⟩, (Nat.le_of_ble_eq_true rfl), _, _, _, c_H_forget_no (U := UU ad) (ha := ad 9) (Hs := Hs) hfl (by decide), by first | omega | exact Nat.le_of_ble_eq_true rfl | (simp only [dl1, dl2, dl3, dl4, dl5, dl6]; omega), by first | omega | exact Nat.le_of_ble_eq_true rfl | (simp only [dl1, dl2, dl3, dl4, dl5, dl6]; omega), k_rl ?_, k_rr⟩
      conv => whnf
      refine ⟨⟨_, rfl, rfl⟩, kO_same h, by first | omega | exact Nat.le_of_ble_eq_true rfl | (simp only [dl1, dl2, dl3, dl4, dl5, dl6]; omega), by first | omega | exact Nat.le_of_ble_eq_true rfl | (simp only [dl1, dl2, dl3, dl4, dl5, dl6]; omega)⟩
    · conv => whnf
      refine ⟨⟨_, h2⟩, (Nat.le_of_ble_eq_true rfl), _, _, _, c_H_forget hfl h1 (by omega) hlt (iUU rfl) (iUU rfl), by first | omega | exact Nat.le_of_ble_eq_true rfl | (simp only [dl1, dl2, dl3, dl4, dl5, dl6]; omega), by first | omega | exact Nat.le_of_ble_eq_true rfl | (simp only [dl1, dl2, dl3, dl4, dl5, dl6]; omega), fun v g1 hh => ?_, fun C g1 hh => ?_⟩
      · obtain ⟨hv, hc5, hf5⟩ := hh
        cases hv
        conv => whnf
        refine ⟨⟨_, rfl, rfl⟩, ?_, by first | omega | exact Nat.le_of_ble_eq_true rfl | (simp only [dl1, dl2, dl3, dl4, dl5, dl6]; omega), by first | omega | exact Nat.le_of_ble_eq_true rfl | (simp only [dl1, dl2, dl3, dl4, dl5, dl6]; omega)⟩
        exact ⟨rfl, fx_sub hf5 (sUU (I := [8, 9]) rfl), rs, cK_his h hc5 hf5⟩
      · cases hh.1
theorem c_K_differ (hfl : l.flags = pinnedFlags ++ [noTraceFlag]) (h : cK ad g R T S M Rs Hs X ch st tm dn rs) (hl : M.length + S.length ≤ 180) : k_CT l D aC n_K_differ 0 0 [.ref (ad 0)] g (kO ad g (.inl (some (.int (nI (difL (M.length + S.length) M S).length)))) R T S M Rs Hs X ch st tm dn) := by
  obtain ⟨hj, z1, t1, s1, m1, r1, h1, c1, ⟨Y, d1⟩⟩ := id h
  obtain ⟨f5, f6, d2, -⟩ := id d1
  refine k_ln hfl n_K_differ ok_K_differ rfl rfl rfl rfl rfl rfl (fun h => by cases h) (Nat.le_of_ble_eq_true rfl) 60 ?_
  conv => whnf
  refine ⟨_, _, z1, rfl, ?_⟩
  conv => whnf
  refine ⟨_, _, z1, rfl, ?_⟩
  conv => whnf
  refine ⟨_, _, z1, rfl, ?_⟩
  conv => whnf
  refine ⟨⟨_, d2⟩, (Nat.le_of_ble_eq_true rfl), _, _, _, c_C_gather hfl d1 m1 s1 hl (iUU rfl) (iUU rfl) (iUU rfl), by first | omega | exact Nat.le_of_ble_eq_true rfl | (simp only [dl1, dl2, dl3, dl4, dl5, dl6]; omega), by first | omega | exact Nat.le_of_ble_eq_true rfl | (simp only [dl1, dl2, dl3, dl4, dl5, dl6]; omega), fun v g2 hh => ?_, fun C g2 hh => ?_⟩
  · obtain ⟨hv, hc5, hf5⟩ := hh
    cases hv
    have h5 := cK_dif h hc5 hf5
    obtain ⟨f7, f8, d3, -⟩ := id hc5
    conv => whnf
    refine ⟨_, _, h5.2.1, rfl, ?_⟩
    conv => whnf
    refine ⟨⟨_, d3⟩, (Nat.le_of_ble_eq_true rfl), _, _, _, c_C_size hfl hc5, by first | omega | exact Nat.le_of_ble_eq_true rfl | (simp only [dl1, dl2, dl3, dl4, dl5, dl6]; omega), by first | omega | exact Nat.le_of_ble_eq_true rfl | (simp only [dl1, dl2, dl3, dl4, dl5, dl6]; omega), k_rl ?_, k_rr⟩
    conv => whnf
    refine ⟨⟨_, rfl, rfl⟩, ?_, by first | omega | exact Nat.le_of_ble_eq_true rfl | (simp only [dl1, dl2, dl3, dl4, dl5, dl6]; omega), by first | omega | exact Nat.le_of_ble_eq_true rfl | (simp only [dl1, dl2, dl3, dl4, dl5, dl6]; omega)⟩
    exact ⟨rfl, fx_sub hf5 (sUU (I := [13, 14, 15]) rfl), rs, h5⟩
  · cases hh.1
end KB
