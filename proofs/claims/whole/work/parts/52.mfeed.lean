/-! MirrorKeepModel: feed, end, the tests of a path -/
section MFD
variable {am : Nat → Nat} {A A1 : mA} {F F1 : mF} {g : g_H} {R T : List Nat} {S M Rs : List Ent} {Hs : List Ses} {O N : List Ent} {cp : Option (List Nat)} {st tv : Int32} {op nX : Nat}
variable {l : Launch} {D : va_G} {aC : Nat → ClassId}
theorem tm_eq {t : Nat} {L : List Ent} (h : tm A t L) (e : ∀ r, r < 11 → A1 r = A r) : tm A1 t L := by
  simp only [tm, sl, e 1 (by decide), e 2 (by decide), e 3 (by decide), e 4 (by decide), e 5 (by decide), e 6 (by decide), e 7 (by decide), e 8 (by decide), e 9 (by decide), e 10 (by decide)] at h ⊢
  exact h
theorem seR_eq (h : seR A Hs) (e : ∀ r, r < 11 → A1 r = A r) (e13 : A1 13 = A 13) (e14 : A1 14 = A 14) : seR A1 Hs := ⟨h.1, fun i X hX => ⟨by rw [e13]; exact (h.2 i X hX).1, by rw [e14]; exact (h.2 i X hX).2.1, tm_eq (h.2 i X hX).2.2 e⟩⟩
theorem cpR_eq (h : cpR A F cp) (e : A1 15 = A 15) (e7 : F1 7 = F 7) (e8 : F1 8 = F 8) : cpR A1 F1 cp := by
  cases cp with
  | none => exact e7.trans h
  | some P => exact ⟨e7.trans h.1, e8.trans h.2.1, h.2.2.1, by rw [e]; exact h.2.2.2⟩
theorem mR_R {R1 : List Nat} (h : mR A F R T S M Rs Hs O N cp st tv op nX) (e : ∀ r, r ≠ 11 → A1 r = A r) (hl : R1.length = 20) (hb : ib (A1 11) R1) : mR A1 F R1 T S M Rs Hs O N cp st tv op nX := by
  obtain ⟨h1, h2, h3, h4, h5, h6, h7, h8, h9, h10⟩ := h
  have e1 : ∀ r, r < 11 → A1 r = A r := fun r hr => e r (by omega)
  exact ⟨h1, ⟨hl, hb⟩, by rw [e 12 (by decide)]; exact h3, tm_eq h4 e1, tm_eq h5 e1, tm_eq h6 e1, tm_eq h7 e1, tm_eq h8 e1, seR_eq h9 e1 (e 13 (by decide)) (e 14 (by decide)), cpR_eq h10 (e 15 (by decide)) rfl rfl⟩
theorem mR_T {T1 : List Nat} (h : mR A F R T S M Rs Hs O N cp st tv op nX) (e : ∀ r, r ≠ 12 → A1 r = A r) (hl : T1.length ≤ 400) (hb : ib (A1 12) T1) : mR A1 (uF F 1 (nI T1.length)) R T1 S M Rs Hs O N cp st tv op nX := by
  obtain ⟨⟨f1, f2, f3, f4, f5, f6⟩, h2, h3, h4, h5, h6, h7, h8, h9, h10⟩ := h
  have e1 : ∀ r, r < 11 → A1 r = A r := fun r hr => e r (by omega)
  exact ⟨⟨uF_s, f2, f3, f4, f5, f6⟩, by rw [e 11 (by decide)]; exact h2, ⟨hl, hb⟩, tm_eq h4 e1, tm_eq h5 e1, tm_eq h6 e1, tm_eq h7 e1, tm_eq h8 e1, seR_eq h9 e1 (e 13 (by decide)) (e 14 (by decide)), cpR_eq h10 (e 15 (by decide)) rfl rfl⟩
theorem mR_cp {P : List Nat} (h : mR A F R T S M Rs Hs O N cp st tv op nX) (e : ∀ r, r ≠ 15 → A1 r = A r) (hP : P.length ≤ 150) (hb : ib (A1 15) P) (f7 : F1 7 = nI 1) (f8 : F1 8 = nI P.length) (fe : ∀ k, k < 7 → F1 k = F k) : mR A1 F1 R T S M Rs Hs O N (some P) st tv op nX := by
  obtain ⟨⟨g1, g2, g3, g4, g5, g6⟩, h2, h3, h4, h5, h6, h7, h8, h9, h10⟩ := h
  have e1 : ∀ r, r < 11 → A1 r = A r := fun r hr => e r (by omega)
  exact ⟨⟨(fe 1 (by decide)).trans g1, (fe 2 (by decide)).trans g2, (fe 3 (by decide)).trans g3, (fe 4 (by decide)).trans g4, (fe 5 (by decide)).trans g5, (fe 6 (by decide)).trans g6⟩, by rw [e 11 (by decide)]; exact h2, by rw [e 12 (by decide)]; exact h3, tm_eq h4 e1, tm_eq h5 e1, tm_eq h6 e1, tm_eq h7 e1, tm_eq h8 e1, seR_eq h9 e1 (e 13 (by decide)) (e 14 (by decide)), ⟨f7, f8, hP, hb⟩⟩
theorem mR_cn (h : mR A F R T S M Rs Hs O N cp st tv op nX) : mR A (uF F 7 (nI 0)) R T S M Rs Hs O N none st tv op nX := by
  obtain ⟨⟨f1, f2, f3, f4, f5, f6⟩, h2, h3, h4, h5, h6, h7, h8, h9, h10⟩ := h
  exact ⟨⟨f1, f2, f3, f4, f5, f6⟩, h2, h3, h4, h5, h6, h7, h8, h9, uF_s⟩
theorem mg_ne (h : mg am A F g) {i j : Nat} (hi : i < 16) (hj : j < 16) (hn : i ≠ j) : am i ≠ am j := fun z => hn (h.1 i j hi hj z)
theorem c_M_feed (hfl : l.flags = pinnedFlags ++ [noTraceFlag]) (h : mg am A F g) (r : mR A F R T S M Rs Hs O N cp st tv op nX) {a b c d e : Int32} : k_CT l D aC n_M_feed 0 0 [.ref (am 0), .int a, .int b, .int c, .int d, .int e] g (mO am g (.inl none) 0 (rdy (f5 a b c d e)) T S M Rs Hs O N cp st tv op nX) := by
  have n0 := mg_ne h (i := 0) (j := 11) (by decide) (by decide) (by decide)
  refine k_while hfl n_M_feed ok_M_feed rfl rfl rfl rfl rfl rfl (fun h => by cases h) (Nat.le_of_ble_eq_true rfl) [8] (fun pc dd lv g1 k n => ∃ i A1, pc = 8 ∧ dd = 4 - i ∧ lv = [(0, .ref (am 0)), (1, .int a), (2, .int b), (3, .int c), (4, .int d), (5, .int e), (6, .int (nI i))] ∧ k = 0 ∧ n = 0 ∧ i ≤ 4 ∧ fx (UU am) g g1 ∧ mg am A1 (uF F 0 (nI 0)) g1 ∧ (∀ r, r ≠ 11 → A1 r = A r) ∧ ∀ j, j < 20 → j % 4 < i → A1 11 j = nI (by4 (f5 a b c d e (j / 4)) (j % 4))) 60 ?_ 80 ?_
  · conv => whnf
    refine ⟨_, h.z, by simp, rfl, rfl, ?_⟩
    have h1 := mg_z h (F1 := uF F 0 (nI 0))
    conv => whnf
    exact ⟨rfl, _, _, ⟨0, A, rfl, rfl, rfl, rfl, rfl, by omega, fx_up fx_rf (iUU rfl), h1, fun _ _ => rfl, fun j _ hj => by omega⟩, rfl, rfl, rfl, rfl, rfl, rfl, rfl, trivial⟩
  · rintro dd pc lv g1 k n ⟨i, A1, rfl, rfl, rfl, rfl, rfl, hi, hfx, h1, hA, hj⟩
    conv => whnf
    refine ⟨fun h5 => ?_, fun h5 => ?_⟩
    · have h9 : 4 ≤ i := (q_ge (by omega) (by decide)).mp h5
      conv => whnf
      refine ⟨rfl, ?_, by first | omega | exact Nat.le_of_ble_eq_true rfl | (simp only [dl1, dl2, dl3, dl4, dl5, dl6]; omega), by first | omega | exact Nat.le_of_ble_eq_true rfl | (simp only [dl1, dl2, dl3, dl4, dl5, dl6]; omega)⟩
      refine ⟨rfl, hfx, A1, _, h1, uF_s, mR_R (mR_z r) hA (rdy_len _) ⟨fun j hj1 => ?_, rdy_lt _⟩⟩
      rw [rdy_len] at hj1
      rw [rdy_at hj1]
      exact hj j hj1 (by omega)
    · have h9 : i < 4 := Nat.lt_of_not_le fun z => h5 ((q_ge (by omega) (by decide)).mpr z)
      have hv : ∀ x : Int32, (x >>> ((nI 24 - nI 8 * nI i) &&& 31)) &&& nI 255 = nI (by4 x i) := fun x => by rw [pk_mul, pk_sub (by omega)]; exact shr_by h9
      have e0 : am 0 ≠ am 11 := n0
      conv => whnf
      refine ⟨_, _, h1.z, rfl, ?_⟩
      conv => whnf
      refine ⟨1, _, _, i, h1.a11, rfl, rfl, by omega, by first | decide | omega, ?_⟩
      rw [hv a]
      conv => whnf
      refine ⟨_, _, (by rw [g_up_n n0]; exact h1.z), rfl, ?_⟩
      conv => whnf
      refine ⟨1, _, _, 4 + i, g_up_s, rfl, (nI_add 4 i), (by omega), by first | decide | omega, ?_⟩
      rw [g_up_up, hv b]
      conv => whnf
      refine ⟨_, _, (by rw [g_up_n n0]; exact h1.z), rfl, ?_⟩
      conv => whnf
      refine ⟨1, _, _, 8 + i, g_up_s, rfl, (nI_add 8 i), (by omega), by first | decide | omega, ?_⟩
      rw [g_up_up, hv c]
      conv => whnf
      refine ⟨_, _, (by rw [g_up_n n0]; exact h1.z), rfl, ?_⟩
      conv => whnf
      refine ⟨1, _, _, 12 + i, g_up_s, rfl, (nI_add 12 i), (by omega), by first | decide | omega, ?_⟩
      rw [g_up_up, hv d]
      conv => whnf
      refine ⟨_, _, (by rw [g_up_n n0]; exact h1.z), rfl, ?_⟩
      conv => whnf
      refine ⟨1, _, _, 16 + i, g_up_s, rfl, (nI_add 16 i), (by omega), by first | decide | omega, ?_⟩
      rw [g_up_up, hv e]
      have h2 := mg_up h1 (i := 11) (by decide) (by decide) (f := upd (upd (upd (upd (upd (A1 11) i (nI (by4 a i))) (4 + i) (nI (by4 b i))) (8 + i) (nI (by4 c i))) (12 + i) (nI (by4 d i))) (16 + i) (nI (by4 e i)))
      conv => whnf
      refine ⟨rfl, _, _, ?_, ⟨i + 1, _, rfl, rfl, rfl, rfl, rfl, h9, fx_up hfx (iUU rfl), h2, fun r hr => by rw [uA_n hr]; exact hA r hr, fun j hj1 hj2 => ?_⟩, rfl, rfl, rfl, rfl, rfl, rfl, sI i, trivial⟩
      · omega
      · rw [uA_s]
        rcases (by omega : j = i ∨ j = 4 + i ∨ j = 8 + i ∨ j = 12 + i ∨ j = 16 + i ∨ j % 4 < i) with z | z | z | z | z | z
        · rw [pk_un (by omega), pk_un (by omega), pk_un (by omega), pk_un (by omega), z, pk_us, show i / 4 = 0 by omega, show i % 4 = i by omega]; rfl
        · rw [pk_un (by omega), pk_un (by omega), pk_un (by omega), z, pk_us, show (4 + i) / 4 = 1 by omega, show (4 + i) % 4 = i by omega]; rfl
        · rw [pk_un (by omega), pk_un (by omega), z, pk_us, show (8 + i) / 4 = 2 by omega, show (8 + i) % 4 = i by omega]; rfl
        · rw [pk_un (by omega), z, pk_us, show (12 + i) / 4 = 3 by omega, show (12 + i) % 4 = i by omega]; rfl
        · rw [z, pk_us, show (16 + i) / 4 = 4 by omega, show (16 + i) % 4 = i by omega]; rfl
        · rw [pk_un (by omega), pk_un (by omega), pk_un (by omega), pk_un (by omega), pk_un (by omega)]; exact hj j hj1 z
theorem c_M_end_no (hfl : l.flags = pinnedFlags ++ [noTraceFlag]) (h : mg am A F g) (r : mR A F R T S M Rs Hs O N cp st tv op nX) {x : Int32} (hx : x.toInt < 0 ∨ 20 < x.toInt ∨ 400 - (T.length : Int) < x.toInt) : k_CT l D aC n_M_end 0 0 [.ref (am 0), .int x] g (mO am g (.inl (some (.int (-1)))) 0 R T S M Rs Hs O N cp st tv op nX) := by
  have hT : T.length ≤ 400 := r.2.2.1.1
  have f1 : uF F 0 (nI 0) 1 = nI T.length := r.1.1
  have hP : mO am g (.inl (some (.int (-1)))) 0 R T S M Rs Hs O N cp st tv op nX (.inl (some (.int (-1)))) (g_up g (am 0) (mo am (uF F 0 (nI 0)))) := ⟨rfl, fx_up fx_rf (iUU rfl), A, _, mg_z h, uF_s, mR_z r⟩
  refine k_while hfl n_M_end ok_M_end rfl rfl rfl rfl rfl rfl (fun h => by cases h) (Nat.le_of_ble_eq_true rfl) [31, 71] (fun pc d lv g1 k n => False) 60 ?_ 80 ?_
  · conv => whnf
    refine ⟨_, h.z, by simp, rfl, rfl, ?_⟩
    have h1 := mg_z h (F1 := uF F 0 (nI 0))
    conv => whnf
    refine ⟨fun h5 => ?_, fun h5 => ?_⟩
    · conv => whnf
      refine ⟨⟨_, rfl, rfl⟩, hP, by first | omega | exact Nat.le_of_ble_eq_true rfl | (simp only [dl1, dl2, dl3, dl4, dl5, dl6]; omega), by first | omega | exact Nat.le_of_ble_eq_true rfl | (simp only [dl1, dl2, dl3, dl4, dl5, dl6]; omega)⟩
    · have h6 : ¬ x.toInt < 0 := h5
      obtain ⟨e1, e2⟩ := nI_ofT h6
      rw [e1]
      conv => whnf
      refine ⟨fun h5 => ?_, fun h5 => ?_⟩
      · conv => whnf
        refine ⟨⟨_, rfl, rfl⟩, hP, by first | omega | exact Nat.le_of_ble_eq_true rfl | (simp only [dl1, dl2, dl3, dl4, dl5, dl6]; omega), by first | omega | exact Nat.le_of_ble_eq_true rfl | (simp only [dl1, dl2, dl3, dl4, dl5, dl6]; omega)⟩
      · have h7 : ¬ 20 < x.toInt.toNat := fun z => h5 ((q_gt e2 (by decide)).mpr z)
        conv => whnf
        refine ⟨_, _, h1.z, rfl, ?_⟩
        rw [f1]
        conv => whnf
        rw [nI_add]
        conv => whnf
        refine ⟨fun h5 => ?_, fun h5 => ?_⟩
        · have := (q_le (by omega) (by decide)).mp h5
          omega
        · conv => whnf
          refine ⟨⟨_, rfl, rfl⟩, hP, by first | omega | exact Nat.le_of_ble_eq_true rfl | (simp only [dl1, dl2, dl3, dl4, dl5, dl6]; omega), by first | omega | exact Nat.le_of_ble_eq_true rfl | (simp only [dl1, dl2, dl3, dl4, dl5, dl6]; omega)⟩
  · intro d pc lv g1 k n z
    exact z.elim
theorem c_M_end (hfl : l.flags = pinnedFlags ++ [noTraceFlag]) (h : mg am A F g) (r : mR A F R T S M Rs Hs O N cp st tv op nX) {n : Nat} (hn : n ≤ 20) (hl : T.length + n ≤ 400) : k_CT l D aC n_M_end 0 0 [.ref (am 0), .int (nI n)] g (mO am g (.inl (some (.int (nI (T.length + n))))) 0 (List.replicate 20 0) (T ++ R.take n) S M Rs Hs O N cp st tv op nX) := by
  obtain ⟨⟨f1, f2, f3, f4, f5, f6⟩, ⟨r1, r2⟩, ⟨t1, t2⟩, -⟩ := id r
  have f1' : uF F 0 (nI 0) 1 = nI T.length := f1
  have hTl : (T ++ R.take n).length = T.length + n := by rw [List.length_append, List.length_take]; omega
  refine k_while hfl n_M_end ok_M_end rfl rfl rfl rfl rfl rfl (fun h => by cases h) (Nat.le_of_ble_eq_true rfl) [31, 71] (fun pc d lv g1 k n0 => (∃ i A1, pc = 31 ∧ d = 30 + (n - i) ∧ lv = [(0, .ref (am 0)), (1, .int (nI n)), (2, .int (nI i))] ∧ k = 0 ∧ n0 = 0 ∧ i ≤ n ∧ fx (UU am) g g1 ∧ mg am A1 (uF F 0 (nI 0)) g1 ∧ (∀ r, r ≠ 12 → A1 r = A r) ∧ (∀ j, j < T.length → A1 12 j = A 12 j) ∧ ∀ j, j < i → A1 12 (T.length + j) = nI (R.getD j 0)) ∨ (∃ i A1, pc = 71 ∧ d = 20 - i ∧ lv = [(0, .ref (am 0)), (1, .int (nI n)), (2, .int (nI i))] ∧ k = 0 ∧ n0 = 0 ∧ i ≤ 20 ∧ fx (UU am) g g1 ∧ mg am A1 (uF (uF F 0 (nI 0)) 1 (nI (T.length + n))) g1 ∧ (∀ r, r ≠ 12 → r ≠ 11 → A1 r = A r) ∧ ib (A1 12) (T ++ R.take n) ∧ ∀ j, j < i → A1 11 j = nI 0)) 60 ?_ 80 ?_
  · conv => whnf
    refine ⟨_, h.z, by simp, rfl, rfl, ?_⟩
    have h1 := mg_z h (F1 := uF F 0 (nI 0))
    conv => whnf
    refine ⟨fun h => absurd h (q_lt0 (by omega)), fun _ => ?_⟩
    conv => whnf
    refine ⟨fun h => absurd h (fun z => absurd ((q_gt (by omega) (by decide)).mp z) (by omega)), fun _ => ?_⟩
    conv => whnf
    refine ⟨_, _, h1.z, rfl, ?_⟩
    rw [f1']
    conv => whnf
    rw [nI_add]
    conv => whnf
    refine ⟨fun _ => ?_, fun h => absurd ((q_le (by omega) (by decide)).mpr hl) h⟩
    conv => whnf
    exact ⟨rfl, _, _, Or.inl ⟨0, A, rfl, rfl, rfl, rfl, rfl, by omega, fx_up fx_rf (iUU rfl), h1, fun _ _ => rfl, fun _ _ => rfl, fun j hj => by omega⟩, rfl, rfl, rfl, trivial⟩
  · rintro d pc lv g1 k n0 (⟨i, A1, rfl, rfl, rfl, rfl, rfl, hi, hfx, h1, hA, hT, hj⟩ | ⟨i, A1, rfl, rfl, rfl, rfl, rfl, hi, hfx, h1, hA, hT, hj⟩)
    · conv => whnf
      refine ⟨fun h5 => ?_, fun h5 => ?_⟩
      · have h9 : n ≤ i := (q_ge (by omega) (by omega)).mp h5
        conv => whnf
        refine ⟨_, _, h1.z, rfl, ?_⟩
        rw [f1']
        conv => whnf
        rw [nI_add]
        conv => whnf
        refine ⟨_, h1.z, by simp, rfl, rfl, ?_⟩
        have h2 := mg_z h1 (F1 := uF (uF F 0 (nI 0)) 1 (nI (T.length + n)))
        conv => whnf
        refine ⟨rfl, _, _, ?_, Or.inr ⟨0, A1, rfl, rfl, rfl, rfl, rfl, by omega, fx_up hfx (iUU rfl), h2, fun r hr _ => hA r hr, ⟨fun j hj1 => ?_, fun b hb => ?_⟩, fun j hj => by omega⟩, rfl, rfl, rfl, trivial⟩
        · omega
        · rw [hTl] at hj1
          by_cases h8 : j < T.length
          · rw [hT j h8, t2.1 j h8, List.getD_eq_getElem?_getD, List.getD_eq_getElem?_getD, List.getElem?_append_left h8]
          · obtain ⟨q, rfl⟩ : ∃ q, j = T.length + q := ⟨j - T.length, by omega⟩
            rw [hj q (by omega), List.getD_eq_getElem?_getD, List.getD_eq_getElem?_getD, List.getElem?_append_right (by omega), Nat.add_sub_cancel_left, List.getElem?_take_of_lt (by omega)]
        · rcases List.mem_append.mp hb with z | z
          · exact t2.2 b z
          · exact r2.2 b (List.mem_of_mem_take z)
      · have h9 : i < n := Nat.lt_of_not_le fun z => h5 ((q_ge (by omega) (by omega)).mpr z)
        conv => whnf
        refine ⟨_, _, h1.z, rfl, ?_⟩
        conv => whnf
        refine ⟨_, _, h1.z, rfl, ?_⟩
        rw [f1']
        conv => whnf
        refine ⟨_, _, h1.z, rfl, ?_⟩
        conv => whnf
        refine Or.inl ⟨1, _, _, i, h1.a11, rfl, rfl, by omega, by first | decide | omega, ?_⟩
        rw [hA 11 (by decide), r2.1 i (by omega)]
        conv => whnf
        refine ⟨1, _, _, T.length + i, h1.a12, rfl, (nI_add _ _), (by omega), by first | decide | omega, ?_⟩
        have h2 := mg_up h1 (i := 12) (by decide) (by decide) (f := upd (A1 12) (T.length + i) (nI (R.getD i 0)))
        conv => whnf
        refine ⟨rfl, _, _, ?_, Or.inl ⟨i + 1, _, rfl, rfl, rfl, rfl, rfl, h9, fx_up hfx (iUU rfl), h2, fun r hr => by rw [uA_n hr]; exact hA r hr, fun j hj1 => ?_, fun j hj1 => ?_⟩, rfl, rfl, sI i, trivial⟩
        · omega
        · rw [uA_s, pk_un (by omega)]; exact hT j hj1
        · rw [uA_s]
          by_cases h8 : j = i
          · rw [h8, pk_us]
          · rw [pk_un (by omega)]; exact hj j (by omega)
    · have f1b : uF (uF F 0 (nI 0)) 1 (nI (T.length + n)) 1 = nI (T.length + n) := uF_s
      conv => whnf
      refine ⟨fun h5 => ?_, fun h5 => ?_⟩
      · have h9 : 20 ≤ i := (q_ge (by omega) (by decide)).mp h5
        conv => whnf
        refine ⟨_, _, h1.z, rfl, ?_⟩
        rw [f1b]
        conv => whnf
        refine ⟨⟨_, rfl, rfl⟩, ?_, by first | omega | exact Nat.le_of_ble_eq_true rfl | (simp only [dl1, dl2, dl3, dl4, dl5, dl6]; omega), by first | omega | exact Nat.le_of_ble_eq_true rfl | (simp only [dl1, dl2, dl3, dl4, dl5, dl6]; omega)⟩
        refine ⟨rfl, hfx, A1, _, h1, ?_, ?_⟩
        · rw [uF_n (by decide)]; exact uF_s
        · have r3 := mR_T (A1 := uA A 12 (A1 12)) (T1 := T ++ R.take n) (mR_z (x := nI 0) r) (fun q hq => uA_n hq) (by omega) (by rw [uA_s]; exact hT)
          rw [hTl] at r3
          refine mR_R r3 (fun q hq => ?_) (by simp) ⟨fun j hj1 => ?_, fun b hb => ?_⟩
          · by_cases h8 : q = 12
            · rw [h8, uA_s]
            · rw [uA_n h8]; exact hA q h8 hq
          · rw [List.length_replicate] at hj1
            rw [hj j (by omega), List.getD_eq_getElem?_getD, List.getElem?_replicate, if_pos hj1]; rfl
          · have := (List.mem_replicate.mp hb).2; omega
      · have h9 : i < 20 := Nat.lt_of_not_le fun z => h5 ((q_ge (by omega) (by decide)).mpr z)
        conv => whnf
        refine ⟨_, _, h1.z, rfl, ?_⟩
        conv => whnf
        refine ⟨1, _, _, i, h1.a11, rfl, rfl, by omega, by first | decide | omega, ?_⟩
        have h2 := mg_up h1 (i := 11) (by decide) (by decide) (f := upd (A1 11) i (nI 0))
        conv => whnf
        refine ⟨rfl, _, _, ?_, Or.inr ⟨i + 1, _, rfl, rfl, rfl, rfl, rfl, h9, fx_up hfx (iUU rfl), h2, fun r hr hr2 => by rw [uA_n hr2]; exact hA r hr hr2, ?_, fun j hj1 => ?_⟩, rfl, rfl, sI i, trivial⟩
        · omega
        · rw [uA_n (by decide)]; exact hT
        · rw [uA_s]
          by_cases h8 : j = i
          · rw [h8, pk_us]
          · rw [pk_un h8]; exact hj j (by omega)
end MFD
