/-! MirrorKeepModel: make -/
section MMK
theorem x_lt {x : Int32} {b : Nat} (hb : b < 2 ^ 31) : w_cmp .lt x (nI b) ↔ x.toInt < b := by show x.toInt < (nI b).toInt ↔ _; rw [nI_toInt hb]
theorem x_gt {x : Int32} {b : Nat} (hb : b < 2 ^ 31) : w_cmp .gt x (nI b) ↔ (b : Int) < x.toInt := by show (nI b).toInt < x.toInt ↔ _; rw [nI_toInt hb]
theorem x_ge {x : Int32} {b : Nat} (hb : b < 2 ^ 31) : w_cmp .ge x (nI b) ↔ (b : Int) ≤ x.toInt := by show (nI b).toInt ≤ x.toInt ↔ _; rw [nI_toInt hb]
theorem x_le {x : Int32} {b : Nat} (hb : b < 2 ^ 31) : w_cmp .le x (nI b) ↔ x.toInt ≤ b := by show x.toInt ≤ (nI b).toInt ↔ _; rw [nI_toInt hb]
theorem kd_iff {k : Int32} : kdOk k = true ↔ 1 ≤ k.toInt ∧ k.toInt ≤ 3 := by
  unfold kdOk
  rw [decide_eq_true_eq]
  constructor
  · rintro (h | h | h) <;> subst h <;> decide
  · rintro ⟨h1, h2⟩
    obtain ⟨e1, e2⟩ := nI_ofT (x := k) (by omega)
    rw [e1]
    rcases (by omega : k.toInt.toNat = 1 ∨ k.toInt.toNat = 2 ∨ k.toInt.toNat = 3) with h | h | h <;> rw [h]
    · exact Or.inl rfl
    · exact Or.inr (Or.inl rfl)
    · exact Or.inr (Or.inr rfl)
theorem okM_iff {k m t : Int32} {T : List Nat} : okM k m t T = true ↔ (1 ≤ k.toInt ∧ k.toInt ≤ 3) ∧ (0 ≤ m.toInt ∧ m.toInt < 4096) ∧ 0 ≤ t.toInt ∧ ptOk T = true := by
  unfold okM mdOk tmOk
  rw [Bool.and_eq_true, Bool.and_eq_true, Bool.and_eq_true, kd_iff, decide_eq_true_eq, decide_eq_true_eq]
  constructor
  · rintro ⟨⟨⟨a, b⟩, c⟩, d⟩; exact ⟨a, ⟨b.1, by omega⟩, c, d⟩
  · rintro ⟨a, b, c, d⟩; exact ⟨⟨⟨a, b.1, by omega⟩, c⟩, d⟩
variable {am : Nat → Nat} {A A1 : mA} {F F1 : mF} {g : g_H} {R T : List Nat} {S M Rs : List Ent} {Hs : List Ses} {O N : List Ent} {cp : Option (List Nat)} {st tv : Int32} {op nX : Nat}
variable {l : Launch} {D : va_G} {aC : Nat → ClassId}
theorem c_M_make_uw (hfl : l.flags = pinnedFlags ++ [noTraceFlag]) (h : mg am A F g) (r : mR A F R T S M Rs Hs O N cp st tv op nX) (hs : st = nI 1) {k m t : Int32} : k_CT l D aC n_M_make 0 0 [.ref (am 0), .int k, .int m, .int t] g (mO am g (.inl (some (.int (nI 0)))) 2 R T S M Rs Hs O N cp st tv op nX) := by
  have f2 : F 2 = st := r.1.2.1
  refine k_while hfl n_M_make ok_M_make rfl rfl rfl rfl rfl rfl (fun h => by cases h) (Nat.le_of_ble_eq_true rfl) [78, 147, 258, 323] (fun pc d lv g1 k n => False) 60 ?_ 80 ?_
  · conv => whnf
    refine ⟨_, _, h.z, rfl, ?_⟩
    rw [f2]
    conv => whnf
    refine ⟨fun h => absurd h (fun z => z hs), fun _ => ?_⟩
    conv => whnf
    refine ⟨_, h.z, by simp, rfl, rfl, ?_⟩
    have h1 := mg_z h (F1 := uF F 0 (nI 2))
    conv => whnf
    refine ⟨_, _, h1.z, rfl, ?_⟩
    rw [show uF F 0 (nI 2) 0 = nI 2 from uF_s]
    conv => whnf
    refine ⟨fun h => absurd h (by simp only [w_cmp]; decide), fun _ => ?_⟩
    conv => whnf
    refine ⟨⟨_, rfl, rfl⟩, ⟨rfl, fx_up fx_rf (iUU rfl), A, _, h1, uF_s, mR_z r⟩, by first | omega | exact Nat.le_of_ble_eq_true rfl | (simp only [dl1, dl2, dl3, dl4, dl5, dl6]; omega), by first | omega | exact Nat.le_of_ble_eq_true rfl | (simp only [dl1, dl2, dl3, dl4, dl5, dl6]; omega)⟩
  · intro d pc lv g1 k n z
    exact z.elim
def mkQ (am : Nat → Nat) (g : g_H) (R T : List Nat) (S M Rs : List Ent) (Hs : List Ses) (O N : List Ent) (cp : Option (List Nat)) (st tv : Int32) (op nX : Nat) (k m t : Int32) (r : Nat) : x_O → g_H → Prop := match r with
  | 0 => mO am g (.inl (some (.int (nI (putL S (T, k, m, t, [])).length)))) 0 R [] (putL S (T, k, m, t, [])) M Rs Hs O N (some T) st tv op nX
  | r + 1 => mO am g (.inl (some (.int (nI 0)))) (r + 1) R [] S M Rs Hs O N cp st tv op nX
theorem mkR_0 {k m t : Int32} (hs : srt S) (h : mkR S T k m t = 0) : okM k m t T = true ∧ fnd S T S.length = none ∧ hasDir S T = true ∧ S.length < 60 := by
  unfold mkR at h
  split at h
  · cases h
  · split at h
    · cases h
    · rename_i h1 h2
      refine ⟨by simpa using h1, ?_, ?_, by omega⟩
      · cases hf : fnd S T S.length with
        | none => rfl
        | some i =>
          exfalso
          apply h2
          left
          rw [idx_fnd hs, hf]
          have := fnd_lt hf
          exact nI_m1 (by omega)
      · cases hd : hasDir S T with
        | true => rfl
        | false => exact absurd (Or.inr (Or.inl hd)) h2
set_option maxHeartbeats 2000000 in
theorem c_M_make (hfl : l.flags = pinnedFlags ++ [noTraceFlag]) (h : mg am A F g) (r : mR A F R T S M Rs Hs O N cp st tv op nX) (hs : st ≠ nI 1) (hS : srt S) (hS60 : S.length ≤ 60) {k m t : Int32} : k_CT l D aC n_M_make 0 0 [.ref (am 0), .int k, .int m, .int t] g (mkQ am g R T S M Rs Hs O N cp st tv op nX k m t (mkR S T k m t)) := by
  obtain ⟨⟨f1, f2, -⟩, -, ⟨t1, t2⟩, hT0, -⟩ := id r
  have f1' : uF F 0 (nI 0) 1 = nI T.length := f1
  have hl2 := hT0.2.2.1
  have hsm := hT0.2.2.2.1
  generalize hEv : ((T, k, m, t, []) : Ent) = E
  have hE1 : E.1 = T := by rw [← hEv]
  have hEc : eC E = [] := by rw [← hEv]
  generalize hpv : plc S T = p
  refine k_while hfl n_M_make ok_M_make rfl rfl rfl rfl rfl rfl (fun h => by cases h) (Nat.le_of_ble_eq_true rfl) [78, 130, 147, 258, 323] (fun pc d lv g1 k0 n0 => (∃ F1, pc = 78 ∧ d = 2000 ∧ lv = [(0, .ref (am 0)), (1, .int k), (2, .int m), (3, .int t), (4, .int (nI T.length)), (5, .int (b2 (okM k m t T)))] ∧ k0 = 0 ∧ n0 = 0 ∧ fx (UU am) g g1 ∧ mg am A F1 g1 ∧ mR A F1 R [] S M Rs Hs O N cp st tv op nX) ∨ (∃ F1, pc = 130 ∧ d = 1990 ∧ lv = [(0, .ref (am 0)), (1, .int k), (2, .int m), (3, .int t), (4, .int (nI T.length))] ∧ k0 = 0 ∧ n0 = 0 ∧ fx (UU am) g g1 ∧ mg am A F1 g1 ∧ F1 0 = nI (mkR S T k m t) ∧ mR A F1 R [] S M Rs Hs O N cp st tv op nX) ∨ (∃ i A1 F1, pc = 147 ∧ d = 1500 + (S.length - i) ∧ lv = [(0, .ref (am 0)), (1, .int k), (2, .int m), (3, .int t), (4, .int (nI T.length)), (6, .int (nI i))] ∧ k0 = 0 ∧ n0 = 0 ∧ mkR S T k m t = 0 ∧ fx (UU am) g g1 ∧ mg am A1 F1 g1 ∧ F1 0 = nI 0 ∧ mR A F1 R [] S M Rs Hs O N cp st tv op nX ∧ dif A A1 (Wt 5) ∧ i ≤ p ∧ tm A1 5 (S.take i)) ∨ (∃ j A0 A1 F1, pc = 258 ∧ d = 1000 + (T.length - j) ∧ lv = [(0, .ref (am 0)), (4, .int (nI T.length)), (6, .int (nI p)), (7, .int (nI (600 + p))), (8, .int (nI j))] ∧ k0 = 0 ∧ n0 = 0 ∧ mkR S T k m t = 0 ∧ fx (UU am) g g1 ∧ mg am A1 F1 g1 ∧ F1 0 = nI 0 ∧ mR A F1 R [] S M Rs Hs O N cp st tv op nX ∧ dif A A0 (Wt 5) ∧ tm A0 5 (S.take p) ∧ dif A0 A1 (Wb (600 + p) 5 (sumC (S.take p))) ∧ A1 3 (600 + p) = k ∧ A1 4 (600 + p) = m ∧ A1 5 (600 + p) = t ∧ A1 6 (600 + p) = nI T.length ∧ A1 1 5 = nI p ∧ A1 2 5 = nI (sumC (S.take p)) ∧ j ≤ T.length ∧ ∀ q, q < j → A1 9 (150 * (600 + p) + q) = nI (T.getD q 0)) ∨ (∃ i A1 F1, pc = 323 ∧ d = S.length - i ∧ lv = [(0, .ref (am 0)), (4, .int (nI T.length)), (6, .int (nI i))] ∧ k0 = 0 ∧ n0 = 0 ∧ mkR S T k m t = 0 ∧ fx (UU am) g g1 ∧ mg am A1 F1 g1 ∧ F1 0 = nI 0 ∧ mR A F1 R [] S M Rs Hs O N cp st tv op nX ∧ dif A A1 (Wt 5) ∧ p ≤ i ∧ i ≤ S.length ∧ tm A1 5 ((putL S E).take (i + 1)))) 100 ?_ 100 ?_
  · conv => whnf
    refine ⟨_, _, h.z, rfl, ?_⟩
    rw [f2]
    conv => whnf
    refine ⟨fun _ => ?_, fun h => absurd hs h⟩
    conv => whnf
    refine ⟨_, h.z, by simp, rfl, rfl, ?_⟩
    have h1 := mg_z h (F1 := uF F 0 (nI 0))
    conv => whnf
    refine ⟨_, _, h1.z, rfl, ?_⟩
    rw [show uF F 0 (nI 0) 0 = nI 0 from uF_s]
    conv => whnf
    refine ⟨fun _ => ?_, fun h => absurd (by simp only [w_cmp]; decide) h⟩
    conv => whnf
    refine ⟨_, _, h1.z, rfl, ?_⟩
    rw [f1']
    conv => whnf
    refine ⟨_, h1.z, by simp, rfl, rfl, ?_⟩
    have h2 := mg_z h1 (F1 := uF (uF F 0 (nI 0)) 1 (nI 0))
    have r2 := mR_t0 (mR_z (x := nI 0) r)
    have hfx : fx (UU am) g (g_up (g_up g (am 0) (mo am (uF F 0 (nI 0)))) (am 0) (mo am (uF (uF F 0 (nI 0)) 1 (nI 0)))) := fx_up (fx_up fx_rf (iUU rfl)) (iUU rfl)
    conv => whnf
    refine ⟨fun h5 => ?_, fun h5 => ?_⟩
    · have h6 := (x_lt (by decide)).mp h5
      conv => whnf
      refine ⟨rfl, _, _, Or.inl ⟨_, rfl, rfl, rfl, rfl, rfl, hfx, h2, r2⟩, rfl, rfl, rfl, rfl, rfl, ?_, trivial⟩
      rw [show okM k m t T = false from Bool.eq_false_iff.mpr (fun z => by have z := okM_iff.mp z; omega)]; rfl
    · have k1 : ¬ k.toInt < (1 : Nat) := fun z => h5 ((x_lt (by decide)).mpr z)
      conv => whnf
      refine ⟨fun h5 => ?_, fun h5 => ?_⟩
      · have h6 := (x_gt (by decide)).mp h5
        conv => whnf
        refine ⟨rfl, _, _, Or.inl ⟨_, rfl, rfl, rfl, rfl, rfl, hfx, h2, r2⟩, rfl, rfl, rfl, rfl, rfl, ?_, trivial⟩
        rw [show okM k m t T = false from Bool.eq_false_iff.mpr (fun z => by have z := okM_iff.mp z; omega)]; rfl
      · have k2 : ¬ ((3 : Nat) : Int) < k.toInt := fun z => h5 ((x_gt (by decide)).mpr z)
        conv => whnf
        refine ⟨fun h5 => ?_, fun h5 => ?_⟩
        · have h6 : m.toInt < 0 := h5
          conv => whnf
          refine ⟨rfl, _, _, Or.inl ⟨_, rfl, rfl, rfl, rfl, rfl, hfx, h2, r2⟩, rfl, rfl, rfl, rfl, rfl, ?_, trivial⟩
          rw [show okM k m t T = false from Bool.eq_false_iff.mpr (fun z => by have z := okM_iff.mp z; omega)]; rfl
        · have k3 : ¬ m.toInt < 0 := h5
          conv => whnf
          refine ⟨fun h5 => ?_, fun h5 => ?_⟩
          · have h6 := (x_ge (by decide)).mp h5
            conv => whnf
            refine ⟨rfl, _, _, Or.inl ⟨_, rfl, rfl, rfl, rfl, rfl, hfx, h2, r2⟩, rfl, rfl, rfl, rfl, rfl, ?_, trivial⟩
            rw [show okM k m t T = false from Bool.eq_false_iff.mpr (fun z => by have z := okM_iff.mp z; omega)]; rfl
          · have k4 : ¬ ((4096 : Nat) : Int) ≤ m.toInt := fun z => h5 ((x_ge (by decide)).mpr z)
            conv => whnf
            refine ⟨fun h5 => ?_, fun h5 => ?_⟩
            · have h6 : t.toInt < 0 := h5
              conv => whnf
              refine ⟨rfl, _, _, Or.inl ⟨_, rfl, rfl, rfl, rfl, rfl, hfx, h2, r2⟩, rfl, rfl, rfl, rfl, rfl, ?_, trivial⟩
              rw [show okM k m t T = false from Bool.eq_false_iff.mpr (fun z => by have z := okM_iff.mp z; omega)]; rfl
            · have k5 : ¬ t.toInt < 0 := h5
              conv => whnf
              refine ⟨⟨_, h2.z⟩, (Nat.le_of_ble_eq_true rfl), _, _, _, c_M_isPath hfl h2 t2 t1, by first | omega | exact Nat.le_of_ble_eq_true rfl | (simp only [dl1, dl2, dl3, dl4, dl5, dl6]; omega), by first | omega | exact Nat.le_of_ble_eq_true rfl | (simp only [dl1, dl2, dl3, dl4, dl5, dl6]; omega), k_rl ?_, k_rr⟩
              cases hp : ptOk T with
              | false =>
                conv => whnf
                refine ⟨fun _ => ?_, fun h => absurd b2_f h⟩
                conv => whnf
                refine ⟨rfl, _, _, Or.inl ⟨_, rfl, rfl, rfl, rfl, rfl, hfx, h2, r2⟩, rfl, rfl, rfl, rfl, rfl, ?_, trivial⟩
                rw [show okM k m t T = false from Bool.eq_false_iff.mpr (fun z => by have z := okM_iff.mp z; (rw [hp] at z; cases z.2.2.2))]; rfl
              | true =>
                conv => whnf
                refine ⟨fun h => absurd h b2_t, fun _ => ?_⟩
                conv => whnf
                refine ⟨rfl, _, _, Or.inl ⟨_, rfl, rfl, rfl, rfl, rfl, hfx, h2, r2⟩, rfl, rfl, rfl, rfl, rfl, ?_, trivial⟩
                rw [show okM k m t T = true from okM_iff.mpr ⟨⟨by omega, by omega⟩, ⟨by omega, by omega⟩, by omega, hp⟩]; rfl
  · rintro d pc lv g1 k0 n0 (⟨F1, rfl, rfl, rfl, rfl, rfl, hfx, h1, r1⟩ | ⟨F1, rfl, rfl, rfl, rfl, rfl, hfx, h1, hth, r1⟩ | ⟨i, A1, F1, rfl, rfl, rfl, rfl, rfl, hr0, hfx, h1, hth, r1, hd, hi, ht5⟩ | ⟨j, A0, A1, F1, rfl, rfl, rfl, rfl, rfl, hr0, hfx, h1, hth, r1, hd0, ht5, hd, b3, b4, b5, b6, b1, b2', hj, b9⟩ | ⟨i, A1, F1, rfl, rfl, rfl, rfl, rfl, hr0, hfx, h1, hth, r1, hd, hpi, hi, ht5⟩)
    · have hS0 := r1.2.2.2.1
      cases hok : okM k m t T with
      | false =>
        conv => whnf
        refine ⟨fun h => absurd h (fun z => z b2_f), fun _ => ?_⟩
        conv => whnf
        refine ⟨_, h1.z, by simp, rfl, rfl, ?_⟩
        have h2 := mg_z h1 (F1 := uF F1 0 (nI 1))
        conv => whnf
        exact ⟨rfl, _, _, by omega, Or.inr (Or.inl ⟨_, rfl, rfl, rfl, rfl, rfl, fx_up hfx (iUU rfl), h2, by rw [uF_s, show mkR S T k m t = 1 from (by unfold mkR; rw [if_pos hok])], mR_z r1⟩), rfl, rfl, rfl, rfl, rfl, trivial⟩
      | true =>
        conv => whnf
        refine ⟨fun _ => ?_, fun h => absurd b2_t h⟩
        conv => whnf
        refine ⟨_, _, h1.z, rfl, ?_⟩
        conv => whnf
        refine ⟨⟨_, h1.z⟩, (Nat.le_of_ble_eq_true rfl), _, _, _, c_M_find hfl h1 (by decide) hS0 (pa_tapeA h1 t2 t1) rfl, by first | omega | exact Nat.le_of_ble_eq_true rfl | (simp only [dl1, dl2, dl3, dl4, dl5, dl6]; omega), by first | omega | exact Nat.le_of_ble_eq_true rfl | (simp only [dl1, dl2, dl3, dl4, dl5, dl6]; omega), k_rl ?_, k_rr⟩
        cases hf : fnd S T S.length with
        | some i =>
          have := fnd_lt hf
          conv => whnf
          refine ⟨fun _ => ?_, fun h => absurd (q_ge0 (by omega)) h⟩
          conv => whnf
          refine ⟨_, h1.z, by simp, rfl, rfl, ?_⟩
          have h2 := mg_z h1 (F1 := uF F1 0 (nI 2))
          conv => whnf
          exact ⟨rfl, _, _, by omega, Or.inr (Or.inl ⟨_, rfl, rfl, rfl, rfl, rfl, fx_up hfx (iUU rfl), h2, by rw [uF_s, show mkR S T k m t = 2 from (by unfold mkR; rw [if_neg (by rw [hok]; simp), if_pos (Or.inl (by rw [idx_fnd hS, hf]; exact nI_m1 (by omega)))])], mR_z r1⟩), rfl, rfl, rfl, rfl, rfl, trivial⟩
        | none =>
          have hix : idx S T = -1 := by rw [idx_fnd hS, hf]; rfl
          conv => whnf
          refine ⟨fun h => absurd h (by simp only [w_cmp]; decide), fun _ => ?_⟩
          conv => whnf
          refine ⟨⟨_, h1.z⟩, (Nat.le_of_ble_eq_true rfl), _, _, _, c_M_hasDir hfl h1 hS0 hS t2 t1, by first | omega | exact Nat.le_of_ble_eq_true rfl | (simp only [dl1, dl2, dl3, dl4, dl5, dl6]; omega), by first | omega | exact Nat.le_of_ble_eq_true rfl | (simp only [dl1, dl2, dl3, dl4, dl5, dl6]; omega), k_rl ?_, k_rr⟩
          cases hdr : hasDir S T with
          | false =>
            conv => whnf
            refine ⟨fun _ => ?_, fun h => absurd b2_f h⟩
            conv => whnf
            refine ⟨_, h1.z, by simp, rfl, rfl, ?_⟩
            have h2 := mg_z h1 (F1 := uF F1 0 (nI 2))
            conv => whnf
            exact ⟨rfl, _, _, by omega, Or.inr (Or.inl ⟨_, rfl, rfl, rfl, rfl, rfl, fx_up hfx (iUU rfl), h2, by rw [uF_s, show mkR S T k m t = 2 from (by unfold mkR; rw [if_neg (by rw [hok]; simp), if_pos (Or.inr (Or.inl hdr))])], mR_z r1⟩), rfl, rfl, rfl, rfl, rfl, trivial⟩
          | true =>
            conv => whnf
            refine ⟨fun h => absurd h b2_t, fun _ => ?_⟩
            conv => whnf
            refine ⟨_, _, h1.z, rfl, ?_⟩
            conv => whnf
            refine Or.inl ⟨1, _, _, 0, h1.a1, rfl, rfl, by omega, by first | decide | omega, ?_⟩
            rw [hS0.1]
            conv => whnf
            refine ⟨fun h6 => ?_, fun h6 => ?_⟩
            · have h7 := (q_ne (by omega) (by decide)).mp h6
              conv => whnf
              refine ⟨_, h1.z, by simp, rfl, rfl, ?_⟩
              have h2 := mg_z h1 (F1 := uF F1 0 (nI 0))
              conv => whnf
              exact ⟨rfl, _, _, by omega, Or.inr (Or.inl ⟨_, rfl, rfl, rfl, rfl, rfl, fx_up hfx (iUU rfl), h2, by rw [uF_s, show mkR S T k m t = 0 from (by unfold mkR; rw [if_neg (by rw [hok]; simp), if_neg (by rintro (z|z|z); exact z hix; rw [hdr] at z; cases z; omega)])], mR_z r1⟩), rfl, rfl, rfl, rfl, rfl, trivial⟩
            · have h7 : S.length = 60 := Classical.not_not.mp fun z => h6 ((q_ne (by omega) (by decide)).mpr z)
              conv => whnf
              refine ⟨_, h1.z, by simp, rfl, rfl, ?_⟩
              have h2 := mg_z h1 (F1 := uF F1 0 (nI 2))
              conv => whnf
              exact ⟨rfl, _, _, by omega, Or.inr (Or.inl ⟨_, rfl, rfl, rfl, rfl, rfl, fx_up hfx (iUU rfl), h2, by rw [uF_s, show mkR S T k m t = 2 from (by unfold mkR; rw [if_neg (by rw [hok]; simp), if_pos (Or.inr (Or.inr (by omega)))])], mR_z r1⟩), rfl, rfl, rfl, rfl, rfl, trivial⟩
    · conv => whnf
      refine ⟨_, _, h1.z, rfl, ?_⟩
      rw [hth]
      cases hr : mkR S T k m t with
      | succ q =>
        have hq : q + 1 ≤ 2 := by rw [← hr]; unfold mkR; split; omega; split <;> omega
        conv => whnf
        refine ⟨fun h => absurd h (fun z => by have := (q_le0 (by omega)).mp z; omega), fun _ => ?_⟩
        conv => whnf
        refine ⟨⟨_, rfl, rfl⟩, ⟨rfl, hfx, A, F1, h1, by rw [hth, hr], r1⟩, by first | omega | exact Nat.le_of_ble_eq_true rfl | (simp only [dl1, dl2, dl3, dl4, dl5, dl6]; omega), by first | omega | exact Nat.le_of_ble_eq_true rfl | (simp only [dl1, dl2, dl3, dl4, dl5, dl6]; omega)⟩
      | zero =>
        conv => whnf
        refine ⟨fun _ => ?_, fun h => absurd (by simp only [w_cmp]; decide) h⟩
        conv => whnf
        refine ⟨⟨_, h1.z⟩, (Nat.le_of_ble_eq_true rfl), _, _, _, c_M_empty hfl h1 (by decide), by first | omega | exact Nat.le_of_ble_eq_true rfl | (simp only [dl1, dl2, dl3, dl4, dl5, dl6]; omega), by first | omega | exact Nat.le_of_ble_eq_true rfl | (simp only [dl1, dl2, dl3, dl4, dl5, dl6]; omega), fun v g1 hh => ?_, fun C g1 hh => ?_⟩
        · obtain ⟨hv, hfx2, A1, h2, hd, ht5⟩ := hh
          cases hv
          conv => whnf
          exact ⟨rfl, _, _, by omega, Or.inr (Or.inr (Or.inl ⟨0, A1, F1, rfl, rfl, rfl, rfl, rfl, rfl, fx_tr hfx hfx2, h2, by rw [hth, hr], r1, hd, by omega, ht5⟩)), rfl, rfl, rfl, rfl, rfl, rfl, trivial⟩
        · cases hh.1
    · obtain ⟨hok, hfn, hdr, hs60⟩ := mkR_0 hS hr0
      obtain ⟨hp1, hp2, hp3, hp4, hp5⟩ := fresh_at hS (E := E) (by rw [hE1]; exact hfn)
      rw [hE1, hpv] at hp1 hp2 hp3 hp4 hp5
      have hS0 : tm A1 0 S := tm_dif r1.2.2.2.1 hd (by decide)
      have e12 : A1 12 = A 12 := hi_dif hd (by decide)
      have t2' : ib (A1 12) T := by rw [e12]; exact t2
      have hTl : T.length ≤ 149 := ptOk_len (okM_iff.mp hok).2.2.2
      conv => whnf
      refine ⟨_, _, h1.z, rfl, ?_⟩
      conv => whnf
      refine Or.inl ⟨1, _, _, 0, h1.a1, rfl, rfl, by omega, by first | decide | omega, ?_⟩
      rw [hS0.1]
      conv => whnf
      refine ⟨fun h6 => ?_, fun h6 => ?_⟩
      · have h7 := (q_ge (by omega) (by omega)).mp h6
        have hip : i = p := (by omega)
        subst hip
        have hlt : (S.take i).length = i := by rw [List.length_take]; omega
        have hb1 := ht5.1
        have hb2 := ht5.2.1
        rw [hlt] at hb1
        conv => whnf
        refine ⟨_, _, h1.z, rfl, ?_⟩
        conv => whnf
        refine Or.inl ⟨1, _, _, 5, h1.a1, rfl, rfl, by omega, by first | decide | omega, ?_⟩
        rw [hb1]
        conv => whnf
        refine ⟨(Nat.le_of_ble_eq_true rfl), _, _, _, c_M_place hfl, by first | omega | exact Nat.le_of_ble_eq_true rfl | (simp only [dl1, dl2, dl3, dl4, dl5, dl6]; omega), by first | omega | exact Nat.le_of_ble_eq_true rfl | (simp only [dl1, dl2, dl3, dl4, dl5, dl6]; omega), k_rl ?_, k_rr⟩
        rw [show 120 * 5 + i = 600 + i by omega]
        conv => whnf
        refine ⟨_, _, h1.z, rfl, ?_⟩
        conv => whnf
        refine ⟨1, _, _, 600 + i, h1.a3, rfl, rfl, by omega, by first | decide | omega, ?_⟩
        have h2 := mg_up h1 (i := 3) (by decide) (by decide) (f := upd (A1 3) (600 + i) k)
        conv => whnf
        refine ⟨_, _, h2.z, rfl, ?_⟩
        conv => whnf
        refine ⟨1, _, _, 600 + i, h2.a4, rfl, rfl, by omega, by first | decide | omega, ?_⟩
        have h3 := mg_up h2 (i := 4) (by decide) (by decide) (f := upd (A1 4) (600 + i) m)
        conv => whnf
        refine ⟨_, _, h3.z, rfl, ?_⟩
        conv => whnf
        refine ⟨1, _, _, 600 + i, h3.a5, rfl, rfl, by omega, by first | decide | omega, ?_⟩
        have h4 := mg_up h3 (i := 5) (by decide) (by decide) (f := upd (A1 5) (600 + i) t)
        conv => whnf
        refine ⟨_, _, h4.z, rfl, ?_⟩
        conv => whnf
        refine ⟨1, _, _, 600 + i, h4.a6, rfl, rfl, by omega, by first | decide | omega, ?_⟩
        have h5' := mg_up h4 (i := 6) (by decide) (by decide) (f := upd (A1 6) (600 + i) (nI T.length))
        conv => whnf
        refine ⟨rfl, _, _, ?_, Or.inr (Or.inr (Or.inr (Or.inl ⟨0, A1, _, F1, rfl, rfl, rfl, rfl, rfl, hr0, fx_up (fx_up (fx_up (fx_up hfx (iUU rfl)) (iUU rfl)) (iUU rfl)) (iUU rfl), h5', hth, r1, hd, ht5, ?_, ?_, ?_, ?_, ?_, ?_, ?_, by omega, fun q hq => by omega⟩))), rfl, rfl, rfl, rfl, rfl, trivial⟩
        · omega
        · exact dif_up (A1 := uA (uA (uA A1 3 (upd (A1 3) (600 + i) k)) 4 (upd (A1 4) (600 + i) m)) 5 (upd (A1 5) (600 + i) t)) (dif_up (A1 := uA (uA A1 3 (upd (A1 3) (600 + i) k)) 4 (upd (A1 4) (600 + i) m)) (dif_up (A1 := uA A1 3 (upd (A1 3) (600 + i) k)) (dif_up dif_rf (by unfold Wb; omega)) (by unfold Wb; omega)) (by unfold Wb; omega)) (by unfold Wb; omega)
        · rw [uA_n (by decide), uA_n (by decide), uA_n (by decide), uA_s, pk_us]
        · rw [uA_n (by decide), uA_n (by decide), uA_s, pk_us]
        · rw [uA_n (by decide), uA_s, pk_us]
        · rw [uA_s, pk_us]
        · rw [uA_n (by decide), uA_n (by decide), uA_n (by decide), uA_n (by decide)]; exact hb1
        · rw [uA_n (by decide), uA_n (by decide), uA_n (by decide), uA_n (by decide)]; exact hb2
      · have h7 : i < S.length := Nat.lt_of_not_le fun z => h6 ((q_ge (by omega) (by omega)).mpr z)
        have hG := List.getElem?_eq_getElem h7
        have hpa := pa_tm h1 (by decide) hS0 hG
        have hc := c_M_order (l := l) (D := D) (aC := aC) hfl hpa (pa_tapeA h1 t2' t1) rfl rfl
        rw [← pk_mul] at hc
        have hb := cmpP_bound (hS0.2.2.2.2 i _ hG).1.2.1 t2.2
        conv => whnf
        refine ⟨_, _, h1.z, rfl, ?_⟩
        conv => whnf
        refine ⟨(Nat.le_of_ble_eq_true rfl), _, _, _, c_M_place hfl, by first | omega | exact Nat.le_of_ble_eq_true rfl | (simp only [dl1, dl2, dl3, dl4, dl5, dl6]; omega), by first | omega | exact Nat.le_of_ble_eq_true rfl | (simp only [dl1, dl2, dl3, dl4, dl5, dl6]; omega), k_rl ?_, k_rr⟩
        conv => whnf
        refine ⟨_, _, h1.z, rfl, ?_⟩
        conv => whnf
        refine ⟨(Nat.le_of_ble_eq_true rfl), _, _, _, c_M_place hfl, by first | omega | exact Nat.le_of_ble_eq_true rfl | (simp only [dl1, dl2, dl3, dl4, dl5, dl6]; omega), by first | omega | exact Nat.le_of_ble_eq_true rfl | (simp only [dl1, dl2, dl3, dl4, dl5, dl6]; omega), k_rl ?_, k_rr⟩
        conv => whnf
        refine Or.inl ⟨1, _, _, 120 * 0 + i, h1.a6, rfl, rfl, by omega, by first | decide | omega, ?_⟩
        rw [ent_p hS0 hG]
        conv => whnf
        refine ⟨_, _, h1.z, rfl, ?_⟩
        conv => whnf
        refine ⟨(Nat.le_of_ble_eq_true rfl), _, _, _, hc, by first | omega | exact Nat.le_of_ble_eq_true rfl | (simp only [dl1, dl2, dl3, dl4, dl5, dl6]; omega), by first | omega | exact Nat.le_of_ble_eq_true rfl | (simp only [dl1, dl2, dl3, dl4, dl5, dl6]; omega), k_rl ?_, k_rr⟩
        conv => whnf
        refine ⟨fun h8 => ?_, fun h8 => ?_⟩
        · have h9 := (cmp_ge0 hb.1 hb.2).mp h8
          have hip : i = p := (Nat.le_antisymm hi (Nat.le_of_not_lt fun z => h9 ((hp2 i _ hG).mpr z)))
          subst hip
          have hlt : (S.take i).length = i := by rw [List.length_take]; omega
          have hb1 := ht5.1
          have hb2 := ht5.2.1
          rw [hlt] at hb1
          conv => whnf
          refine ⟨_, _, h1.z, rfl, ?_⟩
          conv => whnf
          refine Or.inl ⟨1, _, _, 5, h1.a1, rfl, rfl, by omega, by first | decide | omega, ?_⟩
          rw [hb1]
          conv => whnf
          refine ⟨(Nat.le_of_ble_eq_true rfl), _, _, _, c_M_place hfl, by first | omega | exact Nat.le_of_ble_eq_true rfl | (simp only [dl1, dl2, dl3, dl4, dl5, dl6]; omega), by first | omega | exact Nat.le_of_ble_eq_true rfl | (simp only [dl1, dl2, dl3, dl4, dl5, dl6]; omega), k_rl ?_, k_rr⟩
          rw [show 120 * 5 + i = 600 + i by omega]
          conv => whnf
          refine ⟨_, _, h1.z, rfl, ?_⟩
          conv => whnf
          refine ⟨1, _, _, 600 + i, h1.a3, rfl, rfl, by omega, by first | decide | omega, ?_⟩
          have h2 := mg_up h1 (i := 3) (by decide) (by decide) (f := upd (A1 3) (600 + i) k)
          conv => whnf
          refine ⟨_, _, h2.z, rfl, ?_⟩
          conv => whnf
          refine ⟨1, _, _, 600 + i, h2.a4, rfl, rfl, by omega, by first | decide | omega, ?_⟩
          have h3 := mg_up h2 (i := 4) (by decide) (by decide) (f := upd (A1 4) (600 + i) m)
          conv => whnf
          refine ⟨_, _, h3.z, rfl, ?_⟩
          conv => whnf
          refine ⟨1, _, _, 600 + i, h3.a5, rfl, rfl, by omega, by first | decide | omega, ?_⟩
          have h4 := mg_up h3 (i := 5) (by decide) (by decide) (f := upd (A1 5) (600 + i) t)
          conv => whnf
          refine ⟨_, _, h4.z, rfl, ?_⟩
          conv => whnf
          refine ⟨1, _, _, 600 + i, h4.a6, rfl, rfl, by omega, by first | decide | omega, ?_⟩
          have h5' := mg_up h4 (i := 6) (by decide) (by decide) (f := upd (A1 6) (600 + i) (nI T.length))
          conv => whnf
          refine ⟨rfl, _, _, ?_, Or.inr (Or.inr (Or.inr (Or.inl ⟨0, A1, _, F1, rfl, rfl, rfl, rfl, rfl, hr0, fx_up (fx_up (fx_up (fx_up hfx (iUU rfl)) (iUU rfl)) (iUU rfl)) (iUU rfl), h5', hth, r1, hd, ht5, ?_, ?_, ?_, ?_, ?_, ?_, ?_, by omega, fun q hq => by omega⟩))), rfl, rfl, rfl, rfl, rfl, trivial⟩
          · omega
          · exact dif_up (A1 := uA (uA (uA A1 3 (upd (A1 3) (600 + i) k)) 4 (upd (A1 4) (600 + i) m)) 5 (upd (A1 5) (600 + i) t)) (dif_up (A1 := uA (uA A1 3 (upd (A1 3) (600 + i) k)) 4 (upd (A1 4) (600 + i) m)) (dif_up (A1 := uA A1 3 (upd (A1 3) (600 + i) k)) (dif_up dif_rf (by unfold Wb; omega)) (by unfold Wb; omega)) (by unfold Wb; omega)) (by unfold Wb; omega)
          · rw [uA_n (by decide), uA_n (by decide), uA_n (by decide), uA_s, pk_us]
          · rw [uA_n (by decide), uA_n (by decide), uA_s, pk_us]
          · rw [uA_n (by decide), uA_s, pk_us]
          · rw [uA_s, pk_us]
          · rw [uA_n (by decide), uA_n (by decide), uA_n (by decide), uA_n (by decide)]; exact hb1
          · rw [uA_n (by decide), uA_n (by decide), uA_n (by decide), uA_n (by decide)]; exact hb2
        · have h9 : cmpP S[i].1 T < 0 := Classical.not_not.mp fun z => h8 ((cmp_ge0 hb.1 hb.2).mpr z)
          have hip := (hp2 i _ hG).mp h9
          have hsl := sumC_le hG
          conv => whnf
          refine ⟨⟨_, h1.z⟩, (Nat.le_of_ble_eq_true rfl), _, _, _, c_M_append hfl h1 (by decide) (by decide) (by decide) hS0 ht5 hG (by rw [List.length_take]; omega) (by omega), by first | omega | exact Nat.le_of_ble_eq_true rfl | (simp only [dl1, dl2, dl3, dl4, dl5, dl6]; omega), by first | omega | exact Nat.le_of_ble_eq_true rfl | (simp only [dl1, dl2, dl3, dl4, dl5, dl6]; omega), fun v g2 hh => ?_, fun C g2 hh => ?_⟩
          · obtain ⟨hv, hfx2, A2, h2, hd2, ht2⟩ := hh
            cases hv
            conv => whnf
            refine ⟨rfl, _, _, ?_, Or.inr (Or.inr (Or.inl ⟨i + 1, A2, F1, rfl, rfl, rfl, rfl, rfl, hr0, fx_tr hfx hfx2, h2, hth, r1, dif_tr hd hd2, hip, ?_⟩)), rfl, rfl, rfl, rfl, rfl, sI i, trivial⟩
            · omega
            · rw [take_s hG]; exact ht2
          · cases hh.1
    · obtain ⟨hok, hfn, hdr, hs60⟩ := mkR_0 hS hr0
      obtain ⟨hp1, hp2, hp3, hp4, hp5⟩ := fresh_at hS (E := E) (by rw [hE1]; exact hfn)
      rw [hE1, hpv] at hp1 hp2 hp3 hp4 hp5
      have hTl : T.length ≤ 149 := ptOk_len (okM_iff.mp hok).2.2.2
      have e12 : A1 12 = A 12 := funext fun q => (hd 12 q (by unfold Wb; omega)).trans (congrFun (hi_dif hd0 (by decide)) q)
      have hlt : (S.take p).length = p := by rw [List.length_take]; omega
      have hsk := sumC_tk S p
      conv => whnf
      refine ⟨fun h6 => ?_, fun h6 => ?_⟩
      · have h7 := (q_ge (by omega) (by omega)).mp h6
        conv => whnf
        refine ⟨_, _, h1.z, rfl, ?_⟩
        conv => whnf
        refine ⟨1, _, _, 600 + p, h1.a8, rfl, rfl, by omega, by first | decide | omega, ?_⟩
        have h2 := mg_up h1 (i := 8) (by decide) (by decide) (f := upd (A1 8) (600 + p) (nI 0))
        conv => whnf
        refine ⟨_, _, h2.z, rfl, ?_⟩
        conv => whnf
        refine ⟨_, _, h2.z, rfl, ?_⟩
        conv => whnf
        refine Or.inl ⟨1, _, _, 5, h2.a2, rfl, rfl, by omega, by first | decide | omega, ?_⟩
        rw [uA_n (by decide), b2']
        conv => whnf
        refine ⟨1, _, _, 600 + p, h2.a7, rfl, rfl, by omega, by first | decide | omega, ?_⟩
        have h3 := mg_up h2 (i := 7) (by decide) (by decide) (f := upd (A1 7) (600 + p) (nI (sumC (S.take p))))
        conv => whnf
        refine ⟨_, _, h3.z, rfl, ?_⟩
        conv => whnf
        refine Or.inl ⟨1, _, _, 5, h3.a1, rfl, rfl, by omega, by first | decide | omega, ?_⟩
        rw [uA_n (by decide), uA_n (by decide), b1]
        conv => whnf
        refine ⟨1, _, _, 5, h3.a1, rfl, rfl, by omega, by first | decide | omega, ?_⟩
        rw [nI_add]
        have h4 := mg_up h3 (i := 1) (by decide) (by decide) (f := upd (A1 1) 5 (nI (p + 1)))
        have hdf : dif A0 (uA (uA (uA A1 8 (upd (A1 8) (600 + p) (nI 0))) 7 (upd (A1 7) (600 + p) (nI (sumC (S.take p))))) 1 (upd (A1 1) 5 (nI (p + 1)))) (Wb (600 + p) 5 (sumC (S.take p))) := dif_up (A1 := uA (uA A1 8 (upd (A1 8) (600 + p) (nI 0))) 7 (upd (A1 7) (600 + p) (nI (sumC (S.take p))))) (dif_up (A1 := uA A1 8 (upd (A1 8) (600 + p) (nI 0))) (dif_up hd (by unfold Wb; omega)) (by unfold Wb; omega)) (by unfold Wb; omega)
        conv => whnf
        refine ⟨rfl, _, _, ?_, Or.inr (Or.inr (Or.inr (Or.inr ⟨p, _, F1, rfl, rfl, rfl, rfl, rfl, hr0, fx_up (fx_up (fx_up hfx (iUU rfl)) (iUU rfl)) (iUU rfl), h4, hth, r1, dif_tr hd0 (dif_mono hdf (fun r q hw => Wb_t (i := p) (by omega) (by omega) hw)), Nat.le_refl _, hp1, ?_⟩))), rfl, rfl, rfl, trivial⟩
        · omega
        · rw [take_s hp4, hp3]
          refine tm_app ht5 (by rw [hlt]; exact hdf) ⟨by rw [hE1]; omega, by rw [hE1]; exact t2.2, by rw [hEc]; simp⟩ (by omega) (by rw [hEc, List.length_nil]; omega) ?_ ?_ ?_
          · rw [uA_s, pk_us, hlt]
          · rw [uA_n (by decide), uA_n (by decide), uA_n (by decide), hEc]; exact b2'
          · rw [hlt, ← hEv]
            refine ⟨?_, ?_, ?_, ?_, ?_, ?_, ?_, fun q hq => absurd hq (Nat.not_lt_zero q)⟩
            · rw [uA_n (by decide), uA_n (by decide), uA_n (by decide)]; exact b3
            · rw [uA_n (by decide), uA_n (by decide), uA_n (by decide)]; exact b4
            · rw [uA_n (by decide), uA_n (by decide), uA_n (by decide)]; exact b5
            · rw [uA_n (by decide), uA_n (by decide), uA_n (by decide)]; exact b6
            · rw [uA_n (by decide), uA_s, pk_us]
            · rw [uA_n (by decide), uA_n (by decide), uA_s, pk_us]; rfl
            · intro q hq
              have hq : q < T.length := hq
              rw [uA_n (by decide), uA_n (by decide), uA_n (by decide)]
              exact b9 q (by omega)
      · have h7 : j < T.length := Nat.lt_of_not_le fun z => h6 ((q_ge (by omega) (by omega)).mpr z)
        conv => whnf
        refine ⟨_, _, h1.z, rfl, ?_⟩
        conv => whnf
        refine ⟨_, _, h1.z, rfl, ?_⟩
        conv => whnf
        refine Or.inl ⟨1, _, _, j, h1.a12, rfl, rfl, by omega, by first | decide | omega, ?_⟩
        rw [e12, t2.1 j h7]
        conv => whnf
        refine ⟨1, _, _, 150 * (600 + p) + j, h1.a9, rfl, (ix1 150 (600 + p) j), (by omega), by first | decide | omega, ?_⟩
        have h2 := mg_up h1 (i := 9) (by decide) (by decide) (f := upd (A1 9) (150 * (600 + p) + j) (nI (T.getD j 0)))
        conv => whnf
        refine ⟨rfl, _, _, ?_, Or.inr (Or.inr (Or.inr (Or.inl ⟨j + 1, A0, _, F1, rfl, rfl, rfl, rfl, rfl, hr0, fx_up hfx (iUU rfl), h2, hth, r1, hd0, ht5, ?_, ?_, ?_, ?_, ?_, ?_, ?_, h7, fun q hq => ?_⟩))), rfl, rfl, rfl, rfl, sI j, trivial⟩
        · omega
        · exact dif_up hd (by unfold Wb; omega)
        · rw [uA_n (by decide)]; exact b3
        · rw [uA_n (by decide)]; exact b4
        · rw [uA_n (by decide)]; exact b5
        · rw [uA_n (by decide)]; exact b6
        · rw [uA_n (by decide)]; exact b1
        · rw [uA_n (by decide)]; exact b2'
        · rw [uA_s]
          by_cases hjk : q = j
          · subst hjk; rw [pk_us]
          · rw [pk_un (by omega)]; exact b9 q (by omega)
    · obtain ⟨hok, hfn, hdr, hs60⟩ := mkR_0 hS hr0
      obtain ⟨hp1, hp2, hp3, hp4, hp5⟩ := fresh_at hS (E := E) (by rw [hE1]; exact hfn)
      rw [hE1, hpv] at hp1 hp2 hp3 hp4 hp5
      obtain ⟨q1, q2, q3, -⟩ := srt_fresh hS (E := E) (by rw [hE1]; exact hfn)
      have hTl : T.length ≤ 149 := ptOk_len (okM_iff.mp hok).2.2.2
      have hS0 : tm A1 0 S := tm_dif r1.2.2.2.1 hd (by decide)
      conv => whnf
      refine ⟨_, _, h1.z, rfl, ?_⟩
      conv => whnf
      refine Or.inl ⟨1, _, _, 0, h1.a1, rfl, rfl, by omega, by first | decide | omega, ?_⟩
      rw [hS0.1]
      conv => whnf
      refine ⟨fun h6 => ?_, fun h6 => ?_⟩
      · have h7 := (q_ge (by omega) (by omega)).mp h6
        obtain rfl : i = S.length := by omega
        rw [List.take_of_length_le (by omega)] at ht5
        conv => whnf
        refine ⟨⟨_, h1.z⟩, (Nat.le_of_ble_eq_true rfl), _, _, _, c_M_copy hfl h1 (by decide) (by decide) (by decide) ht5, by first | omega | exact Nat.le_of_ble_eq_true rfl | (simp only [dl1, dl2, dl3, dl4, dl5, dl6]; omega), by first | omega | exact Nat.le_of_ble_eq_true rfl | (simp only [dl1, dl2, dl3, dl4, dl5, dl6]; omega), fun v g2 hh => ?_, fun C g2 hh => ?_⟩
        · obtain ⟨hv, hfx2, A2, h2, hd2, ht2⟩ := hh
          cases hv
          have r2 := mR_0 (mR_5 r1 hd) hd2 ht2
          have t2' : ib (A2 12) T := by rw [hi_dif hd2 (by decide), hi_dif hd (by decide)]; exact t2
          conv => whnf
          refine ⟨⟨_, h2.z⟩, (Nat.le_of_ble_eq_true rfl), _, _, _, c_M_chooseTape hfl h2 r2 (fun _ _ => rfl) t2' (by omega), by first | omega | exact Nat.le_of_ble_eq_true rfl | (simp only [dl1, dl2, dl3, dl4, dl5, dl6]; omega), by first | omega | exact Nat.le_of_ble_eq_true rfl | (simp only [dl1, dl2, dl3, dl4, dl5, dl6]; omega), fun v g3 hh => ?_, fun C g3 hh => ?_⟩
          · obtain ⟨hv, hfx3, A3, F3, h3, e0, r3⟩ := hh
            cases hv
            conv => whnf
            refine ⟨_, _, h3.z, rfl, ?_⟩
            conv => whnf
            refine Or.inl ⟨1, _, _, 0, h3.a1, rfl, rfl, by omega, by first | decide | omega, ?_⟩
            rw [r3.2.2.2.1.1]
            conv => whnf
            refine ⟨⟨_, rfl, rfl⟩, ?_, by first | omega | exact Nat.le_of_ble_eq_true rfl | (simp only [dl1, dl2, dl3, dl4, dl5, dl6]; omega), by first | omega | exact Nat.le_of_ble_eq_true rfl | (simp only [dl1, dl2, dl3, dl4, dl5, dl6]; omega)⟩
            rw [hr0]
            show mO _ _ _ _ _ _ (putL S (T, k, m, t, [])) _ _ _ _ _ _ _ _ _ _ _ _
            rw [hEv]
            exact ⟨rfl, fx_tr hfx (fx_tr hfx2 hfx3), A3, F3, h3, e0.trans hth, r3⟩
          · cases hh.1
        · cases hh.1
      · have h7 : i < S.length := Nat.lt_of_not_le fun z => h6 ((q_ge (by omega) (by omega)).mpr z)
        have hG := List.getElem?_eq_getElem h7
        have hG2 := (hp5 i hpi).trans hG
        have hsl := sumC_le hG2
        rw [q3, hEc] at hsl
        simp only [List.length_nil] at hsl
        conv => whnf
        refine ⟨⟨_, h1.z⟩, (Nat.le_of_ble_eq_true rfl), _, _, _, c_M_append hfl h1 (by decide) (by decide) (by decide) hS0 ht5 hG (by rw [List.length_take]; omega) (by omega), by first | omega | exact Nat.le_of_ble_eq_true rfl | (simp only [dl1, dl2, dl3, dl4, dl5, dl6]; omega), by first | omega | exact Nat.le_of_ble_eq_true rfl | (simp only [dl1, dl2, dl3, dl4, dl5, dl6]; omega), fun v g2 hh => ?_, fun C g2 hh => ?_⟩
        · obtain ⟨hv, hfx2, A2, h2, hd2, ht2⟩ := hh
          cases hv
          conv => whnf
          refine ⟨rfl, _, _, ?_, Or.inr (Or.inr (Or.inr (Or.inr ⟨i + 1, A2, F1, rfl, rfl, rfl, rfl, rfl, hr0, fx_tr hfx hfx2, h2, hth, r1, dif_tr hd hd2, by omega, h7, ?_⟩))), rfl, rfl, sI i, trivial⟩
          · omega
          · rw [take_s hG2]; exact ht2
        · cases hh.1
end MMK
