/-! MirrorKeep: step, regress -/
section KT0
def upM (X : List Chg) (M : List Ent) (op : Nat) : List Ent := match updB X.length op with
  | none => M
  | some k => match X[k]? with
    | none => M
    | some x => replL M x.1 x.2
def dnM (X : List Chg) (M : List Ent) (op : Nat) : List Ent := match updB X.length op with
  | none => M
  | some k => match X[k]? with
    | none => M
    | some x => replL M x.2 x.1
/-- the mirror behind j further operations -/
def itM (X : List Chg) (M : List Ent) (op : Nat) : Nat → List Ent
  | 0 => M
  | j + 1 => upM X (itM X M op j) (op + j)
/-- the mirror once j operations are taken back -/
def itD (X : List Chg) (M : List Ent) (op : Nat) : Nat → List Ent
  | 0 => M
  | j + 1 => dnM X (itD X M op j) (op - (j + 1))
theorem updB_lt {c op k : Nat} (h : updB c op = some k) : k < c := by
  unfold updB at h
  split at h
  · cases h; omega
  · cases h
theorem updB_end (c : Nat) : updB c (2 * c + 2) = none := by
  unfold updB
  rw [if_neg (by omega)]
end KT0
section KT
variable {ad : Nat → Nat} {g : g_H} {R T : List Nat} {S M Rs : List Ent} {Hs : List Ses} {X : List Chg} {ch st tm dn : Int32} {rs : Nat}
variable {l : Launch} {D : va_G} {aC : Nat → ClassId}
theorem c_K_commit (hfl : l.flags = pinnedFlags ++ [noTraceFlag]) (h : cK ad g R T S M Rs Hs X ch st tm dn rs) (hl : Hs.length < 40) : k_CT l D aC n_K_commit 3 125 [.ref (ad 0)] g (kO ad g (.inl none) R T S M Rs (Hs ++ [(tm, X.length, M)]) X ch 0 tm 0) := by
  obtain ⟨hj, z1, t1, s1, m1, r1, h1, c1, -⟩ := id h
  have hU := cK_al h
  refine k_ln hfl n_K_commit ok_K_commit rfl rfl rfl rfl rfl rfl (fun h => by cases h) (Nat.le_of_ble_eq_true rfl) 60 ?_
  conv => whnf
  refine ⟨_, _, z1, rfl, ?_⟩
  conv => whnf
  refine ⟨by first | omega | exact Nat.le_of_ble_eq_true rfl | (simp only [dl1, dl2, dl3, dl4, dl5, dl6]; omega), by first | omega | exact Nat.le_of_ble_eq_true rfl | (simp only [dl1, dl2, dl3, dl4, dl5, dl6]; omega), fun e he => ?_⟩
  have hf1 : fx (List.map ad []) g (g_up g e (.inr (6, k_dfl 6))) := fx_new fx_rf he
  have h2 := cK_fx h hf1
  have hU2 := al_fx hU hf1
  obtain ⟨-, z2, -, -, m2, -, -, c2, -⟩ := id h2
  obtain ⟨f1, f2, c3, -⟩ := id c2
  obtain ⟨f3, m3, -⟩ := id m2
  conv => whnf
  refine ⟨_, _, z2, rfl, ?_⟩
  conv => whnf
  refine ⟨_, _, z2, rfl, ?_⟩
  conv => whnf
  refine ⟨⟨_, c3⟩, (Nat.le_of_ble_eq_true rfl), _, _, _, c_C_size hfl c2, by first | omega | exact Nat.le_of_ble_eq_true rfl | (simp only [dl1, dl2, dl3, dl4, dl5, dl6]; omega), by first | omega | exact Nat.le_of_ble_eq_true rfl | (simp only [dl1, dl2, dl3, dl4, dl5, dl6]; omega), k_rl ?_, k_rr⟩
  conv => whnf
  refine ⟨_, _, z2, rfl, ?_⟩
  conv => whnf
  refine ⟨⟨_, m3⟩, (Nat.le_of_ble_eq_true rfl), _, _, _, c_R_copy hfl m2 hU2, by first | omega | exact Nat.le_of_ble_eq_true rfl | (simp only [dl1, dl2, dl3, dl4, dl5, dl6]; omega), by first | omega | exact Nat.le_of_ble_eq_true rfl | (simp only [dl1, dl2, dl3, dl4, dl5, dl6]; omega), fun v g2 hh => ?_, fun C g2 hh => ?_⟩
  · obtain ⟨q, qa, hv, hq, hqa, hT, hf2⟩ := hh
    cases hv
    have h3 := cK_fx h2 (g1 := g2) hf2
    have e2 : g2 e = some (.inr (6, k_dfl 6)) := fx_at hf2 g_up_s (by simp)
    conv => whnf
    refine ⟨(Nat.le_of_ble_eq_true rfl), _, _, _, c_S_init hfl e2, by first | omega | exact Nat.le_of_ble_eq_true rfl | (simp only [dl1, dl2, dl3, dl4, dl5, dl6]; omega), by first | omega | exact Nat.le_of_ble_eq_true rfl | (simp only [dl1, dl2, dl3, dl4, dl5, dl6]; omega), k_rl ?_, k_rr⟩
    have hf3 : fx (List.map ad []) g (g_up g2 e (.inr (6, [.int tm, .int (nI X.length), .ref q]))) := fx_new (fx_tr hf1 hf2) he
    have h4 := cK_fx h hf3
    have nqe : q ≠ e := fun z => by rw [z, g_up_s] at hq; cases hq
    have nqae : qa ≠ e := fun z => by rw [z, g_up_s] at hqa; cases hqa
    have heU : e ∉ UU ad := al_n hU he
    have hE : se (UU ad) (g_up g2 e (.inr (6, [.int tm, .int (nI X.length), .ref q]))) e (tm, X.length, M) := by
      refine ⟨q, g_up_s, ⟨qa, ?_, al_n hU2 hq, al_n hU2 hqa⟩, heU⟩
      obtain ⟨f5, b1, b2', b3, b4⟩ := hT
      refine ⟨f5, by rw [g_up_n nqe]; exact b1, by rw [g_up_n nqae]; exact b2', b3, fun i E hE => ?_⟩
      obtain ⟨b, hb, ⟨p, c, d1, d2, d3, d4⟩⟩ := b4 i E hE
      have nb : b ≠ e := fun z => by rw [z, e2] at d1; cases d1
      have np : p ≠ e := fun z => by
        obtain ⟨f, d5, -⟩ := d2
        rw [z, e2] at d5; cases d5
      have nc : c ≠ e := fun z => by
        obtain ⟨f, d5, -⟩ := d3
        rw [z, e2] at d5; cases d5
      exact ⟨b, hb, p, c, by rw [g_up_n nb]; exact d1, isBy_fr d2 (g_up_n np), isBy_fr d3 (g_up_n nc), d4⟩
    obtain ⟨-, -, -, -, -, -, h5, -⟩ := id h4
    obtain ⟨f6, h6, -⟩ := id h5
    conv => whnf
    refine ⟨⟨_, h6⟩, (Nat.le_of_ble_eq_true rfl), _, _, _, c_H_add hfl h5 hE hl (iUU rfl) (iUU rfl), by first | omega | exact Nat.le_of_ble_eq_true rfl | (simp only [dl1, dl2, dl3, dl4, dl5, dl6]; omega), by first | omega | exact Nat.le_of_ble_eq_true rfl | (simp only [dl1, dl2, dl3, dl4, dl5, dl6]; omega), fun v g3 hh => ?_, fun C g3 hh => ?_⟩
    · obtain ⟨hv, hH, hf4⟩ := hh
      cases hv
      have h7 := cK_his h4 hH hf4
      conv => whnf
      refine ⟨_, h7.2.1, by simp, rfl, rfl, ?_⟩
      have h8 := cK_z (ch1 := ch) (st1 := st) (tm1 := tm) (dn1 := nI 0) h7
      conv => whnf
      refine ⟨_, h8.2.1, by simp, rfl, rfl, ?_⟩
      have h9 := cK_z (ch1 := ch) (st1 := nI 0) (tm1 := tm) (dn1 := nI 0) h8
      conv => whnf
      refine ⟨rfl, ?_, by first | omega | exact Nat.le_of_ble_eq_true rfl | (simp only [dl1, dl2, dl3, dl4, dl5, dl6]; omega), by first | omega | exact Nat.le_of_ble_eq_true rfl | (simp only [dl1, dl2, dl3, dl4, dl5, dl6]; omega)⟩
      exact ⟨rfl, fx_up (fx_up (fx_tr (fx_sub hf3 (by simp)) (fx_sub hf4 (sUU (I := [8, 9]) rfl))) (iUU rfl)) (iUU rfl), rs, h9⟩
    · cases hh.1
  · obtain ⟨q, qa, hv, -⟩ := hh
    cases hv
/-- the tail of doNextOperation: pc 40 -/
theorem c_K_next (hfl : l.flags = pinnedFlags ++ [noTraceFlag]) {op : Nat} (h : cK ad g R T S M Rs Hs X ch st tm (nI op) rs) (hop : op + 1 < 2 * X.length + 3) (hl : (upM X M op).length ≤ 120) : k_CT l D aC n_K_doNextOperation 0 0 [.ref (ad 0)] g (kO ad g (.inl none) R T S (upM X M op) Rs Hs X ch st tm (nI (op + 1))) := by
  obtain ⟨hj, z1, t1, s1, m1, r1, h1, c1, -⟩ := id h
  obtain ⟨f1, f2, c3, -, -, -, c4, -⟩ := id c1
  obtain ⟨f3, m3, -⟩ := id m1
  refine k_ln hfl n_K_doNextOperation ok_K_doNextOperation rfl rfl rfl rfl rfl rfl (fun h => by cases h) (Nat.le_of_ble_eq_true rfl) 80 ?_
  conv => whnf
  refine ⟨_, _, z1, rfl, ?_⟩
  conv => whnf
  refine ⟨_, _, z1, rfl, ?_⟩
  conv => whnf
  refine ⟨⟨_, c3⟩, (Nat.le_of_ble_eq_true rfl), _, _, _, c_C_updatedBy hfl c1 (by omega), by first | omega | exact Nat.le_of_ble_eq_true rfl | (simp only [dl1, dl2, dl3, dl4, dl5, dl6]; omega), by first | omega | exact Nat.le_of_ble_eq_true rfl | (simp only [dl1, dl2, dl3, dl4, dl5, dl6]; omega), k_rl ?_, k_rr⟩
  cases hu : updB X.length op with
  | none =>
    have hm : upM X M op = M := by rw [upM, hu]
    rw [hm]
    conv => whnf
    refine ⟨fun _ => ?_, fun h => absurd (show slI none = -1 from rfl) h⟩
    conv => whnf
    refine ⟨_, _, h.2.1, rfl, ?_⟩
    conv => whnf
    refine ⟨_, h.2.1, by simp, rfl, rfl, ?_⟩
    have h6 := cK_z (ch1 := ch) (st1 := st) (tm1 := tm) (dn1 := nI op + nI 1) h
    conv => whnf
    refine ⟨_, _, h6.2.1, rfl, ?_⟩
    conv => whnf
    refine ⟨⟨_, h6.2.1⟩, (Nat.le_of_ble_eq_true rfl), _, _, _, c_K_operations hfl h6, by first | omega | exact Nat.le_of_ble_eq_true rfl | (simp only [dl1, dl2, dl3, dl4, dl5, dl6]; omega), by first | omega | exact Nat.le_of_ble_eq_true rfl | (simp only [dl1, dl2, dl3, dl4, dl5, dl6]; omega), k_rl ?_, k_rr⟩
    rw [nI_add] at h6 ⊢
    conv => whnf
    refine ⟨fun _ => ?_, fun h => absurd ((q_ne (by omega) (by omega)).mpr (by omega)) h⟩
    conv => whnf
    refine ⟨rfl, ?_, by first | omega | exact Nat.le_of_ble_eq_true rfl | (simp only [dl1, dl2, dl3, dl4, dl5, dl6]; omega), by first | omega | exact Nat.le_of_ble_eq_true rfl | (simp only [dl1, dl2, dl3, dl4, dl5, dl6]; omega)⟩
    exact ⟨rfl, fx_up fx_rf (iUU rfl), rs, h6⟩
  | some k =>
    have hk := updB_lt hu
    have hx := List.getElem?_eq_getElem hk
    have hm : upM X M op = replL M X[k].1 X[k].2 := by rw [upM, hu]; simp only [hx]
    rw [hm] at hl ⊢
    conv => whnf
    refine ⟨fun h => absurd h (nI_m1 (by omega)), fun _ => ?_⟩
    conv => whnf
    refine ⟨_, _, z1, rfl, ?_⟩
    conv => whnf
    refine ⟨_, _, z1, rfl, ?_⟩
    conv => whnf
    refine ⟨⟨_, c3⟩, (Nat.le_of_ble_eq_true rfl), _, _, _, c_C_before hfl c1 hx, by first | omega | exact Nat.le_of_ble_eq_true rfl | (simp only [dl1, dl2, dl3, dl4, dl5, dl6]; omega), by first | omega | exact Nat.le_of_ble_eq_true rfl | (simp only [dl1, dl2, dl3, dl4, dl5, dl6]; omega), fun v g1 hh => ?_, fun C g1 hh => ?_⟩
    · obtain ⟨rfl, v, hv, hE⟩ := hh
      cases hv
      have hv : v = .null ∨ ∃ b, v = .ref b := by
        generalize X[k].1 = o at hE
        cases o with
        | none => exact Or.inl hE
        | some E => exact Or.inr ⟨hE.choose, hE.choose_spec.1⟩
      rcases hv with rfl | ⟨a, rfl⟩
      · conv => whnf
        refine ⟨_, _, z1, rfl, ?_⟩
        conv => whnf
        refine ⟨⟨_, c3⟩, (Nat.le_of_ble_eq_true rfl), _, _, _, c_C_after hfl c1 hx, by first | omega | exact Nat.le_of_ble_eq_true rfl | (simp only [dl1, dl2, dl3, dl4, dl5, dl6]; omega), by first | omega | exact Nat.le_of_ble_eq_true rfl | (simp only [dl1, dl2, dl3, dl4, dl5, dl6]; omega), fun v g3 hh => ?_, fun C g3 hh => ?_⟩
        · obtain ⟨rfl, w, hv, hF⟩ := hh
          cases hv
          have hw : w = .null ∨ ∃ b, w = .ref b := by
            generalize X[k].2 = o at hF
            cases o with
            | none => exact Or.inl hF
            | some E => exact Or.inr ⟨hF.choose, hF.choose_spec.1⟩
          rcases hw with rfl | ⟨b, rfl⟩
          · conv => whnf
            refine ⟨⟨_, m3⟩, (Nat.le_of_ble_eq_true rfl), _, _, _, c_R_replace hfl m1 hE hF (iUU rfl) (iUU rfl) hl, by first | omega | exact Nat.le_of_ble_eq_true rfl | (simp only [dl1, dl2, dl3, dl4, dl5, dl6]; omega), by first | omega | exact Nat.le_of_ble_eq_true rfl | (simp only [dl1, dl2, dl3, dl4, dl5, dl6]; omega), fun v g2 hh => ?_, fun C g2 hh => ?_⟩
            · obtain ⟨hv, hM, hf⟩ := hh
              cases hv
              have h5 := cK_mir h hM hf
              conv => whnf
              refine ⟨_, _, h5.2.1, rfl, ?_⟩
              conv => whnf
              refine ⟨_, h5.2.1, by simp, rfl, rfl, ?_⟩
              have h6 := cK_z (ch1 := ch) (st1 := st) (tm1 := tm) (dn1 := nI op + nI 1) h5
              conv => whnf
              refine ⟨_, _, h6.2.1, rfl, ?_⟩
              conv => whnf
              refine ⟨⟨_, h6.2.1⟩, (Nat.le_of_ble_eq_true rfl), _, _, _, c_K_operations hfl h6, by first | omega | exact Nat.le_of_ble_eq_true rfl | (simp only [dl1, dl2, dl3, dl4, dl5, dl6]; omega), by first | omega | exact Nat.le_of_ble_eq_true rfl | (simp only [dl1, dl2, dl3, dl4, dl5, dl6]; omega), k_rl ?_, k_rr⟩
              rw [nI_add] at h6 ⊢
              conv => whnf
              refine ⟨fun _ => ?_, fun h => absurd ((q_ne (by omega) (by omega)).mpr (by omega)) h⟩
              conv => whnf
              refine ⟨rfl, ?_, by first | omega | exact Nat.le_of_ble_eq_true rfl | (simp only [dl1, dl2, dl3, dl4, dl5, dl6]; omega), by first | omega | exact Nat.le_of_ble_eq_true rfl | (simp only [dl1, dl2, dl3, dl4, dl5, dl6]; omega)⟩
              exact ⟨rfl, fx_up (fx_sub hf (sUU (I := [6, 7]) rfl)) (iUU rfl), rs, h6⟩
            · cases hh.1
          · conv => whnf
            refine ⟨⟨_, m3⟩, (Nat.le_of_ble_eq_true rfl), _, _, _, c_R_replace hfl m1 hE hF (iUU rfl) (iUU rfl) hl, by first | omega | exact Nat.le_of_ble_eq_true rfl | (simp only [dl1, dl2, dl3, dl4, dl5, dl6]; omega), by first | omega | exact Nat.le_of_ble_eq_true rfl | (simp only [dl1, dl2, dl3, dl4, dl5, dl6]; omega), fun v g2 hh => ?_, fun C g2 hh => ?_⟩
            · obtain ⟨hv, hM, hf⟩ := hh
              cases hv
              have h5 := cK_mir h hM hf
              conv => whnf
              refine ⟨_, _, h5.2.1, rfl, ?_⟩
              conv => whnf
              refine ⟨_, h5.2.1, by simp, rfl, rfl, ?_⟩
              have h6 := cK_z (ch1 := ch) (st1 := st) (tm1 := tm) (dn1 := nI op + nI 1) h5
              conv => whnf
              refine ⟨_, _, h6.2.1, rfl, ?_⟩
              conv => whnf
              refine ⟨⟨_, h6.2.1⟩, (Nat.le_of_ble_eq_true rfl), _, _, _, c_K_operations hfl h6, by first | omega | exact Nat.le_of_ble_eq_true rfl | (simp only [dl1, dl2, dl3, dl4, dl5, dl6]; omega), by first | omega | exact Nat.le_of_ble_eq_true rfl | (simp only [dl1, dl2, dl3, dl4, dl5, dl6]; omega), k_rl ?_, k_rr⟩
              rw [nI_add] at h6 ⊢
              conv => whnf
              refine ⟨fun _ => ?_, fun h => absurd ((q_ne (by omega) (by omega)).mpr (by omega)) h⟩
              conv => whnf
              refine ⟨rfl, ?_, by first | omega | exact Nat.le_of_ble_eq_true rfl | (simp only [dl1, dl2, dl3, dl4, dl5, dl6]; omega), by first | omega | exact Nat.le_of_ble_eq_true rfl | (simp only [dl1, dl2, dl3, dl4, dl5, dl6]; omega)⟩
              exact ⟨rfl, fx_up (fx_sub hf (sUU (I := [6, 7]) rfl)) (iUU rfl), rs, h6⟩
            · cases hh.1
        · obtain ⟨-, v, hv, -⟩ := hh
          cases hv
      · conv => whnf
        refine ⟨_, _, z1, rfl, ?_⟩
        conv => whnf
        refine ⟨⟨_, c3⟩, (Nat.le_of_ble_eq_true rfl), _, _, _, c_C_after hfl c1 hx, by first | omega | exact Nat.le_of_ble_eq_true rfl | (simp only [dl1, dl2, dl3, dl4, dl5, dl6]; omega), by first | omega | exact Nat.le_of_ble_eq_true rfl | (simp only [dl1, dl2, dl3, dl4, dl5, dl6]; omega), fun v g3 hh => ?_, fun C g3 hh => ?_⟩
        · obtain ⟨rfl, w, hv, hF⟩ := hh
          cases hv
          have hw : w = .null ∨ ∃ b, w = .ref b := by
            generalize X[k].2 = o at hF
            cases o with
            | none => exact Or.inl hF
            | some E => exact Or.inr ⟨hF.choose, hF.choose_spec.1⟩
          rcases hw with rfl | ⟨b, rfl⟩
          · conv => whnf
            refine ⟨⟨_, m3⟩, (Nat.le_of_ble_eq_true rfl), _, _, _, c_R_replace hfl m1 hE hF (iUU rfl) (iUU rfl) hl, by first | omega | exact Nat.le_of_ble_eq_true rfl | (simp only [dl1, dl2, dl3, dl4, dl5, dl6]; omega), by first | omega | exact Nat.le_of_ble_eq_true rfl | (simp only [dl1, dl2, dl3, dl4, dl5, dl6]; omega), fun v g2 hh => ?_, fun C g2 hh => ?_⟩
            · obtain ⟨hv, hM, hf⟩ := hh
              cases hv
              have h5 := cK_mir h hM hf
              conv => whnf
              refine ⟨_, _, h5.2.1, rfl, ?_⟩
              conv => whnf
              refine ⟨_, h5.2.1, by simp, rfl, rfl, ?_⟩
              have h6 := cK_z (ch1 := ch) (st1 := st) (tm1 := tm) (dn1 := nI op + nI 1) h5
              conv => whnf
              refine ⟨_, _, h6.2.1, rfl, ?_⟩
              conv => whnf
              refine ⟨⟨_, h6.2.1⟩, (Nat.le_of_ble_eq_true rfl), _, _, _, c_K_operations hfl h6, by first | omega | exact Nat.le_of_ble_eq_true rfl | (simp only [dl1, dl2, dl3, dl4, dl5, dl6]; omega), by first | omega | exact Nat.le_of_ble_eq_true rfl | (simp only [dl1, dl2, dl3, dl4, dl5, dl6]; omega), k_rl ?_, k_rr⟩
              rw [nI_add] at h6 ⊢
              conv => whnf
              refine ⟨fun _ => ?_, fun h => absurd ((q_ne (by omega) (by omega)).mpr (by omega)) h⟩
              conv => whnf
              refine ⟨rfl, ?_, by first | omega | exact Nat.le_of_ble_eq_true rfl | (simp only [dl1, dl2, dl3, dl4, dl5, dl6]; omega), by first | omega | exact Nat.le_of_ble_eq_true rfl | (simp only [dl1, dl2, dl3, dl4, dl5, dl6]; omega)⟩
              exact ⟨rfl, fx_up (fx_sub hf (sUU (I := [6, 7]) rfl)) (iUU rfl), rs, h6⟩
            · cases hh.1
          · conv => whnf
            refine ⟨⟨_, m3⟩, (Nat.le_of_ble_eq_true rfl), _, _, _, c_R_replace hfl m1 hE hF (iUU rfl) (iUU rfl) hl, by first | omega | exact Nat.le_of_ble_eq_true rfl | (simp only [dl1, dl2, dl3, dl4, dl5, dl6]; omega), by first | omega | exact Nat.le_of_ble_eq_true rfl | (simp only [dl1, dl2, dl3, dl4, dl5, dl6]; omega), fun v g2 hh => ?_, fun C g2 hh => ?_⟩
            · obtain ⟨hv, hM, hf⟩ := hh
              cases hv
              have h5 := cK_mir h hM hf
              conv => whnf
              refine ⟨_, _, h5.2.1, rfl, ?_⟩
              conv => whnf
              refine ⟨_, h5.2.1, by simp, rfl, rfl, ?_⟩
              have h6 := cK_z (ch1 := ch) (st1 := st) (tm1 := tm) (dn1 := nI op + nI 1) h5
              conv => whnf
              refine ⟨_, _, h6.2.1, rfl, ?_⟩
              conv => whnf
              refine ⟨⟨_, h6.2.1⟩, (Nat.le_of_ble_eq_true rfl), _, _, _, c_K_operations hfl h6, by first | omega | exact Nat.le_of_ble_eq_true rfl | (simp only [dl1, dl2, dl3, dl4, dl5, dl6]; omega), by first | omega | exact Nat.le_of_ble_eq_true rfl | (simp only [dl1, dl2, dl3, dl4, dl5, dl6]; omega), k_rl ?_, k_rr⟩
              rw [nI_add] at h6 ⊢
              conv => whnf
              refine ⟨fun _ => ?_, fun h => absurd ((q_ne (by omega) (by omega)).mpr (by omega)) h⟩
              conv => whnf
              refine ⟨rfl, ?_, by first | omega | exact Nat.le_of_ble_eq_true rfl | (simp only [dl1, dl2, dl3, dl4, dl5, dl6]; omega), by first | omega | exact Nat.le_of_ble_eq_true rfl | (simp only [dl1, dl2, dl3, dl4, dl5, dl6]; omega)⟩
              exact ⟨rfl, fx_up (fx_sub hf (sUU (I := [6, 7]) rfl)) (iUU rfl), rs, h6⟩
            · cases hh.1
        · obtain ⟨-, v, hv, -⟩ := hh
          cases hv
    · obtain ⟨-, v, hv, -⟩ := hh
      cases hv
theorem c_K_last (hfl : l.flags = pinnedFlags ++ [noTraceFlag]) {op : Nat} (h : cK ad g R T S M Rs Hs X ch st tm (nI op) rs) (hop : op + 1 = 2 * X.length + 3) (hl : Hs.length < 40) : k_CT l D aC n_K_doNextOperation 3 125 [.ref (ad 0)] g (kO ad g (.inl none) R T S M Rs (Hs ++ [(tm, X.length, M)]) X ch 0 tm 0) := by
  obtain ⟨hj, z1, t1, s1, m1, r1, h1, c1, -⟩ := id h
  obtain ⟨f1, f2, c3, -, -, -, c4, -⟩ := id c1
  have hu : updB X.length op = none := by
    rw [show op = 2 * X.length + 2 by omega]
    exact updB_end _
  refine k_ln hfl n_K_doNextOperation ok_K_doNextOperation rfl rfl rfl rfl rfl rfl (fun h => by cases h) (Nat.le_of_ble_eq_true rfl) 80 ?_
  conv => whnf
  refine ⟨_, _, z1, rfl, ?_⟩
  conv => whnf
  refine ⟨_, _, z1, rfl, ?_⟩
  conv => whnf
  refine ⟨⟨_, c3⟩, (Nat.le_of_ble_eq_true rfl), _, _, _, c_C_updatedBy hfl c1 (by omega), by first | omega | exact Nat.le_of_ble_eq_true rfl | (simp only [dl1, dl2, dl3, dl4, dl5, dl6]; omega), by first | omega | exact Nat.le_of_ble_eq_true rfl | (simp only [dl1, dl2, dl3, dl4, dl5, dl6]; omega), k_rl ?_, k_rr⟩
  rw [hu]
  conv => whnf
  refine ⟨fun _ => ?_, fun h => absurd (show slI none = -1 from rfl) h⟩
  conv => whnf
  refine ⟨_, _, h.2.1, rfl, ?_⟩
  conv => whnf
  refine ⟨_, h.2.1, by simp, rfl, rfl, ?_⟩
  have h6 := cK_z (ch1 := ch) (st1 := st) (tm1 := tm) (dn1 := nI op + nI 1) h
  conv => whnf
  refine ⟨_, _, h6.2.1, rfl, ?_⟩
  conv => whnf
  refine ⟨⟨_, h6.2.1⟩, (Nat.le_of_ble_eq_true rfl), _, _, _, c_K_operations hfl h6, by first | omega | exact Nat.le_of_ble_eq_true rfl | (simp only [dl1, dl2, dl3, dl4, dl5, dl6]; omega), by first | omega | exact Nat.le_of_ble_eq_true rfl | (simp only [dl1, dl2, dl3, dl4, dl5, dl6]; omega), k_rl ?_, k_rr⟩
  rw [nI_add] at h6 ⊢
  conv => whnf
  refine ⟨fun h => absurd h (fun z => absurd ((q_ne (by omega) (by omega)).mp z) (by omega)), fun _ => ?_⟩
  conv => whnf
  refine ⟨⟨_, h6.2.1⟩, (Nat.le_of_ble_eq_true rfl), _, _, _, c_K_commit hfl h6 hl, by first | omega | exact Nat.le_of_ble_eq_true rfl | (simp only [dl1, dl2, dl3, dl4, dl5, dl6]; omega), by first | omega | exact Nat.le_of_ble_eq_true rfl | (simp only [dl1, dl2, dl3, dl4, dl5, dl6]; omega), fun v g1 hh => ?_, fun C g1 hh => ?_⟩
  · obtain ⟨hv, hf, rs1, h7⟩ := hh
    cases hv
    conv => whnf
    refine ⟨rfl, ?_, by first | omega | exact Nat.le_of_ble_eq_true rfl | (simp only [dl1, dl2, dl3, dl4, dl5, dl6]; omega), by first | omega | exact Nat.le_of_ble_eq_true rfl | (simp only [dl1, dl2, dl3, dl4, dl5, dl6]; omega)⟩
    exact ⟨rfl, fx_tr (fx_up fx_rf (iUU rfl)) hf, rs1, h7⟩
  · cases hh.1
theorem c_K_back (hfl : l.flags = pinnedFlags ++ [noTraceFlag]) {op : Nat} (h : cK ad g R T S M Rs Hs X ch st tm (nI (op + 1)) rs) (hop : op < 2 ^ 20) (hl : (dnM X M op).length ≤ 120) : k_CT l D aC n_K_takeBackLastOperation 0 0 [.ref (ad 0)] g (kO ad g (.inl none) R T S (dnM X M op) Rs Hs X ch st tm (nI op)) := by
  refine k_ln hfl n_K_takeBackLastOperation ok_K_takeBackLastOperation rfl rfl rfl rfl rfl rfl (fun h => by cases h) (Nat.le_of_ble_eq_true rfl) 80 ?_
  conv => whnf
  refine ⟨_, _, h.2.1, rfl, ?_⟩
  conv => whnf
  refine ⟨_, h.2.1, by simp, rfl, rfl, ?_⟩
  have h0 := cK_z (ch1 := ch) (st1 := st) (tm1 := tm) (dn1 := nI (op + 1) - nI 1) h
  have e0 : nI (op + 1) - nI 1 = nI op := pk_sub (by omega)
  rw [e0] at h0 ⊢
  have hf0 : fx (UU ad) g (g_up g (ad 0) (oK ad rs ch st tm (nI op))) := fx_up fx_rf (iUU rfl)
  obtain ⟨hj, z1, t1, s1, m1, r1, h1, c1, -⟩ := id h0
  obtain ⟨f1, f2, c3, -, -, -, c4, -⟩ := id c1
  obtain ⟨f3, m3, -⟩ := id m1
  conv => whnf
  refine ⟨_, _, z1, rfl, ?_⟩
  conv => whnf
  refine ⟨_, _, z1, rfl, ?_⟩
  conv => whnf
  refine ⟨⟨_, c3⟩, (Nat.le_of_ble_eq_true rfl), _, _, _, c_C_updatedBy hfl c1 (by omega), by first | omega | exact Nat.le_of_ble_eq_true rfl | (simp only [dl1, dl2, dl3, dl4, dl5, dl6]; omega), by first | omega | exact Nat.le_of_ble_eq_true rfl | (simp only [dl1, dl2, dl3, dl4, dl5, dl6]; omega), k_rl ?_, k_rr⟩
  cases hu : updB X.length op with
  | none =>
    have hm : dnM X M op = M := by rw [dnM, hu]
    rw [hm]
    conv => whnf
    refine ⟨fun _ => ?_, fun h => absurd (show slI none = -1 from rfl) h⟩
    conv => whnf
    refine ⟨rfl, ?_, by first | omega | exact Nat.le_of_ble_eq_true rfl | (simp only [dl1, dl2, dl3, dl4, dl5, dl6]; omega), by first | omega | exact Nat.le_of_ble_eq_true rfl | (simp only [dl1, dl2, dl3, dl4, dl5, dl6]; omega)⟩
    exact ⟨rfl, fx_tr hf0 fx_rf, rs, h0⟩
  | some k =>
    have hk := updB_lt hu
    have hx := List.getElem?_eq_getElem hk
    have hm : dnM X M op = replL M X[k].2 X[k].1 := by rw [dnM, hu]; simp only [hx]
    rw [hm] at hl ⊢
    clear h
    have h := h0
    conv => whnf
    refine ⟨fun h => absurd h (nI_m1 (by omega)), fun _ => ?_⟩
    conv => whnf
    refine ⟨_, _, z1, rfl, ?_⟩
    conv => whnf
    refine ⟨_, _, z1, rfl, ?_⟩
    conv => whnf
    refine ⟨⟨_, c3⟩, (Nat.le_of_ble_eq_true rfl), _, _, _, c_C_after hfl c1 hx, by first | omega | exact Nat.le_of_ble_eq_true rfl | (simp only [dl1, dl2, dl3, dl4, dl5, dl6]; omega), by first | omega | exact Nat.le_of_ble_eq_true rfl | (simp only [dl1, dl2, dl3, dl4, dl5, dl6]; omega), fun v g5 hh => ?_, fun C g5 hh => ?_⟩
    · obtain ⟨rfl, v, hv, hE⟩ := hh
      cases hv
      have hv : v = .null ∨ ∃ b, v = .ref b := by
        generalize X[k].2 = o at hE
        cases o with
        | none => exact Or.inl hE
        | some E => exact Or.inr ⟨hE.choose, hE.choose_spec.1⟩
      rcases hv with rfl | ⟨a, rfl⟩
      · conv => whnf
        refine ⟨_, _, z1, rfl, ?_⟩
        conv => whnf
        refine ⟨⟨_, c3⟩, (Nat.le_of_ble_eq_true rfl), _, _, _, c_C_before hfl c1 hx, by first | omega | exact Nat.le_of_ble_eq_true rfl | (simp only [dl1, dl2, dl3, dl4, dl5, dl6]; omega), by first | omega | exact Nat.le_of_ble_eq_true rfl | (simp only [dl1, dl2, dl3, dl4, dl5, dl6]; omega), fun v g3 hh => ?_, fun C g3 hh => ?_⟩
        · obtain ⟨rfl, w, hv, hF⟩ := hh
          cases hv
          have hw : w = .null ∨ ∃ b, w = .ref b := by
            generalize X[k].1 = o at hF
            cases o with
            | none => exact Or.inl hF
            | some E => exact Or.inr ⟨hF.choose, hF.choose_spec.1⟩
          rcases hw with rfl | ⟨b, rfl⟩
          · conv => whnf
            refine ⟨⟨_, m3⟩, (Nat.le_of_ble_eq_true rfl), _, _, _, c_R_replace hfl m1 hE hF (iUU rfl) (iUU rfl) hl, by first | omega | exact Nat.le_of_ble_eq_true rfl | (simp only [dl1, dl2, dl3, dl4, dl5, dl6]; omega), by first | omega | exact Nat.le_of_ble_eq_true rfl | (simp only [dl1, dl2, dl3, dl4, dl5, dl6]; omega), fun v g2 hh => ?_, fun C g2 hh => ?_⟩
            · obtain ⟨hv, hM, hf⟩ := hh
              cases hv
              have h5 := cK_mir h hM hf
              conv => whnf
              refine ⟨rfl, ?_, by first | omega | exact Nat.le_of_ble_eq_true rfl | (simp only [dl1, dl2, dl3, dl4, dl5, dl6]; omega), by first | omega | exact Nat.le_of_ble_eq_true rfl | (simp only [dl1, dl2, dl3, dl4, dl5, dl6]; omega)⟩
              exact ⟨rfl, fx_tr hf0 (fx_sub hf (sUU (I := [6, 7]) rfl)), rs, h5⟩
            · cases hh.1
          · conv => whnf
            refine ⟨⟨_, m3⟩, (Nat.le_of_ble_eq_true rfl), _, _, _, c_R_replace hfl m1 hE hF (iUU rfl) (iUU rfl) hl, by first | omega | exact Nat.le_of_ble_eq_true rfl | (simp only [dl1, dl2, dl3, dl4, dl5, dl6]; omega), by first | omega | exact Nat.le_of_ble_eq_true rfl | (simp only [dl1, dl2, dl3, dl4, dl5, dl6]; omega), fun v g2 hh => ?_, fun C g2 hh => ?_⟩
            · obtain ⟨hv, hM, hf⟩ := hh
              cases hv
              have h5 := cK_mir h hM hf
              conv => whnf
              refine ⟨rfl, ?_, by first | omega | exact Nat.le_of_ble_eq_true rfl | (simp only [dl1, dl2, dl3, dl4, dl5, dl6]; omega), by first | omega | exact Nat.le_of_ble_eq_true rfl | (simp only [dl1, dl2, dl3, dl4, dl5, dl6]; omega)⟩
              exact ⟨rfl, fx_tr hf0 (fx_sub hf (sUU (I := [6, 7]) rfl)), rs, h5⟩
            · cases hh.1
        · obtain ⟨-, v, hv, -⟩ := hh
          cases hv
      · conv => whnf
        refine ⟨_, _, z1, rfl, ?_⟩
        conv => whnf
        refine ⟨⟨_, c3⟩, (Nat.le_of_ble_eq_true rfl), _, _, _, c_C_before hfl c1 hx, by first | omega | exact Nat.le_of_ble_eq_true rfl | (simp only [dl1, dl2, dl3, dl4, dl5, dl6]; omega), by first | omega | exact Nat.le_of_ble_eq_true rfl | (simp only [dl1, dl2, dl3, dl4, dl5, dl6]; omega), fun v g3 hh => ?_, fun C g3 hh => ?_⟩
        · obtain ⟨rfl, w, hv, hF⟩ := hh
          cases hv
          have hw : w = .null ∨ ∃ b, w = .ref b := by
            generalize X[k].1 = o at hF
            cases o with
            | none => exact Or.inl hF
            | some E => exact Or.inr ⟨hF.choose, hF.choose_spec.1⟩
          rcases hw with rfl | ⟨b, rfl⟩
          · conv => whnf
            refine ⟨⟨_, m3⟩, (Nat.le_of_ble_eq_true rfl), _, _, _, c_R_replace hfl m1 hE hF (iUU rfl) (iUU rfl) hl, by first | omega | exact Nat.le_of_ble_eq_true rfl | (simp only [dl1, dl2, dl3, dl4, dl5, dl6]; omega), by first | omega | exact Nat.le_of_ble_eq_true rfl | (simp only [dl1, dl2, dl3, dl4, dl5, dl6]; omega), fun v g2 hh => ?_, fun C g2 hh => ?_⟩
            · obtain ⟨hv, hM, hf⟩ := hh
              cases hv
              have h5 := cK_mir h hM hf
              conv => whnf
              refine ⟨rfl, ?_, by first | omega | exact Nat.le_of_ble_eq_true rfl | (simp only [dl1, dl2, dl3, dl4, dl5, dl6]; omega), by first | omega | exact Nat.le_of_ble_eq_true rfl | (simp only [dl1, dl2, dl3, dl4, dl5, dl6]; omega)⟩
              exact ⟨rfl, fx_tr hf0 (fx_sub hf (sUU (I := [6, 7]) rfl)), rs, h5⟩
            · cases hh.1
          · conv => whnf
            refine ⟨⟨_, m3⟩, (Nat.le_of_ble_eq_true rfl), _, _, _, c_R_replace hfl m1 hE hF (iUU rfl) (iUU rfl) hl, by first | omega | exact Nat.le_of_ble_eq_true rfl | (simp only [dl1, dl2, dl3, dl4, dl5, dl6]; omega), by first | omega | exact Nat.le_of_ble_eq_true rfl | (simp only [dl1, dl2, dl3, dl4, dl5, dl6]; omega), fun v g2 hh => ?_, fun C g2 hh => ?_⟩
            · obtain ⟨hv, hM, hf⟩ := hh
              cases hv
              have h5 := cK_mir h hM hf
              conv => whnf
              refine ⟨rfl, ?_, by first | omega | exact Nat.le_of_ble_eq_true rfl | (simp only [dl1, dl2, dl3, dl4, dl5, dl6]; omega), by first | omega | exact Nat.le_of_ble_eq_true rfl | (simp only [dl1, dl2, dl3, dl4, dl5, dl6]; omega)⟩
              exact ⟨rfl, fx_tr hf0 (fx_sub hf (sUU (I := [6, 7]) rfl)), rs, h5⟩
            · cases hh.1
        · obtain ⟨-, v, hv, -⟩ := hh
          cases hv
    · obtain ⟨-, v, hv, -⟩ := hh
      cases hv
end KT
