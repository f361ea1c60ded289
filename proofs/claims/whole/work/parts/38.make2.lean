/-! MirrorKeep: make, set, cut, remove -/
section KM2
variable {ad : Nat → Nat} {g : g_H} {R T : List Nat} {S M Rs : List Ent} {Hs : List Ses} {X : List Chg} {ch st tm dn : Int32} {rs : Nat}
variable {l : Launch} {D : va_G} {aC : Nat → ClassId}
theorem c_K_make_uw (hfl : l.flags = pinnedFlags ++ [noTraceFlag]) (h : cK ad g R T S M Rs Hs X ch st tm dn rs) (hs : st = nI 1) {k m t : Int32} : k_CT l D aC n_K_make 16 4000 [.ref (ad 0), .int k, .int m, .int t] g (kO ad g (.inr IS) R T S M Rs Hs X ch st tm dn) := by
  refine k_ln hfl n_K_make ok_K_make rfl rfl rfl rfl rfl rfl (fun h => by cases h) (Nat.le_of_ble_eq_true rfl) 60 ?_
  conv => whnf
  refine ⟨⟨_, h.2.1⟩, (Nat.le_of_ble_eq_true rfl), _, _, _, c_K_rw_no hfl h hs, by first | omega | exact Nat.le_of_ble_eq_true rfl | (simp only [dl1, dl2, dl3, dl4, dl5, dl6]; omega), by first | omega | exact Nat.le_of_ble_eq_true rfl | (simp only [dl1, dl2, dl3, dl4, dl5, dl6]; omega), fun v g1 hh => ?_, fun C g1 hh => ?_⟩
  · cases hh.1
  · obtain ⟨hv, rfl⟩ := hh
    cases hv
    exact ⟨kO_same h, by first | omega | exact Nat.le_of_ble_eq_true rfl | (simp only [dl1, dl2, dl3, dl4, dl5, dl6]; omega), by first | omega | exact Nat.le_of_ble_eq_true rfl | (simp only [dl1, dl2, dl3, dl4, dl5, dl6]; omega)⟩
theorem c_K_make (hfl : l.flags = pinnedFlags ++ [noTraceFlag]) (h : cK ad g R T S M Rs Hs X ch st tm dn rs) (hs : st ≠ nI 1) {k m t : Int32} : k_CT l D aC n_K_make 16 4000 [.ref (ad 0), .int k, .int m, .int t] g (mkP ad g R T S M Rs Hs X ch st tm dn k m t (mkR S T k m t)) := by
  obtain ⟨hj, z1, t1, s1, -⟩ := id h
  obtain ⟨r1, r2, t2, -, -, -, -, -, t3, -⟩ := id t1
  have hU := cK_al h
  refine k_ln hfl n_K_make ok_K_make rfl rfl rfl rfl rfl rfl (fun h => by cases h) (Nat.le_of_ble_eq_true rfl) 100 ?_
  conv => whnf
  refine ⟨⟨_, z1⟩, (Nat.le_of_ble_eq_true rfl), _, _, _, c_K_rw hfl h hs, by first | omega | exact Nat.le_of_ble_eq_true rfl | (simp only [dl1, dl2, dl3, dl4, dl5, dl6]; omega), by first | omega | exact Nat.le_of_ble_eq_true rfl | (simp only [dl1, dl2, dl3, dl4, dl5, dl6]; omega), k_rl ?_, k_rr⟩
  conv => whnf
  refine ⟨_, _, z1, rfl, ?_⟩
  conv => whnf
  refine ⟨⟨_, t2⟩, (Nat.le_of_ble_eq_true rfl), _, _, _, c_T_takeAll hfl t1, by first | omega | exact Nat.le_of_ble_eq_true rfl | (simp only [dl1, dl2, dl3, dl4, dl5, dl6]; omega), by first | omega | exact Nat.le_of_ble_eq_true rfl | (simp only [dl1, dl2, dl3, dl4, dl5, dl6]; omega), fun v g1 hh => ?_, fun C g1 hh => ?_⟩
  · obtain ⟨q, hv, hq, hby, hT, hfr⟩ := hh
    cases hv
    obtain ⟨u1, u2, u3, -⟩ := id hT
    have hf : fx (List.map ad [1, 2, 3]) g g1 := fx_of_fr hfr (fun r hr => by
      simp only [List.mem_cons, List.not_mem_nil, or_false] at hr
      rcases hr with rfl | rfl
      · exact Or.inr ⟨by simp, nn_of u3⟩
      · exact Or.inl hq)
    have h1 := cK_tp h hT hf
    have hqU : q ∉ UU ad := al_n hU hq
    conv => whnf
    refine ⟨(Nat.le_of_ble_eq_true rfl), _, _, _, c_K_isKind hfl, by first | omega | exact Nat.le_of_ble_eq_true rfl | (simp only [dl1, dl2, dl3, dl4, dl5, dl6]; omega), by first | omega | exact Nat.le_of_ble_eq_true rfl | (simp only [dl1, dl2, dl3, dl4, dl5, dl6]; omega), k_rl ?_, k_rr⟩
    cases hkd : kdOk k with
    | false =>
      conv => whnf
      refine ⟨fun _ => ?_, fun h => absurd b2_f h⟩
      conv => whnf
      refine ⟨(Nat.le_of_ble_eq_true rfl), ?_, by first | omega | exact Nat.le_of_ble_eq_true rfl | (simp only [dl1, dl2, dl3, dl4, dl5, dl6]; omega), by first | omega | exact Nat.le_of_ble_eq_true rfl | (simp only [dl1, dl2, dl3, dl4, dl5, dl6]; omega)⟩
      rw [show mkR S T k m t = 1 by rw [mkR, if_pos (by rw [okM, hkd]; simp)]]
      exact ⟨rfl, fx_sub hf (sUU rfl), rs, h1⟩
    | true =>
    conv => whnf
    refine ⟨fun h => absurd h b2_t, fun _ => ?_⟩
    conv => whnf
    refine ⟨(Nat.le_of_ble_eq_true rfl), _, _, _, c_K_isMode hfl, by first | omega | exact Nat.le_of_ble_eq_true rfl | (simp only [dl1, dl2, dl3, dl4, dl5, dl6]; omega), by first | omega | exact Nat.le_of_ble_eq_true rfl | (simp only [dl1, dl2, dl3, dl4, dl5, dl6]; omega), k_rl ?_, k_rr⟩
    cases hmd : mdOk m with
    | false =>
      conv => whnf
      refine ⟨fun _ => ?_, fun h => absurd b2_f h⟩
      conv => whnf
      refine ⟨(Nat.le_of_ble_eq_true rfl), ?_, by first | omega | exact Nat.le_of_ble_eq_true rfl | (simp only [dl1, dl2, dl3, dl4, dl5, dl6]; omega), by first | omega | exact Nat.le_of_ble_eq_true rfl | (simp only [dl1, dl2, dl3, dl4, dl5, dl6]; omega)⟩
      rw [show mkR S T k m t = 1 by rw [mkR, if_pos (by rw [okM, hmd]; simp)]]
      exact ⟨rfl, fx_sub hf (sUU rfl), rs, h1⟩
    | true =>
    conv => whnf
    refine ⟨fun h => absurd h b2_t, fun _ => ?_⟩
    conv => whnf
    refine ⟨(Nat.le_of_ble_eq_true rfl), _, _, _, c_K_isTime hfl, by first | omega | exact Nat.le_of_ble_eq_true rfl | (simp only [dl1, dl2, dl3, dl4, dl5, dl6]; omega), by first | omega | exact Nat.le_of_ble_eq_true rfl | (simp only [dl1, dl2, dl3, dl4, dl5, dl6]; omega), k_rl ?_, k_rr⟩
    cases htm : tmOk t with
    | false =>
      conv => whnf
      refine ⟨fun _ => ?_, fun h => absurd b2_f h⟩
      conv => whnf
      refine ⟨(Nat.le_of_ble_eq_true rfl), ?_, by first | omega | exact Nat.le_of_ble_eq_true rfl | (simp only [dl1, dl2, dl3, dl4, dl5, dl6]; omega), by first | omega | exact Nat.le_of_ble_eq_true rfl | (simp only [dl1, dl2, dl3, dl4, dl5, dl6]; omega)⟩
      rw [show mkR S T k m t = 1 by rw [mkR, if_pos (by rw [okM, htm]; simp)]]
      exact ⟨rfl, fx_sub hf (sUU rfl), rs, h1⟩
    | true =>
    conv => whnf
    refine ⟨fun h => absurd h b2_t, fun _ => ?_⟩
    conv => whnf
    refine ⟨(Nat.le_of_ble_eq_true rfl), _, _, _, c_P_isPath hfl hby, by first | omega | exact Nat.le_of_ble_eq_true rfl | (simp only [dl1, dl2, dl3, dl4, dl5, dl6]; omega), by first | omega | exact Nat.le_of_ble_eq_true rfl | (simp only [dl1, dl2, dl3, dl4, dl5, dl6]; omega), k_rl ?_, k_rr⟩
    cases hpt : ptOk T with
    | false =>
      conv => whnf
      refine ⟨fun h => absurd h (fun z => z b2_f), fun _ => ?_⟩
      conv => whnf
      refine ⟨(Nat.le_of_ble_eq_true rfl), ?_, by first | omega | exact Nat.le_of_ble_eq_true rfl | (simp only [dl1, dl2, dl3, dl4, dl5, dl6]; omega), by first | omega | exact Nat.le_of_ble_eq_true rfl | (simp only [dl1, dl2, dl3, dl4, dl5, dl6]; omega)⟩
      rw [show mkR S T k m t = 1 by rw [mkR, if_pos (by rw [okM, hpt]; simp)]]
      exact ⟨rfl, fx_sub hf (sUU rfl), rs, h1⟩
    | true =>
    conv => whnf
    refine ⟨fun _ => ?_, fun h => absurd b2_t h⟩
    have hok : okM k m t T = true := by rw [okM, hkd, hmd, htm, hpt]; rfl
    obtain ⟨-, z2, -, s4, -⟩ := id h1
    obtain ⟨f5, s5, -⟩ := id s4
    conv => whnf
    refine ⟨_, _, z2, rfl, ?_⟩
    conv => whnf
    refine ⟨⟨_, s5⟩, (Nat.le_of_ble_eq_true rfl), _, _, _, c_R_indexOf hfl s4 hby, by first | omega | exact Nat.le_of_ble_eq_true rfl | (simp only [dl1, dl2, dl3, dl4, dl5, dl6]; omega), by first | omega | exact Nat.le_of_ble_eq_true rfl | (simp only [dl1, dl2, dl3, dl4, dl5, dl6]; omega), k_rl ?_, k_rr⟩
    conv => whnf
    refine ⟨fun h5 => ?_, fun h5 => ?_⟩
    · have h6 : ¬ idx S T = -1 := h5
      conv => whnf
      refine ⟨(Nat.le_of_ble_eq_true rfl), ?_, by first | omega | exact Nat.le_of_ble_eq_true rfl | (simp only [dl1, dl2, dl3, dl4, dl5, dl6]; omega), by first | omega | exact Nat.le_of_ble_eq_true rfl | (simp only [dl1, dl2, dl3, dl4, dl5, dl6]; omega)⟩
      rw [show mkR S T k m t = 2 by rw [mkR, if_neg (by rw [hok]; simp), if_pos (Or.inl h6)]]
      exact ⟨rfl, fx_sub hf (sUU rfl), rs, h1⟩
    · have h6 : idx S T = -1 := Classical.not_not.mp h5
      have hfg : fx (UU ad) g g1 := fx_sub hf (sUU rfl)
      conv => whnf
      refine ⟨⟨_, z2⟩, (Nat.le_of_ble_eq_true rfl), _, _, _, c_K_hasDir hfl h1 hby t3, by first | omega | exact Nat.le_of_ble_eq_true rfl | (simp only [dl1, dl2, dl3, dl4, dl5, dl6]; omega), by first | omega | exact Nat.le_of_ble_eq_true rfl | (simp only [dl1, dl2, dl3, dl4, dl5, dl6]; omega), fun v g2 hh => ?_, fun C g2 hh => ?_⟩
      · obtain ⟨hv, hf2⟩ := hh
        cases hv
        have h2 := cK_fx h1 hf2
        have hby2 := fx_by hf2 hby (by simp)
        have hfg2 : fx (UU ad) g g2 := fx_tr hfg (fx_nil hf2)
        cases hhd : hasDir S T with
        | false =>
          conv => whnf
          refine ⟨fun _ => ?_, fun h => absurd b2_f h⟩
          conv => whnf
          refine ⟨(Nat.le_of_ble_eq_true rfl), ?_, by first | omega | exact Nat.le_of_ble_eq_true rfl | (simp only [dl1, dl2, dl3, dl4, dl5, dl6]; omega), by first | omega | exact Nat.le_of_ble_eq_true rfl | (simp only [dl1, dl2, dl3, dl4, dl5, dl6]; omega)⟩
          rw [show mkR S T k m t = 2 by rw [mkR, if_neg (by rw [hok]; simp), if_pos (Or.inr (Or.inl hhd))]]
          exact ⟨rfl, hfg2, rs, h2⟩
        | true =>
        conv => whnf
        refine ⟨fun h => absurd h b2_t, fun _ => ?_⟩
        obtain ⟨-, z3, -, s6, -⟩ := id h2
        obtain ⟨f7, s7, -, s8, -⟩ := id s6
        conv => whnf
        refine ⟨_, _, z3, rfl, ?_⟩
        conv => whnf
        refine ⟨⟨_, s7⟩, (Nat.le_of_ble_eq_true rfl), _, _, _, c_R_size' hfl s6, by first | omega | exact Nat.le_of_ble_eq_true rfl | (simp only [dl1, dl2, dl3, dl4, dl5, dl6]; omega), by first | omega | exact Nat.le_of_ble_eq_true rfl | (simp only [dl1, dl2, dl3, dl4, dl5, dl6]; omega), k_rl ?_, k_rr⟩
        conv => whnf
        refine ⟨fun h7 => ?_, fun h7 => ?_⟩
        · have h8 : S.length < 60 := (q_lt (by omega) (by decide)).mp h7
          have hr : mkR S T k m t = 0 := by
            rw [mkR, if_neg (by rw [hok]; simp), if_neg]
            rintro (z | z | z)
            · exact z h6
            · rw [hhd] at z; cases z
            · omega
          conv => whnf
          refine ⟨_, _, z3, rfl, ?_⟩
          conv => whnf
          refine ⟨by first | omega | exact Nat.le_of_ble_eq_true rfl | (simp only [dl1, dl2, dl3, dl4, dl5, dl6]; omega), by first | omega | exact Nat.le_of_ble_eq_true rfl | (simp only [dl1, dl2, dl3, dl4, dl5, dl6]; omega), fun e he => ?_⟩
          conv => whnf
          refine ⟨0, rfl, by decide, by first | omega | exact Nat.le_of_ble_eq_true rfl | (simp only [dl1, dl2, dl3, dl4, dl5, dl6]; omega), by first | omega | exact Nat.le_of_ble_eq_true rfl | (simp only [dl1, dl2, dl3, dl4, dl5, dl6]; omega), fun c hc => ?_⟩
          have nce : c ≠ e := fun z => by rw [z, g_up_s] at hc; cases hc
          rw [g_up_n nce] at hc
          have hU2 := al_fx hU hfg2
          conv => whnf
          refine ⟨(Nat.le_of_ble_eq_true rfl), _, _, _, c_E_init hfl (by rw [g_up_n nce.symm]; exact g_up_s), by first | omega | exact Nat.le_of_ble_eq_true rfl | (simp only [dl1, dl2, dl3, dl4, dl5, dl6]; omega), by first | omega | exact Nat.le_of_ble_eq_true rfl | (simp only [dl1, dl2, dl3, dl4, dl5, dl6]; omega), k_rl ?_, k_rr⟩
          have hf3 : fx (List.map ad []) g2 (g_up (g_up (g_up g2 e (.inr (3, k_dfl 3))) c (.inl (0, 0, .inl (fun _ => 0)))) e (.inr (3, [.ref q, .int k, .int m, .int t, .ref c]))) := fx_new (fx_new (fx_new fx_rf he) hc) he
          have h3 := cK_fx h2 hf3
          obtain ⟨-, -, -, s9, -⟩ := id h3
          obtain ⟨f9, s10, -⟩ := id s9
          have hE : en (UU ad) (g_up (g_up (g_up g2 e (.inr (3, k_dfl 3))) c (.inl (0, 0, .inl (fun _ => 0)))) e (.inr (3, [.ref q, .int k, .int m, .int t, .ref c]))) e (T, k, m, t, []) := ⟨q, c, g_up_s, fx_by hf3 hby2 (by simp), ⟨fun _ => 0, by rw [g_up_n nce]; exact g_up_s, fun i hi => absurd hi (Nat.not_lt_zero i), fun b hb => (by cases hb), (by show (0 : Nat) < 2 ^ 20; decide)⟩, al_n hU2 he, hqU, al_n hU2 hc⟩
          have hpl := putL_len S (T, k, m, t, [])
          conv => whnf
          refine ⟨⟨_, s10⟩, (Nat.le_of_ble_eq_true rfl), _, _, _, c_R_put hfl s9 hE (iUU rfl) (iUU rfl) (by omega), by first | omega | exact Nat.le_of_ble_eq_true rfl | (simp only [dl1, dl2, dl3, dl4, dl5, dl6]; omega), by first | omega | exact Nat.le_of_ble_eq_true rfl | (simp only [dl1, dl2, dl3, dl4, dl5, dl6]; omega), fun v g1 hh => ?_, fun C g1 hh => ?_⟩
          · obtain ⟨hv, hT4, hf4⟩ := hh
            cases hv
            have h4 := cK_src h3 hT4 hf4
            have hby4 := fx_by hf4 (fx_by hf3 hby2 (by simp)) (fun z => hqU (sUU (I := [4, 5]) rfl _ z))
            obtain ⟨-, z5, -, s11, -⟩ := id h4
            obtain ⟨f10, s12, -⟩ := id s11
            conv => whnf
            refine ⟨_, _, z5, rfl, ?_⟩
            conv => whnf
            refine ⟨⟨_, s12⟩, (Nat.le_of_ble_eq_true rfl), _, _, _, c_R_indexOf hfl s11 hby4, by first | omega | exact Nat.le_of_ble_eq_true rfl | (simp only [dl1, dl2, dl3, dl4, dl5, dl6]; omega), by first | omega | exact Nat.le_of_ble_eq_true rfl | (simp only [dl1, dl2, dl3, dl4, dl5, dl6]; omega), k_rl ?_, k_rr⟩
            conv => whnf
            refine ⟨_, z5, by simp, rfl, rfl, ?_⟩
            have h6 := cK_z (ch1 := idx (putL S (T, k, m, t, [])) T) (st1 := st) (tm1 := tm) (dn1 := dn) h4
            obtain ⟨-, z6, -, s13, -⟩ := id h6
            obtain ⟨f13, s14, -⟩ := id s13
            conv => whnf
            refine ⟨_, _, z6, rfl, ?_⟩
            conv => whnf
            refine ⟨⟨_, s14⟩, (Nat.le_of_ble_eq_true rfl), _, _, _, c_R_size' hfl s13, by first | omega | exact Nat.le_of_ble_eq_true rfl | (simp only [dl1, dl2, dl3, dl4, dl5, dl6]; omega), by first | omega | exact Nat.le_of_ble_eq_true rfl | (simp only [dl1, dl2, dl3, dl4, dl5, dl6]; omega), k_rl ?_, k_rr⟩
            conv => whnf
            refine ⟨⟨_, rfl, rfl⟩, ?_, by first | omega | exact Nat.le_of_ble_eq_true rfl | (simp only [dl1, dl2, dl3, dl4, dl5, dl6]; omega), by first | omega | exact Nat.le_of_ble_eq_true rfl | (simp only [dl1, dl2, dl3, dl4, dl5, dl6]; omega)⟩
            rw [hr]
            exact ⟨rfl, fx_up (fx_tr (fx_tr hfg2 (fx_sub hf3 (by simp))) (fx_sub hf4 (sUU (I := [4, 5]) rfl))) (iUU rfl), rs, h6⟩
          · cases hh.1
        · have h8 : ¬ S.length < 60 := fun z => h7 ((q_lt (by omega) (by decide)).mpr z)
          conv => whnf
          refine ⟨(Nat.le_of_ble_eq_true rfl), ?_, by first | omega | exact Nat.le_of_ble_eq_true rfl | (simp only [dl1, dl2, dl3, dl4, dl5, dl6]; omega), by first | omega | exact Nat.le_of_ble_eq_true rfl | (simp only [dl1, dl2, dl3, dl4, dl5, dl6]; omega)⟩
          rw [show mkR S T k m t = 2 by rw [mkR, if_neg (by rw [hok]; simp), if_pos (Or.inr (Or.inr (by omega)))]]
          exact ⟨rfl, hfg2, rs, h2⟩
      · cases hh.1
  · obtain ⟨q, hv, -⟩ := hh
    cases hv
end KM2
