/-! MirrorKeep$Tree: dropAllFrom, copy; an entry or none */ -/
section TREE3
variable {l : Launch} {D : va_G} {aC : Nat → ClassId}
theorem c_R_entryAt' (hfl : l.flags = pinnedFlags ++ [noTraceFlag]) {U : List Nat} {t a : Nat} {L : List Ent} {x : Int32} {g : g_H} (h : tr U g t a L) : k_CT l D aC n_R_entryAt 0 0 [.ref t, .int x] g (fun oc g1 => g1 = g ∧ ∃ v, oc = .inl (some v) ∧ oE U g v (atI L x)) := by
  obtain ⟨f, a1, a2, a3, a4⟩ := h
  refine k_ln hfl n_R_entryAt ok_R_entryAt rfl rfl rfl rfl rfl rfl (fun h => by cases h) (Nat.le_of_ble_eq_true rfl) 60 ?_
  conv => whnf
  refine ⟨fun h => ?_, fun h => ?_⟩
  · have h : x.toInt < 0 := h
    conv => whnf
    refine ⟨⟨_, rfl, Or.inl ⟨_, rfl⟩⟩, ?_, by first | omega | exact Nat.le_of_ble_eq_true rfl | (simp only [dl1, dl2, dl3, dl4, dl5, dl6]; omega), by first | omega | exact Nat.le_of_ble_eq_true rfl | (simp only [dl1, dl2, dl3, dl4, dl5, dl6]; omega)⟩
    exact ⟨rfl, _, rfl, by rw [atI, if_pos h]; rfl⟩
  · have h : ¬ x.toInt < 0 := h
    obtain ⟨hx, hlt⟩ := nI_ofT h
    have hat : atI L x = L[x.toInt.toNat]? := by rw [atI, if_neg h]
    rw [hat]
    generalize x.toInt.toNat = i at hx hlt
    subst hx
    conv => whnf
    refine ⟨_, _, a1, rfl, ?_⟩
    conv => whnf
    refine ⟨fun h1 => ?_, fun h1 => ?_⟩
    · have h2 := (q_lt (by omega) (by omega)).mp h1
      obtain ⟨b, hb, hE⟩ := a4 i _ (List.getElem?_eq_getElem h2)
      conv => whnf
      refine ⟨_, _, a1, rfl, ?_⟩
      conv => whnf
      refine ⟨_, _, _, i, _, a2, rfl, rfl, by omega, by omega, fun hN => ?_, fun b hB => ?_⟩
      · rw [hb] at hN; cases hN
      · rw [hb] at hB
        cases hB
        conv => whnf
        refine ⟨⟨_, rfl, Or.inl ⟨_, rfl⟩⟩, ?_, by first | omega | exact Nat.le_of_ble_eq_true rfl | (simp only [dl1, dl2, dl3, dl4, dl5, dl6]; omega), by first | omega | exact Nat.le_of_ble_eq_true rfl | (simp only [dl1, dl2, dl3, dl4, dl5, dl6]; omega)⟩
        exact ⟨rfl, _, rfl, by rw [List.getElem?_eq_getElem h2]; exact ⟨b, rfl, hE⟩⟩
    · have h2 : ¬ i < L.length := fun z => h1 ((q_lt (by omega) (by omega)).mpr z)
      conv => whnf
      refine ⟨⟨_, rfl, Or.inl ⟨_, rfl⟩⟩, ?_, by first | omega | exact Nat.le_of_ble_eq_true rfl | (simp only [dl1, dl2, dl3, dl4, dl5, dl6]; omega), by first | omega | exact Nat.le_of_ble_eq_true rfl | (simp only [dl1, dl2, dl3, dl4, dl5, dl6]; omega)⟩
      exact ⟨rfl, _, rfl, by rw [List.getElem?_eq_none (by omega)]; rfl⟩
theorem keepL_s {L : List Ent} {P : List Nat} {i : Nat} {E : Ent} (h : L[i]? = some E) : keepL (L.take (i + 1)) P = keepL (L.take i) P ++ if isBel E.1 P then [] else [E] := by
  unfold keepL
  rw [List.take_add_one, h, List.filter_append]
  congr 1
  cases hb : isBel E.1 P <;> simp [hb]
theorem keepL_le (L : List Ent) (P : List Nat) : (keepL L P).length ≤ L.length := List.length_filter_le _ _
theorem c_R_dropAllFrom (hfl : l.flags = pinnedFlags ++ [noTraceFlag]) {U : List Nat} {t a p : Nat} {L : List Ent} {P : List Nat} {g : g_H} (h : tr U g t a L) (hp : isBy g p P) (hpU : p ∉ U) (ht : t ∈ U) (ha : a ∈ U) : k_CT l D aC n_R_dropAllFrom 0 0 [.ref t, .ref p] g (fun oc g1 => oc = .inl (some (.int (nI (L.length - (keepL L P).length)))) ∧ tr U g1 t a (keepL L P) ∧ fx [t, a] g g1) := by
  have h0 := h
  obtain ⟨f, a1, a2, a3, a4⟩ := h
  have n1 : t ≠ a := g_ne a1 a2 (by simp)
  have n2 : p ≠ a := fun z => hpU (by rw [z]; exact ha)
  refine k_while hfl n_R_dropAllFrom ok_R_dropAllFrom rfl rfl rfl rfl rfl rfl (fun h => by cases h) (Nat.le_of_ble_eq_true rfl) [4] (fun pc d lv g1 k n => ∃ i f1, pc = 4 ∧ d = L.length - i ∧ lv = [(0, .ref t), (1, .ref p), (2, .int (nI (keepL (L.take i) P).length)), (3, .int (nI i))] ∧ g1 = g_up g a (.inl (3, 120, .inr (.inr (.inr (.inr f1))))) ∧ k = 0 ∧ n = 0 ∧ i ≤ L.length ∧ (∀ j E, (keepL (L.take i) P)[j]? = some E → ∃ b, f1 j = some b ∧ en U g b E) ∧ ∀ j, i ≤ j → f1 j = f j) 60 ?_ 80 ?_
  · conv => whnf
    exact ⟨rfl, _, _, ⟨0, f, rfl, rfl, rfl, (g_up_id a2).symm, rfl, rfl, by omega, fun j E hj => by simp [keepL] at hj, fun j _ => rfl⟩, rfl, rfl, rfl, rfl, trivial⟩
  · rintro d pc lv g1 k n ⟨i, f1, rfl, rfl, rfl, rfl, rfl, rfl, hi, hk, hf⟩
    have hle := keepL_le (L.take i) P
    rw [List.length_take, Nat.min_eq_left hi] at hle
    have a1' : g_up g a (.inl (3, 120, .inr (.inr (.inr (.inr f1))))) t = some (.inr (2, [.ref a, .int (nI L.length)])) := by rw [g_up_n n1]; exact a1
    conv => whnf
    refine ⟨_, _, a1', rfl, ?_⟩
    conv => whnf
    refine ⟨fun h => ?_, fun h => ?_⟩
    · have h9 := (q_ge (by omega) (by omega)).mp h
      rw [List.take_of_length_le h9] at hk hle ⊢
      conv => whnf
      refine ⟨_, _, a1', rfl, ?_⟩
      conv => whnf
      refine ⟨_, a1', by simp, rfl, rfl, ?_⟩
      conv => whnf
      refine ⟨⟨_, rfl, rfl⟩, ?_, by first | omega | exact Nat.le_of_ble_eq_true rfl | (simp only [dl1, dl2, dl3, dl4, dl5, dl6]; omega), by first | omega | exact Nat.le_of_ble_eq_true rfl | (simp only [dl1, dl2, dl3, dl4, dl5, dl6]; omega)⟩
      refine ⟨by rw [← pk_sub (by omega)], ⟨f1, g_up_s, by rw [g_up_n n1.symm]; exact g_up_s, by omega, fun j E hj => ?_⟩, fx_up (fx_up fx_rf (by simp)) (by simp)⟩
      obtain ⟨b, hb, hE⟩ := hk j E hj
      exact ⟨b, hb, up2 (t := t) (up2 (t := t) hE ha) ht⟩
    · have h9 : i < L.length := Nat.lt_of_not_le fun z => h ((q_ge (by omega) (by omega)).mpr z)
      have hE1 := List.getElem?_eq_getElem h9
      obtain ⟨b, hb, hE⟩ := a4 i _ hE1
      have hE' := up2 (t := t) (e := .inl (3, 120, .inr (.inr (.inr (.inr f1))))) hE ha
      obtain ⟨p1, c1, e1, e2, -⟩ := hE'
      have hp' : isBy (g_up g a (.inl (3, 120, .inr (.inr (.inr (.inr f1)))))) p P := isBy_fr hp (g_up_n n2)
      have hfb : f1 i = some b := (hf i (Nat.le_refl _)).trans hb
      conv => whnf
      refine ⟨_, _, a1', rfl, ?_⟩
      conv => whnf
      refine ⟨_, _, _, i, _, g_up_s, rfl, rfl, by omega, by omega, fun hN => ?_, fun b hB => ?_⟩
      · rw [hfb] at hN; cases hN
      · rw [hfb] at hB
        cases hB
        conv => whnf
        refine ⟨_, _, e1, rfl, ?_⟩
        conv => whnf
        refine ⟨(Nat.le_of_ble_eq_true rfl), _, _, _, c_P_below hfl e2 hp', by first | omega | exact Nat.le_of_ble_eq_true rfl | (simp only [dl1, dl2, dl3, dl4, dl5, dl6]; omega), by first | omega | exact Nat.le_of_ble_eq_true rfl | (simp only [dl1, dl2, dl3, dl4, dl5, dl6]; omega), k_rl ?_, k_rr⟩
        cases hbel : isBel L[i].1 P
        · conv => whnf
          refine ⟨fun h => absurd h (fun z => z b2_f), fun _ => ?_⟩
          conv => whnf
          refine ⟨_, _, a1', rfl, ?_⟩
          conv => whnf
          refine ⟨_, _, a1', rfl, ?_⟩
          conv => whnf
          refine ⟨_, _, _, i, _, g_up_s, rfl, rfl, by omega, by omega, fun hN => ?_, fun b hB => ?_⟩
          · rw [hfb] at hN; cases hN
          · rw [hfb] at hB
            cases hB
            conv => whnf
            refine ⟨3, 120, _, _, 3, _, g_up_s, e1, rfl, rfl, rfl, by omega, by decide, ?_⟩
            rw [g_up_up]
            have hks := keepL_s (P := P) hE1
            rw [hbel] at hks
            have hlen : (keepL (L.take (i + 1)) P).length = (keepL (L.take i) P).length + 1 := by rw [hks]; simp
            conv => whnf
            refine ⟨rfl, _, _, ?_, ⟨i + 1, _, rfl, rfl, rfl, rfl, rfl, rfl, by omega, fun j E hj => ?_, fun j hj => ?_⟩, rfl, rfl, by rw [hlen]; exact sI _, sI i, trivial⟩
            · omega
            · rw [hks] at hj
              by_cases hj2 : j < (keepL (L.take i) P).length
              · rw [List.getElem?_append_left hj2] at hj
                obtain ⟨b1, hb1, hE2⟩ := hk j E hj
                exact ⟨b1, by rw [va_up_ne _ _ (by omega)]; exact hb1, hE2⟩
              · rw [List.getElem?_append_right (by omega)] at hj
                have hj3 := (List.getElem?_eq_some_iff.mp hj).1
                have hj4 : j = (keepL (L.take i) P).length := by simp at hj3; omega
                subst hj4
                rw [Nat.sub_self] at hj
                cases hj
                exact ⟨b, va_up_self _ _ _, hE⟩
            · rw [va_up_ne _ _ (by omega)]
              exact hf j (by omega)
        · conv => whnf
          refine ⟨fun _ => ?_, fun h => absurd b2_t h⟩
          have hks := keepL_s (P := P) hE1
          rw [hbel] at hks
          simp only [if_true, List.append_nil] at hks
          conv => whnf
          refine ⟨rfl, _, _, ?_, ⟨i + 1, f1, rfl, rfl, rfl, rfl, rfl, rfl, by omega, fun j E hj => ?_, fun j hj => hf j (by omega)⟩, rfl, rfl, by rw [hks]; rfl, sI i, trivial⟩
          · omega
          · rw [hks] at hj
            exact hk j E hj
theorem c_R_copy (hfl : l.flags = pinnedFlags ++ [noTraceFlag]) {U : List Nat} {t a : Nat} {L : List Ent} {g : g_H} (h : tr U g t a L) (hU : al U g) : k_CT l D aC n_R_copy 2 122 [.ref t] g (fun oc g1 => ∃ q qa, oc = .inl (some (.ref q)) ∧ g q = none ∧ g qa = none ∧ tr U g1 q qa L ∧ fx [] g g1) := by
  have h0 := h
  obtain ⟨f, a1, a2, a3, a4⟩ := h
  refine k_ln hfl n_R_copy ok_R_copy rfl rfl rfl rfl rfl rfl (fun h => by cases h) (Nat.le_of_ble_eq_true rfl) 60 ?_
  conv => whnf
  refine ⟨(Nat.le_of_ble_eq_true rfl), (Nat.le_of_ble_eq_true rfl), fun q hq => ?_⟩
  have n1 := g_nn a1 hq
  have n2 := g_nn a2 hq
  conv => whnf
  refine ⟨(Nat.le_of_ble_eq_true rfl), _, _, _, c_R_init (U := U) hfl g_up_s, by first | omega | exact Nat.le_of_ble_eq_true rfl | (simp only [dl1, dl2, dl3, dl4, dl5, dl6]; omega), by first | omega | exact Nat.le_of_ble_eq_true rfl | (simp only [dl1, dl2, dl3, dl4, dl5, dl6]; omega), fun v g1 hh => ?_, fun C g1 hh => ?_⟩
  · obtain ⟨qa, hv, hqa, hT, hfx⟩ := hh
    cases hv
    have n3 : qa ≠ q := fun z => by rw [z, g_up_s] at hqa; cases hqa
    rw [g_up_n n3] at hqa
    have n4 := g_nn a1 hqa
    have n5 := g_nn a2 hqa
    have hfx2 : fx [q] g g1 := fx_tr (fx_new fx_rf hq) hfx
    have a1' := fx_at hfx2 a1 (by simpa using n1)
    have a2' := fx_at hfx2 a2 (by simpa using n2)
    obtain ⟨f2, b1, b2', b3, b4⟩ := hT
    have hq' : q ∉ U := al_n hU hq
    conv => whnf
    refine ⟨_, _, a1', rfl, ?_⟩
    conv => whnf
    refine ⟨_, _, b1, rfl, ?_⟩
    conv => whnf
    refine ⟨_, _, a1', rfl, ?_⟩
    conv => whnf
    refine ⟨(Nat.le_of_ble_eq_true rfl), 3, 120, 120, 0, 0, L.length, rfl, rfl, rfl, by decide, by decide, by omega, by omega, Or.inr ⟨f, f2, 3, a2', b2', by decide, rfl, rfl, by decide, fun i hi y hy => ?_, ?_⟩⟩
    · rw [Nat.zero_add] at hy
      obtain ⟨b, hb, ⟨p1, c1, e1, -, -, e4, -⟩⟩ := a4 i _ (List.getElem?_eq_getElem hi)
      rw [hy] at hb
      cases hb
      exact ⟨_, fx_at hfx2 e1 (by simpa using g_nn e1 hq)⟩
    conv => whnf
    refine ⟨_, _, (by rw [g_up_n n4]; exact a1'), rfl, ?_⟩
    conv => whnf
    refine ⟨_, (by rw [g_up_n n3.symm]; exact b1), by simp, rfl, rfl, ?_⟩
    conv => whnf
    refine ⟨⟨_, rfl, Or.inl ⟨_, rfl⟩⟩, ?_, by first | omega | exact Nat.le_of_ble_eq_true rfl | (simp only [dl1, dl2, dl3, dl4, dl5, dl6]; omega), by first | omega | exact Nat.le_of_ble_eq_true rfl | (simp only [dl1, dl2, dl3, dl4, dl5, dl6]; omega)⟩
    have hfin : ∀ e e1, fx [] g (g_up (g_up g1 qa e) q e1) := fun e e1 r hr => by
      have m1 : r ≠ q := fun z => hr (by rw [z]; exact hq)
      have m2 : r ≠ qa := fun z => hr (by rw [z]; exact hqa)
      rw [g_up_n m1, g_up_n m2, (hfx2 r hr).2 (by simpa using m1)]
      exact ⟨hr, fun _ => rfl⟩
    refine ⟨q, qa, rfl, hq, hqa, ⟨_, g_up_s, by rw [g_up_n n3]; exact g_up_s, a3, fun i E hE => ?_⟩, hfin _ _⟩
    obtain ⟨b, hb, hE2⟩ := a4 i E hE
    have hi := (List.getElem?_eq_some_iff.mp hE).1
    exact ⟨b, by rw [pk_cpy_in (by omega) (by omega), Nat.zero_add, Nat.sub_zero]; exact hb, en_fx hE2 (hfin _ _) (fun q hq => by cases hq)⟩
  · obtain ⟨qa, hv, -⟩ := hh
    cases hv
end TREE3
