/-! MirrorKeep$Tree: what changes it -/
section TREE2
variable {l : Launch} {D : va_G} {aC : Nat → ClassId}
theorem up2 {U : List Nat} {g : g_H} {t a b : Nat} {E : Ent} {e : g_C} (h : en U g b E) (ha : a ∈ U) : en U (g_up g a e) b E := en_fx (S := [a]) h (fx_up fx_rf (by simp)) (fun q hq => by
  rw [List.mem_singleton.mp hq]; exact ha)
theorem c_R_put (hfl : l.flags = pinnedFlags ++ [noTraceFlag]) {U : List Nat} {t a b : Nat} {L : List Ent} {E : Ent} {g : g_H} (h : tr U g t a L) (hb : en U g b E) (ht : t ∈ U) (ha : a ∈ U) (hr : (putL L E).length ≤ 120) : k_CT l D aC n_R_put 0 0 [.ref t, .ref b] g (fun oc g1 => oc = .inl none ∧ tr U g1 t a (putL L E) ∧ fx [t, a] g g1) := by
  have hle := plc_le L E.1
  have h0 := h
  have hb0 := hb
  obtain ⟨f, a1, a2, a3, a4⟩ := h
  obtain ⟨p, c, e1, e2, e3, e4⟩ := hb
  have n1 : t ≠ a := g_ne a1 a2 (by simp)
  refine k_ln hfl n_R_put ok_R_put rfl rfl rfl rfl rfl rfl (fun h => by cases h) (Nat.le_of_ble_eq_true rfl) 80 ?_
  conv => whnf
  refine ⟨_, _, e1, rfl, ?_⟩
  conv => whnf
  refine ⟨⟨_, a1⟩, (Nat.le_of_ble_eq_true rfl), _, _, _, c_R_placeOf hfl h0 e2, by first | omega | exact Nat.le_of_ble_eq_true rfl | (simp only [dl1, dl2, dl3, dl4, dl5, dl6]; omega), by first | omega | exact Nat.le_of_ble_eq_true rfl | (simp only [dl1, dl2, dl3, dl4, dl5, dl6]; omega), k_rl ?_, k_rr⟩
  conv => whnf
  refine ⟨_, _, e1, rfl, ?_⟩
  conv => whnf
  refine ⟨⟨_, a1⟩, (Nat.le_of_ble_eq_true rfl), _, _, _, c_R_holds hfl h0 e2 (by omega), by first | omega | exact Nat.le_of_ble_eq_true rfl | (simp only [dl1, dl2, dl3, dl4, dl5, dl6]; omega), by first | omega | exact Nat.le_of_ble_eq_true rfl | (simp only [dl1, dl2, dl3, dl4, dl5, dl6]; omega), k_rl ?_, k_rr⟩
  cases hh : hld L (plc L E.1) E.1
  · have hpu : putL L E = L.take (plc L E.1) ++ E :: L.drop (plc L E.1) := by rw [putL, hh]; rfl
    have hlen : (putL L E).length = L.length + 1 := by rw [hpu]; simp; omega
    conv => whnf
    refine ⟨fun _ => ?_, fun h => absurd b2_f h⟩
    conv => whnf
    refine ⟨_, _, a1, rfl, ?_⟩
    conv => whnf
    refine ⟨fun h => absurd h (fun z => absurd ((q_ge (by omega) (by omega)).mp z) (by omega)), fun _ => ?_⟩
    conv => whnf
    refine ⟨_, _, a1, rfl, ?_⟩
    conv => whnf
    refine ⟨_, _, a1, rfl, ?_⟩
    conv => whnf
    refine ⟨_, _, a1, rfl, ?_⟩
    conv => whnf
    refine ⟨(Nat.le_of_ble_eq_true rfl), 3, 120, 120, plc L E.1, plc L E.1 + 1, L.length - plc L E.1, rfl, nI_add _ 1, pk_sub hle, by decide, by decide, by omega, by omega, Or.inr ⟨f, f, 3, a2, a2, by decide, rfl, rfl, by decide, fun i hi y hy => ?_, ?_⟩⟩
    · obtain ⟨b1, hb1, ⟨p1, c1, e5, -⟩⟩ := a4 (plc L E.1 + i) _ (List.getElem?_eq_getElem (by omega))
      rw [hy] at hb1
      cases hb1
      exact ⟨_, e5⟩
    conv => whnf
    refine ⟨_, _, (by rw [g_up_n n1]; exact a1), rfl, ?_⟩
    conv => whnf
    refine ⟨3, 120, _, plc L E.1, 3, _, g_up_s, by rw [g_up_n (fun z => e4.1 (by rw [z]; exact ha))]; exact e1, rfl, rfl, rfl, by omega, by decide, ?_⟩
    rw [g_up_up]
    conv => whnf
    refine ⟨_, _, (by rw [g_up_n n1]; exact a1), rfl, ?_⟩
    conv => whnf
    refine ⟨_, (by rw [g_up_n n1]; exact a1), by simp, rfl, rfl, ?_⟩
    conv => whnf
    refine ⟨rfl, ?_, by first | omega | exact Nat.le_of_ble_eq_true rfl | (simp only [dl1, dl2, dl3, dl4, dl5, dl6]; omega), by first | omega | exact Nat.le_of_ble_eq_true rfl | (simp only [dl1, dl2, dl3, dl4, dl5, dl6]; omega)⟩
    refine ⟨rfl, ⟨_, ?_, by rw [g_up_n n1.symm, g_up_s], hr, fun i F hF => ?_⟩, fx_up (fx_up fx_rf (by simp)) (by simp)⟩
    · rw [g_up_s, hlen, ← nI_add]
      rfl
    · have key : ∀ b1 F, en U g b1 F → en U (g_up (g_up g a (.inl (3, 120, .inr (.inr (.inr (.inr (va_up (va_cpy f f (plc L E.1) (plc L E.1 + 1) (L.length - plc L E.1)) (plc L E.1) (some b)))))))) t (.inr (2, List.set [.ref a, .int (nI L.length)] 1 (.int (nI L.length + nI 1))))) b1 F := fun b1 F hF => up2 (t := t) (up2 (t := t) hF ha) ht
      rw [hpu] at hF
      by_cases hi : i < plc L E.1
      · rw [List.getElem?_append_left (by simp; omega), List.getElem?_take, if_pos hi] at hF
        obtain ⟨b1, hb1, hE1⟩ := a4 i F hF
        refine ⟨b1, ?_, key _ _ hE1⟩
        rw [va_up_ne _ _ (by omega), pk_cpy_out (by omega), hb1]
      · rw [List.getElem?_append_right (by simp; omega)] at hF
        have hl2 : (L.take (plc L E.1)).length = plc L E.1 := by simp; omega
        rw [hl2] at hF
        by_cases hi2 : i = plc L E.1
        · subst hi2
          rw [Nat.sub_self] at hF
          cases hF
          exact ⟨b, va_up_self _ _ _, key _ _ hb0⟩
        · obtain ⟨j, rfl⟩ : ∃ j, i = plc L E.1 + 1 + j := ⟨i - plc L E.1 - 1, by omega⟩
          have h5 : plc L E.1 + 1 + j - plc L E.1 = j + 1 := by omega
          rw [h5, List.getElem?_cons_succ, List.getElem?_drop] at hF
          obtain ⟨b1, hb1, hE1⟩ := a4 _ F hF
          have h6 := (List.getElem?_eq_some_iff.mp hF).1
          refine ⟨b1, ?_, key _ _ hE1⟩
          rw [va_up_ne _ _ (by omega), pk_cpy_in (by omega) (by omega), ← hb1]
          congr 1
          omega
  · have hpu : putL L E = L.set (plc L E.1) E := by rw [putL, hh]; rfl
    have hlt : plc L E.1 < L.length := by
      unfold hld at hh
      split at hh
      · cases hh
      · rename_i h5; exact (List.getElem?_eq_some_iff.mp h5).1
    conv => whnf
    refine ⟨fun h => absurd h b2_t, fun _ => ?_⟩
    conv => whnf
    refine ⟨_, _, a1, rfl, ?_⟩
    conv => whnf
    refine ⟨3, 120, _, plc L E.1, 3, _, a2, e1, rfl, rfl, rfl, by omega, by decide, ?_⟩
    conv => whnf
    refine ⟨rfl, ?_, by first | omega | exact Nat.le_of_ble_eq_true rfl | (simp only [dl1, dl2, dl3, dl4, dl5, dl6]; omega), by first | omega | exact Nat.le_of_ble_eq_true rfl | (simp only [dl1, dl2, dl3, dl4, dl5, dl6]; omega)⟩
    refine ⟨rfl, ⟨_, by rw [g_up_n n1, hpu, List.length_set]; exact a1, g_up_s, hr, fun i F hF => ?_⟩, fx_up fx_rf (by simp)⟩
    rw [hpu] at hF
    by_cases hi : i = plc L E.1
    · subst hi
      rw [List.getElem?_set_self hlt] at hF
      cases hF
      exact ⟨b, va_up_self _ _ _, up2 (t := t) hb0 ha⟩
    · rw [List.getElem?_set_ne (Ne.symm hi)] at hF
      obtain ⟨b1, hb1, hE1⟩ := a4 i F hF
      exact ⟨b1, by rw [va_up_ne _ _ hi]; exact hb1, up2 (t := t) hE1 ha⟩
theorem c_R_drop (hfl : l.flags = pinnedFlags ++ [noTraceFlag]) {U : List Nat} {t a p : Nat} {L : List Ent} {P : List Nat} {g : g_H} (h : tr U g t a L) (hp : isBy g p P) (ht : t ∈ U) (ha : a ∈ U) : k_CT l D aC n_R_drop 0 0 [.ref t, .ref p] g (fun oc g1 => oc = .inl none ∧ tr U g1 t a (dropL L P) ∧ fx [t, a] g g1) := by
  have hle := plc_le L P
  have h0 := h
  obtain ⟨f, a1, a2, a3, a4⟩ := h
  have n1 : t ≠ a := g_ne a1 a2 (by simp)
  refine k_ln hfl n_R_drop ok_R_drop rfl rfl rfl rfl rfl rfl (fun h => by cases h) (Nat.le_of_ble_eq_true rfl) 80 ?_
  conv => whnf
  refine ⟨⟨_, a1⟩, (Nat.le_of_ble_eq_true rfl), _, _, _, c_R_placeOf hfl h0 hp, by first | omega | exact Nat.le_of_ble_eq_true rfl | (simp only [dl1, dl2, dl3, dl4, dl5, dl6]; omega), by first | omega | exact Nat.le_of_ble_eq_true rfl | (simp only [dl1, dl2, dl3, dl4, dl5, dl6]; omega), k_rl ?_, k_rr⟩
  conv => whnf
  refine ⟨⟨_, a1⟩, (Nat.le_of_ble_eq_true rfl), _, _, _, c_R_holds hfl h0 hp (by omega), by first | omega | exact Nat.le_of_ble_eq_true rfl | (simp only [dl1, dl2, dl3, dl4, dl5, dl6]; omega), by first | omega | exact Nat.le_of_ble_eq_true rfl | (simp only [dl1, dl2, dl3, dl4, dl5, dl6]; omega), k_rl ?_, k_rr⟩
  cases hh : hld L (plc L P) P
  · conv => whnf
    refine ⟨fun _ => ?_, fun h => absurd b2_f h⟩
    conv => whnf
    refine ⟨rfl, ?_, by first | omega | exact Nat.le_of_ble_eq_true rfl | (simp only [dl1, dl2, dl3, dl4, dl5, dl6]; omega), by first | omega | exact Nat.le_of_ble_eq_true rfl | (simp only [dl1, dl2, dl3, dl4, dl5, dl6]; omega)⟩
    exact ⟨rfl, by rw [dropL, hh]; exact h0, fx_rf⟩
  · have hdr : dropL L P = L.eraseIdx (plc L P) := by rw [dropL, hh]; rfl
    have hlt : plc L P < L.length := by
      unfold hld at hh
      split at hh
      · cases hh
      · rename_i h5; exact (List.getElem?_eq_some_iff.mp h5).1
    have hlen : (dropL L P).length = L.length - 1 := by rw [hdr, List.length_eraseIdx, if_pos hlt]
    conv => whnf
    refine ⟨fun h => absurd h b2_t, fun _ => ?_⟩
    conv => whnf
    refine ⟨_, _, a1, rfl, ?_⟩
    conv => whnf
    refine ⟨_, a1, by simp, rfl, rfl, ?_⟩
    have hcell : g_up g t (.inr (2, List.set [Value.ref a, .int (nI L.length)] 1 (.int (nI L.length - nI 1)))) t = some (.inr (2, [.ref a, .int (nI (L.length - 1))])) := by
      rw [g_up_s, pk_sub (by omega)]
      rfl
    conv => whnf
    refine ⟨_, _, hcell, rfl, ?_⟩
    conv => whnf
    refine ⟨_, _, hcell, rfl, ?_⟩
    conv => whnf
    refine ⟨_, _, hcell, rfl, ?_⟩
    conv => whnf
    refine ⟨(Nat.le_of_ble_eq_true rfl), 3, 120, 120, plc L P + 1, plc L P, L.length - 1 - plc L P, nI_add _ 1, rfl, pk_sub (by omega), by decide, by decide, by omega, by omega, Or.inr ⟨f, f, 3, by rw [g_up_n n1.symm]; exact a2, by rw [g_up_n n1.symm]; exact a2, by decide, rfl, rfl, by decide, fun i hi y hy => ?_, ?_⟩⟩
    · obtain ⟨b1, hb1, hE⟩ := a4 (plc L P + 1 + i) _ (List.getElem?_eq_getElem (by omega))
      obtain ⟨p1, c1, e5, -⟩ := up2 (t := t) hE ht
      rw [hy] at hb1
      cases hb1
      exact ⟨_, e5⟩
    conv => whnf
    refine ⟨rfl, ?_, by first | omega | exact Nat.le_of_ble_eq_true rfl | (simp only [dl1, dl2, dl3, dl4, dl5, dl6]; omega), by first | omega | exact Nat.le_of_ble_eq_true rfl | (simp only [dl1, dl2, dl3, dl4, dl5, dl6]; omega)⟩
    refine ⟨rfl, ⟨_, by rw [g_up_n n1, hlen]; exact hcell, g_up_s, by omega, fun i F hF => ?_⟩, fx_up (fx_up fx_rf (by simp)) (by simp)⟩
    rw [hdr, List.getElem?_eraseIdx] at hF
    split at hF
    · rename_i hi
      obtain ⟨b1, hb1, hE1⟩ := a4 i F hF
      exact ⟨b1, by rw [pk_cpy_out (by omega)]; exact hb1, up2 (t := t) (up2 (t := t) hE1 ht) ha⟩
    · rename_i hi
      obtain ⟨b1, hb1, hE1⟩ := a4 (i + 1) F hF
      have h6 := (List.getElem?_eq_some_iff.mp hF).1
      refine ⟨b1, ?_, up2 (t := t) (up2 (t := t) hE1 ht) ha⟩
      rw [pk_cpy_in (by omega) (by omega), ← hb1]
      congr 1
      omega
/-- a reference to an entry, or none -/
def oE (U : List Nat) (g : g_H) (v : Value) (o : Option Ent) : Prop := match o with
  | none => v = .null
  | some E => ∃ b, v = .ref b ∧ en U g b E
theorem oE_fx {S U : List Nat} {g g1 : g_H} {v : Value} {o : Option Ent} (h : oE U g v o) (h1 : fx S g g1) (hs : ∀ q ∈ S, q ∈ U) : oE U g1 v o := by
  cases o with
  | none => exact h
  | some E =>
    obtain ⟨b, hv, hE⟩ := h
    exact ⟨b, hv, en_fx hE h1 hs⟩
theorem c_R_replace (hfl : l.flags = pinnedFlags ++ [noTraceFlag]) {U : List Nat} {t a : Nat} {v w : Value} {o m : Option Ent} {L : List Ent} {g : g_H} (h : tr U g t a L) (hv : oE U g v o) (hw : oE U g w m) (ht : t ∈ U) (ha : a ∈ U) (hr : (replL L o m).length ≤ 120) : k_CT l D aC n_R_replace 0 0 [.ref t, v, w] g (fun oc g1 => oc = .inl none ∧ tr U g1 t a (replL L o m) ∧ fx [t, a] g g1) := by
  have h0 := h
  obtain ⟨f, a1, -⟩ := h
  cases m with
  | some E =>
    obtain ⟨b, rfl, hE⟩ := hw
    refine k_ln hfl n_R_replace ok_R_replace rfl rfl rfl rfl rfl rfl (fun h => by cases h) (by cases o with | none => (cases hv; exact (Nat.le_of_ble_eq_true rfl)) | some F => (obtain ⟨b2, rfl, -⟩ := hv; exact (Nat.le_of_ble_eq_true rfl))) 60 ?_
    have hgo : ∀ v, v.category = 1 → k_q l D aC [] none (k_mt n_R_replace).2.2.2.1 0 0 (fun oc g1 => oc = .inl none ∧ tr U g1 t a (replL L o (some E)) ∧ fx [t, a] g g1) tb_R_replace [] k_none 60 0 [(0, .ref t), (1, v), (2, .ref b)] [] g 0 0 := by
      intro v hv
      conv => whnf
      conv => whnf
      refine ⟨⟨_, a1⟩, (Nat.le_of_ble_eq_true rfl), _, _, _, c_R_put hfl h0 hE ht ha hr, by first | omega | exact Nat.le_of_ble_eq_true rfl | (simp only [dl1, dl2, dl3, dl4, dl5, dl6]; omega), by first | omega | exact Nat.le_of_ble_eq_true rfl | (simp only [dl1, dl2, dl3, dl4, dl5, dl6]; omega), fun v g1 hh => ?_, fun C g1 hh => ?_⟩
      · obtain ⟨hv, h1⟩ := hh
        cases hv
        conv => whnf
        refine ⟨rfl, ?_, by first | omega | exact Nat.le_of_ble_eq_true rfl | (simp only [dl1, dl2, dl3, dl4, dl5, dl6]; omega), by first | omega | exact Nat.le_of_ble_eq_true rfl | (simp only [dl1, dl2, dl3, dl4, dl5, dl6]; omega)⟩
        exact ⟨rfl, h1⟩
      · cases hh.1
    cases o with
    | none => cases hv; exact hgo .null rfl
    | some F => obtain ⟨b2, rfl, -⟩ := hv; exact hgo (.ref b2) rfl
  | none =>
    cases hw
    cases o with
    | none =>
      cases hv
      refine k_ln hfl n_R_replace ok_R_replace rfl rfl rfl rfl rfl rfl (fun h => by cases h) (Nat.le_of_ble_eq_true rfl) 60 ?_
      conv => whnf
      refine ⟨rfl, ?_, by first | omega | exact Nat.le_of_ble_eq_true rfl | (simp only [dl1, dl2, dl3, dl4, dl5, dl6]; omega), by first | omega | exact Nat.le_of_ble_eq_true rfl | (simp only [dl1, dl2, dl3, dl4, dl5, dl6]; omega)⟩
      exact ⟨rfl, h0, fx_rf⟩
    | some F =>
      obtain ⟨b, rfl, ⟨p, c, e1, e2, -⟩⟩ := hv
      refine k_ln hfl n_R_replace ok_R_replace rfl rfl rfl rfl rfl rfl (fun h => by cases h) (Nat.le_of_ble_eq_true rfl) 60 ?_
      conv => whnf
      refine ⟨_, _, e1, rfl, ?_⟩
      conv => whnf
      refine ⟨⟨_, a1⟩, (Nat.le_of_ble_eq_true rfl), _, _, _, c_R_drop hfl h0 e2 ht ha, by first | omega | exact Nat.le_of_ble_eq_true rfl | (simp only [dl1, dl2, dl3, dl4, dl5, dl6]; omega), by first | omega | exact Nat.le_of_ble_eq_true rfl | (simp only [dl1, dl2, dl3, dl4, dl5, dl6]; omega), fun v g1 hh => ?_, fun C g1 hh => ?_⟩
      · obtain ⟨hv, h1⟩ := hh
        cases hv
        conv => whnf
        refine ⟨rfl, ?_, by first | omega | exact Nat.le_of_ble_eq_true rfl | (simp only [dl1, dl2, dl3, dl4, dl5, dl6]; omega), by first | omega | exact Nat.le_of_ble_eq_true rfl | (simp only [dl1, dl2, dl3, dl4, dl5, dl6]; omega)⟩
        exact ⟨rfl, h1⟩
      · cases hh.1
end TREE2
