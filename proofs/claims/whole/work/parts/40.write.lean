/-! MirrorKeep: write -/
section KW0
theorem l_add {a b : Int64} (h1 : -2 ^ 40 ≤ a.toInt) (h2 : a.toInt ≤ 2 ^ 40) (h3 : -2 ^ 40 ≤ b.toInt) (h4 : b.toInt ≤ 2 ^ 40) : (a + b).toInt = a.toInt + b.toInt := by
  rw [Int64.toInt_add]
  refine Int.bmod_eq_of_le ?_ ?_ <;> omega
theorem l_i (x : Int32) : -2 ^ 40 ≤ x.toInt64.toInt ∧ x.toInt64.toInt ≤ 2 ^ 40 := by
  rw [Int32.toInt_toInt64]
  have := Int32.toInt_lt x
  have := Int32.le_toInt x
  omega
theorem lc_gt {x y : Int64} : w_cmp .gt (lg_cmp x y) 0 ↔ y.toInt < x.toInt := by
  show (0 : Int32).toInt < (lg_cmp x y).toInt ↔ _
  unfold lg_cmp
  by_cases h : y < x
  · rw [if_pos h]
    exact ⟨fun _ => Int64.lt_iff_toInt_lt.mp h, fun _ => by decide⟩
  · rw [if_neg h]
    have h1 : ¬ y.toInt < x.toInt := fun z => h (Int64.lt_iff_toInt_lt.mpr z)
    split
    · exact ⟨fun z => absurd z (by decide), fun z => absurd z h1⟩
    · exact ⟨fun z => absurd z (by decide), fun z => absurd z h1⟩
theorem lc_le {x y : Int64} : w_cmp .le (lg_cmp x y) 0 ↔ x.toInt ≤ y.toInt := by
  have h1 : w_cmp .le (lg_cmp x y) 0 ↔ ¬ w_cmp .gt (lg_cmp x y) 0 := by
    show (lg_cmp x y).toInt ≤ (0 : Int32).toInt ↔ ¬ (0 : Int32).toInt < (lg_cmp x y).toInt
    omega
  rw [h1, lc_gt]
  omega
theorem lc_lt {x y : Int64} : w_cmp .lt (lg_cmp x y) 0 ↔ x.toInt < y.toInt := by
  show (lg_cmp x y).toInt < (0 : Int32).toInt ↔ _
  unfold lg_cmp
  by_cases h : y < x
  · rw [if_pos h]
    have := Int64.lt_iff_toInt_lt.mp h
    exact ⟨fun z => absurd z (by decide), fun z => by omega⟩
  · rw [if_neg h]
    have h1 : ¬ y.toInt < x.toInt := fun z => h (Int64.lt_iff_toInt_lt.mpr z)
    split
    · rename_i h2
      rw [h2]
      exact ⟨fun z => absurd z (by decide), fun z => by omega⟩
    · rename_i h2
      have h3 : x.toInt ≠ y.toInt := fun z => h2 (Int64.toInt_inj.mp z)
      exact ⟨fun _ => by omega, fun _ => by decide⟩
/-- T written at n -/
def wrC (C : List Nat) (n : Nat) (T : List Nat) : List Nat := C.take n ++ T ++ C.drop (n + T.length)
theorem wrC_len {C T : List Nat} {n : Nat} (h : n ≤ C.length) : (wrC C n T).length = max C.length (n + T.length) := by
  unfold wrC
  simp only [List.length_append, List.length_take, List.length_drop]
  omega
theorem wrC_at {C T : List Nat} {n i : Nat} (h : n ≤ C.length) : (wrC C n T).getD i 0 = if n ≤ i ∧ i < n + T.length then T.getD (i - n) 0 else C.getD i 0 := by
  have hl : (C.take n).length = n := by simp; omega
  unfold wrC
  rw [List.getD_eq_getElem?_getD]
  by_cases h1 : i < n
  · rw [if_neg (by omega), List.append_assoc, List.getElem?_append_left (by omega), List.getElem?_take, if_pos h1, List.getD_eq_getElem?_getD]
  · by_cases h2 : i < n + T.length
    · rw [if_pos ⟨by omega, h2⟩, List.append_assoc, List.getElem?_append_right (by omega), hl, List.getElem?_append_left (by omega), List.getD_eq_getElem?_getD]
    · rw [if_neg (by omega), List.getElem?_append_right (by simp only [List.length_append]; omega), List.getElem?_drop, List.getD_eq_getElem?_getD]
      congr 2
      simp only [List.length_append, hl]
      omega
theorem wrC_b {C T : List Nat} {n : Nat} (h : ∀ b ∈ C, b < 256) (h1 : ∀ b ∈ T, b < 256) : ∀ b ∈ wrC C n T, b < 256 := by
  intro b hb
  unfold wrC at hb
  rcases List.mem_append.mp hb with hb | hb
  · rcases List.mem_append.mp hb with hb | hb
    · exact h b (List.mem_of_mem_take hb)
    · exact h1 b hb
  · exact h b (List.mem_of_mem_drop hb)
def mostE (E : Ent) : Nat := if E.2.1 = nI 3 then 100 else 1500
/-- how long it would be */ -/
def wrN (E : Ent) (x : Int32) (T : List Nat) : Int := max ((eC E).length : Int) (x.toInt + T.length)
def wrBig (S : List Ent) (E : Ent) (x : Int32) (T : List Nat) : Prop := (mostE E : Int) < wrN E x T ∨ 4000 < (sumC S : Int) - (eC E).length + wrN E x T
theorem sumC_ge : ∀ {L : List Ent} {i : Nat} {E : Ent}, L[i]? = some E → (eC E).length ≤ sumC L
  | F :: r, 0, E, h => by
    simp only [List.getElem?_cons_zero, Option.some.injEq] at h
    subst h
    simp only [sumC, List.map_cons, List.sum_cons]
    omega
  | F :: r, i + 1, E, h => by
    simp only [List.getElem?_cons_succ] at h
    have := sumC_ge h
    simp only [sumC, List.map_cons, List.sum_cons] at *
    omega
theorem atI_ge {α : Type} {L : List α} {x : Int32} {E : α} (h : atI L x = some E) : L[x.toInt.toNat]? = some E ∧ ¬ x.toInt < 0 := by
  unfold atI at h
  split at h
  · cases h
  · exact ⟨h, by assumption⟩
end KW0
section KWR
variable {ad : Nat → Nat} {g : g_H} {R T : List Nat} {S M Rs : List Ent} {Hs : List Ses} {X : List Chg} {ch st tm dn : Int32} {rs : Nat}
variable {l : Launch} {D : va_G} {aC : Nat → ClassId}
theorem c_J_maxl (hfl : l.flags = pinnedFlags ++ [noTraceFlag]) {a b : Int64} : k_CT l D aC n_J_maxl 0 0 [.long a, .long b] g (rt (some (.long (if a.toInt < b.toInt then b else a))) g) := by
  refine k_ln hfl n_J_maxl ok_J_maxl rfl rfl rfl rfl rfl rfl (fun h => by cases h) (Nat.le_of_ble_eq_true rfl) 60 ?_
  conv => whnf
  refine ⟨fun h => ?_, fun h => ?_⟩
  · rw [if_pos (lc_lt.mp h)]
    conv => whnf
    exact ⟨rfl, ⟨rfl, rfl⟩, by first | omega | exact Nat.le_of_ble_eq_true rfl | (simp only [dl1, dl2, dl3, dl4, dl5, dl6]; omega), by first | omega | exact Nat.le_of_ble_eq_true rfl | (simp only [dl1, dl2, dl3, dl4, dl5, dl6]; omega)⟩
  · rw [if_neg (fun z => h (lc_lt.mpr z))]
    conv => whnf
    exact ⟨rfl, ⟨rfl, rfl⟩, by first | omega | exact Nat.le_of_ble_eq_true rfl | (simp only [dl1, dl2, dl3, dl4, dl5, dl6]; omega), by first | omega | exact Nat.le_of_ble_eq_true rfl | (simp only [dl1, dl2, dl3, dl4, dl5, dl6]; omega)⟩
theorem c_K_write_uw (hfl : l.flags = pinnedFlags ++ [noTraceFlag]) (h : cK ad g R T S M Rs Hs X ch st tm dn rs) (hs : st = nI 1) {x : Int32} : k_CT l D aC n_K_write 16 4000 [.ref (ad 0), .int x] g (kO ad g (.inr IS) R T S M Rs Hs X ch st tm dn) := by
  refine k_ln hfl n_K_write ok_K_write rfl rfl rfl rfl rfl rfl (fun h => by cases h) (Nat.le_of_ble_eq_true rfl) 60 ?_
  conv => whnf
  refine ⟨⟨_, h.2.1⟩, (Nat.le_of_ble_eq_true rfl), _, _, _, c_K_rw_no hfl h hs, by first | omega | exact Nat.le_of_ble_eq_true rfl | (simp only [dl1, dl2, dl3, dl4, dl5, dl6]; omega), by first | omega | exact Nat.le_of_ble_eq_true rfl | (simp only [dl1, dl2, dl3, dl4, dl5, dl6]; omega), fun v g1 hh => ?_, fun C g1 hh => ?_⟩
  · cases hh.1
  · obtain ⟨hv, rfl⟩ := hh
    cases hv
    exact ⟨kO_same h, by first | omega | exact Nat.le_of_ble_eq_true rfl | (simp only [dl1, dl2, dl3, dl4, dl5, dl6]; omega), by first | omega | exact Nat.le_of_ble_eq_true rfl | (simp only [dl1, dl2, dl3, dl4, dl5, dl6]; omega)⟩
theorem c_K_write_no (hfl : l.flags = pinnedFlags ++ [noTraceFlag]) (h : cK ad g R T S M Rs Hs X ch st tm dn rs) (hs : st ≠ nI 1) (hc : chC S ch = none) {x : Int32} : k_CT l D aC n_K_write 16 4000 [.ref (ad 0), .int x] g (kO ad g (.inr IS) R [] S M Rs Hs X ch st tm dn) := by
  obtain ⟨hj, z1, t1, s1, -⟩ := id h
  obtain ⟨r1, r2, t2, -, -, -, -, -, t3, -⟩ := id t1
  have hU := cK_al h
  refine k_ln hfl n_K_write ok_K_write rfl rfl rfl rfl rfl rfl (fun h => by cases h) (Nat.le_of_ble_eq_true rfl) 120 ?_
  conv => whnf
  refine ⟨⟨_, z1⟩, (Nat.le_of_ble_eq_true rfl), _, _, _, c_K_rw hfl h hs, by first | omega | exact Nat.le_of_ble_eq_true rfl | (simp only [dl1, dl2, dl3, dl4, dl5, dl6]; omega), by first | omega | exact Nat.le_of_ble_eq_true rfl | (simp only [dl1, dl2, dl3, dl4, dl5, dl6]; omega), k_rl ?_, k_rr⟩
  conv => whnf
  refine ⟨_, _, z1, rfl, ?_⟩
  conv => whnf
  refine ⟨⟨_, t2⟩, (Nat.le_of_ble_eq_true rfl), _, _, _, c_T_takeAll hfl t1, by first | omega | exact Nat.le_of_ble_eq_true rfl | (simp only [dl1, dl2, dl3, dl4, dl5, dl6]; omega), by first | omega | exact Nat.le_of_ble_eq_true rfl | (simp only [dl1, dl2, dl3, dl4, dl5, dl6]; omega), fun v g1 hh => ?_, fun C g1 hh => ?_⟩
  rotate_left
  · obtain ⟨q, hv, -⟩ := hh
    cases hv
  obtain ⟨q, hv, hq, hby, hT, hfr⟩ := hh
  cases hv
  obtain ⟨u1, u2, u3, -⟩ := id hT
  have hf : fx (List.map ad [1, 2, 3]) g g1 := fx_of_fr hfr (fun r hr => by
    simp only [List.mem_cons, List.not_mem_nil, or_false] at hr
    rcases hr with rfl | rfl
    · exact Or.inr ⟨by simp, nn_of u3⟩
    · exact Or.inl hq)
  have h1 := cK_tp h hT hf
  have hqU : q ∉ UU ad := al_n hU hq
  have hfg : fx (UU ad) g g1 := fx_sub hf (sUU rfl)
  conv => whnf
  refine ⟨⟨_, h1.2.1⟩, (Nat.le_of_ble_eq_true rfl), _, _, _, c_K_chosenWithContent_no hfl h1 hc, by first | omega | exact Nat.le_of_ble_eq_true rfl | (simp only [dl1, dl2, dl3, dl4, dl5, dl6]; omega), by first | omega | exact Nat.le_of_ble_eq_true rfl | (simp only [dl1, dl2, dl3, dl4, dl5, dl6]; omega), fun v g2 hh => ?_, fun C g2 hh => ?_⟩
  · cases hh.1
  · obtain ⟨hv, rfl⟩ := hh
    cases hv
    exact ⟨⟨rfl, hfg, rs, h1⟩, by first | omega | exact Nat.le_of_ble_eq_true rfl | (simp only [dl1, dl2, dl3, dl4, dl5, dl6]; omega), by first | omega | exact Nat.le_of_ble_eq_true rfl | (simp only [dl1, dl2, dl3, dl4, dl5, dl6]; omega)⟩
theorem c_K_write_big (hfl : l.flags = pinnedFlags ++ [noTraceFlag]) (h : cK ad g R T S M Rs Hs X ch st tm dn rs) (hs : st ≠ nI 1) {E : Ent} (hc : chC S ch = some E) (hsm : sumC S ≤ 4000) {x : Int32} (hbig : wrBig S E x T) : k_CT l D aC n_K_write 16 4000 [.ref (ad 0), .int x] g (kO ad g (.inr IS) R [] S M Rs Hs X ch st tm dn) := by
  obtain ⟨hj, z1, t1, s1, -⟩ := id h
  obtain ⟨r1, r2, t2, -, -, -, -, -, t3, -⟩ := id t1
  have hU := cK_al h
  refine k_ln hfl n_K_write ok_K_write rfl rfl rfl rfl rfl rfl (fun h => by cases h) (Nat.le_of_ble_eq_true rfl) 120 ?_
  conv => whnf
  refine ⟨⟨_, z1⟩, (Nat.le_of_ble_eq_true rfl), _, _, _, c_K_rw hfl h hs, by first | omega | exact Nat.le_of_ble_eq_true rfl | (simp only [dl1, dl2, dl3, dl4, dl5, dl6]; omega), by first | omega | exact Nat.le_of_ble_eq_true rfl | (simp only [dl1, dl2, dl3, dl4, dl5, dl6]; omega), k_rl ?_, k_rr⟩
  conv => whnf
  refine ⟨_, _, z1, rfl, ?_⟩
  conv => whnf
  refine ⟨⟨_, t2⟩, (Nat.le_of_ble_eq_true rfl), _, _, _, c_T_takeAll hfl t1, by first | omega | exact Nat.le_of_ble_eq_true rfl | (simp only [dl1, dl2, dl3, dl4, dl5, dl6]; omega), by first | omega | exact Nat.le_of_ble_eq_true rfl | (simp only [dl1, dl2, dl3, dl4, dl5, dl6]; omega), fun v g1 hh => ?_, fun C g1 hh => ?_⟩
  rotate_left
  · obtain ⟨q, hv, -⟩ := hh
    cases hv
  obtain ⟨q, hv, hq, hby, hT, hfr⟩ := hh
  cases hv
  obtain ⟨u1, u2, u3, -⟩ := id hT
  have hf : fx (List.map ad [1, 2, 3]) g g1 := fx_of_fr hfr (fun r hr => by
    simp only [List.mem_cons, List.not_mem_nil, or_false] at hr
    rcases hr with rfl | rfl
    · exact Or.inr ⟨by simp, nn_of u3⟩
    · exact Or.inl hq)
  have h1 := cK_tp h hT hf
  have hqU : q ∉ UU ad := al_n hU hq
  have hfg : fx (UU ad) g g1 := fx_sub hf (sUU rfl)
  conv => whnf
  refine ⟨⟨_, h1.2.1⟩, (Nat.le_of_ble_eq_true rfl), _, _, _, c_K_chosenWithContent hfl h1 hc, by first | omega | exact Nat.le_of_ble_eq_true rfl | (simp only [dl1, dl2, dl3, dl4, dl5, dl6]; omega), by first | omega | exact Nat.le_of_ble_eq_true rfl | (simp only [dl1, dl2, dl3, dl4, dl5, dl6]; omega), fun v g2 hh => ?_, fun C g2 hh => ?_⟩
  rotate_left
  · obtain ⟨-, v, hv, -⟩ := hh
    cases hv
  obtain ⟨rfl, b, hv, hE⟩ := hh
  cases hv
  obtain ⟨pp, c, e1, -, ⟨f2, e3, e5, e6, e4⟩, e7⟩ := id hE
  obtain ⟨f3, q1, q2, q3, q4⟩ := id hby
  conv => whnf
  refine ⟨_, _, e1, rfl, ?_⟩
  conv => whnf
  refine Or.inl ⟨_, _, e3, by decide, ?_⟩
  conv => whnf
  refine Or.inl ⟨_, _, q1, by decide, ?_⟩
  conv => whnf
  refine ⟨(Nat.le_of_ble_eq_true rfl), _, _, _, c_J_maxl hfl, by first | omega | exact Nat.le_of_ble_eq_true rfl | (simp only [dl1, dl2, dl3, dl4, dl5, dl6]; omega), by first | omega | exact Nat.le_of_ble_eq_true rfl | (simp only [dl1, dl2, dl3, dl4, dl5, dl6]; omega), k_rl ?_, k_rr⟩
  have v1 : ((nI (eC E).length).toInt64).toInt = (eC E).length := by rw [Int32.toInt_toInt64, nI_toInt (by omega)]
  have v2 : ((nI T.length).toInt64).toInt = T.length := by rw [Int32.toInt_toInt64, nI_toInt (by omega)]
  have v3 : (x.toInt64 + (nI T.length).toInt64).toInt = x.toInt + T.length := by rw [l_add (l_i _).1 (l_i _).2 (l_i _).1 (l_i _).2, v2, Int32.toInt_toInt64]
  generalize hn0 : (if ((nI (eC E).length).toInt64).toInt < (x.toInt64 + (nI T.length).toInt64).toInt then x.toInt64 + (nI T.length).toInt64 else (nI (eC E).length).toInt64) = nl
  have hnl : nl.toInt = wrN E x T := by
    rw [← hn0, wrN]
    split
    · rw [v3]; omega
    · omega
  have hx1 := Int32.toInt_lt x
  have hx2 := Int32.le_toInt x
  obtain ⟨hge1, hge2⟩ := atI_ge (chC_some hc).1
  have hsc := sumC_ge hge1
  obtain ⟨-, -, -, s6, -⟩ := id h1
  obtain ⟨f7, s7, -⟩ := id s6
  conv => whnf
  refine ⟨⟨_, e1⟩, (Nat.le_of_ble_eq_true rfl), _, _, _, c_E_mostContent hfl hE, by first | omega | exact Nat.le_of_ble_eq_true rfl | (simp only [dl1, dl2, dl3, dl4, dl5, dl6]; omega), by first | omega | exact Nat.le_of_ble_eq_true rfl | (simp only [dl1, dl2, dl3, dl4, dl5, dl6]; omega), k_rl ?_, k_rr⟩
  have v4 : ((nI (if E.2.1 = nI 3 then 100 else 1500)).toInt64).toInt = mostE E := by
    rw [mostE, Int32.toInt_toInt64, nI_toInt (by split <;> omega)]
  have v5 : ((nI (sumC S) - nI (eC E).length).toInt64).toInt = (sumC S : Int) - (eC E).length := by
    rw [pk_sub hsc, Int32.toInt_toInt64, nI_toInt (by omega)]
    omega
  have hwb : wrN E x T ≤ 2 ^ 33 ∧ -2 ^ 33 ≤ wrN E x T := by unfold wrN; omega
  have v6 : ((nI (sumC S) - nI (eC E).length).toInt64 + nl).toInt = (sumC S : Int) - (eC E).length + wrN E x T := by
    rw [l_add (l_i _).1 (l_i _).2 (by omega) (by omega), v5, hnl]
  have v7 : (Int32.toInt64 (nI 4000)).toInt = 4000 := by decide
  conv => whnf
  refine ⟨fun h5 => ?_, fun h5 => ?_⟩
  · conv => whnf
    refine ⟨(Nat.le_of_ble_eq_true rfl), ⟨rfl, hfg, rs, h1⟩, by first | omega | exact Nat.le_of_ble_eq_true rfl | (simp only [dl1, dl2, dl3, dl4, dl5, dl6]; omega), by first | omega | exact Nat.le_of_ble_eq_true rfl | (simp only [dl1, dl2, dl3, dl4, dl5, dl6]; omega)⟩
  · have h5 : ¬ w_cmp .gt (lg_cmp nl (nI (if E.2.1 = nI 3 then 100 else 1500)).toInt64) 0 := h5
    rw [lc_gt, v4, hnl] at h5
    conv => whnf
    refine ⟨_, _, h1.2.1, rfl, ?_⟩
    conv => whnf
    refine ⟨⟨_, s7⟩, (Nat.le_of_ble_eq_true rfl), _, _, _, c_R_contentLength hfl s6, by first | omega | exact Nat.le_of_ble_eq_true rfl | (simp only [dl1, dl2, dl3, dl4, dl5, dl6]; omega), by first | omega | exact Nat.le_of_ble_eq_true rfl | (simp only [dl1, dl2, dl3, dl4, dl5, dl6]; omega), k_rl ?_, k_rr⟩
    have h6 : ¬ w_cmp .le (lg_cmp ((nI (sumC S) - nI (eC E).length).toInt64 + nl) (Int32.toInt64 (nI 4000))) 0 := by
      rw [lc_le, v6, v7]
      rcases hbig with z | z <;> omega
    conv => whnf
    refine ⟨fun h => absurd h h6, fun _ => ?_⟩
    conv => whnf
    refine ⟨(Nat.le_of_ble_eq_true rfl), ⟨rfl, hfg, rs, h1⟩, by first | omega | exact Nat.le_of_ble_eq_true rfl | (simp only [dl1, dl2, dl3, dl4, dl5, dl6]; omega), by first | omega | exact Nat.le_of_ble_eq_true rfl | (simp only [dl1, dl2, dl3, dl4, dl5, dl6]; omega)⟩
theorem c_K_write_bad (hfl : l.flags = pinnedFlags ++ [noTraceFlag]) (h : cK ad g R T S M Rs Hs X ch st tm dn rs) (hs : st ≠ nI 1) {E : Ent} (hc : chC S ch = some E) (hsm : sumC S ≤ 4000) {x : Int32} (hbig : ¬ wrBig S E x T) (hb : x.toInt < 0 ∨ ((eC E).length : Int) < x.toInt) : k_CT l D aC n_K_write 16 4000 [.ref (ad 0), .int x] g (kO ad g (.inr IA) R [] S M Rs Hs X ch st tm dn) := by
  obtain ⟨hj, z1, t1, s1, -⟩ := id h
  obtain ⟨r1, r2, t2, -, -, -, -, -, t3, -⟩ := id t1
  have hU := cK_al h
  refine k_ln hfl n_K_write ok_K_write rfl rfl rfl rfl rfl rfl (fun h => by cases h) (Nat.le_of_ble_eq_true rfl) 120 ?_
  conv => whnf
  refine ⟨⟨_, z1⟩, (Nat.le_of_ble_eq_true rfl), _, _, _, c_K_rw hfl h hs, by first | omega | exact Nat.le_of_ble_eq_true rfl | (simp only [dl1, dl2, dl3, dl4, dl5, dl6]; omega), by first | omega | exact Nat.le_of_ble_eq_true rfl | (simp only [dl1, dl2, dl3, dl4, dl5, dl6]; omega), k_rl ?_, k_rr⟩
  conv => whnf
  refine ⟨_, _, z1, rfl, ?_⟩
  conv => whnf
  refine ⟨⟨_, t2⟩, (Nat.le_of_ble_eq_true rfl), _, _, _, c_T_takeAll hfl t1, by first | omega | exact Nat.le_of_ble_eq_true rfl | (simp only [dl1, dl2, dl3, dl4, dl5, dl6]; omega), by first | omega | exact Nat.le_of_ble_eq_true rfl | (simp only [dl1, dl2, dl3, dl4, dl5, dl6]; omega), fun v g1 hh => ?_, fun C g1 hh => ?_⟩
  rotate_left
  · obtain ⟨q, hv, -⟩ := hh
    cases hv
  obtain ⟨q, hv, hq, hby, hT, hfr⟩ := hh
  cases hv
  obtain ⟨u1, u2, u3, -⟩ := id hT
  have hf : fx (List.map ad [1, 2, 3]) g g1 := fx_of_fr hfr (fun r hr => by
    simp only [List.mem_cons, List.not_mem_nil, or_false] at hr
    rcases hr with rfl | rfl
    · exact Or.inr ⟨by simp, nn_of u3⟩
    · exact Or.inl hq)
  have h1 := cK_tp h hT hf
  have hqU : q ∉ UU ad := al_n hU hq
  have hfg : fx (UU ad) g g1 := fx_sub hf (sUU rfl)
  conv => whnf
  refine ⟨⟨_, h1.2.1⟩, (Nat.le_of_ble_eq_true rfl), _, _, _, c_K_chosenWithContent hfl h1 hc, by first | omega | exact Nat.le_of_ble_eq_true rfl | (simp only [dl1, dl2, dl3, dl4, dl5, dl6]; omega), by first | omega | exact Nat.le_of_ble_eq_true rfl | (simp only [dl1, dl2, dl3, dl4, dl5, dl6]; omega), fun v g2 hh => ?_, fun C g2 hh => ?_⟩
  rotate_left
  · obtain ⟨-, v, hv, -⟩ := hh
    cases hv
  obtain ⟨rfl, b, hv, hE⟩ := hh
  cases hv
  obtain ⟨pp, c, e1, -, ⟨f2, e3, e5, e6, e4⟩, e7⟩ := id hE
  obtain ⟨f3, q1, q2, q3, q4⟩ := id hby
  conv => whnf
  refine ⟨_, _, e1, rfl, ?_⟩
  conv => whnf
  refine Or.inl ⟨_, _, e3, by decide, ?_⟩
  conv => whnf
  refine Or.inl ⟨_, _, q1, by decide, ?_⟩
  conv => whnf
  refine ⟨(Nat.le_of_ble_eq_true rfl), _, _, _, c_J_maxl hfl, by first | omega | exact Nat.le_of_ble_eq_true rfl | (simp only [dl1, dl2, dl3, dl4, dl5, dl6]; omega), by first | omega | exact Nat.le_of_ble_eq_true rfl | (simp only [dl1, dl2, dl3, dl4, dl5, dl6]; omega), k_rl ?_, k_rr⟩
  have v1 : ((nI (eC E).length).toInt64).toInt = (eC E).length := by rw [Int32.toInt_toInt64, nI_toInt (by omega)]
  have v2 : ((nI T.length).toInt64).toInt = T.length := by rw [Int32.toInt_toInt64, nI_toInt (by omega)]
  have v3 : (x.toInt64 + (nI T.length).toInt64).toInt = x.toInt + T.length := by rw [l_add (l_i _).1 (l_i _).2 (l_i _).1 (l_i _).2, v2, Int32.toInt_toInt64]
  generalize hn0 : (if ((nI (eC E).length).toInt64).toInt < (x.toInt64 + (nI T.length).toInt64).toInt then x.toInt64 + (nI T.length).toInt64 else (nI (eC E).length).toInt64) = nl
  have hnl : nl.toInt = wrN E x T := by
    rw [← hn0, wrN]
    split
    · rw [v3]; omega
    · omega
  have hx1 := Int32.toInt_lt x
  have hx2 := Int32.le_toInt x
  obtain ⟨hge1, hge2⟩ := atI_ge (chC_some hc).1
  have hsc := sumC_ge hge1
  obtain ⟨-, -, -, s6, -⟩ := id h1
  obtain ⟨f7, s7, -⟩ := id s6
  conv => whnf
  refine ⟨⟨_, e1⟩, (Nat.le_of_ble_eq_true rfl), _, _, _, c_E_mostContent hfl hE, by first | omega | exact Nat.le_of_ble_eq_true rfl | (simp only [dl1, dl2, dl3, dl4, dl5, dl6]; omega), by first | omega | exact Nat.le_of_ble_eq_true rfl | (simp only [dl1, dl2, dl3, dl4, dl5, dl6]; omega), k_rl ?_, k_rr⟩
  have v4 : ((nI (if E.2.1 = nI 3 then 100 else 1500)).toInt64).toInt = mostE E := by
    rw [mostE, Int32.toInt_toInt64, nI_toInt (by split <;> omega)]
  have v5 : ((nI (sumC S) - nI (eC E).length).toInt64).toInt = (sumC S : Int) - (eC E).length := by
    rw [pk_sub hsc, Int32.toInt_toInt64, nI_toInt (by omega)]
    omega
  have hwb : wrN E x T ≤ 2 ^ 33 ∧ -2 ^ 33 ≤ wrN E x T := by unfold wrN; omega
  have v6 : ((nI (sumC S) - nI (eC E).length).toInt64 + nl).toInt = (sumC S : Int) - (eC E).length + wrN E x T := by
    rw [l_add (l_i _).1 (l_i _).2 (by omega) (by omega), v5, hnl]
  have v7 : (Int32.toInt64 (nI 4000)).toInt = 4000 := by decide
  have h5 : ¬ w_cmp .gt (lg_cmp nl (nI (if E.2.1 = nI 3 then 100 else 1500)).toInt64) 0 := by
    rw [lc_gt, v4, hnl]
    exact fun z => hbig (Or.inl z)
  conv => whnf
  refine ⟨fun h => absurd h h5, fun _ => ?_⟩
  conv => whnf
  refine ⟨_, _, h1.2.1, rfl, ?_⟩
  conv => whnf
  refine ⟨⟨_, s7⟩, (Nat.le_of_ble_eq_true rfl), _, _, _, c_R_contentLength hfl s6, by first | omega | exact Nat.le_of_ble_eq_true rfl | (simp only [dl1, dl2, dl3, dl4, dl5, dl6]; omega), by first | omega | exact Nat.le_of_ble_eq_true rfl | (simp only [dl1, dl2, dl3, dl4, dl5, dl6]; omega), k_rl ?_, k_rr⟩
  have h6 : w_cmp .le (lg_cmp ((nI (sumC S) - nI (eC E).length).toInt64 + nl) (Int32.toInt64 (nI 4000))) 0 := by
    rw [lc_le, v6, v7]
    have : ¬ 4000 < (sumC S : Int) - (eC E).length + wrN E x T := fun z => hbig (Or.inr z)
    omega
  conv => whnf
  refine ⟨fun _ => ?_, fun h => absurd h6 h⟩
  conv => whnf
  refine ⟨fun h8 => ?_, fun h8 => ?_⟩
  · conv => whnf
    refine ⟨(Nat.le_of_ble_eq_true rfl), ⟨rfl, hfg, rs, h1⟩, by first | omega | exact Nat.le_of_ble_eq_true rfl | (simp only [dl1, dl2, dl3, dl4, dl5, dl6]; omega), by first | omega | exact Nat.le_of_ble_eq_true rfl | (simp only [dl1, dl2, dl3, dl4, dl5, dl6]; omega)⟩
  · have h8 : ¬ x.toInt < 0 := h8
    conv => whnf
    refine ⟨fun h => absurd h (show ¬ x.toInt ≤ (nI (eC E).length).toInt by rw [nI_toInt (by omega)]; omega), fun _ => ?_⟩
    conv => whnf
    refine ⟨(Nat.le_of_ble_eq_true rfl), ⟨rfl, hfg, rs, h1⟩, by first | omega | exact Nat.le_of_ble_eq_true rfl | (simp only [dl1, dl2, dl3, dl4, dl5, dl6]; omega), by first | omega | exact Nat.le_of_ble_eq_true rfl | (simp only [dl1, dl2, dl3, dl4, dl5, dl6]; omega)⟩
theorem c_K_write (hfl : l.flags = pinnedFlags ++ [noTraceFlag]) (h : cK ad g R T S M Rs Hs X ch st tm dn rs) (hs : st ≠ nI 1) {E : Ent} (hc : chC S ch = some E) (hsm : sumC S ≤ 4000) {n : Nat} (hbig : ¬ wrBig S E (nI n) T) (hn : n ≤ (eC E).length) (hn2 : n < 2 ^ 31) (hl : (putL S (E.1, E.2.1, E.2.2.1, E.2.2.2.1, wrC (eC E) n T)).length ≤ 120) : k_CT l D aC n_K_write 16 4000 [.ref (ad 0), .int (nI n)] g (kO ad g (.inl (some (.int (nI (max (eC E).length (n + T.length)))))) R [] (putL S (E.1, E.2.1, E.2.2.1, E.2.2.2.1, wrC (eC E) n T)) M Rs Hs X ch st tm dn) := by
  generalize hx : nI n = x at hbig ⊢
  have hx0 : x.toInt = n := by rw [← hx, nI_toInt hn2]
  obtain ⟨hj, z1, t1, s1, -⟩ := id h
  obtain ⟨r1, r2, t2, -, -, -, -, -, t3, -⟩ := id t1
  have hU := cK_al h
  refine k_ln hfl n_K_write ok_K_write rfl rfl rfl rfl rfl rfl (fun h => by cases h) (Nat.le_of_ble_eq_true rfl) 120 ?_
  conv => whnf
  refine ⟨⟨_, z1⟩, (Nat.le_of_ble_eq_true rfl), _, _, _, c_K_rw hfl h hs, by first | omega | exact Nat.le_of_ble_eq_true rfl | (simp only [dl1, dl2, dl3, dl4, dl5, dl6]; omega), by first | omega | exact Nat.le_of_ble_eq_true rfl | (simp only [dl1, dl2, dl3, dl4, dl5, dl6]; omega), k_rl ?_, k_rr⟩
  conv => whnf
  refine ⟨_, _, z1, rfl, ?_⟩
  conv => whnf
  refine ⟨⟨_, t2⟩, (Nat.le_of_ble_eq_true rfl), _, _, _, c_T_takeAll hfl t1, by first | omega | exact Nat.le_of_ble_eq_true rfl | (simp only [dl1, dl2, dl3, dl4, dl5, dl6]; omega), by first | omega | exact Nat.le_of_ble_eq_true rfl | (simp only [dl1, dl2, dl3, dl4, dl5, dl6]; omega), fun v g1 hh => ?_, fun C g1 hh => ?_⟩
  rotate_left
  · obtain ⟨q, hv, -⟩ := hh
    cases hv
  obtain ⟨q, hv, hq, hby, hT, hfr⟩ := hh
  cases hv
  obtain ⟨u1, u2, u3, -⟩ := id hT
  have hf : fx (List.map ad [1, 2, 3]) g g1 := fx_of_fr hfr (fun r hr => by
    simp only [List.mem_cons, List.not_mem_nil, or_false] at hr
    rcases hr with rfl | rfl
    · exact Or.inr ⟨by simp, nn_of u3⟩
    · exact Or.inl hq)
  have h1 := cK_tp h hT hf
  have hqU : q ∉ UU ad := al_n hU hq
  have hfg : fx (UU ad) g g1 := fx_sub hf (sUU rfl)
  conv => whnf
  refine ⟨⟨_, h1.2.1⟩, (Nat.le_of_ble_eq_true rfl), _, _, _, c_K_chosenWithContent hfl h1 hc, by first | omega | exact Nat.le_of_ble_eq_true rfl | (simp only [dl1, dl2, dl3, dl4, dl5, dl6]; omega), by first | omega | exact Nat.le_of_ble_eq_true rfl | (simp only [dl1, dl2, dl3, dl4, dl5, dl6]; omega), fun v g2 hh => ?_, fun C g2 hh => ?_⟩
  rotate_left
  · obtain ⟨-, v, hv, -⟩ := hh
    cases hv
  obtain ⟨rfl, b, hv, hE⟩ := hh
  cases hv
  obtain ⟨pp, c, e1, -, ⟨f2, e3, e5, e6, e4⟩, e7⟩ := id hE
  obtain ⟨f3, q1, q2, q3, q4⟩ := id hby
  conv => whnf
  refine ⟨_, _, e1, rfl, ?_⟩
  conv => whnf
  refine Or.inl ⟨_, _, e3, by decide, ?_⟩
  conv => whnf
  refine Or.inl ⟨_, _, q1, by decide, ?_⟩
  conv => whnf
  refine ⟨(Nat.le_of_ble_eq_true rfl), _, _, _, c_J_maxl hfl, by first | omega | exact Nat.le_of_ble_eq_true rfl | (simp only [dl1, dl2, dl3, dl4, dl5, dl6]; omega), by first | omega | exact Nat.le_of_ble_eq_true rfl | (simp only [dl1, dl2, dl3, dl4, dl5, dl6]; omega), k_rl ?_, k_rr⟩
  have v1 : ((nI (eC E).length).toInt64).toInt = (eC E).length := by rw [Int32.toInt_toInt64, nI_toInt (by omega)]
  have v2 : ((nI T.length).toInt64).toInt = T.length := by rw [Int32.toInt_toInt64, nI_toInt (by omega)]
  have v3 : (x.toInt64 + (nI T.length).toInt64).toInt = x.toInt + T.length := by rw [l_add (l_i _).1 (l_i _).2 (l_i _).1 (l_i _).2, v2, Int32.toInt_toInt64]
  generalize hn0 : (if ((nI (eC E).length).toInt64).toInt < (x.toInt64 + (nI T.length).toInt64).toInt then x.toInt64 + (nI T.length).toInt64 else (nI (eC E).length).toInt64) = nl
  have hnl : nl.toInt = wrN E x T := by
    rw [← hn0, wrN]
    split
    · rw [v3]; omega
    · omega
  have hx1 := Int32.toInt_lt x
  have hx2 := Int32.le_toInt x
  obtain ⟨hge1, hge2⟩ := atI_ge (chC_some hc).1
  have hsc := sumC_ge hge1
  obtain ⟨-, -, -, s6, -⟩ := id h1
  obtain ⟨f7, s7, -⟩ := id s6
  conv => whnf
  refine ⟨⟨_, e1⟩, (Nat.le_of_ble_eq_true rfl), _, _, _, c_E_mostContent hfl hE, by first | omega | exact Nat.le_of_ble_eq_true rfl | (simp only [dl1, dl2, dl3, dl4, dl5, dl6]; omega), by first | omega | exact Nat.le_of_ble_eq_true rfl | (simp only [dl1, dl2, dl3, dl4, dl5, dl6]; omega), k_rl ?_, k_rr⟩
  have v4 : ((nI (if E.2.1 = nI 3 then 100 else 1500)).toInt64).toInt = mostE E := by
    rw [mostE, Int32.toInt_toInt64, nI_toInt (by split <;> omega)]
  have v5 : ((nI (sumC S) - nI (eC E).length).toInt64).toInt = (sumC S : Int) - (eC E).length := by
    rw [pk_sub hsc, Int32.toInt_toInt64, nI_toInt (by omega)]
    omega
  have hwb : wrN E x T ≤ 2 ^ 33 ∧ -2 ^ 33 ≤ wrN E x T := by unfold wrN; omega
  have v6 : ((nI (sumC S) - nI (eC E).length).toInt64 + nl).toInt = (sumC S : Int) - (eC E).length + wrN E x T := by
    rw [l_add (l_i _).1 (l_i _).2 (by omega) (by omega), v5, hnl]
  have v7 : (Int32.toInt64 (nI 4000)).toInt = 4000 := by decide
  have h5 : ¬ w_cmp .gt (lg_cmp nl (nI (if E.2.1 = nI 3 then 100 else 1500)).toInt64) 0 := by
    rw [lc_gt, v4, hnl]
    exact fun z => hbig (Or.inl z)
  conv => whnf
  refine ⟨fun h => absurd h h5, fun _ => ?_⟩
  conv => whnf
  refine ⟨_, _, h1.2.1, rfl, ?_⟩
  conv => whnf
  refine ⟨⟨_, s7⟩, (Nat.le_of_ble_eq_true rfl), _, _, _, c_R_contentLength hfl s6, by first | omega | exact Nat.le_of_ble_eq_true rfl | (simp only [dl1, dl2, dl3, dl4, dl5, dl6]; omega), by first | omega | exact Nat.le_of_ble_eq_true rfl | (simp only [dl1, dl2, dl3, dl4, dl5, dl6]; omega), k_rl ?_, k_rr⟩
  have h6 : w_cmp .le (lg_cmp ((nI (sumC S) - nI (eC E).length).toInt64 + nl) (Int32.toInt64 (nI 4000))) 0 := by
    rw [lc_le, v6, v7]
    have : ¬ 4000 < (sumC S : Int) - (eC E).length + wrN E x T := fun z => hbig (Or.inr z)
    omega
  conv => whnf
  refine ⟨fun _ => ?_, fun h => absurd h6 h⟩
  have hwn : wrN E x T = (max (eC E).length (n + T.length) : Nat) := by unfold wrN; rw [hx0]; omega
  have hme : mostE E ≤ 1500 := by unfold mostE; split <;> omega
  have hNl : max (eC E).length (n + T.length) ≤ 1500 := by
    have : ¬ (mostE E : Int) < wrN E x T := fun z => hbig (Or.inl z)
    omega
  have hli : nl.toInt32 = nI (max (eC E).length (n + T.length)) := by
    have h9 : nl = lN (max (eC E).length (n + T.length)) := Int64.toInt_inj.mp (by rw [hnl, hwn, lN_toInt (by omega)])
    rw [h9, lN_i]
  rw [← hx]
  conv => whnf
  refine ⟨fun h => absurd h (q_lt0 hn2), fun _ => ?_⟩
  conv => whnf
  refine ⟨fun _ => ?_, fun h => absurd ((q_le hn2 (by omega)).mpr hn) h⟩
  conv => whnf
  refine ⟨_, _, e1, rfl, ?_⟩
  have hcp := c_A_copyOf (l := l) (D := D) (aC := aC) (m := max (eC E).length (n + T.length)) hfl e3 (fun i hi => by rw [e5 i hi]; exact sx_fits _) (by omega) (by omega)
  rw [← hli] at hcp
  conv => whnf
  refine ⟨(Nat.le_of_ble_eq_true rfl), _, _, _, hcp, by first | omega | exact Nat.le_of_ble_eq_true rfl | (simp only [dl1, dl2, dl3, dl4, dl5, dl6]; omega), by first | omega | exact Nat.le_of_ble_eq_true rfl | (simp only [dl1, dl2, dl3, dl4, dl5, dl6]; omega), fun v g3 hh => ?_, fun C g3 hh => ?_⟩
  · obtain ⟨qc, f1, hqc, hv, rfl, hf1⟩ := hh
    cases hv
    have nqc := g_nn q1 hqc
    rw [hli]
    conv => whnf
    refine Or.inl ⟨_, _, (by rw [g_up_n nqc]; exact q1), by decide, ?_⟩
    conv => whnf
    refine ⟨(Nat.le_of_ble_eq_true rfl), 0, T.length, max (eC E).length (n + T.length), 0, n, T.length, rfl, rfl, rfl, by omega, by omega, by omega, by omega, Or.inl ⟨f3, f1, by rw [g_up_n nqc]; exact q1, g_up_s, rfl, fun i hi => by rw [Nat.zero_add, q2 i hi]; exact sx_fits _, ?_⟩⟩
    rw [g_up_up]
    have hfc : fx (List.map ad []) g2 (g_up g2 qc (.inl (0, max (eC E).length (n + T.length), .inl (va_cpy f3 f1 0 n T.length)))) := fx_new fx_rf hqc
    have hbc : isBy (g_up g2 qc (.inl (0, max (eC E).length (n + T.length), .inl (va_cpy f3 f1 0 n T.length)))) qc (wrC (eC E) n T) := by
      refine ⟨_, by rw [wrC_len hn]; exact g_up_s, fun i hi => ?_, wrC_b e6 q3, by rw [wrC_len hn]; omega⟩
      rw [wrC_len hn] at hi
      rw [wrC_at hn]
      by_cases h9 : n ≤ i ∧ i < n + T.length
      · rw [if_pos h9, pk_cpy_in h9.1 h9.2, Nat.zero_add, q2 _ (by omega)]
      · rw [if_neg h9, pk_cpy_out (by omega), hf1 i hi, if_pos (by omega), e5 i (by omega)]
    have hU2 := al_fx hU hfg
    have h2 := cK_fx h1 hfc
    have hE1 := en_fx hE hfc (by simp)
    obtain ⟨pp1, c1, e8, -⟩ := id hE1
    conv => whnf
    refine ⟨_, _, h2.2.1, rfl, ?_⟩
    conv => whnf
    refine ⟨⟨_, e8⟩, (Nat.le_of_ble_eq_true rfl), _, _, _, c_E_withContent hfl hE1 hbc (al_n hU2 hqc) (al_fx hU2 hfc), by first | omega | exact Nat.le_of_ble_eq_true rfl | (simp only [dl1, dl2, dl3, dl4, dl5, dl6]; omega), by first | omega | exact Nat.le_of_ble_eq_true rfl | (simp only [dl1, dl2, dl3, dl4, dl5, dl6]; omega), fun v g4 hh => ?_, fun C g4 hh => ?_⟩
    · obtain ⟨qe, hv, hqe, hE2, hf2⟩ := hh
      cases hv
      have h3 := cK_fx h2 (g1 := g4) hf2
      obtain ⟨-, -, -, s8, -⟩ := id h3
      obtain ⟨f9, s9, -⟩ := id s8
      conv => whnf
      refine ⟨⟨_, s9⟩, (Nat.le_of_ble_eq_true rfl), _, _, _, c_R_put hfl s8 hE2 (iUU rfl) (iUU rfl) hl, by first | omega | exact Nat.le_of_ble_eq_true rfl | (simp only [dl1, dl2, dl3, dl4, dl5, dl6]; omega), by first | omega | exact Nat.le_of_ble_eq_true rfl | (simp only [dl1, dl2, dl3, dl4, dl5, dl6]; omega), fun v g5 hh => ?_, fun C g5 hh => ?_⟩
      · obtain ⟨hv, hT3, hf3⟩ := hh
        cases hv
        have hbc5 := fx_by hf3 (fx_by hf2 hbc (by simp)) (fun z => al_n hU2 hqc (sUU (I := [4, 5]) rfl _ z))
        obtain ⟨f8, w1, -⟩ := hbc5
        rw [wrC_len hn] at w1
        conv => whnf
        refine Or.inl ⟨_, _, w1, by decide, ?_⟩
        conv => whnf
        refine ⟨⟨_, rfl, rfl⟩, ?_, by first | omega | exact Nat.le_of_ble_eq_true rfl | (simp only [dl1, dl2, dl3, dl4, dl5, dl6]; omega), by first | omega | exact Nat.le_of_ble_eq_true rfl | (simp only [dl1, dl2, dl3, dl4, dl5, dl6]; omega)⟩
        exact ⟨rfl, fx_tr (fx_tr (fx_tr hfg (fx_nil hfc)) (fx_nil hf2)) (fx_sub hf3 (sUU (I := [4, 5]) rfl)), rs, cK_src h3 hT3 hf3⟩
      · cases hh.1
    · obtain ⟨q, hv, -⟩ := hh
      cases hv
  · obtain ⟨q, f1, hq, hv, -⟩ := hh
    cases hv
end KWR
