/-! MirrorKeep: the constructor -/
section KI0
def nd (as : List Nat) (g : g_H) : Prop := as.Pairwise (fun a b => a ≠ b) ∧ al as g
theorem nd_c {as : List Nat} {g : g_H} {q : Nat} (h : nd as g) (hn : q ∉ as) (h1 : g q ≠ none) : nd (q :: as) g := by
  refine ⟨List.pairwise_cons.mpr ⟨fun u hu z => hn (by rw [z]; exact hu), h.1⟩, fun u hu => ?_⟩
  rcases List.mem_cons.mp hu with rfl | hu
  · exact h1
  · exact h.2 u hu
theorem nd_fx {as S : List Nat} {g g1 : g_H} (h : nd as g) (hf : fx S g g1) : nd as g1 := ⟨h.1, al_fx h.2 hf⟩
theorem nd_n {as : List Nat} {g : g_H} {q : Nat} (h : nd as g) (hq : g q = none) : q ∉ as := al_n h.2 hq
theorem fx_drop {S : List Nat} {g g1 : g_H} {s : Nat} (h : fx (s :: S) g g1) (hs : g s = none) : fx S g g1 := fun q hq => by
  refine ⟨(h q hq).1, fun hn => (h q hq).2 (fun z => ?_)⟩
  rcases List.mem_cons.mp z with rfl | z
  · exact hq hs
  · exact hn z
theorem tr_nil {U V : List Nat} {g : g_H} {t a : Nat} (h : tr U g t a []) : tr V g t a [] := by
  obtain ⟨f, a1, a2, a3, -⟩ := h
  exact ⟨f, a1, a2, a3, fun i E hE => by simp at hE⟩
theorem his_nil {U V : List Nat} {g : g_H} {t a : Nat} (h : his U g t a []) : his V g t a [] := by
  obtain ⟨f, a1, a2, a3, -⟩ := h
  exact ⟨f, a1, a2, a3, fun i E hE => by simp at hE⟩
theorem chs_nil {U V : List Nat} {g : g_H} {c oa na : Nat} (h : chs U g c oa na []) : chs V g c oa na [] := by
  obtain ⟨f, f1, a1, a2, a3, a4, a5, -⟩ := h
  exact ⟨f, f1, a1, a2, a3, a4, a5, fun i E hE => by simp at hE⟩
theorem tr_fx0 {S U : List Nat} {g g1 : g_H} {t a : Nat} (h : tr U g t a []) (h1 : fx S g g1) (ht : t ∉ S) (ha : a ∉ S) : tr U g1 t a [] := by
  obtain ⟨f, a1, a2, a3, a4⟩ := h
  exact ⟨f, fx_at h1 a1 ht, fx_at h1 a2 ha, a3, fun i E hE => by simp at hE⟩
theorem his_fx0 {S U : List Nat} {g g1 : g_H} {t a : Nat} (h : his U g t a []) (h1 : fx S g g1) (ht : t ∉ S) (ha : a ∉ S) : his U g1 t a [] := by
  obtain ⟨f, a1, a2, a3, a4⟩ := h
  exact ⟨f, fx_at h1 a1 ht, fx_at h1 a2 ha, a3, fun i E hE => by simp at hE⟩
theorem chs_fx0 {S U : List Nat} {g g1 : g_H} {c oa na : Nat} (h : chs U g c oa na []) (h1 : fx S g g1) (hc : c ∉ S) (ho : oa ∉ S) (hn : na ∉ S) : chs U g1 c oa na [] := by
  obtain ⟨fo, fn, a1, a2, a3, a4, a5, a6⟩ := h
  exact ⟨fo, fn, fx_at h1 a1 hc, fx_at h1 a2 ho, fx_at h1 a3 hn, a4, a5, fun i x hx => by simp at hx⟩
theorem n1x {q x : Nat} {as : List Nat} (h : q ∉ as) (hx : x ∈ as) : q ∉ [x] := fun z => h (by rw [List.mem_singleton.mp z]; exact hx)
end KI0
abbrev xk (a b c d e f h : Value) (ch : Int32) : g_C := .inr (0, [a, b, c, d, e, f, h, .int ch, .int 0, .int 0, .int 0])
section KI
variable {l : Launch} {D : va_G} {aC : Nat → ClassId}
set_option maxHeartbeats 1000000 in
theorem c_K_init (hfl : l.flags = pinnedFlags ++ [noTraceFlag]) {x : Nat} {g : g_H} (hx : g x = some (xk .null .null .null .null .null .null .null 0)) : k_CT l D aC n_K_init 17 1557 [.ref x] g (fun oc g1 => oc = .inl none ∧ fx [x] g g1 ∧ ∃ ad rs, ad 0 = x ∧ cK ad g1 (List.replicate 20 0) [] [] [] [] [] [] (-1) 0 0 0 rs) := by
  have N0 : nd [x] g := ⟨by simp, fun u hu => by rw [List.mem_singleton.mp hu]; exact nn_of hx⟩
  refine k_ln hfl n_K_init ok_K_init rfl rfl rfl rfl rfl rfl (fun _ => rfl) (Nat.le_of_ble_eq_true rfl) 100 ?_
  conv => whnf
  refine ⟨(Nat.le_of_ble_eq_true rfl), ?_⟩
  conv => whnf
  refine ⟨by first | omega | exact Nat.le_of_ble_eq_true rfl | (simp only [dl1, dl2, dl3, dl4, dl5, dl6]; omega), by first | omega | exact Nat.le_of_ble_eq_true rfl | (simp only [dl1, dl2, dl3, dl4, dl5, dl6]; omega), fun t ht => ?_⟩
  conv => whnf
  refine ⟨(Nat.le_of_ble_eq_true rfl), _, _, _, c_T_init hfl g_up_s, by first | omega | exact Nat.le_of_ble_eq_true rfl | (simp only [dl1, dl2, dl3, dl4, dl5, dl6]; omega), by first | omega | exact Nat.le_of_ble_eq_true rfl | (simp only [dl1, dl2, dl3, dl4, dl5, dl6]; omega), fun v g1 hh => ?_, fun C g1 hh => ?_⟩
  rotate_left
  · obtain ⟨qa, qb, hv, -⟩ := hh
    cases hv
  obtain ⟨rd, bt, hv, hrd, hbt, hT, hfr⟩ := hh
  cases hv
  obtain ⟨w1, w2, ct, crd, cbt, -⟩ := id hT
  have nrd : rd ≠ t := fun z => by rw [z, g_up_s] at hrd; cases hrd
  have nbt : bt ≠ t := fun z => by rw [z, g_up_s] at hbt; cases hbt
  rw [g_up_n nrd] at hrd
  rw [g_up_n nbt] at hbt
  have nbr : bt ≠ rd := g_ne cbt crd (by simp)
  have hft : fx [] g g1 := fun q hq => by
    have k1 : q ≠ t := fun z => hq (by rw [z]; exact ht)
    have k2 : q ≠ rd := fun z => hq (by rw [z]; exact hrd)
    have k3 : q ≠ bt := fun z => hq (by rw [z]; exact hbt)
    have := hfr q (by simp only [List.mem_cons, List.not_mem_nil, or_false, not_or]; exact ⟨k1, k2, k3⟩)
    rw [this, g_up_n k1]
    exact ⟨hq, fun _ => rfl⟩
  have mt := nd_n N0 ht
  have mrd := nd_n N0 hrd
  have mbt := nd_n N0 hbt
  have N1 : nd [bt, rd, t, x] g1 := nd_c (nd_c (nd_c (nd_fx N0 hft) mt (nn_of ct)) (by simp only [List.mem_cons, not_or]; exact ⟨nrd, by simpa only [List.mem_cons, not_or] using mrd⟩) (nn_of crd)) (by simp only [List.mem_cons, not_or]; exact ⟨nbr, nbt, by simpa only [List.mem_cons, not_or] using mbt⟩) (nn_of cbt)
  conv => whnf
  refine ⟨_, (fx_at hft hx (by simp)), by simp, rfl, rfl, ?_⟩
  have Fx1 : fx [x] g1 (g_up g1 x (xk (.ref t) .null .null .null .null .null .null 0)) := fx_up fx_rf (by simp)
  have F1 : fx [x] g (g_up g1 x (xk (.ref t) .null .null .null .null .null .null 0)) := fx_tr (fx_nil hft) Fx1
  have hx1 : (g_up g1 x (xk (.ref t) .null .null .null .null .null .null 0)) x = some (xk (.ref t) .null .null .null .null .null .null 0) := g_up_s
  have hT1 := isTp_fx hT Fx1 (n1x mt (by simp)) (n1x mrd (by simp)) (n1x mbt (by simp))
  have N1 := nd_fx N1 Fx1
  conv => whnf
  refine ⟨by first | omega | exact Nat.le_of_ble_eq_true rfl | (simp only [dl1, dl2, dl3, dl4, dl5, dl6]; omega), by first | omega | exact Nat.le_of_ble_eq_true rfl | (simp only [dl1, dl2, dl3, dl4, dl5, dl6]; omega), fun s h_s => ?_⟩
  conv => whnf
  refine ⟨(Nat.le_of_ble_eq_true rfl), _, _, _, c_R_init (U := []) hfl g_up_s, by first | omega | exact Nat.le_of_ble_eq_true rfl | (simp only [dl1, dl2, dl3, dl4, dl5, dl6]; omega), by first | omega | exact Nat.le_of_ble_eq_true rfl | (simp only [dl1, dl2, dl3, dl4, dl5, dl6]; omega), fun v g2 hh => ?_, fun C g2 hh => ?_⟩
  rotate_left
  · obtain ⟨qa, hv, -⟩ := hh
    cases hv
  obtain ⟨sa, hv, h_sa, hT_s, hf_s⟩ := hh
  cases hv
  have n_sa : sa ≠ s := fun z => by rw [z, g_up_s] at h_sa; cases h_sa
  rw [g_up_n n_sa] at h_sa
  have hf_s : fx [] (g_up g1 x (xk (.ref t) .null .null .null .null .null .null 0)) g2 := fx_drop (fx_tr (fx_new fx_rf h_s) hf_s) h_s
  obtain ⟨f_s, c_s, c_sa, -⟩ := id hT_s
  have m_s := nd_n N1 h_s
  have m_sa := nd_n N1 h_sa
  have N2 : nd (sa :: s :: [bt, rd, t, x]) g2 := nd_c (nd_c (nd_fx N1 hf_s) m_s (nn_of c_s)) (by rw [List.mem_cons, not_or]; exact ⟨n_sa, m_sa⟩) (nn_of c_sa)
  conv => whnf
  refine ⟨_, (fx_at hf_s hx1 (by simp)), by simp, rfl, rfl, ?_⟩
  have Fx2 : fx [x] g2 (g_up g2 x (xk (.ref t) (.ref s) .null .null .null .null .null 0)) := fx_up fx_rf (by simp)
  have F2 : fx [x] (g_up g1 x (xk (.ref t) .null .null .null .null .null .null 0)) (g_up g2 x (xk (.ref t) (.ref s) .null .null .null .null .null 0)) := fx_tr (fx_nil hf_s) Fx2
  have hx2 : (g_up g2 x (xk (.ref t) (.ref s) .null .null .null .null .null 0)) x = some (xk (.ref t) (.ref s) .null .null .null .null .null 0) := g_up_s
  have hT_s := tr_fx0 hT_s Fx2 (n1x m_s (by simp)) (n1x m_sa (by simp))
  have N2 := nd_fx N2 Fx2
  conv => whnf
  refine ⟨by first | omega | exact Nat.le_of_ble_eq_true rfl | (simp only [dl1, dl2, dl3, dl4, dl5, dl6]; omega), by first | omega | exact Nat.le_of_ble_eq_true rfl | (simp only [dl1, dl2, dl3, dl4, dl5, dl6]; omega), fun m h_m => ?_⟩
  conv => whnf
  refine ⟨(Nat.le_of_ble_eq_true rfl), _, _, _, c_R_init (U := []) hfl g_up_s, by first | omega | exact Nat.le_of_ble_eq_true rfl | (simp only [dl1, dl2, dl3, dl4, dl5, dl6]; omega), by first | omega | exact Nat.le_of_ble_eq_true rfl | (simp only [dl1, dl2, dl3, dl4, dl5, dl6]; omega), fun v g3 hh => ?_, fun C g3 hh => ?_⟩
  rotate_left
  · obtain ⟨qa, hv, -⟩ := hh
    cases hv
  obtain ⟨ma, hv, h_ma, hT_m, hf_m⟩ := hh
  cases hv
  have n_ma : ma ≠ m := fun z => by rw [z, g_up_s] at h_ma; cases h_ma
  rw [g_up_n n_ma] at h_ma
  have hf_m : fx [] (g_up g2 x (xk (.ref t) (.ref s) .null .null .null .null .null 0)) g3 := fx_drop (fx_tr (fx_new fx_rf h_m) hf_m) h_m
  obtain ⟨f_m, c_m, c_ma, -⟩ := id hT_m
  have m_m := nd_n N2 h_m
  have m_ma := nd_n N2 h_ma
  have N3 : nd (ma :: m :: [sa, s, bt, rd, t, x]) g3 := nd_c (nd_c (nd_fx N2 hf_m) m_m (nn_of c_m)) (by rw [List.mem_cons, not_or]; exact ⟨n_ma, m_ma⟩) (nn_of c_ma)
  conv => whnf
  refine ⟨_, (fx_at hf_m hx2 (by simp)), by simp, rfl, rfl, ?_⟩
  have Fx3 : fx [x] g3 (g_up g3 x (xk (.ref t) (.ref s) (.ref m) .null .null .null .null 0)) := fx_up fx_rf (by simp)
  have F3 : fx [x] (g_up g2 x (xk (.ref t) (.ref s) .null .null .null .null .null 0)) (g_up g3 x (xk (.ref t) (.ref s) (.ref m) .null .null .null .null 0)) := fx_tr (fx_nil hf_m) Fx3
  have hx3 : (g_up g3 x (xk (.ref t) (.ref s) (.ref m) .null .null .null .null 0)) x = some (xk (.ref t) (.ref s) (.ref m) .null .null .null .null 0) := g_up_s
  have hT_m := tr_fx0 hT_m Fx3 (n1x m_m (by simp)) (n1x m_ma (by simp))
  have N3 := nd_fx N3 Fx3
  conv => whnf
  refine ⟨by first | omega | exact Nat.le_of_ble_eq_true rfl | (simp only [dl1, dl2, dl3, dl4, dl5, dl6]; omega), by first | omega | exact Nat.le_of_ble_eq_true rfl | (simp only [dl1, dl2, dl3, dl4, dl5, dl6]; omega), fun h h_h => ?_⟩
  conv => whnf
  refine ⟨(Nat.le_of_ble_eq_true rfl), _, _, _, c_H_init (U := []) hfl g_up_s, by first | omega | exact Nat.le_of_ble_eq_true rfl | (simp only [dl1, dl2, dl3, dl4, dl5, dl6]; omega), by first | omega | exact Nat.le_of_ble_eq_true rfl | (simp only [dl1, dl2, dl3, dl4, dl5, dl6]; omega), fun v g4 hh => ?_, fun C g4 hh => ?_⟩
  rotate_left
  · obtain ⟨qa, hv, -⟩ := hh
    cases hv
  obtain ⟨ha, hv, h_ha, hT_h, hf_h⟩ := hh
  cases hv
  have n_ha : ha ≠ h := fun z => by rw [z, g_up_s] at h_ha; cases h_ha
  rw [g_up_n n_ha] at h_ha
  have hf_h : fx [] (g_up g3 x (xk (.ref t) (.ref s) (.ref m) .null .null .null .null 0)) g4 := fx_drop (fx_tr (fx_new fx_rf h_h) hf_h) h_h
  obtain ⟨f_h, c_h, c_ha, -⟩ := id hT_h
  have m_h := nd_n N3 h_h
  have m_ha := nd_n N3 h_ha
  have N4 : nd (ha :: h :: [ma, m, sa, s, bt, rd, t, x]) g4 := nd_c (nd_c (nd_fx N3 hf_h) m_h (nn_of c_h)) (by rw [List.mem_cons, not_or]; exact ⟨n_ha, m_ha⟩) (nn_of c_ha)
  conv => whnf
  refine ⟨_, (fx_at hf_h hx3 (by simp)), by simp, rfl, rfl, ?_⟩
  have Fx4 : fx [x] g4 (g_up g4 x (xk (.ref t) (.ref s) (.ref m) (.ref h) .null .null .null 0)) := fx_up fx_rf (by simp)
  have F4 : fx [x] (g_up g3 x (xk (.ref t) (.ref s) (.ref m) .null .null .null .null 0)) (g_up g4 x (xk (.ref t) (.ref s) (.ref m) (.ref h) .null .null .null 0)) := fx_tr (fx_nil hf_h) Fx4
  have hx4 : (g_up g4 x (xk (.ref t) (.ref s) (.ref m) (.ref h) .null .null .null 0)) x = some (xk (.ref t) (.ref s) (.ref m) (.ref h) .null .null .null 0) := g_up_s
  have hT_h := his_fx0 hT_h Fx4 (n1x m_h (by simp)) (n1x m_ha (by simp))
  have N4 := nd_fx N4 Fx4
  conv => whnf
  refine ⟨by first | omega | exact Nat.le_of_ble_eq_true rfl | (simp only [dl1, dl2, dl3, dl4, dl5, dl6]; omega), by first | omega | exact Nat.le_of_ble_eq_true rfl | (simp only [dl1, dl2, dl3, dl4, dl5, dl6]; omega), fun c h_c => ?_⟩
  conv => whnf
  refine ⟨(Nat.le_of_ble_eq_true rfl), _, _, _, c_C_init (U := []) hfl g_up_s, by first | omega | exact Nat.le_of_ble_eq_true rfl | (simp only [dl1, dl2, dl3, dl4, dl5, dl6]; omega), by first | omega | exact Nat.le_of_ble_eq_true rfl | (simp only [dl1, dl2, dl3, dl4, dl5, dl6]; omega), fun v g5 hh => ?_, fun C g5 hh => ?_⟩
  rotate_left
  · obtain ⟨qa, qb, hv, -⟩ := hh
    cases hv
  obtain ⟨co, cn, hv, h_co, h_cn, hT_c, hf_c⟩ := hh
  cases hv
  have n_co : co ≠ c := fun z => by rw [z, g_up_s] at h_co; cases h_co
  have n_cn : cn ≠ c := fun z => by rw [z, g_up_s] at h_cn; cases h_cn
  rw [g_up_n n_co] at h_co
  rw [g_up_n n_cn] at h_cn
  have hf_c : fx [] (g_up g4 x (xk (.ref t) (.ref s) (.ref m) (.ref h) .null .null .null 0)) g5 := fx_drop (fx_tr (fx_new fx_rf h_c) hf_c) h_c
  obtain ⟨f_c, f1_c, c_c, c_co, c_cn, nAB, -⟩ := id hT_c
  have m_c := nd_n N4 h_c
  have m_co := nd_n N4 h_co
  have m_cn := nd_n N4 h_cn
  have N5 : nd (cn :: co :: c :: [ha, h, ma, m, sa, s, bt, rd, t, x]) g5 := nd_c (nd_c (nd_c (nd_fx N4 hf_c) m_c (nn_of c_c)) (by rw [List.mem_cons, not_or]; exact ⟨n_co, m_co⟩) (nn_of c_co)) (by rw [List.mem_cons, List.mem_cons, not_or, not_or]; exact ⟨nAB.symm, n_cn, m_cn⟩) (nn_of c_cn)
  conv => whnf
  refine ⟨_, (fx_at hf_c hx4 (by simp)), by simp, rfl, rfl, ?_⟩
  have Fx5 : fx [x] g5 (g_up g5 x (xk (.ref t) (.ref s) (.ref m) (.ref h) (.ref c) .null .null 0)) := fx_up fx_rf (by simp)
  have F5 : fx [x] (g_up g4 x (xk (.ref t) (.ref s) (.ref m) (.ref h) .null .null .null 0)) (g_up g5 x (xk (.ref t) (.ref s) (.ref m) (.ref h) (.ref c) .null .null 0)) := fx_tr (fx_nil hf_c) Fx5
  have hx5 : (g_up g5 x (xk (.ref t) (.ref s) (.ref m) (.ref h) (.ref c) .null .null 0)) x = some (xk (.ref t) (.ref s) (.ref m) (.ref h) (.ref c) .null .null 0) := g_up_s
  have hT_c := chs_fx0 hT_c Fx5 (n1x m_c (by simp)) (n1x m_co (by simp)) (n1x m_cn (by simp))
  have N5 := nd_fx N5 Fx5
  conv => whnf
  refine ⟨by first | omega | exact Nat.le_of_ble_eq_true rfl | (simp only [dl1, dl2, dl3, dl4, dl5, dl6]; omega), by first | omega | exact Nat.le_of_ble_eq_true rfl | (simp only [dl1, dl2, dl3, dl4, dl5, dl6]; omega), fun d h_d => ?_⟩
  conv => whnf
  refine ⟨(Nat.le_of_ble_eq_true rfl), _, _, _, c_C_init (U := []) hfl g_up_s, by first | omega | exact Nat.le_of_ble_eq_true rfl | (simp only [dl1, dl2, dl3, dl4, dl5, dl6]; omega), by first | omega | exact Nat.le_of_ble_eq_true rfl | (simp only [dl1, dl2, dl3, dl4, dl5, dl6]; omega), fun v g6 hh => ?_, fun C g6 hh => ?_⟩
  rotate_left
  · obtain ⟨qa, qb, hv, -⟩ := hh
    cases hv
  obtain ⟨do_, dn, hv, h_do_, h_dn, hT_d, hf_d⟩ := hh
  cases hv
  have n_do_ : do_ ≠ d := fun z => by rw [z, g_up_s] at h_do_; cases h_do_
  have n_dn : dn ≠ d := fun z => by rw [z, g_up_s] at h_dn; cases h_dn
  rw [g_up_n n_do_] at h_do_
  rw [g_up_n n_dn] at h_dn
  have hf_d : fx [] (g_up g5 x (xk (.ref t) (.ref s) (.ref m) (.ref h) (.ref c) .null .null 0)) g6 := fx_drop (fx_tr (fx_new fx_rf h_d) hf_d) h_d
  obtain ⟨f_d, f1_d, c_d, c_do_, c_dn, nAB, -⟩ := id hT_d
  have m_d := nd_n N5 h_d
  have m_do_ := nd_n N5 h_do_
  have m_dn := nd_n N5 h_dn
  have N6 : nd (dn :: do_ :: d :: [cn, co, c, ha, h, ma, m, sa, s, bt, rd, t, x]) g6 := nd_c (nd_c (nd_c (nd_fx N5 hf_d) m_d (nn_of c_d)) (by rw [List.mem_cons, not_or]; exact ⟨n_do_, m_do_⟩) (nn_of c_do_)) (by rw [List.mem_cons, List.mem_cons, not_or, not_or]; exact ⟨nAB.symm, n_dn, m_dn⟩) (nn_of c_dn)
  conv => whnf
  refine ⟨_, (fx_at hf_d hx5 (by simp)), by simp, rfl, rfl, ?_⟩
  have Fx6 : fx [x] g6 (g_up g6 x (xk (.ref t) (.ref s) (.ref m) (.ref h) (.ref c) (.ref d) .null 0)) := fx_up fx_rf (by simp)
  have F6 : fx [x] (g_up g5 x (xk (.ref t) (.ref s) (.ref m) (.ref h) (.ref c) .null .null 0)) (g_up g6 x (xk (.ref t) (.ref s) (.ref m) (.ref h) (.ref c) (.ref d) .null 0)) := fx_tr (fx_nil hf_d) Fx6
  have hx6 : (g_up g6 x (xk (.ref t) (.ref s) (.ref m) (.ref h) (.ref c) (.ref d) .null 0)) x = some (xk (.ref t) (.ref s) (.ref m) (.ref h) (.ref c) (.ref d) .null 0) := g_up_s
  have hT_d := chs_fx0 hT_d Fx6 (n1x m_d (by simp)) (n1x m_do_ (by simp)) (n1x m_dn (by simp))
  have N6 := nd_fx N6 Fx6
  conv => whnf
  refine ⟨by first | omega | exact Nat.le_of_ble_eq_true rfl | (simp only [dl1, dl2, dl3, dl4, dl5, dl6]; omega), by first | omega | exact Nat.le_of_ble_eq_true rfl | (simp only [dl1, dl2, dl3, dl4, dl5, dl6]; omega), fun r h_r => ?_⟩
  conv => whnf
  refine ⟨(Nat.le_of_ble_eq_true rfl), _, _, _, c_R_init (U := []) hfl g_up_s, by first | omega | exact Nat.le_of_ble_eq_true rfl | (simp only [dl1, dl2, dl3, dl4, dl5, dl6]; omega), by first | omega | exact Nat.le_of_ble_eq_true rfl | (simp only [dl1, dl2, dl3, dl4, dl5, dl6]; omega), fun v g7 hh => ?_, fun C g7 hh => ?_⟩
  rotate_left
  · obtain ⟨qa, hv, -⟩ := hh
    cases hv
  obtain ⟨ra, hv, h_ra, hT_r, hf_r⟩ := hh
  cases hv
  have n_ra : ra ≠ r := fun z => by rw [z, g_up_s] at h_ra; cases h_ra
  rw [g_up_n n_ra] at h_ra
  have hf_r : fx [] (g_up g6 x (xk (.ref t) (.ref s) (.ref m) (.ref h) (.ref c) (.ref d) .null 0)) g7 := fx_drop (fx_tr (fx_new fx_rf h_r) hf_r) h_r
  obtain ⟨f_r, c_r, c_ra, -⟩ := id hT_r
  have m_r := nd_n N6 h_r
  have m_ra := nd_n N6 h_ra
  have N7 : nd (ra :: r :: [dn, do_, d, cn, co, c, ha, h, ma, m, sa, s, bt, rd, t, x]) g7 := nd_c (nd_c (nd_fx N6 hf_r) m_r (nn_of c_r)) (by rw [List.mem_cons, not_or]; exact ⟨n_ra, m_ra⟩) (nn_of c_ra)
  conv => whnf
  refine ⟨_, (fx_at hf_r hx6 (by simp)), by simp, rfl, rfl, ?_⟩
  have Fx7 : fx [x] g7 (g_up g7 x (xk (.ref t) (.ref s) (.ref m) (.ref h) (.ref c) (.ref d) (.ref r) 0)) := fx_up fx_rf (by simp)
  have F7 : fx [x] (g_up g6 x (xk (.ref t) (.ref s) (.ref m) (.ref h) (.ref c) (.ref d) .null 0)) (g_up g7 x (xk (.ref t) (.ref s) (.ref m) (.ref h) (.ref c) (.ref d) (.ref r) 0)) := fx_tr (fx_nil hf_r) Fx7
  have hx7 : (g_up g7 x (xk (.ref t) (.ref s) (.ref m) (.ref h) (.ref c) (.ref d) (.ref r) 0)) x = some (xk (.ref t) (.ref s) (.ref m) (.ref h) (.ref c) (.ref d) (.ref r) 0) := g_up_s
  have hT_r := tr_fx0 hT_r Fx7 (n1x m_r (by simp)) (n1x m_ra (by simp))
  have N7 := nd_fx N7 Fx7
  conv => whnf
  refine ⟨_, hx7, by simp, rfl, rfl, ?_⟩
  conv => whnf
  refine ⟨_, g_up_s, by simp, rfl, rfl, ?_⟩
  conv => whnf
  refine ⟨_, g_up_s, by simp, rfl, rfl, ?_⟩
  conv => whnf
  refine ⟨_, g_up_s, by simp, rfl, rfl, ?_⟩
  conv => whnf
  refine ⟨rfl, ?_, by first | omega | exact Nat.le_of_ble_eq_true rfl | (simp only [dl1, dl2, dl3, dl4, dl5, dl6]; omega), by first | omega | exact Nat.le_of_ble_eq_true rfl | (simp only [dl1, dl2, dl3, dl4, dl5, dl6]; omega)⟩
  have F8 : fx [x] (g_up g7 x (xk (.ref t) (.ref s) (.ref m) (.ref h) (.ref c) (.ref d) (.ref r) 0)) (g_up (g_up (g_up (g_up (g_up g7 x (xk (.ref t) (.ref s) (.ref m) (.ref h) (.ref c) (.ref d) (.ref r) 0)) x (xk (.ref t) (.ref s) (.ref m) (.ref h) (.ref c) (.ref d) (.ref r) (-1))) x (xk (.ref t) (.ref s) (.ref m) (.ref h) (.ref c) (.ref d) (.ref r) (-1))) x (xk (.ref t) (.ref s) (.ref m) (.ref h) (.ref c) (.ref d) (.ref r) (-1))) x (xk (.ref t) (.ref s) (.ref m) (.ref h) (.ref c) (.ref d) (.ref r) (-1))) := fx_up (fx_up (fx_up (fx_up fx_rf (by simp)) (by simp)) (by simp)) (by simp)
  have E7 := F8
  have E6 := fx_tr F7 E7
  have E5 := fx_tr F6 E6
  have E4 := fx_tr F5 E5
  have E3 := fx_tr F4 E4
  have E2 := fx_tr F3 E3
  have E1 := fx_tr F2 E2
  have N8 := nd_fx N7 F8
  refine ⟨rfl, fx_tr F1 E1, fun i => [dn, do_, d, cn, co, c, ha, h, ma, m, sa, s, bt, rd, t, x].getD (15 - i) 0, r, rfl, ?_⟩
  have hnr : r ∉ [dn, do_, d, cn, co, c, ha, h, ma, m, sa, s, bt, rd, t, x] := m_r
  have hnra : ra ∉ [dn, do_, d, cn, co, c, ha, h, ma, m, sa, s, bt, rd, t, x] := m_ra
  have hsub : ∀ q, q ∉ [dn, do_, d, cn, co, c, ha, h, ma, m, sa, s, bt, rd, t, x] → q ∉ UU (fun i => [dn, do_, d, cn, co, c, ha, h, ma, m, sa, s, bt, rd, t, x].getD (15 - i) 0) := fun q hq hm => hq (by
    have hm2 : q ∈ [x, t, rd, bt, s, sa, m, ma, h, ha, c, co, cn, d, do_, dn] := hm
    simp only [List.mem_cons, List.not_mem_nil, or_false] at hm2 ⊢
    rcases hm2 with h | h | h | h | h | h | h | h | h | h | h | h | h | h | h | h <;> simp only [h, true_or, or_true])
  refine ⟨?_, g_up_s, isTp_fx hT1 E1 (n1x mt (by simp)) (n1x mrd (by simp)) (n1x mbt (by simp)), tr_nil (tr_fx0 hT_s E2 (n1x m_s (by simp)) (n1x m_sa (by simp))), tr_nil (tr_fx0 hT_m E3 (n1x m_m (by simp)) (n1x m_ma (by simp))), ⟨ra, tr_nil (tr_fx0 hT_r E7 (n1x m_r (by simp)) (n1x m_ra (by simp))), hsub _ hnr, hsub _ hnra⟩, his_nil (his_fx0 hT_h E4 (n1x m_h (by simp)) (n1x m_ha (by simp))), chs_nil (chs_fx0 hT_c E5 (n1x m_c (by simp)) (n1x m_co (by simp)) (n1x m_cn (by simp))), [], chs_nil (chs_fx0 hT_d E6 (n1x m_d (by simp)) (n1x m_do_ (by simp)) (n1x m_dn (by simp)))⟩
  have hp := List.pairwise_iff_getElem.mp (List.pairwise_cons.mp (List.pairwise_cons.mp N8.1).2).2
  intro i j hi hj hij
  have hg : ∀ k, k < 16 → [dn, do_, d, cn, co, c, ha, h, ma, m, sa, s, bt, rd, t, x].getD k 0 = [dn, do_, d, cn, co, c, ha, h, ma, m, sa, s, bt, rd, t, x][k]! := fun k hk => by
    rw [List.getD_eq_getElem?_getD, List.getElem?_eq_getElem (by simpa using hk), List.getElem!_eq_getElem?_getD, List.getElem?_eq_getElem (by simpa using hk)]
    rfl
  have hij : [dn, do_, d, cn, co, c, ha, h, ma, m, sa, s, bt, rd, t, x].getD (15 - i) 0 = [dn, do_, d, cn, co, c, ha, h, ma, m, sa, s, bt, rd, t, x].getD (15 - j) 0 := hij
  rw [List.getD_eq_getElem?_getD, List.getD_eq_getElem?_getD, List.getElem?_eq_getElem (by simp; omega), List.getElem?_eq_getElem (by simp; omega)] at hij
  rcases Nat.lt_trichotomy i j with hlt | hlt | hlt
  · exact absurd hij.symm (hp (15 - j) (15 - i) (by simp; omega) (by simp; omega) (by omega))
  · exact hlt
  · exact absurd hij (hp (15 - i) (15 - j) (by simp; omega) (by simp; omega) (by omega))
end KI
