/-! The law's loop, and what stands before it -/
section LAWL
variable {l : Launch} {D : va_G} {aC : Nat → ClassId}
variable {sa o MC MS L k0 n0 : Nat} {xs : Nat → Int32} {ad am : Nat → Nat} {g0 : g_H} {P : x_O → g_H → Prop}
def l_I (sa L : Nat) (ad am : Nat → Nat) (o k0 n0 : Nat) : Nat → Nat → w_L → g_H → Nat → Nat → Prop := fun pc d lv g k n => ∃ i thr, lv = l_lv sa ad am o i ∧ lw ad am o g thr ∧ k ≤ k0 + 16 * i ∧ n ≤ n0 + 4000 * i ∧ (pc = 23 ∧ 6 * i ≤ L ∧ d = 2 * (L - 6 * i) + 1 ∨ pc ∈ [132, 203, 228, 308, 321, 377, 413, 461, 505, 561, 617, 641, 697, 753, 809, 822, 871, 948, 973] ∧ 6 * i + 6 ≤ L ∧ d = 2 * (L - 6 * i))
theorem l_b0 {MS L : Nat} (h : 1231455 + 667 * L ≤ MS) : 0 + 11 ≤ MS ∧ 0 + 11 + 1557 ≤ MS ∧ 0 + 11 + 1557 + 24 ≤ MS := by omega
theorem l_b1 {MS L : Nat} (h : 1231455 + 667 * L ≤ MS) : 0 + 11 + 1557 + 24 + 1229862 ≤ MS := by omega
theorem l_b2 {MS L : Nat} (h : 1231455 + 667 * L ≤ MS) : 0 + 11 + 1557 + 24 + 1229862 + 1 ≤ MS := by omega
theorem l_b3 : 0 + 11 + 1557 + 24 + 1229862 + 1 ≤ 1231455 := by omega
theorem l_sub6 {L : Nat} (hL : L < 2 ^ 20) : (nI L - nI 6).toInt = (L : Int) - 6 := by
  rw [Int32.toInt_sub, nI_toInt (by omega), nI_toInt (by decide)]
  refine Int.bmod_eq_of_le ?_ ?_ <;> omega
set_option maxHeartbeats 2000000 in
set_option maxRecDepth 8192 in
theorem l_lstep (hfl : l.flags = pinnedFlags ++ [noTraceFlag]) (hL : L < 2 ^ 20) (hMC : ∀ i, 6 * i ≤ L → k0 + 16 * i ≤ MC) (hMS : ∀ i, 6 * i ≤ L → n0 + 4000 * i ≤ MS) (hP : ∀ g, P (.inl (some (.int (nI 1)))) g) : ∀ d pc lv g k n, l_I sa L ad am o k0 n0 pc d lv g k n → l_q l D aC sa L xs MC MS P (fun pc lv st g k n => st = [] ∧ ∃ d' lv1, d' < d ∧ l_I sa L ad am o k0 n0 pc d' lv1 g k n ∧ w_sub lv lv1) 80 pc lv [] g k n := by
  rintro d pc lv g k n ⟨i, thr, rfl, hl, hk, hn, (⟨rfl, hi, rfl⟩ | ⟨hpc, hi, rfl⟩)⟩
  · have hc := hMC i hi
    have hs := hMS i hi
    conv => whnf
    refine Or.inr ⟨L, xs, rfl, ?_⟩
    have hgt : w_cmp .gt (nI (6 * i)) (nI L - nI 6) ↔ L < 6 * i + 6 := by
      show (nI L - nI 6).toInt < (nI (6 * i)).toInt ↔ _
      rw [l_sub6 hL, nI_toInt (by omega)]
      omega
    conv => whnf
    refine ⟨fun h5 => ?_, fun h5 => ?_⟩
    · conv => whnf
      refine ⟨⟨_, rfl, rfl⟩, (hP _), by first | omega | exact Nat.le_of_ble_eq_true rfl | (simp only [dl1, dl2, dl3, dl4, dl5, dl6]; omega), by first | omega | exact Nat.le_of_ble_eq_true rfl | (simp only [dl1, dl2, dl3, dl4, dl5, dl6]; omega)⟩
    · have h6 : ¬ L < 6 * i + 6 := fun z => h5 (hgt.mpr z)
      conv => whnf
      refine Or.inr ⟨_, _, 6 * i, rfl, rfl, by omega, by omega, ?_⟩
      conv => whnf
      refine ⟨⟨fun _ => ?_, fun _ => ?_, fun _ => ?_, fun _ => ?_, fun _ => ?_, fun _ => ?_, fun _ => ?_, fun _ => ?_, fun _ => ?_, fun _ => ?_, fun _ => ?_, fun _ => ?_, fun _ => ?_, fun _ => ?_, fun _ => ?_, fun _ => ?_, fun _ => ?_, fun _ => ?_, fun _ => ?_, trivial⟩, fun h0 => ?_⟩
      · exact ⟨rfl, _, _, by omega, ⟨i, thr, rfl, hl, hk, hn, Or.inr ⟨by decide, by omega, rfl⟩⟩, rfl, rfl, rfl, rfl, rfl, trivial⟩
      · exact ⟨rfl, _, _, by omega, ⟨i, thr, rfl, hl, hk, hn, Or.inr ⟨by decide, by omega, rfl⟩⟩, rfl, rfl, rfl, rfl, rfl, trivial⟩
      · exact ⟨rfl, _, _, by omega, ⟨i, thr, rfl, hl, hk, hn, Or.inr ⟨by decide, by omega, rfl⟩⟩, rfl, rfl, rfl, rfl, rfl, trivial⟩
      · exact ⟨rfl, _, _, by omega, ⟨i, thr, rfl, hl, hk, hn, Or.inr ⟨by decide, by omega, rfl⟩⟩, rfl, rfl, rfl, rfl, rfl, trivial⟩
      · exact ⟨rfl, _, _, by omega, ⟨i, thr, rfl, hl, hk, hn, Or.inr ⟨by decide, by omega, rfl⟩⟩, rfl, rfl, rfl, rfl, rfl, trivial⟩
      · exact ⟨rfl, _, _, by omega, ⟨i, thr, rfl, hl, hk, hn, Or.inr ⟨by decide, by omega, rfl⟩⟩, rfl, rfl, rfl, rfl, rfl, trivial⟩
      · exact ⟨rfl, _, _, by omega, ⟨i, thr, rfl, hl, hk, hn, Or.inr ⟨by decide, by omega, rfl⟩⟩, rfl, rfl, rfl, rfl, rfl, trivial⟩
      · exact ⟨rfl, _, _, by omega, ⟨i, thr, rfl, hl, hk, hn, Or.inr ⟨by decide, by omega, rfl⟩⟩, rfl, rfl, rfl, rfl, rfl, trivial⟩
      · exact ⟨rfl, _, _, by omega, ⟨i, thr, rfl, hl, hk, hn, Or.inr ⟨by decide, by omega, rfl⟩⟩, rfl, rfl, rfl, rfl, rfl, trivial⟩
      · exact ⟨rfl, _, _, by omega, ⟨i, thr, rfl, hl, hk, hn, Or.inr ⟨by decide, by omega, rfl⟩⟩, rfl, rfl, rfl, rfl, rfl, trivial⟩
      · exact ⟨rfl, _, _, by omega, ⟨i, thr, rfl, hl, hk, hn, Or.inr ⟨by decide, by omega, rfl⟩⟩, rfl, rfl, rfl, rfl, rfl, trivial⟩
      · exact ⟨rfl, _, _, by omega, ⟨i, thr, rfl, hl, hk, hn, Or.inr ⟨by decide, by omega, rfl⟩⟩, rfl, rfl, rfl, rfl, rfl, trivial⟩
      · exact ⟨rfl, _, _, by omega, ⟨i, thr, rfl, hl, hk, hn, Or.inr ⟨by decide, by omega, rfl⟩⟩, rfl, rfl, rfl, rfl, rfl, trivial⟩
      · exact ⟨rfl, _, _, by omega, ⟨i, thr, rfl, hl, hk, hn, Or.inr ⟨by decide, by omega, rfl⟩⟩, rfl, rfl, rfl, rfl, rfl, trivial⟩
      · exact ⟨rfl, _, _, by omega, ⟨i, thr, rfl, hl, hk, hn, Or.inr ⟨by decide, by omega, rfl⟩⟩, rfl, rfl, rfl, rfl, rfl, trivial⟩
      · exact ⟨rfl, _, _, by omega, ⟨i, thr, rfl, hl, hk, hn, Or.inr ⟨by decide, by omega, rfl⟩⟩, rfl, rfl, rfl, rfl, rfl, trivial⟩
      · exact ⟨rfl, _, _, by omega, ⟨i, thr, rfl, hl, hk, hn, Or.inr ⟨by decide, by omega, rfl⟩⟩, rfl, rfl, rfl, rfl, rfl, trivial⟩
      · exact ⟨rfl, _, _, by omega, ⟨i, thr, rfl, hl, hk, hn, Or.inr ⟨by decide, by omega, rfl⟩⟩, rfl, rfl, rfl, rfl, rfl, trivial⟩
      · exact ⟨rfl, _, _, by omega, ⟨i, thr, rfl, hl, hk, hn, Or.inr ⟨by decide, by omega, rfl⟩⟩, rfl, rfl, rfl, rfl, rfl, trivial⟩
      · conv => whnf
        exact ⟨rfl, _, _, by omega, ⟨i + 1, thr, rfl, hl, by omega, by omega, Or.inl ⟨rfl, by omega, rfl⟩⟩, rfl, rfl, rfl, rfl, s6 i, trivial⟩
  · have hc := hMC (i + 1) (by omega)
    have hs := hMS (i + 1) (by omega)
    have hK : l_K (fun pc lv st g k n => st = [] ∧ ∃ d' lv1, d' < 2 * (L - 6 * i) ∧ l_I sa L ad am o k0 n0 pc d' lv1 g k n ∧ w_sub lv lv1) sa ad am o i k n := fun lv g1 k1 n1 t h1 h2 h3 h4 => ⟨rfl, _, _, by omega, ⟨i + 1, t, rfl, h1, by omega, by omega, Or.inl ⟨rfl, by omega, rfl⟩⟩, h4⟩
    simp only [List.mem_cons, List.not_mem_nil, or_false] at hpc
    rcases hpc with rfl | rfl | rfl | rfl | rfl | rfl | rfl | rfl | rfl | rfl | rfl | rfl | rfl | rfl | rfl | rfl | rfl | rfl | rfl
    · exact l_feed hfl hl hi hL (by omega) (by omega) hK
    · exact l_end hfl hl hi hL (by omega) (by omega) hK
    · exact l_make hfl hl hi hL (by omega) (by omega) hK
    · exact l_choose hfl hl hi hL (by omega) (by omega) hK
    · exact l_write hfl hl hi hL (by omega) (by omega) hK
    · exact l_cut hfl hl hi hL (by omega) (by omega) hK
    · exact l_set hfl hl hi hL (by omega) (by omega) hK
    · exact l_remove hfl hl hi hL (by omega) (by omega) hK
    · exact l_begin hfl hl hi hL (by omega) (by omega) hK
    · exact l_step hfl hl hi hL (by omega) (by omega) hK
    · exact l_crash hfl hl hi hL (by omega) (by omega) hK
    · exact l_regress hfl hl hi hL (by omega) (by omega) hK
    · exact l_restore hfl hl hi hL (by omega) (by omega) hK
    · exact l_prune hfl hl hi hL (by omega) (by omega) hK
    · exact l_differ hfl hl hi hL (by omega) (by omega) hK
    · exact l_entry hfl hl hi hL (by omega) (by omega) hK
    · exact l_at hfl hl hi hL (by omega) (by omega) hK
    · exact l_about hfl hl hi hL (by omega) (by omega) hK
    · exact l_session hfl hl hi hL (by omega) (by omega) hK
/-- the whole of the law, from its first instruction on -/
theorem l_all (hfl : l.flags = pinnedFlags ++ [noTraceFlag]) (hL : L < 2 ^ 20) (hMC : 35 + 3 * L ≤ MC) (hMS : 1231455 + 667 * L ≤ MS) : k_T l D aC "MirrorKeepLaw" code 7 12 434 (some .boolean) [] false (some (sa, L, xs)) MC MS (fun _ => none) (fun oc _ => oc = .inl (some (.int (nI 1)))) 0 [(0, .ref sa)] [] (fun _ => none) 0 0 := by
  refine k_qrun (fun _ hh => by cases hh) ok_L_law [23] (fun pc lv st g k n => ∃ ad am o, pc = 23 ∧ st = [] ∧ lw ad am o g 0 ∧ k ≤ 35 ∧ n ≤ 1231455 ∧ w_sub lv (l_lv sa ad am o 0)) ?_ 80 ?_
  · rintro pc lv st g k n ⟨ad, am, o, rfl, rfl, hl, hk, hn, hs⟩
    refine k_sub hs (k_wh (fun _ hh => by cases hh) ok_L_law l_cuts (l_I sa L ad am o 35 1231455) 80 (l_lstep hfl hL (fun i hi => by omega) (fun i hi => by omega) (fun g => rfl)) (2 * (L - 6 * 0) + 1) 23 _ g k n ?_)
    exact ⟨0, 0, rfl, hl, by omega, by omega, Or.inl ⟨rfl, by omega, rfl⟩⟩
  · conv => whnf
    refine ⟨by omega, (l_b0 hMS).1, fun q1 h1 => ?_⟩
    conv => whnf
    refine ⟨(Nat.le_of_ble_eq_true rfl), _, _, _, c_K_init hfl g_up_s, by omega, (l_b0 hMS).2.1, fun v g1 hh => ?_, fun C g1 hh => ?_⟩
    rotate_left
    · cases hh.1
    obtain ⟨hv, hf, ad, rs, e0, hK⟩ := hh
    cases hv
    conv => whnf
    refine ⟨by omega, (l_b0 hMS).2.2, fun q2 h2 => ?_⟩
    have hK2 : cK ad (g_up g1 q2 (mw 0 (fun _ => q2))) _ _ _ _ _ _ _ _ _ _ _ _ := cK_fx hK (fx_new fx_rf h2)
    conv => whnf
    refine ⟨(Nat.le_of_ble_eq_true rfl), _, _, _, c_M_init hfl (x := q2) g_up_s, by omega, l_b1 hMS, fun v g3 hh => ?_, fun C g3 hh => ?_⟩
    rotate_left
    · cases hh.1
    obtain ⟨hv, hf2, am, A, F, e1, hm, hF, r⟩ := hh
    cases hv
    have hK3 := cK_fy hK2 (show fy _ g3 from fun q c hq hc => fx_at hf2 hq (fun z => by
      rw [List.mem_singleton.mp z, g_up_s] at hq
      cases hq
      exact hc (Or.inr (Or.inl ⟨_, rfl⟩))))
    conv => whnf
    refine ⟨1, rfl, by decide, by omega, l_b2 hMS, fun o ho => ?_⟩
    have hK4 := cK_fx hK3 (fx_new (a := o) (e := lc (fun _ => 0)) fx_rf ho)
    have hm4 := mg_fx hm (fx_new (a := o) (e := lc (fun _ => 0)) fx_rf ho)
    conv => whnf
    refine ⟨ad, am, o, rfl, rfl, ⟨_, _, _, _, _, _, _, _, _, _, _, _, _, _, _, _, _, _, _, _, _, hK4, hm4, hF, r, g_up_s, good_nil, rfl, nI_0.symm, by omega, Or.inl ⟨rfl, rfl, good_nil⟩⟩, by decide, l_b3, rfl, by rw [e0]; rfl, by rw [e1]; rfl, rfl, rfl, trivial⟩
end LAWL
