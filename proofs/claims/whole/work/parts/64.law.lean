/-! The law's loop: its cases -/
section LAW
variable {l : Launch} {D : va_G} {aC : Nat → ClassId}
abbrev l_lv (sa : Nat) (ad am : Nat → Nat) (o i : Nat) : w_L := [(0, .ref sa), (1, .ref (ad 0)), (2, .ref (am 0)), (3, .ref o), (4, .int (nI (6 * i)))]
abbrev l_cuts : List Nat := [23, 132, 203, 228, 308, 321, 377, 413, 461, 505, 561, 617, 641, 697, 753, 809, 822, 871, 948, 973]
theorem lw_z {ad am : Nat → Nat} {o thr : Nat} {g : g_H} (hl : lw ad am o g thr) : ∃ fs, g (ad 0) = some (.inr (0, fs)) := by
  obtain ⟨R, T, S, M, Rs, Hs, X, ch, st, tm, dn, rs, A, F, O, N, cp, tv, op, nX, f, h, -⟩ := hl
  exact ⟨_, h.2.1⟩
theorem lw_m {ad am : Nat → Nat} {o thr : Nat} {g : g_H} (hl : lw ad am o g thr) : ∃ A F, mg am A F g ∧ F 0 = nI thr := by
  obtain ⟨R, T, S, M, Rs, Hs, X, ch, st, tm, dn, rs, A, F, O, N, cp, tv, op, nX, f, h, h1, h2, -⟩ := hl
  exact ⟨A, F, h1, h2⟩
theorem s6 (i : Nat) : some (Value.int (nI (6 * i) + nI 6)) = some (Value.int (nI (6 * (i + 1)))) := congrArg (fun z => some (Value.int z)) (nI_add (6 * i) 6)
variable {sa o i k n MC MS L thr : Nat} {xs : Nat → Int32} {ad am : Nat → Nat} {g : g_H} {P : x_O → g_H → Prop} {KP : w_K}
/-- what is left to show behind a case -/
def l_K (KP : w_K) (sa : Nat) (ad am : Nat → Nat) (o i k n : Nat) : Prop := ∀ lv g1 k1 n1 t, lw ad am o g1 t → k1 ≤ k + 16 → n1 ≤ n + 4000 → w_sub lv (l_lv sa ad am o (i + 1)) → KP 23 lv [] g1 k1 n1
abbrev l_q (l : Launch) (D : va_G) (aC : Nat → ClassId) (sa L : Nat) (xs : Nat → Int32) (MC MS : Nat) (P : x_O → g_H → Prop) (KP : w_K) : Nat → w_K := k_q l D aC [] (some (sa, L, xs)) (some .boolean) MC MS P tb_L_law l_cuts KP
set_option maxRecDepth 8192 in
theorem l_feed (hfl : l.flags = pinnedFlags ++ [noTraceFlag]) (hl : lw ad am o g thr) (hi : 6 * i + 6 ≤ L) (hL : L < 2 ^ 20) (hk : k + 16 ≤ MC) (hn : n + 4000 ≤ MS) (hK : l_K KP sa ad am o i k n) : l_q l D aC sa L xs MC MS P KP 80 132 (l_lv sa ad am o i) [] g k n := by
  obtain ⟨fs, hz⟩ := lw_z hl
  obtain ⟨Q, hQ, hQP⟩ := pl_feed (l := l) (D := D) (aC := aC) hfl hl (a := xs (6 * i + 1)) (b := xs (6 * i + 2)) (c := xs (6 * i + 3)) (d := xs (6 * i + 4)) (e := xs (6 * i + 5))
  conv => whnf
  refine Or.inr ⟨_, _, 6 * i + 1, rfl, nI_add (6 * i) 1, by omega, by omega, ?_⟩
  conv => whnf
  refine Or.inr ⟨_, _, 6 * i + 2, rfl, nI_add (6 * i) 2, by omega, by omega, ?_⟩
  conv => whnf
  refine Or.inr ⟨_, _, 6 * i + 3, rfl, nI_add (6 * i) 3, by omega, by omega, ?_⟩
  conv => whnf
  refine Or.inr ⟨_, _, 6 * i + 4, rfl, nI_add (6 * i) 4, by omega, by omega, ?_⟩
  conv => whnf
  refine Or.inr ⟨_, _, 6 * i + 5, rfl, nI_add (6 * i) 5, by omega, by omega, ?_⟩
  conv => whnf
  refine ⟨⟨_, hz⟩, (Nat.le_of_ble_eq_true rfl), _, _, _, hQ, by first | omega | exact Nat.le_of_ble_eq_true rfl | (simp only [dl1, dl2, dl3, dl4, dl5, dl6]; omega), by first | omega | exact Nat.le_of_ble_eq_true rfl | (simp only [dl1, dl2, dl3, dl4, dl5, dl6]; omega), fun v g1 hh => ?_, fun C g1 hh => ?_⟩
  rotate_left
  · obtain ⟨hv, -⟩ := hQP _ _ hh
    cases hv
  obtain ⟨hv, ⟨A, F, hm⟩, Q2, hQ2, hP2⟩ := hQP _ _ hh
  cases hv
  conv => whnf
  refine Or.inr ⟨_, _, 6 * i + 1, rfl, nI_add (6 * i) 1, by omega, by omega, ?_⟩
  conv => whnf
  refine Or.inr ⟨_, _, 6 * i + 2, rfl, nI_add (6 * i) 2, by omega, by omega, ?_⟩
  conv => whnf
  refine Or.inr ⟨_, _, 6 * i + 3, rfl, nI_add (6 * i) 3, by omega, by omega, ?_⟩
  conv => whnf
  refine Or.inr ⟨_, _, 6 * i + 4, rfl, nI_add (6 * i) 4, by omega, by omega, ?_⟩
  conv => whnf
  refine Or.inr ⟨_, _, 6 * i + 5, rfl, nI_add (6 * i) 5, by omega, by omega, ?_⟩
  conv => whnf
  refine ⟨⟨_, hm.z⟩, (Nat.le_of_ble_eq_true rfl), _, _, _, hQ2, by first | omega | exact Nat.le_of_ble_eq_true rfl | (simp only [dl1, dl2, dl3, dl4, dl5, dl6]; omega), by first | omega | exact Nat.le_of_ble_eq_true rfl | (simp only [dl1, dl2, dl3, dl4, dl5, dl6]; omega), fun v g2 hh => ?_, fun C g2 hh => ?_⟩
  rotate_left
  · obtain ⟨hv, -⟩ := hP2 _ _ hh
    cases hv
  obtain ⟨hv, t, hl2⟩ := hP2 _ _ hh
  cases hv
  conv => whnf
  exact hK _ _ _ _ _ hl2 (by omega) (by omega) ⟨rfl, rfl, rfl, rfl, s6 i, trivial⟩
set_option maxRecDepth 8192 in
theorem l_end (hfl : l.flags = pinnedFlags ++ [noTraceFlag]) (hl : lw ad am o g thr) (hi : 6 * i + 6 ≤ L) (hL : L < 2 ^ 20) (hk : k + 16 ≤ MC) (hn : n + 4000 ≤ MS) (hK : l_K KP sa ad am o i k n) : l_q l D aC sa L xs MC MS P KP 80 203 (l_lv sa ad am o i) [] g k n := by
  obtain ⟨fs, hz⟩ := lw_z hl
  obtain ⟨Q, hQ, hQP⟩ := pl_end (l := l) (D := D) (aC := aC) hfl hl (x := xs (6 * i + 1))
  conv => whnf
  refine Or.inr ⟨_, _, 6 * i + 1, rfl, nI_add (6 * i) 1, by omega, by omega, ?_⟩
  conv => whnf
  refine ⟨⟨_, hz⟩, (Nat.le_of_ble_eq_true rfl), _, _, _, hQ, by first | omega | exact Nat.le_of_ble_eq_true rfl | (simp only [dl1, dl2, dl3, dl4, dl5, dl6]; omega), by first | omega | exact Nat.le_of_ble_eq_true rfl | (simp only [dl1, dl2, dl3, dl4, dl5, dl6]; omega), fun v g1 hh => ?_, fun C g1 hh => ?_⟩
  rotate_left
  · obtain ⟨x, hv, -⟩ := hQP _ _ hh
    cases hv
  obtain ⟨x, hv, ⟨A, F, hm⟩, Q2, hQ2, hP2⟩ := hQP _ _ hh
  cases hv
  conv => whnf
  refine Or.inr ⟨_, _, 6 * i + 1, rfl, nI_add (6 * i) 1, by omega, by omega, ?_⟩
  conv => whnf
  refine ⟨⟨_, hm.z⟩, (Nat.le_of_ble_eq_true rfl), _, _, _, hQ2, by first | omega | exact Nat.le_of_ble_eq_true rfl | (simp only [dl1, dl2, dl3, dl4, dl5, dl6]; omega), by first | omega | exact Nat.le_of_ble_eq_true rfl | (simp only [dl1, dl2, dl3, dl4, dl5, dl6]; omega), fun v g2 hh => ?_, fun C g2 hh => ?_⟩
  rotate_left
  · obtain ⟨hv, -⟩ := hP2 _ _ hh
    cases hv
  obtain ⟨hv, t, hl2⟩ := hP2 _ _ hh
  cases hv
  conv => whnf
  refine ⟨fun _ => ?_, fun h => absurd rfl h⟩
  conv => whnf
  exact hK _ _ _ _ _ hl2 (by omega) (by omega) ⟨rfl, rfl, rfl, rfl, s6 i, trivial⟩
set_option maxRecDepth 8192 in
theorem l_choose (hfl : l.flags = pinnedFlags ++ [noTraceFlag]) (hl : lw ad am o g thr) (hi : 6 * i + 6 ≤ L) (hL : L < 2 ^ 20) (hk : k + 16 ≤ MC) (hn : n + 4000 ≤ MS) (hK : l_K KP sa ad am o i k n) : l_q l D aC sa L xs MC MS P KP 80 308 (l_lv sa ad am o i) [] g k n := by
  obtain ⟨fs, hz⟩ := lw_z hl
  obtain ⟨Q, hQ, hQP⟩ := pl_choose (l := l) (D := D) (aC := aC) hfl hl
  conv => whnf
  refine ⟨⟨_, hz⟩, (Nat.le_of_ble_eq_true rfl), _, _, _, hQ, by first | omega | exact Nat.le_of_ble_eq_true rfl | (simp only [dl1, dl2, dl3, dl4, dl5, dl6]; omega), by first | omega | exact Nat.le_of_ble_eq_true rfl | (simp only [dl1, dl2, dl3, dl4, dl5, dl6]; omega), fun v g1 hh => ?_, fun C g1 hh => ?_⟩
  rotate_left
  · obtain ⟨x, hv, -⟩ := hQP _ _ hh
    cases hv
  obtain ⟨x, hv, ⟨A, F, hm⟩, Q2, hQ2, hP2⟩ := hQP _ _ hh
  cases hv
  conv => whnf
  refine ⟨⟨_, hm.z⟩, (Nat.le_of_ble_eq_true rfl), _, _, _, hQ2, by first | omega | exact Nat.le_of_ble_eq_true rfl | (simp only [dl1, dl2, dl3, dl4, dl5, dl6]; omega), by first | omega | exact Nat.le_of_ble_eq_true rfl | (simp only [dl1, dl2, dl3, dl4, dl5, dl6]; omega), fun v g2 hh => ?_, fun C g2 hh => ?_⟩
  rotate_left
  · obtain ⟨hv, -⟩ := hP2 _ _ hh
    cases hv
  obtain ⟨hv, t, hl2⟩ := hP2 _ _ hh
  cases hv
  conv => whnf
  refine ⟨fun _ => ?_, fun h => absurd rfl h⟩
  conv => whnf
  exact hK _ _ _ _ _ hl2 (by omega) (by omega) ⟨rfl, rfl, rfl, rfl, s6 i, trivial⟩
set_option maxRecDepth 8192 in
theorem l_differ (hfl : l.flags = pinnedFlags ++ [noTraceFlag]) (hl : lw ad am o g thr) (hi : 6 * i + 6 ≤ L) (hL : L < 2 ^ 20) (hk : k + 16 ≤ MC) (hn : n + 4000 ≤ MS) (hK : l_K KP sa ad am o i k n) : l_q l D aC sa L xs MC MS P KP 80 809 (l_lv sa ad am o i) [] g k n := by
  obtain ⟨fs, hz⟩ := lw_z hl
  obtain ⟨Q, hQ, hQP⟩ := pl_differ (l := l) (D := D) (aC := aC) hfl hl
  conv => whnf
  refine ⟨⟨_, hz⟩, (Nat.le_of_ble_eq_true rfl), _, _, _, hQ, by first | omega | exact Nat.le_of_ble_eq_true rfl | (simp only [dl1, dl2, dl3, dl4, dl5, dl6]; omega), by first | omega | exact Nat.le_of_ble_eq_true rfl | (simp only [dl1, dl2, dl3, dl4, dl5, dl6]; omega), fun v g1 hh => ?_, fun C g1 hh => ?_⟩
  rotate_left
  · obtain ⟨x, hv, -⟩ := hQP _ _ hh
    cases hv
  obtain ⟨x, hv, ⟨A, F, hm⟩, Q2, hQ2, hP2⟩ := hQP _ _ hh
  cases hv
  conv => whnf
  refine ⟨⟨_, hm.z⟩, (Nat.le_of_ble_eq_true rfl), _, _, _, hQ2, by first | omega | exact Nat.le_of_ble_eq_true rfl | (simp only [dl1, dl2, dl3, dl4, dl5, dl6]; omega), by first | omega | exact Nat.le_of_ble_eq_true rfl | (simp only [dl1, dl2, dl3, dl4, dl5, dl6]; omega), fun v g2 hh => ?_, fun C g2 hh => ?_⟩
  rotate_left
  · obtain ⟨hv, -⟩ := hP2 _ _ hh
    cases hv
  obtain ⟨hv, t, hl2⟩ := hP2 _ _ hh
  cases hv
  conv => whnf
  refine ⟨fun _ => ?_, fun h => absurd rfl h⟩
  conv => whnf
  exact hK _ _ _ _ _ hl2 (by omega) (by omega) ⟨rfl, rfl, rfl, rfl, s6 i, trivial⟩
set_option maxRecDepth 8192 in
theorem l_entry (hfl : l.flags = pinnedFlags ++ [noTraceFlag]) (hl : lw ad am o g thr) (hi : 6 * i + 6 ≤ L) (hL : L < 2 ^ 20) (hk : k + 16 ≤ MC) (hn : n + 4000 ≤ MS) (hK : l_K KP sa ad am o i k n) : l_q l D aC sa L xs MC MS P KP 80 822 (l_lv sa ad am o i) [] g k n := by
  obtain ⟨fs, hz⟩ := lw_z hl
  obtain ⟨Q, hQ, hQP⟩ := pl_entry (l := l) (D := D) (aC := aC) hfl hl (x := xs (6 * i + 1)) (y := xs (6 * i + 2)) (w := xs (6 * i + 3))
  conv => whnf
  refine Or.inr ⟨_, _, 6 * i + 1, rfl, nI_add (6 * i) 1, by omega, by omega, ?_⟩
  conv => whnf
  refine Or.inr ⟨_, _, 6 * i + 2, rfl, nI_add (6 * i) 2, by omega, by omega, ?_⟩
  conv => whnf
  refine Or.inr ⟨_, _, 6 * i + 3, rfl, nI_add (6 * i) 3, by omega, by omega, ?_⟩
  conv => whnf
  refine ⟨⟨_, hz⟩, (Nat.le_of_ble_eq_true rfl), _, _, _, hQ, by first | omega | exact Nat.le_of_ble_eq_true rfl | (simp only [dl1, dl2, dl3, dl4, dl5, dl6]; omega), by first | omega | exact Nat.le_of_ble_eq_true rfl | (simp only [dl1, dl2, dl3, dl4, dl5, dl6]; omega), fun v g1 hh => ?_, fun C g1 hh => ?_⟩
  rotate_left
  · obtain ⟨x, hv, -⟩ := hQP _ _ hh
    cases hv
  obtain ⟨x, hv, ⟨A, F, hm⟩, Q2, hQ2, hP2⟩ := hQP _ _ hh
  cases hv
  conv => whnf
  refine Or.inr ⟨_, _, 6 * i + 1, rfl, nI_add (6 * i) 1, by omega, by omega, ?_⟩
  conv => whnf
  refine Or.inr ⟨_, _, 6 * i + 2, rfl, nI_add (6 * i) 2, by omega, by omega, ?_⟩
  conv => whnf
  refine Or.inr ⟨_, _, 6 * i + 3, rfl, nI_add (6 * i) 3, by omega, by omega, ?_⟩
  conv => whnf
  refine ⟨⟨_, hm.z⟩, (Nat.le_of_ble_eq_true rfl), _, _, _, hQ2, by first | omega | exact Nat.le_of_ble_eq_true rfl | (simp only [dl1, dl2, dl3, dl4, dl5, dl6]; omega), by first | omega | exact Nat.le_of_ble_eq_true rfl | (simp only [dl1, dl2, dl3, dl4, dl5, dl6]; omega), fun v g2 hh => ?_, fun C g2 hh => ?_⟩
  rotate_left
  · obtain ⟨hv, -⟩ := hP2 _ _ hh
    cases hv
  obtain ⟨hv, t, hl2⟩ := hP2 _ _ hh
  cases hv
  conv => whnf
  refine ⟨fun _ => ?_, fun h => absurd rfl h⟩
  conv => whnf
  exact hK _ _ _ _ _ hl2 (by omega) (by omega) ⟨rfl, rfl, rfl, rfl, s6 i, trivial⟩
set_option maxRecDepth 8192 in
theorem l_about (hfl : l.flags = pinnedFlags ++ [noTraceFlag]) (hl : lw ad am o g thr) (hi : 6 * i + 6 ≤ L) (hL : L < 2 ^ 20) (hk : k + 16 ≤ MC) (hn : n + 4000 ≤ MS) (hK : l_K KP sa ad am o i k n) : l_q l D aC sa L xs MC MS P KP 80 948 (l_lv sa ad am o i) [] g k n := by
  obtain ⟨fs, hz⟩ := lw_z hl
  obtain ⟨Q, hQ, hQP⟩ := pl_about (l := l) (D := D) (aC := aC) hfl hl (w := xs (6 * i + 1))
  conv => whnf
  refine Or.inr ⟨_, _, 6 * i + 1, rfl, nI_add (6 * i) 1, by omega, by omega, ?_⟩
  conv => whnf
  refine ⟨⟨_, hz⟩, (Nat.le_of_ble_eq_true rfl), _, _, _, hQ, by first | omega | exact Nat.le_of_ble_eq_true rfl | (simp only [dl1, dl2, dl3, dl4, dl5, dl6]; omega), by first | omega | exact Nat.le_of_ble_eq_true rfl | (simp only [dl1, dl2, dl3, dl4, dl5, dl6]; omega), fun v g1 hh => ?_, fun C g1 hh => ?_⟩
  rotate_left
  · obtain ⟨x, hv, -⟩ := hQP _ _ hh
    cases hv
  obtain ⟨x, hv, ⟨A, F, hm⟩, Q2, hQ2, hP2⟩ := hQP _ _ hh
  cases hv
  conv => whnf
  refine Or.inr ⟨_, _, 6 * i + 1, rfl, nI_add (6 * i) 1, by omega, by omega, ?_⟩
  conv => whnf
  refine ⟨⟨_, hm.z⟩, (Nat.le_of_ble_eq_true rfl), _, _, _, hQ2, by first | omega | exact Nat.le_of_ble_eq_true rfl | (simp only [dl1, dl2, dl3, dl4, dl5, dl6]; omega), by first | omega | exact Nat.le_of_ble_eq_true rfl | (simp only [dl1, dl2, dl3, dl4, dl5, dl6]; omega), fun v g2 hh => ?_, fun C g2 hh => ?_⟩
  rotate_left
  · obtain ⟨hv, -⟩ := hP2 _ _ hh
    cases hv
  obtain ⟨hv, t, hl2⟩ := hP2 _ _ hh
  cases hv
  conv => whnf
  refine ⟨fun _ => ?_, fun h => absurd rfl h⟩
  conv => whnf
  exact hK _ _ _ _ _ hl2 (by omega) (by omega) ⟨rfl, rfl, rfl, rfl, s6 i, trivial⟩
set_option maxRecDepth 8192 in
theorem l_session (hfl : l.flags = pinnedFlags ++ [noTraceFlag]) (hl : lw ad am o g thr) (hi : 6 * i + 6 ≤ L) (hL : L < 2 ^ 20) (hk : k + 16 ≤ MC) (hn : n + 4000 ≤ MS) (hK : l_K KP sa ad am o i k n) : l_q l D aC sa L xs MC MS P KP 80 973 (l_lv sa ad am o i) [] g k n := by
  obtain ⟨fs, hz⟩ := lw_z hl
  obtain ⟨Q, hQ, hQP⟩ := pl_session (l := l) (D := D) (aC := aC) hfl hl (x := xs (6 * i + 1)) (w := xs (6 * i + 2))
  conv => whnf
  refine Or.inr ⟨_, _, 6 * i + 1, rfl, nI_add (6 * i) 1, by omega, by omega, ?_⟩
  conv => whnf
  refine Or.inr ⟨_, _, 6 * i + 2, rfl, nI_add (6 * i) 2, by omega, by omega, ?_⟩
  conv => whnf
  refine ⟨⟨_, hz⟩, (Nat.le_of_ble_eq_true rfl), _, _, _, hQ, by first | omega | exact Nat.le_of_ble_eq_true rfl | (simp only [dl1, dl2, dl3, dl4, dl5, dl6]; omega), by first | omega | exact Nat.le_of_ble_eq_true rfl | (simp only [dl1, dl2, dl3, dl4, dl5, dl6]; omega), fun v g1 hh => ?_, fun C g1 hh => ?_⟩
  rotate_left
  · obtain ⟨x, hv, -⟩ := hQP _ _ hh
    cases hv
  obtain ⟨x, hv, ⟨A, F, hm⟩, Q2, hQ2, hP2⟩ := hQP _ _ hh
  cases hv
  conv => whnf
  refine Or.inr ⟨_, _, 6 * i + 1, rfl, nI_add (6 * i) 1, by omega, by omega, ?_⟩
  conv => whnf
  refine Or.inr ⟨_, _, 6 * i + 2, rfl, nI_add (6 * i) 2, by omega, by omega, ?_⟩
  conv => whnf
  refine ⟨⟨_, hm.z⟩, (Nat.le_of_ble_eq_true rfl), _, _, _, hQ2, by first | omega | exact Nat.le_of_ble_eq_true rfl | (simp only [dl1, dl2, dl3, dl4, dl5, dl6]; omega), by first | omega | exact Nat.le_of_ble_eq_true rfl | (simp only [dl1, dl2, dl3, dl4, dl5, dl6]; omega), fun v g2 hh => ?_, fun C g2 hh => ?_⟩
  rotate_left
  · obtain ⟨hv, -⟩ := hP2 _ _ hh
    cases hv
  obtain ⟨hv, t, hl2⟩ := hP2 _ _ hh
  cases hv
  conv => whnf
  refine ⟨fun _ => ?_, fun h => absurd rfl h⟩
  conv => whnf
  exact hK _ _ _ _ _ hl2 (by omega) (by omega) ⟨rfl, rfl, rfl, rfl, s6 i, trivial⟩
set_option maxRecDepth 8192 in
theorem l_at (hfl : l.flags = pinnedFlags ++ [noTraceFlag]) (hl : lw ad am o g thr) (hi : 6 * i + 6 ≤ L) (hL : L < 2 ^ 20) (hk : k + 16 ≤ MC) (hn : n + 4000 ≤ MS) (hK : l_K KP sa ad am o i k n) : l_q l D aC sa L xs MC MS P KP 80 871 (l_lv sa ad am o i) [] g k n := by
  obtain ⟨fs, hz⟩ := lw_z hl
  obtain ⟨p, hp⟩ : ∃ p : Bool, (p = true ↔ ¬ xs (6 * i + 3) = 0) := ⟨decide (¬ xs (6 * i + 3) = 0), decide_eq_true_iff⟩
  obtain ⟨Q, hQ, hQP⟩ := pl_at (l := l) (D := D) (aC := aC) hfl hl (x := xs (6 * i + 1)) (y := xs (6 * i + 2)) (k := xs (6 * i + 4)) (p := p)
  cases p with
  | true =>
    conv => whnf
    refine Or.inr ⟨_, _, 6 * i + 1, rfl, nI_add (6 * i) 1, by omega, by omega, ?_⟩
    conv => whnf
    refine Or.inr ⟨_, _, 6 * i + 2, rfl, nI_add (6 * i) 2, by omega, by omega, ?_⟩
    conv => whnf
    refine Or.inr ⟨_, _, 6 * i + 3, rfl, nI_add (6 * i) 3, by omega, by omega, ?_⟩
    conv => whnf
    refine ⟨fun h => absurd h (fun z => hp.mp rfl z), fun _ => ?_⟩
    conv => whnf
    refine Or.inr ⟨_, _, 6 * i + 4, rfl, nI_add (6 * i) 4, by omega, by omega, ?_⟩
    conv => whnf
    refine ⟨⟨_, hz⟩, (Nat.le_of_ble_eq_true rfl), _, _, _, hQ, by first | omega | exact Nat.le_of_ble_eq_true rfl | (simp only [dl1, dl2, dl3, dl4, dl5, dl6]; omega), by first | omega | exact Nat.le_of_ble_eq_true rfl | (simp only [dl1, dl2, dl3, dl4, dl5, dl6]; omega), fun v g1 hh => ?_, fun C g1 hh => ?_⟩
    rotate_left
    · obtain ⟨x, hv, -⟩ := hQP _ _ hh
      cases hv
    obtain ⟨x, hv, ⟨A, F, hm⟩, Q2, hQ2, hP2⟩ := hQP _ _ hh
    cases hv
    conv => whnf
    refine Or.inr ⟨_, _, 6 * i + 1, rfl, nI_add (6 * i) 1, by omega, by omega, ?_⟩
    conv => whnf
    refine Or.inr ⟨_, _, 6 * i + 2, rfl, nI_add (6 * i) 2, by omega, by omega, ?_⟩
    conv => whnf
    refine Or.inr ⟨_, _, 6 * i + 3, rfl, nI_add (6 * i) 3, by omega, by omega, ?_⟩
    conv => whnf
    refine ⟨fun h => absurd h (fun z => hp.mp rfl z), fun _ => ?_⟩
    conv => whnf
    refine Or.inr ⟨_, _, 6 * i + 4, rfl, nI_add (6 * i) 4, by omega, by omega, ?_⟩
    conv => whnf
    refine ⟨⟨_, hm.z⟩, (Nat.le_of_ble_eq_true rfl), _, _, _, hQ2, by first | omega | exact Nat.le_of_ble_eq_true rfl | (simp only [dl1, dl2, dl3, dl4, dl5, dl6]; omega), by first | omega | exact Nat.le_of_ble_eq_true rfl | (simp only [dl1, dl2, dl3, dl4, dl5, dl6]; omega), fun v g2 hh => ?_, fun C g2 hh => ?_⟩
    rotate_left
    · obtain ⟨hv, -⟩ := hP2 _ _ hh
      cases hv
    obtain ⟨hv, t, hl2⟩ := hP2 _ _ hh
    cases hv
    conv => whnf
    refine ⟨fun _ => ?_, fun h => absurd rfl h⟩
    conv => whnf
    exact hK _ _ _ _ _ hl2 (by omega) (by omega) ⟨rfl, rfl, rfl, rfl, s6 i, trivial⟩
  | false =>
    conv => whnf
    refine Or.inr ⟨_, _, 6 * i + 1, rfl, nI_add (6 * i) 1, by omega, by omega, ?_⟩
    conv => whnf
    refine Or.inr ⟨_, _, 6 * i + 2, rfl, nI_add (6 * i) 2, by omega, by omega, ?_⟩
    conv => whnf
    refine Or.inr ⟨_, _, 6 * i + 3, rfl, nI_add (6 * i) 3, by omega, by omega, ?_⟩
    conv => whnf
    refine ⟨fun _ => ?_, fun h => absurd (Classical.not_not.mp fun z => Bool.noConfusion (hp.mpr z)) h⟩
    conv => whnf
    refine Or.inr ⟨_, _, 6 * i + 4, rfl, nI_add (6 * i) 4, by omega, by omega, ?_⟩
    conv => whnf
    refine ⟨⟨_, hz⟩, (Nat.le_of_ble_eq_true rfl), _, _, _, hQ, by first | omega | exact Nat.le_of_ble_eq_true rfl | (simp only [dl1, dl2, dl3, dl4, dl5, dl6]; omega), by first | omega | exact Nat.le_of_ble_eq_true rfl | (simp only [dl1, dl2, dl3, dl4, dl5, dl6]; omega), fun v g1 hh => ?_, fun C g1 hh => ?_⟩
    rotate_left
    · obtain ⟨x, hv, -⟩ := hQP _ _ hh
      cases hv
    obtain ⟨x, hv, ⟨A, F, hm⟩, Q2, hQ2, hP2⟩ := hQP _ _ hh
    cases hv
    conv => whnf
    refine Or.inr ⟨_, _, 6 * i + 1, rfl, nI_add (6 * i) 1, by omega, by omega, ?_⟩
    conv => whnf
    refine Or.inr ⟨_, _, 6 * i + 2, rfl, nI_add (6 * i) 2, by omega, by omega, ?_⟩
    conv => whnf
    refine Or.inr ⟨_, _, 6 * i + 3, rfl, nI_add (6 * i) 3, by omega, by omega, ?_⟩
    conv => whnf
    refine ⟨fun _ => ?_, fun h => absurd (Classical.not_not.mp fun z => Bool.noConfusion (hp.mpr z)) h⟩
    conv => whnf
    refine Or.inr ⟨_, _, 6 * i + 4, rfl, nI_add (6 * i) 4, by omega, by omega, ?_⟩
    conv => whnf
    refine ⟨⟨_, hm.z⟩, (Nat.le_of_ble_eq_true rfl), _, _, _, hQ2, by first | omega | exact Nat.le_of_ble_eq_true rfl | (simp only [dl1, dl2, dl3, dl4, dl5, dl6]; omega), by first | omega | exact Nat.le_of_ble_eq_true rfl | (simp only [dl1, dl2, dl3, dl4, dl5, dl6]; omega), fun v g2 hh => ?_, fun C g2 hh => ?_⟩
    rotate_left
    · obtain ⟨hv, -⟩ := hP2 _ _ hh
      cases hv
    obtain ⟨hv, t, hl2⟩ := hP2 _ _ hh
    cases hv
    conv => whnf
    refine ⟨fun _ => ?_, fun h => absurd rfl h⟩
    conv => whnf
    exact hK _ _ _ _ _ hl2 (by omega) (by omega) ⟨rfl, rfl, rfl, rfl, s6 i, trivial⟩
set_option maxRecDepth 8192 in
theorem l_make (hfl : l.flags = pinnedFlags ++ [noTraceFlag]) (hl : lw ad am o g thr) (hi : 6 * i + 6 ≤ L) (hL : L < 2 ^ 20) (hk : k + 16 ≤ MC) (hn : n + 4000 ≤ MS) (hK : l_K KP sa ad am o i k n) : l_q l D aC sa L xs MC MS P KP 80 228 (l_lv sa ad am o i) [] g k n := by
  obtain ⟨fs, hz⟩ := lw_z hl
  obtain ⟨Q, hQ, hQP⟩ := pl_make (l := l) (D := D) (aC := aC) hfl hl (a := xs (6 * i + 1)) (b := xs (6 * i + 2)) (c := xs (6 * i + 3))
  conv => whnf
  refine Or.inr ⟨_, _, 6 * i + 1, rfl, nI_add (6 * i) 1, by omega, by omega, ?_⟩
  conv => whnf
  refine Or.inr ⟨_, _, 6 * i + 2, rfl, nI_add (6 * i) 2, by omega, by omega, ?_⟩
  conv => whnf
  refine Or.inr ⟨_, _, 6 * i + 3, rfl, nI_add (6 * i) 3, by omega, by omega, ?_⟩
  conv => whnf
  refine ⟨(Nat.le_of_ble_eq_true rfl), _, _, _, hQ, by first | omega | exact Nat.le_of_ble_eq_true rfl | (simp only [dl1, dl2, dl3, dl4, dl5, dl6]; omega), by first | omega | exact Nat.le_of_ble_eq_true rfl | (simp only [dl1, dl2, dl3, dl4, dl5, dl6]; omega), fun v g1 hh => ?_, fun C g1 hh => ?_⟩
  rotate_left
  · obtain ⟨kc, x, f, -, hv, -⟩ := hQP _ _ hh
    cases hv
  obtain ⟨kc, x, f, hkc, hv, ⟨A, F, hm⟩, hf0, Q2, hQ2, hP2⟩ := hQP _ _ hh
  cases hv
  conv => whnf
  refine Or.inr ⟨_, _, 6 * i + 1, rfl, nI_add (6 * i) 1, by omega, by omega, ?_⟩
  conv => whnf
  refine Or.inr ⟨_, _, 6 * i + 2, rfl, nI_add (6 * i) 2, by omega, by omega, ?_⟩
  conv => whnf
  refine Or.inr ⟨_, _, 6 * i + 3, rfl, nI_add (6 * i) 3, by omega, by omega, ?_⟩
  conv => whnf
  refine ⟨⟨_, hm.z⟩, (Nat.le_of_ble_eq_true rfl), _, _, _, hQ2, by first | omega | exact Nat.le_of_ble_eq_true rfl | (simp only [dl1, dl2, dl3, dl4, dl5, dl6]; omega), by first | omega | exact Nat.le_of_ble_eq_true rfl | (simp only [dl1, dl2, dl3, dl4, dl5, dl6]; omega), fun v g2 hh => ?_, fun C g2 hh => ?_⟩
  rotate_left
  · obtain ⟨b, hv, -⟩ := hP2 _ _ hh
    cases hv
  obtain ⟨b, hv, hb, hl2, ho2⟩ := hP2 _ _ hh
  cases hv
  obtain ⟨A2, F2, hm2, hF2⟩ := lw_m hl2
  conv => whnf
  refine ⟨⟨_, hm2.z⟩, (Nat.le_of_ble_eq_true rfl), _, _, _, c_M_thrown hfl hm2, by first | omega | exact Nat.le_of_ble_eq_true rfl | (simp only [dl1, dl2, dl3, dl4, dl5, dl6]; omega), by first | omega | exact Nat.le_of_ble_eq_true rfl | (simp only [dl1, dl2, dl3, dl4, dl5, dl6]; omega), k_rl ?_, k_rr⟩
  rw [hF2]
  conv => whnf
  refine ⟨fun _ => ?_, fun h => absurd rfl h⟩
  by_cases h0 : kc = 0
  · subst h0
    conv => whnf
    refine ⟨fun h => absurd h (fun z => z nI_0), fun _ => ?_⟩
    conv => whnf
    refine ⟨2, 1, f, 0, ho2, rfl, rfl, by decide, by decide, ?_⟩
    rw [hf0 rfl, hb rfl]
    conv => whnf
    refine ⟨fun _ => ?_, fun h => absurd (show lg_cmp x.toInt64 x.toInt64 = 0 by unfold lg_cmp; rw [if_neg (fun z => absurd (Int64.lt_iff_toInt_lt.mp z) (Int.lt_irrefl _)), if_pos rfl]) h⟩
    conv => whnf
    exact hK _ _ _ _ _ hl2 (by omega) (by omega) ⟨rfl, rfl, rfl, rfl, s6 i, trivial⟩
  · conv => whnf
    refine ⟨fun _ => ?_, fun h => absurd (fun z => h0 ((q_eq0 (by omega)).mp z)) h⟩
    conv => whnf
    exact hK _ _ _ _ _ hl2 (by omega) (by omega) ⟨rfl, rfl, rfl, rfl, s6 i, trivial⟩
set_option maxRecDepth 8192 in
theorem l_write (hfl : l.flags = pinnedFlags ++ [noTraceFlag]) (hl : lw ad am o g thr) (hi : 6 * i + 6 ≤ L) (hL : L < 2 ^ 20) (hk : k + 16 ≤ MC) (hn : n + 4000 ≤ MS) (hK : l_K KP sa ad am o i k n) : l_q l D aC sa L xs MC MS P KP 80 321 (l_lv sa ad am o i) [] g k n := by
  obtain ⟨fs, hz⟩ := lw_z hl
  obtain ⟨Q, hQ, hQP⟩ := pl_write (l := l) (D := D) (aC := aC) hfl hl (a := xs (6 * i + 1))
  conv => whnf
  refine Or.inr ⟨_, _, 6 * i + 1, rfl, nI_add (6 * i) 1, by omega, by omega, ?_⟩
  conv => whnf
  refine ⟨(Nat.le_of_ble_eq_true rfl), _, _, _, hQ, by first | omega | exact Nat.le_of_ble_eq_true rfl | (simp only [dl1, dl2, dl3, dl4, dl5, dl6]; omega), by first | omega | exact Nat.le_of_ble_eq_true rfl | (simp only [dl1, dl2, dl3, dl4, dl5, dl6]; omega), fun v g1 hh => ?_, fun C g1 hh => ?_⟩
  rotate_left
  · obtain ⟨kc, x, f, -, hv, -⟩ := hQP _ _ hh
    cases hv
  obtain ⟨kc, x, f, hkc, hv, ⟨A, F, hm⟩, hf0, Q2, hQ2, hP2⟩ := hQP _ _ hh
  cases hv
  conv => whnf
  refine Or.inr ⟨_, _, 6 * i + 1, rfl, nI_add (6 * i) 1, by omega, by omega, ?_⟩
  conv => whnf
  refine ⟨⟨_, hm.z⟩, (Nat.le_of_ble_eq_true rfl), _, _, _, hQ2, by first | omega | exact Nat.le_of_ble_eq_true rfl | (simp only [dl1, dl2, dl3, dl4, dl5, dl6]; omega), by first | omega | exact Nat.le_of_ble_eq_true rfl | (simp only [dl1, dl2, dl3, dl4, dl5, dl6]; omega), fun v g2 hh => ?_, fun C g2 hh => ?_⟩
  rotate_left
  · obtain ⟨b, hv, -⟩ := hP2 _ _ hh
    cases hv
  obtain ⟨b, hv, hb, hl2, ho2⟩ := hP2 _ _ hh
  cases hv
  obtain ⟨A2, F2, hm2, hF2⟩ := lw_m hl2
  conv => whnf
  refine ⟨⟨_, hm2.z⟩, (Nat.le_of_ble_eq_true rfl), _, _, _, c_M_thrown hfl hm2, by first | omega | exact Nat.le_of_ble_eq_true rfl | (simp only [dl1, dl2, dl3, dl4, dl5, dl6]; omega), by first | omega | exact Nat.le_of_ble_eq_true rfl | (simp only [dl1, dl2, dl3, dl4, dl5, dl6]; omega), k_rl ?_, k_rr⟩
  rw [hF2]
  conv => whnf
  refine ⟨fun _ => ?_, fun h => absurd rfl h⟩
  by_cases h0 : kc = 0
  · subst h0
    conv => whnf
    refine ⟨fun h => absurd h (fun z => z nI_0), fun _ => ?_⟩
    conv => whnf
    refine ⟨2, 1, f, 0, ho2, rfl, rfl, by decide, by decide, ?_⟩
    rw [hf0 rfl, hb rfl]
    conv => whnf
    refine ⟨fun _ => ?_, fun h => absurd (show lg_cmp x.toInt64 x.toInt64 = 0 by unfold lg_cmp; rw [if_neg (fun z => absurd (Int64.lt_iff_toInt_lt.mp z) (Int.lt_irrefl _)), if_pos rfl]) h⟩
    conv => whnf
    exact hK _ _ _ _ _ hl2 (by omega) (by omega) ⟨rfl, rfl, rfl, rfl, s6 i, trivial⟩
  · conv => whnf
    refine ⟨fun _ => ?_, fun h => absurd (fun z => h0 ((q_eq0 (by omega)).mp z)) h⟩
    conv => whnf
    exact hK _ _ _ _ _ hl2 (by omega) (by omega) ⟨rfl, rfl, rfl, rfl, s6 i, trivial⟩
set_option maxRecDepth 8192 in
theorem l_cut (hfl : l.flags = pinnedFlags ++ [noTraceFlag]) (hl : lw ad am o g thr) (hi : 6 * i + 6 ≤ L) (hL : L < 2 ^ 20) (hk : k + 16 ≤ MC) (hn : n + 4000 ≤ MS) (hK : l_K KP sa ad am o i k n) : l_q l D aC sa L xs MC MS P KP 80 377 (l_lv sa ad am o i) [] g k n := by
  obtain ⟨fs, hz⟩ := lw_z hl
  obtain ⟨Q, hQ, hQP⟩ := pl_cut (l := l) (D := D) (aC := aC) hfl hl (a := xs (6 * i + 1))
  conv => whnf
  refine Or.inr ⟨_, _, 6 * i + 1, rfl, nI_add (6 * i) 1, by omega, by omega, ?_⟩
  conv => whnf
  refine ⟨(Nat.le_of_ble_eq_true rfl), _, _, _, hQ, by first | omega | exact Nat.le_of_ble_eq_true rfl | (simp only [dl1, dl2, dl3, dl4, dl5, dl6]; omega), by first | omega | exact Nat.le_of_ble_eq_true rfl | (simp only [dl1, dl2, dl3, dl4, dl5, dl6]; omega), fun v g1 hh => ?_, fun C g1 hh => ?_⟩
  rotate_left
  · obtain ⟨kc, -, hv, -⟩ := hQP _ _ hh
    cases hv
  obtain ⟨kc, hkc, hv, ⟨A, F, hm⟩, Q2, hQ2, hP2⟩ := hQP _ _ hh
  cases hv
  conv => whnf
  refine Or.inr ⟨_, _, 6 * i + 1, rfl, nI_add (6 * i) 1, by omega, by omega, ?_⟩
  conv => whnf
  refine ⟨⟨_, hm.z⟩, (Nat.le_of_ble_eq_true rfl), _, _, _, hQ2, by first | omega | exact Nat.le_of_ble_eq_true rfl | (simp only [dl1, dl2, dl3, dl4, dl5, dl6]; omega), by first | omega | exact Nat.le_of_ble_eq_true rfl | (simp only [dl1, dl2, dl3, dl4, dl5, dl6]; omega), fun v g2 hh => ?_, fun C g2 hh => ?_⟩
  rotate_left
  · obtain ⟨hv, -⟩ := hP2 _ _ hh
    cases hv
  obtain ⟨hv, hl2⟩ := hP2 _ _ hh
  cases hv
  obtain ⟨A2, F2, hm2, hF2⟩ := lw_m hl2
  conv => whnf
  refine ⟨⟨_, hm2.z⟩, (Nat.le_of_ble_eq_true rfl), _, _, _, c_M_thrown hfl hm2, by first | omega | exact Nat.le_of_ble_eq_true rfl | (simp only [dl1, dl2, dl3, dl4, dl5, dl6]; omega), by first | omega | exact Nat.le_of_ble_eq_true rfl | (simp only [dl1, dl2, dl3, dl4, dl5, dl6]; omega), k_rl ?_, k_rr⟩
  rw [hF2]
  conv => whnf
  refine ⟨fun _ => ?_, fun h => absurd rfl h⟩
  conv => whnf
  exact hK _ _ _ _ _ hl2 (by omega) (by omega) ⟨rfl, rfl, rfl, rfl, s6 i, trivial⟩
set_option maxRecDepth 8192 in
theorem l_set (hfl : l.flags = pinnedFlags ++ [noTraceFlag]) (hl : lw ad am o g thr) (hi : 6 * i + 6 ≤ L) (hL : L < 2 ^ 20) (hk : k + 16 ≤ MC) (hn : n + 4000 ≤ MS) (hK : l_K KP sa ad am o i k n) : l_q l D aC sa L xs MC MS P KP 80 413 (l_lv sa ad am o i) [] g k n := by
  obtain ⟨fs, hz⟩ := lw_z hl
  obtain ⟨Q, hQ, hQP⟩ := pl_set (l := l) (D := D) (aC := aC) hfl hl (a := xs (6 * i + 1)) (b := xs (6 * i + 2))
  conv => whnf
  refine Or.inr ⟨_, _, 6 * i + 1, rfl, nI_add (6 * i) 1, by omega, by omega, ?_⟩
  conv => whnf
  refine Or.inr ⟨_, _, 6 * i + 2, rfl, nI_add (6 * i) 2, by omega, by omega, ?_⟩
  conv => whnf
  refine ⟨(Nat.le_of_ble_eq_true rfl), _, _, _, hQ, by first | omega | exact Nat.le_of_ble_eq_true rfl | (simp only [dl1, dl2, dl3, dl4, dl5, dl6]; omega), by first | omega | exact Nat.le_of_ble_eq_true rfl | (simp only [dl1, dl2, dl3, dl4, dl5, dl6]; omega), fun v g1 hh => ?_, fun C g1 hh => ?_⟩
  rotate_left
  · obtain ⟨kc, -, hv, -⟩ := hQP _ _ hh
    cases hv
  obtain ⟨kc, hkc, hv, ⟨A, F, hm⟩, Q2, hQ2, hP2⟩ := hQP _ _ hh
  cases hv
  conv => whnf
  refine Or.inr ⟨_, _, 6 * i + 1, rfl, nI_add (6 * i) 1, by omega, by omega, ?_⟩
  conv => whnf
  refine Or.inr ⟨_, _, 6 * i + 2, rfl, nI_add (6 * i) 2, by omega, by omega, ?_⟩
  conv => whnf
  refine ⟨⟨_, hm.z⟩, (Nat.le_of_ble_eq_true rfl), _, _, _, hQ2, by first | omega | exact Nat.le_of_ble_eq_true rfl | (simp only [dl1, dl2, dl3, dl4, dl5, dl6]; omega), by first | omega | exact Nat.le_of_ble_eq_true rfl | (simp only [dl1, dl2, dl3, dl4, dl5, dl6]; omega), fun v g2 hh => ?_, fun C g2 hh => ?_⟩
  rotate_left
  · obtain ⟨hv, -⟩ := hP2 _ _ hh
    cases hv
  obtain ⟨hv, hl2⟩ := hP2 _ _ hh
  cases hv
  obtain ⟨A2, F2, hm2, hF2⟩ := lw_m hl2
  conv => whnf
  refine ⟨⟨_, hm2.z⟩, (Nat.le_of_ble_eq_true rfl), _, _, _, c_M_thrown hfl hm2, by first | omega | exact Nat.le_of_ble_eq_true rfl | (simp only [dl1, dl2, dl3, dl4, dl5, dl6]; omega), by first | omega | exact Nat.le_of_ble_eq_true rfl | (simp only [dl1, dl2, dl3, dl4, dl5, dl6]; omega), k_rl ?_, k_rr⟩
  rw [hF2]
  conv => whnf
  refine ⟨fun _ => ?_, fun h => absurd rfl h⟩
  conv => whnf
  exact hK _ _ _ _ _ hl2 (by omega) (by omega) ⟨rfl, rfl, rfl, rfl, s6 i, trivial⟩
set_option maxRecDepth 8192 in
theorem l_remove (hfl : l.flags = pinnedFlags ++ [noTraceFlag]) (hl : lw ad am o g thr) (hi : 6 * i + 6 ≤ L) (hL : L < 2 ^ 20) (hk : k + 16 ≤ MC) (hn : n + 4000 ≤ MS) (hK : l_K KP sa ad am o i k n) : l_q l D aC sa L xs MC MS P KP 80 461 (l_lv sa ad am o i) [] g k n := by
  obtain ⟨fs, hz⟩ := lw_z hl
  obtain ⟨Q, hQ, hQP⟩ := pl_remove (l := l) (D := D) (aC := aC) hfl hl
  conv => whnf
  refine ⟨(Nat.le_of_ble_eq_true rfl), _, _, _, hQ, by first | omega | exact Nat.le_of_ble_eq_true rfl | (simp only [dl1, dl2, dl3, dl4, dl5, dl6]; omega), by first | omega | exact Nat.le_of_ble_eq_true rfl | (simp only [dl1, dl2, dl3, dl4, dl5, dl6]; omega), fun v g1 hh => ?_, fun C g1 hh => ?_⟩
  rotate_left
  · obtain ⟨kc, x, f, -, hv, -⟩ := hQP _ _ hh
    cases hv
  obtain ⟨kc, x, f, hkc, hv, ⟨A, F, hm⟩, hf0, Q2, hQ2, hP2⟩ := hQP _ _ hh
  cases hv
  conv => whnf
  refine ⟨⟨_, hm.z⟩, (Nat.le_of_ble_eq_true rfl), _, _, _, hQ2, by first | omega | exact Nat.le_of_ble_eq_true rfl | (simp only [dl1, dl2, dl3, dl4, dl5, dl6]; omega), by first | omega | exact Nat.le_of_ble_eq_true rfl | (simp only [dl1, dl2, dl3, dl4, dl5, dl6]; omega), fun v g2 hh => ?_, fun C g2 hh => ?_⟩
  rotate_left
  · obtain ⟨b, hv, -⟩ := hP2 _ _ hh
    cases hv
  obtain ⟨b, hv, hb, hl2, ho2⟩ := hP2 _ _ hh
  cases hv
  obtain ⟨A2, F2, hm2, hF2⟩ := lw_m hl2
  conv => whnf
  refine ⟨⟨_, hm2.z⟩, (Nat.le_of_ble_eq_true rfl), _, _, _, c_M_thrown hfl hm2, by first | omega | exact Nat.le_of_ble_eq_true rfl | (simp only [dl1, dl2, dl3, dl4, dl5, dl6]; omega), by first | omega | exact Nat.le_of_ble_eq_true rfl | (simp only [dl1, dl2, dl3, dl4, dl5, dl6]; omega), k_rl ?_, k_rr⟩
  rw [hF2]
  conv => whnf
  refine ⟨fun _ => ?_, fun h => absurd rfl h⟩
  by_cases h0 : kc = 0
  · subst h0
    conv => whnf
    refine ⟨fun h => absurd h (fun z => z nI_0), fun _ => ?_⟩
    conv => whnf
    refine ⟨2, 1, f, 0, ho2, rfl, rfl, by decide, by decide, ?_⟩
    rw [hf0 rfl, hb rfl]
    conv => whnf
    refine ⟨fun _ => ?_, fun h => absurd (show lg_cmp x.toInt64 x.toInt64 = 0 by unfold lg_cmp; rw [if_neg (fun z => absurd (Int64.lt_iff_toInt_lt.mp z) (Int.lt_irrefl _)), if_pos rfl]) h⟩
    conv => whnf
    exact hK _ _ _ _ _ hl2 (by omega) (by omega) ⟨rfl, rfl, rfl, rfl, s6 i, trivial⟩
  · conv => whnf
    refine ⟨fun _ => ?_, fun h => absurd (fun z => h0 ((q_eq0 (by omega)).mp z)) h⟩
    conv => whnf
    exact hK _ _ _ _ _ hl2 (by omega) (by omega) ⟨rfl, rfl, rfl, rfl, s6 i, trivial⟩
set_option maxRecDepth 8192 in
theorem l_begin (hfl : l.flags = pinnedFlags ++ [noTraceFlag]) (hl : lw ad am o g thr) (hi : 6 * i + 6 ≤ L) (hL : L < 2 ^ 20) (hk : k + 16 ≤ MC) (hn : n + 4000 ≤ MS) (hK : l_K KP sa ad am o i k n) : l_q l D aC sa L xs MC MS P KP 80 505 (l_lv sa ad am o i) [] g k n := by
  obtain ⟨fs, hz⟩ := lw_z hl
  obtain ⟨Q, hQ, hQP⟩ := pl_begin (l := l) (D := D) (aC := aC) hfl hl (a := xs (6 * i + 1))
  conv => whnf
  refine Or.inr ⟨_, _, 6 * i + 1, rfl, nI_add (6 * i) 1, by omega, by omega, ?_⟩
  conv => whnf
  refine ⟨(Nat.le_of_ble_eq_true rfl), _, _, _, hQ, by first | omega | exact Nat.le_of_ble_eq_true rfl | (simp only [dl1, dl2, dl3, dl4, dl5, dl6]; omega), by first | omega | exact Nat.le_of_ble_eq_true rfl | (simp only [dl1, dl2, dl3, dl4, dl5, dl6]; omega), fun v g1 hh => ?_, fun C g1 hh => ?_⟩
  rotate_left
  · obtain ⟨kc, x, f, -, hv, -⟩ := hQP _ _ hh
    cases hv
  obtain ⟨kc, x, f, hkc, hv, ⟨A, F, hm⟩, hf0, Q2, hQ2, hP2⟩ := hQP _ _ hh
  cases hv
  conv => whnf
  refine Or.inr ⟨_, _, 6 * i + 1, rfl, nI_add (6 * i) 1, by omega, by omega, ?_⟩
  conv => whnf
  refine ⟨⟨_, hm.z⟩, (Nat.le_of_ble_eq_true rfl), _, _, _, hQ2, by first | omega | exact Nat.le_of_ble_eq_true rfl | (simp only [dl1, dl2, dl3, dl4, dl5, dl6]; omega), by first | omega | exact Nat.le_of_ble_eq_true rfl | (simp only [dl1, dl2, dl3, dl4, dl5, dl6]; omega), fun v g2 hh => ?_, fun C g2 hh => ?_⟩
  rotate_left
  · obtain ⟨b, hv, -⟩ := hP2 _ _ hh
    cases hv
  obtain ⟨b, hv, hb, hl2, ho2⟩ := hP2 _ _ hh
  cases hv
  obtain ⟨A2, F2, hm2, hF2⟩ := lw_m hl2
  conv => whnf
  refine ⟨⟨_, hm2.z⟩, (Nat.le_of_ble_eq_true rfl), _, _, _, c_M_thrown hfl hm2, by first | omega | exact Nat.le_of_ble_eq_true rfl | (simp only [dl1, dl2, dl3, dl4, dl5, dl6]; omega), by first | omega | exact Nat.le_of_ble_eq_true rfl | (simp only [dl1, dl2, dl3, dl4, dl5, dl6]; omega), k_rl ?_, k_rr⟩
  rw [hF2]
  conv => whnf
  refine ⟨fun _ => ?_, fun h => absurd rfl h⟩
  by_cases h0 : kc = 0
  · subst h0
    conv => whnf
    refine ⟨fun h => absurd h (fun z => z nI_0), fun _ => ?_⟩
    conv => whnf
    refine ⟨2, 1, f, 0, ho2, rfl, rfl, by decide, by decide, ?_⟩
    rw [hf0 rfl, hb rfl]
    conv => whnf
    refine ⟨fun _ => ?_, fun h => absurd (show lg_cmp x.toInt64 x.toInt64 = 0 by unfold lg_cmp; rw [if_neg (fun z => absurd (Int64.lt_iff_toInt_lt.mp z) (Int.lt_irrefl _)), if_pos rfl]) h⟩
    conv => whnf
    exact hK _ _ _ _ _ hl2 (by omega) (by omega) ⟨rfl, rfl, rfl, rfl, s6 i, trivial⟩
  · conv => whnf
    refine ⟨fun _ => ?_, fun h => absurd (fun z => h0 ((q_eq0 (by omega)).mp z)) h⟩
    conv => whnf
    exact hK _ _ _ _ _ hl2 (by omega) (by omega) ⟨rfl, rfl, rfl, rfl, s6 i, trivial⟩
set_option maxRecDepth 8192 in
theorem l_step (hfl : l.flags = pinnedFlags ++ [noTraceFlag]) (hl : lw ad am o g thr) (hi : 6 * i + 6 ≤ L) (hL : L < 2 ^ 20) (hk : k + 16 ≤ MC) (hn : n + 4000 ≤ MS) (hK : l_K KP sa ad am o i k n) : l_q l D aC sa L xs MC MS P KP 80 561 (l_lv sa ad am o i) [] g k n := by
  obtain ⟨fs, hz⟩ := lw_z hl
  obtain ⟨Q, hQ, hQP⟩ := pl_step (l := l) (D := D) (aC := aC) hfl hl (a := xs (6 * i + 1))
  conv => whnf
  refine Or.inr ⟨_, _, 6 * i + 1, rfl, nI_add (6 * i) 1, by omega, by omega, ?_⟩
  conv => whnf
  refine ⟨(Nat.le_of_ble_eq_true rfl), _, _, _, hQ, by first | omega | exact Nat.le_of_ble_eq_true rfl | (simp only [dl1, dl2, dl3, dl4, dl5, dl6]; omega), by first | omega | exact Nat.le_of_ble_eq_true rfl | (simp only [dl1, dl2, dl3, dl4, dl5, dl6]; omega), fun v g1 hh => ?_, fun C g1 hh => ?_⟩
  rotate_left
  · obtain ⟨kc, x, f, -, hv, -⟩ := hQP _ _ hh
    cases hv
  obtain ⟨kc, x, f, hkc, hv, ⟨A, F, hm⟩, hf0, Q2, hQ2, hP2⟩ := hQP _ _ hh
  cases hv
  conv => whnf
  refine Or.inr ⟨_, _, 6 * i + 1, rfl, nI_add (6 * i) 1, by omega, by omega, ?_⟩
  conv => whnf
  refine ⟨⟨_, hm.z⟩, (Nat.le_of_ble_eq_true rfl), _, _, _, hQ2, by first | omega | exact Nat.le_of_ble_eq_true rfl | (simp only [dl1, dl2, dl3, dl4, dl5, dl6]; omega), by first | omega | exact Nat.le_of_ble_eq_true rfl | (simp only [dl1, dl2, dl3, dl4, dl5, dl6]; omega), fun v g2 hh => ?_, fun C g2 hh => ?_⟩
  rotate_left
  · obtain ⟨b, hv, -⟩ := hP2 _ _ hh
    cases hv
  obtain ⟨b, hv, hb, hl2, ho2⟩ := hP2 _ _ hh
  cases hv
  obtain ⟨A2, F2, hm2, hF2⟩ := lw_m hl2
  conv => whnf
  refine ⟨⟨_, hm2.z⟩, (Nat.le_of_ble_eq_true rfl), _, _, _, c_M_thrown hfl hm2, by first | omega | exact Nat.le_of_ble_eq_true rfl | (simp only [dl1, dl2, dl3, dl4, dl5, dl6]; omega), by first | omega | exact Nat.le_of_ble_eq_true rfl | (simp only [dl1, dl2, dl3, dl4, dl5, dl6]; omega), k_rl ?_, k_rr⟩
  rw [hF2]
  conv => whnf
  refine ⟨fun _ => ?_, fun h => absurd rfl h⟩
  by_cases h0 : kc = 0
  · subst h0
    conv => whnf
    refine ⟨fun h => absurd h (fun z => z nI_0), fun _ => ?_⟩
    conv => whnf
    refine ⟨2, 1, f, 0, ho2, rfl, rfl, by decide, by decide, ?_⟩
    rw [hf0 rfl, hb rfl]
    conv => whnf
    refine ⟨fun _ => ?_, fun h => absurd (show lg_cmp x.toInt64 x.toInt64 = 0 by unfold lg_cmp; rw [if_neg (fun z => absurd (Int64.lt_iff_toInt_lt.mp z) (Int.lt_irrefl _)), if_pos rfl]) h⟩
    conv => whnf
    exact hK _ _ _ _ _ hl2 (by omega) (by omega) ⟨rfl, rfl, rfl, rfl, s6 i, trivial⟩
  · conv => whnf
    refine ⟨fun _ => ?_, fun h => absurd (fun z => h0 ((q_eq0 (by omega)).mp z)) h⟩
    conv => whnf
    exact hK _ _ _ _ _ hl2 (by omega) (by omega) ⟨rfl, rfl, rfl, rfl, s6 i, trivial⟩
set_option maxRecDepth 8192 in
theorem l_crash (hfl : l.flags = pinnedFlags ++ [noTraceFlag]) (hl : lw ad am o g thr) (hi : 6 * i + 6 ≤ L) (hL : L < 2 ^ 20) (hk : k + 16 ≤ MC) (hn : n + 4000 ≤ MS) (hK : l_K KP sa ad am o i k n) : l_q l D aC sa L xs MC MS P KP 80 617 (l_lv sa ad am o i) [] g k n := by
  obtain ⟨fs, hz⟩ := lw_z hl
  obtain ⟨Q, hQ, hQP⟩ := pl_crash (l := l) (D := D) (aC := aC) hfl hl
  conv => whnf
  refine ⟨(Nat.le_of_ble_eq_true rfl), _, _, _, hQ, by first | omega | exact Nat.le_of_ble_eq_true rfl | (simp only [dl1, dl2, dl3, dl4, dl5, dl6]; omega), by first | omega | exact Nat.le_of_ble_eq_true rfl | (simp only [dl1, dl2, dl3, dl4, dl5, dl6]; omega), fun v g1 hh => ?_, fun C g1 hh => ?_⟩
  rotate_left
  · obtain ⟨kc, -, hv, -⟩ := hQP _ _ hh
    cases hv
  obtain ⟨kc, hkc, hv, ⟨A, F, hm⟩, Q2, hQ2, hP2⟩ := hQP _ _ hh
  cases hv
  conv => whnf
  refine ⟨⟨_, hm.z⟩, (Nat.le_of_ble_eq_true rfl), _, _, _, hQ2, by first | omega | exact Nat.le_of_ble_eq_true rfl | (simp only [dl1, dl2, dl3, dl4, dl5, dl6]; omega), by first | omega | exact Nat.le_of_ble_eq_true rfl | (simp only [dl1, dl2, dl3, dl4, dl5, dl6]; omega), fun v g2 hh => ?_, fun C g2 hh => ?_⟩
  rotate_left
  · obtain ⟨hv, -⟩ := hP2 _ _ hh
    cases hv
  obtain ⟨hv, hl2⟩ := hP2 _ _ hh
  cases hv
  obtain ⟨A2, F2, hm2, hF2⟩ := lw_m hl2
  conv => whnf
  refine ⟨⟨_, hm2.z⟩, (Nat.le_of_ble_eq_true rfl), _, _, _, c_M_thrown hfl hm2, by first | omega | exact Nat.le_of_ble_eq_true rfl | (simp only [dl1, dl2, dl3, dl4, dl5, dl6]; omega), by first | omega | exact Nat.le_of_ble_eq_true rfl | (simp only [dl1, dl2, dl3, dl4, dl5, dl6]; omega), k_rl ?_, k_rr⟩
  rw [hF2]
  conv => whnf
  refine ⟨fun _ => ?_, fun h => absurd rfl h⟩
  conv => whnf
  exact hK _ _ _ _ _ hl2 (by omega) (by omega) ⟨rfl, rfl, rfl, rfl, s6 i, trivial⟩
set_option maxRecDepth 8192 in
theorem l_regress (hfl : l.flags = pinnedFlags ++ [noTraceFlag]) (hl : lw ad am o g thr) (hi : 6 * i + 6 ≤ L) (hL : L < 2 ^ 20) (hk : k + 16 ≤ MC) (hn : n + 4000 ≤ MS) (hK : l_K KP sa ad am o i k n) : l_q l D aC sa L xs MC MS P KP 80 641 (l_lv sa ad am o i) [] g k n := by
  obtain ⟨fs, hz⟩ := lw_z hl
  obtain ⟨Q, hQ, hQP⟩ := pl_regress (l := l) (D := D) (aC := aC) hfl hl (a := xs (6 * i + 1))
  conv => whnf
  refine Or.inr ⟨_, _, 6 * i + 1, rfl, nI_add (6 * i) 1, by omega, by omega, ?_⟩
  conv => whnf
  refine ⟨(Nat.le_of_ble_eq_true rfl), _, _, _, hQ, by first | omega | exact Nat.le_of_ble_eq_true rfl | (simp only [dl1, dl2, dl3, dl4, dl5, dl6]; omega), by first | omega | exact Nat.le_of_ble_eq_true rfl | (simp only [dl1, dl2, dl3, dl4, dl5, dl6]; omega), fun v g1 hh => ?_, fun C g1 hh => ?_⟩
  rotate_left
  · obtain ⟨kc, x, f, -, hv, -⟩ := hQP _ _ hh
    cases hv
  obtain ⟨kc, x, f, hkc, hv, ⟨A, F, hm⟩, hf0, Q2, hQ2, hP2⟩ := hQP _ _ hh
  cases hv
  conv => whnf
  refine Or.inr ⟨_, _, 6 * i + 1, rfl, nI_add (6 * i) 1, by omega, by omega, ?_⟩
  conv => whnf
  refine ⟨⟨_, hm.z⟩, (Nat.le_of_ble_eq_true rfl), _, _, _, hQ2, by first | omega | exact Nat.le_of_ble_eq_true rfl | (simp only [dl1, dl2, dl3, dl4, dl5, dl6]; omega), by first | omega | exact Nat.le_of_ble_eq_true rfl | (simp only [dl1, dl2, dl3, dl4, dl5, dl6]; omega), fun v g2 hh => ?_, fun C g2 hh => ?_⟩
  rotate_left
  · obtain ⟨b, hv, -⟩ := hP2 _ _ hh
    cases hv
  obtain ⟨b, hv, hb, hl2, ho2⟩ := hP2 _ _ hh
  cases hv
  obtain ⟨A2, F2, hm2, hF2⟩ := lw_m hl2
  conv => whnf
  refine ⟨⟨_, hm2.z⟩, (Nat.le_of_ble_eq_true rfl), _, _, _, c_M_thrown hfl hm2, by first | omega | exact Nat.le_of_ble_eq_true rfl | (simp only [dl1, dl2, dl3, dl4, dl5, dl6]; omega), by first | omega | exact Nat.le_of_ble_eq_true rfl | (simp only [dl1, dl2, dl3, dl4, dl5, dl6]; omega), k_rl ?_, k_rr⟩
  rw [hF2]
  conv => whnf
  refine ⟨fun _ => ?_, fun h => absurd rfl h⟩
  by_cases h0 : kc = 0
  · subst h0
    conv => whnf
    refine ⟨fun h => absurd h (fun z => z nI_0), fun _ => ?_⟩
    conv => whnf
    refine ⟨2, 1, f, 0, ho2, rfl, rfl, by decide, by decide, ?_⟩
    rw [hf0 rfl, hb rfl]
    conv => whnf
    refine ⟨fun _ => ?_, fun h => absurd (show lg_cmp x.toInt64 x.toInt64 = 0 by unfold lg_cmp; rw [if_neg (fun z => absurd (Int64.lt_iff_toInt_lt.mp z) (Int.lt_irrefl _)), if_pos rfl]) h⟩
    conv => whnf
    exact hK _ _ _ _ _ hl2 (by omega) (by omega) ⟨rfl, rfl, rfl, rfl, s6 i, trivial⟩
  · conv => whnf
    refine ⟨fun _ => ?_, fun h => absurd (fun z => h0 ((q_eq0 (by omega)).mp z)) h⟩
    conv => whnf
    exact hK _ _ _ _ _ hl2 (by omega) (by omega) ⟨rfl, rfl, rfl, rfl, s6 i, trivial⟩
set_option maxRecDepth 8192 in
theorem l_restore (hfl : l.flags = pinnedFlags ++ [noTraceFlag]) (hl : lw ad am o g thr) (hi : 6 * i + 6 ≤ L) (hL : L < 2 ^ 20) (hk : k + 16 ≤ MC) (hn : n + 4000 ≤ MS) (hK : l_K KP sa ad am o i k n) : l_q l D aC sa L xs MC MS P KP 80 697 (l_lv sa ad am o i) [] g k n := by
  obtain ⟨fs, hz⟩ := lw_z hl
  obtain ⟨Q, hQ, hQP⟩ := pl_restore (l := l) (D := D) (aC := aC) hfl hl (a := xs (6 * i + 1))
  conv => whnf
  refine Or.inr ⟨_, _, 6 * i + 1, rfl, nI_add (6 * i) 1, by omega, by omega, ?_⟩
  conv => whnf
  refine ⟨(Nat.le_of_ble_eq_true rfl), _, _, _, hQ, by first | omega | exact Nat.le_of_ble_eq_true rfl | (simp only [dl1, dl2, dl3, dl4, dl5, dl6]; omega), by first | omega | exact Nat.le_of_ble_eq_true rfl | (simp only [dl1, dl2, dl3, dl4, dl5, dl6]; omega), fun v g1 hh => ?_, fun C g1 hh => ?_⟩
  rotate_left
  · obtain ⟨kc, x, f, -, hv, -⟩ := hQP _ _ hh
    cases hv
  obtain ⟨kc, x, f, hkc, hv, ⟨A, F, hm⟩, hf0, Q2, hQ2, hP2⟩ := hQP _ _ hh
  cases hv
  conv => whnf
  refine Or.inr ⟨_, _, 6 * i + 1, rfl, nI_add (6 * i) 1, by omega, by omega, ?_⟩
  conv => whnf
  refine ⟨⟨_, hm.z⟩, (Nat.le_of_ble_eq_true rfl), _, _, _, hQ2, by first | omega | exact Nat.le_of_ble_eq_true rfl | (simp only [dl1, dl2, dl3, dl4, dl5, dl6]; omega), by first | omega | exact Nat.le_of_ble_eq_true rfl | (simp only [dl1, dl2, dl3, dl4, dl5, dl6]; omega), fun v g2 hh => ?_, fun C g2 hh => ?_⟩
  rotate_left
  · obtain ⟨b, hv, -⟩ := hP2 _ _ hh
    cases hv
  obtain ⟨b, hv, hb, hl2, ho2⟩ := hP2 _ _ hh
  cases hv
  obtain ⟨A2, F2, hm2, hF2⟩ := lw_m hl2
  conv => whnf
  refine ⟨⟨_, hm2.z⟩, (Nat.le_of_ble_eq_true rfl), _, _, _, c_M_thrown hfl hm2, by first | omega | exact Nat.le_of_ble_eq_true rfl | (simp only [dl1, dl2, dl3, dl4, dl5, dl6]; omega), by first | omega | exact Nat.le_of_ble_eq_true rfl | (simp only [dl1, dl2, dl3, dl4, dl5, dl6]; omega), k_rl ?_, k_rr⟩
  rw [hF2]
  conv => whnf
  refine ⟨fun _ => ?_, fun h => absurd rfl h⟩
  by_cases h0 : kc = 0
  · subst h0
    conv => whnf
    refine ⟨fun h => absurd h (fun z => z nI_0), fun _ => ?_⟩
    conv => whnf
    refine ⟨2, 1, f, 0, ho2, rfl, rfl, by decide, by decide, ?_⟩
    rw [hf0 rfl, hb rfl]
    conv => whnf
    refine ⟨fun _ => ?_, fun h => absurd (show lg_cmp x.toInt64 x.toInt64 = 0 by unfold lg_cmp; rw [if_neg (fun z => absurd (Int64.lt_iff_toInt_lt.mp z) (Int.lt_irrefl _)), if_pos rfl]) h⟩
    conv => whnf
    exact hK _ _ _ _ _ hl2 (by omega) (by omega) ⟨rfl, rfl, rfl, rfl, s6 i, trivial⟩
  · conv => whnf
    refine ⟨fun _ => ?_, fun h => absurd (fun z => h0 ((q_eq0 (by omega)).mp z)) h⟩
    conv => whnf
    exact hK _ _ _ _ _ hl2 (by omega) (by omega) ⟨rfl, rfl, rfl, rfl, s6 i, trivial⟩
set_option maxRecDepth 8192 in
theorem l_prune (hfl : l.flags = pinnedFlags ++ [noTraceFlag]) (hl : lw ad am o g thr) (hi : 6 * i + 6 ≤ L) (hL : L < 2 ^ 20) (hk : k + 16 ≤ MC) (hn : n + 4000 ≤ MS) (hK : l_K KP sa ad am o i k n) : l_q l D aC sa L xs MC MS P KP 80 753 (l_lv sa ad am o i) [] g k n := by
  obtain ⟨fs, hz⟩ := lw_z hl
  obtain ⟨Q, hQ, hQP⟩ := pl_prune (l := l) (D := D) (aC := aC) hfl hl (a := xs (6 * i + 1))
  conv => whnf
  refine Or.inr ⟨_, _, 6 * i + 1, rfl, nI_add (6 * i) 1, by omega, by omega, ?_⟩
  conv => whnf
  refine ⟨(Nat.le_of_ble_eq_true rfl), _, _, _, hQ, by first | omega | exact Nat.le_of_ble_eq_true rfl | (simp only [dl1, dl2, dl3, dl4, dl5, dl6]; omega), by first | omega | exact Nat.le_of_ble_eq_true rfl | (simp only [dl1, dl2, dl3, dl4, dl5, dl6]; omega), fun v g1 hh => ?_, fun C g1 hh => ?_⟩
  rotate_left
  · obtain ⟨kc, x, f, -, hv, -⟩ := hQP _ _ hh
    cases hv
  obtain ⟨kc, x, f, hkc, hv, ⟨A, F, hm⟩, hf0, Q2, hQ2, hP2⟩ := hQP _ _ hh
  cases hv
  conv => whnf
  refine Or.inr ⟨_, _, 6 * i + 1, rfl, nI_add (6 * i) 1, by omega, by omega, ?_⟩
  conv => whnf
  refine ⟨⟨_, hm.z⟩, (Nat.le_of_ble_eq_true rfl), _, _, _, hQ2, by first | omega | exact Nat.le_of_ble_eq_true rfl | (simp only [dl1, dl2, dl3, dl4, dl5, dl6]; omega), by first | omega | exact Nat.le_of_ble_eq_true rfl | (simp only [dl1, dl2, dl3, dl4, dl5, dl6]; omega), fun v g2 hh => ?_, fun C g2 hh => ?_⟩
  rotate_left
  · obtain ⟨b, hv, -⟩ := hP2 _ _ hh
    cases hv
  obtain ⟨b, hv, hb, hl2, ho2⟩ := hP2 _ _ hh
  cases hv
  obtain ⟨A2, F2, hm2, hF2⟩ := lw_m hl2
  conv => whnf
  refine ⟨⟨_, hm2.z⟩, (Nat.le_of_ble_eq_true rfl), _, _, _, c_M_thrown hfl hm2, by first | omega | exact Nat.le_of_ble_eq_true rfl | (simp only [dl1, dl2, dl3, dl4, dl5, dl6]; omega), by first | omega | exact Nat.le_of_ble_eq_true rfl | (simp only [dl1, dl2, dl3, dl4, dl5, dl6]; omega), k_rl ?_, k_rr⟩
  rw [hF2]
  conv => whnf
  refine ⟨fun _ => ?_, fun h => absurd rfl h⟩
  by_cases h0 : kc = 0
  · subst h0
    conv => whnf
    refine ⟨fun h => absurd h (fun z => z nI_0), fun _ => ?_⟩
    conv => whnf
    refine ⟨2, 1, f, 0, ho2, rfl, rfl, by decide, by decide, ?_⟩
    rw [hf0 rfl, hb rfl]
    conv => whnf
    refine ⟨fun _ => ?_, fun h => absurd (show lg_cmp x.toInt64 x.toInt64 = 0 by unfold lg_cmp; rw [if_neg (fun z => absurd (Int64.lt_iff_toInt_lt.mp z) (Int.lt_irrefl _)), if_pos rfl]) h⟩
    conv => whnf
    exact hK _ _ _ _ _ hl2 (by omega) (by omega) ⟨rfl, rfl, rfl, rfl, s6 i, trivial⟩
  · conv => whnf
    refine ⟨fun _ => ?_, fun h => absurd (fun z => h0 ((q_eq0 (by omega)).mp z)) h⟩
    conv => whnf
    exact hK _ _ _ _ _ hl2 (by omega) (by omega) ⟨rfl, rfl, rfl, rfl, s6 i, trivial⟩
end LAW
