/-! MirrorKeepModel: the constructor -/
section MI
def mv (n : Nat) (am : Nat → Nat) (k : Nat) : Value := if k ≤ n then .ref (am k) else .null
abbrev mw (n : Nat) (am : Nat → Nat) : g_C := .inr (7, [.int 0, mv n am 1, mv n am 2, mv n am 3, mv n am 4, mv n am 5, mv n am 6, mv n am 7, mv n am 8, mv n am 9, mv n am 10, mv n am 11, mv n am 12, .int 0, .int 0, .int 0, .int 0, .int 0, .int 0, mv n am 13, mv n am 14, .int 0, .int 0, mv n am 15])
def pm (n : Nat) (am : Nat → Nat) (g : g_H) : Prop := (∀ i j, i ≤ n → j ≤ n → am i = am j → i = j) ∧ g (am 0) = some (mw n am) ∧ ∀ i, 0 < i → i ≤ n → g (am i) = some (ac (mlen i) (fun _ => 0))
def ams (am : Nat → Nat) (n q : Nat) : Nat → Nat := fun k => if k = n then q else am k
theorem pm_s {n q : Nat} {am : Nat → Nat} {g : g_H} (h : pm n am g) (hq : g q = none) : pm (n + 1) (ams am (n + 1) q) (g_up (g_up g q (ac (mlen (n + 1)) (fun _ => 0))) (am 0) (mw (n + 1) (ams am (n + 1) q))) := by
  obtain ⟨h1, h2, h3⟩ := h
  have e0 : ∀ k, k ≤ n → ams am (n + 1) q k = am k := fun k hk => if_neg (by omega)
  have e1 : ams am (n + 1) q (n + 1) = q := if_pos rfl
  have hne : ∀ k, k ≤ n → am k ≠ q := fun k hk z => by
    by_cases hk0 : k = 0
    · subst hk0; rw [z, hq] at h2; cases h2
    · have := h3 k (by omega) hk
      rw [z, hq] at this; cases this
  refine ⟨fun i j hi hj hij => ?_, ?_, fun i h0 hi => ?_⟩
  · by_cases a : i = n + 1
    · by_cases b : j = n + 1
      · omega
      · rw [a, e1, e0 j (by omega)] at hij
        exact absurd hij.symm (hne j (by omega))
    · by_cases b : j = n + 1
      · rw [b, e1, e0 i (by omega)] at hij
        exact absurd hij (hne i (by omega))
      · rw [e0 i (by omega), e0 j (by omega)] at hij
        exact h1 i j (by omega) (by omega) hij
  · rw [e0 0 (by omega), g_up_s]
  · by_cases a : i = n + 1
    · rw [a, e1, g_up_n (hne 0 (by omega)).symm, g_up_s]
    · rw [e0 i (by omega), g_up_n (fun z => by have := h1 i 0 (by omega) (by omega) z; omega), g_up_n (hne i (by omega))]
      exact h3 i h0 (by omega)
theorem tm0 {t : Nat} : tm (fun _ _ => 0) t [] := ⟨nI_0.symm, nI_0.symm, by simp, by simp [sumC], fun i E h => by simp at h⟩
theorem mR0 : mR (fun _ _ => 0) (fun _ => 0) (List.replicate 20 0) [] [] [] [] [] [] [] none 0 0 0 0 := by
  refine ⟨⟨nI_0.symm, rfl, nI_0.symm, nI_0.symm, nI_0.symm, rfl⟩, ⟨by simp, fun i hi => ?_, fun b hb => ?_⟩, ⟨by simp, fun i hi => by simp at hi, fun b hb => by cases hb⟩, tm0, tm0, tm0, tm0, tm0, ⟨by simp, fun i X hX => by simp at hX⟩, nI_0.symm⟩
  · rw [List.length_replicate] at hi
    rw [List.getD_eq_getElem?_getD, List.getElem?_replicate, if_pos hi]; exact nI_0.symm
  · have := (List.mem_replicate.mp hb).2; omega
variable {l : Launch} {D : va_G} {aC : Nat → ClassId}
set_option maxHeartbeats 4000000 in
theorem c_M_init (hfl : l.flags = pinnedFlags ++ [noTraceFlag]) {x : Nat} {g : g_H} (hx : g x = some (mw 0 (fun _ => x))) : k_CT l D aC n_M_init 15 1229862 [.ref x] g (fun oc g1 => oc = .inl none ∧ fx [x] g g1 ∧ ∃ am A F, am 0 = x ∧ mg am A F g1 ∧ F 0 = nI 0 ∧ mR A F (List.replicate 20 0) [] [] [] [] [] [] [] none 0 0 0 0) := by
  refine k_while hfl n_M_init ok_M_init rfl rfl rfl rfl rfl rfl (fun _ => rfl) (Nat.le_of_ble_eq_true rfl) [4, 12, 20, 29, 38, 47, 56, 65, 74, 82, 90, 98, 107, 115, 123, 132] (fun pc d lv g1 k n => ∃ am, lv = [(0, .ref x)] ∧ am 0 = x ∧ fx [x] g g1 ∧ ((pc = 4 ∧ d = 15 ∧ k = 0 ∧ n = 0 ∧ pm 0 am g1) ∨ (pc = 12 ∧ d = 14 ∧ k = 1 ∧ n = 46 ∧ pm 1 am g1) ∨ (pc = 20 ∧ d = 13 ∧ k = 2 ∧ n = 92 ∧ pm 2 am g1) ∨ (pc = 29 ∧ d = 12 ∧ k = 3 ∧ n = 5612 ∧ pm 3 am g1) ∨ (pc = 38 ∧ d = 11 ∧ k = 4 ∧ n = 11132 ∧ pm 4 am g1) ∨ (pc = 47 ∧ d = 10 ∧ k = 5 ∧ n = 16652 ∧ pm 5 am g1) ∨ (pc = 56 ∧ d = 9 ∧ k = 6 ∧ n = 22172 ∧ pm 6 am g1) ∨ (pc = 65 ∧ d = 8 ∧ k = 7 ∧ n = 27692 ∧ pm 7 am g1) ∨ (pc = 74 ∧ d = 7 ∧ k = 8 ∧ n = 33212 ∧ pm 8 am g1) ∨ (pc = 82 ∧ d = 6 ∧ k = 9 ∧ n = 861212 ∧ pm 9 am g1) ∨ (pc = 90 ∧ d = 5 ∧ k = 10 ∧ n = 1229212 ∧ pm 10 am g1) ∨ (pc = 98 ∧ d = 4 ∧ k = 11 ∧ n = 1229232 ∧ pm 11 am g1) ∨ (pc = 107 ∧ d = 3 ∧ k = 12 ∧ n = 1229632 ∧ pm 12 am g1) ∨ (pc = 115 ∧ d = 2 ∧ k = 13 ∧ n = 1229672 ∧ pm 13 am g1) ∨ (pc = 123 ∧ d = 1 ∧ k = 14 ∧ n = 1229712 ∧ pm 14 am g1) ∨ (pc = 132 ∧ d = 0 ∧ k = 15 ∧ n = 1229862 ∧ pm 15 am g1))) 60 ?_ 80 ?_
  · conv => whnf
    refine ⟨(Nat.le_of_ble_eq_true rfl), ?_⟩
    conv => whnf
    exact ⟨rfl, _, _, ⟨fun _ => x, rfl, rfl, fx_rf, Or.inl ⟨rfl, rfl, rfl, rfl, fun i j hi hj _ => by omega, hx, fun i h0 hi => by omega⟩⟩, rfl, trivial⟩
  · rintro d pc lv g1 k n ⟨am, rfl, rfl, hfx, (⟨rfl, rfl, rfl, rfl, hp⟩ | ⟨rfl, rfl, rfl, rfl, hp⟩ | ⟨rfl, rfl, rfl, rfl, hp⟩ | ⟨rfl, rfl, rfl, rfl, hp⟩ | ⟨rfl, rfl, rfl, rfl, hp⟩ | ⟨rfl, rfl, rfl, rfl, hp⟩ | ⟨rfl, rfl, rfl, rfl, hp⟩ | ⟨rfl, rfl, rfl, rfl, hp⟩ | ⟨rfl, rfl, rfl, rfl, hp⟩ | ⟨rfl, rfl, rfl, rfl, hp⟩ | ⟨rfl, rfl, rfl, rfl, hp⟩ | ⟨rfl, rfl, rfl, rfl, hp⟩ | ⟨rfl, rfl, rfl, rfl, hp⟩ | ⟨rfl, rfl, rfl, rfl, hp⟩ | ⟨rfl, rfl, rfl, rfl, hp⟩ | ⟨rfl, rfl, rfl, rfl, hp⟩)⟩
    · conv => whnf
      refine ⟨46, rfl, by decide, by first | omega | exact Nat.le_of_ble_eq_true rfl | (simp only [dl1, dl2, dl3, dl4, dl5, dl6]; omega), by first | omega | exact Nat.le_of_ble_eq_true rfl | (simp only [dl1, dl2, dl3, dl4, dl5, dl6]; omega), fun q hq => ?_⟩
      conv => whnf
      refine ⟨_, (by rw [g_up_n (fun z => by rw [← z, hp.2.1] at hq; cases hq)]; exact hp.2.1), by simp, rfl, rfl, ?_⟩
      conv => whnf
      exact ⟨rfl, _, _, by decide, ⟨ams am 1 q, rfl, rfl, fx_up (fx_new hfx (Classical.byContradiction fun z => (hfx q z).1 hq)) (by simp), Or.inr (Or.inl ⟨rfl, rfl, rfl, rfl, pm_s hp hq⟩)⟩, rfl, trivial⟩
    · conv => whnf
      refine ⟨46, rfl, by decide, by first | omega | exact Nat.le_of_ble_eq_true rfl | (simp only [dl1, dl2, dl3, dl4, dl5, dl6]; omega), by first | omega | exact Nat.le_of_ble_eq_true rfl | (simp only [dl1, dl2, dl3, dl4, dl5, dl6]; omega), fun q hq => ?_⟩
      conv => whnf
      refine ⟨_, (by rw [g_up_n (fun z => by rw [← z, hp.2.1] at hq; cases hq)]; exact hp.2.1), by simp, rfl, rfl, ?_⟩
      conv => whnf
      exact ⟨rfl, _, _, by decide, ⟨ams am 2 q, rfl, rfl, fx_up (fx_new hfx (Classical.byContradiction fun z => (hfx q z).1 hq)) (by simp), Or.inr (Or.inr (Or.inl ⟨rfl, rfl, rfl, rfl, pm_s hp hq⟩))⟩, rfl, trivial⟩
    · conv => whnf
      refine ⟨5520, rfl, by decide, by first | omega | exact Nat.le_of_ble_eq_true rfl | (simp only [dl1, dl2, dl3, dl4, dl5, dl6]; omega), by first | omega | exact Nat.le_of_ble_eq_true rfl | (simp only [dl1, dl2, dl3, dl4, dl5, dl6]; omega), fun q hq => ?_⟩
      conv => whnf
      refine ⟨_, (by rw [g_up_n (fun z => by rw [← z, hp.2.1] at hq; cases hq)]; exact hp.2.1), by simp, rfl, rfl, ?_⟩
      conv => whnf
      exact ⟨rfl, _, _, by decide, ⟨ams am 3 q, rfl, rfl, fx_up (fx_new hfx (Classical.byContradiction fun z => (hfx q z).1 hq)) (by simp), Or.inr (Or.inr (Or.inr (Or.inl ⟨rfl, rfl, rfl, rfl, pm_s hp hq⟩)))⟩, rfl, trivial⟩
    · conv => whnf
      refine ⟨5520, rfl, by decide, by first | omega | exact Nat.le_of_ble_eq_true rfl | (simp only [dl1, dl2, dl3, dl4, dl5, dl6]; omega), by first | omega | exact Nat.le_of_ble_eq_true rfl | (simp only [dl1, dl2, dl3, dl4, dl5, dl6]; omega), fun q hq => ?_⟩
      conv => whnf
      refine ⟨_, (by rw [g_up_n (fun z => by rw [← z, hp.2.1] at hq; cases hq)]; exact hp.2.1), by simp, rfl, rfl, ?_⟩
      conv => whnf
      exact ⟨rfl, _, _, by decide, ⟨ams am 4 q, rfl, rfl, fx_up (fx_new hfx (Classical.byContradiction fun z => (hfx q z).1 hq)) (by simp), Or.inr (Or.inr (Or.inr (Or.inr (Or.inl ⟨rfl, rfl, rfl, rfl, pm_s hp hq⟩))))⟩, rfl, trivial⟩
    · conv => whnf
      refine ⟨5520, rfl, by decide, by first | omega | exact Nat.le_of_ble_eq_true rfl | (simp only [dl1, dl2, dl3, dl4, dl5, dl6]; omega), by first | omega | exact Nat.le_of_ble_eq_true rfl | (simp only [dl1, dl2, dl3, dl4, dl5, dl6]; omega), fun q hq => ?_⟩
      conv => whnf
      refine ⟨_, (by rw [g_up_n (fun z => by rw [← z, hp.2.1] at hq; cases hq)]; exact hp.2.1), by simp, rfl, rfl, ?_⟩
      conv => whnf
      exact ⟨rfl, _, _, by decide, ⟨ams am 5 q, rfl, rfl, fx_up (fx_new hfx (Classical.byContradiction fun z => (hfx q z).1 hq)) (by simp), Or.inr (Or.inr (Or.inr (Or.inr (Or.inr (Or.inl ⟨rfl, rfl, rfl, rfl, pm_s hp hq⟩)))))⟩, rfl, trivial⟩
    · conv => whnf
      refine ⟨5520, rfl, by decide, by first | omega | exact Nat.le_of_ble_eq_true rfl | (simp only [dl1, dl2, dl3, dl4, dl5, dl6]; omega), by first | omega | exact Nat.le_of_ble_eq_true rfl | (simp only [dl1, dl2, dl3, dl4, dl5, dl6]; omega), fun q hq => ?_⟩
      conv => whnf
      refine ⟨_, (by rw [g_up_n (fun z => by rw [← z, hp.2.1] at hq; cases hq)]; exact hp.2.1), by simp, rfl, rfl, ?_⟩
      conv => whnf
      exact ⟨rfl, _, _, by decide, ⟨ams am 6 q, rfl, rfl, fx_up (fx_new hfx (Classical.byContradiction fun z => (hfx q z).1 hq)) (by simp), Or.inr (Or.inr (Or.inr (Or.inr (Or.inr (Or.inr (Or.inl ⟨rfl, rfl, rfl, rfl, pm_s hp hq⟩))))))⟩, rfl, trivial⟩
    · conv => whnf
      refine ⟨5520, rfl, by decide, by first | omega | exact Nat.le_of_ble_eq_true rfl | (simp only [dl1, dl2, dl3, dl4, dl5, dl6]; omega), by first | omega | exact Nat.le_of_ble_eq_true rfl | (simp only [dl1, dl2, dl3, dl4, dl5, dl6]; omega), fun q hq => ?_⟩
      conv => whnf
      refine ⟨_, (by rw [g_up_n (fun z => by rw [← z, hp.2.1] at hq; cases hq)]; exact hp.2.1), by simp, rfl, rfl, ?_⟩
      conv => whnf
      exact ⟨rfl, _, _, by decide, ⟨ams am 7 q, rfl, rfl, fx_up (fx_new hfx (Classical.byContradiction fun z => (hfx q z).1 hq)) (by simp), Or.inr (Or.inr (Or.inr (Or.inr (Or.inr (Or.inr (Or.inr (Or.inl ⟨rfl, rfl, rfl, rfl, pm_s hp hq⟩)))))))⟩, rfl, trivial⟩
    · conv => whnf
      refine ⟨5520, rfl, by decide, by first | omega | exact Nat.le_of_ble_eq_true rfl | (simp only [dl1, dl2, dl3, dl4, dl5, dl6]; omega), by first | omega | exact Nat.le_of_ble_eq_true rfl | (simp only [dl1, dl2, dl3, dl4, dl5, dl6]; omega), fun q hq => ?_⟩
      conv => whnf
      refine ⟨_, (by rw [g_up_n (fun z => by rw [← z, hp.2.1] at hq; cases hq)]; exact hp.2.1), by simp, rfl, rfl, ?_⟩
      conv => whnf
      exact ⟨rfl, _, _, by decide, ⟨ams am 8 q, rfl, rfl, fx_up (fx_new hfx (Classical.byContradiction fun z => (hfx q z).1 hq)) (by simp), Or.inr (Or.inr (Or.inr (Or.inr (Or.inr (Or.inr (Or.inr (Or.inr (Or.inl ⟨rfl, rfl, rfl, rfl, pm_s hp hq⟩))))))))⟩, rfl, trivial⟩
    · conv => whnf
      refine ⟨828000, rfl, by decide, by first | omega | exact Nat.le_of_ble_eq_true rfl | (simp only [dl1, dl2, dl3, dl4, dl5, dl6]; omega), by first | omega | exact Nat.le_of_ble_eq_true rfl | (simp only [dl1, dl2, dl3, dl4, dl5, dl6]; omega), fun q hq => ?_⟩
      conv => whnf
      refine ⟨_, (by rw [g_up_n (fun z => by rw [← z, hp.2.1] at hq; cases hq)]; exact hp.2.1), by simp, rfl, rfl, ?_⟩
      conv => whnf
      exact ⟨rfl, _, _, by decide, ⟨ams am 9 q, rfl, rfl, fx_up (fx_new hfx (Classical.byContradiction fun z => (hfx q z).1 hq)) (by simp), Or.inr (Or.inr (Or.inr (Or.inr (Or.inr (Or.inr (Or.inr (Or.inr (Or.inr (Or.inl ⟨rfl, rfl, rfl, rfl, pm_s hp hq⟩)))))))))⟩, rfl, trivial⟩
    · conv => whnf
      refine ⟨368000, rfl, by decide, by first | omega | exact Nat.le_of_ble_eq_true rfl | (simp only [dl1, dl2, dl3, dl4, dl5, dl6]; omega), by first | omega | exact Nat.le_of_ble_eq_true rfl | (simp only [dl1, dl2, dl3, dl4, dl5, dl6]; omega), fun q hq => ?_⟩
      conv => whnf
      refine ⟨_, (by rw [g_up_n (fun z => by rw [← z, hp.2.1] at hq; cases hq)]; exact hp.2.1), by simp, rfl, rfl, ?_⟩
      conv => whnf
      exact ⟨rfl, _, _, by decide, ⟨ams am 10 q, rfl, rfl, fx_up (fx_new hfx (Classical.byContradiction fun z => (hfx q z).1 hq)) (by simp), Or.inr (Or.inr (Or.inr (Or.inr (Or.inr (Or.inr (Or.inr (Or.inr (Or.inr (Or.inr (Or.inl ⟨rfl, rfl, rfl, rfl, pm_s hp hq⟩))))))))))⟩, rfl, trivial⟩
    · conv => whnf
      refine ⟨20, rfl, by decide, by first | omega | exact Nat.le_of_ble_eq_true rfl | (simp only [dl1, dl2, dl3, dl4, dl5, dl6]; omega), by first | omega | exact Nat.le_of_ble_eq_true rfl | (simp only [dl1, dl2, dl3, dl4, dl5, dl6]; omega), fun q hq => ?_⟩
      conv => whnf
      refine ⟨_, (by rw [g_up_n (fun z => by rw [← z, hp.2.1] at hq; cases hq)]; exact hp.2.1), by simp, rfl, rfl, ?_⟩
      conv => whnf
      exact ⟨rfl, _, _, by decide, ⟨ams am 11 q, rfl, rfl, fx_up (fx_new hfx (Classical.byContradiction fun z => (hfx q z).1 hq)) (by simp), Or.inr (Or.inr (Or.inr (Or.inr (Or.inr (Or.inr (Or.inr (Or.inr (Or.inr (Or.inr (Or.inr (Or.inl ⟨rfl, rfl, rfl, rfl, pm_s hp hq⟩)))))))))))⟩, rfl, trivial⟩
    · conv => whnf
      refine ⟨400, rfl, by decide, by first | omega | exact Nat.le_of_ble_eq_true rfl | (simp only [dl1, dl2, dl3, dl4, dl5, dl6]; omega), by first | omega | exact Nat.le_of_ble_eq_true rfl | (simp only [dl1, dl2, dl3, dl4, dl5, dl6]; omega), fun q hq => ?_⟩
      conv => whnf
      refine ⟨_, (by rw [g_up_n (fun z => by rw [← z, hp.2.1] at hq; cases hq)]; exact hp.2.1), by simp, rfl, rfl, ?_⟩
      conv => whnf
      exact ⟨rfl, _, _, by decide, ⟨ams am 12 q, rfl, rfl, fx_up (fx_new hfx (Classical.byContradiction fun z => (hfx q z).1 hq)) (by simp), Or.inr (Or.inr (Or.inr (Or.inr (Or.inr (Or.inr (Or.inr (Or.inr (Or.inr (Or.inr (Or.inr (Or.inr (Or.inl ⟨rfl, rfl, rfl, rfl, pm_s hp hq⟩))))))))))))⟩, rfl, trivial⟩
    · conv => whnf
      refine ⟨40, rfl, by decide, by first | omega | exact Nat.le_of_ble_eq_true rfl | (simp only [dl1, dl2, dl3, dl4, dl5, dl6]; omega), by first | omega | exact Nat.le_of_ble_eq_true rfl | (simp only [dl1, dl2, dl3, dl4, dl5, dl6]; omega), fun q hq => ?_⟩
      conv => whnf
      refine ⟨_, (by rw [g_up_n (fun z => by rw [← z, hp.2.1] at hq; cases hq)]; exact hp.2.1), by simp, rfl, rfl, ?_⟩
      conv => whnf
      exact ⟨rfl, _, _, by decide, ⟨ams am 13 q, rfl, rfl, fx_up (fx_new hfx (Classical.byContradiction fun z => (hfx q z).1 hq)) (by simp), Or.inr (Or.inr (Or.inr (Or.inr (Or.inr (Or.inr (Or.inr (Or.inr (Or.inr (Or.inr (Or.inr (Or.inr (Or.inr (Or.inl ⟨rfl, rfl, rfl, rfl, pm_s hp hq⟩)))))))))))))⟩, rfl, trivial⟩
    · conv => whnf
      refine ⟨40, rfl, by decide, by first | omega | exact Nat.le_of_ble_eq_true rfl | (simp only [dl1, dl2, dl3, dl4, dl5, dl6]; omega), by first | omega | exact Nat.le_of_ble_eq_true rfl | (simp only [dl1, dl2, dl3, dl4, dl5, dl6]; omega), fun q hq => ?_⟩
      conv => whnf
      refine ⟨_, (by rw [g_up_n (fun z => by rw [← z, hp.2.1] at hq; cases hq)]; exact hp.2.1), by simp, rfl, rfl, ?_⟩
      conv => whnf
      exact ⟨rfl, _, _, by decide, ⟨ams am 14 q, rfl, rfl, fx_up (fx_new hfx (Classical.byContradiction fun z => (hfx q z).1 hq)) (by simp), Or.inr (Or.inr (Or.inr (Or.inr (Or.inr (Or.inr (Or.inr (Or.inr (Or.inr (Or.inr (Or.inr (Or.inr (Or.inr (Or.inr (Or.inl ⟨rfl, rfl, rfl, rfl, pm_s hp hq⟩))))))))))))))⟩, rfl, trivial⟩
    · conv => whnf
      refine ⟨150, rfl, by decide, by first | omega | exact Nat.le_of_ble_eq_true rfl | (simp only [dl1, dl2, dl3, dl4, dl5, dl6]; omega), by first | omega | exact Nat.le_of_ble_eq_true rfl | (simp only [dl1, dl2, dl3, dl4, dl5, dl6]; omega), fun q hq => ?_⟩
      conv => whnf
      refine ⟨_, (by rw [g_up_n (fun z => by rw [← z, hp.2.1] at hq; cases hq)]; exact hp.2.1), by simp, rfl, rfl, ?_⟩
      conv => whnf
      exact ⟨rfl, _, _, by decide, ⟨ams am 15 q, rfl, rfl, fx_up (fx_new hfx (Classical.byContradiction fun z => (hfx q z).1 hq)) (by simp), Or.inr (Or.inr (Or.inr (Or.inr (Or.inr (Or.inr (Or.inr (Or.inr (Or.inr (Or.inr (Or.inr (Or.inr (Or.inr (Or.inr (Or.inr (⟨rfl, rfl, rfl, rfl, pm_s hp hq⟩)))))))))))))))⟩, rfl, trivial⟩
    · conv => whnf
      refine ⟨rfl, ?_, by first | omega | exact Nat.le_of_ble_eq_true rfl | (simp only [dl1, dl2, dl3, dl4, dl5, dl6]; omega), by first | omega | exact Nat.le_of_ble_eq_true rfl | (simp only [dl1, dl2, dl3, dl4, dl5, dl6]; omega)⟩
      refine ⟨rfl, hfx, am, fun _ _ => 0, fun _ => 0, rfl, ⟨fun i j hi hj hij => hp.1 i j (by omega) (by omega) hij, hp.2.1, fun i h0 hi => hp.2.2 i h0 (by omega)⟩, nI_0.symm, mR0⟩
end MI
