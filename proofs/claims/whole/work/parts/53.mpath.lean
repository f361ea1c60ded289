/-! MirrorKeepModel: isName, isPath, chooseTape, hasDirectory, choose, chosenAt -/
section MPT
theorem dots_0 (L : List Nat) (s : Nat) : dots L s s = 0 := by
  have : ∀ i, i ≤ s → dots L s i = 0 := by
    intro i
    induction i with
    | zero => intro _; rfl
    | succ i ih => intro h; unfold dots; rw [ih (by omega), if_neg (by omega)]
  exact this s (Nat.le_refl _)
def dtN (L : List Nat) (s n : Nat) : Bool := decide (L.getD s 0 = 46 ∧ (n = 1 ∨ (n = 2 ∧ L.getD (s + 1) 0 = 46)))
theorem nm_dots {L : List Nat} {s n : Nat} (h1 : 1 ≤ n) : (decide (dots L s (s + n) = s + n - s) && decide (s + n - s ≤ 2)) = dtN L s n := by
  have e1 : dots L s (s + 1) = if L.getD s 0 = 46 then 1 else 0 := by
    show dots L s s + (if s ≤ s ∧ L.getD s 0 = 46 then 1 else 0) = _
    rw [dots_0]
    by_cases h : L.getD s 0 = 46
    · rw [if_pos ⟨Nat.le_refl _, h⟩, if_pos h]
    · rw [if_neg (fun z => h z.2), if_neg h]
  have e2 : dots L s (s + 2) = (if L.getD s 0 = 46 then 1 else 0) + if L.getD (s + 1) 0 = 46 then 1 else 0 := by
    show dots L s (s + 1) + (if s ≤ s + 1 ∧ L.getD (s + 1) 0 = 46 then 1 else 0) = _
    rw [e1]
    by_cases h : L.getD (s + 1) 0 = 46
    · rw [if_pos (⟨by omega, h⟩ : s ≤ s + 1 ∧ L.getD (s + 1) 0 = 46), if_pos h]
    · rw [if_neg (fun z => h z.2 : ¬ (s ≤ s + 1 ∧ L.getD (s + 1) 0 = 46)), if_neg h]
  unfold dtN
  rw [Nat.add_sub_cancel_left, ← Bool.decide_and]
  refine decide_eq_decide.mpr ?_
  rcases (by omega : n = 1 ∨ n = 2 ∨ 3 ≤ n) with z | z | z
  · subst z
    rw [e1]
    by_cases h : L.getD s 0 = 46
    · rw [if_pos h]; exact ⟨fun _ => ⟨h, Or.inl rfl⟩, fun _ => ⟨rfl, by omega⟩⟩
    · rw [if_neg h]; exact ⟨fun y => by omega, fun y => absurd y.1 h⟩
  · subst z
    rw [e2]
    by_cases h : L.getD s 0 = 46
    · by_cases h2 : L.getD (s + 1) 0 = 46
      · rw [if_pos h, if_pos h2]; exact ⟨fun _ => ⟨h, Or.inr ⟨rfl, h2⟩⟩, fun _ => ⟨rfl, by omega⟩⟩
      · rw [if_pos h, if_neg h2]; exact ⟨fun y => by omega, fun y => by rcases y.2 with q | q; omega; exact absurd q.2 h2⟩
    · rw [if_neg h]; exact ⟨fun y => by have := y.1; split at this <;> omega, fun y => absurd y.1 h⟩
  · exact ⟨fun y => by omega, fun y => by rcases y.2 with q | q <;> omega⟩
theorem nm_eq {L : List Nat} {s n : Nat} {z : Bool} (h1 : 1 ≤ n) (h2 : n ≤ 24) (hz : z = true ↔ ∃ j, j < n ∧ L.getD (s + j) 0 = 0) : nmOk L s (s + n) = (!dtN L s n && !z) := by
  unfold nmOk
  rw [nm_dots h1, decide_eq_true (by omega : 1 ≤ s + n - s ∧ s + n - s ≤ 24), Bool.true_and, Bool.and_comm]
  congr 1
  cases z with
  | true =>
    obtain ⟨j, hj, h0⟩ := hz.mp rfl
    exact decide_eq_false (fun y => y (s + j) (by omega) (by omega) h0)
  | false =>
    refine decide_eq_true (fun i hi hs h0 => ?_)
    have : false = true := hz.mpr ⟨i - s, by omega, by rw [show s + (i - s) = i by omega]; exact h0⟩
    cases this
theorem nm_no {L : List Nat} {s n : Nat} (h : ¬ (1 ≤ n ∧ n ≤ 24)) : nmOk L s (s + n) = false := by
  unfold nmOk
  rw [decide_eq_false (by omega : ¬ (1 ≤ s + n - s ∧ s + n - s ≤ 24)), Bool.false_and, Bool.false_and]
variable {am : Nat → Nat} {A A1 : mA} {F F1 : mF} {g : g_H} {R T : List Nat} {S M Rs : List Ent} {Hs : List Ses} {O N : List Ent} {cp : Option (List Nat)} {st tv : Int32} {op nX : Nat}
variable {l : Launch} {D : va_G} {aC : Nat → ClassId}
theorem c_M_isName (hfl : l.flags = pinnedFlags ++ [noTraceFlag]) {p s n : Nat} {f : Nat → Int32} {L : List Nat} (hp : g p = some (ac 400 f)) (hb : ib f L) (hl : L.length ≤ 400) (hs : s + n ≤ L.length) : k_CT l D aC n_M_isName 0 0 [.ref p, .int (nI s), .int (nI n)] g (rt (some (.int (b2 (nmOk L s (s + n))))) g) := by
  refine k_while hfl n_M_isName ok_M_isName rfl rfl rfl rfl rfl rfl (fun h => by cases h) (Nat.le_of_ble_eq_true rfl) [53] (fun pc d lv g1 k0 n0 => ∃ k z, pc = 53 ∧ d = n - k ∧ lv = [(0, .ref p), (1, .int (nI s)), (2, .int (nI n)), (3, .int (b2 (dtN L s n))), (4, .int (b2 z)), (5, .int (nI k))] ∧ g1 = g ∧ k0 = 0 ∧ n0 = 0 ∧ k ≤ n ∧ 1 ≤ n ∧ n ≤ 24 ∧ (z = true ↔ ∃ j, j < k ∧ L.getD (s + j) 0 = 0)) 60 ?_ 80 ?_
  · conv => whnf
    refine ⟨fun h5 => ?_, fun h5 => ?_⟩
    · have h9 : n < 1 := (q_lt (by omega) (by decide)).mp h5
      conv => whnf
      refine ⟨⟨_, rfl, rfl⟩, ⟨?_, rfl⟩, by first | omega | exact Nat.le_of_ble_eq_true rfl | (simp only [dl1, dl2, dl3, dl4, dl5, dl6]; omega), by first | omega | exact Nat.le_of_ble_eq_true rfl | (simp only [dl1, dl2, dl3, dl4, dl5, dl6]; omega)⟩
      rw [nm_no (by omega)]; rfl
    · have h9 : ¬ n < 1 := fun z => h5 ((q_lt (by omega) (by decide)).mpr z)
      conv => whnf
      refine ⟨fun h6 => ?_, fun h6 => ?_⟩
      · have h8 : n ≤ 24 := (q_le (by omega) (by decide)).mp h6
        have hb0 := getD_lt hb.2 (by omega : s < L.length)
        conv => whnf
        refine Or.inl ⟨1, _, _, s, hp, rfl, rfl, by omega, by first | decide | omega, ?_⟩
        rw [hb.1 s (by omega)]
        conv => whnf
        refine ⟨fun h7 => ?_, fun h7 => ?_⟩
        · have hne := (q_ne (by omega) (by decide)).mp h7
          have hdt : dtN L s n = false := decide_eq_false (fun z => hne z.1)
          conv => whnf
          refine ⟨rfl, _, _, ⟨0, false, rfl, rfl, rfl, rfl, rfl, rfl, by omega, by omega, by omega, ⟨fun z => by (cases z), fun ⟨j, hj, _⟩ => by omega⟩⟩, rfl, rfl, rfl, ?_, rfl, rfl, trivial⟩
          rw [hdt]; rfl
        · have he : L.getD s 0 = 46 := Classical.not_not.mp fun z => h7 ((q_ne (by omega) (by decide)).mpr z)
          conv => whnf
          refine ⟨fun h7 => ?_, fun h7 => ?_⟩
          · have h1 : n = 1 := (q_eq (by omega) (by decide)).mp h7
            have hdt : dtN L s n = true := decide_eq_true ⟨he, Or.inl h1⟩
            conv => whnf
            refine ⟨rfl, _, _, ⟨0, false, rfl, rfl, rfl, rfl, rfl, rfl, by omega, by omega, by omega, ⟨fun z => by (cases z), fun ⟨j, hj, _⟩ => by omega⟩⟩, rfl, rfl, rfl, ?_, rfl, rfl, trivial⟩
            rw [hdt]; rfl
          · have h1 : n ≠ 1 := fun z => h7 ((q_eq (by omega) (by decide)).mpr z)
            conv => whnf
            refine ⟨fun h7 => ?_, fun h7 => ?_⟩
            · have h2 : n ≠ 2 := (q_ne (by omega) (by decide)).mp h7
              have hdt : dtN L s n = false := decide_eq_false (fun z => by rcases z.2 with q|q <;> omega)
              conv => whnf
              refine ⟨rfl, _, _, ⟨0, false, rfl, rfl, rfl, rfl, rfl, rfl, by omega, by omega, by omega, ⟨fun z => by (cases z), fun ⟨j, hj, _⟩ => by omega⟩⟩, rfl, rfl, rfl, ?_, rfl, rfl, trivial⟩
              rw [hdt]; rfl
            · have h2 : n = 2 := Classical.not_not.mp fun z => h7 ((q_ne (by omega) (by decide)).mpr z)
              have hb1 := getD_lt hb.2 (by omega : s + 1 < L.length)
              conv => whnf
              refine Or.inl ⟨1, _, _, s + 1, hp, rfl, (nI_add s 1), (by omega), by first | decide | omega, ?_⟩
              rw [hb.1 (s + 1) (by omega)]
              conv => whnf
              refine ⟨fun h7 => ?_, fun h7 => ?_⟩
              · have hne := (q_ne (by omega) (by decide)).mp h7
                have hdt : dtN L s n = false := decide_eq_false (fun z => by rcases z.2 with q|q; omega; exact hne q.2)
                conv => whnf
                refine ⟨rfl, _, _, ⟨0, false, rfl, rfl, rfl, rfl, rfl, rfl, by omega, by omega, by omega, ⟨fun z => by (cases z), fun ⟨j, hj, _⟩ => by omega⟩⟩, rfl, rfl, rfl, ?_, rfl, rfl, trivial⟩
                rw [hdt]; rfl
              · have he2 : L.getD (s + 1) 0 = 46 := Classical.not_not.mp fun z => h7 ((q_ne (by omega) (by decide)).mpr z)
                have hdt : dtN L s n = true := decide_eq_true ⟨he, Or.inr ⟨h2, he2⟩⟩
                conv => whnf
                refine ⟨rfl, _, _, ⟨0, false, rfl, rfl, rfl, rfl, rfl, rfl, by omega, by omega, by omega, ⟨fun z => by (cases z), fun ⟨j, hj, _⟩ => by omega⟩⟩, rfl, rfl, rfl, ?_, rfl, rfl, trivial⟩
                rw [hdt]; rfl
      · have h8 : ¬ n ≤ 24 := fun z => h6 ((q_le (by omega) (by decide)).mpr z)
        conv => whnf
        refine ⟨⟨_, rfl, rfl⟩, ⟨?_, rfl⟩, by first | omega | exact Nat.le_of_ble_eq_true rfl | (simp only [dl1, dl2, dl3, dl4, dl5, dl6]; omega), by first | omega | exact Nat.le_of_ble_eq_true rfl | (simp only [dl1, dl2, dl3, dl4, dl5, dl6]; omega)⟩
        rw [nm_no (by omega)]; rfl
  · rintro d pc lv g1 k0 n0 ⟨k, z, rfl, rfl, rfl, rfl, rfl, rfl, hk, hn1, hn2, hz⟩
    conv => whnf
    refine ⟨fun h5 => ?_, fun h5 => ?_⟩
    · have h9 := (q_ge (by omega) (by omega)).mp h5
      obtain rfl : k = n := by omega
      have he := nm_eq hn1 hn2 hz
      generalize dtN L s k = dt at he ⊢
      cases dt with
      | true =>
        conv => whnf
        refine ⟨fun _ => ?_, fun h => absurd b2_t h⟩
        conv => whnf
        refine ⟨⟨_, rfl, rfl⟩, ⟨?_, rfl⟩, by first | omega | exact Nat.le_of_ble_eq_true rfl | (simp only [dl1, dl2, dl3, dl4, dl5, dl6]; omega), by first | omega | exact Nat.le_of_ble_eq_true rfl | (simp only [dl1, dl2, dl3, dl4, dl5, dl6]; omega)⟩
        rw [he]; rfl
      | false =>
        conv => whnf
        refine ⟨fun h => absurd h (fun y => y b2_f), fun _ => ?_⟩
        cases z with
        | true =>
          conv => whnf
          refine ⟨fun _ => ?_, fun h => absurd b2_t h⟩
          conv => whnf
          refine ⟨⟨_, rfl, rfl⟩, ⟨?_, rfl⟩, by first | omega | exact Nat.le_of_ble_eq_true rfl | (simp only [dl1, dl2, dl3, dl4, dl5, dl6]; omega), by first | omega | exact Nat.le_of_ble_eq_true rfl | (simp only [dl1, dl2, dl3, dl4, dl5, dl6]; omega)⟩
          rw [he]; rfl
        | false =>
          conv => whnf
          refine ⟨fun h => absurd h (fun y => y b2_f), fun _ => ?_⟩
          conv => whnf
          refine ⟨⟨_, rfl, rfl⟩, ⟨?_, rfl⟩, by first | omega | exact Nat.le_of_ble_eq_true rfl | (simp only [dl1, dl2, dl3, dl4, dl5, dl6]; omega), by first | omega | exact Nat.le_of_ble_eq_true rfl | (simp only [dl1, dl2, dl3, dl4, dl5, dl6]; omega)⟩
          rw [he]; rfl
    · have h9 : k < n := Nat.lt_of_not_le fun z => h5 ((q_ge (by omega) (by omega)).mpr z)
      cases z with
      | true =>
        conv => whnf
        refine ⟨fun _ => ?_, fun h => absurd b2_t h⟩
        conv => whnf
        refine ⟨rfl, _, _, ?_, ⟨k + 1, true, rfl, rfl, rfl, rfl, rfl, rfl, h9, hn1, hn2, ?_⟩, rfl, rfl, rfl, rfl, rfl, sI k, trivial⟩
        · omega
        · refine ⟨fun _ => ?_, fun _ => rfl⟩
          obtain ⟨j, hj, h0⟩ := hz.mp rfl
          exact ⟨j, by omega, h0⟩
      | false =>
        conv => whnf
        refine ⟨fun h => absurd h (fun y => y b2_f), fun _ => ?_⟩
        have hb1 := getD_lt hb.2 (by omega : s + k < L.length)
        conv => whnf
        refine Or.inl ⟨1, _, _, s + k, hp, rfl, (nI_add s k), (by omega), by first | decide | omega, ?_⟩
        rw [hb.1 (s + k) (by omega)]
        conv => whnf
        refine ⟨fun h6 => ?_, fun h6 => ?_⟩
        · have hne := (q_ne0 (by omega)).mp h6
          conv => whnf
          refine ⟨rfl, _, _, ?_, ⟨k + 1, false, rfl, rfl, rfl, rfl, rfl, rfl, h9, hn1, hn2, ?_⟩, rfl, rfl, rfl, rfl, rfl, sI k, trivial⟩
          · omega
          · refine ⟨fun y => by (cases y), fun ⟨j, hj, h0⟩ => ?_⟩
            by_cases h3 : j = k
            · rw [h3] at h0; exact absurd h0 hne
            · exact hz.mpr ⟨j, by omega, h0⟩
        · have he : L.getD (s + k) 0 = 0 := Classical.not_not.mp fun z => h6 ((q_ne0 (by omega)).mpr z)
          conv => whnf
          refine ⟨rfl, _, _, ?_, ⟨k + 1, true, rfl, rfl, rfl, rfl, rfl, rfl, h9, hn1, hn2, ?_⟩, rfl, rfl, rfl, rfl, rfl, sI k, trivial⟩
          · omega
          · exact ⟨fun _ => ⟨k, by omega, he⟩, fun _ => rfl⟩
theorem c_M_isPath (hfl : l.flags = pinnedFlags ++ [noTraceFlag]) (h : mg am A F g) {P : List Nat} (hb : ib (A 12) P) (hl : P.length ≤ 400) : k_CT l D aC n_M_isPath 0 0 [.ref (am 0), .int (nI P.length)] g (rt (some (.int (b2 (ptOk P)))) g) := by
  refine k_while hfl n_M_isPath ok_M_isPath rfl rfl rfl rfl rfl rfl (fun h => by cases h) (Nat.le_of_ble_eq_true rfl) [10] (fun pc d lv g1 k0 n0 => ∃ k c s is, pc = 10 ∧ d = P.length + 2 - k ∧ lv = [(0, .ref (am 0)), (1, .int (nI P.length)), (2, .int (nI c)), (3, .int (nI s)), (4, .int (b2 is)), (5, .int (nI k))] ∧ g1 = g ∧ k0 = 0 ∧ n0 = 0 ∧ k ≤ P.length + 1 ∧ s ≤ k ∧ c ≤ k ∧ (is = false → ptOk P = false) ∧ (is = true → k ≤ P.length → ptGo P (P.length + 1 - k) k s c = ptOk P) ∧ (is = true → ¬ k ≤ P.length → ptOk P = decide (c ≤ 6))) 60 ?_ 80 ?_
  · conv => whnf
    exact ⟨rfl, _, _, ⟨0, 0, 0, true, rfl, rfl, rfl, rfl, rfl, rfl, by omega, by omega, by omega, fun z => (by cases z), fun _ _ => rfl, fun _ z => by omega⟩, rfl, rfl, rfl, rfl, rfl, rfl, trivial⟩
  · rintro d pc lv g1 k0 n0 ⟨k, c, s, is, rfl, rfl, rfl, rfl, rfl, rfl, hk, hs, hc, i1, i2, i3⟩
    conv => whnf
    refine ⟨fun h5 => ?_, fun h5 => ?_⟩
    · have h9 := (q_gt (by omega) (by omega)).mp h5
      cases is with
      | false =>
        conv => whnf
        refine ⟨fun _ => ?_, fun h => absurd b2_f h⟩
        conv => whnf
        refine ⟨⟨_, rfl, rfl⟩, ⟨?_, rfl⟩, by first | omega | exact Nat.le_of_ble_eq_true rfl | (simp only [dl1, dl2, dl3, dl4, dl5, dl6]; omega), by first | omega | exact Nat.le_of_ble_eq_true rfl | (simp only [dl1, dl2, dl3, dl4, dl5, dl6]; omega)⟩
        rw [i1 rfl]; rfl
      | true =>
        have hp := i3 rfl (by omega)
        conv => whnf
        refine ⟨fun h => absurd h b2_t, fun _ => ?_⟩
        conv => whnf
        refine ⟨fun h6 => ?_, fun h6 => ?_⟩
        · have := (q_gt (by omega) (by decide)).mp h6
          conv => whnf
          refine ⟨⟨_, rfl, rfl⟩, ⟨?_, rfl⟩, by first | omega | exact Nat.le_of_ble_eq_true rfl | (simp only [dl1, dl2, dl3, dl4, dl5, dl6]; omega), by first | omega | exact Nat.le_of_ble_eq_true rfl | (simp only [dl1, dl2, dl3, dl4, dl5, dl6]; omega)⟩
          rw [hp, decide_eq_false (by omega)]; rfl
        · have : ¬ 6 < c := fun z => h6 ((q_gt (by omega) (by decide)).mpr z)
          conv => whnf
          refine ⟨⟨_, rfl, rfl⟩, ⟨?_, rfl⟩, by first | omega | exact Nat.le_of_ble_eq_true rfl | (simp only [dl1, dl2, dl3, dl4, dl5, dl6]; omega), by first | omega | exact Nat.le_of_ble_eq_true rfl | (simp only [dl1, dl2, dl3, dl4, dl5, dl6]; omega)⟩
          rw [hp, decide_eq_true (by omega)]; rfl
    · have h9 : k ≤ P.length := Nat.le_of_not_lt fun z => h5 ((q_gt (by omega) (by omega)).mpr z)
      cases is with
      | false =>
        conv => whnf
        refine ⟨fun _ => ?_, fun h => absurd b2_f h⟩
        conv => whnf
        refine ⟨fun _ => ?_, fun h => absurd b2_f h⟩
        conv => whnf
        refine ⟨⟨_, rfl, rfl⟩, ⟨?_, rfl⟩, by first | omega | exact Nat.le_of_ble_eq_true rfl | (simp only [dl1, dl2, dl3, dl4, dl5, dl6]; omega), by first | omega | exact Nat.le_of_ble_eq_true rfl | (simp only [dl1, dl2, dl3, dl4, dl5, dl6]; omega)⟩
        rw [i1 rfl]; rfl
      | true =>
        have hp := i2 rfl h9
        rw [show P.length + 1 - k = (P.length - k) + 1 by omega, ptGo] at hp
        conv => whnf
        refine ⟨fun h => absurd h b2_t, fun _ => ?_⟩
        conv => whnf
        refine ⟨fun h6 => ?_, fun h6 => ?_⟩
        · have h8 := (q_ge (by omega) (by omega)).mp h6
          conv => whnf
          refine ⟨_, _, h.z, rfl, ?_⟩
          conv => whnf
          rw [pk_sub hs]
          conv => whnf
          refine ⟨(Nat.le_of_ble_eq_true rfl), _, _, _, c_M_isName hfl h.a12 hb hl (by omega), by first | omega | exact Nat.le_of_ble_eq_true rfl | (simp only [dl1, dl2, dl3, dl4, dl5, dl6]; omega), by first | omega | exact Nat.le_of_ble_eq_true rfl | (simp only [dl1, dl2, dl3, dl4, dl5, dl6]; omega), k_rl ?_, k_rr⟩
          rw [show s + (k - s) = k by omega]
          conv => whnf
          refine ⟨rfl, _, _, ?_, ⟨k + 1, c + 1, k + 1, nmOk P s k, rfl, rfl, rfl, rfl, rfl, rfl, by omega, by omega, by omega, fun z => ?_, fun z hz => ?_, fun z hz => ?_⟩, rfl, rfl, sI c, sI k, rfl, sI k, trivial⟩
          · omega
          · rw [← hp, if_neg (by omega), z]; rfl
          · rw [← hp, if_neg (by omega), z, Bool.true_and, if_neg (by omega), show P.length + 1 - (k + 1) = P.length - k by omega]
          · rw [← hp, if_neg (by omega), z, Bool.true_and, if_pos (by omega)]
        · have h8 : k < P.length := Nat.lt_of_not_le fun z => h6 ((q_ge (by omega) (by omega)).mpr z)
          have hb0 := getD_lt hb.2 h8
          conv => whnf
          refine ⟨_, _, h.z, rfl, ?_⟩
          conv => whnf
          refine Or.inl ⟨1, _, _, k, h.a12, rfl, rfl, by omega, by first | decide | omega, ?_⟩
          rw [hb.1 k h8]
          conv => whnf
          refine ⟨fun h7 => ?_, fun h7 => ?_⟩
          · have he := (q_eq (by omega) (by decide)).mp h7
            conv => whnf
            refine ⟨_, _, h.z, rfl, ?_⟩
            conv => whnf
            rw [pk_sub hs]
            conv => whnf
            refine ⟨(Nat.le_of_ble_eq_true rfl), _, _, _, c_M_isName hfl h.a12 hb hl (by omega), by first | omega | exact Nat.le_of_ble_eq_true rfl | (simp only [dl1, dl2, dl3, dl4, dl5, dl6]; omega), by first | omega | exact Nat.le_of_ble_eq_true rfl | (simp only [dl1, dl2, dl3, dl4, dl5, dl6]; omega), k_rl ?_, k_rr⟩
            rw [show s + (k - s) = k by omega]
            conv => whnf
            refine ⟨rfl, _, _, ?_, ⟨k + 1, c + 1, k + 1, nmOk P s k, rfl, rfl, rfl, rfl, rfl, rfl, by omega, by omega, by omega, fun z => ?_, fun z hz => ?_, fun z hz => ?_⟩, rfl, rfl, sI c, sI k, rfl, sI k, trivial⟩
            · omega
            · rw [← hp, if_neg (fun z => z.2 he), z]; rfl
            · rw [← hp, if_neg (fun z => z.2 he), z, Bool.true_and, if_neg (by omega), show P.length + 1 - (k + 1) = P.length - k by omega]
            · rw [← hp, if_neg (fun z => z.2 he), z, Bool.true_and, if_pos (by omega)]
          · have hne : P.getD k 0 ≠ 47 := fun z => h7 ((q_eq (by omega) (by decide)).mpr z)
            rw [if_pos ⟨h8, hne⟩] at hp
            conv => whnf
            refine ⟨rfl, _, _, ?_, ⟨k + 1, c, s, true, rfl, rfl, rfl, rfl, rfl, rfl, by omega, by omega, by omega, fun z => (by cases z), fun _ hz => ?_, fun _ hz => by omega⟩, rfl, rfl, rfl, rfl, rfl, sI k, trivial⟩
            · omega
            · rw [show P.length + 1 - (k + 1) = P.length - k by omega]; exact hp
theorem c_M_chooseTape (hfl : l.flags = pinnedFlags ++ [noTraceFlag]) (h : mg am A F g) {F0 : mF} (r : mR A F0 R T S M Rs Hs O N cp st tv op nX) (fe : ∀ k, k < 7 → F k = F0 k) {P : List Nat} (hb : ib (A 12) P) (hl : P.length ≤ 150) : k_CT l D aC n_M_chooseTape 0 0 [.ref (am 0), .int (nI P.length)] g (fun oc g1 => oc = .inl none ∧ fx (UU am) g g1 ∧ ∃ A1 F1, mg am A1 F1 g1 ∧ F1 0 = F 0 ∧ mR A1 F1 R T S M Rs Hs O N (some P) st tv op nX) := by
  refine k_while hfl n_M_chooseTape ok_M_chooseTape rfl rfl rfl rfl rfl rfl (fun h => by cases h) (Nat.le_of_ble_eq_true rfl) [12] (fun pc d lv g1 k n => ∃ i A1, pc = 12 ∧ d = P.length - i ∧ lv = [(0, .ref (am 0)), (1, .int (nI P.length)), (2, .int (nI i))] ∧ k = 0 ∧ n = 0 ∧ i ≤ P.length ∧ fx (UU am) g g1 ∧ mg am A1 (uF (uF F 7 (nI 1)) 8 (nI P.length)) g1 ∧ (∀ r, r ≠ 15 → A1 r = A r) ∧ ∀ j, j < i → A1 15 j = nI (P.getD j 0)) 60 ?_ 80 ?_
  · conv => whnf
    refine ⟨_, h.z, by simp, rfl, rfl, ?_⟩
    have h1 := mg_z h (F1 := uF F 7 (nI 1))
    conv => whnf
    refine ⟨_, h1.z, by simp, rfl, rfl, ?_⟩
    have h2 := mg_z h1 (F1 := uF (uF F 7 (nI 1)) 8 (nI P.length))
    conv => whnf
    exact ⟨rfl, _, _, ⟨0, A, rfl, rfl, rfl, rfl, rfl, by omega, fx_up (fx_up fx_rf (iUU rfl)) (iUU rfl), h2, fun _ _ => rfl, fun j hj => by omega⟩, rfl, rfl, rfl, trivial⟩
  · rintro d pc lv g1 k n ⟨i, A1, rfl, rfl, rfl, rfl, rfl, hi, hfx, h1, hA, hj⟩
    conv => whnf
    refine ⟨fun h5 => ?_, fun h5 => ?_⟩
    · have h9 := (q_ge (by omega) (by omega)).mp h5
      conv => whnf
      refine ⟨rfl, ?_, by first | omega | exact Nat.le_of_ble_eq_true rfl | (simp only [dl1, dl2, dl3, dl4, dl5, dl6]; omega), by first | omega | exact Nat.le_of_ble_eq_true rfl | (simp only [dl1, dl2, dl3, dl4, dl5, dl6]; omega)⟩
      refine ⟨rfl, hfx, A1, _, h1, rfl, mR_cp r hA hl ⟨fun j hj1 => hj j (by omega), hb.2⟩ rfl uF_s (fun q hq => ?_)⟩
      rw [uF_n (by omega), uF_n (by omega)]; exact fe q hq
    · have h9 : i < P.length := Nat.lt_of_not_le fun z => h5 ((q_ge (by omega) (by omega)).mpr z)
      conv => whnf
      refine ⟨_, _, h1.z, rfl, ?_⟩
      conv => whnf
      refine ⟨_, _, h1.z, rfl, ?_⟩
      conv => whnf
      refine Or.inl ⟨1, _, _, i, h1.a12, rfl, rfl, by omega, by first | decide | omega, ?_⟩
      rw [hA 12 (by decide), hb.1 i h9]
      conv => whnf
      refine ⟨1, _, _, i, h1.a15, rfl, rfl, by omega, by first | decide | omega, ?_⟩
      have h2 := mg_up h1 (i := 15) (by decide) (by decide) (f := upd (A1 15) i (nI (P.getD i 0)))
      conv => whnf
      refine ⟨rfl, _, _, ?_, ⟨i + 1, _, rfl, rfl, rfl, rfl, rfl, h9, fx_up hfx (iUU rfl), h2, fun r hr => by rw [uA_n hr]; exact hA r hr, fun j hj1 => ?_⟩, rfl, rfl, sI i, trivial⟩
      · omega
      · rw [uA_s]
        by_cases h8 : j = i
        · rw [h8, pk_us]
        · rw [pk_un h8]; exact hj j (by omega)
theorem pa_tape (h : mg am A F g) {P : List Nat} (hb : ib (A 12) P) (hl : P.length ≤ 400) {c : Nat} (hc : c ≤ P.length) : pa g (am 12) 0 (P.take c) := by
  refine ⟨400, A 12, h.a12, by rw [List.length_take]; omega, by decide, fun k hk => ?_, fun b hb1 => hb.2 b (List.mem_of_mem_take hb1)⟩
  rw [List.length_take] at hk
  rw [Nat.zero_add, hb.1 k (by omega), List.getD_eq_getElem?_getD, List.getD_eq_getElem?_getD, List.getElem?_take_of_lt (by omega)]
theorem pa_tapeA (h : mg am A F g) {P : List Nat} (hb : ib (A 12) P) (hl : P.length ≤ 400) : pa g (am 12) 0 P := by
  have := pa_tape h hb hl (Nat.le_refl _)
  rwa [List.take_length] at this
theorem c_M_hasDir (hfl : l.flags = pinnedFlags ++ [noTraceFlag]) (h : mg am A F g) (hS : tm A 0 S) (hs : srt S) {P : List Nat} (hb : ib (A 12) P) (hl : P.length ≤ 400) : k_CT l D aC n_M_hasDirectory 0 0 [.ref (am 0), .int (nI P.length)] g (rt (some (.int (b2 (hasDir S P)))) g) := by
  have hl2 := hS.2.2.1
  refine k_while hfl n_M_hasDirectory ok_M_hasDirectory rfl rfl rfl rfl rfl rfl (fun h => by cases h) (Nat.le_of_ble_eq_true rfl) [4] (fun pc d lv g1 k0 n0 => ∃ c, pc = 4 ∧ d = c ∧ lv = [(0, .ref (am 0)), (1, .int (nI P.length)), (2, .int (dI c))] ∧ g1 = g ∧ k0 = 0 ∧ n0 = 0 ∧ c ≤ P.length ∧ lastSl P P.length = lastSl P c) 60 ?_ 80 ?_
  · conv => whnf
    exact ⟨rfl, _, _, ⟨P.length, rfl, rfl, rfl, rfl, rfl, rfl, Nat.le_refl _, rfl⟩, rfl, rfl, rfl, trivial⟩
  · rintro d pc lv g1 k0 n0 ⟨c, rfl, rfl, rfl, rfl, rfl, rfl, hc, hsl⟩
    cases d with
    | zero =>
      conv => whnf
      refine ⟨fun _ => ?_, fun h => absurd dI_lt0 h⟩
      conv => whnf
      refine ⟨fun h => absurd h (fun z => by have h1 : (dI 0).toInt < (0 : Int32).toInt := dI_lt0; have h2 : (0 : Int32).toInt ≤ (dI 0).toInt := z; omega), fun _ => ?_⟩
      conv => whnf
      refine ⟨⟨_, rfl, rfl⟩, ⟨?_, rfl⟩, by first | omega | exact Nat.le_of_ble_eq_true rfl | (simp only [dl1, dl2, dl3, dl4, dl5, dl6]; omega), by first | omega | exact Nat.le_of_ble_eq_true rfl | (simp only [dl1, dl2, dl3, dl4, dl5, dl6]; omega)⟩
      rw [hasDir, hsl]; rfl
    | succ c =>
      have hb0 := getD_lt hb.2 (by omega : c < P.length)
      rw [dI_s]
      conv => whnf
      refine ⟨fun h => absurd h (q_lt0 (by omega)), fun _ => ?_⟩
      conv => whnf
      refine ⟨_, _, h.z, rfl, ?_⟩
      conv => whnf
      refine Or.inl ⟨1, _, _, c, h.a12, rfl, rfl, by omega, by first | decide | omega, ?_⟩
      rw [hb.1 c (by omega)]
      conv => whnf
      refine ⟨fun h5 => ?_, fun h5 => ?_⟩
      · have he := (q_eq (by omega) (by decide)).mp h5
        rw [lastSl, if_pos he] at hsl
        conv => whnf
        refine ⟨fun _ => ?_, fun h => absurd (q_ge0 (by omega)) h⟩
        conv => whnf
        refine ⟨_, _, h.z, rfl, ?_⟩
        conv => whnf
        refine ⟨⟨_, h.z⟩, (Nat.le_of_ble_eq_true rfl), _, _, _, c_M_find hfl h (by decide) hS (pa_tape h hb hl (c := c) (by omega)) (by rw [List.length_take]; omega), by first | omega | exact Nat.le_of_ble_eq_true rfl | (simp only [dl1, dl2, dl3, dl4, dl5, dl6]; omega), by first | omega | exact Nat.le_of_ble_eq_true rfl | (simp only [dl1, dl2, dl3, dl4, dl5, dl6]; omega), k_rl ?_, k_rr⟩
        have hd : hasDir S P = match atI S (slI (fnd S (P.take c) S.length)) with
            | some E => decide (E.2.1 = nI 2)
            | none => false := by
          rw [hasDir, hsl, ← idx_fnd hs]
          rfl
        cases hf : fnd S (P.take c) S.length with
        | none =>
          rw [hf] at hd
          conv => whnf
          refine ⟨fun _ => ?_, fun h => absurd (by simp only [w_cmp]; decide) h⟩
          conv => whnf
          refine ⟨⟨_, rfl, rfl⟩, ⟨?_, rfl⟩, by first | omega | exact Nat.le_of_ble_eq_true rfl | (simp only [dl1, dl2, dl3, dl4, dl5, dl6]; omega), by first | omega | exact Nat.le_of_ble_eq_true rfl | (simp only [dl1, dl2, dl3, dl4, dl5, dl6]; omega)⟩
          rw [hd]; rfl
        | some i =>
          have hi := fnd_lt hf
          have hE := List.getElem?_eq_getElem hi
          have hd2 : hasDir S P = decide (S[i].2.1 = nI 2) := by
            rw [hd, hf, show slI (some i) = nI i from rfl, atI_nI (by omega), hE]
          conv => whnf
          refine ⟨fun h => absurd h (q_lt0 (by omega)), fun _ => ?_⟩
          conv => whnf
          refine ⟨_, _, h.z, rfl, ?_⟩
          conv => whnf
          refine ⟨(Nat.le_of_ble_eq_true rfl), _, _, _, c_M_place hfl, by first | omega | exact Nat.le_of_ble_eq_true rfl | (simp only [dl1, dl2, dl3, dl4, dl5, dl6]; omega), by first | omega | exact Nat.le_of_ble_eq_true rfl | (simp only [dl1, dl2, dl3, dl4, dl5, dl6]; omega), k_rl ?_, k_rr⟩
          conv => whnf
          refine Or.inl ⟨1, _, _, 120 * 0 + i, h.a3, rfl, rfl, by omega, by first | decide | omega, ?_⟩
          rw [(hS.2.2.2.2 i _ hE).2.1]
          conv => whnf
          refine ⟨fun h6 => ?_, fun h6 => ?_⟩
          · conv => whnf
            refine ⟨⟨_, rfl, rfl⟩, ⟨?_, rfl⟩, by first | omega | exact Nat.le_of_ble_eq_true rfl | (simp only [dl1, dl2, dl3, dl4, dl5, dl6]; omega), by first | omega | exact Nat.le_of_ble_eq_true rfl | (simp only [dl1, dl2, dl3, dl4, dl5, dl6]; omega)⟩
            rw [hd2, decide_eq_false h6]; rfl
          · conv => whnf
            refine ⟨⟨_, rfl, rfl⟩, ⟨?_, rfl⟩, by first | omega | exact Nat.le_of_ble_eq_true rfl | (simp only [dl1, dl2, dl3, dl4, dl5, dl6]; omega), by first | omega | exact Nat.le_of_ble_eq_true rfl | (simp only [dl1, dl2, dl3, dl4, dl5, dl6]; omega)⟩
            rw [hd2, decide_eq_true (Classical.not_not.mp h6)]; rfl
      · have hne : ¬ P.getD c 0 = 47 := fun z => h5 ((q_eq (by omega) (by decide)).mpr z)
        rw [lastSl, if_neg hne] at hsl
        conv => whnf
        exact ⟨rfl, _, _, by omega, ⟨c, rfl, rfl, rfl, rfl, rfl, rfl, by omega, hsl⟩, rfl, rfl, congrArg (fun z => some (Value.int z)) (dI_m c), trivial⟩
/-- the chosen one: its place in the class, its path in the reference -/
def chR (S : List Ent) (ch : Int32) (cp : Option (List Nat)) : Prop := match cp with
  | none => ch = -1
  | some P => ∃ i E, S[i]? = some E ∧ E.1 = P ∧ ch = nI i
theorem pa_ch (h : mg am A F g) {P : List Nat} (hl : P.length ≤ 150) (hb : ib (A 15) P) : pa g (am 15) 0 P := ⟨150, A 15, h.a15, by omega, by decide, fun k hk => by rw [Nat.zero_add]; exact hb.1 k hk, hb.2⟩
theorem c_M_chosenAt (hfl : l.flags = pinnedFlags ++ [noTraceFlag]) (h : mg am A F g) (hS : tm A 0 S) (hs : srt S) {ch : Int32} (hr : cpR A F cp) (hc : chR S ch cp) : k_CT l D aC n_M_chosenAt 0 0 [.ref (am 0)] g (rt (some (.int ch)) g) := by
  refine k_ln hfl n_M_chosenAt ok_M_chosenAt rfl rfl rfl rfl rfl rfl (fun h => by cases h) (Nat.le_of_ble_eq_true rfl) 60 ?_
  conv => whnf
  refine ⟨_, _, h.z, rfl, ?_⟩
  cases cp with
  | none =>
    rw [show F 7 = nI 0 from hr]
    conv => whnf
    refine ⟨fun _ => ?_, fun h => absurd rfl h⟩
    conv => whnf
    refine ⟨⟨_, rfl, rfl⟩, ⟨?_, rfl⟩, by first | omega | exact Nat.le_of_ble_eq_true rfl | (simp only [dl1, dl2, dl3, dl4, dl5, dl6]; omega), by first | omega | exact Nat.le_of_ble_eq_true rfl | (simp only [dl1, dl2, dl3, dl4, dl5, dl6]; omega)⟩
    rw [show ch = -1 from hc]
  | some P =>
    obtain ⟨r1, r2, r3, r4⟩ := hr
    obtain ⟨i, E, hE, hp, rfl⟩ := hc
    rw [r1]
    conv => whnf
    refine ⟨fun h => absurd h (by simp only [w_cmp]; decide), fun _ => ?_⟩
    conv => whnf
    refine ⟨_, _, h.z, rfl, ?_⟩
    conv => whnf
    refine ⟨_, _, h.z, rfl, ?_⟩
    rw [r2]
    conv => whnf
    refine ⟨⟨_, h.z⟩, (Nat.le_of_ble_eq_true rfl), _, _, _, c_M_find hfl h (by decide) hS (pa_ch h r3 r4) rfl, by first | omega | exact Nat.le_of_ble_eq_true rfl | (simp only [dl1, dl2, dl3, dl4, dl5, dl6]; omega), by first | omega | exact Nat.le_of_ble_eq_true rfl | (simp only [dl1, dl2, dl3, dl4, dl5, dl6]; omega), k_rl ?_, k_rr⟩
    rw [fnd_srt hs hE hp]
    conv => whnf
    refine ⟨⟨_, rfl, rfl⟩, ⟨rfl, rfl⟩, by first | omega | exact Nat.le_of_ble_eq_true rfl | (simp only [dl1, dl2, dl3, dl4, dl5, dl6]; omega), by first | omega | exact Nat.le_of_ble_eq_true rfl | (simp only [dl1, dl2, dl3, dl4, dl5, dl6]; omega)⟩
theorem c_M_choose (hfl : l.flags = pinnedFlags ++ [noTraceFlag]) (h : mg am A F g) (r : mR A F R T S M Rs Hs O N cp st tv op nX) (hs : srt S) (hp : ∀ E ∈ S, E.1.length ≤ 149) : k_CT l D aC n_M_choose 0 0 [.ref (am 0)] g (mO am g (.inl (some (.int (match atI S (idx S T) with | none => -1 | some E => E.2.1)))) 0 R [] S M Rs Hs O N (match fnd S T S.length with | none => none | some _ => some T) st tv op nX) := by
  obtain ⟨⟨f1, -⟩, -, ⟨t1, t2⟩, hS, -⟩ := id r
  have f1' : uF F 0 (nI 0) 1 = nI T.length := f1
  have hl2 := hS.2.2.1
  rw [idx_fnd hs]
  refine k_ln hfl n_M_choose ok_M_choose rfl rfl rfl rfl rfl rfl (fun h => by cases h) (Nat.le_of_ble_eq_true rfl) 60 ?_
  conv => whnf
  refine ⟨_, h.z, by simp, rfl, rfl, ?_⟩
  have h1 := mg_z h (F1 := uF F 0 (nI 0))
  conv => whnf
  refine ⟨_, _, h1.z, rfl, ?_⟩
  rw [f1']
  conv => whnf
  refine ⟨_, h1.z, by simp, rfl, rfl, ?_⟩
  have h2 := mg_z h1 (F1 := uF (uF F 0 (nI 0)) 1 (nI 0))
  have r2 := mR_t0 (mR_z (x := nI 0) r)
  conv => whnf
  refine ⟨_, _, h2.z, rfl, ?_⟩
  conv => whnf
  refine ⟨⟨_, h2.z⟩, (Nat.le_of_ble_eq_true rfl), _, _, _, c_M_find hfl h2 (by decide) hS (pa_tapeA h2 t2 t1) rfl, by first | omega | exact Nat.le_of_ble_eq_true rfl | (simp only [dl1, dl2, dl3, dl4, dl5, dl6]; omega), by first | omega | exact Nat.le_of_ble_eq_true rfl | (simp only [dl1, dl2, dl3, dl4, dl5, dl6]; omega), k_rl ?_, k_rr⟩
  cases hf : fnd S T S.length with
  | none =>
    conv => whnf
    refine ⟨fun _ => ?_, fun h => absurd (by simp only [w_cmp]; decide) h⟩
    conv => whnf
    refine ⟨_, h2.z, by simp, rfl, rfl, ?_⟩
    have h3 := mg_z h2 (F1 := uF (uF (uF F 0 (nI 0)) 1 (nI 0)) 7 (nI 0))
    conv => whnf
    refine ⟨fun h => absurd h (by simp only [w_cmp]; decide), fun _ => ?_⟩
    conv => whnf
    refine ⟨⟨_, rfl, rfl⟩, ⟨rfl, fx_up (fx_up (fx_up fx_rf (iUU rfl)) (iUU rfl)) (iUU rfl), A, _, h3, rfl, mR_cn r2⟩, by first | omega | exact Nat.le_of_ble_eq_true rfl | (simp only [dl1, dl2, dl3, dl4, dl5, dl6]; omega), by first | omega | exact Nat.le_of_ble_eq_true rfl | (simp only [dl1, dl2, dl3, dl4, dl5, dl6]; omega)⟩
  | some i =>
    have hi := fnd_lt hf
    have hE := List.getElem?_eq_getElem hi
    obtain ⟨E0, hE0, hT⟩ := fnd_get hf
    have hTl : T.length ≤ 149 := by rw [← hT]; exact hp E0 (List.mem_of_getElem? hE0)
    rw [show slI (some i) = nI i from rfl, atI_nI (by omega), hE]
    conv => whnf
    refine ⟨fun h => absurd h (q_lt0 (by omega)), fun _ => ?_⟩
    conv => whnf
    refine ⟨_, h2.z, by simp, rfl, rfl, ?_⟩
    have h3 := mg_z h2 (F1 := uF (uF (uF F 0 (nI 0)) 1 (nI 0)) 7 (nI 1))
    conv => whnf
    refine ⟨fun _ => ?_, fun h => absurd (q_ge0 (by omega)) h⟩
    conv => whnf
    refine ⟨⟨_, h3.z⟩, (Nat.le_of_ble_eq_true rfl), _, _, _, c_M_chooseTape hfl h3 r2 (fun k hk => uF_n (by omega)) t2 (by omega), by first | omega | exact Nat.le_of_ble_eq_true rfl | (simp only [dl1, dl2, dl3, dl4, dl5, dl6]; omega), by first | omega | exact Nat.le_of_ble_eq_true rfl | (simp only [dl1, dl2, dl3, dl4, dl5, dl6]; omega), fun v g1 hh => ?_, fun C g1 hh => ?_⟩
    · obtain ⟨hv, hfx, A1, F1, h4, e0, r4⟩ := hh
      cases hv
      conv => whnf
      refine ⟨_, _, h4.z, rfl, ?_⟩
      conv => whnf
      refine ⟨(Nat.le_of_ble_eq_true rfl), _, _, _, c_M_place hfl, by first | omega | exact Nat.le_of_ble_eq_true rfl | (simp only [dl1, dl2, dl3, dl4, dl5, dl6]; omega), by first | omega | exact Nat.le_of_ble_eq_true rfl | (simp only [dl1, dl2, dl3, dl4, dl5, dl6]; omega), k_rl ?_, k_rr⟩
      conv => whnf
      refine Or.inl ⟨1, _, _, 120 * 0 + i, h4.a3, rfl, rfl, by omega, by first | decide | omega, ?_⟩
      rw [(r4.2.2.2.1.2.2.2.2 i _ hE).2.1]
      conv => whnf
      refine ⟨⟨_, rfl, rfl⟩, ⟨rfl, fx_tr (fx_up (fx_up (fx_up fx_rf (iUU rfl)) (iUU rfl)) (iUU rfl)) hfx, A1, F1, h4, e0.trans rfl, r4⟩, by first | omega | exact Nat.le_of_ble_eq_true rfl | (simp only [dl1, dl2, dl3, dl4, dl5, dl6]; omega), by first | omega | exact Nat.le_of_ble_eq_true rfl | (simp only [dl1, dl2, dl3, dl4, dl5, dl6]; omega)⟩
    · cases hh.1
end MPT
