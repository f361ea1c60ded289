/-! MirrorKeep$Paths: the order of paths -/
section PCMP
/-- how two paths are ordered: below 0, 0, above 0 -/
def cmpP : List Nat → List Nat → Int
  | [], [] => 0
  | [], b :: _ => -2 - rkb b
  | a :: _, [] => rkb a + 2
  | a :: r, b :: s => if a = b then cmpP r s else rkb a - rkb b
theorem rkb_inj {a b : Nat} (h : rkb a = rkb b) : a = b := by
  unfold rkb at h
  split at h <;> split at h <;> omega
theorem rkb_ge (b : Nat) : -1 ≤ rkb b := by unfold rkb; split <;> omega
theorem rk_nil (i : Nat) : rk [] i = -2 := by simp [rk]
theorem rk_0 (a : Nat) (r : List Nat) : rk (a :: r) 0 = rkb a := by simp [rk]
theorem rk_s (a : Nat) (r : List Nat) (i : Nat) : rk (a :: r) (i + 1) = rk r i := by simp [rk]
theorem cmpP_at : ∀ {L1 L2 : List Nat} {i : Nat}, (∀ j, j < i → rk L1 j = rk L2 j) → rk L1 i ≠ rk L2 i → cmpP L1 L2 = rk L1 i - rk L2 i
  | [], [], i, _, h => absurd (by rw [rk_nil]) h
  | [], b :: s, i, h1, h2 => by
    cases i with
    | zero => rw [rk_nil, rk_0]; rfl
    | succ i =>
      have := h1 0 (by omega)
      rw [rk_nil, rk_0] at this
      have := rkb_ge b
      omega
  | a :: r, [], i, h1, h2 => by
    cases i with
    | zero => rw [rk_nil, rk_0]; unfold cmpP; omega
    | succ i =>
      have := h1 0 (by omega)
      rw [rk_nil, rk_0] at this
      have := rkb_ge a
      omega
  | a :: r, b :: s, i, h1, h2 => by
    cases i with
    | zero =>
      rw [rk_0, rk_0] at h2 ⊢
      unfold cmpP
      rw [if_neg (fun z => h2 (by rw [z]))]
    | succ i =>
      have h3 := h1 0 (by omega)
      rw [rk_0, rk_0] at h3
      rw [rk_s, rk_s] at h2 ⊢
      unfold cmpP
      rw [if_pos (rkb_inj h3)]
      exact cmpP_at (fun j hj => by have := h1 (j + 1) (by omega); rwa [rk_s, rk_s] at this) h2
theorem cmpP_0 : ∀ {L1 L2 : List Nat}, (∀ j, rk L1 j = rk L2 j) → cmpP L1 L2 = 0
  | [], [], _ => rfl
  | [], b :: s, h => by have := h 0; rw [rk_nil, rk_0] at this; have := rkb_ge b; omega
  | a :: r, [], h => by have := h 0; rw [rk_nil, rk_0] at this; have := rkb_ge a; omega
  | a :: r, b :: s, h => by
    have h3 := h 0
    rw [rk_0, rk_0] at h3
    unfold cmpP
    rw [if_pos (rkb_inj h3)]
    exact cmpP_0 (fun j => by have := h (j + 1); rwa [rk_s, rk_s] at this)
theorem rk_bound {L : List Nat} (h : ∀ b ∈ L, b < 256) (i : Nat) : -2 ≤ rk L i ∧ rk L i < 256 := by
  unfold rk
  split
  · rename_i hi
    have := getD_lt h hi
    unfold rkb
    split <;> omega
  · omega
theorem cmpP_bound {L1 L2 : List Nat} (h1 : ∀ b ∈ L1, b < 256) (h2 : ∀ b ∈ L2, b < 256) : -258 ≤ cmpP L1 L2 ∧ cmpP L1 L2 ≤ 258 := by
  by_cases h : ∀ j, rk L1 j = rk L2 j
  · rw [cmpP_0 h]; omega
  · obtain ⟨i, hi, hm⟩ := pk_least (fun i => rk L1 i ≠ rk L2 i) (by simpa using h)
    rw [cmpP_at (fun j hj => Classical.not_not.mp (hm j hj)) hi]
    have := rk_bound h1 i
    have := rk_bound h2 i
    omega
theorem ofInt_sub (a b : Int) : Int32.ofInt a - Int32.ofInt b = Int32.ofInt (a - b) := by
  rw [← Int32.ofInt_sub]
theorem ofInt_0 {x : Int} (h1 : -2 ^ 30 ≤ x) (h2 : x < 2 ^ 30) : Int32.ofInt x = 0 ↔ x = 0 := by
  refine ⟨fun h => ?_, fun h => by rw [h]; rfl⟩
  have := congrArg Int32.toInt h
  rw [Int32.toInt_ofInt_of_le (by omega) (by omega)] at this
  exact this
end PCMP
section PATHS
variable {l : Launch} {D : va_G} {aC : Nat → ClassId}
theorem c_J_max (hfl : l.flags = pinnedFlags ++ [noTraceFlag]) {a b : Nat} {g : g_H} (ha : a < 2 ^ 31) (hb : b < 2 ^ 31) : k_CT l D aC n_J_max 0 0 [.int (nI a), .int (nI b)] g (rt (some (.int (nI (max a b)))) g) := by
  refine k_line hfl n_J_max ok_J_max rfl rfl rfl rfl rfl rfl (fun h => by cases h) (Nat.le_of_ble_eq_true rfl) 20 ?_
  conv => whnf
  refine ⟨fun h => ?_, fun h => ?_⟩
  · have := (q_lt ha hb).mp h
    conv => whnf
    refine ⟨⟨_, rfl, rfl⟩, ⟨?_, rfl⟩, Nat.le_refl _, Nat.le_refl _⟩
    rw [Nat.max_eq_right (by omega)]
  · have : ¬ a < b := fun z => h ((q_lt ha hb).mpr z)
    conv => whnf
    refine ⟨⟨_, rfl, rfl⟩, ⟨?_, rfl⟩, Nat.le_refl _, Nat.le_refl _⟩
    rw [Nat.max_eq_left (by omega)]
theorem c_J_min (hfl : l.flags = pinnedFlags ++ [noTraceFlag]) {a b : Nat} {g : g_H} (ha : a < 2 ^ 31) (hb : b < 2 ^ 31) : k_CT l D aC n_J_min 0 0 [.int (nI a), .int (nI b)] g (rt (some (.int (nI (min a b)))) g) := by
  refine k_line hfl n_J_min ok_J_min rfl rfl rfl rfl rfl rfl (fun h => by cases h) (Nat.le_of_ble_eq_true rfl) 20 ?_
  conv => whnf
  refine ⟨fun h => ?_, fun h => ?_⟩
  · have := (q_gt ha hb).mp h
    conv => whnf
    refine ⟨⟨_, rfl, rfl⟩, ⟨?_, rfl⟩, Nat.le_refl _, Nat.le_refl _⟩
    rw [Nat.min_eq_right (by omega)]
  · have : ¬ b < a := fun z => h ((q_gt ha hb).mpr z)
    conv => whnf
    refine ⟨⟨_, rfl, rfl⟩, ⟨?_, rfl⟩, Nat.le_refl _, Nat.le_refl _⟩
    rw [Nat.min_eq_left (by omega)]
/-- the locals at the head of compare's loop -/
abbrev P_cmp_lv (a b m i : Nat) : w_L := [(0, .ref a), (1, .ref b), (2, .int (nI m)), (3, .int (nI i))]
theorem c_P_compare_loop (hfl : l.flags = pinnedFlags ++ [noTraceFlag]) {a b : Nat} {L1 L2 : List Nat} {g : g_H} (h1 : isBy g a L1) (h2 : isBy g b L2) : ∀ (d i : Nat), max L1.length L2.length ≤ i + d → (∀ j, j < i → rk L1 j = rk L2 j) → i ≤ max L1.length L2.length →
    k_T l D aC "MirrorKeep$Paths" (k_mt n_P_compare).2.1 5 1 21 (k_mt n_P_compare).2.2.2.1 [] false none 0 0 g (rt (some (.int (Int32.ofInt (cmpP L1 L2)))) g) 10 (P_cmp_lv a b (max L1.length L2.length) i) [] g 0 0 := by
  have b1 := h1.choose_spec.2.2
  have b2 := h2.choose_spec.2.2
  have hm : max L1.length L2.length < 2 ^ 20 := Nat.max_lt.mpr ⟨b1.2, b2.2⟩
  intro d
  induction d with
  | zero =>
    intro i hi hj hle
    refine k_run ok_P_compare [] k_none (fun _ _ _ _ _ _ h => h.elim) 20 ?_
    conv => whnf
    refine ⟨fun h => ?_, fun h => absurd ((q_ge (by omega) (by omega)).mpr (by omega)) h⟩
    conv => whnf
    refine ⟨⟨_, rfl, rfl⟩, ⟨?_, rfl⟩, Nat.le_refl _, Nat.le_refl _⟩
    rw [cmpP_0 (fun j => ?_)]
    · rfl
    · by_cases h9 : j < i
      · exact hj j h9
      · rw [rk, rk, if_neg (by omega), if_neg (by omega)]
  | succ d ih =>
    intro i hi hj hle
    refine k_run ok_P_compare [10] (fun pc lv st g1 k n => pc = 10 ∧ w_sub lv (P_cmp_lv a b (max L1.length L2.length) (i + 1)) ∧ rk L1 i = rk L2 i ∧ i < max L1.length L2.length ∧ st = [] ∧ g1 = g ∧ k = 0 ∧ n = 0) ?_ 40 ?_
    · rintro pc lv st g1 k n ⟨rfl, hs, he, hlt, rfl, rfl, rfl, rfl⟩
      exact k_sub hs (ih (i + 1) (by omega) (fun j hj1 => by
        by_cases h9 : j = i
        · rw [h9]; exact he
        · exact hj j (by omega)) (by omega))
    · conv => whnf
      refine ⟨fun h => ?_, fun h => ?_⟩
      · have hge := (q_ge (by omega) (by omega)).mp h
        conv => whnf
        refine ⟨⟨_, rfl, rfl⟩, ⟨?_, rfl⟩, Nat.le_refl _, Nat.le_refl _⟩
        rw [cmpP_0 (fun j => ?_)]
        · rfl
        · by_cases h9 : j < i
          · exact hj j h9
          · rw [rk, rk, if_neg (by omega), if_neg (by omega)]
      · have hlt : i < max L1.length L2.length := Nat.lt_of_not_le fun z => h ((q_ge (by omega) (by omega)).mpr z)
        conv => whnf
        refine ⟨Nat.le_of_ble_eq_true rfl, 0, 0, _, c_P_rank hfl h1 (by omega), Nat.le_refl _, Nat.le_refl _, k_rl ?_, k_rr⟩
        conv => whnf
        refine ⟨Nat.le_of_ble_eq_true rfl, 0, 0, _, c_P_rank hfl h2 (by omega), Nat.le_refl _, Nat.le_refl _, k_rl ?_, k_rr⟩
        conv => whnf
        have r1 := rk_bound b1.1 i
        have r2 := rk_bound b2.1 i
        refine ⟨fun h => ?_, fun h => ?_⟩
        · have h9 : Int32.ofInt (rk L1 i) - Int32.ofInt (rk L2 i) = 0 := h
          rw [ofInt_sub] at h9
          have h8 := (ofInt_0 (by omega) (by omega)).mp h9
          conv => whnf
          exact ⟨rfl, ⟨rfl, rfl, rfl, congrArg (fun z => some (Value.int z)) (nI_add i 1), trivial⟩, by omega, hlt, rfl, rfl, rfl, rfl⟩
        · have h9 : ¬ Int32.ofInt (rk L1 i) - Int32.ofInt (rk L2 i) = 0 := h
          rw [ofInt_sub] at h9
          conv => whnf
          refine ⟨⟨_, rfl, rfl⟩, ⟨?_, rfl⟩, Nat.le_refl _, Nat.le_refl _⟩
          rw [cmpP_at hj (fun z => h9 (by rw [z, Int.sub_self]; rfl)), ← ofInt_sub]
theorem c_P_compare (hfl : l.flags = pinnedFlags ++ [noTraceFlag]) {a b : Nat} {L1 L2 : List Nat} {g : g_H} (h1 : isBy g a L1) (h2 : isBy g b L2) : k_CT l D aC n_P_compare 0 0 [.ref a, .ref b] g (rt (some (.int (Int32.ofInt (cmpP L1 L2)))) g) := by
  have b1 := h1.choose_spec.2.2
  have b2 := h2.choose_spec.2.2
  refine k_loop hfl n_P_compare ok_P_compare rfl rfl rfl rfl rfl rfl (fun h => by cases h) (Nat.le_of_ble_eq_true rfl) [10] (fun pc lv st g1 k n => pc = 10 ∧ w_sub lv (P_cmp_lv a b (max L1.length L2.length) 0) ∧ st = [] ∧ g1 = g ∧ k = 0 ∧ n = 0) ?_ 20 ?_
  · rintro pc lv st g1 k n ⟨rfl, hs, rfl, rfl, rfl, rfl⟩
    exact k_sub hs (c_P_compare_loop hfl h1 h2 (max L1.length L2.length) 0 (by omega) (fun j hj => by omega) (by omega))
  · obtain ⟨f1, e1, -⟩ := h1
    obtain ⟨f2, e2, -⟩ := h2
    conv => whnf
    refine Or.inl ⟨_, _, e1, by decide, ?_⟩
    conv => whnf
    refine Or.inl ⟨_, _, e2, by decide, ?_⟩
    conv => whnf
    refine ⟨Nat.le_of_ble_eq_true rfl, 0, 0, _, c_J_max hfl (by omega) (by omega), Nat.le_refl _, Nat.le_refl _, k_rl ?_, k_rr⟩
    conv => whnf
    exact ⟨rfl, ⟨rfl, rfl, rfl, rfl, trivial⟩, rfl, rfl, rfl, rfl⟩
end PATHS
