/-! MirrorKeep$Paths: the directory's length, what lies below; java.util.Arrays: fill, copyOf -/
section PATHS3
/-- a counter that stands one below -/
def dI (c : Nat) : Int32 := nI c - nI 1
theorem dI_s (c : Nat) : dI (c + 1) = nI c := by rw [dI, pk_sub (by omega)]; rfl
theorem dI_m (c : Nat) : nI c + (-1) = dI c := by
  rw [dI, Int32.sub_eq_add_neg]
  rfl
theorem dI_lt0 : w_cmp .lt (dI 0) 0 := by
  show (nI 0 - nI 1).toInt < (0 : Int32).toInt
  decide
variable {l : Launch} {D : va_G} {aC : Nat → ClassId}
abbrev P_dl_lv (a : Nat) (x : Int32) : w_L := [(0, .ref a), (1, .int x)]
theorem c_P_dirLen_loop {a : Nat} {L : List Nat} {g : g_H} (h1 : isBy g a L) : ∀ (c : Nat), c ≤ L.length →
    k_T l D aC "MirrorKeep$Paths" (k_mt n_P_directoryLength).2.1 2 0 0 (k_mt n_P_directoryLength).2.2.2.1 [] false none 0 0 g (rt (some (.int (slI (lastSl L c)))) g) 5 (P_dl_lv a (dI c)) [] g 0 0 := by
  obtain ⟨f, h1, h2, h3, h4⟩ := h1
  intro c
  induction c with
  | zero =>
    intro _
    refine k_run ok_P_directoryLength [] k_none (fun _ _ _ _ _ _ h => h.elim) 20 ?_
    conv => whnf
    refine ⟨fun _ => ?_, fun h => absurd dI_lt0 h⟩
    conv => whnf
    exact ⟨⟨_, rfl, rfl⟩, ⟨rfl, rfl⟩, Nat.le_refl _, Nat.le_refl _⟩
  | succ c ih =>
    intro hc
    have hb := getD_lt h3 (by omega : c < L.length)
    rw [dI_s]
    refine k_run ok_P_directoryLength [5] (fun pc lv st g1 k n => pc = 5 ∧ w_sub lv (P_dl_lv a (dI c)) ∧ L.getD c 0 ≠ 47 ∧ st = [] ∧ g1 = g ∧ k = 0 ∧ n = 0) ?_ 30 ?_
    · rintro pc lv st g1 k n ⟨rfl, hs, he, rfl, rfl, rfl, rfl⟩
      rw [lastSl, if_neg he]
      exact k_sub hs (ih (by omega))
    · conv => whnf
      refine ⟨fun h => absurd h (q_lt0 (by omega)), fun _ => ?_⟩
      conv => whnf
      refine ⟨0, _, f, c, h1, rfl, rfl, by omega, by omega, ?_⟩
      rw [h2 c (by omega)]
      conv => whnf
      refine ⟨fun h => ?_, fun h => ?_⟩
      · have h47 : L.getD c 0 ≠ 47 := fun z => h ((sx_47 hb).mpr z)
        conv => whnf
        exact ⟨rfl, ⟨rfl, congrArg (fun z => some (Value.int z)) (dI_m c), trivial⟩, h47, rfl, rfl, rfl, rfl⟩
      · have h47 : L.getD c 0 = 47 := (sx_47 hb).mp (Classical.not_not.mp h)
        conv => whnf
        refine ⟨⟨_, rfl, rfl⟩, ⟨?_, rfl⟩, Nat.le_refl _, Nat.le_refl _⟩
        rw [lastSl, if_pos h47]
        rfl
theorem c_P_dirLen (hfl : l.flags = pinnedFlags ++ [noTraceFlag]) {a : Nat} {L : List Nat} {g : g_H} (h1 : isBy g a L) : k_CT l D aC n_P_directoryLength 0 0 [.ref a] g (rt (some (.int (slI (lastSl L L.length)))) g) := by
  refine k_loop hfl n_P_directoryLength ok_P_directoryLength rfl rfl rfl rfl rfl rfl (fun h => by cases h) (Nat.le_of_ble_eq_true rfl) [5] (fun pc lv st g1 k n => pc = 5 ∧ w_sub lv (P_dl_lv a (dI L.length)) ∧ st = [] ∧ g1 = g ∧ k = 0 ∧ n = 0) ?_ 20 ?_
  · rintro pc lv st g1 k n ⟨rfl, hs, rfl, rfl, rfl, rfl⟩
    exact k_sub hs (c_P_dirLen_loop h1 L.length (Nat.le_refl _))
  · obtain ⟨f, h1, -⟩ := h1
    conv => whnf
    refine Or.inl ⟨_, _, h1, by decide, ?_⟩
    conv => whnf
    exact ⟨rfl, ⟨rfl, rfl, trivial⟩, rfl, rfl, rfl, rfl⟩
abbrev P_bl_lv (a b i : Nat) : w_L := [(0, .ref a), (1, .ref b), (2, .int (nI i))]
theorem c_P_below_loop {a b : Nat} {L U : List Nat} {g : g_H} (h1 : isBy g a L) (h2 : isBy g b U) (hle : U.length ≤ L.length) : ∀ (d i : Nat), U.length = i + d → (∀ j, j < i → L.getD j 0 = U.getD j 0) →
    k_T l D aC "MirrorKeep$Paths" (k_mt n_P_isOrIsBelow).2.1 3 0 0 (k_mt n_P_isOrIsBelow).2.2.2.1 [] false none 0 0 g (rt (some (.int (b2 (isBel L U)))) g) 11 (P_bl_lv a b i) [] g 0 0 := by
  obtain ⟨f, a1, a2, a3, a4⟩ := h1
  obtain ⟨h, b1, b2', b3, b4⟩ := h2
  intro d
  induction d with
  | zero =>
    intro i hi hj
    obtain rfl : i = U.length := by omega
    have hp1 : decide (U.length ≤ L.length) = true := decide_eq_true hle
    have hp2 : decide (∀ i, i < U.length → L.getD i 0 = U.getD i 0) = true := decide_eq_true hj
    refine k_run ok_P_isOrIsBelow [] k_none (fun _ _ _ _ _ _ h => h.elim) 50 ?_
    conv => whnf
    refine Or.inl ⟨_, _, b1, by decide, ?_⟩
    conv => whnf
    refine ⟨fun _ => ?_, fun h => absurd ((q_ge (by omega) (by omega)).mpr (by omega)) h⟩
    conv => whnf
    refine Or.inl ⟨_, _, a1, by decide, ?_⟩
    conv => whnf
    refine Or.inl ⟨_, _, b1, by decide, ?_⟩
    conv => whnf
    refine ⟨fun h => ?_, fun h => ?_⟩
    · have he := (q_eq (by omega) (by omega)).mp h
      conv => whnf
      refine ⟨⟨_, rfl, rfl⟩, ⟨?_, rfl⟩, Nat.le_refl _, Nat.le_refl _⟩
      rw [isBel, hp1, hp2, decide_eq_true he]
      rfl
    · have hne : L.length ≠ U.length := fun z => h ((q_eq (by omega) (by omega)).mpr z)
      have hb := getD_lt a3 (by omega : U.length < L.length)
      conv => whnf
      refine Or.inl ⟨_, _, b1, by decide, ?_⟩
      conv => whnf
      refine ⟨0, _, f, U.length, a1, rfl, rfl, by omega, by omega, ?_⟩
      rw [a2 _ (by omega)]
      conv => whnf
      refine ⟨fun h => ?_, fun h => ?_⟩
      · have h47 : L.getD U.length 0 ≠ 47 := fun z => h ((sx_47 hb).mpr z)
        conv => whnf
        refine ⟨⟨_, rfl, rfl⟩, ⟨?_, rfl⟩, Nat.le_refl _, Nat.le_refl _⟩
        rw [isBel, hp1, hp2, decide_eq_false hne, decide_eq_false h47]
        rfl
      · have h47 : L.getD U.length 0 = 47 := (sx_47 hb).mp (Classical.not_not.mp h)
        conv => whnf
        refine ⟨⟨_, rfl, rfl⟩, ⟨?_, rfl⟩, Nat.le_refl _, Nat.le_refl _⟩
        rw [isBel, hp1, hp2, decide_eq_true h47, Bool.or_true]
        rfl
  | succ d ih =>
    intro i hi hj
    have hbL := getD_lt a3 (by omega : i < L.length)
    have hbU := getD_lt b3 (by omega : i < U.length)
    refine k_run ok_P_isOrIsBelow [11] (fun pc lv st g1 k n => pc = 11 ∧ w_sub lv (P_bl_lv a b (i + 1)) ∧ L.getD i 0 = U.getD i 0 ∧ st = [] ∧ g1 = g ∧ k = 0 ∧ n = 0) ?_ 50 ?_
    · rintro pc lv st g1 k n ⟨rfl, hs, he, rfl, rfl, rfl, rfl⟩
      exact k_sub hs (ih (i + 1) (by omega) (fun j hj1 => by
        by_cases h9 : j = i
        · rw [h9]; exact he
        · exact hj j (by omega)))
    · conv => whnf
      refine Or.inl ⟨_, _, b1, by decide, ?_⟩
      conv => whnf
      refine ⟨fun h => absurd ((q_ge (by omega) (by omega)).mp h) (by omega), fun _ => ?_⟩
      conv => whnf
      refine ⟨0, _, f, i, a1, rfl, rfl, by omega, by omega, ?_⟩
      rw [a2 i (by omega)]
      conv => whnf
      refine ⟨0, _, h, i, b1, rfl, rfl, by omega, by omega, ?_⟩
      rw [b2' i (by omega)]
      conv => whnf
      refine ⟨fun h => ?_, fun h => ?_⟩
      · have he := (sx_inj hbL hbU).mp h
        conv => whnf
        exact ⟨rfl, ⟨rfl, rfl, congrArg (fun z => some (Value.int z)) (nI_add i 1), trivial⟩, he, rfl, rfl, rfl, rfl⟩
      · have hne : L.getD i 0 ≠ U.getD i 0 := fun z => h ((sx_inj hbL hbU).mpr z)
        conv => whnf
        refine ⟨⟨_, rfl, rfl⟩, ⟨?_, rfl⟩, Nat.le_refl _, Nat.le_refl _⟩
        rw [isBel, decide_eq_false (p := ∀ i, i < U.length → L.getD i 0 = U.getD i 0) (fun z => hne (z i (by omega))), Bool.and_false, Bool.false_and]
        rfl
theorem c_P_below (hfl : l.flags = pinnedFlags ++ [noTraceFlag]) {a b : Nat} {L U : List Nat} {g : g_H} (h1 : isBy g a L) (h2 : isBy g b U) : k_CT l D aC n_P_isOrIsBelow 0 0 [.ref a, .ref b] g (rt (some (.int (b2 (isBel L U)))) g) := by
  have c1 := h1.choose_spec.2.2
  have c2 := h2.choose_spec.2.2
  refine k_loop hfl n_P_isOrIsBelow ok_P_isOrIsBelow rfl rfl rfl rfl rfl rfl (fun h => by cases h) (Nat.le_of_ble_eq_true rfl) [11] (fun pc lv st g1 k n => pc = 11 ∧ w_sub lv (P_bl_lv a b 0) ∧ U.length ≤ L.length ∧ st = [] ∧ g1 = g ∧ k = 0 ∧ n = 0) ?_ 20 ?_
  · rintro pc lv st g1 k n ⟨rfl, hs, hle, rfl, rfl, rfl, rfl⟩
    exact k_sub hs (c_P_below_loop h1 h2 hle U.length 0 (by omega) (fun j hj => by omega))
  · obtain ⟨f, a1, -⟩ := h1
    obtain ⟨h, b1, -⟩ := h2
    conv => whnf
    refine Or.inl ⟨_, _, a1, by decide, ?_⟩
    conv => whnf
    refine Or.inl ⟨_, _, b1, by decide, ?_⟩
    conv => whnf
    refine ⟨fun h => ?_, fun h => ?_⟩
    · have := (q_ge (by omega) (by omega)).mp h
      conv => whnf
      exact ⟨rfl, ⟨rfl, rfl, rfl, trivial⟩, this, rfl, rfl, rfl, rfl⟩
    · have hlt : ¬ U.length ≤ L.length := fun z => h ((q_ge (by omega) (by omega)).mpr z)
      conv => whnf
      refine ⟨⟨_, rfl, rfl⟩, ⟨?_, rfl⟩, Nat.le_refl _, Nat.le_refl _⟩
      rw [isBel, decide_eq_false hlt]
      rfl
end PATHS3
