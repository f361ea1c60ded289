/-! MirrorKeep$Tape -/
section TAPE
/-- nothing but these cells differs -/
def fr (S : List Nat) (g g1 : g_H) : Prop := ∀ q, q ∉ S → g1 q = g q
theorem fr_rf {S : List Nat} {g : g_H} : fr S g g := fun _ _ => rfl
theorem fr_up {S : List Nat} {g g1 : g_H} {a : Nat} {e : g_C} (h : fr S g g1) (ha : a ∈ S) : fr S g (g_up g1 a e) := fun q hq => by
  rw [g_up_n (fun z => hq (by rw [z]; exact ha))]
  exact h q hq
theorem fr_tr {S : List Nat} {g g1 g2 : g_H} (h : fr S g g1) (h1 : fr S g1 g2) : fr S g g2 := fun q hq => (h1 q hq).trans (h q hq)
theorem fr_sub {S S1 : List Nat} {g g1 : g_H} (h : fr S g g1) (hs : ∀ q ∈ S, q ∈ S1) : fr S1 g g1 := fun q hq => h q (fun z => hq (hs q z))
/-- the tape t with its arrays rd (bytes ready) and bt (bytes on the tape) -/
def isTp (g : g_H) (t rd bt : Nat) (R T : List Nat) : Prop := ∃ f h : Nat → Int32, g t = some (.inr (1, [.ref rd, .ref bt, .int (nI T.length)])) ∧ g rd = some (.inl (0, 20, .inl f)) ∧ g bt = some (.inl (0, 400, .inl h)) ∧ R.length = 20 ∧ (∀ i, i < 20 → f i = sx (R.getD i 0)) ∧ (∀ b ∈ R, b < 256) ∧ T.length ≤ 400 ∧ (∀ i, i < T.length → h i = sx (T.getD i 0)) ∧ (∀ b ∈ T, b < 256) ∧ ∀ i, i < 400 → fits .byte (.int (h i)) = true
theorem isTp_fr {g g1 : g_H} {t rd bt : Nat} {R T : List Nat} (h : isTp g t rd bt R T) (h1 : g1 t = g t) (h2 : g1 rd = g rd) (h3 : g1 bt = g bt) : isTp g1 t rd bt R T := by
  obtain ⟨f, h, a1, a2, a3, a4⟩ := h
  exact ⟨f, h, h1.trans a1, h2.trans a2, h3.trans a3, a4⟩
theorem isBy_fr {g g1 : g_H} {a : Nat} {L : List Nat} (h : isBy g a L) (h1 : g1 a = g a) : isBy g1 a L := by
  obtain ⟨f, a1, a2⟩ := h
  exact ⟨f, h1.trans a1, a2⟩
theorem zeros_at (i : Nat) : (List.replicate 20 0).getD i 0 = 0 := by
  rw [List.getD_eq_getElem?_getD, List.getElem?_replicate]
  split <;> rfl
variable {l : Launch} {D : va_G} {aC : Nat → ClassId}
theorem c_T_length (hfl : l.flags = pinnedFlags ++ [noTraceFlag]) {t rd bt : Nat} {R T : List Nat} {g : g_H} (hT : isTp g t rd bt R T) : k_CT l D aC n_T_length 0 0 [.ref t] g (rt (some (.int (nI T.length))) g) := by
  obtain ⟨f, h, a1, -⟩ := hT
  refine k_line hfl n_T_length ok_T_length rfl rfl rfl rfl rfl rfl (fun h => by cases h) (Nat.le_of_ble_eq_true rfl) 10 ?_
  conv => whnf
  refine ⟨_, _, a1, rfl, ?_⟩
  conv => whnf
  exact ⟨⟨_, rfl, rfl⟩, ⟨rfl, rfl⟩, Nat.le_refl _, Nat.le_refl _⟩
theorem c_T_init (hfl : l.flags = pinnedFlags ++ [noTraceFlag]) {t : Nat} {g : g_H} (h1 : g t = some (.inr (1, [.null, .null, .int 0]))) : k_CT l D aC n_T_init 2 420 [.ref t] g (fun oc g1 => ∃ rd bt, oc = .inl none ∧ g rd = none ∧ g bt = none ∧ isTp g1 t rd bt (List.replicate 20 0) [] ∧ fr [t, rd, bt] g g1) := by
  refine k_line hfl n_T_init ok_T_init rfl rfl rfl rfl rfl rfl (fun _ => rfl) (Nat.le_of_ble_eq_true rfl) 40 ?_
  conv => whnf
  refine ⟨Nat.le_of_ble_eq_true rfl, ?_⟩
  conv => whnf
  refine ⟨20, rfl, by decide, by decide, by decide, fun rd hrd => ?_⟩
  have n1 := g_nn h1 hrd
  conv => whnf
  refine ⟨_, by rw [g_up_n n1]; exact h1, by decide, rfl, rfl, ?_⟩
  conv => whnf
  refine ⟨400, rfl, by decide, by decide, by decide, fun bt hbt => ?_⟩
  have n2 : bt ≠ t := fun z => by rw [z, g_up_s] at hbt; cases hbt
  rw [g_up_n n2] at hbt
  have n3 : bt ≠ rd := fun z => by rw [z, g_up_s] at hbt; cases hbt
  rw [g_up_n n3] at hbt
  conv => whnf
  refine ⟨_, by rw [g_up_n n2.symm]; exact g_up_s, by simp, rfl, rfl, ?_⟩
  conv => whnf
  refine ⟨_, g_up_s, by simp, rfl, rfl, ?_⟩
  conv => whnf
  refine ⟨rfl, ⟨rd, bt, rfl, hrd, hbt, ⟨fun _ => 0, fun _ => 0, ?_, ?_, ?_, by simp, fun i hi => ?_, fun b hb => ?_, by simp, fun i hi => by simp at hi, fun b hb => by simp at hb, fun i hi => rfl⟩, ?_⟩, by decide, by decide⟩
  · rw [g_up_s]
    rfl
  · rw [g_up_n n1.symm, g_up_n n1.symm, g_up_n n3.symm, g_up_n n1.symm, g_up_s]
  · rw [g_up_n n2, g_up_n n2, g_up_s]
  · rw [zeros_at]; rfl
  · have := (List.mem_replicate.mp hb).2; omega
  · exact fr_up (fr_up (fr_up (fr_up (fr_up fr_rf (by simp)) (by simp)) (by simp)) (by simp)) (by simp)
theorem c_T_append_no (hfl : l.flags = pinnedFlags ++ [noTraceFlag]) {t rd bt : Nat} {R T : List Nat} {g : g_H} (hT : isTp g t rd bt R T) {x : Int32} (hx : x.toInt < 0 ∨ 20 < x.toInt ∨ 400 - (T.length : Int) < x.toInt) : k_CT l D aC n_T_append 0 0 [.ref t, .int x] g (rt (some (.int (-1))) g) := by
  obtain ⟨f, h, a1, a2, a3, a4, a5, a6, a7, a8, a9, a10⟩ := hT
  refine k_line hfl n_T_append ok_T_append rfl rfl rfl rfl rfl rfl (fun h => by cases h) (Nat.le_of_ble_eq_true rfl) 40 ?_
  conv => whnf
  refine ⟨fun _ => ?_, fun h1 => ?_⟩
  · conv => whnf
    exact ⟨⟨_, rfl, rfl⟩, ⟨rfl, rfl⟩, Nat.le_refl _, Nat.le_refl _⟩
  · have h1 : ¬ x.toInt < 0 := h1
    conv => whnf
    refine ⟨_, _, a1, rfl, ?_⟩
    conv => whnf
    refine Or.inl ⟨_, _, a2, by decide, ?_⟩
    conv => whnf
    refine ⟨fun _ => ?_, fun h2 => ?_⟩
    · conv => whnf
      exact ⟨⟨_, rfl, rfl⟩, ⟨rfl, rfl⟩, Nat.le_refl _, Nat.le_refl _⟩
    · have h2 : ¬ (nI 20).toInt < x.toInt := h2
      rw [nI_toInt (by decide)] at h2
      conv => whnf
      refine ⟨_, _, a1, rfl, ?_⟩
      conv => whnf
      refine Or.inl ⟨_, _, a3, by decide, ?_⟩
      conv => whnf
      refine ⟨_, _, a1, rfl, ?_⟩
      conv => whnf
      refine ⟨fun h3 => absurd h3 ?_, fun _ => ?_⟩
      · show ¬ x.toInt ≤ (nI 400 - nI T.length).toInt
        rw [pk_sub_toInt (by decide) (by omega)]
        omega
      · conv => whnf
        exact ⟨⟨_, rfl, rfl⟩, ⟨rfl, rfl⟩, Nat.le_refl _, Nat.le_refl _⟩
theorem app_at {T R : List Nat} {n i : Nat} (hn : n ≤ R.length) (hi : i < (T ++ R.take n).length) : (T ++ R.take n).getD i 0 = if i < T.length then T.getD i 0 else R.getD (i - T.length) 0 := by
  rw [List.getD_eq_getElem?_getD]
  by_cases h : i < T.length
  · rw [if_pos h, List.getElem?_append_left h, List.getD_eq_getElem?_getD]
  · rw [if_neg h, List.getElem?_append_right (by omega), List.getElem?_take, if_pos (by simp at hi; omega), List.getD_eq_getElem?_getD]
theorem c_T_append (hfl : l.flags = pinnedFlags ++ [noTraceFlag]) {t rd bt : Nat} {R T : List Nat} {g : g_H} (hT : isTp g t rd bt R T) {n : Nat} (hn : n ≤ 20) (hl : T.length + n ≤ 400) : k_CT l D aC n_T_append 0 0 [.ref t, .int (nI n)] g (fun oc g1 => oc = .inl (some (.int (nI (T.length + n)))) ∧ isTp g1 t rd bt (List.replicate 20 0) (T ++ R.take n) ∧ fr [t, rd, bt] g g1) := by
  obtain ⟨f, h, a1, a2, a3, a4, a5, a6, a7, a8, a9, a10⟩ := hT
  have n1 : t ≠ rd := g_ne a1 a2 (by simp)
  have n2 : t ≠ bt := g_ne a1 a3 (by simp)
  have n3 : rd ≠ bt := g_ne a2 a3 (by simp)
  have hlen : (T ++ R.take n).length = T.length + n := by simp; omega
  refine k_line hfl n_T_append ok_T_append rfl rfl rfl rfl rfl rfl (fun h => by cases h) (Nat.le_of_ble_eq_true rfl) 60 ?_
  conv => whnf
  refine ⟨fun h => absurd h (q_lt0 (by omega)), fun _ => ?_⟩
  conv => whnf
  refine ⟨_, _, a1, rfl, ?_⟩
  conv => whnf
  refine Or.inl ⟨_, _, a2, by decide, ?_⟩
  conv => whnf
  refine ⟨fun h => absurd ((q_gt (by omega) (by omega)).mp h) (by omega), fun _ => ?_⟩
  conv => whnf
  refine ⟨_, _, a1, rfl, ?_⟩
  conv => whnf
  refine Or.inl ⟨_, _, a3, by decide, ?_⟩
  conv => whnf
  refine ⟨_, _, a1, rfl, ?_⟩
  conv => whnf
  refine ⟨fun _ => ?_, fun h => absurd (show w_cmp .le (nI n) (nI 400 - nI T.length) by rw [pk_sub (by omega)]; exact (q_le (by omega) (by omega)).mpr (by omega)) h⟩
  conv => whnf
  refine ⟨_, _, a1, rfl, ?_⟩
  conv => whnf
  refine ⟨_, _, a1, rfl, ?_⟩
  conv => whnf
  refine ⟨_, _, a1, rfl, ?_⟩
  conv => whnf
  refine ⟨Nat.le_of_ble_eq_true rfl, 0, 20, 400, 0, T.length, n, rfl, rfl, rfl, by decide, by decide, by omega, by omega, Or.inl ⟨f, h, a2, a3, rfl, fun i hi => by rw [Nat.zero_add, a5 i (by omega)]; exact sx_fits _, ?_⟩⟩
  conv => whnf
  refine ⟨_, _, by rw [g_up_n n2]; exact a1, rfl, ?_⟩
  conv => whnf
  refine ⟨Nat.le_of_ble_eq_true rfl, 0, 0, _, c_A_fill hfl (by rw [g_up_n n3]; exact a2) (by decide), Nat.le_refl _, Nat.le_refl _, fun v g1 hh => ?_, fun C g1 hh => ?_⟩
  · obtain ⟨f1, hv, rfl, hf1⟩ := hh
    cases hv
    conv => whnf
    refine ⟨_, _, by rw [g_up_n n1, g_up_n n2]; exact a1, rfl, ?_⟩
    conv => whnf
    refine ⟨_, by rw [g_up_n n1, g_up_n n2]; exact a1, by simp, rfl, rfl, ?_⟩
    conv => whnf
    refine ⟨_, _, g_up_s, rfl, ?_⟩
    conv => whnf
    refine ⟨⟨_, rfl, rfl⟩, ⟨congrArg (fun z => Sum.inl (some (Value.int z))) (nI_add _ _), ⟨f1, va_cpy f h 0 T.length n, ?_, ?_, ?_, by simp, fun i hi => ?_, fun b hb => ?_, by omega, fun i hi => ?_, fun b hb => ?_, fun i hi => ?_⟩, ?_⟩, Nat.le_refl _, Nat.le_refl _⟩
    · rw [g_up_s, hlen, ← nI_add]
      rfl
    · rw [g_up_n n1.symm, g_up_s]
    · rw [g_up_n n2.symm, g_up_n n3.symm, g_up_s]
    · rw [zeros_at]; exact hf1 i hi
    · have := (List.mem_replicate.mp hb).2; omega
    · rw [app_at (by omega) hi]
      by_cases hi2 : i < T.length
      · rw [if_pos hi2, pk_cpy_out (by omega), a8 i hi2]
      · rw [if_neg hi2, pk_cpy_in (by omega) (by omega), Nat.zero_add, a5 _ (by omega)]
    · rcases List.mem_append.mp hb with h9 | h9
      · exact a9 b h9
      · exact a6 b (List.mem_of_mem_take h9)
    · by_cases hi2 : T.length ≤ i ∧ i < T.length + n
      · rw [pk_cpy_in hi2.1 hi2.2, Nat.zero_add, a5 _ (by omega)]; exact sx_fits _
      · rw [pk_cpy_out (by omega)]; exact a10 i hi
    · exact fr_up (fr_up (fr_up fr_rf (by simp)) (by simp)) (by simp)
  · obtain ⟨f1, hv, -⟩ := hh
    cases hv
theorem c_T_takeAll (hfl : l.flags = pinnedFlags ++ [noTraceFlag]) {t rd bt : Nat} {R T : List Nat} {g : g_H} (hT : isTp g t rd bt R T) : k_CT l D aC n_T_takeAll 1 T.length [.ref t] g (fun oc g1 => ∃ q, oc = .inl (some (.ref q)) ∧ g q = none ∧ isBy g1 q T ∧ isTp g1 t rd bt R [] ∧ fr [t, q] g g1) := by
  obtain ⟨f, h, a1, a2, a3, a4, a5, a6, a7, a8, a9, a10⟩ := hT
  have n1 : t ≠ rd := g_ne a1 a2 (by simp)
  have n2 : t ≠ bt := g_ne a1 a3 (by simp)
  refine k_line hfl n_T_takeAll ok_T_takeAll rfl rfl rfl rfl rfl rfl (fun h => by cases h) (Nat.le_of_ble_eq_true rfl) 40 ?_
  conv => whnf
  refine ⟨_, _, a1, rfl, ?_⟩
  conv => whnf
  refine ⟨_, _, a1, rfl, ?_⟩
  conv => whnf
  refine ⟨Nat.le_of_ble_eq_true rfl, 1, T.length, _, c_A_copyOf hfl a3 a10 (by decide) (by omega), by omega, by omega, fun v g1 hh => ?_, fun C g1 hh => ?_⟩
  · obtain ⟨q, f1, hq, hv, rfl, hf1⟩ := hh
    cases hv
    have m1 := g_nn a1 hq
    have m2 := g_nn a2 hq
    have m3 := g_nn a3 hq
    conv => whnf
    refine ⟨_, by rw [g_up_n m1]; exact a1, by simp, rfl, rfl, ?_⟩
    conv => whnf
    refine ⟨⟨_, rfl, Or.inr ⟨_, rfl⟩⟩, ⟨q, rfl, hq, ⟨f1, by rw [g_up_n m1.symm, g_up_s], fun i hi => by rw [hf1 i hi, if_pos (by omega), a8 i hi], a9, by omega⟩, ⟨f, h, by rw [g_up_s]; rfl, by rw [g_up_n n1.symm, g_up_n m2]; exact a2, by rw [g_up_n n2.symm, g_up_n m3]; exact a3, a4, a5, a6, by simp, fun i hi => by simp at hi, fun b hb => by simp at hb, a10⟩, fr_up (fr_up fr_rf (by simp)) (by simp)⟩, by omega, by omega⟩
  · obtain ⟨q, f1, hq, hv, -⟩ := hh
    cases hv
end TAPE
