/-! java.util.Arrays: fill, copyOf; MirrorKeep$Tape -/
section GUP
theorem g_up_up {g : g_H} {a : Nat} {e e1 : g_C} : g_up (g_up g a e) a e1 = g_up g a e1 := by
  funext b
  unfold g_up
  split <;> rfl
theorem g_up_id {g : g_H} {a : Nat} {e : g_C} (h : g a = some e) : g_up g a e = g := by
  funext b
  unfold g_up
  split
  · rename_i hb; rw [hb, h]
  · rfl
theorem g_up_comm {g : g_H} {a b : Nat} {e e1 : g_C} (h : a ≠ b) : g_up (g_up g a e) b e1 = g_up (g_up g b e1) a e := by
  funext c
  unfold g_up
  by_cases h1 : c = b
  · subst h1; rw [if_pos rfl, if_neg (Ne.symm h), if_pos rfl]
  · rw [if_neg h1]
    by_cases h2 : c = a
    · rw [if_pos h2, if_pos h2]
    · rw [if_neg h2, if_neg h2, if_neg h1]
/-- two cells that differ lie apart -/
theorem g_ne {g : g_H} {a b : Nat} {e e1 : g_C} (h : g a = some e) (h1 : g b = some e1) (hn : e ≠ e1) : a ≠ b := fun z => hn (by
  rw [z, h1] at h
  exact (Option.some.inj h).symm)
theorem g_nn {g : g_H} {a q : Nat} {e : g_C} (h : g a = some e) (hq : g q = none) : a ≠ q := fun z => by
  rw [z, hq] at h
  cases h
end GUP
section ARR
variable {l : Launch} {D : va_G} {aC : Nat → ClassId}
abbrev A_fl_lv (a n i : Nat) : w_L := [(0, .ref a), (1, .int (nI 0)), (2, .int (nI i)), (3, .int (nI n))]
theorem c_A_fill_loop {a n : Nat} {g : g_H} (hn : n < 2 ^ 20) : ∀ (d i : Nat) (f : Nat → Int32), n = i + d → (∀ j, j < i → f j = sx 0) → g a ≠ none →
    k_T l D aC "java/util/Arrays" (k_mt n_A_fill).2.1 4 0 0 (k_mt n_A_fill).2.2.2.1 [] false none 0 0 g (fun oc g1 => ∃ f1 : Nat → Int32, oc = .inl none ∧ g1 = g_up g a (.inl (0, n, .inl f1)) ∧ ∀ j, j < n → f1 j = sx 0) 5 (A_fl_lv a n i) [] (g_up g a (.inl (0, n, .inl f))) 0 0 := by
  intro d
  induction d with
  | zero =>
    intro i f hi hj hga
    refine k_run ok_A_fill [] k_none (fun _ _ _ _ _ _ h => h.elim) 20 ?_
    conv => whnf
    refine ⟨fun _ => ?_, fun h => absurd ((q_ge (by omega) (by omega)).mpr (by omega)) h⟩
    conv => whnf
    exact ⟨rfl, ⟨f, rfl, rfl, fun j hj1 => hj j (by omega)⟩, Nat.le_refl _, Nat.le_refl _⟩
  | succ d ih =>
    intro i f hi hj hga
    refine k_run ok_A_fill [5] (fun pc lv st g1 k m => pc = 5 ∧ w_sub lv (A_fl_lv a n (i + 1)) ∧ st = [] ∧ g1 = g_up g a (.inl (0, n, .inl (upd f i (sx 0)))) ∧ k = 0 ∧ m = 0) ?_ 30 ?_
    · rintro pc lv st g1 k m ⟨rfl, hs, rfl, rfl, rfl, rfl⟩
      refine k_sub hs (ih (i + 1) _ (by omega) (fun j hj1 => ?_) hga)
      by_cases h9 : j = i
      · rw [h9]; exact pk_us
      · rw [pk_un h9]; exact hj j (by omega)
    · conv => whnf
      refine ⟨fun h => absurd ((q_ge (by omega) (by omega)).mp h) (by omega), fun _ => ?_⟩
      conv => whnf
      refine ⟨0, n, f, i, g_up_s, rfl, rfl, by omega, by omega, ?_⟩
      rw [g_up_up]
      conv => whnf
      exact ⟨rfl, ⟨rfl, rfl, congrArg (fun z => some (Value.int z)) (nI_add i 1), rfl, trivial⟩, rfl, rfl, rfl, rfl⟩
theorem c_A_fill (hfl : l.flags = pinnedFlags ++ [noTraceFlag]) {a n : Nat} {f : Nat → Int32} {g : g_H} (h1 : g a = some (.inl (0, n, .inl f))) (hn : n < 2 ^ 20) : k_CT l D aC n_A_fill 0 0 [.ref a, .int (nI 0)] g (fun oc g1 => ∃ f1 : Nat → Int32, oc = .inl none ∧ g1 = g_up g a (.inl (0, n, .inl f1)) ∧ ∀ j, j < n → f1 j = sx 0) := by
  refine k_loop hfl n_A_fill ok_A_fill rfl rfl rfl rfl rfl rfl (fun h => by cases h) (Nat.le_of_ble_eq_true rfl) [5] (fun pc lv st g1 k m => pc = 5 ∧ w_sub lv (A_fl_lv a n 0) ∧ st = [] ∧ g1 = g ∧ k = 0 ∧ m = 0) ?_ 20 ?_
  · rintro pc lv st g1 k m ⟨rfl, hs, rfl, rfl, rfl, rfl⟩
    have := c_A_fill_loop (l := l) (D := D) (aC := aC) (a := a) (g := g1) hn n 0 f (by omega) (fun j hj => by omega) (by rw [h1]; simp)
    rw [g_up_id h1] at this
    exact k_sub hs this
  · conv => whnf
    refine Or.inl ⟨_, _, h1, by decide, ?_⟩
    conv => whnf
    exact ⟨rfl, ⟨rfl, rfl, rfl, rfl, trivial⟩, rfl, rfl, rfl, rfl⟩
/-- a list cut or filled up with 0 to a length -/
def cut0 (L : List Nat) (m : Nat) : List Nat := L.take m ++ List.replicate (m - L.length) 0
theorem cut0_len (L : List Nat) (m : Nat) : (cut0 L m).length = m := by simp [cut0]; omega
theorem cut0_lt {L : List Nat} (h : ∀ b ∈ L, b < 256) (m : Nat) : ∀ b ∈ cut0 L m, b < 256 := by
  intro b hb
  rcases List.mem_append.mp hb with h1 | h1
  · exact h b (List.mem_of_mem_take h1)
  · have := (List.mem_replicate.mp h1).2; omega
theorem cut0_at {L : List Nat} {m i : Nat} (hi : i < m) : (cut0 L m).getD i 0 = if i < L.length then L.getD i 0 else 0 := by
  unfold cut0
  rw [List.getD_eq_getElem?_getD]
  by_cases h : i < L.length
  · rw [if_pos h, List.getElem?_append_left (by simp; omega), List.getElem?_take, if_pos hi, ← List.getD_eq_getElem?_getD]
  · rw [if_neg h, List.getElem?_append_right (by simp; omega)]
    rw [List.getElem?_replicate]
    split <;> rfl
/-- Arrays.copyOf of an array of n bytes, of which the first n1 are the list's -/
theorem c_A_copyOf (hfl : l.flags = pinnedFlags ++ [noTraceFlag]) {a n m : Nat} {f : Nat → Int32} {g : g_H} (h1 : g a = some (.inl (0, n, .inl f))) (hf : ∀ i, i < n → fits .byte (.int (f i)) = true) (hn : n < 2 ^ 19) (hm : m < 2 ^ 19) :
    k_CT l D aC n_A_copyOf 1 m [.ref a, .int (nI m)] g (fun oc g1 => ∃ (q : Nat) (f1 : Nat → Int32), g q = none ∧ oc = .inl (some (.ref q)) ∧ g1 = g_up g q (.inl (0, m, .inl f1)) ∧ ∀ i, i < m → f1 i = if i < n then f i else 0) := by
  refine k_line hfl n_A_copyOf ok_A_copyOf rfl rfl rfl rfl rfl rfl (fun h => by cases h) (Nat.le_of_ble_eq_true rfl) 40 ?_
  conv => whnf
  refine Or.inl ⟨_, _, h1, by decide, ?_⟩
  conv => whnf
  refine ⟨fun h => ?_, fun h => ?_⟩
  · conv => whnf
    refine ⟨m, rfl, by omega, by omega, by omega, fun q hq => ?_⟩
    have haq := g_nn h1 hq
    conv => whnf
    refine Or.inl ⟨_, _, by rw [g_up_n haq]; exact h1, by decide, ?_⟩
    conv => whnf
    refine ⟨Nat.le_of_ble_eq_true rfl, 0, 0, _, c_J_min hfl (by omega) (by omega), by omega, by omega, k_rl ?_, k_rr⟩
    conv => whnf
    refine ⟨Nat.le_of_ble_eq_true rfl, 0, n, m, 0, 0, min n m, rfl, rfl, rfl, by omega, by omega, by omega, by omega, Or.inl ⟨f, fun _ => 0, by rw [g_up_n haq]; exact h1, g_up_s, rfl, fun i hi => hf _ (by omega), ?_⟩⟩
    rw [g_up_up]
    conv => whnf
    refine ⟨⟨_, rfl, Or.inr ⟨_, rfl⟩⟩, ⟨q, _, hq, rfl, rfl, fun i hi => ?_⟩, by omega, by omega⟩
    by_cases hin : i < n
    · rw [pk_cpy_in (by omega) (by omega), if_pos hin]
      congr 1
      omega
    · rw [pk_cpy_out (by omega), if_neg hin]
  · have he : m = n := (q_eq (by omega) (by omega)).mp (Classical.not_not.mp h)
    subst he
    conv => whnf
    refine ⟨Nat.le_of_ble_eq_true rfl, 0, m, f, h1, rfl, hf, by omega, by omega, fun q hq => ?_⟩
    conv => whnf
    refine ⟨0, _, g_up_s, rfl, ?_⟩
    conv => whnf
    refine ⟨⟨_, rfl, Or.inr ⟨_, rfl⟩⟩, ⟨q, f, hq, rfl, rfl, fun i hi => by rw [if_pos hi]⟩, by omega, by omega⟩
end ARR
