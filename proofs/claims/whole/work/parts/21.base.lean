/-! numbers in branches; locals at a loop's head; arrays of bytes -/
section KBASE
theorem q_lt {a b : Nat} (ha : a < 2 ^ 31) (hb : b < 2 ^ 31) : w_cmp .lt (nI a) (nI b) ↔ a < b := by
  simp only [w_cmp, nI_toInt ha, nI_toInt hb]; omega
theorem q_ge {a b : Nat} (ha : a < 2 ^ 31) (hb : b < 2 ^ 31) : w_cmp .ge (nI a) (nI b) ↔ b ≤ a := by
  simp only [w_cmp, nI_toInt ha, nI_toInt hb]; omega
theorem q_gt {a b : Nat} (ha : a < 2 ^ 31) (hb : b < 2 ^ 31) : w_cmp .gt (nI a) (nI b) ↔ b < a := by
  simp only [w_cmp, nI_toInt ha, nI_toInt hb]; omega
theorem q_le {a b : Nat} (ha : a < 2 ^ 31) (hb : b < 2 ^ 31) : w_cmp .le (nI a) (nI b) ↔ a ≤ b := by
  simp only [w_cmp, nI_toInt ha, nI_toInt hb]; omega
theorem q_eq {a b : Nat} (ha : a < 2 ^ 31) (hb : b < 2 ^ 31) : w_cmp .eq (nI a) (nI b) ↔ a = b := nI_eq ha hb
theorem q_ne {a b : Nat} (ha : a < 2 ^ 31) (hb : b < 2 ^ 31) : w_cmp .ne (nI a) (nI b) ↔ a ≠ b := not_congr (nI_eq ha hb)
theorem q_lt0 {a : Nat} (ha : a < 2 ^ 31) : ¬ w_cmp .lt (nI a) 0 := by
  simp only [w_cmp, nI_toInt ha, Int32.toInt_zero]; omega
theorem q_ge0 {a : Nat} (ha : a < 2 ^ 31) : w_cmp .ge (nI a) 0 := by
  simp only [w_cmp, nI_toInt ha, Int32.toInt_zero]; omega
theorem q_eq0 {a : Nat} (ha : a < 2 ^ 31) : w_cmp .eq (nI a) 0 ↔ a = 0 := by rw [← nI_0]; exact nI_eq ha (by decide)
theorem q_ne0 {a : Nat} (ha : a < 2 ^ 31) : w_cmp .ne (nI a) 0 ↔ a ≠ 0 := not_congr (q_eq0 ha)
theorem q_gt0 {a : Nat} (ha : a < 2 ^ 31) : w_cmp .gt (nI a) 0 ↔ 0 < a := by
  simp only [w_cmp, nI_toInt ha, Int32.toInt_zero]; omega
theorem q_le0 {a : Nat} (ha : a < 2 ^ 31) : w_cmp .le (nI a) 0 ↔ a = 0 := by
  simp only [w_cmp, nI_toInt ha, Int32.toInt_zero]; omega
/-- the listed locals are held -/
def w_sub (lv lv1 : w_L) : Prop := match lv1 with
  | [] => True
  | q :: r => v_get lv q.1 = some q.2 ∧ w_sub lv r
theorem w_sub_mem : ∀ {lv lv1 : w_L}, w_sub lv lv1 → ∀ q ∈ lv1, v_get lv q.1 = some q.2
  | _, [], _, q, hq => by cases hq
  | lv, p :: r, h, q, hq => by
    rcases List.mem_cons.mp hq with rfl | hq
    · exact h.1
    · exact w_sub_mem h.2 q hq
theorem w_sub_has {ls : Array Slot} {nL : Nat} {lv lv1 : w_L} (h : w_sub lv lv1) (hl : lv_has ls nL lv) : lv_has ls nL lv1 := ⟨hl.1, hl.2.1, fun q hq => v_get_at hl (w_sub_mem h q hq)⟩
theorem k_sub {l : Launch} {D : va_G} {aC : Nat → ClassId} {own : String} {cc : ByteArray} {nL fr lo : Nat} {ret : Option FieldType} {hs : List w_Hd} {init : Bool} {scr : Option (Nat × Nat × (Nat → Int32))} {MC MS : Nat} {g0 : g_H} {P : x_O → g_H → Prop} {pc : Nat} {lv lv1 : w_L} {st : List Value} {g : g_H} {k n : Nat} (h : w_sub lv lv1)
    (hT : k_T l D aC own cc nL fr lo ret hs init scr MC MS g0 P pc lv1 st g k n) : k_T l D aC own cc nL fr lo ret hs init scr MC MS g0 P pc lv st g k n :=
  fun p e s m args below meth c hX H locs ls hl hok hS => hT p e s m args below meth c hX H locs ls (w_sub_has h hl) hok hS
/-- it returns v, the ghost heap is g2 then; it throws -/
abbrev rt (v : Option Value) (g2 : g_H) : x_O → g_H → Prop := fun oc g1 => oc = .inl v ∧ g1 = g2
abbrev th (C : String) (g2 : g_H) : x_O → g_H → Prop := fun oc g1 => oc = .inr C ∧ g1 = g2
theorem k_rl {v : Option Value} {g2 : g_H} {Q : Option Value → g_H → Prop} (h : Q v g2) : ∀ v1 g1, rt v g2 (.inl v1) g1 → Q v1 g1 := by
  rintro v1 g1 ⟨h1, rfl⟩
  cases h1
  exact h
theorem k_rr {v : Option Value} {g2 : g_H} {Q : String → g_H → Prop} : ∀ C g1, rt v g2 (.inr C) g1 → Q C g1 := by
  rintro C g1 ⟨h1, -⟩
  cases h1
theorem k_tl {C : String} {g2 : g_H} {Q : Option Value → g_H → Prop} : ∀ v1 g1, th C g2 (.inl v1) g1 → Q v1 g1 := by
  rintro v1 g1 ⟨h1, -⟩
  cases h1
theorem k_tr {C : String} {g2 : g_H} {Q : String → g_H → Prop} (h : Q C g2) : ∀ C1 g1, th C g2 (.inr C1) g1 → Q C1 g1 := by
  rintro C1 g1 ⟨h1, rfl⟩
  cases h1
  exact h
/-- a byte as the machine holds it -/
def sx (b : Nat) : Int32 := (nI b).toInt8.toInt32
theorem sx_and {b : Nat} (h : b < 256) : sx b &&& nI 255 = nI b := sc_k8 b h
theorem sx_inj {a b : Nat} (ha : a < 256) (hb : b < 256) : sx a = sx b ↔ a = b := by
  refine ⟨fun h => ?_, fun h => by rw [h]⟩
  have h1 := sx_and ha
  rw [h, sx_and hb] at h1
  exact ((nI_eq (by omega) (by omega)).mp h1).symm
theorem sx_small {b : Nat} (h : b < 128) : sx b = nI b := by
  have : ∀ b, b < 128 → sx b = nI b := by decide +kernel
  exact this b h
theorem sx_fits (b : Nat) : fits .byte (.int (sx b)) = true := pk_fb (nI b)
theorem sx_47 {b : Nat} (h : b < 256) : sx b = nI 47 ↔ b = 47 := by rw [← sx_small (by decide : 47 < 128), sx_inj h (by decide)]
theorem sx_46 {b : Nat} (h : b < 256) : sx b = nI 46 ↔ b = 46 := by rw [← sx_small (by decide : 46 < 128), sx_inj h (by decide)]
theorem sx_0 {b : Nat} (h : b < 256) : sx b = 0 ↔ b = 0 := by rw [← nI_0, ← sx_small (by decide : 0 < 128), sx_inj h (by decide)]
/-- an array of bytes -/
def isBy (g : g_H) (a : Nat) (L : List Nat) : Prop := ∃ f : Nat → Int32, g a = some (.inl (0, L.length, .inl f)) ∧ (∀ i, i < L.length → f i = sx (L.getD i 0)) ∧ (∀ b ∈ L, b < 256) ∧ L.length < 2 ^ 20
theorem getD_lt {L : List Nat} (h : ∀ b ∈ L, b < 256) {i : Nat} (hi : i < L.length) : L.getD i 0 < 256 := by
  rw [List.getD_eq_getElem?_getD, List.getElem?_eq_getElem hi]
  exact h _ (List.getElem_mem hi)
/-- what a place of a path ranks: the end, a slash, a byte -/
def rkb (b : Nat) : Int := if b = 47 then -1 else b
def rk (L : List Nat) (i : Nat) : Int := if i < L.length then rkb (L.getD i 0) else -2
def rk32 (x : Int) : Int32 := Int32.ofInt x
end KBASE
section KRANK
variable {l : Launch} {D : va_G} {aC : Nat → ClassId}
theorem c_P_rank (hfl : l.flags = pinnedFlags ++ [noTraceFlag]) {a : Nat} {L : List Nat} {g : g_H} (hL : isBy g a L) {i : Nat} (hi : i < 2 ^ 30) : k_CT l D aC n_P_rank 0 0 [.ref a, .int (nI i)] g (rt (some (.int (Int32.ofInt (rk L i)))) g) := by
  obtain ⟨f, h1, h2, h3, h4⟩ := hL
  refine k_line hfl n_P_rank ok_P_rank rfl rfl rfl rfl rfl rfl (fun h => by cases h) (Nat.le_of_ble_eq_true rfl) 30 ?_
  conv => whnf
  refine ⟨fun h => absurd h (q_lt0 (by omega)), fun _ => ?_⟩
  conv => whnf
  refine Or.inl ⟨_, _, h1, by decide, ?_⟩
  conv => whnf
  refine ⟨fun h => ?_, fun h => ?_⟩
  · have hil : i < L.length := (q_lt (by omega) (by omega)).mp h
    have hb := getD_lt h3 hil
    conv => whnf
    refine ⟨0, _, f, i, h1, rfl, rfl, hil, by omega, ?_⟩
    conv => whnf
    refine ⟨fun h => ?_, fun h => ?_⟩
    · have h47 : L.getD i 0 ≠ 47 := fun z => h (by rw [h2 i hil]; exact (sx_47 hb).mpr z)
      conv => whnf
      refine ⟨0, _, f, i, h1, rfl, rfl, hil, by omega, ?_⟩
      conv => whnf
      refine ⟨⟨_, rfl, rfl⟩, ⟨?_, rfl⟩, Nat.le_refl _, Nat.le_refl _⟩
      rw [h2 i hil]
      show Sum.inl (some (Value.int (sx (L.getD i 0) &&& nI 255))) = _
      rw [sx_and hb, rk, if_pos hil, rkb, if_neg h47]
      rfl
    · have h47 : L.getD i 0 = 47 := by
        have h9 : f i = nI 47 := Classical.not_not.mp h
        rw [h2 i hil] at h9
        exact (sx_47 hb).mp h9
      conv => whnf
      refine ⟨⟨_, rfl, rfl⟩, ⟨?_, rfl⟩, Nat.le_refl _, Nat.le_refl _⟩
      rw [rk, if_pos hil, rkb, if_pos h47]
      rfl
  · have hil : ¬ i < L.length := fun z => h ((q_lt (by omega) (by omega)).mpr z)
    conv => whnf
    refine ⟨⟨_, rfl, rfl⟩, ⟨?_, rfl⟩, Nat.le_refl _, Nat.le_refl _⟩
    rw [rk, if_neg hil]
    rfl
end KRANK
