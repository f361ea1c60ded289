/-! MirrorKeep$Tape: makeReady; MirrorKeep: feed -/
section READYP
/-- byte k of a word, the highest first -/
def by4 (x : Int32) (k : Nat) : Nat := x.toBitVec.toNat / 2 ^ (24 - 8 * k) % 256
theorem by4_lt (x : Int32) (k : Nat) : by4 x k < 256 := Nat.mod_lt _ (by decide)
theorem i8_low (y : Int32) : y.toInt8 = (nI (y.toBitVec.toNat % 256)).toInt8 := by
  apply Int8.toBitVec_inj.mp
  apply BitVec.eq_of_toNat_eq
  rw [Int32.toBitVec_toInt8, Int32.toBitVec_toInt8]
  rw [BitVec.signExtend_eq_setWidth_of_le _ (by decide), BitVec.signExtend_eq_setWidth_of_le _ (by decide), BitVec.toNat_setWidth, BitVec.toNat_setWidth]
  have : (nI (y.toBitVec.toNat % 256)).toBitVec.toNat = y.toBitVec.toNat % 256 := by
    show (BitVec.ofNat 32 (y.toBitVec.toNat % 256)).toNat = _
    rw [BitVec.toNat_ofNat]
    omega
  rw [this]
  omega
theorem ush_by {x : Int32} {i : Nat} (hi : i < 4) : ((x.toUInt32 >>> ((nI (24 - 8 * i)).toUInt32 &&& Int32.toUInt32 31)).toInt32).toInt8.toInt32 = sx (by4 x i) := by
  have h1 := pk_ushr x (nI (24 - 8 * i)) (24 - 8 * i) (by
    have : ∀ i, i < 4 → (((nI (24 - 8 * i)).toUInt32 &&& Int32.toUInt32 31).toBitVec % 32).toNat = 24 - 8 * i := by decide
    exact this i hi)
  rw [i8_low, h1]
  rfl
theorem shr_by {x : Int32} {i : Nat} (hi : i < 4) : (x >>> (nI (24 - 8 * i) &&& 31)) &&& nI 255 = nI (by4 x i) := by
  have h1 := pk_shr x (nI (24 - 8 * i) &&& 31) (24 - 8 * i) (by
    have : ∀ i, i < 4 → ((nI (24 - 8 * i) &&& 31).toBitVec.smod 32).toNat = 24 - 8 * i := by decide
    exact this i hi)
  rw [pk_and _ 8 (by decide), by4]
  congr 1
  generalize x >>> (nI (24 - 8 * i) &&& 31) = y at h1 ⊢
  have hy : y.toInt = y.toBitVec.toInt := rfl
  have hx : x.toInt = x.toBitVec.toInt := rfl
  rw [hy, hx, BitVec.toInt_eq_toNat_cond, BitVec.toInt_eq_toNat_cond, Int.shiftRight_eq_div_pow] at h1
  have b1 := y.toBitVec.isLt
  have b2 := x.toBitVec.isLt
  generalize y.toBitVec.toNat = Y at *
  generalize x.toBitVec.toNat = X at *
  have : i = 0 ∨ i = 1 ∨ i = 2 ∨ i = 3 := by omega
  rcases this with rfl | rfl | rfl | rfl <;> simp only [Nat.reduceMul, Nat.reduceSub, Nat.reducePow] at * <;> split at h1 <;> split at h1 <;> omega
/-- what is ready once these five words are fed -/
def rdy (f : Nat → Int32) : List Nat := (List.range 20).map (fun i => by4 (f (i / 4)) (i % 4))
theorem rdy_len (f : Nat → Int32) : (rdy f).length = 20 := by simp [rdy]
theorem rdy_at {f : Nat → Int32} {i : Nat} (h : i < 20) : (rdy f).getD i 0 = by4 (f (i / 4)) (i % 4) := by
  rw [rdy, List.getD_eq_getElem?_getD, List.getElem?_map, List.getElem?_range h]
  rfl
theorem rdy_lt (f : Nat → Int32) : ∀ b ∈ rdy f, b < 256 := by
  intro b hb
  simp only [rdy, List.mem_map] at hb
  obtain ⟨i, -, rfl⟩ := hb
  exact by4_lt _ _
end READYP
section READY
variable {l : Launch} {D : va_G} {aC : Nat → ClassId}
theorem c_T_makeReady (hfl : l.flags = pinnedFlags ++ [noTraceFlag]) {t rd bt w : Nat} {R T : List Nat} {fw : Nat → Int32} {g : g_H} (hT : isTp g t rd bt R T) (hw : g w = some (.inl (1, 5, .inl fw))) : k_CT l D aC n_T_makeReady 0 0 [.ref t, .ref w] g (fun oc g1 => oc = .inl none ∧ isTp g1 t rd bt (rdy fw) T ∧ fx [rd] g g1) := by
  obtain ⟨f, h, a1, a2, a3, a4, a5, a6, a7⟩ := hT
  have n1 : t ≠ rd := g_ne a1 a2 (by simp)
  have n3 : rd ≠ bt := g_ne a2 a3 (by simp)
  have n4 : w ≠ rd := g_ne hw a2 (by simp)
  refine k_while hfl n_T_makeReady ok_T_makeReady rfl rfl rfl rfl rfl rfl (fun h => by cases h) (Nat.le_of_ble_eq_true rfl) [2] (fun pc d lv g1 k n => ∃ i f1, pc = 2 ∧ d = 20 - i ∧ lv = [(0, .ref t), (1, .ref w), (2, .int (nI i))] ∧ g1 = g_up g rd (.inl (0, 20, .inl f1)) ∧ k = 0 ∧ n = 0 ∧ i ≤ 20 ∧ ∀ j, j < i → f1 j = sx (by4 (fw (j / 4)) (j % 4))) 60 ?_ 80 ?_
  · conv => whnf
    exact ⟨rfl, _, _, ⟨0, f, rfl, rfl, rfl, (g_up_id a2).symm, rfl, rfl, by omega, fun j hj => by omega⟩, rfl, rfl, rfl, trivial⟩
  · rintro d pc lv g1 k n ⟨i, f1, rfl, rfl, rfl, rfl, rfl, rfl, hi, hf⟩
    conv => whnf
    refine ⟨_, _, (by rw [g_up_n n1]; exact a1), rfl, ?_⟩
    conv => whnf
    refine Or.inl ⟨_, _, g_up_s, by decide, ?_⟩
    conv => whnf
    refine ⟨fun h1 => ?_, fun h1 => ?_⟩
    · have h9 : 20 ≤ i := (q_ge (by omega) (show (20 : Nat) < 2 ^ 31 by decide)).mp h1
      conv => whnf
      refine ⟨rfl, ?_, by first | omega | exact Nat.le_of_ble_eq_true rfl | (simp only [dl1, dl2, dl3, dl4, dl5, dl6]; omega), by first | omega | exact Nat.le_of_ble_eq_true rfl | (simp only [dl1, dl2, dl3, dl4, dl5, dl6]; omega)⟩
      refine ⟨rfl, ⟨f1, h, by rw [g_up_n n1]; exact a1, g_up_s, by rw [g_up_n n3.symm]; exact a3, rdy_len fw, fun j hj => ?_, rdy_lt fw, a7⟩, fx_up fx_rf (by simp)⟩
      rw [rdy_at hj]
      exact hf j (by omega)
    · have h9 : ¬ 20 ≤ i := fun z => h1 ((q_ge (by omega) (show (20 : Nat) < 2 ^ 31 by decide)).mpr z)
      have e1 : nI i / nI 4 = nI (i / 4) := pk_div (by omega) (by decide) (by decide)
      have e2 : nI i - nI i / nI 4 * nI 4 = nI (i % 4) := pk_rem (by omega) (by decide) (by decide)
      have e3 : nI 24 - nI 8 * (nI i - nI i / nI 4 * nI 4) = nI (24 - 8 * (i % 4)) := by
        rw [e2, pk_mul, pk_sub (by omega)]
      conv => whnf
      refine ⟨by decide, ?_⟩
      conv => whnf
      refine Or.inl ⟨_, _, (by rw [g_up_n n4]; exact hw), by decide, ?_⟩
      have hnb : ¬ w_cmp .ge (nI i / nI 4) (nI 5) := fun z => by
        rw [e1] at z
        exact absurd ((q_ge (by omega) (by decide)).mp z) (by omega)
      conv => whnf
      refine ⟨fun h => absurd h hnb, fun _ => ?_⟩
      conv => whnf
      refine ⟨_, _, (by rw [g_up_n n1]; exact a1), rfl, ?_⟩
      conv => whnf
      refine ⟨by decide, ?_⟩
      conv => whnf
      refine Or.inl ⟨1, _, _, i / 4, (by rw [g_up_n n4]; exact hw), rfl, e1, (by omega), by first | decide | omega, ?_⟩
      conv => whnf
      refine ⟨by decide, ?_⟩
      conv => whnf
      refine ⟨0, 20, f1, i, g_up_s, rfl, rfl, by omega, by decide, ?_⟩
      rw [g_up_up]
      conv => whnf
      refine ⟨rfl, _, _, ?_, ⟨i + 1, _, rfl, rfl, rfl, rfl, rfl, rfl, by omega, fun j hj => ?_⟩, rfl, rfl, sI i, trivial⟩
      · omega
      · by_cases h8 : j = i
        · subst h8
          rw [pk_us]
          have h5 : ∀ y : Int32, (y.toInt8.toInt32).toInt8.toInt32 = y.toInt8.toInt32 := fun y => by rw [Int8.toInt8_toInt32]
          refine (h5 _).trans ?_
          have h6 := ush_by (x := fw (j / 4)) (i := j % 4) (by omega)
          rw [← e3] at h6
          exact h6
        · rw [pk_un h8]
          exact hf j (by omega)
end READY
