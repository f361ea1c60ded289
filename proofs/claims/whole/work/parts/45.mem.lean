/-! MirrorKeepModel: its memory: arrays A 1 .. A 15 (many, bytes, kinds, modes, times, paths, contentAt, contents, path, content, ready, tape, sessionTime, sessionChanges, chosen), ints F 0 .. F 8 (thrown, taped, state, operations, changes, sessions, begun, isChosen, chosenMany) -/
section MM
abbrev mA : Type := Nat → Nat → Int32
abbrev mF : Type := Nat → Int32
abbrev mo (am : Nat → Nat) (F : mF) : g_C := .inr (7, [.int (F 0), .ref (am 1), .ref (am 2), .ref (am 3), .ref (am 4), .ref (am 5), .ref (am 6), .ref (am 7), .ref (am 8), .ref (am 9), .ref (am 10), .ref (am 11), .ref (am 12), .int (F 1), .int (F 2), .int (F 3), .int (F 4), .int (F 5), .int (F 6), .ref (am 13), .ref (am 14), .int (F 7), .int (F 8), .ref (am 15)])
def mlen : Nat → Nat
  | 1 => 46
  | 2 => 46
  | 3 => 5520
  | 4 => 5520
  | 5 => 5520
  | 6 => 5520
  | 7 => 5520
  | 8 => 5520
  | 9 => 828000
  | 10 => 368000
  | 11 => 20
  | 12 => 400
  | 13 => 40
  | 14 => 40
  | 15 => 150
  | _ => 0
abbrev ac (n : Nat) (f : Nat → Int32) : g_C := .inl (1, n, .inl f)
def mg (am : Nat → Nat) (A : mA) (F : mF) (g : g_H) : Prop := inj16 am ∧ g (am 0) = some (mo am F) ∧ ∀ i, 0 < i → i < 16 → g (am i) = some (ac (mlen i) (A i))
variable {am : Nat → Nat} {A A1 A2 : mA} {F : mF} {g g1 : g_H}
theorem mg.z (h : mg am A F g) : g (am 0) = some (mo am F) := h.2.1
theorem mg.a1 (h : mg am A F g) : g (am 1) = some (ac 46 (A 1)) := h.2.2 1 (by decide) (by decide)
theorem mg.a2 (h : mg am A F g) : g (am 2) = some (ac 46 (A 2)) := h.2.2 2 (by decide) (by decide)
theorem mg.a3 (h : mg am A F g) : g (am 3) = some (ac 5520 (A 3)) := h.2.2 3 (by decide) (by decide)
theorem mg.a4 (h : mg am A F g) : g (am 4) = some (ac 5520 (A 4)) := h.2.2 4 (by decide) (by decide)
theorem mg.a5 (h : mg am A F g) : g (am 5) = some (ac 5520 (A 5)) := h.2.2 5 (by decide) (by decide)
theorem mg.a6 (h : mg am A F g) : g (am 6) = some (ac 5520 (A 6)) := h.2.2 6 (by decide) (by decide)
theorem mg.a7 (h : mg am A F g) : g (am 7) = some (ac 5520 (A 7)) := h.2.2 7 (by decide) (by decide)
theorem mg.a8 (h : mg am A F g) : g (am 8) = some (ac 5520 (A 8)) := h.2.2 8 (by decide) (by decide)
theorem mg.a9 (h : mg am A F g) : g (am 9) = some (ac 828000 (A 9)) := h.2.2 9 (by decide) (by decide)
theorem mg.a10 (h : mg am A F g) : g (am 10) = some (ac 368000 (A 10)) := h.2.2 10 (by decide) (by decide)
theorem mg.a11 (h : mg am A F g) : g (am 11) = some (ac 20 (A 11)) := h.2.2 11 (by decide) (by decide)
theorem mg.a12 (h : mg am A F g) : g (am 12) = some (ac 400 (A 12)) := h.2.2 12 (by decide) (by decide)
theorem mg.a13 (h : mg am A F g) : g (am 13) = some (ac 40 (A 13)) := h.2.2 13 (by decide) (by decide)
theorem mg.a14 (h : mg am A F g) : g (am 14) = some (ac 40 (A 14)) := h.2.2 14 (by decide) (by decide)
theorem mg.a15 (h : mg am A F g) : g (am 15) = some (ac 150 (A 15)) := h.2.2 15 (by decide) (by decide)
def uA (A : mA) (i : Nat) (f : Nat → Int32) : mA := fun k => if k = i then f else A k
def uF (F : mF) (i : Nat) (x : Int32) : mF := fun k => if k = i then x else F k
theorem uA_s {i : Nat} {f : Nat → Int32} : uA A i f i = f := if_pos rfl
theorem uA_n {i k : Nat} {f : Nat → Int32} (h : k ≠ i) : uA A i f k = A k := if_neg h
theorem uF_s {i : Nat} {x : Int32} : uF F i x i = x := if_pos rfl
theorem uF_n {i k : Nat} {x : Int32} (h : k ≠ i) : uF F i x k = F k := if_neg h
theorem mg_up (h : mg am A F g) {i : Nat} (h0 : 0 < i) (hi : i < 16) {f : Nat → Int32} : mg am (uA A i f) F (g_up g (am i) (ac (mlen i) f)) := by
  obtain ⟨hj, h1, h2⟩ := h
  have hn : ∀ k, k < 16 → k ≠ i → am k ≠ am i := fun k hk hne z => hne (hj k i hk hi z)
  refine ⟨hj, by rw [g_up_n (hn 0 (by decide) (by omega))]; exact h1, fun k hk hk2 => ?_⟩
  by_cases hki : k = i
  · subst hki
    rw [g_up_s, uA_s]
  · rw [g_up_n (hn k hk2 hki), uA_n hki]
    exact h2 k hk hk2
theorem mg_z (h : mg am A F g) {F1 : mF} : mg am A F1 (g_up g (am 0) (mo am F1)) := by
  obtain ⟨hj, h1, h2⟩ := h
  refine ⟨hj, g_up_s, fun k hk hk2 => ?_⟩
  rw [g_up_n (fun z => by have := hj k 0 hk2 (by decide) z; omega)]
  exact h2 k hk hk2
theorem mg_fx (h : mg am A F g) (hf : fx [] g g1) : mg am A F g1 := ⟨h.1, fx_at hf h.2.1 (by simp), fun k hk hk2 => fx_at hf (h.2.2 k hk hk2) (by simp)⟩
theorem mg_fx2 {S : List Nat} (h : mg am A F g) (hf : fx S g g1) (hd : ∀ i, i < 16 → am i ∉ S) : mg am A F g1 := ⟨h.1, fx_at hf h.2.1 (hd 0 (by decide)), fun k hk hk2 => fx_at hf (h.2.2 k hk hk2) (hd k hk2)⟩
/-- only what W names may differ -/
def dif (A A1 : mA) (W : Nat → Nat → Prop) : Prop := ∀ r q, ¬ W r q → A1 r q = A r q
theorem dif_rf {W : Nat → Nat → Prop} : dif A A W := fun _ _ _ => rfl
theorem dif_tr {W : Nat → Nat → Prop} (h : dif A A1 W) (h1 : dif A1 A2 W) : dif A A2 W := fun r q hw => (h1 r q hw).trans (h r q hw)
theorem dif_mono {W V : Nat → Nat → Prop} (h : dif A A1 W) (hv : ∀ r q, W r q → V r q) : dif A A1 V := fun r q hw => h r q (fun z => hw (hv r q z))
theorem dif_up {W : Nat → Nat → Prop} (h : dif A A1 W) {r q : Nat} {x : Int32} (hw : W r q) : dif A (uA A1 r (upd (A1 r) q x)) W := fun r1 q1 hn => by
  by_cases hr : r1 = r
  · subst hr
    rw [uA_s]
    by_cases hq : q1 = q
    · subst hq; exact absurd hw hn
    · rw [pk_un hq]; exact h r1 q1 hn
  · rw [uA_n hr]; exact h r1 q1 hn
/-- what tree t may hold; what an entry at slot b with its content from B on may -/
def Wt (t r q : Nat) : Prop := ((r = 1 ∨ r = 2) ∧ q = t) ∨ (3 ≤ r ∧ r ≤ 8 ∧ 120 * t ≤ q ∧ q < 120 * t + 120) ∨ (r = 9 ∧ 18000 * t ≤ q ∧ q < 18000 * t + 18000) ∨ (r = 10 ∧ 8000 * t ≤ q ∧ q < 8000 * t + 8000)
def Wb (b t B r q : Nat) : Prop := ((r = 1 ∨ r = 2) ∧ q = t) ∨ (3 ≤ r ∧ r ≤ 8 ∧ q = b) ∨ (r = 9 ∧ 150 * b ≤ q ∧ q < 150 * b + 150) ∨ (r = 10 ∧ 8000 * t + B ≤ q ∧ q < 8000 * t + 8000)
theorem Wb_t {b t B r q i : Nat} (hb : b = 120 * t + i) (hi : i < 120) (h : Wb b t B r q) : Wt t r q := by
  unfold Wb at h
  unfold Wt
  omega
/-- the entry at slot a of tree t, its content from c on -/
def sl (A : mA) (t a c : Nat) (E : Ent) : Prop := A 3 a = E.2.1 ∧ A 4 a = E.2.2.1 ∧ A 5 a = E.2.2.2.1 ∧ A 6 a = nI E.1.length ∧ A 7 a = nI c ∧ A 8 a = nI (eC E).length ∧ (∀ k, k < E.1.length → A 9 (150 * a + k) = nI (E.1.getD k 0)) ∧ ∀ k, k < (eC E).length → A 10 (8000 * t + c + k) = nI ((eC E).getD k 0)
def enB (E : Ent) : Prop := E.1.length ≤ 150 ∧ (∀ b ∈ E.1, b < 256) ∧ ∀ b ∈ eC E, b < 256
def tm (A : mA) (t : Nat) (L : List Ent) : Prop := A 1 t = nI L.length ∧ A 2 t = nI (sumC L) ∧ L.length ≤ 120 ∧ sumC L ≤ 8000 ∧ ∀ i E, L[i]? = some E → enB E ∧ sl A t (120 * t + i) (sumC (L.take i)) E
theorem sumC_le {L : List Ent} {i : Nat} {E : Ent} (h : L[i]? = some E) : sumC (L.take i) + (eC E).length ≤ sumC L := by
  rw [← sumC_take h]
  have h2 : sumC L = sumC (L.take (i + 1)) + sumC (L.drop (i + 1)) := by
    unfold sumC
    rw [← List.sum_append_nat, ← List.map_append, List.take_append_drop]
  omega
theorem sl_dif {W : Nat → Nat → Prop} {t a c : Nat} {E : Ent} (h : sl A t a c E) (hd : dif A A1 W) (h1 : ∀ r, 3 ≤ r → r ≤ 8 → ¬ W r a) (h2 : ∀ k, k < E.1.length → ¬ W 9 (150 * a + k)) (h3 : ∀ k, k < (eC E).length → ¬ W 10 (8000 * t + c + k)) : sl A1 t a c E := by
  obtain ⟨a1, a2, a3, a4, a5, a6, a7, a8⟩ := h
  refine ⟨(hd _ _ (h1 3 (by omega) (by omega))).trans a1, (hd _ _ (h1 4 (by omega) (by omega))).trans a2, (hd _ _ (h1 5 (by omega) (by omega))).trans a3, (hd _ _ (h1 6 (by omega) (by omega))).trans a4, (hd _ _ (h1 7 (by omega) (by omega))).trans a5, (hd _ _ (h1 8 (by omega) (by omega))).trans a6, fun k hk => (hd _ _ (h2 k hk)).trans (a7 k hk), fun k hk => (hd _ _ (h3 k hk)).trans (a8 k hk)⟩
theorem tm_dif {t s : Nat} {L : List Ent} (h : tm A s L) (hd : dif A A1 (Wt t)) (hn : s ≠ t) : tm A1 s L := by
  obtain ⟨a1, a2, a3, a4, a5⟩ := h
  refine ⟨(hd _ _ (by unfold Wt; omega)).trans a1, (hd _ _ (by unfold Wt; omega)).trans a2, a3, a4, fun i E hE => ⟨(a5 i E hE).1, ?_⟩⟩
  have hi := (List.getElem?_eq_some_iff.mp hE).1
  have hs := sumC_le hE
  have hp := (a5 i E hE).1.1
  refine sl_dif (a5 i E hE).2 hd (fun r _ _ => by unfold Wt; omega) (fun k hk => by unfold Wt; omega) (fun k hk => by unfold Wt; omega)
theorem ix1 (a b c : Nat) : nI a * nI b + nI c = nI (a * b + c) := by rw [pk_mul, nI_add]
theorem ix2 (a b c d : Nat) : nI a * nI b + nI c + nI d = nI (a * b + c + d) := by rw [pk_mul, nI_add, nI_add]
end MM
section MM2
variable {am : Nat → Nat} {A : mA} {F : mF} {g : g_H}
variable {l : Launch} {D : va_G} {aC : Nat → ClassId}
theorem c_M_place (hfl : l.flags = pinnedFlags ++ [noTraceFlag]) {t i : Nat} : k_CT l D aC n_M_place 0 0 [.int (nI t), .int (nI i)] g (rt (some (.int (nI (120 * t + i)))) g) := by
  refine k_ln hfl n_M_place ok_M_place rfl rfl rfl rfl rfl rfl (fun h => by cases h) (Nat.le_of_ble_eq_true rfl) 60 ?_
  conv => whnf
  refine ⟨⟨_, rfl, rfl⟩, ⟨congrArg (fun z => Sum.inl (some (Value.int z))) (ix1 120 t i), rfl⟩, by first | omega | exact Nat.le_of_ble_eq_true rfl | (simp only [dl1, dl2, dl3, dl4, dl5, dl6]; omega), by first | omega | exact Nat.le_of_ble_eq_true rfl | (simp only [dl1, dl2, dl3, dl4, dl5, dl6]; omega)⟩
theorem c_M_empty (hfl : l.flags = pinnedFlags ++ [noTraceFlag]) (h : mg am A F g) {t : Nat} (ht : t < 46) : k_CT l D aC n_M_empty 0 0 [.ref (am 0), .int (nI t)] g (fun oc g1 => oc = .inl none ∧ fx (UU am) g g1 ∧ ∃ A1, mg am A1 F g1 ∧ dif A A1 (Wt t) ∧ tm A1 t []) := by
  refine k_ln hfl n_M_empty ok_M_empty rfl rfl rfl rfl rfl rfl (fun h => by cases h) (Nat.le_of_ble_eq_true rfl) 60 ?_
  conv => whnf
  refine ⟨_, _, h.z, rfl, ?_⟩
  conv => whnf
  refine ⟨1, _, _, t, h.a1, rfl, rfl, by omega, by first | decide | omega, ?_⟩
  have h1 := mg_up h (i := 1) (by decide) (by decide) (f := upd (A 1) t (nI 0))
  conv => whnf
  refine ⟨_, _, h1.z, rfl, ?_⟩
  conv => whnf
  refine ⟨1, _, _, t, h1.a2, rfl, rfl, by omega, by first | decide | omega, ?_⟩
  have h2 := mg_up h1 (i := 2) (by decide) (by decide) (f := upd (uA A 1 (upd (A 1) t (nI 0)) 2) t (nI 0))
  conv => whnf
  refine ⟨rfl, ?_, by first | omega | exact Nat.le_of_ble_eq_true rfl | (simp only [dl1, dl2, dl3, dl4, dl5, dl6]; omega), by first | omega | exact Nat.le_of_ble_eq_true rfl | (simp only [dl1, dl2, dl3, dl4, dl5, dl6]; omega)⟩
  refine ⟨rfl, fx_up (fx_up fx_rf (iUU rfl)) (iUU rfl), _, h2, dif_up (dif_up dif_rf (by unfold Wt; omega)) (by unfold Wt; omega), ?_, ?_, by simp, by simp [sumC], fun i E hE => by simp at hE⟩
  · rw [uA_n (by decide), uA_s, pk_us]; rfl
  · rw [uA_s, pk_us]; rfl
end MM2
