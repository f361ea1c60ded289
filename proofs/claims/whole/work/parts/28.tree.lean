/-! MirrorKeep$Tree -/
section TREEP
/-- the place that an int names -/
def atI {α : Type} (L : List α) (x : Int32) : Option α := if x.toInt < 0 then none else L[x.toInt.toNat]?
theorem nI_ofT {x : Int32} (h : ¬ x.toInt < 0) : x = nI x.toInt.toNat ∧ x.toInt.toNat < 2 ^ 31 := by
  have h1 := Int32.toInt_lt x
  refine ⟨Int32.toInt_inj.mp ?_, by omega⟩
  rw [nI_toInt (by omega)]
  omega
theorem atI_nI {α : Type} {L : List α} {i : Nat} (h : i < 2 ^ 31) : atI L (nI i) = L[i]? := by
  rw [atI, nI_toInt h, if_neg (by omega)]
  rfl
def plc : List Ent → List Nat → Nat
  | [], _ => 0
  | E :: r, p => if cmpP E.1 p < 0 then plc r p + 1 else 0
theorem plc_le : ∀ (L : List Ent) (p : List Nat), plc L p ≤ L.length
  | [], _ => Nat.le_refl _
  | E :: r, p => by
    have := plc_le r p
    unfold plc
    split
    · simp only [List.length_cons]; omega
    · omega
theorem plc_eq : ∀ {L : List Ent} {p : List Nat} {i : Nat}, i ≤ L.length → (∀ j E, j < i → L[j]? = some E → cmpP E.1 p < 0) → (∀ E, L[i]? = some E → ¬ cmpP E.1 p < 0) → plc L p = i
  | [], p, i, h, _, _ => by simp only [List.length_nil] at h; unfold plc; omega
  | E :: r, p, 0, h, h1, h2 => by
    unfold plc
    rw [if_neg (h2 E rfl)]
  | E :: r, p, i + 1, h, h1, h2 => by
    unfold plc
    rw [if_pos (h1 0 E (by omega) rfl), plc_eq (i := i) (by simp only [List.length_cons] at h; omega) (fun j F hj hF => h1 (j + 1) F (by omega) (by simpa using hF)) (fun F hF => h2 F (by simpa using hF))]
def hld (L : List Ent) (i : Nat) (p : List Nat) : Bool := match L[i]? with
  | none => false
  | some E => decide (cmpP E.1 p = 0)
def idx (L : List Ent) (p : List Nat) : Int32 := if hld L (plc L p) p then nI (plc L p) else -1
def sumC (L : List Ent) : Nat := (L.map (fun E => (eC E).length)).sum
theorem sumC_take {L : List Ent} {i : Nat} {E : Ent} (h : L[i]? = some E) : sumC (L.take (i + 1)) = sumC (L.take i) + (eC E).length := by
  unfold sumC
  rw [List.take_add_one, h]
  simp
def putL (L : List Ent) (E : Ent) : List Ent := if hld L (plc L E.1) E.1 then L.set (plc L E.1) E else L.take (plc L E.1) ++ E :: L.drop (plc L E.1)
def dropL (L : List Ent) (p : List Nat) : List Ent := if hld L (plc L p) p then L.eraseIdx (plc L p) else L
def replL (L : List Ent) (o n : Option Ent) : List Ent := match n with
  | some E => putL L E
  | none => match o with
    | some F => dropL L F.1
    | none => L
def keepL (L : List Ent) (p : List Nat) : List Ent := L.filter (fun E => !isBel E.1 p)
/-- the tree t with its row a: these entries -/
def tr (U : List Nat) (g : g_H) (t a : Nat) (L : List Ent) : Prop := ∃ f : Nat → Option Nat, g t = some (.inr (2, [.ref a, .int (nI L.length)])) ∧ g a = some (.inl (3, 120, .inr (.inr (.inr (.inr f))))) ∧ L.length ≤ 120 ∧ ∀ i E, L[i]? = some E → ∃ b, f i = some b ∧ en U g b E
theorem tr_fx {S U : List Nat} {g g1 : g_H} {t a : Nat} {L : List Ent} (h : tr U g t a L) (h1 : fx S g g1) (hs : ∀ q ∈ S, q ∈ U) (ht : t ∉ S) (ha : a ∉ S) : tr U g1 t a L := by
  obtain ⟨f, a1, a2, a3, a4⟩ := h
  exact ⟨f, fx_at h1 a1 ht, fx_at h1 a2 ha, a3, fun i E hE => (a4 i E hE).imp fun b hb => ⟨hb.1, en_fx hb.2 h1 hs⟩⟩
theorem cmp_ge0 {c : Int} (h : -258 ≤ c) (h1 : c ≤ 258) : w_cmp .ge (Int32.ofInt c) 0 ↔ ¬ c < 0 := by
  show (0 : Int32).toInt ≤ (Int32.ofInt c).toInt ↔ _
  rw [Int32.toInt_ofInt_of_le (by omega) (by omega), Int32.toInt_zero]
  omega
theorem cmp_le0 {c : Int} (h : -258 ≤ c) (h1 : c ≤ 258) : w_cmp .le (Int32.ofInt c) 0 ↔ c ≤ 0 := by
  show (Int32.ofInt c).toInt ≤ (0 : Int32).toInt ↔ _
  rw [Int32.toInt_ofInt_of_le (by omega) (by omega), Int32.toInt_zero]
theorem cmp_gt0 {c : Int} (h : -258 ≤ c) (h1 : c ≤ 258) : w_cmp .gt (Int32.ofInt c) 0 ↔ 0 < c := by
  show (0 : Int32).toInt < (Int32.ofInt c).toInt ↔ _
  rw [Int32.toInt_ofInt_of_le (by omega) (by omega), Int32.toInt_zero]
theorem cmp_lt0 {c : Int} (h : -258 ≤ c) (h1 : c ≤ 258) : w_cmp .lt (Int32.ofInt c) 0 ↔ c < 0 := by
  show (Int32.ofInt c).toInt < (0 : Int32).toInt ↔ _
  rw [Int32.toInt_ofInt_of_le (by omega) (by omega), Int32.toInt_zero]
theorem cmp_ne0 {c : Int} (h : -258 ≤ c) (h1 : c ≤ 258) : w_cmp .ne (Int32.ofInt c) 0 ↔ c ≠ 0 := not_congr (ofInt_0 (by omega) (by omega))
theorem cmp_b {g : g_H} {p q : Nat} {L M : List Nat} (h : isBy g p L) (h1 : isBy g q M) : -258 ≤ cmpP L M ∧ cmpP L M ≤ 258 := cmpP_bound h.choose_spec.2.2.1 h1.choose_spec.2.2.1
end TREEP
section TREE
variable {l : Launch} {D : va_G} {aC : Nat → ClassId}
theorem c_R_init (hfl : l.flags = pinnedFlags ++ [noTraceFlag]) {U : List Nat} {t : Nat} {g : g_H} (h1 : g t = some (.inr (2, [.null, .int 0]))) : k_CT l D aC n_R_init 1 120 [.ref t] g (fun oc g1 => ∃ a, oc = .inl none ∧ g a = none ∧ tr U g1 t a [] ∧ fx [t] g g1) := by
  refine k_ln hfl n_R_init ok_R_init rfl rfl rfl rfl rfl rfl (fun _ => rfl) (Nat.le_of_ble_eq_true rfl) 60 ?_
  conv => whnf
  refine ⟨(Nat.le_of_ble_eq_true rfl), ?_⟩
  conv => whnf
  refine ⟨120, rfl, by decide, by decide, by decide, fun a ha => ?_⟩
  have n1 := g_nn h1 ha
  conv => whnf
  refine ⟨_, (by rw [g_up_n n1]; exact h1), by simp, rfl, rfl, ?_⟩
  conv => whnf
  refine ⟨_, g_up_s, by simp, rfl, rfl, ?_⟩
  conv => whnf
  refine ⟨rfl, ?_, by first | omega | exact Nat.le_of_ble_eq_true rfl | (simp only [dl1, dl2, dl3, dl4, dl5, dl6]; omega), by first | omega | exact Nat.le_of_ble_eq_true rfl | (simp only [dl1, dl2, dl3, dl4, dl5, dl6]; omega)⟩
  refine ⟨a, rfl, ha, ⟨fun _ => none, by rw [g_up_s]; rfl, ?_, by simp, fun i E h => by simp at h⟩, fx_up (fx_up (fx_new fx_rf ha) (by simp)) (by simp)⟩
  rw [g_up_n n1.symm, g_up_n n1.symm, g_up_s]
theorem c_R_size' (hfl : l.flags = pinnedFlags ++ [noTraceFlag]) {U : List Nat} {t a : Nat} {L : List Ent} {g : g_H} (h : tr U g t a L) : k_CT l D aC n_R_size 0 0 [.ref t] g (rt (some (.int (nI L.length))) g) := by
  obtain ⟨f, a1, -⟩ := h
  exact c_R_size hfl a1
theorem c_R_entryAt (hfl : l.flags = pinnedFlags ++ [noTraceFlag]) {U : List Nat} {t a : Nat} {L : List Ent} {x : Int32} {g : g_H} (h : tr U g t a L) : k_CT l D aC n_R_entryAt 0 0 [.ref t, .int x] g (fun oc g1 => g1 = g ∧ (atI L x = none ∧ oc = .inl (some .null) ∨ ∃ E b, atI L x = some E ∧ oc = .inl (some (.ref b)) ∧ en U g b E)) := by
  obtain ⟨f, a1, a2, a3, a4⟩ := h
  refine k_ln hfl n_R_entryAt ok_R_entryAt rfl rfl rfl rfl rfl rfl (fun h => by cases h) (Nat.le_of_ble_eq_true rfl) 60 ?_
  conv => whnf
  refine ⟨fun h => ?_, fun h => ?_⟩
  · have h : x.toInt < 0 := h
    conv => whnf
    refine ⟨⟨_, rfl, Or.inl ⟨_, rfl⟩⟩, ?_, by first | omega | exact Nat.le_of_ble_eq_true rfl | (simp only [dl1, dl2, dl3, dl4, dl5, dl6]; omega), by first | omega | exact Nat.le_of_ble_eq_true rfl | (simp only [dl1, dl2, dl3, dl4, dl5, dl6]; omega)⟩
    exact ⟨rfl, Or.inl ⟨by rw [atI, if_pos h], rfl⟩⟩
  · have h : ¬ x.toInt < 0 := h
    obtain ⟨hx, hlt⟩ := nI_ofT h
    have hat : atI L x = L[x.toInt.toNat]? := by rw [atI, if_neg h]
    rw [hat]
    generalize x.toInt.toNat = i at hx hlt
    subst hx
    conv => whnf
    refine ⟨_, _, a1, rfl, ?_⟩
    conv => whnf
    refine ⟨fun h1 => ?_, fun h1 => ?_⟩
    · have h2 := (q_lt (by omega) (by omega)).mp h1
      obtain ⟨b, hb, hE⟩ := a4 i _ (List.getElem?_eq_getElem h2)
      conv => whnf
      refine ⟨_, _, a1, rfl, ?_⟩
      conv => whnf
      refine ⟨_, _, _, i, _, a2, rfl, rfl, by omega, by omega, fun hN => ?_, fun b hB => ?_⟩
      · rw [hb] at hN; cases hN
      · rw [hb] at hB
        cases hB
        conv => whnf
        refine ⟨⟨_, rfl, Or.inl ⟨_, rfl⟩⟩, ?_, by first | omega | exact Nat.le_of_ble_eq_true rfl | (simp only [dl1, dl2, dl3, dl4, dl5, dl6]; omega), by first | omega | exact Nat.le_of_ble_eq_true rfl | (simp only [dl1, dl2, dl3, dl4, dl5, dl6]; omega)⟩
        exact ⟨rfl, Or.inr ⟨_, b, List.getElem?_eq_getElem h2, rfl, hE⟩⟩
    · have h2 : ¬ i < L.length := fun z => h1 ((q_lt (by omega) (by omega)).mpr z)
      conv => whnf
      refine ⟨⟨_, rfl, Or.inl ⟨_, rfl⟩⟩, ?_, by first | omega | exact Nat.le_of_ble_eq_true rfl | (simp only [dl1, dl2, dl3, dl4, dl5, dl6]; omega), by first | omega | exact Nat.le_of_ble_eq_true rfl | (simp only [dl1, dl2, dl3, dl4, dl5, dl6]; omega)⟩
      exact ⟨rfl, Or.inl ⟨List.getElem?_eq_none (by omega), rfl⟩⟩
theorem c_R_placeOf (hfl : l.flags = pinnedFlags ++ [noTraceFlag]) {U : List Nat} {t a p : Nat} {L : List Ent} {P : List Nat} {g : g_H} (h : tr U g t a L) (hp : isBy g p P) : k_CT l D aC n_R_placeOf 0 0 [.ref t, .ref p] g (rt (some (.int (nI (plc L P)))) g) := by
  obtain ⟨f, a1, a2, a3, a4⟩ := h
  refine k_while hfl n_R_placeOf ok_R_placeOf rfl rfl rfl rfl rfl rfl (fun h => by cases h) (Nat.le_of_ble_eq_true rfl) [2] (fun pc d lv g1 k n => ∃ i, pc = 2 ∧ d = L.length - i ∧ lv = [(0, .ref t), (1, .ref p), (2, .int (nI i))] ∧ g1 = g ∧ k = 0 ∧ n = 0 ∧ i ≤ L.length ∧ ∀ j E, j < i → L[j]? = some E → cmpP E.1 P < 0) 60 ?_ 80 ?_
  · conv => whnf
    exact ⟨rfl, _, _, ⟨0, rfl, rfl, rfl, rfl, rfl, rfl, by omega, fun j E hj => by omega⟩, rfl, rfl, rfl, trivial⟩
  · rintro d pc lv g1 k n ⟨i, rfl, rfl, rfl, rfl, rfl, rfl, hi, hj⟩
    conv => whnf
    refine ⟨_, _, a1, rfl, ?_⟩
    conv => whnf
    refine ⟨fun h => ?_, fun h => ?_⟩
    · have h9 := (q_ge (by omega) (by omega)).mp h
      conv => whnf
      refine ⟨⟨_, rfl, rfl⟩, ⟨?_, rfl⟩, by first | omega | exact Nat.le_of_ble_eq_true rfl | (simp only [dl1, dl2, dl3, dl4, dl5, dl6]; omega), by first | omega | exact Nat.le_of_ble_eq_true rfl | (simp only [dl1, dl2, dl3, dl4, dl5, dl6]; omega)⟩
      rw [plc_eq hi hj (fun E hE => by rw [List.getElem?_eq_none (by omega)] at hE; cases hE)]
    · have h9 : i < L.length := Nat.lt_of_not_le fun z => h ((q_ge (by omega) (by omega)).mpr z)
      obtain ⟨b, hb, hE⟩ := a4 i _ (List.getElem?_eq_getElem h9)
      obtain ⟨p1, c1, e1, e2, -⟩ := hE
      have hc := cmp_b e2 hp
      conv => whnf
      refine ⟨_, _, a1, rfl, ?_⟩
      conv => whnf
      refine ⟨_, _, _, i, _, a2, rfl, rfl, by omega, by omega, fun hN => ?_, fun b hB => ?_⟩
      · rw [hb] at hN; cases hN
      · rw [hb] at hB
        cases hB
        conv => whnf
        refine ⟨_, _, e1, rfl, ?_⟩
        conv => whnf
        refine ⟨(Nat.le_of_ble_eq_true rfl), _, _, _, c_P_compare hfl e2 hp, by first | omega | exact Nat.le_of_ble_eq_true rfl | (simp only [dl1, dl2, dl3, dl4, dl5, dl6]; omega), by first | omega | exact Nat.le_of_ble_eq_true rfl | (simp only [dl1, dl2, dl3, dl4, dl5, dl6]; omega), k_rl ?_, k_rr⟩
        conv => whnf
        refine ⟨fun h => ?_, fun h => ?_⟩
        · have h8 := (cmp_ge0 hc.1 hc.2).mp h
          conv => whnf
          refine ⟨⟨_, rfl, rfl⟩, ⟨?_, rfl⟩, by first | omega | exact Nat.le_of_ble_eq_true rfl | (simp only [dl1, dl2, dl3, dl4, dl5, dl6]; omega), by first | omega | exact Nat.le_of_ble_eq_true rfl | (simp only [dl1, dl2, dl3, dl4, dl5, dl6]; omega)⟩
          rw [plc_eq hi hj (fun E hE => by rw [List.getElem?_eq_getElem h9] at hE; cases hE; exact h8)]
        · have h8 : cmpP L[i].1 P < 0 := Classical.not_not.mp fun z => h ((cmp_ge0 hc.1 hc.2).mpr z)
          conv => whnf
          exact ⟨rfl, _, _, by omega, ⟨i + 1, rfl, rfl, rfl, rfl, rfl, rfl, by omega, fun j E hj1 hE => by
            by_cases h7 : j = i
            · rw [h7, List.getElem?_eq_getElem h9] at hE; cases hE; exact h8
            · exact hj j E (by omega) hE⟩, rfl, rfl, sI i, trivial⟩
theorem c_R_holds (hfl : l.flags = pinnedFlags ++ [noTraceFlag]) {U : List Nat} {t a p i : Nat} {L : List Ent} {P : List Nat} {g : g_H} (h : tr U g t a L) (hp : isBy g p P) (hi : i < 2 ^ 31) : k_CT l D aC n_R_holds 0 0 [.ref t, .int (nI i), .ref p] g (rt (some (.int (b2 (hld L i P)))) g) := by
  obtain ⟨f, a1, a2, a3, a4⟩ := h
  refine k_ln hfl n_R_holds ok_R_holds rfl rfl rfl rfl rfl rfl (fun h => by cases h) (Nat.le_of_ble_eq_true rfl) 60 ?_
  conv => whnf
  refine ⟨_, _, a1, rfl, ?_⟩
  conv => whnf
  refine ⟨fun h => ?_, fun h => ?_⟩
  · have h9 := (q_ge (by omega) (by omega)).mp h
    conv => whnf
    refine ⟨⟨_, rfl, rfl⟩, ⟨?_, rfl⟩, by first | omega | exact Nat.le_of_ble_eq_true rfl | (simp only [dl1, dl2, dl3, dl4, dl5, dl6]; omega), by first | omega | exact Nat.le_of_ble_eq_true rfl | (simp only [dl1, dl2, dl3, dl4, dl5, dl6]; omega)⟩
    rw [hld, List.getElem?_eq_none (by omega)]
    rfl
  · have h9 : i < L.length := Nat.lt_of_not_le fun z => h ((q_ge (by omega) (by omega)).mpr z)
    obtain ⟨b, hb, hE⟩ := a4 i _ (List.getElem?_eq_getElem h9)
    obtain ⟨p1, c1, e1, e2, -⟩ := hE
    have hc := cmp_b e2 hp
    conv => whnf
    refine ⟨_, _, a1, rfl, ?_⟩
    conv => whnf
    refine ⟨_, _, _, i, _, a2, rfl, rfl, by omega, by omega, fun hN => ?_, fun b hB => ?_⟩
    · rw [hb] at hN; cases hN
    · rw [hb] at hB
      cases hB
      conv => whnf
      refine ⟨_, _, e1, rfl, ?_⟩
      conv => whnf
      refine ⟨(Nat.le_of_ble_eq_true rfl), _, _, _, c_P_compare hfl e2 hp, by first | omega | exact Nat.le_of_ble_eq_true rfl | (simp only [dl1, dl2, dl3, dl4, dl5, dl6]; omega), by first | omega | exact Nat.le_of_ble_eq_true rfl | (simp only [dl1, dl2, dl3, dl4, dl5, dl6]; omega), k_rl ?_, k_rr⟩
      conv => whnf
      refine ⟨fun h => ?_, fun h => ?_⟩
      · have h8 := (cmp_ne0 hc.1 hc.2).mp h
        conv => whnf
        refine ⟨⟨_, rfl, rfl⟩, ⟨?_, rfl⟩, by first | omega | exact Nat.le_of_ble_eq_true rfl | (simp only [dl1, dl2, dl3, dl4, dl5, dl6]; omega), by first | omega | exact Nat.le_of_ble_eq_true rfl | (simp only [dl1, dl2, dl3, dl4, dl5, dl6]; omega)⟩
        rw [hld, List.getElem?_eq_getElem h9]
        show _ = Sum.inl (some (Value.int (b2 (decide (cmpP L[i].1 P = 0)))))
        rw [decide_eq_false h8]
        rfl
      · have h8 : cmpP L[i].1 P = 0 := Classical.not_not.mp fun z => h ((cmp_ne0 hc.1 hc.2).mpr z)
        conv => whnf
        refine ⟨⟨_, rfl, rfl⟩, ⟨?_, rfl⟩, by first | omega | exact Nat.le_of_ble_eq_true rfl | (simp only [dl1, dl2, dl3, dl4, dl5, dl6]; omega), by first | omega | exact Nat.le_of_ble_eq_true rfl | (simp only [dl1, dl2, dl3, dl4, dl5, dl6]; omega)⟩
        rw [hld, List.getElem?_eq_getElem h9]
        show _ = Sum.inl (some (Value.int (b2 (decide (cmpP L[i].1 P = 0)))))
        rw [decide_eq_true h8]
        rfl
theorem c_R_indexOf (hfl : l.flags = pinnedFlags ++ [noTraceFlag]) {U : List Nat} {t a p : Nat} {L : List Ent} {P : List Nat} {g : g_H} (h : tr U g t a L) (hp : isBy g p P) : k_CT l D aC n_R_indexOf 0 0 [.ref t, .ref p] g (rt (some (.int (idx L P))) g) := by
  have hle := plc_le L P
  have h0 := h
  obtain ⟨f, a1, a2, a3, a4⟩ := h
  refine k_ln hfl n_R_indexOf ok_R_indexOf rfl rfl rfl rfl rfl rfl (fun h => by cases h) (Nat.le_of_ble_eq_true rfl) 60 ?_
  conv => whnf
  refine ⟨⟨_, a1⟩, (Nat.le_of_ble_eq_true rfl), _, _, _, c_R_placeOf hfl h0 hp, by first | omega | exact Nat.le_of_ble_eq_true rfl | (simp only [dl1, dl2, dl3, dl4, dl5, dl6]; omega), by first | omega | exact Nat.le_of_ble_eq_true rfl | (simp only [dl1, dl2, dl3, dl4, dl5, dl6]; omega), k_rl ?_, k_rr⟩
  conv => whnf
  refine ⟨⟨_, a1⟩, (Nat.le_of_ble_eq_true rfl), _, _, _, c_R_holds hfl h0 hp (by omega), by first | omega | exact Nat.le_of_ble_eq_true rfl | (simp only [dl1, dl2, dl3, dl4, dl5, dl6]; omega), by first | omega | exact Nat.le_of_ble_eq_true rfl | (simp only [dl1, dl2, dl3, dl4, dl5, dl6]; omega), k_rl ?_, k_rr⟩
  unfold idx
  cases hh : hld L (plc L P) P
  · conv => whnf
    refine ⟨fun _ => ?_, fun h => absurd b2_f h⟩
    conv => whnf
    refine ⟨⟨_, rfl, rfl⟩, ⟨rfl, rfl⟩, by first | omega | exact Nat.le_of_ble_eq_true rfl | (simp only [dl1, dl2, dl3, dl4, dl5, dl6]; omega), by first | omega | exact Nat.le_of_ble_eq_true rfl | (simp only [dl1, dl2, dl3, dl4, dl5, dl6]; omega)⟩
  · conv => whnf
    refine ⟨fun h => absurd h b2_t, fun _ => ?_⟩
    conv => whnf
    refine ⟨⟨_, rfl, rfl⟩, ⟨rfl, rfl⟩, by first | omega | exact Nat.le_of_ble_eq_true rfl | (simp only [dl1, dl2, dl3, dl4, dl5, dl6]; omega), by first | omega | exact Nat.le_of_ble_eq_true rfl | (simp only [dl1, dl2, dl3, dl4, dl5, dl6]; omega)⟩
theorem c_R_contentLength (hfl : l.flags = pinnedFlags ++ [noTraceFlag]) {U : List Nat} {t a : Nat} {L : List Ent} {g : g_H} (h : tr U g t a L) : k_CT l D aC n_R_contentLength 0 0 [.ref t] g (rt (some (.int (nI (sumC L)))) g) := by
  obtain ⟨f, a1, a2, a3, a4⟩ := h
  refine k_while hfl n_R_contentLength ok_R_contentLength rfl rfl rfl rfl rfl rfl (fun h => by cases h) (Nat.le_of_ble_eq_true rfl) [4] (fun pc d lv g1 k n => ∃ i, pc = 4 ∧ d = L.length - i ∧ lv = [(0, .ref t), (1, .int (nI (sumC (L.take i)))), (2, .int (nI i))] ∧ g1 = g ∧ k = 0 ∧ n = 0 ∧ i ≤ L.length) 60 ?_ 80 ?_
  · conv => whnf
    exact ⟨rfl, _, _, ⟨0, rfl, rfl, rfl, rfl, rfl, rfl, by omega⟩, rfl, rfl, rfl, trivial⟩
  · rintro d pc lv g1 k n ⟨i, rfl, rfl, rfl, rfl, rfl, rfl, hi⟩
    conv => whnf
    refine ⟨_, _, a1, rfl, ?_⟩
    conv => whnf
    refine ⟨fun h => ?_, fun h => ?_⟩
    · have h9 := (q_ge (by omega) (by omega)).mp h
      conv => whnf
      refine ⟨⟨_, rfl, rfl⟩, ⟨?_, rfl⟩, by first | omega | exact Nat.le_of_ble_eq_true rfl | (simp only [dl1, dl2, dl3, dl4, dl5, dl6]; omega), by first | omega | exact Nat.le_of_ble_eq_true rfl | (simp only [dl1, dl2, dl3, dl4, dl5, dl6]; omega)⟩
      rw [List.take_of_length_le h9]
    · have h9 : i < L.length := Nat.lt_of_not_le fun z => h ((q_ge (by omega) (by omega)).mpr z)
      have hE1 := List.getElem?_eq_getElem h9
      obtain ⟨b, hb, hE⟩ := a4 i _ hE1
      obtain ⟨p1, c1, e1, e2, ⟨f3, e3, e4⟩, -⟩ := hE
      conv => whnf
      refine ⟨_, _, a1, rfl, ?_⟩
      conv => whnf
      refine ⟨_, _, _, i, _, a2, rfl, rfl, by omega, by omega, fun hN => ?_, fun b hB => ?_⟩
      · rw [hb] at hN; cases hN
      · rw [hb] at hB
        cases hB
        conv => whnf
        refine ⟨_, _, e1, rfl, ?_⟩
        conv => whnf
        refine Or.inl ⟨_, _, e3, by decide, ?_⟩
        conv => whnf
        exact ⟨rfl, _, _, by omega, ⟨i + 1, rfl, rfl, rfl, rfl, rfl, rfl, by omega⟩, rfl, by rw [sumC_take hE1, ← nI_add]; rfl, sI i, trivial⟩
end TREE
