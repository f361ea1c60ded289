/-! MirrorKeep$Changes -/
section CHP
abbrev Chg : Type := Option Ent × Option Ent
def oR (U : List Nat) (g : g_H) (x : Option Nat) (o : Option Ent) : Prop := match o with
  | none => x = none
  | some E => ∃ b, x = some b ∧ en U g b E
theorem oR_fx {S U : List Nat} {g g1 : g_H} {x : Option Nat} {o : Option Ent} (h : oR U g x o) (h1 : fx S g g1) (hs : ∀ q ∈ S, q ∈ U) : oR U g1 x o := by
  cases o with
  | none => exact h
  | some E =>
    obtain ⟨b, hv, hE⟩ := h
    exact ⟨b, hv, en_fx hE h1 hs⟩
/-- the rows c, oa (what was), na (what is to be): these changes -/
def chs (U : List Nat) (g : g_H) (c oa na : Nat) (X : List Chg) : Prop := ∃ fo fn : Nat → Option Nat, g c = some (.inr (4, [.ref oa, .ref na, .int (nI X.length)])) ∧ g oa = some (.inl (3, 180, .inr (.inr (.inr (.inr fo))))) ∧ g na = some (.inl (3, 180, .inr (.inr (.inr (.inr fn))))) ∧ oa ≠ na ∧ X.length ≤ 180 ∧ ∀ i x, X[i]? = some x → oR U g (fo i) x.1 ∧ oR U g (fn i) x.2
theorem chs_fx {S U : List Nat} {g g1 : g_H} {c oa na : Nat} {X : List Chg} (h : chs U g c oa na X) (h1 : fx S g g1) (hs : ∀ q ∈ S, q ∈ U) (hc : c ∉ S) (ho : oa ∉ S) (hn : na ∉ S) : chs U g1 c oa na X := by
  obtain ⟨fo, fn, a1, a2, a3, a4, a5, a6⟩ := h
  exact ⟨fo, fn, fx_at h1 a1 hc, fx_at h1 a2 ho, fx_at h1 a3 hn, a4, a5, fun i x hx => ⟨oR_fx (a6 i x hx).1 h1 hs, oR_fx (a6 i x hx).2 h1 hs⟩⟩
theorem isBy_inj {g : g_H} {a : Nat} {L M : List Nat} (h : isBy g a L) (h1 : isBy g a M) : L = M := by
  obtain ⟨f, a1, a2, a3, -⟩ := h
  obtain ⟨f1, b1, b2', b3, -⟩ := h1
  rw [a1] at b1
  have h5 : L.length = M.length ∧ f = f1 := by
    injection b1 with b1
    injection b1 with b1
    injection b1 with _ b1
    injection b1 with b1 b4
    injection b4 with b4
    exact ⟨b1, b4⟩
  refine list_ext0 h5.1 (fun i hi => ?_)
  refine (sx_inj (getD_lt a3 hi) (getD_lt b3 (by omega))).mp ?_
  rw [← a2 i hi, ← b2' i (by omega), h5.2]
theorem en_inj {U : List Nat} {g : g_H} {b : Nat} {E F : Ent} (h : en U g b E) (h1 : en U g b F) : E = F := by
  obtain ⟨p, c, a1, a2, a3, -⟩ := h
  obtain ⟨p1, c1, b1, b2', b3, -⟩ := h1
  rw [a1] at b1
  simp only [Option.some.injEq, Sum.inr.injEq, Prod.mk.injEq, List.cons.injEq, Value.ref.injEq, Value.int.injEq, true_and, and_true] at b1
  obtain ⟨rfl, h2, h3, h4, rfl⟩ := b1
  have h5 := isBy_inj a2 b2'
  have h6 := isBy_inj a3 b3
  obtain ⟨e1, e2, e3, e4, e5⟩ := E
  obtain ⟨f1, f2, f3, f4, f5⟩ := F
  simp only at h2 h3 h4 h5 h6
  subst h2 h3 h4 h5 h6
  rfl
def cmpO (o n : Option Ent) : Int := match o, n with
  | none, _ => 1
  | some _, none => -1
  | some E, some F => cmpP E.1 F.1
def isCh (o n : Option Ent) : Bool := match o, n with
  | none, none => false
  | some E, some F => !lkE E F
  | _, _ => true
theorem lkE_rf (E : Ent) : lkE E E = true := by simp [lkE]
def noteL (X : List Chg) (o n : Option Ent) : List Chg := if isCh o n then X ++ [(o, n)] else X
def difL : Nat → List Ent → List Ent → List Chg
  | 0, _, _ => []
  | f + 1, L, M => noteL [] (if cmpO L.head? M.head? ≤ 0 then L.head? else none) (if 0 ≤ cmpO L.head? M.head? then M.head? else none) ++ difL f (if cmpO L.head? M.head? ≤ 0 then L.tail else L) (if 0 ≤ cmpO L.head? M.head? then M.tail else M)
theorem noteL_app (X : List Chg) (o n : Option Ent) : noteL X o n = X ++ noteL [] o n := by
  unfold noteL
  split <;> simp
def updB (c op : Nat) : Option Nat := if op % 2 = 0 ∧ 1 ≤ op / 2 ∧ op / 2 - 1 < c then some (op / 2 - 1) else none
end CHP
section CHG
variable {l : Launch} {D : va_G} {aC : Nat → ClassId}
theorem c_C_init (hfl : l.flags = pinnedFlags ++ [noTraceFlag]) {U : List Nat} {c : Nat} {g : g_H} (h1 : g c = some (.inr (4, [.null, .null, .int 0]))) : k_CT l D aC n_C_init 2 360 [.ref c] g (fun oc g1 => ∃ oa na, oc = .inl none ∧ g oa = none ∧ g na = none ∧ chs U g1 c oa na [] ∧ fx [c] g g1) := by
  refine k_ln hfl n_C_init ok_C_init rfl rfl rfl rfl rfl rfl (fun _ => rfl) (Nat.le_of_ble_eq_true rfl) 60 ?_
  conv => whnf
  refine ⟨(Nat.le_of_ble_eq_true rfl), ?_⟩
  conv => whnf
  refine ⟨180, rfl, by decide, by decide, by decide, fun oa ho => ?_⟩
  have n1 := g_nn h1 ho
  conv => whnf
  refine ⟨_, (by rw [g_up_n n1]; exact h1), by simp, rfl, rfl, ?_⟩
  conv => whnf
  refine ⟨180, rfl, by decide, by decide, by decide, fun na hn => ?_⟩
  have n2 : na ≠ c := fun z => by rw [z, g_up_s] at hn; cases hn
  rw [g_up_n n2] at hn
  have n3 : na ≠ oa := fun z => by rw [z, g_up_s] at hn; cases hn
  rw [g_up_n n3] at hn
  conv => whnf
  refine ⟨_, (by rw [g_up_n n2.symm]; exact g_up_s), by simp, rfl, rfl, ?_⟩
  conv => whnf
  refine ⟨_, g_up_s, by simp, rfl, rfl, ?_⟩
  conv => whnf
  refine ⟨rfl, ?_, by first | omega | exact Nat.le_of_ble_eq_true rfl | (simp only [dl1, dl2, dl3, dl4, dl5, dl6]; omega), by first | omega | exact Nat.le_of_ble_eq_true rfl | (simp only [dl1, dl2, dl3, dl4, dl5, dl6]; omega)⟩
  refine ⟨oa, na, rfl, ho, hn, ⟨fun _ => none, fun _ => none, by rw [g_up_s]; rfl, ?_, ?_, n3.symm, by simp, fun i x h => by simp at h⟩, fx_up (fx_up (fx_new (fx_up (fx_new fx_rf ho) (by simp)) hn) (by simp)) (by simp)⟩
  · rw [g_up_n n1.symm, g_up_n n1.symm, g_up_n n3.symm, g_up_n n1.symm, g_up_s]
  · rw [g_up_n n2, g_up_n n2, g_up_s]
theorem c_C_size (hfl : l.flags = pinnedFlags ++ [noTraceFlag]) {U : List Nat} {c oa na : Nat} {X : List Chg} {g : g_H} (h : chs U g c oa na X) : k_CT l D aC n_C_size 0 0 [.ref c] g (rt (some (.int (nI X.length))) g) := by
  obtain ⟨fo, fn, a1, -⟩ := h
  refine k_ln hfl n_C_size ok_C_size rfl rfl rfl rfl rfl rfl (fun h => by cases h) (Nat.le_of_ble_eq_true rfl) 60 ?_
  conv => whnf
  refine ⟨_, _, a1, rfl, ?_⟩
  conv => whnf
  refine ⟨⟨_, rfl, rfl⟩, ⟨rfl, rfl⟩, by first | omega | exact Nat.le_of_ble_eq_true rfl | (simp only [dl1, dl2, dl3, dl4, dl5, dl6]; omega), by first | omega | exact Nat.le_of_ble_eq_true rfl | (simp only [dl1, dl2, dl3, dl4, dl5, dl6]; omega)⟩
theorem c_C_before (hfl : l.flags = pinnedFlags ++ [noTraceFlag]) {U : List Nat} {c oa na i : Nat} {X : List Chg} {x : Chg} {g : g_H} (h : chs U g c oa na X) (hx : X[i]? = some x) : k_CT l D aC n_C_before 0 0 [.ref c, .int (nI i)] g (fun oc g1 => g1 = g ∧ ∃ v, oc = .inl (some v) ∧ oE U g v x.1) := by
  obtain ⟨fo, fn, a1, a2, a3, a4, a5, a6⟩ := h
  have hi := (List.getElem?_eq_some_iff.mp hx).1
  have hR := (a6 i x hx).1
  refine k_ln hfl n_C_before ok_C_before rfl rfl rfl rfl rfl rfl (fun h => by cases h) (Nat.le_of_ble_eq_true rfl) 60 ?_
  conv => whnf
  refine ⟨fun h => absurd h (q_lt0 (by omega)), fun _ => ?_⟩
  conv => whnf
  refine ⟨_, _, a1, rfl, ?_⟩
  conv => whnf
  refine ⟨fun _ => ?_, fun h => absurd ((q_lt (by omega) (by omega)).mpr hi) h⟩
  conv => whnf
  refine ⟨_, _, a1, rfl, ?_⟩
  conv => whnf
  refine ⟨_, _, _, i, _, a2, rfl, rfl, by omega, by omega, fun hN => ?_, fun b hB => ?_⟩
  · conv => whnf
    refine ⟨⟨_, rfl, Or.inl ⟨_, rfl⟩⟩, ?_, by first | omega | exact Nat.le_of_ble_eq_true rfl | (simp only [dl1, dl2, dl3, dl4, dl5, dl6]; omega), by first | omega | exact Nat.le_of_ble_eq_true rfl | (simp only [dl1, dl2, dl3, dl4, dl5, dl6]; omega)⟩
    refine ⟨rfl, _, rfl, ?_⟩
    generalize x.1 = o at hR ⊢
    cases o with
    | none => rfl
    | some E => obtain ⟨b, hb, -⟩ := hR; rw [hN] at hb; cases hb
  · conv => whnf
    refine ⟨⟨_, rfl, Or.inl ⟨_, rfl⟩⟩, ?_, by first | omega | exact Nat.le_of_ble_eq_true rfl | (simp only [dl1, dl2, dl3, dl4, dl5, dl6]; omega), by first | omega | exact Nat.le_of_ble_eq_true rfl | (simp only [dl1, dl2, dl3, dl4, dl5, dl6]; omega)⟩
    refine ⟨rfl, _, rfl, ?_⟩
    generalize x.1 = o at hR ⊢
    cases o with
    | none => cases hB.symm.trans hR
    | some E => obtain ⟨b1, hb, hE⟩ := hR; cases hB.symm.trans hb; exact ⟨b, rfl, hE⟩
theorem c_C_after (hfl : l.flags = pinnedFlags ++ [noTraceFlag]) {U : List Nat} {c oa na i : Nat} {X : List Chg} {x : Chg} {g : g_H} (h : chs U g c oa na X) (hx : X[i]? = some x) : k_CT l D aC n_C_after 0 0 [.ref c, .int (nI i)] g (fun oc g1 => g1 = g ∧ ∃ v, oc = .inl (some v) ∧ oE U g v x.2) := by
  obtain ⟨fo, fn, a1, a2, a3, a4, a5, a6⟩ := h
  have hi := (List.getElem?_eq_some_iff.mp hx).1
  have hR := (a6 i x hx).2
  refine k_ln hfl n_C_after ok_C_after rfl rfl rfl rfl rfl rfl (fun h => by cases h) (Nat.le_of_ble_eq_true rfl) 60 ?_
  conv => whnf
  refine ⟨fun h => absurd h (q_lt0 (by omega)), fun _ => ?_⟩
  conv => whnf
  refine ⟨_, _, a1, rfl, ?_⟩
  conv => whnf
  refine ⟨fun _ => ?_, fun h => absurd ((q_lt (by omega) (by omega)).mpr hi) h⟩
  conv => whnf
  refine ⟨_, _, a1, rfl, ?_⟩
  conv => whnf
  refine ⟨_, _, _, i, _, a3, rfl, rfl, by omega, by omega, fun hN => ?_, fun b hB => ?_⟩
  · conv => whnf
    refine ⟨⟨_, rfl, Or.inl ⟨_, rfl⟩⟩, ?_, by first | omega | exact Nat.le_of_ble_eq_true rfl | (simp only [dl1, dl2, dl3, dl4, dl5, dl6]; omega), by first | omega | exact Nat.le_of_ble_eq_true rfl | (simp only [dl1, dl2, dl3, dl4, dl5, dl6]; omega)⟩
    refine ⟨rfl, _, rfl, ?_⟩
    generalize x.2 = o at hR ⊢
    cases o with
    | none => rfl
    | some E => obtain ⟨b, hb, -⟩ := hR; rw [hN] at hb; cases hb
  · conv => whnf
    refine ⟨⟨_, rfl, Or.inl ⟨_, rfl⟩⟩, ?_, by first | omega | exact Nat.le_of_ble_eq_true rfl | (simp only [dl1, dl2, dl3, dl4, dl5, dl6]; omega), by first | omega | exact Nat.le_of_ble_eq_true rfl | (simp only [dl1, dl2, dl3, dl4, dl5, dl6]; omega)⟩
    refine ⟨rfl, _, rfl, ?_⟩
    generalize x.2 = o at hR ⊢
    cases o with
    | none => cases hB.symm.trans hR
    | some E => obtain ⟨b1, hb, hE⟩ := hR; cases hB.symm.trans hb; exact ⟨b, rfl, hE⟩
theorem c_C_updatedBy (hfl : l.flags = pinnedFlags ++ [noTraceFlag]) {U : List Nat} {c oa na op : Nat} {X : List Chg} {g : g_H} (h : chs U g c oa na X) (hop : op < 2 ^ 30) : k_CT l D aC n_C_updatedBy 0 0 [.ref c, .int (nI op)] g (rt (some (.int (slI (updB X.length op)))) g) := by
  obtain ⟨fo, fn, a1, a2, a3, a4, a5, a6⟩ := h
  have e1 : nI op / nI 2 = nI (op / 2) := pk_div (by omega) (by decide) (by decide)
  have e2 : nI op - nI op / nI 2 * nI 2 = nI (op % 2) := pk_rem (by omega) (by decide) (by decide)
  refine k_ln hfl n_C_updatedBy ok_C_updatedBy rfl rfl rfl rfl rfl rfl (fun h => by cases h) (Nat.le_of_ble_eq_true rfl) 60 ?_
  conv => whnf
  refine ⟨by decide, ?_⟩
  conv => whnf
  refine ⟨by decide, ?_⟩
  conv => whnf
  refine ⟨fun h => ?_, fun h => ?_⟩
  · have h1 : ¬ nI op - nI op / nI 2 * nI 2 = 0 := h
    rw [e2] at h1
    have h2 : op % 2 ≠ 0 := (q_ne0 (by omega)).mp h1
    conv => whnf
    refine ⟨⟨_, rfl, rfl⟩, ⟨?_, rfl⟩, by first | omega | exact Nat.le_of_ble_eq_true rfl | (simp only [dl1, dl2, dl3, dl4, dl5, dl6]; omega), by first | omega | exact Nat.le_of_ble_eq_true rfl | (simp only [dl1, dl2, dl3, dl4, dl5, dl6]; omega)⟩
    rw [updB, if_neg (by omega)]
    rfl
  · have h1 : nI op - nI op / nI 2 * nI 2 = 0 := Classical.not_not.mp h
    rw [e2] at h1
    have h2 : op % 2 = 0 := (q_eq0 (by omega)).mp h1
    by_cases h3 : op / 2 = 0
    · conv => whnf
      refine ⟨fun _ => ?_, fun h => absurd (by show (nI op / nI 2 - nI 1).toInt < (0 : Int32).toInt; rw [e1, h3]; decide) h⟩
      conv => whnf
      refine ⟨⟨_, rfl, rfl⟩, ⟨?_, rfl⟩, by first | omega | exact Nat.le_of_ble_eq_true rfl | (simp only [dl1, dl2, dl3, dl4, dl5, dl6]; omega), by first | omega | exact Nat.le_of_ble_eq_true rfl | (simp only [dl1, dl2, dl3, dl4, dl5, dl6]; omega)⟩
      rw [updB, if_neg (by omega)]
      rfl
    · have e3 : nI op / nI 2 - nI 1 = nI (op / 2 - 1) := by rw [e1, pk_sub (by omega)]
      conv => whnf
      refine ⟨fun h => absurd h (by show ¬ w_cmp .lt (nI op / nI 2 - nI 1) 0; rw [e3]; exact q_lt0 (by omega)), fun _ => ?_⟩
      conv => whnf
      refine ⟨_, _, a1, rfl, ?_⟩
      conv => whnf
      refine ⟨fun h => ?_, fun h => ?_⟩
      · have h4 : w_cmp .ge (nI op / nI 2 - nI 1) (nI X.length) := h
        rw [e3] at h4
        have h5 := (q_ge (by omega) (by omega)).mp h4
        conv => whnf
        refine ⟨⟨_, rfl, rfl⟩, ⟨?_, rfl⟩, by first | omega | exact Nat.le_of_ble_eq_true rfl | (simp only [dl1, dl2, dl3, dl4, dl5, dl6]; omega), by first | omega | exact Nat.le_of_ble_eq_true rfl | (simp only [dl1, dl2, dl3, dl4, dl5, dl6]; omega)⟩
        rw [updB, if_neg (by omega)]
        rfl
      · have h4 : ¬ w_cmp .ge (nI op / nI 2 - nI 1) (nI X.length) := h
        rw [e3] at h4
        have h5 : ¬ X.length ≤ op / 2 - 1 := fun z => h4 ((q_ge (by omega) (by omega)).mpr z)
        conv => whnf
        refine ⟨⟨_, rfl, rfl⟩, ⟨?_, rfl⟩, by first | omega | exact Nat.le_of_ble_eq_true rfl | (simp only [dl1, dl2, dl3, dl4, dl5, dl6]; omega), by first | omega | exact Nat.le_of_ble_eq_true rfl | (simp only [dl1, dl2, dl3, dl4, dl5, dl6]; omega)⟩
        rw [updB, if_pos (by omega)]
        exact congrArg (fun z => Sum.inl (some (Value.int z))) e3
theorem c_C_compare (hfl : l.flags = pinnedFlags ++ [noTraceFlag]) {U : List Nat} {v w : Value} {o n : Option Ent} {g : g_H} (hv : oE U g v o) (hw : oE U g w n) : k_CT l D aC n_C_compare 0 0 [v, w] g (rt (some (.int (Int32.ofInt (cmpO o n)))) g) := by
  cases o with
  | none =>
    cases hv
    cases n with
    | none =>
      cases hw
      refine k_ln hfl n_C_compare ok_C_compare rfl rfl rfl rfl rfl rfl (fun h => by cases h) (Nat.le_of_ble_eq_true rfl) 60 ?_
      conv => whnf
      refine ⟨⟨_, rfl, rfl⟩, ⟨rfl, rfl⟩, by first | omega | exact Nat.le_of_ble_eq_true rfl | (simp only [dl1, dl2, dl3, dl4, dl5, dl6]; omega), by first | omega | exact Nat.le_of_ble_eq_true rfl | (simp only [dl1, dl2, dl3, dl4, dl5, dl6]; omega)⟩
    | some F =>
      obtain ⟨b, rfl, hF⟩ := hw
      refine k_ln hfl n_C_compare ok_C_compare rfl rfl rfl rfl rfl rfl (fun h => by cases h) (Nat.le_of_ble_eq_true rfl) 60 ?_
      conv => whnf
      refine ⟨⟨_, rfl, rfl⟩, ⟨rfl, rfl⟩, by first | omega | exact Nat.le_of_ble_eq_true rfl | (simp only [dl1, dl2, dl3, dl4, dl5, dl6]; omega), by first | omega | exact Nat.le_of_ble_eq_true rfl | (simp only [dl1, dl2, dl3, dl4, dl5, dl6]; omega)⟩
  | some E =>
    obtain ⟨a, rfl, ⟨p, c, e1, e2, -⟩⟩ := hv
    cases n with
    | none =>
      cases hw
      refine k_ln hfl n_C_compare ok_C_compare rfl rfl rfl rfl rfl rfl (fun h => by cases h) (Nat.le_of_ble_eq_true rfl) 60 ?_
      conv => whnf
      refine ⟨⟨_, rfl, rfl⟩, ⟨rfl, rfl⟩, by first | omega | exact Nat.le_of_ble_eq_true rfl | (simp only [dl1, dl2, dl3, dl4, dl5, dl6]; omega), by first | omega | exact Nat.le_of_ble_eq_true rfl | (simp only [dl1, dl2, dl3, dl4, dl5, dl6]; omega)⟩
    | some F =>
      obtain ⟨b, rfl, ⟨p2, c2, d1, d2, -⟩⟩ := hw
      refine k_ln hfl n_C_compare ok_C_compare rfl rfl rfl rfl rfl rfl (fun h => by cases h) (Nat.le_of_ble_eq_true rfl) 60 ?_
      conv => whnf
      refine ⟨_, _, e1, rfl, ?_⟩
      conv => whnf
      refine ⟨_, _, d1, rfl, ?_⟩
      conv => whnf
      refine ⟨(Nat.le_of_ble_eq_true rfl), _, _, _, c_P_compare hfl e2 d2, by first | omega | exact Nat.le_of_ble_eq_true rfl | (simp only [dl1, dl2, dl3, dl4, dl5, dl6]; omega), by first | omega | exact Nat.le_of_ble_eq_true rfl | (simp only [dl1, dl2, dl3, dl4, dl5, dl6]; omega), k_rl ?_, k_rr⟩
      conv => whnf
      refine ⟨⟨_, rfl, rfl⟩, ⟨rfl, rfl⟩, by first | omega | exact Nat.le_of_ble_eq_true rfl | (simp only [dl1, dl2, dl3, dl4, dl5, dl6]; omega), by first | omega | exact Nat.le_of_ble_eq_true rfl | (simp only [dl1, dl2, dl3, dl4, dl5, dl6]; omega)⟩
theorem c_C_isChange (hfl : l.flags = pinnedFlags ++ [noTraceFlag]) {U : List Nat} {v w : Value} {o n : Option Ent} {g : g_H} (hv : oE U g v o) (hw : oE U g w n) : k_CT l D aC n_C_isChange 0 0 [v, w] g (rt (some (.int (b2 (isCh o n)))) g) := by
  cases o with
  | none =>
    cases hv
    cases n with
    | none =>
      cases hw
      refine k_ln hfl n_C_isChange ok_C_isChange rfl rfl rfl rfl rfl rfl (fun h => by cases h) (Nat.le_of_ble_eq_true rfl) 60 ?_
      conv => whnf
      refine ⟨⟨_, rfl, rfl⟩, ⟨rfl, rfl⟩, by first | omega | exact Nat.le_of_ble_eq_true rfl | (simp only [dl1, dl2, dl3, dl4, dl5, dl6]; omega), by first | omega | exact Nat.le_of_ble_eq_true rfl | (simp only [dl1, dl2, dl3, dl4, dl5, dl6]; omega)⟩
    | some F =>
      obtain ⟨b, rfl, hF⟩ := hw
      refine k_ln hfl n_C_isChange ok_C_isChange rfl rfl rfl rfl rfl rfl (fun h => by cases h) (Nat.le_of_ble_eq_true rfl) 60 ?_
      conv => whnf
      refine ⟨⟨_, rfl, rfl⟩, ⟨rfl, rfl⟩, by first | omega | exact Nat.le_of_ble_eq_true rfl | (simp only [dl1, dl2, dl3, dl4, dl5, dl6]; omega), by first | omega | exact Nat.le_of_ble_eq_true rfl | (simp only [dl1, dl2, dl3, dl4, dl5, dl6]; omega)⟩
  | some E =>
    obtain ⟨a, rfl, hE⟩ := hv
    cases n with
    | none =>
      cases hw
      refine k_ln hfl n_C_isChange ok_C_isChange rfl rfl rfl rfl rfl rfl (fun h => by cases h) (Nat.le_of_ble_eq_true rfl) 60 ?_
      conv => whnf
      refine ⟨⟨_, rfl, rfl⟩, ⟨rfl, rfl⟩, by first | omega | exact Nat.le_of_ble_eq_true rfl | (simp only [dl1, dl2, dl3, dl4, dl5, dl6]; omega), by first | omega | exact Nat.le_of_ble_eq_true rfl | (simp only [dl1, dl2, dl3, dl4, dl5, dl6]; omega)⟩
    | some F =>
      obtain ⟨b, rfl, hF⟩ := hw
      refine k_ln hfl n_C_isChange ok_C_isChange rfl rfl rfl rfl rfl rfl (fun h => by cases h) (Nat.le_of_ble_eq_true rfl) 60 ?_
      conv => whnf
      refine ⟨fun h => ?_, fun h => ?_⟩
      · have h : a = b := h
        subst h
        cases en_inj hE hF
        conv => whnf
        refine ⟨⟨_, rfl, rfl⟩, ⟨?_, rfl⟩, by first | omega | exact Nat.le_of_ble_eq_true rfl | (simp only [dl1, dl2, dl3, dl4, dl5, dl6]; omega), by first | omega | exact Nat.le_of_ble_eq_true rfl | (simp only [dl1, dl2, dl3, dl4, dl5, dl6]; omega)⟩
        rw [isCh, lkE_rf]
        rfl
      · obtain ⟨p, c, e1, -⟩ := id hE
        conv => whnf
        refine ⟨⟨_, e1⟩, (Nat.le_of_ble_eq_true rfl), _, _, _, c_E_isLike hfl hE hF, by first | omega | exact Nat.le_of_ble_eq_true rfl | (simp only [dl1, dl2, dl3, dl4, dl5, dl6]; omega), by first | omega | exact Nat.le_of_ble_eq_true rfl | (simp only [dl1, dl2, dl3, dl4, dl5, dl6]; omega), k_rl ?_, k_rr⟩
        cases hl : lkE E F
        · conv => whnf
          refine ⟨fun h => absurd h (fun z => z b2_f), fun _ => ?_⟩
          conv => whnf
          refine ⟨⟨_, rfl, rfl⟩, ⟨?_, rfl⟩, by first | omega | exact Nat.le_of_ble_eq_true rfl | (simp only [dl1, dl2, dl3, dl4, dl5, dl6]; omega), by first | omega | exact Nat.le_of_ble_eq_true rfl | (simp only [dl1, dl2, dl3, dl4, dl5, dl6]; omega)⟩
          rw [isCh, hl]
          rfl
        · conv => whnf
          refine ⟨fun _ => ?_, fun h => absurd b2_t h⟩
          conv => whnf
          refine ⟨⟨_, rfl, rfl⟩, ⟨?_, rfl⟩, by first | omega | exact Nat.le_of_ble_eq_true rfl | (simp only [dl1, dl2, dl3, dl4, dl5, dl6]; omega), by first | omega | exact Nat.le_of_ble_eq_true rfl | (simp only [dl1, dl2, dl3, dl4, dl5, dl6]; omega)⟩
          rw [isCh, hl]
          rfl
end CHG
