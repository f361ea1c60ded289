/-! MirrorKeep: what is refused; make, choose, set, cut, remove -/
section KM0
abbrev IS : String := "java/lang/IllegalStateException"
abbrev IA : String := "java/lang/IllegalArgumentException"
def kdOk (k : Int32) : Bool := decide (k = nI 1 ∨ k = nI 2 ∨ k = nI 3)
def mdOk (m : Int32) : Bool := decide (0 ≤ m.toInt ∧ m.toInt ≤ 4095)
def tmOk (t : Int32) : Bool := decide (0 ≤ t.toInt)
def okM (k m t : Int32) (T : List Nat) : Bool := kdOk k && mdOk m && tmOk t && ptOk T
def hasDir (S : List Ent) (T : List Nat) : Bool := match lastSl T T.length with
  | none => true
  | some n => match atI S (idx S (T.take n)) with
    | some E => decide (E.2.1 = nI 2)
    | none => false
theorem lastSl_lt {L : List Nat} : ∀ {c n : Nat}, lastSl L c = some n → n < c
  | 0, n, h => by cases h
  | c + 1, n, h => by
    unfold lastSl at h
    split at h
    · cases h; omega
    · have := lastSl_lt h; omega
theorem nI_m1 {n : Nat} (h : n < 2 ^ 31) : ¬ nI n = -1 := fun z => by
  have := congrArg Int32.toInt z
  rw [nI_toInt h] at this
  have h2 : (-1 : Int32).toInt = -1 := by decide
  rw [h2] at this
  omega
theorem putL_len (L : List Ent) (E : Ent) : (putL L E).length ≤ L.length + 1 := by
  have := plc_le L E.1
  unfold putL
  split
  · rw [List.length_set]; omega
  · simp; omega
theorem isBy_take {g : g_H} {q n m : Nat} {f : Nat → Int32} {L : List Nat} (h : g q = some (.inl (0, n, .inl f))) (hn : n ≤ L.length) (hf : ∀ i, i < n → f i = sx (L.getD i 0)) (hb : ∀ b ∈ L, b < 256) (hl : L.length < 2 ^ 20) : isBy g q (L.take n) := by
  have hlen : (L.take n).length = n := by simp; omega
  refine ⟨f, by rw [hlen]; exact h, fun i hi => ?_, fun b hb1 => hb b (List.mem_of_mem_take hb1), by omega⟩
  rw [hf i (by omega), List.getD_eq_getElem?_getD, List.getD_eq_getElem?_getD, List.getElem?_take, if_pos (by omega)]
def mkR (S : List Ent) (T : List Nat) (k m t : Int32) : Nat := if okM k m t T = false then 1 else if ¬ idx S T = -1 ∨ hasDir S T = false ∨ 60 ≤ S.length then 2 else 0
def mkP (ad : Nat → Nat) (g : g_H) (R T : List Nat) (S M Rs : List Ent) (Hs : List Ses) (X : List Chg) (ch st tm dn k m t : Int32) (r : Nat) : x_O → g_H → Prop := match r with
  | 0 => kO ad g (.inl (some (.int (nI (putL S (T, k, m, t, [])).length)))) R [] (putL S (T, k, m, t, [])) M Rs Hs X (idx (putL S (T, k, m, t, [])) T) st tm dn
  | 1 => kO ad g (.inr IA) R [] S M Rs Hs X ch st tm dn
  | _ => kO ad g (.inr IS) R [] S M Rs Hs X ch st tm dn
end KM0
section KM
variable {ad : Nat → Nat} {g : g_H} {R T : List Nat} {S M Rs : List Ent} {Hs : List Ses} {X : List Chg} {ch st tm dn : Int32} {rs : Nat}
variable {l : Launch} {D : va_G} {aC : Nat → ClassId}
theorem c_K_isKind (hfl : l.flags = pinnedFlags ++ [noTraceFlag]) {k : Int32} : k_CT l D aC n_K_isKind 0 0 [.int k] g (rt (some (.int (b2 (kdOk k)))) g) := by
  refine k_ln hfl n_K_isKind ok_K_isKind rfl rfl rfl rfl rfl rfl (fun h => by cases h) (Nat.le_of_ble_eq_true rfl) 60 ?_
  conv => whnf
  refine ⟨fun h => ?_, fun h => ?_⟩
  · have h : k = nI 1 := h
    conv => whnf
    refine ⟨⟨_, rfl, rfl⟩, ⟨?_, rfl⟩, by first | omega | exact Nat.le_of_ble_eq_true rfl | (simp only [dl1, dl2, dl3, dl4, dl5, dl6]; omega), by first | omega | exact Nat.le_of_ble_eq_true rfl | (simp only [dl1, dl2, dl3, dl4, dl5, dl6]; omega)⟩
    rw [kdOk, decide_eq_true (Or.inl h)]; rfl
  · have h : ¬ k = nI 1 := h
    conv => whnf
    refine ⟨fun h1 => ?_, fun h1 => ?_⟩
    · have h1 : k = nI 2 := h1
      conv => whnf
      refine ⟨⟨_, rfl, rfl⟩, ⟨?_, rfl⟩, by first | omega | exact Nat.le_of_ble_eq_true rfl | (simp only [dl1, dl2, dl3, dl4, dl5, dl6]; omega), by first | omega | exact Nat.le_of_ble_eq_true rfl | (simp only [dl1, dl2, dl3, dl4, dl5, dl6]; omega)⟩
      rw [kdOk, decide_eq_true (Or.inr (Or.inl h1))]; rfl
    · have h1 : ¬ k = nI 2 := h1
      conv => whnf
      refine ⟨fun h2 => ?_, fun h2 => ?_⟩
      · have h2 : ¬ k = nI 3 := h2
        conv => whnf
        refine ⟨⟨_, rfl, rfl⟩, ⟨?_, rfl⟩, by first | omega | exact Nat.le_of_ble_eq_true rfl | (simp only [dl1, dl2, dl3, dl4, dl5, dl6]; omega), by first | omega | exact Nat.le_of_ble_eq_true rfl | (simp only [dl1, dl2, dl3, dl4, dl5, dl6]; omega)⟩
        rw [kdOk, decide_eq_false (fun z => by rcases z with z | z | z; exact h z; exact h1 z; exact h2 z)]; rfl
      · have h2 : k = nI 3 := Classical.not_not.mp h2
        conv => whnf
        refine ⟨⟨_, rfl, rfl⟩, ⟨?_, rfl⟩, by first | omega | exact Nat.le_of_ble_eq_true rfl | (simp only [dl1, dl2, dl3, dl4, dl5, dl6]; omega), by first | omega | exact Nat.le_of_ble_eq_true rfl | (simp only [dl1, dl2, dl3, dl4, dl5, dl6]; omega)⟩
        rw [kdOk, decide_eq_true (Or.inr (Or.inr h2))]; rfl
theorem c_K_isMode (hfl : l.flags = pinnedFlags ++ [noTraceFlag]) {m : Int32} : k_CT l D aC n_K_isMode 0 0 [.int m] g (rt (some (.int (b2 (mdOk m)))) g) := by
  refine k_ln hfl n_K_isMode ok_K_isMode rfl rfl rfl rfl rfl rfl (fun h => by cases h) (Nat.le_of_ble_eq_true rfl) 60 ?_
  conv => whnf
  refine ⟨fun h => ?_, fun h => ?_⟩
  · have h : m.toInt < 0 := h
    conv => whnf
    refine ⟨⟨_, rfl, rfl⟩, ⟨?_, rfl⟩, by first | omega | exact Nat.le_of_ble_eq_true rfl | (simp only [dl1, dl2, dl3, dl4, dl5, dl6]; omega), by first | omega | exact Nat.le_of_ble_eq_true rfl | (simp only [dl1, dl2, dl3, dl4, dl5, dl6]; omega)⟩
    rw [mdOk, decide_eq_false (by omega)]; rfl
  · have h : ¬ m.toInt < 0 := h
    conv => whnf
    refine ⟨fun h1 => ?_, fun h1 => ?_⟩
    · have h1 : (nI 4095).toInt < m.toInt := h1
      rw [nI_toInt (by decide)] at h1
      conv => whnf
      refine ⟨⟨_, rfl, rfl⟩, ⟨?_, rfl⟩, by first | omega | exact Nat.le_of_ble_eq_true rfl | (simp only [dl1, dl2, dl3, dl4, dl5, dl6]; omega), by first | omega | exact Nat.le_of_ble_eq_true rfl | (simp only [dl1, dl2, dl3, dl4, dl5, dl6]; omega)⟩
      rw [mdOk, decide_eq_false (by omega)]; rfl
    · have h1 : ¬ (nI 4095).toInt < m.toInt := h1
      rw [nI_toInt (by decide)] at h1
      conv => whnf
      refine ⟨⟨_, rfl, rfl⟩, ⟨?_, rfl⟩, by first | omega | exact Nat.le_of_ble_eq_true rfl | (simp only [dl1, dl2, dl3, dl4, dl5, dl6]; omega), by first | omega | exact Nat.le_of_ble_eq_true rfl | (simp only [dl1, dl2, dl3, dl4, dl5, dl6]; omega)⟩
      rw [mdOk, decide_eq_true (by omega)]; rfl
theorem c_K_isTime (hfl : l.flags = pinnedFlags ++ [noTraceFlag]) {t : Int32} : k_CT l D aC n_K_isTime 0 0 [.int t] g (rt (some (.int (b2 (tmOk t)))) g) := by
  refine k_ln hfl n_K_isTime ok_K_isTime rfl rfl rfl rfl rfl rfl (fun h => by cases h) (Nat.le_of_ble_eq_true rfl) 60 ?_
  conv => whnf
  refine ⟨fun h => ?_, fun h => ?_⟩
  · have h : t.toInt < 0 := h
    conv => whnf
    refine ⟨⟨_, rfl, rfl⟩, ⟨?_, rfl⟩, by first | omega | exact Nat.le_of_ble_eq_true rfl | (simp only [dl1, dl2, dl3, dl4, dl5, dl6]; omega), by first | omega | exact Nat.le_of_ble_eq_true rfl | (simp only [dl1, dl2, dl3, dl4, dl5, dl6]; omega)⟩
    rw [tmOk, decide_eq_false (by omega)]; rfl
  · have h : ¬ t.toInt < 0 := h
    conv => whnf
    refine ⟨⟨_, rfl, rfl⟩, ⟨?_, rfl⟩, by first | omega | exact Nat.le_of_ble_eq_true rfl | (simp only [dl1, dl2, dl3, dl4, dl5, dl6]; omega), by first | omega | exact Nat.le_of_ble_eq_true rfl | (simp only [dl1, dl2, dl3, dl4, dl5, dl6]; omega)⟩
    rw [tmOk, decide_eq_true (by omega)]; rfl
theorem c_K_rw (hfl : l.flags = pinnedFlags ++ [noTraceFlag]) (h : cK ad g R T S M Rs Hs X ch st tm dn rs) (hs : st ≠ nI 1) : k_CT l D aC n_K_refuseWhileUnderWay 0 0 [.ref (ad 0)] g (rt none g) := by
  refine k_ln hfl n_K_refuseWhileUnderWay ok_K_refuseWhileUnderWay rfl rfl rfl rfl rfl rfl (fun h => by cases h) (Nat.le_of_ble_eq_true rfl) 60 ?_
  conv => whnf
  refine ⟨_, _, h.2.1, rfl, ?_⟩
  conv => whnf
  refine ⟨fun _ => ?_, fun h => absurd hs h⟩
  conv => whnf
  refine ⟨rfl, ⟨rfl, rfl⟩, by first | omega | exact Nat.le_of_ble_eq_true rfl | (simp only [dl1, dl2, dl3, dl4, dl5, dl6]; omega), by first | omega | exact Nat.le_of_ble_eq_true rfl | (simp only [dl1, dl2, dl3, dl4, dl5, dl6]; omega)⟩
theorem c_K_rw_no (hfl : l.flags = pinnedFlags ++ [noTraceFlag]) (h : cK ad g R T S M Rs Hs X ch st tm dn rs) (hs : st = nI 1) : k_CT l D aC n_K_refuseWhileUnderWay 1 6 [.ref (ad 0)] g (th IS g) := by
  refine k_ln hfl n_K_refuseWhileUnderWay ok_K_refuseWhileUnderWay rfl rfl rfl rfl rfl rfl (fun h => by cases h) (Nat.le_of_ble_eq_true rfl) 60 ?_
  conv => whnf
  refine ⟨_, _, h.2.1, rfl, ?_⟩
  conv => whnf
  refine ⟨fun h => absurd h (fun z => z hs), fun _ => ?_⟩
  conv => whnf
  refine ⟨(Nat.le_of_ble_eq_true rfl), ⟨rfl, rfl⟩, by first | omega | exact Nat.le_of_ble_eq_true rfl | (simp only [dl1, dl2, dl3, dl4, dl5, dl6]; omega), by first | omega | exact Nat.le_of_ble_eq_true rfl | (simp only [dl1, dl2, dl3, dl4, dl5, dl6]; omega)⟩
theorem c_K_rr (hfl : l.flags = pinnedFlags ++ [noTraceFlag]) (h : cK ad g R T S M Rs Hs X ch st tm dn rs) (hs : st = 0) : k_CT l D aC n_K_refuseUnlessAtRest 0 0 [.ref (ad 0)] g (rt none g) := by
  refine k_ln hfl n_K_refuseUnlessAtRest ok_K_refuseUnlessAtRest rfl rfl rfl rfl rfl rfl (fun h => by cases h) (Nat.le_of_ble_eq_true rfl) 60 ?_
  conv => whnf
  refine ⟨_, _, h.2.1, rfl, ?_⟩
  conv => whnf
  refine ⟨fun _ => ?_, fun h => absurd hs h⟩
  conv => whnf
  refine ⟨rfl, ⟨rfl, rfl⟩, by first | omega | exact Nat.le_of_ble_eq_true rfl | (simp only [dl1, dl2, dl3, dl4, dl5, dl6]; omega), by first | omega | exact Nat.le_of_ble_eq_true rfl | (simp only [dl1, dl2, dl3, dl4, dl5, dl6]; omega)⟩
theorem c_K_rr_no (hfl : l.flags = pinnedFlags ++ [noTraceFlag]) (h : cK ad g R T S M Rs Hs X ch st tm dn rs) (hs : ¬ st = 0) : k_CT l D aC n_K_refuseUnlessAtRest 1 6 [.ref (ad 0)] g (th IS g) := by
  refine k_ln hfl n_K_refuseUnlessAtRest ok_K_refuseUnlessAtRest rfl rfl rfl rfl rfl rfl (fun h => by cases h) (Nat.le_of_ble_eq_true rfl) 60 ?_
  conv => whnf
  refine ⟨_, _, h.2.1, rfl, ?_⟩
  conv => whnf
  refine ⟨fun h => absurd h hs, fun _ => ?_⟩
  conv => whnf
  refine ⟨(Nat.le_of_ble_eq_true rfl), ⟨rfl, rfl⟩, by first | omega | exact Nat.le_of_ble_eq_true rfl | (simp only [dl1, dl2, dl3, dl4, dl5, dl6]; omega), by first | omega | exact Nat.le_of_ble_eq_true rfl | (simp only [dl1, dl2, dl3, dl4, dl5, dl6]; omega)⟩
theorem c_K_rm (hfl : l.flags = pinnedFlags ++ [noTraceFlag]) {n : Int32} (h0 : ¬ n.toInt < 0) (h1 : n.toInt ≤ 200) : k_CT l D aC n_K_refuseTooMany 0 0 [.int n] g (rt none g) := by
  refine k_ln hfl n_K_refuseTooMany ok_K_refuseTooMany rfl rfl rfl rfl rfl rfl (fun h => by cases h) (Nat.le_of_ble_eq_true rfl) 60 ?_
  conv => whnf
  refine ⟨fun h => absurd h (show ¬ n.toInt < (0 : Int32).toInt from h0), fun _ => ?_⟩
  conv => whnf
  refine ⟨fun _ => ?_, fun h => absurd (show n.toInt ≤ (nI 200).toInt by rw [nI_toInt (by decide)]; exact h1) h⟩
  conv => whnf
  refine ⟨rfl, ⟨rfl, rfl⟩, by first | omega | exact Nat.le_of_ble_eq_true rfl | (simp only [dl1, dl2, dl3, dl4, dl5, dl6]; omega), by first | omega | exact Nat.le_of_ble_eq_true rfl | (simp only [dl1, dl2, dl3, dl4, dl5, dl6]; omega)⟩
theorem c_K_rm_no (hfl : l.flags = pinnedFlags ++ [noTraceFlag]) {n : Int32} (h0 : n.toInt < 0 ∨ 200 < n.toInt) : k_CT l D aC n_K_refuseTooMany 1 6 [.int n] g (th IA g) := by
  refine k_ln hfl n_K_refuseTooMany ok_K_refuseTooMany rfl rfl rfl rfl rfl rfl (fun h => by cases h) (Nat.le_of_ble_eq_true rfl) 60 ?_
  conv => whnf
  refine ⟨fun h => ?_, fun h => ?_⟩
  · conv => whnf
    refine ⟨(Nat.le_of_ble_eq_true rfl), ⟨rfl, rfl⟩, by first | omega | exact Nat.le_of_ble_eq_true rfl | (simp only [dl1, dl2, dl3, dl4, dl5, dl6]; omega), by first | omega | exact Nat.le_of_ble_eq_true rfl | (simp only [dl1, dl2, dl3, dl4, dl5, dl6]; omega)⟩
  · have h : ¬ n.toInt < 0 := h
    conv => whnf
    refine ⟨fun h => absurd h (show ¬ n.toInt ≤ (nI 200).toInt by rw [nI_toInt (by decide)]; omega), fun _ => ?_⟩
    conv => whnf
    refine ⟨(Nat.le_of_ble_eq_true rfl), ⟨rfl, rfl⟩, by first | omega | exact Nat.le_of_ble_eq_true rfl | (simp only [dl1, dl2, dl3, dl4, dl5, dl6]; omega), by first | omega | exact Nat.le_of_ble_eq_true rfl | (simp only [dl1, dl2, dl3, dl4, dl5, dl6]; omega)⟩
theorem c_K_hasDir (hfl : l.flags = pinnedFlags ++ [noTraceFlag]) (h : cK ad g R T S M Rs Hs X ch st tm dn rs) {p : Nat} {L : List Nat} (hp : isBy g p L) (hl : L.length ≤ 400) : k_CT l D aC n_K_hasItsDirectory 1 400 [.ref (ad 0), .ref p] g (fun oc g1 => oc = .inl (some (.int (b2 (hasDir S L)))) ∧ fx [] g g1) := by
  obtain ⟨hj, z1, t1, s1, -⟩ := id h
  obtain ⟨fp, p1, p2, p3, p4⟩ := id hp
  refine k_ln hfl n_K_hasItsDirectory ok_K_hasItsDirectory rfl rfl rfl rfl rfl rfl (fun h => by cases h) (Nat.le_of_ble_eq_true rfl) 60 ?_
  conv => whnf
  refine ⟨(Nat.le_of_ble_eq_true rfl), _, _, _, c_P_dirLen hfl hp, by first | omega | exact Nat.le_of_ble_eq_true rfl | (simp only [dl1, dl2, dl3, dl4, dl5, dl6]; omega), by first | omega | exact Nat.le_of_ble_eq_true rfl | (simp only [dl1, dl2, dl3, dl4, dl5, dl6]; omega), k_rl ?_, k_rr⟩
  cases hn : lastSl L L.length with
  | none =>
    conv => whnf
    refine ⟨fun h => absurd h (fun z => z rfl), fun _ => ?_⟩
    conv => whnf
    refine ⟨⟨_, rfl, rfl⟩, ⟨?_, fx_rf⟩, by first | omega | exact Nat.le_of_ble_eq_true rfl | (simp only [dl1, dl2, dl3, dl4, dl5, dl6]; omega), by first | omega | exact Nat.le_of_ble_eq_true rfl | (simp only [dl1, dl2, dl3, dl4, dl5, dl6]; omega)⟩
    rw [hasDir, hn]
    rfl
  | some n =>
    have hlt := lastSl_lt hn
    conv => whnf
    refine ⟨fun _ => ?_, fun h => absurd (nI_m1 (by omega)) h⟩
    conv => whnf
    refine ⟨_, _, z1, rfl, ?_⟩
    conv => whnf
    refine ⟨_, _, z1, rfl, ?_⟩
    conv => whnf
    refine ⟨(Nat.le_of_ble_eq_true rfl), _, _, _, c_A_copyOf (m := n) hfl p1 (fun i hi => by rw [p2 i hi]; exact sx_fits _) (by omega) (by omega), by first | omega | exact Nat.le_of_ble_eq_true rfl | (simp only [dl1, dl2, dl3, dl4, dl5, dl6]; omega), by first | omega | exact Nat.le_of_ble_eq_true rfl | (simp only [dl1, dl2, dl3, dl4, dl5, dl6]; omega), fun v g1 hh => ?_, fun C g1 hh => ?_⟩
    · obtain ⟨q, f1, hq, hv, rfl, hf1⟩ := hh
      cases hv
      have hf : fx (List.map ad []) g (g_up g q (.inl (0, n, .inl f1))) := fx_new fx_rf hq
      have h1 := cK_fx h hf
      obtain ⟨-, -, -, s2, -⟩ := id h1
      obtain ⟨f2, s3, -⟩ := id s2
      have hby : isBy (g_up g q (.inl (0, n, .inl f1))) q (L.take n) := isBy_take (m := 0) g_up_s (by omega) (fun i hi => by rw [hf1 i hi, if_pos (by omega), p2 i (by omega)]) p3 p4
      conv => whnf
      refine ⟨⟨_, s3⟩, (Nat.le_of_ble_eq_true rfl), _, _, _, c_R_indexOf hfl s2 hby, by first | omega | exact Nat.le_of_ble_eq_true rfl | (simp only [dl1, dl2, dl3, dl4, dl5, dl6]; omega), by first | omega | exact Nat.le_of_ble_eq_true rfl | (simp only [dl1, dl2, dl3, dl4, dl5, dl6]; omega), k_rl ?_, k_rr⟩
      conv => whnf
      refine ⟨⟨_, s3⟩, (Nat.le_of_ble_eq_true rfl), _, _, _, c_R_entryAt' hfl s2, by first | omega | exact Nat.le_of_ble_eq_true rfl | (simp only [dl1, dl2, dl3, dl4, dl5, dl6]; omega), by first | omega | exact Nat.le_of_ble_eq_true rfl | (simp only [dl1, dl2, dl3, dl4, dl5, dl6]; omega), fun v g1 hh => ?_, fun C g1 hh => ?_⟩
      · obtain ⟨rfl, v, hv, hE⟩ := hh
        cases hv
        cases ho : atI S (idx S (L.take n)) with
        | none =>
          rw [ho] at hE
          cases hE
          conv => whnf
          refine ⟨⟨_, rfl, rfl⟩, ⟨?_, hf⟩, by first | omega | exact Nat.le_of_ble_eq_true rfl | (simp only [dl1, dl2, dl3, dl4, dl5, dl6]; omega), by first | omega | exact Nat.le_of_ble_eq_true rfl | (simp only [dl1, dl2, dl3, dl4, dl5, dl6]; omega)⟩
          rw [hasDir, hn]
          simp only [ho]
          rfl
        | some E =>
          rw [ho] at hE
          obtain ⟨b, rfl, ⟨pp, c, e1, -⟩⟩ := hE
          conv => whnf
          refine ⟨_, _, e1, rfl, ?_⟩
          conv => whnf
          refine ⟨fun h5 => ?_, fun h5 => ?_⟩
          · have h6 : ¬ E.2.1 = nI 2 := h5
            conv => whnf
            refine ⟨⟨_, rfl, rfl⟩, ⟨?_, hf⟩, by first | omega | exact Nat.le_of_ble_eq_true rfl | (simp only [dl1, dl2, dl3, dl4, dl5, dl6]; omega), by first | omega | exact Nat.le_of_ble_eq_true rfl | (simp only [dl1, dl2, dl3, dl4, dl5, dl6]; omega)⟩
            rw [hasDir, hn]
            simp only [ho, h6]
            rfl
          · have h6 : E.2.1 = nI 2 := Classical.not_not.mp h5
            conv => whnf
            refine ⟨⟨_, rfl, rfl⟩, ⟨?_, hf⟩, by first | omega | exact Nat.le_of_ble_eq_true rfl | (simp only [dl1, dl2, dl3, dl4, dl5, dl6]; omega), by first | omega | exact Nat.le_of_ble_eq_true rfl | (simp only [dl1, dl2, dl3, dl4, dl5, dl6]; omega)⟩
            rw [hasDir, hn]
            simp only [ho, h6]
            rfl
      · obtain ⟨-, v, hv, -⟩ := hh
        cases hv
    · obtain ⟨q, f1, hq, hv, -⟩ := hh
      cases hv
theorem c_K_chosenEntry (hfl : l.flags = pinnedFlags ++ [noTraceFlag]) (h : cK ad g R T S M Rs Hs X ch st tm dn rs) {E : Ent} (hc : atI S ch = some E) : k_CT l D aC n_K_chosenEntry 0 0 [.ref (ad 0)] g (fun oc g1 => g1 = g ∧ ∃ b, oc = .inl (some (.ref b)) ∧ en (UU ad) g b E) := by
  obtain ⟨hj, z1, t1, s1, -⟩ := id h
  obtain ⟨f2, s3, -⟩ := id s1
  refine k_ln hfl n_K_chosenEntry ok_K_chosenEntry rfl rfl rfl rfl rfl rfl (fun h => by cases h) (Nat.le_of_ble_eq_true rfl) 60 ?_
  conv => whnf
  refine ⟨_, _, z1, rfl, ?_⟩
  conv => whnf
  refine ⟨_, _, z1, rfl, ?_⟩
  conv => whnf
  refine ⟨⟨_, s3⟩, (Nat.le_of_ble_eq_true rfl), _, _, _, c_R_entryAt' hfl s1, by first | omega | exact Nat.le_of_ble_eq_true rfl | (simp only [dl1, dl2, dl3, dl4, dl5, dl6]; omega), by first | omega | exact Nat.le_of_ble_eq_true rfl | (simp only [dl1, dl2, dl3, dl4, dl5, dl6]; omega), fun v g1 hh => ?_, fun C g1 hh => ?_⟩
  · obtain ⟨rfl, v, hv, hE⟩ := hh
    cases hv
    rw [hc] at hE
    obtain ⟨b, rfl, hE⟩ := hE
    conv => whnf
    refine ⟨⟨_, rfl, Or.inl ⟨_, rfl⟩⟩, ⟨rfl, b, rfl, hE⟩, by first | omega | exact Nat.le_of_ble_eq_true rfl | (simp only [dl1, dl2, dl3, dl4, dl5, dl6]; omega), by first | omega | exact Nat.le_of_ble_eq_true rfl | (simp only [dl1, dl2, dl3, dl4, dl5, dl6]; omega)⟩
  · obtain ⟨-, v, hv, -⟩ := hh
    cases hv
theorem c_K_chosenEntry_no (hfl : l.flags = pinnedFlags ++ [noTraceFlag]) (h : cK ad g R T S M Rs Hs X ch st tm dn rs) (hc : atI S ch = none) : k_CT l D aC n_K_chosenEntry 1 6 [.ref (ad 0)] g (th IS g) := by
  obtain ⟨hj, z1, t1, s1, -⟩ := id h
  obtain ⟨f2, s3, -⟩ := id s1
  refine k_ln hfl n_K_chosenEntry ok_K_chosenEntry rfl rfl rfl rfl rfl rfl (fun h => by cases h) (Nat.le_of_ble_eq_true rfl) 60 ?_
  conv => whnf
  refine ⟨_, _, z1, rfl, ?_⟩
  conv => whnf
  refine ⟨_, _, z1, rfl, ?_⟩
  conv => whnf
  refine ⟨⟨_, s3⟩, (Nat.le_of_ble_eq_true rfl), _, _, _, c_R_entryAt' hfl s1, by first | omega | exact Nat.le_of_ble_eq_true rfl | (simp only [dl1, dl2, dl3, dl4, dl5, dl6]; omega), by first | omega | exact Nat.le_of_ble_eq_true rfl | (simp only [dl1, dl2, dl3, dl4, dl5, dl6]; omega), fun v g1 hh => ?_, fun C g1 hh => ?_⟩
  · obtain ⟨rfl, v, hv, hE⟩ := hh
    cases hv
    rw [hc] at hE
    cases hE
    conv => whnf
    refine ⟨(Nat.le_of_ble_eq_true rfl), ⟨rfl, rfl⟩, by first | omega | exact Nat.le_of_ble_eq_true rfl | (simp only [dl1, dl2, dl3, dl4, dl5, dl6]; omega), by first | omega | exact Nat.le_of_ble_eq_true rfl | (simp only [dl1, dl2, dl3, dl4, dl5, dl6]; omega)⟩
  · obtain ⟨-, v, hv, -⟩ := hh
    cases hv
/-- the chosen entry, if it has content -/
def chC (S : List Ent) (ch : Int32) : Option Ent := match atI S ch with
  | none => none
  | some E => if E.2.1 = nI 2 then none else some E
theorem chC_some {S : List Ent} {ch : Int32} {E : Ent} (h : chC S ch = some E) : atI S ch = some E ∧ ¬ E.2.1 = nI 2 := by
  unfold chC at h
  split at h
  · cases h
  · split at h
    · cases h
    · rename_i h1 h2; cases h; exact ⟨h1, h2⟩
theorem c_K_chosenWithContent (hfl : l.flags = pinnedFlags ++ [noTraceFlag]) (h : cK ad g R T S M Rs Hs X ch st tm dn rs) {E : Ent} (hc : chC S ch = some E) : k_CT l D aC n_K_chosenWithContent 0 0 [.ref (ad 0)] g (fun oc g1 => g1 = g ∧ ∃ b, oc = .inl (some (.ref b)) ∧ en (UU ad) g b E) := by
  obtain ⟨hc1, hc2⟩ := chC_some hc
  refine k_ln hfl n_K_chosenWithContent ok_K_chosenWithContent rfl rfl rfl rfl rfl rfl (fun h => by cases h) (Nat.le_of_ble_eq_true rfl) 60 ?_
  conv => whnf
  refine ⟨⟨_, h.2.1⟩, (Nat.le_of_ble_eq_true rfl), _, _, _, c_K_chosenEntry hfl h hc1, by first | omega | exact Nat.le_of_ble_eq_true rfl | (simp only [dl1, dl2, dl3, dl4, dl5, dl6]; omega), by first | omega | exact Nat.le_of_ble_eq_true rfl | (simp only [dl1, dl2, dl3, dl4, dl5, dl6]; omega), fun v g1 hh => ?_, fun C g1 hh => ?_⟩
  · obtain ⟨rfl, b, hv, hE⟩ := hh
    cases hv
    obtain ⟨pp, c, e1, -⟩ := id hE
    conv => whnf
    refine ⟨_, _, e1, rfl, ?_⟩
    conv => whnf
    refine ⟨fun _ => ?_, fun h => absurd hc2 h⟩
    conv => whnf
    refine ⟨⟨_, rfl, Or.inl ⟨_, rfl⟩⟩, ⟨rfl, b, rfl, hE⟩, by first | omega | exact Nat.le_of_ble_eq_true rfl | (simp only [dl1, dl2, dl3, dl4, dl5, dl6]; omega), by first | omega | exact Nat.le_of_ble_eq_true rfl | (simp only [dl1, dl2, dl3, dl4, dl5, dl6]; omega)⟩
  · obtain ⟨-, v, hv, -⟩ := hh
    cases hv
theorem c_K_chosenWithContent_no (hfl : l.flags = pinnedFlags ++ [noTraceFlag]) (h : cK ad g R T S M Rs Hs X ch st tm dn rs) (hc : chC S ch = none) : k_CT l D aC n_K_chosenWithContent 1 6 [.ref (ad 0)] g (th IS g) := by
  cases ho : atI S ch with
  | none =>
    refine k_ln hfl n_K_chosenWithContent ok_K_chosenWithContent rfl rfl rfl rfl rfl rfl (fun h => by cases h) (Nat.le_of_ble_eq_true rfl) 60 ?_
    conv => whnf
    refine ⟨⟨_, h.2.1⟩, (Nat.le_of_ble_eq_true rfl), _, _, _, c_K_chosenEntry_no hfl h ho, by first | omega | exact Nat.le_of_ble_eq_true rfl | (simp only [dl1, dl2, dl3, dl4, dl5, dl6]; omega), by first | omega | exact Nat.le_of_ble_eq_true rfl | (simp only [dl1, dl2, dl3, dl4, dl5, dl6]; omega), fun v g1 hh => ?_, fun C g1 hh => ?_⟩
    · cases hh.1
    · obtain ⟨hv, rfl⟩ := hh
      cases hv
      refine ⟨⟨rfl, rfl⟩, by first | omega | exact Nat.le_of_ble_eq_true rfl | (simp only [dl1, dl2, dl3, dl4, dl5, dl6]; omega), by first | omega | exact Nat.le_of_ble_eq_true rfl | (simp only [dl1, dl2, dl3, dl4, dl5, dl6]; omega)⟩
  | some E =>
    have hk : E.2.1 = nI 2 := by
      unfold chC at hc
      rw [ho] at hc
      simp only at hc
      split at hc
      · assumption
      · cases hc
    refine k_ln hfl n_K_chosenWithContent ok_K_chosenWithContent rfl rfl rfl rfl rfl rfl (fun h => by cases h) (Nat.le_of_ble_eq_true rfl) 60 ?_
    conv => whnf
    refine ⟨⟨_, h.2.1⟩, (Nat.le_of_ble_eq_true rfl), _, _, _, c_K_chosenEntry hfl h ho, by first | omega | exact Nat.le_of_ble_eq_true rfl | (simp only [dl1, dl2, dl3, dl4, dl5, dl6]; omega), by first | omega | exact Nat.le_of_ble_eq_true rfl | (simp only [dl1, dl2, dl3, dl4, dl5, dl6]; omega), fun v g1 hh => ?_, fun C g1 hh => ?_⟩
    · obtain ⟨rfl, b, hv, hE⟩ := hh
      cases hv
      obtain ⟨pp, c, e1, -⟩ := id hE
      conv => whnf
      refine ⟨_, _, e1, rfl, ?_⟩
      conv => whnf
      refine ⟨fun h => absurd h (fun z => z hk), fun _ => ?_⟩
      conv => whnf
      refine ⟨(Nat.le_of_ble_eq_true rfl), ⟨rfl, rfl⟩, by first | omega | exact Nat.le_of_ble_eq_true rfl | (simp only [dl1, dl2, dl3, dl4, dl5, dl6]; omega), by first | omega | exact Nat.le_of_ble_eq_true rfl | (simp only [dl1, dl2, dl3, dl4, dl5, dl6]; omega)⟩
    · obtain ⟨-, v, hv, -⟩ := hh
      cases hv
theorem c_K_choose (hfl : l.flags = pinnedFlags ++ [noTraceFlag]) (h : cK ad g R T S M Rs Hs X ch st tm dn rs) : k_CT l D aC n_K_choose 1 400 [.ref (ad 0)] g (kO ad g (.inl (some (.int (match atI S (idx S T) with | none => -1 | some E => E.2.1)))) R [] S M Rs Hs X (idx S T) st tm dn) := by
  obtain ⟨hj, z1, t1, s1, -⟩ := id h
  obtain ⟨f2, s3, -⟩ := id s1
  obtain ⟨r1, r2, t2, -, -, -, -, -, t3, -⟩ := id t1
  refine k_ln hfl n_K_choose ok_K_choose rfl rfl rfl rfl rfl rfl (fun h => by cases h) (Nat.le_of_ble_eq_true rfl) 60 ?_
  conv => whnf
  refine ⟨_, _, z1, rfl, ?_⟩
  conv => whnf
  refine ⟨_, _, z1, rfl, ?_⟩
  conv => whnf
  refine ⟨⟨_, t2⟩, (Nat.le_of_ble_eq_true rfl), _, _, _, c_T_takeAll hfl t1, by first | omega | exact Nat.le_of_ble_eq_true rfl | (simp only [dl1, dl2, dl3, dl4, dl5, dl6]; omega), by first | omega | exact Nat.le_of_ble_eq_true rfl | (simp only [dl1, dl2, dl3, dl4, dl5, dl6]; omega), fun v g1 hh => ?_, fun C g1 hh => ?_⟩
  · obtain ⟨q, hv, hq, hby, hT, hfr⟩ := hh
    cases hv
    obtain ⟨u1, u2, u3, -⟩ := id hT
    have hf : fx (List.map ad [1, 2, 3]) g g1 := fx_of_fr hfr (fun r hr => by
      simp only [List.mem_cons, List.not_mem_nil, or_false] at hr
      rcases hr with rfl | rfl
      · exact Or.inr ⟨by simp, nn_of u3⟩
      · exact Or.inl hq)
    have h1 := cK_tp h hT hf
    obtain ⟨-, z2, -, s4, -⟩ := id h1
    obtain ⟨f5, s5, -⟩ := id s4
    conv => whnf
    refine ⟨⟨_, s5⟩, (Nat.le_of_ble_eq_true rfl), _, _, _, c_R_indexOf hfl s4 hby, by first | omega | exact Nat.le_of_ble_eq_true rfl | (simp only [dl1, dl2, dl3, dl4, dl5, dl6]; omega), by first | omega | exact Nat.le_of_ble_eq_true rfl | (simp only [dl1, dl2, dl3, dl4, dl5, dl6]; omega), k_rl ?_, k_rr⟩
    conv => whnf
    refine ⟨_, z2, by simp, rfl, rfl, ?_⟩
    have h2 := cK_z (ch1 := idx S T) (st1 := st) (tm1 := tm) (dn1 := dn) h1
    have hf2 : fx (UU ad) g (g_up g1 (ad 0) (oK ad rs (idx S T) st tm dn)) := fx_up (fx_sub hf (sUU rfl)) (iUU rfl)
    obtain ⟨-, z3, -, s6, -⟩ := id h2
    obtain ⟨f7, s7, -⟩ := id s6
    conv => whnf
    refine ⟨_, _, z3, rfl, ?_⟩
    conv => whnf
    refine ⟨_, _, z3, rfl, ?_⟩
    conv => whnf
    refine ⟨⟨_, s7⟩, (Nat.le_of_ble_eq_true rfl), _, _, _, c_R_entryAt' hfl s6, by first | omega | exact Nat.le_of_ble_eq_true rfl | (simp only [dl1, dl2, dl3, dl4, dl5, dl6]; omega), by first | omega | exact Nat.le_of_ble_eq_true rfl | (simp only [dl1, dl2, dl3, dl4, dl5, dl6]; omega), fun v g1 hh => ?_, fun C g1 hh => ?_⟩
    · obtain ⟨rfl, v, hv, hE⟩ := hh
      cases hv
      cases ho : atI S (idx S T) with
      | none =>
        rw [ho] at hE
        cases hE
        conv => whnf
        refine ⟨⟨_, rfl, rfl⟩, ⟨rfl, hf2, rs, h2⟩, by first | omega | exact Nat.le_of_ble_eq_true rfl | (simp only [dl1, dl2, dl3, dl4, dl5, dl6]; omega), by first | omega | exact Nat.le_of_ble_eq_true rfl | (simp only [dl1, dl2, dl3, dl4, dl5, dl6]; omega)⟩
      | some E =>
        rw [ho] at hE
        obtain ⟨b, rfl, ⟨pp, c, e1, -⟩⟩ := hE
        conv => whnf
        refine ⟨_, _, e1, rfl, ?_⟩
        conv => whnf
        refine ⟨⟨_, rfl, rfl⟩, ⟨rfl, hf2, rs, h2⟩, by first | omega | exact Nat.le_of_ble_eq_true rfl | (simp only [dl1, dl2, dl3, dl4, dl5, dl6]; omega), by first | omega | exact Nat.le_of_ble_eq_true rfl | (simp only [dl1, dl2, dl3, dl4, dl5, dl6]; omega)⟩
    · obtain ⟨-, v, hv, -⟩ := hh
      cases hv
  · obtain ⟨q, hv, -⟩ := hh
    cases hv
end KM
