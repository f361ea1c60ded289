/-! MirrorKeep$Session, MirrorKeep$History */ -/
section HISTP
/-- time, how many changes, the tree -/
abbrev Ses : Type := Int32 × Nat × List Ent
def trI (U : List Nat) (g : g_H) (t : Nat) (L : List Ent) : Prop := ∃ a, tr U g t a L ∧ t ∉ U ∧ a ∉ U
theorem trI_fx {S U : List Nat} {g g1 : g_H} {t : Nat} {L : List Ent} (h : trI U g t L) (h1 : fx S g g1) (hs : ∀ q ∈ S, q ∈ U) : trI U g1 t L := by
  obtain ⟨a, h2, h3, h4⟩ := h
  exact ⟨a, tr_fx h2 h1 hs (fun z => h3 (hs _ z)) (fun z => h4 (hs _ z)), h3, h4⟩
def se (U : List Nat) (g : g_H) (b : Nat) (S : Ses) : Prop := ∃ t, g b = some (.inr (6, [.int S.1, .int (nI S.2.1), .ref t])) ∧ trI U g t S.2.2 ∧ b ∉ U
theorem se_fx {S U : List Nat} {g g1 : g_H} {b : Nat} {L : Ses} (h : se U g b L) (h1 : fx S g g1) (hs : ∀ q ∈ S, q ∈ U) : se U g1 b L := by
  obtain ⟨t, h2, h3, h4⟩ := h
  exact ⟨t, fx_at h1 h2 (fun z => h4 (hs _ z)), trI_fx h3 h1 hs, h4⟩
abbrev rc4 (f : Nat → Option Nat) : g_C := .inl (4, 40, .inr (.inr (.inr (.inr f))))
def his (U : List Nat) (g : g_H) (h ha : Nat) (Hs : List Ses) : Prop := ∃ f : Nat → Option Nat, g h = some (.inr (5, [.ref ha, .int (nI Hs.length)])) ∧ g ha = some (rc4 f) ∧ Hs.length ≤ 40 ∧ ∀ i S, Hs[i]? = some S → ∃ b, f i = some b ∧ se U g b S
theorem his_fx {S U : List Nat} {g g1 : g_H} {h ha : Nat} {Hs : List Ses} (hh : his U g h ha Hs) (h1 : fx S g g1) (hs : ∀ q ∈ S, q ∈ U) (n1 : h ∉ S) (n2 : ha ∉ S) : his U g1 h ha Hs := by
  obtain ⟨f, a1, a2, a3, a4⟩ := hh
  exact ⟨f, fx_at h1 a1 n1, fx_at h1 a2 n2, a3, fun i E hE => (a4 i E hE).imp fun b hb => ⟨hb.1, se_fx hb.2 h1 hs⟩⟩
def oS (U : List Nat) (g : g_H) (v : Value) (o : Option Ses) : Prop := match o with
  | none => v = .null
  | some E => ∃ b, v = .ref b ∧ se U g b E
/-- the latest session of the first n that is not above x -/
def lastLe (Hs : List Ses) (x : Int32) : Nat → Option Nat
  | 0 => none
  | n + 1 => if ∃ S, Hs[n]? = some S ∧ S.1.toInt ≤ x.toInt then some n else lastLe Hs x n
def sumH (Hs : List Ses) : Nat := ((Hs.drop 1).map (fun S => S.2.1)).sum
theorem sumH_s {Hs : List Ses} {i : Nat} {S : Ses} (h : Hs[i]? = some S) (hi : 1 ≤ i) : sumH (Hs.take (i + 1)) = sumH (Hs.take i) + S.2.1 := by
  have hl := (List.getElem?_eq_some_iff.mp h).1
  unfold sumH
  rw [List.take_add_one, h, List.drop_append_of_le_length (by simp; omega)]
  simp
end HISTP
section HIST
variable {l : Launch} {D : va_G} {aC : Nat → ClassId}
theorem c_S_init (hfl : l.flags = pinnedFlags ++ [noTraceFlag]) {q t : Nat} {x c : Int32} {g : g_H} (hq : g q = some (.inr (6, [.int 0, .int 0, .null]))) : k_CT l D aC n_S_init 0 0 [.ref q, .int x, .int c, .ref t] g (rt none (g_up g q (.inr (6, [.int x, .int c, .ref t])))) := by
  refine k_ln hfl n_S_init ok_S_init rfl rfl rfl rfl rfl rfl (fun _ => rfl) (Nat.le_of_ble_eq_true rfl) 60 ?_
  conv => whnf
  refine ⟨(Nat.le_of_ble_eq_true rfl), ?_⟩
  conv => whnf
  refine ⟨_, hq, by simp, rfl, rfl, ?_⟩
  conv => whnf
  refine ⟨_, g_up_s, by simp, rfl, rfl, ?_⟩
  conv => whnf
  refine ⟨_, g_up_s, by simp, rfl, rfl, ?_⟩
  conv => whnf
  refine ⟨rfl, ⟨rfl, ?_⟩, by first | omega | exact Nat.le_of_ble_eq_true rfl | (simp only [dl1, dl2, dl3, dl4, dl5, dl6]; omega), by first | omega | exact Nat.le_of_ble_eq_true rfl | (simp only [dl1, dl2, dl3, dl4, dl5, dl6]; omega)⟩
  rw [g_up_up, g_up_up]
  rfl
theorem c_H_init (hfl : l.flags = pinnedFlags ++ [noTraceFlag]) {U : List Nat} {h : Nat} {g : g_H} (h1 : g h = some (.inr (5, [.null, .int 0]))) : k_CT l D aC n_H_init 1 40 [.ref h] g (fun oc g1 => ∃ a, oc = .inl none ∧ g a = none ∧ his U g1 h a [] ∧ fx [h] g g1) := by
  refine k_ln hfl n_H_init ok_H_init rfl rfl rfl rfl rfl rfl (fun _ => rfl) (Nat.le_of_ble_eq_true rfl) 60 ?_
  conv => whnf
  refine ⟨(Nat.le_of_ble_eq_true rfl), ?_⟩
  conv => whnf
  refine ⟨40, rfl, by decide, by decide, by decide, fun a ha => ?_⟩
  have n1 := g_nn h1 ha
  conv => whnf
  refine ⟨_, (by rw [g_up_n n1]; exact h1), by simp, rfl, rfl, ?_⟩
  conv => whnf
  refine ⟨_, g_up_s, by simp, rfl, rfl, ?_⟩
  conv => whnf
  refine ⟨rfl, ?_, by first | omega | exact Nat.le_of_ble_eq_true rfl | (simp only [dl1, dl2, dl3, dl4, dl5, dl6]; omega), by first | omega | exact Nat.le_of_ble_eq_true rfl | (simp only [dl1, dl2, dl3, dl4, dl5, dl6]; omega)⟩
  refine ⟨a, rfl, ha, ⟨fun _ => none, by rw [g_up_s]; rfl, ?_, by simp, fun i E h => by simp at h⟩, fx_up (fx_up (fx_new fx_rf ha) (by simp)) (by simp)⟩
  rw [g_up_n n1.symm, g_up_n n1.symm, g_up_s]
theorem c_H_size (hfl : l.flags = pinnedFlags ++ [noTraceFlag]) {U : List Nat} {h ha : Nat} {Hs : List Ses} {g : g_H} (hH : his U g h ha Hs) : k_CT l D aC n_H_size 0 0 [.ref h] g (rt (some (.int (nI Hs.length))) g) := by
  obtain ⟨f, a1, -⟩ := hH
  refine k_ln hfl n_H_size ok_H_size rfl rfl rfl rfl rfl rfl (fun h => by cases h) (Nat.le_of_ble_eq_true rfl) 60 ?_
  conv => whnf
  refine ⟨_, _, a1, rfl, ?_⟩
  conv => whnf
  refine ⟨⟨_, rfl, rfl⟩, ⟨rfl, rfl⟩, by first | omega | exact Nat.le_of_ble_eq_true rfl | (simp only [dl1, dl2, dl3, dl4, dl5, dl6]; omega), by first | omega | exact Nat.le_of_ble_eq_true rfl | (simp only [dl1, dl2, dl3, dl4, dl5, dl6]; omega)⟩
theorem c_H_sessionAt (hfl : l.flags = pinnedFlags ++ [noTraceFlag]) {U : List Nat} {h ha : Nat} {Hs : List Ses} {x : Int32} {g : g_H} (hH : his U g h ha Hs) : k_CT l D aC n_H_sessionAt 0 0 [.ref h, .int x] g (fun oc g1 => g1 = g ∧ ∃ v, oc = .inl (some v) ∧ oS U g v (atI Hs x)) := by
  obtain ⟨f, a1, a2, a3, a4⟩ := hH
  refine k_ln hfl n_H_sessionAt ok_H_sessionAt rfl rfl rfl rfl rfl rfl (fun h => by cases h) (Nat.le_of_ble_eq_true rfl) 60 ?_
  conv => whnf
  refine ⟨fun h => ?_, fun h => ?_⟩
  · have h : x.toInt < 0 := h
    conv => whnf
    refine ⟨⟨_, rfl, Or.inl ⟨_, rfl⟩⟩, ?_, by first | omega | exact Nat.le_of_ble_eq_true rfl | (simp only [dl1, dl2, dl3, dl4, dl5, dl6]; omega), by first | omega | exact Nat.le_of_ble_eq_true rfl | (simp only [dl1, dl2, dl3, dl4, dl5, dl6]; omega)⟩
    exact ⟨rfl, _, rfl, by rw [atI, if_pos h]; rfl⟩
  · have h : ¬ x.toInt < 0 := h
    obtain ⟨hx, hlt⟩ := nI_ofT h
    have hat : atI Hs x = Hs[x.toInt.toNat]? := by rw [atI, if_neg h]
    rw [hat]
    generalize x.toInt.toNat = i at hx hlt
    subst hx
    conv => whnf
    refine ⟨_, _, a1, rfl, ?_⟩
    conv => whnf
    refine ⟨fun h1 => ?_, fun h1 => ?_⟩
    · have h2 := (q_lt (by omega) (by omega)).mp h1
      obtain ⟨b, hb, hE⟩ := a4 i _ (List.getElem?_eq_getElem h2)
      conv => whnf
      refine ⟨_, _, a1, rfl, ?_⟩
      conv => whnf
      refine ⟨_, _, _, i, _, a2, rfl, rfl, by omega, by omega, fun hN => ?_, fun b hB => ?_⟩
      · rw [hb] at hN; cases hN
      · rw [hb] at hB
        cases hB
        conv => whnf
        refine ⟨⟨_, rfl, Or.inl ⟨_, rfl⟩⟩, ?_, by first | omega | exact Nat.le_of_ble_eq_true rfl | (simp only [dl1, dl2, dl3, dl4, dl5, dl6]; omega), by first | omega | exact Nat.le_of_ble_eq_true rfl | (simp only [dl1, dl2, dl3, dl4, dl5, dl6]; omega)⟩
        exact ⟨rfl, _, rfl, by rw [List.getElem?_eq_getElem h2]; exact ⟨b, rfl, hE⟩⟩
    · have h2 : ¬ i < Hs.length := fun z => h1 ((q_lt (by omega) (by omega)).mpr z)
      conv => whnf
      refine ⟨⟨_, rfl, Or.inl ⟨_, rfl⟩⟩, ?_, by first | omega | exact Nat.le_of_ble_eq_true rfl | (simp only [dl1, dl2, dl3, dl4, dl5, dl6]; omega), by first | omega | exact Nat.le_of_ble_eq_true rfl | (simp only [dl1, dl2, dl3, dl4, dl5, dl6]; omega)⟩
      exact ⟨rfl, _, rfl, by rw [List.getElem?_eq_none (by omega)]; rfl⟩
theorem up4 {U : List Nat} {g : g_H} {a b : Nat} {E : Ses} {e : g_C} (h : se U g b E) (ha : a ∈ U) : se U (g_up g a e) b E := se_fx (S := [a]) h (fx_up fx_rf (by simp)) (fun q hq => by
  rw [List.mem_singleton.mp hq]; exact ha)
theorem c_H_add (hfl : l.flags = pinnedFlags ++ [noTraceFlag]) {U : List Nat} {h ha b : Nat} {Hs : List Ses} {S : Ses} {g : g_H} (hH : his U g h ha Hs) (hS : se U g b S) (hl : Hs.length < 40) (ht : h ∈ U) (ht2 : ha ∈ U) : k_CT l D aC n_H_add 0 0 [.ref h, .ref b] g (fun oc g1 => oc = .inl none ∧ his U g1 h ha (Hs ++ [S]) ∧ fx [h, ha] g g1) := by
  obtain ⟨f, a1, a2, a3, a4⟩ := hH
  have n1 : h ≠ ha := g_ne a1 a2 (by simp)
  obtain ⟨t, s1, -, s3⟩ := id hS
  refine k_ln hfl n_H_add ok_H_add rfl rfl rfl rfl rfl rfl (fun h => by cases h) (Nat.le_of_ble_eq_true rfl) 60 ?_
  conv => whnf
  refine ⟨_, _, a1, rfl, ?_⟩
  conv => whnf
  refine ⟨_, _, a1, rfl, ?_⟩
  conv => whnf
  refine Or.inl ⟨_, _, a2, by decide, ?_⟩
  conv => whnf
  refine ⟨fun h => absurd h (fun z => absurd ((q_ge (by omega) (show (40 : Nat) < 2 ^ 31 by decide)).mp z) (show ¬ (40 : Nat) ≤ Hs.length by omega)), fun _ => ?_⟩
  conv => whnf
  refine ⟨_, _, a1, rfl, ?_⟩
  conv => whnf
  refine ⟨_, _, a1, rfl, ?_⟩
  conv => whnf
  refine ⟨4, 40, _, _, 6, _, a2, s1, rfl, rfl, rfl, hl, by decide, ?_⟩
  conv => whnf
  refine ⟨_, _, (by rw [g_up_n n1]; exact a1), rfl, ?_⟩
  conv => whnf
  refine ⟨_, (by rw [g_up_n n1]; exact a1), by simp, rfl, rfl, ?_⟩
  conv => whnf
  refine ⟨rfl, ?_, by first | omega | exact Nat.le_of_ble_eq_true rfl | (simp only [dl1, dl2, dl3, dl4, dl5, dl6]; omega), by first | omega | exact Nat.le_of_ble_eq_true rfl | (simp only [dl1, dl2, dl3, dl4, dl5, dl6]; omega)⟩
  refine ⟨rfl, ⟨_, by rw [g_up_s, List.length_append, nI_add]; rfl, by rw [g_up_n n1.symm]; exact g_up_s, by simp; omega, fun i E hE => ?_⟩, fx_up (fx_up fx_rf (by simp)) (by simp)⟩
  by_cases hi : i < Hs.length
  · rw [List.getElem?_append_left hi] at hE
    obtain ⟨b1, hb1, hS1⟩ := a4 i E hE
    exact ⟨b1, by rw [va_up_ne _ _ (by omega)]; exact hb1, up4 (up4 hS1 ht2) ht⟩
  · have h2 := (List.getElem?_eq_some_iff.mp hE).1
    have h3 : i = Hs.length := by simp at h2; omega
    subst h3
    rw [List.getElem?_append_right (Nat.le_refl _), Nat.sub_self] at hE
    cases hE
    exact ⟨b, va_up_self _ _ _, up4 (up4 hS ht2) ht⟩
theorem c_H_latestNotAbove (hfl : l.flags = pinnedFlags ++ [noTraceFlag]) {U : List Nat} {h ha : Nat} {Hs : List Ses} {x : Int32} {g : g_H} (hH : his U g h ha Hs) : k_CT l D aC n_H_latestNotAbove 0 0 [.ref h, .int x] g (rt (some (.int (slI (lastLe Hs x Hs.length)))) g) := by
  obtain ⟨f, a1, a2, a3, a4⟩ := hH
  refine k_while hfl n_H_latestNotAbove ok_H_latestNotAbove rfl rfl rfl rfl rfl rfl (fun h => by cases h) (Nat.le_of_ble_eq_true rfl) [7] (fun pc d lv g1 k n => ∃ c, pc = 7 ∧ d = c ∧ lv = [(0, .ref h), (1, .int x), (2, .int (dI c))] ∧ g1 = g ∧ k = 0 ∧ n = 0 ∧ c ≤ Hs.length ∧ lastLe Hs x Hs.length = lastLe Hs x c) 60 ?_ 80 ?_
  · conv => whnf
    refine ⟨_, _, a1, rfl, ?_⟩
    conv => whnf
    exact ⟨rfl, _, _, ⟨Hs.length, rfl, rfl, rfl, rfl, rfl, rfl, by omega, rfl⟩, rfl, rfl, rfl, trivial⟩
  · rintro d pc lv g1 k n ⟨c, rfl, rfl, rfl, rfl, rfl, rfl, hc, he⟩
    cases d with
    | zero =>
      conv => whnf
      refine ⟨fun _ => ?_, fun h => absurd dI_lt0 h⟩
      conv => whnf
      refine ⟨⟨_, rfl, rfl⟩, ⟨?_, rfl⟩, by first | omega | exact Nat.le_of_ble_eq_true rfl | (simp only [dl1, dl2, dl3, dl4, dl5, dl6]; omega), by first | omega | exact Nat.le_of_ble_eq_true rfl | (simp only [dl1, dl2, dl3, dl4, dl5, dl6]; omega)⟩
      rw [he]
      rfl
    | succ c =>
      rw [dI_s]
      have hS1 := List.getElem?_eq_getElem (by omega : c < Hs.length)
      obtain ⟨b, hb, ⟨t, s1, -⟩⟩ := a4 c _ hS1
      conv => whnf
      refine ⟨fun h => absurd h (q_lt0 (by omega)), fun _ => ?_⟩
      conv => whnf
      refine ⟨_, _, a1, rfl, ?_⟩
      conv => whnf
      refine ⟨_, _, _, c, _, a2, rfl, rfl, by omega, by omega, fun hN => ?_, fun b hB => ?_⟩
      · rw [hb] at hN; cases hN
      · rw [hb] at hB
        cases hB
        conv => whnf
        refine ⟨_, _, s1, rfl, ?_⟩
        conv => whnf
        refine ⟨fun h1 => ?_, fun h1 => ?_⟩
        · have h2 : x.toInt < Hs[c].1.toInt := h1
          conv => whnf
          exact ⟨rfl, _, _, by omega, ⟨c, rfl, rfl, rfl, rfl, rfl, rfl, by omega, by
            rw [he, lastLe, if_neg]
            rintro ⟨S, hS, hle⟩
            rw [hS1] at hS
            cases hS
            omega⟩, rfl, rfl, congrArg (fun z => some (Value.int z)) (dI_m c), trivial⟩
        · have h2 : ¬ x.toInt < Hs[c].1.toInt := h1
          conv => whnf
          refine ⟨⟨_, rfl, rfl⟩, ⟨?_, rfl⟩, by first | omega | exact Nat.le_of_ble_eq_true rfl | (simp only [dl1, dl2, dl3, dl4, dl5, dl6]; omega), by first | omega | exact Nat.le_of_ble_eq_true rfl | (simp only [dl1, dl2, dl3, dl4, dl5, dl6]; omega)⟩
          rw [he, lastLe, if_pos ⟨_, hS1, by omega⟩]
          rfl
theorem c_H_forget_no (hfl : l.flags = pinnedFlags ++ [noTraceFlag]) {U : List Nat} {h ha : Nat} {Hs : List Ses} {x : Int32} {g : g_H} (hx : x.toInt ≤ 0) : k_CT l D aC n_H_forgetAheadOf 0 0 [.ref h, .int x] g (rt (some (.int (nI 0))) g) := by
  refine k_ln hfl n_H_forgetAheadOf ok_H_forgetAheadOf rfl rfl rfl rfl rfl rfl (fun h => by cases h) (Nat.le_of_ble_eq_true rfl) 60 ?_
  conv => whnf
  refine ⟨fun _ => ?_, fun h => absurd (show x.toInt ≤ (0 : Int32).toInt from hx) h⟩
  conv => whnf
  refine ⟨⟨_, rfl, rfl⟩, ⟨rfl, rfl⟩, by first | omega | exact Nat.le_of_ble_eq_true rfl | (simp only [dl1, dl2, dl3, dl4, dl5, dl6]; omega), by first | omega | exact Nat.le_of_ble_eq_true rfl | (simp only [dl1, dl2, dl3, dl4, dl5, dl6]; omega)⟩
theorem c_H_forget (hfl : l.flags = pinnedFlags ++ [noTraceFlag]) {U : List Nat} {h ha i : Nat} {Hs : List Ses} {g : g_H} (hH : his U g h ha Hs) (hi : 0 < i) (hil : i < Hs.length) (ht : h ∈ U) (ht2 : ha ∈ U) : k_CT l D aC n_H_forgetAheadOf 0 0 [.ref h, .int (nI i)] g (fun oc g1 => oc = .inl (some (.int (nI i))) ∧ his U g1 h ha (Hs.drop i) ∧ fx [h, ha] g g1) := by
  obtain ⟨f, a1, a2, a3, a4⟩ := hH
  have n1 : h ≠ ha := g_ne a1 a2 (by simp)
  refine k_ln hfl n_H_forgetAheadOf ok_H_forgetAheadOf rfl rfl rfl rfl rfl rfl (fun h => by cases h) (Nat.le_of_ble_eq_true rfl) 60 ?_
  conv => whnf
  refine ⟨fun h => absurd h (fun z => absurd ((q_le0 (by omega)).mp z) (by omega)), fun _ => ?_⟩
  conv => whnf
  refine ⟨_, _, a1, rfl, ?_⟩
  conv => whnf
  refine ⟨fun _ => ?_, fun h => absurd ((q_lt (by omega) (by omega)).mpr hil) h⟩
  conv => whnf
  refine ⟨_, _, a1, rfl, ?_⟩
  conv => whnf
  refine ⟨_, a1, by simp, rfl, rfl, ?_⟩
  have hcell : g_up g h (.inr (5, List.set [Value.ref ha, .int (nI Hs.length)] 1 (.int (nI Hs.length - nI i)))) h = some (.inr (5, [.ref ha, .int (nI (Hs.length - i))])) := by
    rw [g_up_s, pk_sub (by omega)]
    rfl
  conv => whnf
  refine ⟨_, _, hcell, rfl, ?_⟩
  conv => whnf
  refine ⟨_, _, hcell, rfl, ?_⟩
  conv => whnf
  refine ⟨_, _, hcell, rfl, ?_⟩
  conv => whnf
  refine ⟨(Nat.le_of_ble_eq_true rfl), 4, 40, 40, i, 0, Hs.length - i, rfl, rfl, rfl, by decide, by decide, by omega, by omega, Or.inr ⟨f, f, 6, by rw [g_up_n n1.symm]; exact a2, by rw [g_up_n n1.symm]; exact a2, by decide, rfl, rfl, by decide, fun j hj y hy => ?_, ?_⟩⟩
  · obtain ⟨b1, hb1, hE⟩ := a4 (i + j) _ (List.getElem?_eq_getElem (by omega))
    obtain ⟨t, e5, -⟩ := up4 hE ht
    rw [hy] at hb1
    cases hb1
    exact ⟨_, e5⟩
  conv => whnf
  refine ⟨⟨_, rfl, rfl⟩, ?_, by first | omega | exact Nat.le_of_ble_eq_true rfl | (simp only [dl1, dl2, dl3, dl4, dl5, dl6]; omega), by first | omega | exact Nat.le_of_ble_eq_true rfl | (simp only [dl1, dl2, dl3, dl4, dl5, dl6]; omega)⟩
  refine ⟨rfl, ⟨_, by rw [g_up_n n1, List.length_drop]; exact hcell, g_up_s, by simp; omega, fun j F hF => ?_⟩, fx_up (fx_up fx_rf (by simp)) (by simp)⟩
  rw [List.getElem?_drop] at hF
  obtain ⟨b1, hb1, hE1⟩ := a4 _ F hF
  have h6 := (List.getElem?_eq_some_iff.mp hF).1
  refine ⟨b1, ?_, up4 (up4 hE1 ht) ht2⟩
  rw [pk_cpy_in (by omega) (by omega), Nat.sub_zero]
  exact hb1
theorem c_H_increments (hfl : l.flags = pinnedFlags ++ [noTraceFlag]) {U : List Nat} {h ha : Nat} {Hs : List Ses} {g : g_H} (hH : his U g h ha Hs) : k_CT l D aC n_H_increments 0 0 [.ref h] g (rt (some (.int (nI (sumH Hs)))) g) := by
  obtain ⟨f, a1, a2, a3, a4⟩ := hH
  refine k_while hfl n_H_increments ok_H_increments rfl rfl rfl rfl rfl rfl (fun h => by cases h) (Nat.le_of_ble_eq_true rfl) [4] (fun pc d lv g1 k n => ∃ i, pc = 4 ∧ d = Hs.length - i ∧ lv = [(0, .ref h), (1, .int (nI (sumH (Hs.take i)))), (2, .int (nI i))] ∧ g1 = g ∧ k = 0 ∧ n = 0 ∧ 1 ≤ i ∧ (i ≤ Hs.length ∨ i = 1)) 60 ?_ 80 ?_
  · conv => whnf
    refine ⟨rfl, _, _, ⟨1, rfl, rfl, rfl, rfl, rfl, rfl, by omega, Or.inr rfl⟩, rfl, ?_, rfl, trivial⟩
    rw [sumH, List.drop_take]
    rfl
  · rintro d pc lv g1 k n ⟨i, rfl, rfl, rfl, rfl, rfl, rfl, hi, hi2⟩
    conv => whnf
    refine ⟨_, _, a1, rfl, ?_⟩
    conv => whnf
    refine ⟨fun h1 => ?_, fun h1 => ?_⟩
    · have h9 := (q_ge (by omega) (by omega)).mp h1
      conv => whnf
      refine ⟨⟨_, rfl, rfl⟩, ⟨?_, rfl⟩, by first | omega | exact Nat.le_of_ble_eq_true rfl | (simp only [dl1, dl2, dl3, dl4, dl5, dl6]; omega), by first | omega | exact Nat.le_of_ble_eq_true rfl | (simp only [dl1, dl2, dl3, dl4, dl5, dl6]; omega)⟩
      rw [List.take_of_length_le h9]
    · have h9 : i < Hs.length := Nat.lt_of_not_le fun z => h1 ((q_ge (by omega) (by omega)).mpr z)
      have hS1 := List.getElem?_eq_getElem h9
      obtain ⟨b, hb, ⟨t, s1, -⟩⟩ := a4 i _ hS1
      conv => whnf
      refine ⟨_, _, a1, rfl, ?_⟩
      conv => whnf
      refine ⟨_, _, _, i, _, a2, rfl, rfl, by omega, by omega, fun hN => ?_, fun b hB => ?_⟩
      · rw [hb] at hN; cases hN
      · rw [hb] at hB
        cases hB
        conv => whnf
        refine ⟨_, _, s1, rfl, ?_⟩
        conv => whnf
        exact ⟨rfl, _, _, by omega, ⟨i + 1, rfl, rfl, rfl, rfl, rfl, rfl, by omega, Or.inl (by omega)⟩, rfl, by rw [sumH_s hS1 hi, ← nI_add]; rfl, sI i, trivial⟩
end HIST
