/-! MirrorKeep$Paths: names, paths, what lies below, the directory -/
section NAMES
def b2 (b : Bool) : Int32 := if b then nI 1 else nI 0
def slc (L : List Nat) (s e : Nat) : List Nat := (L.drop s).take (e - s)
/-- how many dots stand at s .. i -/
def dots (L : List Nat) (s : Nat) : Nat → Nat
  | 0 => 0
  | i + 1 => dots L s i + if s ≤ i ∧ L.getD i 0 = 46 then 1 else 0
/-- a name: its places s .. e of a list -/
def nmOk (L : List Nat) (s e : Nat) : Bool := decide (1 ≤ e - s ∧ e - s ≤ 24) && decide (∀ i, i < e → s ≤ i → L.getD i 0 ≠ 0) && !(decide (dots L s e = e - s) && decide (e - s ≤ 2))
/-- a path: from i on, the name begun at s, so many names behind */ -/
def ptGo (L : List Nat) : Nat → Nat → Nat → Nat → Bool
  | 0, _, _, _ => false
  | f + 1, i, s, c => if i < L.length ∧ L.getD i 0 ≠ 47 then ptGo L f (i + 1) s c else nmOk L s i && (if i = L.length then decide (c + 1 ≤ 6) else ptGo L f (i + 1) (i + 1) (c + 1))
def ptOk (L : List Nat) : Bool := ptGo L (L.length + 1) 0 0 0
def lastSl (L : List Nat) : Nat → Option Nat
  | 0 => none
  | n + 1 => if L.getD n 0 = 47 then some n else lastSl L n
def slI (r : Option Nat) : Int32 := match r with
  | none => -1
  | some i => nI i
/-- U itself, or below it -/
def isBel (L U : List Nat) : Bool := decide (U.length ≤ L.length) && decide (∀ i, i < U.length → L.getD i 0 = U.getD i 0) && (decide (L.length = U.length) || decide (L.getD U.length 0 = 47))
theorem dots_le (L : List Nat) (s : Nat) : ∀ i, dots L s i ≤ i - s
  | 0 => by simp [dots]
  | i + 1 => by
    have := dots_le L s i
    unfold dots
    split <;> omega
theorem dots_s (L : List Nat) (s : Nat) : dots L s s = 0 := by have := dots_le L s s; omega
end NAMES
section PATHS2
variable {l : Launch} {D : va_G} {aC : Nat → ClassId}
abbrev P_nm_lv (a s e d i : Nat) : w_L := [(0, .ref a), (1, .int (nI s)), (2, .int (nI e)), (3, .int (nI (e - s))), (4, .int (nI d)), (5, .int (nI i))]
set_option maxHeartbeats 1000000 in
theorem c_P_isName_loop {a : Nat} {L : List Nat} {g : g_H} (h1 : isBy g a L) {s e : Nat} (hse : s ≤ e) (he : e ≤ L.length) : ∀ (d i : Nat), e ≤ i + d → i ≤ e → s ≤ i → (∀ j, j < i → s ≤ j → L.getD j 0 ≠ 0) →
    k_T l D aC "MirrorKeep$Paths" (k_mt n_P_isName).2.1 6 0 0 (k_mt n_P_isName).2.2.2.1 [] false none 0 0 g (rt (some (.int (b2 (nmOk L s e)))) g) 10 (P_nm_lv a s e (dots L s i) i) [] g 0 0 := by
  obtain ⟨f, h1, h2, h3, h4⟩ := h1
  intro d
  induction d with
  | zero =>
    intro i h5 h6 h7 hz
    obtain rfl : i = e := by omega
    have hdl := dots_le L s i
    refine k_run ok_P_isName [] k_none (fun _ _ _ _ _ _ h => h.elim) 60 ?_
    conv => whnf
    refine ⟨fun _ => ?_, fun h => absurd ((q_ge (by omega) (by omega)).mpr (by omega)) h⟩
    have hz2 : decide (∀ j, j < i → s ≤ j → L.getD j 0 ≠ 0) = true := decide_eq_true hz
    conv => whnf
    refine ⟨fun h => ?_, fun h => ?_⟩
    · have hne : dots L s i ≠ i - s := (q_ne (by omega) (by omega)).mp h
      conv => whnf
      refine ⟨fun h => ?_, fun h => ?_⟩
      · have hlt := (q_lt (by omega) (by omega)).mp h
        conv => whnf
        refine ⟨⟨_, rfl, rfl⟩, ⟨?_, rfl⟩, Nat.le_refl _, Nat.le_refl _⟩
        rw [nmOk, decide_eq_false (by omega : ¬ (1 ≤ i - s ∧ i - s ≤ 24))]
        rfl
      · have hge : 1 ≤ i - s := Nat.le_of_not_lt fun z => h ((q_lt (by omega) (by omega)).mpr z)
        conv => whnf
        refine ⟨fun h => ?_, fun h => ?_⟩
        · have hgt := (q_gt (by omega) (by omega)).mp h
          conv => whnf
          refine ⟨⟨_, rfl, rfl⟩, ⟨?_, rfl⟩, Nat.le_refl _, Nat.le_refl _⟩
          rw [nmOk, decide_eq_false (by omega : ¬ (1 ≤ i - s ∧ i - s ≤ 24))]
          rfl
        · have hle : i - s ≤ 24 := Nat.le_of_not_lt fun z => h ((q_gt (by omega) (by omega)).mpr z)
          conv => whnf
          refine ⟨fun h => absurd h ?_, fun _ => ?_⟩
          · show ¬ ¬ nI 0 = 0
            rw [nI_0]; exact fun z => z rfl
          · conv => whnf
            refine ⟨⟨_, rfl, rfl⟩, ⟨?_, rfl⟩, Nat.le_refl _, Nat.le_refl _⟩
            rw [nmOk, hz2, decide_eq_true (by omega : (1 ≤ i - s ∧ i - s ≤ 24)), decide_eq_false hne]
            rfl
    · have heq : dots L s i = i - s := Classical.not_not.mp fun z => h ((q_ne (by omega) (by omega)).mpr z)
      conv => whnf
      refine ⟨fun h => ?_, fun h => ?_⟩
      · have hgt := (q_gt (by omega) (by omega)).mp h
        conv => whnf
        refine ⟨fun h => absurd ((q_lt (by omega) (by omega)).mp h) (by omega), fun _ => ?_⟩
        conv => whnf
        refine ⟨fun h => ?_, fun h => ?_⟩
        · have hgt2 := (q_gt (by omega) (by omega)).mp h
          conv => whnf
          refine ⟨⟨_, rfl, rfl⟩, ⟨?_, rfl⟩, Nat.le_refl _, Nat.le_refl _⟩
          rw [nmOk, decide_eq_false (by omega : ¬ (1 ≤ i - s ∧ i - s ≤ 24))]
          rfl
        · have hle : i - s ≤ 24 := Nat.le_of_not_lt fun z => h ((q_gt (by omega) (by omega)).mpr z)
          conv => whnf
          refine ⟨fun h => absurd h ?_, fun _ => ?_⟩
          · show ¬ ¬ nI 0 = 0
            rw [nI_0]; exact fun z => z rfl
          · conv => whnf
            refine ⟨⟨_, rfl, rfl⟩, ⟨?_, rfl⟩, Nat.le_refl _, Nat.le_refl _⟩
            rw [nmOk, hz2, decide_eq_true (by omega : (1 ≤ i - s ∧ i - s ≤ 24)), decide_eq_false (by omega : ¬ i - s ≤ 2), Bool.and_false]
            rfl
      · have hle : i - s ≤ 2 := Nat.le_of_not_lt fun z => h ((q_gt (by omega) (by omega)).mpr z)
        have hfin : nmOk L s i = false := by
          rw [nmOk, decide_eq_true heq, decide_eq_true hle]
          simp
        rw [hfin]
        conv => whnf
        refine ⟨fun h => ?_, fun h => ?_⟩
        · conv => whnf
          exact ⟨⟨_, rfl, rfl⟩, ⟨rfl, rfl⟩, Nat.le_refl _, Nat.le_refl _⟩
        · conv => whnf
          refine ⟨fun h => absurd ((q_gt (by omega) (by omega)).mp h) (by omega), fun _ => ?_⟩
          conv => whnf
          refine ⟨fun _ => ?_, fun h => absurd (show ¬ nI 1 = 0 by decide) h⟩
          conv => whnf
          exact ⟨⟨_, rfl, rfl⟩, ⟨rfl, rfl⟩, Nat.le_refl _, Nat.le_refl _⟩
  | succ d ih =>
    intro i h5 h6 h7 hz
    by_cases hie : i = e
    · exact ih i (by omega) h6 h7 hz
    have hil : i < L.length := by omega
    have hb := getD_lt h3 hil
    have hdl := dots_le L s i
    refine k_run ok_P_isName [10] (fun pc lv st g1 k n => pc = 10 ∧ w_sub lv (P_nm_lv a s e (dots L s (i + 1)) (i + 1)) ∧ L.getD i 0 ≠ 0 ∧ st = [] ∧ g1 = g ∧ k = 0 ∧ n = 0) ?_ 60 ?_
    · rintro pc lv st g1 k n ⟨rfl, hs, he2, rfl, rfl, rfl, rfl⟩
      exact k_sub hs (ih (i + 1) (by omega) (by omega) (by omega) (fun j hj1 hj2 => by
        by_cases h9 : j = i
        · rw [h9]; exact he2
        · exact hz j (by omega) hj2))
    · conv => whnf
      refine ⟨fun h => absurd ((q_ge (by omega) (by omega)).mp h) (by omega), fun _ => ?_⟩
      conv => whnf
      refine ⟨0, _, f, i, h1, rfl, rfl, hil, by omega, ?_⟩
      rw [h2 i hil]
      conv => whnf
      refine ⟨fun h => ?_, fun h => ?_⟩
      · have hn0 : L.getD i 0 ≠ 0 := fun z => h ((sx_0 hb).mpr z)
        conv => whnf
        refine ⟨0, _, f, i, h1, rfl, rfl, hil, by omega, ?_⟩
        rw [h2 i hil]
        conv => whnf
        refine ⟨fun h => ?_, fun h => ?_⟩
        · have h46 : L.getD i 0 ≠ 46 := fun z => h ((sx_46 hb).mpr z)
          have hds : dots L s (i + 1) = dots L s i := by
            rw [dots, if_neg (fun z => h46 z.2)]
            omega
          rw [hds]
          conv => whnf
          exact ⟨rfl, ⟨rfl, rfl, rfl, rfl, rfl, congrArg (fun z => some (Value.int z)) (nI_add i 1), trivial⟩, hn0, rfl, rfl, rfl, rfl⟩
        · have h46 : L.getD i 0 = 46 := (sx_46 hb).mp (Classical.not_not.mp h)
          have hds : dots L s (i + 1) = dots L s i + 1 := by rw [dots, if_pos ⟨h7, h46⟩]
          rw [hds]
          conv => whnf
          exact ⟨rfl, ⟨rfl, rfl, rfl, rfl, congrArg (fun z => some (Value.int z)) (nI_add _ 1), congrArg (fun z => some (Value.int z)) (nI_add i 1), trivial⟩, hn0, rfl, rfl, rfl, rfl⟩
      · have hn0 : L.getD i 0 = 0 := (sx_0 hb).mp (Classical.not_not.mp h)
        conv => whnf
        refine ⟨⟨_, rfl, rfl⟩, ⟨?_, rfl⟩, Nat.le_refl _, Nat.le_refl _⟩
        have hfa : nmOk L s e = false := by
          rw [nmOk, decide_eq_false (p := ∀ i, i < e → s ≤ i → L.getD i 0 ≠ 0) (fun z => z i (by omega) h7 hn0), Bool.and_false, Bool.false_and]
        rw [hfa]
        rfl
theorem c_P_isName (hfl : l.flags = pinnedFlags ++ [noTraceFlag]) {a : Nat} {L : List Nat} {g : g_H} (h1 : isBy g a L) {s e : Nat} (hse : s ≤ e) (he : e ≤ L.length) : k_CT l D aC n_P_isName 0 0 [.ref a, .int (nI s), .int (nI e)] g (rt (some (.int (b2 (nmOk L s e)))) g) := by
  have b1 := h1.choose_spec.2.2
  refine k_loop hfl n_P_isName ok_P_isName rfl rfl rfl rfl rfl rfl (fun h => by cases h) (Nat.le_of_ble_eq_true rfl) [10] (fun pc lv st g1 k n => pc = 10 ∧ w_sub lv (P_nm_lv a s e (dots L s s) s) ∧ st = [] ∧ g1 = g ∧ k = 0 ∧ n = 0) ?_ 20 ?_
  · rintro pc lv st g1 k n ⟨rfl, hs, rfl, rfl, rfl, rfl⟩
    exact k_sub hs (c_P_isName_loop h1 hse he e s (by omega) hse (by omega) (fun j hj hj2 => by omega))
  · rw [dots_s]
    conv => whnf
    exact ⟨rfl, ⟨rfl, rfl, rfl, congrArg (fun z => some (Value.int z)) (pk_sub hse), rfl, rfl, trivial⟩, rfl, rfl, rfl, rfl⟩
abbrev P_pt_lv (a c s i : Nat) : w_L := [(0, .ref a), (1, .int (nI c)), (2, .int (nI s)), (3, .int (nI i))]
theorem ptGo_stop {L : List Nat} {f i s c : Nat} (h : ¬ (i < L.length ∧ L.getD i 0 ≠ 47)) (hn : nmOk L s i = false) : ptGo L (f + 1) i s c = false := by
  rw [ptGo, if_neg h, hn]; rfl
theorem c_P_isPath_loop (hfl : l.flags = pinnedFlags ++ [noTraceFlag]) {a : Nat} {L : List Nat} {g : g_H} (h1 : isBy g a L) : ∀ (f i s c : Nat), f = L.length + 1 - i → i ≤ L.length → s ≤ i → c ≤ i →
    k_T l D aC "MirrorKeep$Paths" (k_mt n_P_isPath).2.1 4 1 25 (k_mt n_P_isPath).2.2.2.1 [] false none 0 0 g (rt (some (.int (b2 (ptGo L f i s c)))) g) 6 (P_pt_lv a c s i) [] g 0 0 := by
  have h0 := h1
  obtain ⟨fb, h1, h2, h3, h4⟩ := h1
  intro f
  induction f with
  | zero => intro i s c h5 h6; omega
  | succ f ih =>
    intro i s c h5 h6 h7 h8
    by_cases hil : i = L.length
    · subst hil
      refine k_run ok_P_isPath [] k_none (fun _ _ _ _ _ _ h => h.elim) 80 ?_
      conv => whnf
      refine Or.inl ⟨_, _, h1, by decide, ?_⟩
      conv => whnf
      refine ⟨fun h => absurd ((q_gt (by omega) (by omega)).mp h) (by omega), fun _ => ?_⟩
      conv => whnf
      refine Or.inl ⟨_, _, h1, by decide, ?_⟩
      conv => whnf
      refine ⟨fun _ => ?_, fun h => absurd rfl h⟩
      conv => whnf
      refine ⟨Nat.le_of_ble_eq_true rfl, 0, 0, _, c_P_isName hfl h0 h7 h6, Nat.le_refl _, Nat.le_refl _, k_rl ?_, k_rr⟩
      cases hn : nmOk L s L.length with
      | false =>
        conv => whnf
        refine ⟨fun h => absurd (show nI 0 = 0 from nI_0) h, fun _ => ?_⟩
        conv => whnf
        refine ⟨⟨_, rfl, rfl⟩, ⟨?_, rfl⟩, Nat.le_refl _, Nat.le_refl _⟩
        rw [ptGo_stop (by omega) hn]
        rfl
      | true =>
        have hgo : ptGo L (f + 1) L.length s c = decide (c + 1 ≤ 6) := by rw [ptGo, if_neg (by omega), hn, if_pos rfl]; rfl
        rw [hgo]
        conv => whnf
        refine ⟨fun _ => ?_, fun h => absurd (show ¬ nI 1 = 0 by decide) h⟩
        conv => whnf
        refine Or.inl ⟨_, _, h1, by decide, ?_⟩
        conv => whnf
        refine ⟨fun _ => ?_, fun h => absurd (show w_cmp .gt (nI L.length + nI 1) (nI L.length) by rw [nI_add]; exact (q_gt (by omega) (by omega)).mpr (by omega)) h⟩
        conv => whnf
        refine ⟨fun h => ?_, fun h => ?_⟩
        · have hgt : 6 < c + 1 := (q_gt (by omega) (by omega)).mp (show w_cmp .gt (nI (c + 1)) (nI 6) by rw [← nI_add]; exact h)
          conv => whnf
          refine ⟨⟨_, rfl, rfl⟩, ⟨?_, rfl⟩, Nat.le_refl _, Nat.le_refl _⟩
          rw [decide_eq_false (by omega)]
          rfl
        · have hgt : ¬ 6 < c + 1 := fun z => h (show w_cmp .gt (nI c + nI 1) (nI 6) by rw [nI_add]; exact (q_gt (by omega) (by omega)).mpr z)
          conv => whnf
          refine ⟨⟨_, rfl, rfl⟩, ⟨?_, rfl⟩, Nat.le_refl _, Nat.le_refl _⟩
          rw [decide_eq_true (by omega)]
          rfl
    have hlt : i < L.length := by omega
    have hb := getD_lt h3 hlt
    refine k_run ok_P_isPath [6] (fun pc lv st g1 k n => pc = 6 ∧ (∃ s1 c1, w_sub lv (P_pt_lv a c1 s1 (i + 1)) ∧ s1 ≤ i + 1 ∧ c1 ≤ i + 1 ∧ ptGo L f (i + 1) s1 c1 = ptGo L (f + 1) i s c) ∧ st = [] ∧ g1 = g ∧ k = 0 ∧ n = 0) ?_ 60 ?_
    · rintro pc lv st g1 k n ⟨rfl, ⟨s1, c1, hs, hs1, hc1, he⟩, rfl, rfl, rfl, rfl⟩
      rw [← he]
      exact k_sub hs (ih (i + 1) s1 c1 (by omega) (by omega) hs1 hc1)
    · conv => whnf
      refine Or.inl ⟨_, _, h1, by decide, ?_⟩
      conv => whnf
      refine ⟨fun h => absurd ((q_gt (by omega) (by omega)).mp h) (by omega), fun _ => ?_⟩
      conv => whnf
      refine Or.inl ⟨_, _, h1, by decide, ?_⟩
      conv => whnf
      refine ⟨fun h => absurd ((q_eq (by omega) (by omega)).mp h) hil, fun _ => ?_⟩
      conv => whnf
      refine ⟨0, _, fb, i, h1, rfl, rfl, hlt, by omega, ?_⟩
      rw [h2 i hlt]
      conv => whnf
      refine ⟨fun h => ?_, fun h => ?_⟩
      · have h47 : L.getD i 0 ≠ 47 := fun z => h ((sx_47 hb).mpr z)
        conv => whnf
        exact ⟨rfl, ⟨s, c, ⟨rfl, rfl, rfl, congrArg (fun z => some (Value.int z)) (nI_add i 1), trivial⟩, by omega, by omega, by rw [ptGo, if_pos ⟨hlt, h47⟩]⟩, rfl, rfl, rfl, rfl⟩
      · have h47 : L.getD i 0 = 47 := (sx_47 hb).mp (Classical.not_not.mp h)
        conv => whnf
        refine ⟨Nat.le_of_ble_eq_true rfl, 0, 0, _, c_P_isName hfl h0 h7 h6, Nat.le_refl _, Nat.le_refl _, k_rl ?_, k_rr⟩
        cases hn : nmOk L s i with
        | false =>
          conv => whnf
          refine ⟨fun h => absurd (show nI 0 = 0 from nI_0) h, fun _ => ?_⟩
          conv => whnf
          refine ⟨⟨_, rfl, rfl⟩, ⟨?_, rfl⟩, Nat.le_refl _, Nat.le_refl _⟩
          rw [ptGo_stop (fun z => z.2 h47) hn]
          rfl
        | true =>
          conv => whnf
          refine ⟨fun _ => ?_, fun h => absurd (show ¬ nI 1 = 0 by decide) h⟩
          conv => whnf
          exact ⟨rfl, ⟨i + 1, c + 1, ⟨rfl, congrArg (fun z => some (Value.int z)) (nI_add c 1), congrArg (fun z => some (Value.int z)) (nI_add i 1), congrArg (fun z => some (Value.int z)) (nI_add i 1), trivial⟩, by omega, by omega, by rw [ptGo, if_neg (fun z => z.2 h47), hn, if_neg hil]; rfl⟩, rfl, rfl, rfl, rfl⟩
theorem c_P_isPath (hfl : l.flags = pinnedFlags ++ [noTraceFlag]) {a : Nat} {L : List Nat} {g : g_H} (h1 : isBy g a L) : k_CT l D aC n_P_isPath 0 0 [.ref a] g (rt (some (.int (b2 (ptOk L)))) g) := by
  refine k_loop hfl n_P_isPath ok_P_isPath rfl rfl rfl rfl rfl rfl (fun h => by cases h) (Nat.le_of_ble_eq_true rfl) [6] (fun pc lv st g1 k n => pc = 6 ∧ w_sub lv (P_pt_lv a 0 0 0) ∧ st = [] ∧ g1 = g ∧ k = 0 ∧ n = 0) ?_ 20 ?_
  · rintro pc lv st g1 k n ⟨rfl, hs, rfl, rfl, rfl, rfl⟩
    exact k_sub hs (c_P_isPath_loop hfl h1 (L.length + 1) 0 0 0 (by omega) (by omega) (by omega) (by omega))
  · conv => whnf
    exact ⟨rfl, ⟨rfl, rfl, rfl, rfl, trivial⟩, rfl, rfl, rfl, rfl⟩
end PATHS2
