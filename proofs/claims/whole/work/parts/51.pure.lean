/-! Facts of lists alone: the order of paths, trees that are sorted, the mirror under way -/

section PO
theorem cmpP_anti : ∀ (a b : List Nat), cmpP a b = - cmpP b a
  | [], [] => rfl
  | [], b :: _ => by show -2 - rkb b = -(rkb b + 2); omega
  | a :: _, [] => by show rkb a + 2 = -(-2 - rkb a); omega
  | a :: r, b :: s => by
    show (if a = b then cmpP r s else rkb a - rkb b) = -(if b = a then cmpP s r else rkb b - rkb a)
    by_cases h : a = b
    · rw [if_pos h, if_pos h.symm]; exact cmpP_anti r s
    · rw [if_neg h, if_neg (fun z => h z.symm)]; omega
theorem cmpP_eq : ∀ {a b : List Nat}, cmpP a b = 0 → a = b
  | [], [], _ => rfl
  | [], b :: _, h => by have h : -2 - rkb b = 0 := h; have := rkb_ge b; omega
  | a :: _, [], h => by have h : rkb a + 2 = 0 := h; have := rkb_ge a; omega
  | a :: r, b :: s, h => by
    have h : (if a = b then cmpP r s else rkb a - rkb b) = 0 := h
    by_cases h1 : a = b
    · rw [if_pos h1] at h; rw [h1, cmpP_eq h]
    · rw [if_neg h1] at h; exact absurd (rkb_inj (by omega)) h1
theorem cmpP_self : ∀ (a : List Nat), cmpP a a = 0 := fun a => by have := cmpP_anti a a; omega
theorem cmpP_tr : ∀ {a b c : List Nat}, cmpP a b < 0 → cmpP b c < 0 → cmpP a c < 0
  | [], [], _, h, _ => by have h : (0 : Int) < 0 := h; omega
  | [], b :: _, [], _, h => by have h : rkb b + 2 < 0 := h; have := rkb_ge b; omega
  | [], _ :: _, c :: _, _, _ => by show -2 - rkb c < 0; have := rkb_ge c; omega
  | a :: _, [], _, h, _ => by have h : rkb a + 2 < 0 := h; have := rkb_ge a; omega
  | a :: _, b :: _, [], _, h => by have h : rkb b + 2 < 0 := h; have := rkb_ge b; omega
  | a :: r, b :: s, c :: t, h, h1 => by
    have h : (if a = b then cmpP r s else rkb a - rkb b) < 0 := h
    have h1 : (if b = c then cmpP s t else rkb b - rkb c) < 0 := h1
    show (if a = c then cmpP r t else rkb a - rkb c) < 0
    by_cases e : a = b
    · subst e
      rw [if_pos rfl] at h
      by_cases e1 : a = c
      · rw [if_pos e1] at h1 ⊢; exact cmpP_tr h h1
      · rw [if_neg e1] at h1 ⊢; exact h1
    · rw [if_neg e] at h
      by_cases e1 : b = c
      · subst e1
        rw [if_neg e]; exact h
      · rw [if_neg e1] at h1
        rw [if_neg (fun z => by subst z; omega)]; omega
/-- sorted: each path once, in their order -/
def srt (L : List Ent) : Prop := L.Pairwise (fun E F => cmpP E.1 F.1 < 0)
def blw (L : List Ent) (p : List Nat) : Prop := ∀ E ∈ L, cmpP E.1 p < 0
def abv (L : List Ent) (p : List Nat) : Prop := ∀ E ∈ L, 0 < cmpP E.1 p
theorem plc_app {A B : List Ent} {p : List Nat} (hA : blw A p) : plc (A ++ B) p = A.length + plc B p := by
  induction A with
  | nil => simp
  | cons E r ih =>
    show (if cmpP E.1 p < 0 then plc (r ++ B) p + 1 else 0) = _
    rw [if_pos (hA E (by simp)), ih (fun F hF => hA F (by simp [hF])), List.length_cons]; omega
theorem plc_abv {B : List Ent} {p : List Nat} (hB : ∀ E ∈ B, 0 ≤ cmpP E.1 p) : plc B p = 0 := by
  cases B with
  | nil => rfl
  | cons E r => show (if cmpP E.1 p < 0 then plc r p + 1 else 0) = 0; rw [if_neg (by have := hB E (by simp); omega)]
theorem abv_le {B : List Ent} {p : List Nat} (h : abv B p) : ∀ E ∈ B, 0 ≤ cmpP E.1 p := fun E hE => by have := h E hE; omega
theorem plc_mid {A B : List Ent} {p : List Nat} (hA : blw A p) (hB : abv B p) : plc (A ++ B) p = A.length := by rw [plc_app hA, plc_abv (abv_le hB)]; rfl
theorem plc_mid1 {A B : List Ent} {F : Ent} (hA : blw A F.1) (hB : abv B F.1) : plc (A ++ F :: B) F.1 = A.length := by
  rw [plc_app hA, plc_abv]; rfl
  intro E hE
  rcases List.mem_cons.mp hE with h | h
  · rw [h, cmpP_self]; exact Int.le_refl 0
  · exact abv_le hB E h
theorem hld_mid {A B : List Ent} {p : List Nat} (hB : abv B p) : hld (A ++ B) A.length p = false := by
  unfold hld
  rw [List.getElem?_append_right (Nat.le_refl _), Nat.sub_self]
  cases B with
  | nil => rfl
  | cons E r => exact decide_eq_false (fun z => by have := hB E (by simp); omega)
theorem hld_mid1 {A B : List Ent} {F : Ent} : hld (A ++ F :: B) A.length F.1 = true := by
  unfold hld
  rw [List.getElem?_append_right (Nat.le_refl _), Nat.sub_self]
  exact decide_eq_true (cmpP_self _)
theorem putL_new {A B : List Ent} {E : Ent} (hA : blw A E.1) (hB : abv B E.1) : putL (A ++ B) E = A ++ E :: B := by
  unfold putL
  rw [plc_mid hA hB, hld_mid hB, if_neg (by simp)]
  simp
theorem putL_old {A B : List Ent} {F E : Ent} (hp : E.1 = F.1) (hA : blw A F.1) (hB : abv B F.1) : putL (A ++ F :: B) E = A ++ E :: B := by
  unfold putL
  rw [hp, plc_mid1 hA hB, hld_mid1, if_pos rfl]
  simp
theorem dropL_old {A B : List Ent} {F : Ent} (hA : blw A F.1) (hB : abv B F.1) : dropL (A ++ F :: B) F.1 = A ++ B := by
  unfold dropL
  rw [plc_mid1 hA hB, hld_mid1, if_pos rfl, List.eraseIdx_append_of_length_le (Nat.le_refl _)]
  simp
theorem replL_mid {A B : List Ent} {o n : Option Ent} {p : List Nat} (hA : blw A p) (hB : abv B p) (ho : ∀ E, o = some E → E.1 = p) (hn : ∀ E, n = some E → E.1 = p) : replL (A ++ o.toList ++ B) o n = A ++ n.toList ++ B := by
  cases n with
  | some E =>
    have hE := hn E rfl
    cases o with
    | none => show putL (A ++ [] ++ B) E = A ++ [E] ++ B; rw [List.append_nil, putL_new (by rw [hE]; exact hA) (by rw [hE]; exact hB)]; simp
    | some F =>
      have hF := ho F rfl
      show putL (A ++ [F] ++ B) E = A ++ [E] ++ B
      rw [List.append_assoc, List.singleton_append, putL_old (hE.trans hF.symm) (by rw [hF]; exact hA) (by rw [hF]; exact hB)]; simp
  | none =>
    cases o with
    | none => show A ++ [] ++ B = _; rfl
    | some F =>
      have hF := ho F rfl
      show dropL (A ++ [F] ++ B) F.1 = A ++ [] ++ B
      rw [List.append_assoc, List.singleton_append, dropL_old (by rw [hF]; exact hA) (by rw [hF]; exact hB)]; simp
end PO
section PJ
theorem srt_tail {E : Ent} {L : List Ent} (h : srt (E :: L)) : srt L := (List.pairwise_cons.mp h).2
theorem srt_head {E : Ent} {L : List Ent} (h : srt (E :: L)) : ∀ F ∈ L, cmpP E.1 F.1 < 0 := (List.pairwise_cons.mp h).1
theorem cmpP_gt {a b : List Nat} (h : cmpP a b < 0) : 0 < cmpP b a := by have := cmpP_anti a b; omega
theorem cmpP_lt {a b : List Nat} (h : 0 < cmpP a b) : cmpP b a < 0 := by have := cmpP_anti a b; omega
/-- what the join takes next: from the elder, from the newer -/
theorem jn_some {L M : List Ent} {f n u : Nat} : jnL (f + 1) L M n u = (jnE (cmpO L.head? M.head?) L.head? M.head? n u).toList ++ jnL f (if cmpO L.head? M.head? ≤ 0 then L.tail else L) (if 0 ≤ cmpO L.head? M.head? then M.tail else M) (n + chN (cmpO L.head? M.head?) L.head? M.head?) u := rfl
theorem jnL_mem : ∀ (f : Nat) {L M : List Ent} {n u : Nat} {E : Ent}, E ∈ jnL f L M n u → E ∈ L ∨ E ∈ M
  | 0, _, _, _, _, _, h => by cases h
  | f + 1, L, M, n, u, E, h => by
    rw [jn_some] at h
    rcases List.mem_append.mp h with h | h
    · have h : jnE (cmpO L.head? M.head?) L.head? M.head? n u = some E := by simpa using h
      unfold jnE at h
      split at h
      · unfold m1 at h
        split at h
        · exact Or.inr (List.mem_of_head? h)
        · cases h
      · unfold o1 at h
        split at h
        · exact Or.inl (List.mem_of_head? h)
        · cases h
    · rcases jnL_mem f h with h | h
      · split at h
        · exact Or.inl (List.mem_of_mem_tail h)
        · exact Or.inl h
      · split at h
        · exact Or.inr (List.mem_of_mem_tail h)
        · exact Or.inr h
/-- a state of the join: what comes next, its path p, and what is left lies above -/
theorem jn_cases (L M : List Ent) (hL : srt L) (hM : srt M) (hne : ¬ (L = [] ∧ M = [])) : ∃ o m L1 M1 p, o1 (cmpO L.head? M.head?) L.head? = o ∧ m1 (cmpO L.head? M.head?) M.head? = m ∧ (if cmpO L.head? M.head? ≤ 0 then L.tail else L) = L1 ∧ (if 0 ≤ cmpO L.head? M.head? then M.tail else M) = M1 ∧ L = o.toList ++ L1 ∧ M = m.toList ++ M1 ∧ srt L1 ∧ srt M1 ∧ abv L1 p ∧ abv M1 p ∧ (∀ E, o = some E → E.1 = p) ∧ (∀ E, m = some E → E.1 = p) ∧ L1.length + M1.length < L.length + M.length ∧ (isCh o m = false → o = m) := by
  cases L with
  | nil =>
    cases M with
    | nil => exact absurd ⟨rfl, rfl⟩ hne
    | cons F s =>
      refine ⟨none, some F, [], s, F.1, rfl, rfl, rfl, rfl, rfl, rfl, hL, srt_tail hM, fun E hE => by (cases hE), fun E hE => cmpP_gt (srt_head hM E hE), fun E hE => by (cases hE), fun E hE => by (cases hE; rfl), by simp, fun h => by cases h⟩
  | cons E r =>
    cases M with
    | nil =>
      refine ⟨some E, none, r, [], E.1, rfl, rfl, rfl, rfl, rfl, rfl, srt_tail hL, hM, fun F hF => cmpP_gt (srt_head hL F hF), fun F hF => by (cases hF), fun F hF => by (cases hF; rfl), fun F hF => by (cases hF), by simp, fun h => by cases h⟩
    | cons F s =>
      show ∃ o m L1 M1 p, o1 (cmpP E.1 F.1) (some E) = o ∧ m1 (cmpP E.1 F.1) (some F) = m ∧ (if cmpP E.1 F.1 ≤ 0 then r else E :: r) = L1 ∧ (if 0 ≤ cmpP E.1 F.1 then s else F :: s) = M1 ∧ _
      rcases Int.lt_trichotomy (cmpP E.1 F.1) 0 with h | h | h
      · refine ⟨some E, none, r, F :: s, E.1, by unfold o1; rw [if_pos (by omega)], by unfold m1; rw [if_neg (by omega)], if_pos (by omega), if_neg (by omega), rfl, rfl, srt_tail hL, hM, fun G hG => cmpP_gt (srt_head hL G hG), fun G hG => ?_, fun G hG => by (cases hG; rfl), fun G hG => by (cases hG), by simp, fun h => by cases h⟩
        rcases List.mem_cons.mp hG with h1 | h1
        · rw [h1]; exact cmpP_gt h
        · exact cmpP_gt (cmpP_tr h (srt_head hM G h1))
      · have he := cmpP_eq h
        refine ⟨some E, some F, r, s, E.1, by unfold o1; rw [if_pos (by omega)], by unfold m1; rw [if_pos (by omega)], if_pos (by omega), if_pos (by omega), rfl, rfl, srt_tail hL, srt_tail hM, fun G hG => cmpP_gt (srt_head hL G hG), fun G hG => by rw [he]; exact cmpP_gt (srt_head hM G hG), fun G hG => by (cases hG; rfl), fun G hG => by (cases hG; exact he.symm), by simp only [List.length_cons]; omega, fun h1 => ?_⟩
        have h2 : lkE E F = true := by
          have h1 : (!lkE E F) = false := h1
          simpa using h1
        have h3 := of_decide_eq_true h2
        obtain ⟨p, a, b, c, d⟩ := E
        obtain ⟨p1, a1, b1, c1, d1⟩ := F
        obtain ⟨e1, e2, e3, e4⟩ := h3
        dsimp at he e1 e2 e3 e4
        subst he e1 e2 e3 e4
        rfl
      · refine ⟨none, some F, E :: r, s, F.1, by unfold o1; rw [if_neg (by omega)], by unfold m1; rw [if_pos (by omega)], if_neg (by omega), if_pos (by omega), rfl, rfl, hL, srt_tail hM, fun G hG => ?_, fun G hG => cmpP_gt (srt_head hM G hG), fun G hG => by (cases hG), fun G hG => by (cases hG; rfl), by simp, fun h => by cases h⟩
        rcases List.mem_cons.mp hG with h1 | h1
        · rw [h1]; exact h
        · exact cmpP_gt (cmpP_tr (cmpP_lt h) (srt_head hL G h1))
/-- one turn of the join -/
theorem jn_turn {L M : List Ent} {f : Nat} (hL : srt L) (hM : srt M) (hf : L.length + M.length ≤ f + 1) (hne : ¬ (L = [] ∧ M = [])) : ∃ o m L1 M1 p, L = o.toList ++ L1 ∧ M = m.toList ++ M1 ∧ srt L1 ∧ srt M1 ∧ abv L1 p ∧ abv M1 p ∧ (∀ E, o = some E → E.1 = p) ∧ (∀ E, m = some E → E.1 = p) ∧ L1.length + M1.length ≤ f ∧ (isCh o m = false → o = m) ∧ (∀ n u, jnL (f + 1) L M n u = (if isCh o m = true ∧ n < u then m else o).toList ++ jnL f L1 M1 (n + if isCh o m then 1 else 0) u) ∧ difL (f + 1) L M = (if isCh o m then [(o, m)] else []) ++ difL f L1 M1 := by
  obtain ⟨o, m, L1, M1, p, h1, h2, h3, h4, h5, h6, h7, h8, h9, h10, h11, h12, h13, h14⟩ := jn_cases L M hL hM hne
  refine ⟨o, m, L1, M1, p, h5, h6, h7, h8, h9, h10, h11, h12, by omega, h14, fun n u => ?_, ?_⟩
  · rw [jn_some, jnE, chN, h1, h2, h3, h4]
  · show noteL [] _ _ ++ difL f _ _ = _
    have e1 : (if cmpO L.head? M.head? ≤ 0 then L.head? else none) = o := h1
    have e2 : (if 0 ≤ cmpO L.head? M.head? then M.head? else none) = m := h2
    rw [e1, e2, h3, h4]
    unfold noteL
    split <;> rfl
theorem abv_jn {L M : List Ent} {p : List Nat} {f n u : Nat} (hL : abv L p) (hM : abv M p) : abv (jnL f L M n u) p := fun E hE => (jnL_mem f hE).elim (hL E) (hM E)
theorem dif_nil_of {L M : List Ent} (h : L = [] ∧ M = []) (f : Nat) : difL f L M = [] := by obtain ⟨rfl, rfl⟩ := h; exact difL_nil f
theorem jn_nil_of {L M : List Ent} (h : L = [] ∧ M = []) (f n u : Nat) : jnL f L M n u = [] := by obtain ⟨rfl, rfl⟩ := h; exact jnL_nil f n u
/-- the join with nothing done is the elder -/
theorem jnL_0 : ∀ (f : Nat) {L M : List Ent} {n u : Nat}, srt L → srt M → L.length + M.length ≤ f → u ≤ n → jnL f L M n u = L
  | 0, L, M, n, u, _, _, hf, _ => by
    have : L = [] := List.length_eq_zero_iff.mp (by omega)
    rw [this]; rfl
  | f + 1, L, M, n, u, hL, hM, hf, hu => by
    by_cases hne : L = [] ∧ M = []
    · rw [jn_nil_of hne]; exact hne.1.symm
    · obtain ⟨o, m, L1, M1, p, h1, h2, h3, h4, h5, h6, h7, h8, h9, h10, h11, h12⟩ := jn_turn hL hM hf hne
      rw [h11, if_neg (by omega), jnL_0 f h3 h4 h9 (by omega), ← h1]
/-- with all of it done: the newer -/
theorem jnL_all : ∀ (f : Nat) {L M : List Ent} {n u : Nat}, srt L → srt M → L.length + M.length ≤ f → n + (difL f L M).length ≤ u → jnL f L M n u = M
  | 0, L, M, n, u, _, _, hf, _ => by
    have : M = [] := List.length_eq_zero_iff.mp (by omega)
    rw [this]; rfl
  | f + 1, L, M, n, u, hL, hM, hf, hu => by
    by_cases hne : L = [] ∧ M = []
    · rw [jn_nil_of hne]; exact hne.2.symm
    · obtain ⟨o, m, L1, M1, p, h1, h2, h3, h4, h5, h6, h7, h8, h9, h10, h11, h12⟩ := jn_turn hL hM hf hne
      rw [h12] at hu
      rw [h11]
      by_cases hc : isCh o m = true
      · rw [if_pos hc] at hu
        simp only [List.length_append, List.length_singleton] at hu
        rw [if_pos ⟨hc, by omega⟩, if_pos hc, jnL_all f h3 h4 h9 (by omega), ← h2]
      · rw [if_neg hc] at hu
        rw [if_neg (fun z => hc z.1), if_neg hc, jnL_all f h3 h4 h9 (by simpa using hu), h10 (by simpa using hc), ← h2]
/-- the change u of the join -/
theorem jnL_at : ∀ (f : Nat) {L M : List Ent} {n u : Nat} {o m : Option Ent}, srt L → srt M → L.length + M.length ≤ f → (difL f L M)[u]? = some (o, m) → ∃ A B p, jnL f L M n (n + u) = A ++ o.toList ++ B ∧ jnL f L M n (n + u + 1) = A ++ m.toList ++ B ∧ blw A p ∧ abv B p ∧ (∀ E, o = some E → E.1 = p) ∧ (∀ E, m = some E → E.1 = p) ∧ ∃ E, (E ∈ L ∨ E ∈ M) ∧ E.1 = p
  | 0, L, M, n, u, o, m, _, _, _, h => by cases h
  | f + 1, L, M, n, u, o, m, hL, hM, hf, h => by
    by_cases hne : L = [] ∧ M = []
    · rw [dif_nil_of hne] at h; cases h
    · obtain ⟨o0, m0, L1, M1, p0, h1, h2, h3, h4, h5, h6, h7, h8, h9, h10, h11, h12⟩ := jn_turn hL hM hf hne
      rw [h12] at h
      have hp : ∀ {p : List Nat}, (∃ E, (E ∈ L1 ∨ E ∈ M1) ∧ E.1 = p) → ∀ E : Ent, E.1 = p0 → cmpP E.1 p < 0 := by
        rintro p ⟨G, hG, rfl⟩ E hE
        rw [hE]
        exact hG.elim (fun z => cmpP_lt (h5 G z)) (fun z => cmpP_lt (h6 G z))
      have hup : ∀ {p : List Nat}, (∃ E, (E ∈ L1 ∨ E ∈ M1) ∧ E.1 = p) → ∃ E, (E ∈ L ∨ E ∈ M) ∧ E.1 = p := by
        rintro p ⟨G, hG, hp⟩
        exact ⟨G, hG.elim (fun z => Or.inl (by rw [h1]; exact List.mem_append_right _ z)) (fun z => Or.inr (by rw [h2]; exact List.mem_append_right _ z)), hp⟩
      by_cases hc : isCh o0 m0 = true
      · rw [if_pos hc, List.singleton_append] at h
        cases u with
        | zero =>
          cases h
          refine ⟨[], jnL f L1 M1 (n + 1) (n + 1), p0, ?_, ?_, fun E hE => (by cases hE), abv_jn h5 h6, h7, h8, ?_⟩
          · rw [h11, if_neg (by omega), if_pos hc, jnL_0 f h3 h4 h9 (by omega), jnL_0 f h3 h4 h9 (by omega)]; rfl
          · rw [h11, if_pos ⟨hc, by omega⟩, if_pos hc]; rfl
          · cases o with
            | some E => exact ⟨E, Or.inl (by rw [h1]; simp), h7 E rfl⟩
            | none => cases m with
              | some E => exact ⟨E, Or.inr (by rw [h2]; simp), h8 E rfl⟩
              | none => cases hc
        | succ u =>
          have h : (difL f L1 M1)[u]? = some (o, m) := h
          obtain ⟨A, B, p, a1, a2, a3, a4, a5, a6, a7⟩ := jnL_at f (n := n + 1) h3 h4 h9 h
          refine ⟨m0.toList ++ A, B, p, ?_, ?_, ?_, a4, a5, a6, hup a7⟩
          · rw [h11, if_pos ⟨hc, by omega⟩, if_pos hc, show n + (u + 1) = n + 1 + u by omega, a1]; simp
          · rw [h11, if_pos ⟨hc, by omega⟩, if_pos hc, show n + (u + 1) + 1 = n + 1 + u + 1 by omega, a2]; simp
          · intro E hE
            rcases List.mem_append.mp hE with hE | hE
            · exact hp a7 E (h8 E (by simpa using hE))
            · exact a3 E hE
      · rw [if_neg hc, List.nil_append] at h
        obtain ⟨A, B, p, a1, a2, a3, a4, a5, a6, a7⟩ := jnL_at f (n := n) h3 h4 h9 h
        refine ⟨o0.toList ++ A, B, p, ?_, ?_, ?_, a4, a5, a6, hup a7⟩
        · rw [h11, if_neg (fun z => hc z.1), if_neg hc, Nat.add_zero, a1]; simp
        · rw [h11, if_neg (fun z => hc z.1), if_neg hc, Nat.add_zero, a2]; simp
        · intro E hE
          rcases List.mem_append.mp hE with hE | hE
          · exact hp a7 E (h7 E (by simpa using hE))
          · exact a3 E hE
theorem jnL_up {f : Nat} {L M : List Ent} {u : Nat} {x : Chg} (hL : srt L) (hM : srt M) (hf : L.length + M.length ≤ f) (h : (difL f L M)[u]? = some x) : replL (jnL f L M 0 u) x.1 x.2 = jnL f L M 0 (u + 1) := by
  obtain ⟨A, B, p, a1, a2, a3, a4, a5, a6, -⟩ := jnL_at f (n := 0) hL hM hf h
  rw [Nat.zero_add] at a1 a2
  rw [a1, a2]
  exact replL_mid a3 a4 a5 a6
theorem jnL_dn {f : Nat} {L M : List Ent} {u : Nat} {x : Chg} (hL : srt L) (hM : srt M) (hf : L.length + M.length ≤ f) (h : (difL f L M)[u]? = some x) : replL (jnL f L M 0 (u + 1)) x.2 x.1 = jnL f L M 0 u := by
  obtain ⟨A, B, p, a1, a2, a3, a4, a5, a6, -⟩ := jnL_at f (n := 0) hL hM hf h
  rw [Nat.zero_add] at a1 a2
  rw [a1, a2]
  exact replL_mid a3 a4 a6 a5
/-- how many updates so many operations hold -/
def upN (c op : Nat) : Nat := if op < 1 then 0 else min ((op - 1) / 2) c
/-- the mirror under way -/
def mir (O N : List Ent) (op : Nat) : List Ent := jnL (O.length + N.length) O N 0 (upN (difL (O.length + N.length) O N).length op)
theorem upN_some {c op k : Nat} (h : updB c op = some k) : upN c op = k ∧ upN c (op + 1) = k + 1 := by
  unfold updB at h
  split at h
  · cases h
    unfold upN
    rw [if_neg (by omega), if_neg (by omega)]
    omega
  · cases h
theorem upN_none {c op : Nat} (h : updB c op = none) : upN c (op + 1) = upN c op := by
  unfold updB at h
  split at h
  · cases h
  · unfold upN
    split <;> split <;> omega
theorem mir_up {O N : List Ent} (hO : srt O) (hN : srt N) (op : Nat) : upM (difL (O.length + N.length) O N) (mir O N op) op = mir O N (op + 1) := by
  unfold upM
  cases h : updB (difL (O.length + N.length) O N).length op with
  | none => unfold mir; rw [upN_none h]
  | some k =>
    obtain ⟨e1, e2⟩ := upN_some h
    have hk := List.getElem?_eq_getElem (updB_lt h)
    simp only [hk]
    unfold mir
    rw [e1, e2]
    exact jnL_up hO hN (Nat.le_refl _) hk
theorem mir_dn {O N : List Ent} (hO : srt O) (hN : srt N) (op : Nat) : dnM (difL (O.length + N.length) O N) (mir O N (op + 1)) op = mir O N op := by
  unfold dnM
  cases h : updB (difL (O.length + N.length) O N).length op with
  | none => unfold mir; rw [upN_none h]
  | some k =>
    obtain ⟨e1, e2⟩ := upN_some h
    have hk := List.getElem?_eq_getElem (updB_lt h)
    simp only [hk]
    unfold mir
    rw [e1, e2]
    exact jnL_dn hO hN (Nat.le_refl _) hk
theorem mir_it {O N : List Ent} (hO : srt O) (hN : srt N) (op : Nat) : ∀ j, itM (difL (O.length + N.length) O N) (mir O N op) op j = mir O N (op + j)
  | 0 => rfl
  | j + 1 => by unfold itM; rw [mir_it hO hN op j, mir_up hO hN]; rfl
theorem mir_itD {O N : List Ent} (hO : srt O) (hN : srt N) (op : Nat) : ∀ j, j ≤ op → itD (difL (O.length + N.length) O N) (mir O N op) op j = mir O N (op - j)
  | 0, _ => rfl
  | j + 1, hj => by
    unfold itD
    rw [mir_itD hO hN op j (by omega), show op - j = op - (j + 1) + 1 by omega, mir_dn hO hN]
theorem mir_0 {O N : List Ent} (hO : srt O) (hN : srt N) : mir O N 0 = O := jnL_0 _ hO hN (Nat.le_refl _) (Nat.le_refl _)
theorem mir_end {O N : List Ent} (hO : srt O) (hN : srt N) {op : Nat} (h : 2 * (difL (O.length + N.length) O N).length + 1 ≤ op) : mir O N op = N := by
  refine jnL_all _ hO hN (Nat.le_refl _) ?_
  unfold upN
  split <;> omega
theorem jnL_size : ∀ (f : Nat) (L M : List Ent) (n u : Nat), srt L → srt M → L.length + M.length ≤ f → (jnL f L M n u).length ≤ L.length + M.length ∧ sumC (jnL f L M n u) ≤ sumC L + sumC M
  | 0, L, M, n, u, _, _, _ => ⟨Nat.zero_le _, Nat.zero_le _⟩
  | f + 1, L, M, n, u, hL, hM, hf => by
    by_cases hne : L = [] ∧ M = []
    · rw [jn_nil_of hne]; exact ⟨Nat.zero_le _, Nat.zero_le _⟩
    · obtain ⟨o, m, L1, M1, p, h1, h2, h3, h4, h5, h6, h7, h8, h9, h10, h11, h12⟩ := jn_turn hL hM hf hne
      have ih := jnL_size f L1 M1 (n + if isCh o m then 1 else 0) u h3 h4 h9
      have e : ∀ (A B : List Ent), sumC (A ++ B) = sumC A + sumC B := fun A B => by simp [sumC]
      rw [h11, List.length_append, e]
      have l1 : L.length = o.toList.length + L1.length := by rw [h1]; simp
      have l2 : M.length = m.toList.length + M1.length := by rw [h2]; simp
      have l3 : sumC L = sumC o.toList + sumC L1 := by rw [h1, e]
      have l4 : sumC M = sumC m.toList + sumC M1 := by rw [h2, e]
      split <;> omega
theorem mir_size {O N : List Ent} (hO : srt O) (hN : srt N) (op : Nat) : (mir O N op).length ≤ O.length + N.length ∧ sumC (mir O N op) ≤ sumC O + sumC N := jnL_size _ _ _ _ _ hO hN (Nat.le_refl _)
end PJ
section PS
/-- where a path stands, or would -/
theorem srt_at {L : List Ent} (hL : srt L) (p : List Nat) : (∃ A B, L = A ++ B ∧ blw A p ∧ abv B p) ∨ ∃ A F B, L = A ++ F :: B ∧ F.1 = p ∧ blw A p ∧ abv B p := by
  induction L with
  | nil => exact Or.inl ⟨[], [], rfl, fun E hE => (by cases hE), fun E hE => (by cases hE)⟩
  | cons E r ih =>
    rcases Int.lt_trichotomy (cmpP E.1 p) 0 with h | h | h
    · have hc : ∀ {A : List Ent}, blw A p → blw (E :: A) p := fun hA F hF => (List.mem_cons.mp hF).elim (fun z => by rw [z]; exact h) (hA F)
      rcases ih (srt_tail hL) with ⟨A, B, h1, h2, h3⟩ | ⟨A, F, B, h1, h2, h3, h4⟩
      · exact Or.inl ⟨E :: A, B, by rw [h1]; rfl, hc h2, h3⟩
      · exact Or.inr ⟨E :: A, F, B, by rw [h1]; rfl, h2, hc h3, h4⟩
    · have he := cmpP_eq h
      exact Or.inr ⟨[], E, r, rfl, he, fun F hF => (by cases hF), fun F hF => by rw [← he]; exact cmpP_gt (srt_head hL F hF)⟩
    · refine Or.inl ⟨[], E :: r, rfl, fun F hF => (by cases hF), fun F hF => ?_⟩
      rcases List.mem_cons.mp hF with z | z
      · rw [z]; exact h
      · exact cmpP_gt (cmpP_tr (cmpP_lt h) (srt_head hL F z))
theorem srt_mid {A B : List Ent} {F : Ent} (h : srt (A ++ F :: B)) : blw A F.1 ∧ abv B F.1 := by
  unfold srt at h
  rw [List.pairwise_append] at h
  exact ⟨fun E hE => h.2.2 E hE F (by simp), fun E hE => cmpP_gt ((List.pairwise_cons.mp h.2.1).1 E hE)⟩
theorem srt_put {A B : List Ent} {F E : Ent} (h : srt (A ++ F :: B)) (hp : E.1 = F.1) : srt (A ++ E :: B) := by
  unfold srt at h ⊢
  rw [List.pairwise_append, List.pairwise_cons] at h ⊢
  refine ⟨h.1, ⟨fun G hG => by rw [hp]; exact h.2.1.1 G hG, h.2.1.2⟩, fun G hG H hH => ?_⟩
  rcases List.mem_cons.mp hH with z | z
  · rw [z, hp]; exact h.2.2 G hG F (by simp)
  · exact h.2.2 G hG H (by simp [z])
theorem srt_new {A B : List Ent} {E : Ent} (h : srt (A ++ B)) (hA : blw A E.1) (hB : abv B E.1) : srt (A ++ E :: B) := by
  unfold srt at h ⊢
  rw [List.pairwise_append] at h
  rw [List.pairwise_append, List.pairwise_cons]
  refine ⟨h.1, ⟨fun G hG => cmpP_lt (hB G hG), h.2.1⟩, fun G hG H hH => ?_⟩
  rcases List.mem_cons.mp hH with z | z
  · rw [z]; exact hA G hG
  · exact h.2.2 G hG H z
theorem get_split {L : List Ent} {i : Nat} {F : Ent} (h : L[i]? = some F) : L = L.take i ++ F :: L.drop (i + 1) := by
  obtain ⟨hi, h1⟩ := List.getElem?_eq_some_iff.mp h
  rw [← h1, List.getElem_cons_drop hi, List.take_append_drop]
theorem fnd_none_of {L : List Ent} {p : List Nat} (h : ∀ E ∈ L, cmpP E.1 p ≠ 0) : ∀ c, fnd L p c = none
  | 0 => rfl
  | c + 1 => by
    unfold fnd
    rw [if_neg]
    · exact fnd_none_of h c
    · rintro ⟨E, h1, h2⟩; exact h E (List.mem_of_getElem? h1) h2
theorem fnd_of {L : List Ent} {p : List Nat} {i : Nat} {F : Ent} (hF : L[i]? = some F) (hp : F.1 = p) (hu : ∀ j E, L[j]? = some E → i < j → cmpP E.1 p ≠ 0) : ∀ c, i < c → fnd L p c = some i
  | 0, h => by omega
  | c + 1, h => by
    unfold fnd
    by_cases hc : i = c
    · subst hc
      rw [if_pos ⟨F, hF, by rw [hp, cmpP_self]⟩]
    · rw [if_neg]
      · exact fnd_of hF hp hu c (by omega)
      · rintro ⟨E, h1, h2⟩; exact hu c E h1 (by omega) h2
theorem srt_ne {L : List Ent} (hL : srt L) {i j : Nat} {E F : Ent} (hE : L[i]? = some E) (hF : L[j]? = some F) (h : i < j) : cmpP E.1 F.1 < 0 := by
  obtain ⟨hi, rfl⟩ := List.getElem?_eq_some_iff.mp hE
  obtain ⟨hj, rfl⟩ := List.getElem?_eq_some_iff.mp hF
  exact List.pairwise_iff_getElem.mp hL i j hi hj h
theorem fnd_srt {L : List Ent} (hL : srt L) {p : List Nat} {i : Nat} {F : Ent} (hF : L[i]? = some F) (hp : F.1 = p) : fnd L p L.length = some i :=
  fnd_of hF hp (fun j E hE hj => by have := cmpP_gt (srt_ne hL hF hE hj); rw [hp] at this; omega) _ (List.getElem?_eq_some_iff.mp hF).1
theorem fnd_get {L : List Ent} {p : List Nat} : ∀ {c i : Nat}, fnd L p c = some i → ∃ E, L[i]? = some E ∧ E.1 = p
  | 0, i, h => by cases h
  | c + 1, i, h => by
    unfold fnd at h
    split at h
    · rename_i h1
      cases h
      obtain ⟨E, h2, h3⟩ := h1
      exact ⟨E, h2, cmpP_eq h3⟩
    · exact fnd_get h
theorem plc_srt {L : List Ent} (hL : srt L) {i : Nat} {F : Ent} (hF : L[i]? = some F) : plc L F.1 = i ∧ hld L i F.1 = true := by
  have hi := (List.getElem?_eq_some_iff.mp hF).1
  have hs := get_split hF
  have h0 := hL
  rw [hs] at h0
  obtain ⟨hA, hB⟩ := srt_mid h0
  have e1 := plc_mid1 hA hB
  have e2 := hld_mid1 (A := L.take i) (B := L.drop (i + 1)) (F := F)
  rw [← hs, List.length_take, Nat.min_eq_left (Nat.le_of_lt hi)] at e1 e2
  exact ⟨e1, e2⟩
theorem idx_fnd {L : List Ent} (hL : srt L) (p : List Nat) : idx L p = slI (fnd L p L.length) := by
  cases h : fnd L p L.length with
  | some i =>
    obtain ⟨E, h1, rfl⟩ := fnd_get h
    obtain ⟨e1, e2⟩ := plc_srt hL h1
    unfold idx
    rw [e1, e2, if_pos rfl]
    rfl
  | none =>
    unfold idx
    rw [if_neg]
    · rfl
    · intro z
      unfold hld at z
      split at z
      · cases z
      · rename_i E hE
        have := fnd_srt hL hE (cmpP_eq (of_decide_eq_true z))
        rw [h] at this
        cases this
theorem putL_set {L : List Ent} (hL : srt L) {i : Nat} {F E : Ent} (hF : L[i]? = some F) (hp : E.1 = F.1) : putL L E = L.set i E := by
  obtain ⟨e1, e2⟩ := plc_srt hL hF
  unfold putL
  rw [hp, e1, e2, if_pos rfl]
theorem srt_set {L : List Ent} (hL : srt L) {i : Nat} {F E : Ent} (hF : L[i]? = some F) (hp : E.1 = F.1) : srt (L.set i E) := by
  have hi := (List.getElem?_eq_some_iff.mp hF).1
  rw [List.set_eq_take_append_cons_drop, if_pos hi]
  have := get_split hF
  rw [this] at hL
  exact srt_put hL hp
theorem sumC_set {L : List Ent} {i : Nat} {F E : Ent} (hF : L[i]? = some F) : sumC (L.set i E) + (eC F).length = sumC L + (eC E).length := by
  have hi := (List.getElem?_eq_some_iff.mp hF).1
  have e : ∀ (A B : List Ent) (G : Ent), sumC (A ++ G :: B) = sumC A + (eC G).length + sumC B := fun A B G => by simp [sumC]; omega
  have h1 := congrArg sumC (get_split hF)
  rw [e] at h1
  rw [List.set_eq_take_append_cons_drop, if_pos hi, e]
  omega
theorem putL_fresh {L : List Ent} (hL : srt L) {E : Ent} (h : fnd L E.1 L.length = none) : ∃ A B, L = A ++ B ∧ putL L E = A ++ E :: B ∧ blw A E.1 ∧ abv B E.1 ∧ plc L E.1 = A.length := by
  rcases srt_at hL E.1 with ⟨A, B, h1, h2, h3⟩ | ⟨A, F, B, h1, h2, h3, h4⟩
  · exact ⟨A, B, h1, by rw [h1]; exact putL_new h2 h3, h2, h3, by rw [h1]; exact plc_mid h2 h3⟩
  · have := fnd_srt hL (i := A.length) (F := F) (by rw [h1]; simp) h2
    rw [h] at this
    cases this
theorem srt_fresh {L : List Ent} (hL : srt L) {E : Ent} (h : fnd L E.1 L.length = none) : srt (putL L E) ∧ (putL L E).length = L.length + 1 ∧ sumC (putL L E) = sumC L + (eC E).length ∧ ∃ i : Nat, (putL L E)[i]? = some E := by
  obtain ⟨A, B, h1, h2, h3, h4, -⟩ := putL_fresh hL h
  rw [h2]
  refine ⟨srt_new (by rw [← h1]; exact hL) h3 h4, ?_, ?_, A.length, by simp⟩
  · rw [h1]; simp; omega
  · rw [h1]; simp [sumC]; omega
theorem fresh_mem {L : List Ent} (hL : srt L) {E G : Ent} (h : fnd L E.1 L.length = none) (hG : G ∈ putL L E) : G = E ∨ G ∈ L := by
  obtain ⟨A, B, h1, h2, h3, h4, -⟩ := putL_fresh hL h
  rw [h2] at hG
  rw [h1]
  rcases List.mem_append.mp hG with z | z
  · exact Or.inr (List.mem_append_left _ z)
  · rcases List.mem_cons.mp z with y | y
    · exact Or.inl y
    · exact Or.inr (List.mem_append_right _ y)
theorem fresh_keep {L : List Ent} (hL : srt L) {E G : Ent} (h : fnd L E.1 L.length = none) (hG : G ∈ L) : G ∈ putL L E := by
  obtain ⟨A, B, h1, h2, h3, h4, -⟩ := putL_fresh hL h
  rw [h1] at hG
  rw [h2]
  rcases List.mem_append.mp hG with z | z
  · exact List.mem_append_left _ z
  · exact List.mem_append_right _ (by simp [z])
theorem srt_keep {L : List Ent} (hL : srt L) (p : List Nat) : srt (keepL L p) := List.Pairwise.filter _ hL
theorem sumC_filter (L : List Ent) (f : Ent → Bool) : sumC (L.filter f) ≤ sumC L := by
  induction L with
  | nil => exact Nat.le_refl _
  | cons E r ih =>
    have e : sumC (E :: r) = (eC E).length + sumC r := by simp [sumC]
    rw [List.filter_cons]
    split
    · have e2 : sumC (E :: r.filter f) = (eC E).length + sumC (r.filter f) := by simp [sumC]
      omega
    · omega
/-- a tree as the source keeps it -/
def eOk (E : Ent) : Prop := kdOk E.2.1 = true ∧ (eC E).length ≤ mostE E ∧ E.1.length ≤ 149
def good (L : List Ent) : Prop := srt L ∧ L.length ≤ 60 ∧ sumC L ≤ 4000 ∧ ∀ E ∈ L, eOk E
theorem good_nil : good [] := ⟨List.Pairwise.nil, by simp, by simp [sumC], fun E hE => by cases hE⟩
theorem good_set {L : List Ent} (h : good L) {i : Nat} {F E : Ent} (hF : L[i]? = some F) (hp : E.1 = F.1) (hs : sumC L - (eC F).length + (eC E).length ≤ 4000) (hE : eOk E) : good (L.set i E) := by
  refine ⟨srt_set h.1 hF hp, by rw [List.length_set]; exact h.2.1, ?_, fun G hG => ?_⟩
  · have := sumC_set (E := E) hF; omega
  · rcases List.mem_or_eq_of_mem_set hG with z | z
    · exact h.2.2.2 G z
    · rw [z]; exact hE
theorem good_fresh {L : List Ent} (h : good L) {E : Ent} (hf : fnd L E.1 L.length = none) (hl : L.length < 60) (hc : eC E = []) (hE : eOk E) : good (putL L E) := by
  obtain ⟨h1, h2, h3, -⟩ := srt_fresh h.1 hf
  refine ⟨h1, by omega, by rw [h3, hc]; exact h.2.2.1, fun G hG => ?_⟩
  rcases fresh_mem h.1 hf hG with z | z
  · rw [z]; exact hE
  · exact h.2.2.2 G z
theorem good_keep {L : List Ent} (h : good L) (p : List Nat) : good (keepL L p) :=
  ⟨srt_keep h.1 p, Nat.le_trans (List.length_filter_le _ _) h.2.1, Nat.le_trans (sumC_filter _ _) h.2.2.1, fun E hE => h.2.2.2 E (List.mem_filter.mp hE).1⟩
end PS
theorem nmOk_le {L : List Nat} {s e : Nat} (h : nmOk L s e = true) : e ≤ s + 24 := by
  unfold nmOk at h
  simp only [Bool.and_eq_true, decide_eq_true_eq] at h
  omega
theorem ptGo_len {L : List Nat} : ∀ (f i s c : Nat), s ≤ i → ptGo L f i s c = true → L.length + 1 ≤ s + 25 * (6 - c) ∧ c < 6
  | 0, _, _, _, _, h => by cases h
  | f + 1, i, s, c, hs, h => by
    unfold ptGo at h
    split at h
    · exact ptGo_len f (i + 1) s c (by omega) h
    · rw [Bool.and_eq_true] at h
      have h1 := nmOk_le h.1
      have h2 := h.2
      split at h2
      · have := of_decide_eq_true h2
        omega
      · have := ptGo_len f (i + 1) (i + 1) (c + 1) (Nat.le_refl _) h2
        omega
theorem ptOk_len {L : List Nat} (h : ptOk L = true) : L.length ≤ 149 := by
  have := ptGo_len _ _ _ _ (Nat.le_refl _) h
  omega
section PU
theorem fresh_at {L : List Ent} (hL : srt L) {E : Ent} (h : fnd L E.1 L.length = none) : plc L E.1 ≤ L.length ∧ (∀ i G, L[i]? = some G → (cmpP G.1 E.1 < 0 ↔ i < plc L E.1)) ∧ (putL L E).take (plc L E.1) = L.take (plc L E.1) ∧ (putL L E)[plc L E.1]? = some E ∧ ∀ i, plc L E.1 ≤ i → (putL L E)[i + 1]? = L[i]? := by
  obtain ⟨A, B, h1, h2, h3, h4, h5⟩ := putL_fresh hL h
  rw [h5, h2]
  refine ⟨by rw [h1]; simp, fun i G hG => ?_, by rw [h1]; simp, by simp, fun i hi => ?_⟩
  · rw [h1] at hG
    by_cases hi : i < A.length
    · rw [List.getElem?_append_left hi] at hG
      exact ⟨fun _ => hi, fun _ => h3 G (List.mem_of_getElem? hG)⟩
    · rw [List.getElem?_append_right (by omega)] at hG
      have := h4 G (List.mem_of_getElem? hG)
      exact ⟨fun z => by omega, fun z => absurd z hi⟩
  · rw [h1, List.getElem?_append_right (by omega), List.getElem?_append_right hi, show i + 1 - A.length = (i - A.length) + 1 by omega, List.getElem?_cons_succ]
theorem take_s {L : List Ent} {i : Nat} {G : Ent} (h : L[i]? = some G) : L.take (i + 1) = L.take i ++ [G] := by rw [List.take_add_one, h]; rfl
theorem set_take {L : List Ent} {i : Nat} {E : Ent} : (L.set i E).take i = L.take i := by rw [List.take_set_of_le (Nat.le_refl _)]
theorem set_get {L : List Ent} {i j : Nat} {E F : Ent} (hF : L[i]? = some F) : (L.set i E)[j]? = if j = i then some E else L[j]? := by
  have hi := (List.getElem?_eq_some_iff.mp hF).1
  rw [List.getElem?_set]
  by_cases h : i = j
  · rw [if_pos h, if_pos h.symm, if_pos hi]
  · rw [if_neg h, if_neg (fun z => h z.symm)]
end PU
