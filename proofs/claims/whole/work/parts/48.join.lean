/-! MirrorKeepModel: join -/
section JOINP
def o1 (c : Int) (o : Option Ent) : Option Ent := if c ≤ 0 then o else none
def m1 (c : Int) (m : Option Ent) : Option Ent := if 0 ≤ c then m else none
def jnE (c : Int) (o m : Option Ent) (n u : Nat) : Option Ent := if isCh (o1 c o) (m1 c m) = true ∧ n < u then m1 c m else o1 c o
def chN (c : Int) (o m : Option Ent) : Nat := if isCh (o1 c o) (m1 c m) then 1 else 0
def jnL : Nat → List Ent → List Ent → Nat → Nat → List Ent
  | 0, _, _, _, _ => []
  | f + 1, L, M, n, u => (jnE (cmpO L.head? M.head?) L.head? M.head? n u).toList ++ jnL f (if cmpO L.head? M.head? ≤ 0 then L.tail else L) (if 0 ≤ cmpO L.head? M.head? then M.tail else M) (n + chN (cmpO L.head? M.head?) L.head? M.head?) u
theorem jn_step {f n u : Nat} {L M : List Ent} {i j : Nat} {o m : Option Ent} (ho : L[i]? = o) (hm : M[j]? = m) : jnL (f + 1) (L.drop i) (M.drop j) n u = (jnE (cmpO o m) o m n u).toList ++ jnL f (L.drop (if cmpO o m ≤ 0 then i + 1 else i)) (M.drop (if 0 ≤ cmpO o m then j + 1 else j)) (n + chN (cmpO o m) o m) u := by
  rw [jnL, head_drop, head_drop, tail_drop', tail_drop', ho, hm]
  congr 2
  · split <;> rfl
  · split <;> rfl
theorem dif_len {f : Nat} {L M : List Ent} {i j : Nat} {o m : Option Ent} (ho : L[i]? = o) (hm : M[j]? = m) : (difL (f + 1) (L.drop i) (M.drop j)).length = chN (cmpO o m) o m + (difL f (L.drop (if cmpO o m ≤ 0 then i + 1 else i)) (M.drop (if 0 ≤ cmpO o m then j + 1 else j))).length := by
  have hx : ∀ a b, (noteL [] a b).length = if isCh a b then 1 else 0 := fun a b => by unfold noteL; split <;> rfl
  rw [dif_step ho hm, List.length_append, hx]
  rfl
theorem difL_len : ∀ (f : Nat) (L M : List Ent), (difL f L M).length ≤ f
  | 0, _, _ => Nat.le_refl _
  | f + 1, L, M => by
    unfold difL
    rw [List.length_append]
    have h1 := noteL_len [] (if cmpO L.head? M.head? ≤ 0 then L.head? else none) (if 0 ≤ cmpO L.head? M.head? then M.head? else none)
    have h2 := difL_len f (if cmpO L.head? M.head? ≤ 0 then L.tail else L) (if 0 ≤ cmpO L.head? M.head? then M.tail else M)
    simp only [List.length_nil] at h1
    omega
theorem cmpO_nn : cmpO none none = 1 := rfl
theorem difL_nil : ∀ f, difL f [] [] = []
  | 0 => rfl
  | f + 1 => by
    unfold difL
    rw [List.head?_nil, List.tail_nil, cmpO_nn, if_neg (by decide), if_pos (by decide), if_neg (by decide), if_pos (by decide), difL_nil f]
    rfl
theorem jnL_nil : ∀ (f n u : Nat), jnL f [] [] n u = []
  | 0, _, _ => rfl
  | f + 1, n, u => by
    unfold jnL
    rw [List.head?_nil, List.tail_nil, cmpO_nn, if_neg (by decide), if_pos (by decide), jnL_nil f]
    rfl
theorem cmpO_neg {o m : Option Ent} (h : cmpO o m < 0) : ∃ E, o = some E := by
  cases o with
  | none => exact absurd h (by show ¬ (1 : Int) < 0; decide)
  | some E => exact ⟨E, rfl⟩
theorem cmpO_zero {o m : Option Ent} (h : cmpO o m = 0) : ∃ E G, o = some E ∧ m = some G := by
  cases o with
  | none => exact absurd h (by show ¬ (1 : Int) = 0; decide)
  | some E => cases m with
    | none => exact absurd h (by show ¬ (-1 : Int) = 0; decide)
    | some G => exact ⟨E, G, rfl, rfl⟩
theorem cmpO_pos {o m : Option Ent} (h : 0 < cmpO o m) (hn : ¬ (o = none ∧ m = none)) : ∃ G, m = some G := by
  cases m with
  | some G => exact ⟨G, rfl⟩
  | none => cases o with
    | none => exact absurd ⟨rfl, rfl⟩ hn
    | some E => exact absurd h (by show ¬ (0 : Int) < -1; decide)
theorem ch_neg {c : Int} {E : Ent} {m : Option Ent} (h : c < 0) : isCh (o1 c (some E)) (m1 c m) = true := by
  rw [o1, m1, if_pos (by omega), if_neg (by omega)]
  rfl
theorem ch_pos {c : Int} {G : Ent} {o : Option Ent} (h : 0 < c) : isCh (o1 c o) (m1 c (some G)) = true := by
  rw [o1, m1, if_neg (by omega), if_pos (by omega)]
  rfl
theorem ch_zero {c : Int} {E G : Ent} (h : c = 0) : isCh (o1 c (some E)) (m1 c (some G)) = !lkE E G := by
  rw [o1, m1, if_pos (by omega), if_pos (by omega)]
  rfl
end JOINP
section JOIN
variable {am : Nat → Nat} {A : mA} {F : mF} {g : g_H}
variable {l : Launch} {D : va_G} {aC : Nat → ClassId}
theorem tm_b {t i : Nat} {L : List Ent} {E : Ent} (h : tm A t L) (hE : L[i]? = some E) : ∀ b ∈ E.1, b < 256 := (h.2.2.2.2 i E hE).1.2.1
theorem cmpO_b {s t i j : Nat} {L M : List Ent} (h : tm A s L) (h1 : tm A t M) : -258 ≤ cmpO L[i]? M[j]? ∧ cmpO L[i]? M[j]? ≤ 258 := by
  cases ho : L[i]? with
  | none => exact ⟨by show (-258 : Int) ≤ 1; decide, by show (1 : Int) ≤ 258; decide⟩
  | some E => cases hm : M[j]? with
    | none => exact ⟨by show (-258 : Int) ≤ -1; decide, by show (-1 : Int) ≤ 258; decide⟩
    | some G => exact cmpP_bound (tm_b h ho) (tm_b h1 hm)
/-- from the head to where the order is known -/
theorem s0 (i : Nat) : some (Value.int (nI i + nI 0)) = some (Value.int (nI i)) := congrArg (fun z => some (Value.int z)) (nI_add i 0)
set_option maxHeartbeats 2000000 in
theorem c_M_joinN (hfl : l.flags = pinnedFlags ++ [noTraceFlag]) (h1 : mg am A F g) {s t : Nat} {L M : List Ent} (hs : s < 46) (ht : t < 46) (hL1 : tm A s L) (hM1 : tm A t M) : k_CT l D aC n_M_join 0 0 [.ref (am 0), .int (nI s), .int (nI t), .int (nI 0), .int (-1)] g (rt (some (.int (nI (difL (L.length + M.length) L M).length))) g) := by
  have hl1 := hL1.2.2.1
  have hl2 := hM1.2.2.1
  generalize hNv : (difL (L.length + M.length) L M).length = N
  refine k_while hfl n_M_join ok_M_join rfl rfl rfl rfl rfl rfl (fun h => by cases h) (Nat.le_of_ble_eq_true rfl) [20, 84] (fun pc d lv g1 k0 n0 => (∃ i j n f, pc = 20 ∧ d = 2 * ((L.length - i) + (M.length - j)) + 1 ∧ lv = [(0, .ref (am 0)), (1, .int (nI s)), (2, .int (nI t)), (3, .int (nI 0)), (4, .int (-1)), (5, .int (nI i)), (6, .int (nI j)), (7, .int (nI n))] ∧ g1 = g ∧ k0 = 0 ∧ n0 = 0 ∧ i ≤ L.length ∧ j ≤ M.length ∧ (L.length - i) + (M.length - j) ≤ f ∧ n + (difL f (L.drop i) (M.drop j)).length = N) ∨ (∃ i j n f, pc = 84 ∧ d = 2 * ((L.length - i) + (M.length - j)) ∧ lv = [(0, .ref (am 0)), (1, .int (nI s)), (2, .int (nI t)), (3, .int (nI 0)), (4, .int (-1)), (5, .int (nI i)), (6, .int (nI j)), (7, .int (nI n)), (8, .int (Int32.ofInt (cmpO L[i]? M[j]?)))] ∧ g1 = g ∧ k0 = 0 ∧ n0 = 0 ∧ i ≤ L.length ∧ j ≤ M.length ∧ (L.length - i) + (M.length - j) ≤ f ∧ n + (difL f (L.drop i) (M.drop j)).length = N ∧ (i < L.length ∨ j < M.length))) 60 ?_ 80 ?_
  · conv => whnf
    refine ⟨fun _ => ?_, fun h => absurd (show (-1 : Int32).toInt < (0 : Int32).toInt by decide) h⟩
    conv => whnf
    exact ⟨rfl, _, _, Or.inl ⟨0, 0, 0, L.length + M.length, rfl, rfl, rfl, rfl, rfl, rfl, by omega, by omega, by omega, by rw [← hNv]; simp⟩, rfl, rfl, rfl, rfl, rfl, rfl, rfl, rfl, trivial⟩
  · rintro d pc lv g1 k0 n0 (⟨i, j, n, f, rfl, rfl, rfl, rfl, rfl, rfl, hi, hj, hf, hN⟩ | ⟨i, j, n, f, rfl, rfl, rfl, rfl, rfl, rfl, hi, hj, hf, hN, hij⟩)
    · conv => whnf
      refine ⟨_, _, h1.z, rfl, ?_⟩
      conv => whnf
      refine Or.inl ⟨1, _, _, s, h1.a1, rfl, rfl, by omega, by first | decide | omega, ?_⟩
      rw [hL1.1]
      have hgo : i < L.length ∨ j < M.length → True := fun _ => trivial
      by_cases hi2 : i < L.length
      · conv => whnf
        refine ⟨fun _ => ?_, fun h => absurd ((q_lt (by omega) (by omega)).mpr hi2) h⟩
        conv => whnf
        refine ⟨_, _, h1.z, rfl, ?_⟩
        conv => whnf
        refine Or.inl ⟨1, _, _, s, h1.a1, rfl, rfl, by omega, by first | decide | omega, ?_⟩
        rw [hL1.1]
        by_cases hie : i = L.length
        · conv => whnf
          refine ⟨fun h => absurd h (fun z => (q_ne (by omega) (by omega)).mp z hie), fun _ => ?_⟩
          have ho : L[i]? = none := List.getElem?_eq_none (by omega)
          have hce : Int32.ofInt (cmpO L[i]? M[j]?) = nI 1 := by rw [ho]; rfl
          conv => whnf
          exact ⟨rfl, _, _, by omega, Or.inr ⟨i, j, n, f, rfl, rfl, rfl, rfl, rfl, rfl, hi, hj, hf, hN, (Or.inl hi2)⟩, rfl, rfl, rfl, rfl, rfl, rfl, rfl, rfl, by rw [hce]; rfl, trivial⟩
        · conv => whnf
          refine ⟨fun _ => ?_, fun h => absurd ((q_ne (by omega) (by omega)).mpr hie) h⟩
          conv => whnf
          refine ⟨_, _, h1.z, rfl, ?_⟩
          conv => whnf
          refine Or.inl ⟨1, _, _, t, h1.a1, rfl, rfl, by omega, by first | decide | omega, ?_⟩
          rw [hM1.1]
          have hi3 : i < L.length := by omega
          have ho := List.getElem?_eq_getElem hi3
          by_cases hje : j = M.length
          · conv => whnf
            refine ⟨fun h => absurd h (fun z => (q_ne (by omega) (by omega)).mp z hje), fun _ => ?_⟩
            have hm : M[j]? = none := List.getElem?_eq_none (by omega)
            have hce : Int32.ofInt (cmpO L[i]? M[j]?) = -1 := by rw [ho, hm]; rfl
            conv => whnf
            exact ⟨rfl, _, _, by omega, Or.inr ⟨i, j, n, f, rfl, rfl, rfl, rfl, rfl, rfl, hi, hj, hf, hN, (Or.inl hi2)⟩, rfl, rfl, rfl, rfl, rfl, rfl, rfl, rfl, by rw [hce]; rfl, trivial⟩
          · conv => whnf
            refine ⟨fun _ => ?_, fun h => absurd ((q_ne (by omega) (by omega)).mpr hje) h⟩
            have hj3 : j < M.length := by omega
            have hm := List.getElem?_eq_getElem hj3
            conv => whnf
            refine ⟨⟨_, h1.z⟩, (Nat.le_of_ble_eq_true rfl), _, _, _, c_M_orderOf hfl h1 hs ht hL1 hM1 ho hm, by first | omega | exact Nat.le_of_ble_eq_true rfl | (simp only [dl1, dl2, dl3, dl4, dl5, dl6]; omega), by first | omega | exact Nat.le_of_ble_eq_true rfl | (simp only [dl1, dl2, dl3, dl4, dl5, dl6]; omega), k_rl ?_, k_rr⟩
            have hce : Int32.ofInt (cmpO L[i]? M[j]?) = Int32.ofInt (cmpP L[i].1 M[j].1) := by rw [ho, hm]; rfl
            conv => whnf
            exact ⟨rfl, _, _, by omega, Or.inr ⟨i, j, n, f, rfl, rfl, rfl, rfl, rfl, rfl, hi, hj, hf, hN, (Or.inl hi2)⟩, rfl, rfl, rfl, rfl, rfl, rfl, rfl, rfl, by rw [hce]; rfl, trivial⟩
      · conv => whnf
        refine ⟨fun h => absurd h (fun z => hi2 ((q_lt (by omega) (by omega)).mp z)), fun _ => ?_⟩
        conv => whnf
        refine ⟨_, _, h1.z, rfl, ?_⟩
        conv => whnf
        refine Or.inl ⟨1, _, _, t, h1.a1, rfl, rfl, by omega, by first | decide | omega, ?_⟩
        rw [hM1.1]
        by_cases hj2 : j < M.length
        · conv => whnf
          refine ⟨fun h => absurd h (fun z => absurd ((q_ge (by omega) (by omega)).mp z) (by omega)), fun _ => ?_⟩
          conv => whnf
          refine ⟨_, _, h1.z, rfl, ?_⟩
          conv => whnf
          refine Or.inl ⟨1, _, _, s, h1.a1, rfl, rfl, by omega, by first | decide | omega, ?_⟩
          rw [hL1.1]
          by_cases hie : i = L.length
          · conv => whnf
            refine ⟨fun h => absurd h (fun z => (q_ne (by omega) (by omega)).mp z hie), fun _ => ?_⟩
            have ho : L[i]? = none := List.getElem?_eq_none (by omega)
            have hce : Int32.ofInt (cmpO L[i]? M[j]?) = nI 1 := by rw [ho]; rfl
            conv => whnf
            exact ⟨rfl, _, _, by omega, Or.inr ⟨i, j, n, f, rfl, rfl, rfl, rfl, rfl, rfl, hi, hj, hf, hN, (Or.inr hj2)⟩, rfl, rfl, rfl, rfl, rfl, rfl, rfl, rfl, by rw [hce]; rfl, trivial⟩
          · conv => whnf
            refine ⟨fun _ => ?_, fun h => absurd ((q_ne (by omega) (by omega)).mpr hie) h⟩
            conv => whnf
            refine ⟨_, _, h1.z, rfl, ?_⟩
            conv => whnf
            refine Or.inl ⟨1, _, _, t, h1.a1, rfl, rfl, by omega, by first | decide | omega, ?_⟩
            rw [hM1.1]
            have hi3 : i < L.length := by omega
            have ho := List.getElem?_eq_getElem hi3
            by_cases hje : j = M.length
            · conv => whnf
              refine ⟨fun h => absurd h (fun z => (q_ne (by omega) (by omega)).mp z hje), fun _ => ?_⟩
              have hm : M[j]? = none := List.getElem?_eq_none (by omega)
              have hce : Int32.ofInt (cmpO L[i]? M[j]?) = -1 := by rw [ho, hm]; rfl
              conv => whnf
              exact ⟨rfl, _, _, by omega, Or.inr ⟨i, j, n, f, rfl, rfl, rfl, rfl, rfl, rfl, hi, hj, hf, hN, (Or.inr hj2)⟩, rfl, rfl, rfl, rfl, rfl, rfl, rfl, rfl, by rw [hce]; rfl, trivial⟩
            · conv => whnf
              refine ⟨fun _ => ?_, fun h => absurd ((q_ne (by omega) (by omega)).mpr hje) h⟩
              have hj3 : j < M.length := by omega
              have hm := List.getElem?_eq_getElem hj3
              conv => whnf
              refine ⟨⟨_, h1.z⟩, (Nat.le_of_ble_eq_true rfl), _, _, _, c_M_orderOf hfl h1 hs ht hL1 hM1 ho hm, by first | omega | exact Nat.le_of_ble_eq_true rfl | (simp only [dl1, dl2, dl3, dl4, dl5, dl6]; omega), by first | omega | exact Nat.le_of_ble_eq_true rfl | (simp only [dl1, dl2, dl3, dl4, dl5, dl6]; omega), k_rl ?_, k_rr⟩
              have hce : Int32.ofInt (cmpO L[i]? M[j]?) = Int32.ofInt (cmpP L[i].1 M[j].1) := by rw [ho, hm]; rfl
              conv => whnf
              exact ⟨rfl, _, _, by omega, Or.inr ⟨i, j, n, f, rfl, rfl, rfl, rfl, rfl, rfl, hi, hj, hf, hN, (Or.inr hj2)⟩, rfl, rfl, rfl, rfl, rfl, rfl, rfl, rfl, by rw [hce]; rfl, trivial⟩
        · conv => whnf
          refine ⟨fun _ => ?_, fun h => absurd ((q_ge (by omega) (by omega)).mpr (by omega)) h⟩
          have ei : L.drop i = [] := List.drop_eq_nil_of_le (by omega)
          have ej : M.drop j = [] := List.drop_eq_nil_of_le (by omega)
          rw [ei, ej, difL_nil, List.length_nil, Nat.add_zero] at hN
          conv => whnf
          refine ⟨⟨_, rfl, rfl⟩, ⟨by rw [hN], rfl⟩, by first | omega | exact Nat.le_of_ble_eq_true rfl | (simp only [dl1, dl2, dl3, dl4, dl5, dl6]; omega), by first | omega | exact Nat.le_of_ble_eq_true rfl | (simp only [dl1, dl2, dl3, dl4, dl5, dl6]; omega)⟩
    · have hcb := cmpO_b (i := i) (j := j) hL1 hM1
      obtain ⟨f, rfl⟩ : ∃ f', f = f' + 1 := ⟨f - 1, by omega⟩
      have hnn : ¬ (L[i]? = none ∧ M[j]? = none) := fun z => by
        have z1 := List.getElem?_eq_none_iff.mp z.1
        have z2 := List.getElem?_eq_none_iff.mp z.2
        omega
      have hl0 : n < 2 ^ 20 := by
        have := difL_len (L.length + M.length) L M
        omega
      rcases Int.lt_trichotomy (cmpO L[i]? M[j]?) 0 with hc | hc | hc
      · obtain ⟨E, hE⟩ := cmpO_neg hc
        have hi3 := (List.getElem?_eq_some_iff.mp hE).1
        conv => whnf
        refine ⟨fun _ => ?_, fun h => absurd ((cmp_ne0 hcb.1 hcb.2).mpr (by omega)) h⟩
        conv => whnf
        refine ⟨fun h => absurd h b2_t, fun _ => ?_⟩
        conv => whnf
        refine ⟨fun _ => ?_, fun h => absurd ((q_ge (by omega) (by decide)).mpr (by omega)) h⟩
        conv => whnf
        refine ⟨fun _ => ?_, fun h => absurd (show (-1 : Int32).toInt < (0 : Int32).toInt by decide) h⟩
        conv => whnf
        refine ⟨fun _ => ?_, fun h => absurd (show (-1 : Int32).toInt < (0 : Int32).toInt by decide) h⟩
        conv => whnf
        refine ⟨fun h => absurd h b2_t, fun _ => ?_⟩
        conv => whnf
        refine ⟨fun h => absurd h (fun z => absurd ((cmp_gt0 hcb.1 hcb.2).mp z) (by omega)), fun _ => ?_⟩
        conv => whnf
        refine ⟨fun _ => ?_, fun h => absurd ((cmp_lt0 hcb.1 hcb.2).mpr hc) h⟩
        conv => whnf
        refine ⟨rfl, _, _, ?_, Or.inl ⟨i + 1, j, n + 1, f, rfl, rfl, rfl, rfl, rfl, rfl, by omega, by omega, by omega, ?_⟩, rfl, rfl, rfl, rfl, rfl, sI i, s0 j, sI n, trivial⟩
        · omega
        · rw [dif_len rfl rfl, chN] at hN
          rw [if_pos (by rw [hE]; exact ch_neg (by rw [← hE]; exact hc)), if_pos (by omega), if_neg (by omega)] at hN
          omega
      · obtain ⟨E, G, hE, hG⟩ := cmpO_zero hc
        have hi3 := (List.getElem?_eq_some_iff.mp hE).1
        have hj3 := (List.getElem?_eq_some_iff.mp hG).1
        conv => whnf
        refine ⟨fun h => absurd h (fun z => absurd hc ((cmp_ne0 hcb.1 hcb.2).mp z)), fun _ => ?_⟩
        conv => whnf
        refine ⟨⟨_, h1.z⟩, (Nat.le_of_ble_eq_true rfl), _, _, _, c_M_isSame hfl h1 hs ht hL1 hM1 hE hG, by first | omega | exact Nat.le_of_ble_eq_true rfl | (simp only [dl1, dl2, dl3, dl4, dl5, dl6]; omega), by first | omega | exact Nat.le_of_ble_eq_true rfl | (simp only [dl1, dl2, dl3, dl4, dl5, dl6]; omega), k_rl ?_, k_rr⟩
        cases hlk : lkE E G with
        | false =>
          conv => whnf
          refine ⟨fun h => absurd h (fun z => z b2_f), fun _ => ?_⟩
          conv => whnf
          refine ⟨fun h => absurd h b2_t, fun _ => ?_⟩
          conv => whnf
          refine ⟨fun _ => ?_, fun h => absurd ((q_ge (by omega) (by decide)).mpr (by omega)) h⟩
          conv => whnf
          refine ⟨fun _ => ?_, fun h => absurd (show (-1 : Int32).toInt < (0 : Int32).toInt by decide) h⟩
          conv => whnf
          refine ⟨fun _ => ?_, fun h => absurd (show (-1 : Int32).toInt < (0 : Int32).toInt by decide) h⟩
          conv => whnf
          refine ⟨fun h => absurd h b2_t, fun _ => ?_⟩
          conv => whnf
          refine ⟨fun h => absurd h (fun z => absurd ((cmp_gt0 hcb.1 hcb.2).mp z) (by omega)), fun _ => ?_⟩
          conv => whnf
          refine ⟨fun h => absurd h (fun z => absurd ((cmp_lt0 hcb.1 hcb.2).mp z) (by omega)), fun _ => ?_⟩
          conv => whnf
          refine ⟨rfl, _, _, ?_, Or.inl ⟨i + 1, j + 1, n + 1, f, rfl, rfl, rfl, rfl, rfl, rfl, by omega, by omega, by omega, ?_⟩, rfl, rfl, rfl, rfl, rfl, sI i, sI j, sI n, trivial⟩
          · omega
          · rw [dif_len rfl rfl, chN] at hN
            rw [if_pos (by rw [hE, hG, ch_zero (by rw [← hE, ← hG]; exact hc), hlk]; rfl), if_pos (by omega), if_pos (by omega)] at hN
            omega
        | true =>
          conv => whnf
          refine ⟨fun _ => ?_, fun h => absurd b2_t h⟩
          conv => whnf
          refine ⟨fun _ => ?_, fun h => absurd b2_f h⟩
          conv => whnf
          refine ⟨fun _ => ?_, fun h => absurd (show (-1 : Int32).toInt < (0 : Int32).toInt by decide) h⟩
          conv => whnf
          refine ⟨fun _ => ?_, fun h => absurd (show (-1 : Int32).toInt < (0 : Int32).toInt by decide) h⟩
          conv => whnf
          refine ⟨fun _ => ?_, fun h => absurd b2_f h⟩
          conv => whnf
          refine ⟨fun h => absurd h (fun z => absurd ((cmp_gt0 hcb.1 hcb.2).mp z) (by omega)), fun _ => ?_⟩
          conv => whnf
          refine ⟨fun h => absurd h (fun z => absurd ((cmp_lt0 hcb.1 hcb.2).mp z) (by omega)), fun _ => ?_⟩
          conv => whnf
          refine ⟨rfl, _, _, ?_, Or.inl ⟨i + 1, j + 1, n, f, rfl, rfl, rfl, rfl, rfl, rfl, by omega, by omega, by omega, ?_⟩, rfl, rfl, rfl, rfl, rfl, sI i, sI j, s0 n, trivial⟩
          · omega
          · rw [dif_len rfl rfl, chN] at hN
            rw [if_neg (by rw [hE, hG, ch_zero (by rw [← hE, ← hG]; exact hc), hlk]; decide), if_pos (by omega), if_pos (by omega)] at hN
            omega
      · obtain ⟨G, hG⟩ := cmpO_pos hc hnn
        have hj3 := (List.getElem?_eq_some_iff.mp hG).1
        conv => whnf
        refine ⟨fun _ => ?_, fun h => absurd ((cmp_ne0 hcb.1 hcb.2).mpr (by omega)) h⟩
        conv => whnf
        refine ⟨fun h => absurd h b2_t, fun _ => ?_⟩
        conv => whnf
        refine ⟨fun _ => ?_, fun h => absurd ((q_ge (by omega) (by decide)).mpr (by omega)) h⟩
        conv => whnf
        refine ⟨fun _ => ?_, fun h => absurd (show (-1 : Int32).toInt < (0 : Int32).toInt by decide) h⟩
        conv => whnf
        refine ⟨fun _ => ?_, fun h => absurd (show (-1 : Int32).toInt < (0 : Int32).toInt by decide) h⟩
        conv => whnf
        refine ⟨fun h => absurd h b2_t, fun _ => ?_⟩
        conv => whnf
        refine ⟨fun _ => ?_, fun h => absurd ((cmp_gt0 hcb.1 hcb.2).mpr hc) h⟩
        conv => whnf
        refine ⟨fun h => absurd h (fun z => absurd ((cmp_lt0 hcb.1 hcb.2).mp z) (by omega)), fun _ => ?_⟩
        conv => whnf
        refine ⟨rfl, _, _, ?_, Or.inl ⟨i, j + 1, n + 1, f, rfl, rfl, rfl, rfl, rfl, rfl, by omega, by omega, by omega, ?_⟩, rfl, rfl, rfl, rfl, rfl, s0 i, sI j, sI n, trivial⟩
        · omega
        · rw [dif_len rfl rfl, chN] at hN
          rw [if_pos (by rw [hG]; exact ch_pos (by rw [← hG]; exact hc)), if_neg (by omega), if_pos (by omega)] at hN
          omega
end JOIN
