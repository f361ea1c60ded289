/-! THE GHOST HEAP: a finite map from addresses to what their cells hold; a world of the kit is laid out of it where a row wants one -/
section GHOST
/-- a cell: an array (the number of its type, its contents), or an object (the number of its class, its fields) -/
abbrev g_C : Type := (Nat × vp_A) ⊕ (Nat × List Value)
abbrev g_H : Type := Nat → Option g_C
def g_e (aC : Nat → ClassId) (e : g_C) : va_E := match e with
  | .inl q => .inl (aC q.1, q.2)
  | .inr o => .inr o
def g_up (g : g_H) (a : Nat) (e : g_C) : g_H := fun b => if b = a then some e else g b
theorem g_up_s {g : g_H} {a : Nat} {e : g_C} : g_up g a e a = some e := if_pos rfl
theorem g_up_n {g : g_H} {a b : Nat} {e : g_C} (h : b ≠ a) : g_up g a e b = g b := if_neg h
def g_ok (D : va_G) (cl : List vw_C) (aC : Nat → ClassId) (A : Nat → Prop) (g : g_H) (H : Heap) : Prop :=
  ∀ (a : Nat) (e : g_C), g a = some e → va_at D cl (a, g_e aC e) H ∧ A a
/-- the world that a ghost heap is, in the order of the addresses -/
def g_ls (aC : Nat → ClassId) (g : g_H) (n : Nat) : va_W := (List.range n).filterMap (fun a => (g a).map (fun e => (a, g_e aC e)))
theorem g_ls_pw (aC : Nat → ClassId) (g : g_H) (n : Nat) : (g_ls aC g n).Pairwise (fun p q => p.1 < q.1) := by
  unfold g_ls
  refine List.Pairwise.filterMap _ ?_ List.pairwise_lt_range
  intro a b hab p hp q hq
  simp only [Option.map_eq_some_iff] at hp hq
  obtain ⟨e1, -, rfl⟩ := hp
  obtain ⟨e2, -, rfl⟩ := hq
  exact hab
theorem g_ls_mem {aC : Nat → ClassId} {g : g_H} {n : Nat} {q : Nat × va_E} (h : q ∈ g_ls aC g n) : ∃ e, g q.1 = some e ∧ q.2 = g_e aC e := by
  unfold g_ls at h
  obtain ⟨a, -, ha⟩ := List.mem_filterMap.mp h
  simp only [Option.map_eq_some_iff] at ha
  obtain ⟨e, he, rfl⟩ := ha
  exact ⟨e, he, rfl⟩
theorem g_ls_in {aC : Nat → ClassId} {g : g_H} {n a : Nat} {e : g_C} (h : g a = some e) (hn : a < n) : ∃ k : Nat, (g_ls aC g n)[k]? = some (a, g_e aC e) := by
  refine List.getElem?_of_mem ?_
  unfold g_ls
  refine List.mem_filterMap.mpr ⟨a, List.mem_range.mpr hn, ?_⟩
  rw [h]
  rfl
theorem g_ls_inj {aC : Nat → ClassId} {g : g_H} {n i j : Nat} {p q : Nat × va_E} (hi : (g_ls aC g n)[i]? = some p) (hj : (g_ls aC g n)[j]? = some q) (h : p.1 = q.1) : i = j := by
  have hp := List.pairwise_iff_getElem.mp (g_ls_pw aC g n)
  obtain ⟨hi', ei⟩ := List.getElem?_eq_some_iff.mp hi
  obtain ⟨hj', ej⟩ := List.getElem?_eq_some_iff.mp hj
  rcases Nat.lt_trichotomy i j with h1 | h1 | h1
  · have := hp i j hi' hj' h1
    rw [ei, ej] at this
    omega
  · exact h1
  · have := hp j i hj' hi' h1
    rw [ei, ej] at this
    omega
variable {D : va_G} {cl : List vw_C} {aC : Nat → ClassId} {A : Nat → Prop} {g : g_H} {H : Heap}
theorem g_ok.lt (h : g_ok D cl aC A g H) {a : Nat} {e : g_C} (ha : g a = some e) : a < H.size := (h a e ha).1.lt
theorem g_ok.pp (h : g_ok D cl aC A g H) : va_P D cl (g_ls aC g H.size) H := by
  intro k q hk
  obtain ⟨e, he, h2⟩ := g_ls_mem (List.mem_of_getElem? hk)
  have := (h q.1 e he).1
  rw [← h2] at this
  exact this
theorem g_ok.dd (h : g_ok D cl aC A g H) : va_D A (g_ls aC g H.size) :=
  ⟨fun _ _ _ _ hi hj hpq => g_ls_inj hi hj hpq, fun k q hk => by
    obtain ⟨e, he, -⟩ := g_ls_mem (List.mem_of_getElem? hk)
    exact (h q.1 e he).2⟩
theorem g_ok.at (h : g_ok D cl aC A g H) {a : Nat} {e : g_C} (ha : g a = some e) : ∃ k : Nat, (g_ls aC g H.size)[k]? = some (a, g_e aC e) := g_ls_in ha (h.lt ha)
/-- behind a write into one cell -/
theorem g_ok.set (h : g_ok D cl aC A g H) {a k : Nat} {e0 : va_E} {e : g_C} {H1 : Heap} (hk : (g_ls aC g H.size)[k]? = some (a, e0)) (hP : va_P D cl ((g_ls aC g H.size).set k (a, g_e aC e)) H1) : g_ok D cl aC A (g_up g a e) H1 := by
  have hl := (List.getElem?_eq_some_iff.mp hk).1
  intro b f hb
  by_cases hba : b = a
  · subst hba
    rw [g_up_s] at hb
    cases hb
    obtain ⟨e1, he1, -⟩ := g_ls_mem (List.mem_of_getElem? hk)
    refine ⟨hP k _ (List.getElem?_set_self hl), (h b e1 he1).2⟩
  · rw [g_up_n hba] at hb
    obtain ⟨j, hj⟩ := h.at hb
    have hjk : k ≠ j := fun q => by
      subst q
      rw [hk] at hj
      cases hj
      exact hba rfl
    exact ⟨hP j _ (by rw [List.getElem?_set_ne hjk]; exact hj), (h b f hb).2⟩
/-- behind the making of a cell -/
theorem g_ok.push (h : g_ok D cl aC A g H) {q : Nat} {e : g_C} {H1 : Heap} (hP : va_P D cl (g_ls aC g H.size ++ [(q, g_e aC e)]) H1) (hD : va_D A (g_ls aC g H.size ++ [(q, g_e aC e)])) : g q = none ∧ g_ok D cl aC A (g_up g q e) H1 := by
  have hlast : (g_ls aC g H.size ++ [(q, g_e aC e)])[(g_ls aC g H.size).length]? = some (q, g_e aC e) := by simp
  refine ⟨?_, fun b f hb => ?_⟩
  · cases hq : g q with
    | none => rfl
    | some e1 =>
      obtain ⟨j, hj⟩ := h.at hq
      have hjl := (List.getElem?_eq_some_iff.mp hj).1
      have := hD.1 j _ (q, g_e aC e1) (q, g_e aC e) (by rw [List.getElem?_append_left hjl]; exact hj) hlast rfl
      omega
  · by_cases hbq : b = q
    · subst hbq
      rw [g_up_s] at hb
      cases hb
      exact ⟨hP _ _ hlast, hD.2 _ _ hlast⟩
    · rw [g_up_n hbq] at hb
      obtain ⟨j, hj⟩ := h.at hb
      have hjl := (List.getElem?_eq_some_iff.mp hj).1
      exact ⟨hP j _ (by rw [List.getElem?_append_left hjl]; exact hj), (h b f hb).2⟩
theorem g_ok.kept (h : g_ok D cl aC A g H) {H1 : Heap} (hq : ∀ a : Nat, A a → H1[a]? = H[a]?) : g_ok D cl aC A g H1 := fun a e ha => ⟨(h a e ha).1.kept (hq a (h a e ha).2), (h a e ha).2⟩
theorem g_ok.weaken (h : g_ok D cl aC A g H) {B : Nat → Prop} (hB : ∀ a e, g a = some e → B a) : g_ok D cl aC B g H := fun a e ha => ⟨(h a e ha).1, hB a e ha⟩
end GHOST
