/-! Class and reference side by side: neither touches the other's cells -/
section FRM
/-- cells of the reference: int arrays, its object, arrays of longs -/
def isM (c : g_C) : Prop := (∃ x, c = .inl (1, x)) ∨ (∃ fs, c = .inr (7, fs)) ∨ ∃ x, c = .inl (2, x)
theorem nM_b {x : vp_A} : ¬ isM (.inl (0, x)) := by rintro (⟨_, h⟩ | ⟨_, h⟩ | ⟨_, h⟩) <;> cases h
theorem nM_3 {x : vp_A} : ¬ isM (.inl (3, x)) := by rintro (⟨_, h⟩ | ⟨_, h⟩ | ⟨_, h⟩) <;> cases h
theorem nM_4 {x : vp_A} : ¬ isM (.inl (4, x)) := by rintro (⟨_, h⟩ | ⟨_, h⟩ | ⟨_, h⟩) <;> cases h
theorem nM_o {ci : Nat} {fs : List Value} (hc : ci < 7) : ¬ isM (.inr (ci, fs)) := by
  rintro (⟨_, h⟩ | ⟨_, h⟩ | ⟨_, h⟩)
  · cases h
  · cases h; omega
  · cases h
def fy (g g1 : g_H) : Prop := ∀ q c, g q = some c → ¬ isM c → g1 q = some c
variable {g g1 : g_H} {U : List Nat}
theorem isBy_fy {a : Nat} {L : List Nat} (h : isBy g a L) (hf : fy g g1) : isBy g1 a L := by
  obtain ⟨f, a1, a2⟩ := h
  exact ⟨f, hf _ _ a1 nM_b, a2⟩
theorem en_fy {a : Nat} {E : Ent} (h : en U g a E) (hf : fy g g1) : en U g1 a E := by
  obtain ⟨p, c, a1, a2, a3, a4⟩ := h
  exact ⟨p, c, hf _ _ a1 (nM_o (by decide)), isBy_fy a2 hf, isBy_fy a3 hf, a4⟩
theorem tr_fy {t a : Nat} {L : List Ent} (h : tr U g t a L) (hf : fy g g1) : tr U g1 t a L := by
  obtain ⟨f, a1, a2, a3, a4⟩ := h
  exact ⟨f, hf _ _ a1 (nM_o (by decide)), hf _ _ a2 nM_3, a3, fun i E hE => (a4 i E hE).imp fun b hb => ⟨hb.1, en_fy hb.2 hf⟩⟩
theorem trI_fy {t : Nat} {L : List Ent} (h : trI U g t L) (hf : fy g g1) : trI U g1 t L := by
  obtain ⟨a, a1, a2⟩ := h
  exact ⟨a, tr_fy a1 hf, a2⟩
theorem se_fy {b : Nat} {S : Ses} (h : se U g b S) (hf : fy g g1) : se U g1 b S := by
  obtain ⟨t, a1, a2, a3⟩ := h
  exact ⟨t, hf _ _ a1 (nM_o (by decide)), trI_fy a2 hf, a3⟩
theorem his_fy {h0 ha : Nat} {Hs : List Ses} (h : his U g h0 ha Hs) (hf : fy g g1) : his U g1 h0 ha Hs := by
  obtain ⟨f, a1, a2, a3, a4⟩ := h
  exact ⟨f, hf _ _ a1 (nM_o (by decide)), hf _ _ a2 nM_4, a3, fun i S hS => (a4 i S hS).imp fun b hb => ⟨hb.1, se_fy hb.2 hf⟩⟩
theorem oR_fy {x : Option Nat} {o : Option Ent} (h : oR U g x o) (hf : fy g g1) : oR U g1 x o := by
  cases o with
  | none => exact h
  | some E => exact h.imp fun b hb => ⟨hb.1, en_fy hb.2 hf⟩
theorem chs_fy {c oa na : Nat} {X : List Chg} (h : chs U g c oa na X) (hf : fy g g1) : chs U g1 c oa na X := by
  obtain ⟨fo, fn, a1, a2, a3, a4, a5, a6⟩ := h
  exact ⟨fo, fn, hf _ _ a1 (nM_o (by decide)), hf _ _ a2 nM_3, hf _ _ a3 nM_3, a4, a5, fun i x hx => ⟨oR_fy (a6 i x hx).1 hf, oR_fy (a6 i x hx).2 hf⟩⟩
theorem isTp_fy {t rd bt : Nat} {R T : List Nat} (h : isTp g t rd bt R T) (hf : fy g g1) : isTp g1 t rd bt R T := by
  obtain ⟨f, h, a1, a2, a3, a4⟩ := h
  exact ⟨f, h, hf _ _ a1 (nM_o (by decide)), hf _ _ a2 nM_b, hf _ _ a3 nM_b, a4⟩
variable {ad : Nat → Nat} {R T : List Nat} {S M Rs : List Ent} {Hs : List Ses} {X : List Chg} {ch st tm dn : Int32} {rs : Nat}
theorem cK_fy (h : cK ad g R T S M Rs Hs X ch st tm dn rs) (hf : fy g g1) : cK ad g1 R T S M Rs Hs X ch st tm dn rs := by
  obtain ⟨hj, h0, ht, hs, hm, hr, hh, hc, ⟨Y, hd⟩⟩ := h
  exact ⟨hj, hf _ _ h0 (nM_o (by decide)), isTp_fy ht hf, tr_fy hs hf, tr_fy hm hf, trI_fy hr hf, his_fy hh hf, chs_fy hc hf, ⟨Y, chs_fy hd hf⟩⟩
theorem cK_nM (h : cK ad g R T S M Rs Hs X ch st tm dn rs) : ∀ q ∈ UU ad, ∃ c, g q = some c ∧ ¬ isM c := by
  obtain ⟨hj, h0, ⟨f1, f2, t1, t2, t3, -⟩, ⟨f3, s1, s2, -⟩, ⟨f4, m1, m2, -⟩, -, ⟨f5, h1, h2, -⟩, ⟨f6, f7, c1, c2, c3, -⟩, ⟨Y, f8, f9, d1, d2, d3, -⟩⟩ := h
  intro u hu
  simp only [UU, List.map_cons, List.map_nil, List.mem_cons, List.not_mem_nil, or_false] at hu
  rcases hu with rfl | rfl | rfl | rfl | rfl | rfl | rfl | rfl | rfl | rfl | rfl | rfl | rfl | rfl | rfl | rfl
  · exact ⟨_, h0, nM_o (by decide)⟩
  · exact ⟨_, t1, nM_o (by decide)⟩
  · exact ⟨_, t2, nM_b⟩
  · exact ⟨_, t3, nM_b⟩
  · exact ⟨_, s1, nM_o (by decide)⟩
  · exact ⟨_, s2, nM_3⟩
  · exact ⟨_, m1, nM_o (by decide)⟩
  · exact ⟨_, m2, nM_3⟩
  · exact ⟨_, h1, nM_o (by decide)⟩
  · exact ⟨_, h2, nM_4⟩
  · exact ⟨_, c1, nM_o (by decide)⟩
  · exact ⟨_, c2, nM_3⟩
  · exact ⟨_, c3, nM_3⟩
  · exact ⟨_, d1, nM_o (by decide)⟩
  · exact ⟨_, d2, nM_3⟩
  · exact ⟨_, d3, nM_3⟩
variable {am : Nat → Nat} {A : mA} {F : mF}
abbrev lc (f : Nat → Int64) : g_C := .inl (2, 1, .inr (.inl f))
theorem mg_M (h : mg am A F g) {i : Nat} (hi : i < 16) : ∃ c, g (am i) = some c ∧ isM c := by
  by_cases h0 : i = 0
  · subst h0; exact ⟨_, h.z, Or.inr (Or.inl ⟨_, rfl⟩)⟩
  · exact ⟨_, h.2.2 i (by omega) hi, Or.inl ⟨_, rfl⟩⟩
theorem mg_nU (h : mg am A F g) (hk : cK ad g R T S M Rs Hs X ch st tm dn rs) {i : Nat} (hi : i < 16) : am i ∉ UU ad := fun z => by
  obtain ⟨c, h1, h2⟩ := mg_M h hi
  obtain ⟨c1, h3, h4⟩ := cK_nM hk _ z
  rw [h1] at h3; cases h3; exact h4 h2
/-- what the class does leaves the reference as it was -/
theorem mg_K (h : mg am A F g) (hk : cK ad g R T S M Rs Hs X ch st tm dn rs) (hf : fx (UU ad) g g1) : mg am A F g1 := mg_fx2 h hf (fun i hi => mg_nU h hk hi)
theorem o_K {o : Nat} {f : Nat → Int64} (ho : g o = some (lc f)) (hk : cK ad g R T S M Rs Hs X ch st tm dn rs) (hf : fx (UU ad) g g1) : g1 o = some (lc f) := fx_at hf ho (fun z => by
  obtain ⟨c1, h3, h4⟩ := cK_nM hk _ z
  rw [ho] at h3; cases h3; exact h4 (Or.inr (Or.inr ⟨_, rfl⟩)))
theorem UU_M (h : mg am A F g) {q : Nat} (hq : q ∈ UU am) : ∃ c, g q = some c ∧ ((∃ x, c = .inl (1, x)) ∨ (∃ fs, c = .inr (7, fs))) := by
  obtain ⟨i, hi, rfl⟩ := List.mem_map.mp hq
  have hi : i < 16 := by
    simp only [List.mem_cons, List.not_mem_nil, or_false] at hi
    omega
  by_cases h0 : i = 0
  · subst h0; exact ⟨_, h.z, Or.inr ⟨_, rfl⟩⟩
  · exact ⟨_, h.2.2 i (by omega) hi, Or.inl ⟨_, rfl⟩⟩
/-- and what the reference does the class -/
theorem fy_M (h : mg am A F g) (hf : fx (UU am) g g1) : fy g g1 := fun q c hq hc => fx_at hf hq (fun z => by
  obtain ⟨c1, h3, h4⟩ := UU_M h z
  rw [hq] at h3
  cases h3
  rcases h4 with ⟨x, rfl⟩ | ⟨fs, rfl⟩
  · exact hc (Or.inl ⟨_, rfl⟩)
  · exact hc (Or.inr (Or.inl ⟨_, rfl⟩)))
theorem o_M {o : Nat} {f : Nat → Int64} (ho : g o = some (lc f)) (h : mg am A F g) (hf : fx (UU am) g g1) : g1 o = some (lc f) := fx_at hf ho (fun z => by
  obtain ⟨c1, h3, h4⟩ := UU_M h z
  rw [ho] at h3
  cases h3
  rcases h4 with ⟨x, hx⟩ | ⟨fs, hx⟩ <;> cases hx)
theorem fy_o {o : Nat} {f f1 : Nat → Int64} (ho : g o = some (lc f)) : fy g (g_up g o (lc f1)) := fun q c hq hc => by
  by_cases h : q = o
  · subst h
    rw [ho] at hq
    cases hq
    exact absurd (Or.inr (Or.inr ⟨_, rfl⟩)) hc
  · rw [g_up_n h]; exact hq
theorem mg_o {o : Nat} {f f1 : Nat → Int64} (ho : g o = some (lc f)) (h : mg am A F g) : mg am A F (g_up g o (lc f1)) := by
  have hn : ∀ i, i < 16 → am i ≠ o := fun i hi z => by
    by_cases h0 : i = 0
    · subst h0; have := h.z; rw [z, ho] at this; cases this
    · have := h.2.2 i (by omega) hi
      rw [z, ho] at this; cases this
  exact ⟨h.1, by rw [g_up_n (hn 0 (by decide))]; exact h.z, fun i h0 hi => by rw [g_up_n (hn i hi)]; exact h.2.2 i h0 hi⟩
end FRM
/-! The state of both -/
section LST
/-- what holds of the lists that class and reference stand for -/
def pI (S M : List Ent) (Hs : List Ses) (X : List Chg) (ch st tm dn : Int32) (O N : List Ent) (cp : Option (List Nat)) (tv : Int32) (op nX : Nat) : Prop :=
  good S ∧ chR S ch cp ∧ dn = nI op ∧ nX ≤ 120 ∧ (st = 0 ∧ op = 0 ∧ good M ∨ (st = nI 1 ∨ st = nI 2) ∧ op < 2 * nX + 3 ∧ good O ∧ good N ∧ X = difL (O.length + N.length) O N ∧ nX = X.length ∧ M = mir O N op ∧ tm = tv ∧ Hs.length < 40)
def lw (ad am : Nat → Nat) (o : Nat) (g : g_H) (thr : Nat) : Prop := ∃ R T S M Rs Hs X ch st tm dn rs A F O N cp tv op nX f, cK ad g R T S M Rs Hs X ch st tm dn rs ∧ mg am A F g ∧ F 0 = nI thr ∧ mR A F R T S M Rs Hs O N cp st tv op nX ∧ g o = some (lc f) ∧ pI S M Hs X ch st tm dn O N cp tv op nX
end LST
