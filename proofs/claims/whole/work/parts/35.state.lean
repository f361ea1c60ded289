/-! MirrorKeep: the object and all that it alone holds -/
section CK
/-- the cells that change: 0 the object; 1 2 3 the tape; 4 5 the source; 6 7 the mirror; 8 9 the history; 10 11 12 the changes; 13 14 15 the differences -/
abbrev UU (ad : Nat → Nat) : List Nat := List.map ad [0, 1, 2, 3, 4, 5, 6, 7, 8, 9, 10, 11, 12, 13, 14, 15]
def inj16 (ad : Nat → Nat) : Prop := ∀ i j, i < 16 → j < 16 → ad i = ad j → i = j
theorem nin {ad : Nat → Nat} (hj : inj16 ad) {i : Nat} {I : List Nat} (h : (decide (i < 16) && I.all (fun j => decide (j < 16) && !Nat.beq i j)) = true) : ad i ∉ I.map ad := by
  simp only [Bool.and_eq_true, decide_eq_true_eq, List.all_eq_true, Bool.not_eq_true'] at h
  intro hm
  obtain ⟨j, hj1, hj2⟩ := List.mem_map.mp hm
  have h3 := h.2 j hj1
  have := hj j i h3.1 h.1 hj2
  subst this
  have h4 := h3.2
  rw [Nat.beq_refl] at h4
  cases h4
theorem sUU {ad : Nat → Nat} {I : List Nat} (h : I.all (fun j => decide (j < 16)) = true) : ∀ q ∈ I.map ad, q ∈ UU ad := by
  intro q hq
  obtain ⟨j, hj1, rfl⟩ := List.mem_map.mp hq
  have := List.all_eq_true.mp h j hj1
  simp only [decide_eq_true_eq] at this
  refine List.mem_map.mpr ⟨j, ?_, rfl⟩
  have h9 : ∀ j, j < 16 → j ∈ [0, 1, 2, 3, 4, 5, 6, 7, 8, 9, 10, 11, 12, 13, 14, 15] := by decide
  exact h9 j this
theorem iUU {ad : Nat → Nat} {i : Nat} (h : decide (i < 16) = true) : ad i ∈ UU ad := sUU (I := [i]) (by simpa using h) _ (by simp)
abbrev oK (ad : Nat → Nat) (rs : Nat) (ch st tm dn : Int32) : g_C := .inr (0, [.ref (ad 1), .ref (ad 4), .ref (ad 6), .ref (ad 8), .ref (ad 10), .ref (ad 13), .ref rs, .int ch, .int st, .int tm, .int dn])
def cK (ad : Nat → Nat) (g : g_H) (R T : List Nat) (S M Rs : List Ent) (Hs : List Ses) (X : List Chg) (ch st tm dn : Int32) (rs : Nat) : Prop :=
  inj16 ad ∧ g (ad 0) = some (oK ad rs ch st tm dn) ∧ isTp g (ad 1) (ad 2) (ad 3) R T ∧ tr (UU ad) g (ad 4) (ad 5) S ∧ tr (UU ad) g (ad 6) (ad 7) M ∧ trI (UU ad) g rs Rs ∧ his (UU ad) g (ad 8) (ad 9) Hs ∧ chs (UU ad) g (ad 10) (ad 11) (ad 12) X ∧ ∃ Y, chs (UU ad) g (ad 13) (ad 14) (ad 15) Y
variable {ad : Nat → Nat} {g g1 : g_H} {R T : List Nat} {S M Rs : List Ent} {Hs : List Ses} {X : List Chg} {ch st tm dn : Int32} {rs : Nat}
theorem isTp_fx {S0 : List Nat} {t rd bt : Nat} {R T : List Nat} (h : isTp g t rd bt R T) (h1 : fx S0 g g1) (n1 : t ∉ S0) (n2 : rd ∉ S0) (n3 : bt ∉ S0) : isTp g1 t rd bt R T := by
  obtain ⟨f, h, a1, a2, a3, a4⟩ := h
  exact ⟨f, h, fx_at h1 a1 n1, fx_at h1 a2 n2, fx_at h1 a3 n3, a4⟩
theorem nn_of {a : Nat} {e : g_C} (h : g a = some e) : g a ≠ none := by rw [h]; simp
theorem cK_al (h : cK ad g R T S M Rs Hs X ch st tm dn rs) : al (UU ad) g := by
  obtain ⟨hj, h0, ⟨f1, f2, t1, t2, t3, -⟩, ⟨f3, s1, s2, -⟩, ⟨f4, m1, m2, -⟩, -, ⟨f5, h1, h2, -⟩, ⟨f6, f7, c1, c2, c3, -⟩, ⟨Y, f8, f9, d1, d2, d3, -⟩⟩ := h
  intro u hu
  simp only [UU, List.map_cons, List.map_nil, List.mem_cons, List.not_mem_nil, or_false] at hu
  rcases hu with rfl | rfl | rfl | rfl | rfl | rfl | rfl | rfl | rfl | rfl | rfl | rfl | rfl | rfl | rfl | rfl
  all_goals first | exact nn_of h0 | exact nn_of t1 | exact nn_of t2 | exact nn_of t3 | exact nn_of s1 | exact nn_of s2 | exact nn_of m1 | exact nn_of m2 | exact nn_of h1 | exact nn_of h2 | exact nn_of c1 | exact nn_of c2 | exact nn_of c3 | exact nn_of d1 | exact nn_of d2 | exact nn_of d3
theorem cK_fx (h : cK ad g R T S M Rs Hs X ch st tm dn rs) (hf : fx (List.map ad []) g g1) : cK ad g1 R T S M Rs Hs X ch st tm dn rs := by
  obtain ⟨hj, h0, ht, hs, hm, hr, hh, hc, ⟨Y, hd⟩⟩ := h
  exact ⟨hj, fx_at hf h0 (nin hj (I := []) rfl), isTp_fx ht hf (nin hj (I := []) rfl) (nin hj (I := []) rfl) (nin hj (I := []) rfl), tr_fx hs hf (sUU (I := []) rfl) (nin hj (I := []) rfl) (nin hj (I := []) rfl), tr_fx hm hf (sUU (I := []) rfl) (nin hj (I := []) rfl) (nin hj (I := []) rfl), trI_fx hr hf (sUU (I := []) rfl), his_fx hh hf (sUU (I := []) rfl) (nin hj (I := []) rfl) (nin hj (I := []) rfl), chs_fx hc hf (sUU (I := []) rfl) (nin hj (I := []) rfl) (nin hj (I := []) rfl) (nin hj (I := []) rfl), ⟨Y, chs_fx hd hf (sUU (I := []) rfl) (nin hj (I := []) rfl) (nin hj (I := []) rfl) (nin hj (I := []) rfl)⟩⟩
theorem cK_tp (h : cK ad g R T S M Rs Hs X ch st tm dn rs) {R1 T1 : List Nat} (hn : isTp g1 (ad 1) (ad 2) (ad 3) R1 T1) (hf : fx (List.map ad [1, 2, 3]) g g1) : cK ad g1 R1 T1 S M Rs Hs X ch st tm dn rs := by
  obtain ⟨hj, h0, ht, hs, hm, hr, hh, hc, ⟨Y, hd⟩⟩ := h
  exact ⟨hj, fx_at hf h0 (nin hj (I := [1, 2, 3]) rfl), hn, tr_fx hs hf (sUU (I := [1, 2, 3]) rfl) (nin hj (I := [1, 2, 3]) rfl) (nin hj (I := [1, 2, 3]) rfl), tr_fx hm hf (sUU (I := [1, 2, 3]) rfl) (nin hj (I := [1, 2, 3]) rfl) (nin hj (I := [1, 2, 3]) rfl), trI_fx hr hf (sUU (I := [1, 2, 3]) rfl), his_fx hh hf (sUU (I := [1, 2, 3]) rfl) (nin hj (I := [1, 2, 3]) rfl) (nin hj (I := [1, 2, 3]) rfl), chs_fx hc hf (sUU (I := [1, 2, 3]) rfl) (nin hj (I := [1, 2, 3]) rfl) (nin hj (I := [1, 2, 3]) rfl) (nin hj (I := [1, 2, 3]) rfl), ⟨Y, chs_fx hd hf (sUU (I := [1, 2, 3]) rfl) (nin hj (I := [1, 2, 3]) rfl) (nin hj (I := [1, 2, 3]) rfl) (nin hj (I := [1, 2, 3]) rfl)⟩⟩
theorem cK_src (h : cK ad g R T S M Rs Hs X ch st tm dn rs) {S1 : List Ent} (hn : tr (UU ad) g1 (ad 4) (ad 5) S1) (hf : fx (List.map ad [4, 5]) g g1) : cK ad g1 R T S1 M Rs Hs X ch st tm dn rs := by
  obtain ⟨hj, h0, ht, hs, hm, hr, hh, hc, ⟨Y, hd⟩⟩ := h
  exact ⟨hj, fx_at hf h0 (nin hj (I := [4, 5]) rfl), isTp_fx ht hf (nin hj (I := [4, 5]) rfl) (nin hj (I := [4, 5]) rfl) (nin hj (I := [4, 5]) rfl), hn, tr_fx hm hf (sUU (I := [4, 5]) rfl) (nin hj (I := [4, 5]) rfl) (nin hj (I := [4, 5]) rfl), trI_fx hr hf (sUU (I := [4, 5]) rfl), his_fx hh hf (sUU (I := [4, 5]) rfl) (nin hj (I := [4, 5]) rfl) (nin hj (I := [4, 5]) rfl), chs_fx hc hf (sUU (I := [4, 5]) rfl) (nin hj (I := [4, 5]) rfl) (nin hj (I := [4, 5]) rfl) (nin hj (I := [4, 5]) rfl), ⟨Y, chs_fx hd hf (sUU (I := [4, 5]) rfl) (nin hj (I := [4, 5]) rfl) (nin hj (I := [4, 5]) rfl) (nin hj (I := [4, 5]) rfl)⟩⟩
theorem cK_mir (h : cK ad g R T S M Rs Hs X ch st tm dn rs) {M1 : List Ent} (hn : tr (UU ad) g1 (ad 6) (ad 7) M1) (hf : fx (List.map ad [6, 7]) g g1) : cK ad g1 R T S M1 Rs Hs X ch st tm dn rs := by
  obtain ⟨hj, h0, ht, hs, hm, hr, hh, hc, ⟨Y, hd⟩⟩ := h
  exact ⟨hj, fx_at hf h0 (nin hj (I := [6, 7]) rfl), isTp_fx ht hf (nin hj (I := [6, 7]) rfl) (nin hj (I := [6, 7]) rfl) (nin hj (I := [6, 7]) rfl), tr_fx hs hf (sUU (I := [6, 7]) rfl) (nin hj (I := [6, 7]) rfl) (nin hj (I := [6, 7]) rfl), hn, trI_fx hr hf (sUU (I := [6, 7]) rfl), his_fx hh hf (sUU (I := [6, 7]) rfl) (nin hj (I := [6, 7]) rfl) (nin hj (I := [6, 7]) rfl), chs_fx hc hf (sUU (I := [6, 7]) rfl) (nin hj (I := [6, 7]) rfl) (nin hj (I := [6, 7]) rfl) (nin hj (I := [6, 7]) rfl), ⟨Y, chs_fx hd hf (sUU (I := [6, 7]) rfl) (nin hj (I := [6, 7]) rfl) (nin hj (I := [6, 7]) rfl) (nin hj (I := [6, 7]) rfl)⟩⟩
theorem cK_his (h : cK ad g R T S M Rs Hs X ch st tm dn rs) {H1 : List Ses} (hn : his (UU ad) g1 (ad 8) (ad 9) H1) (hf : fx (List.map ad [8, 9]) g g1) : cK ad g1 R T S M Rs H1 X ch st tm dn rs := by
  obtain ⟨hj, h0, ht, hs, hm, hr, hh, hc, ⟨Y, hd⟩⟩ := h
  exact ⟨hj, fx_at hf h0 (nin hj (I := [8, 9]) rfl), isTp_fx ht hf (nin hj (I := [8, 9]) rfl) (nin hj (I := [8, 9]) rfl) (nin hj (I := [8, 9]) rfl), tr_fx hs hf (sUU (I := [8, 9]) rfl) (nin hj (I := [8, 9]) rfl) (nin hj (I := [8, 9]) rfl), tr_fx hm hf (sUU (I := [8, 9]) rfl) (nin hj (I := [8, 9]) rfl) (nin hj (I := [8, 9]) rfl), trI_fx hr hf (sUU (I := [8, 9]) rfl), hn, chs_fx hc hf (sUU (I := [8, 9]) rfl) (nin hj (I := [8, 9]) rfl) (nin hj (I := [8, 9]) rfl) (nin hj (I := [8, 9]) rfl), ⟨Y, chs_fx hd hf (sUU (I := [8, 9]) rfl) (nin hj (I := [8, 9]) rfl) (nin hj (I := [8, 9]) rfl) (nin hj (I := [8, 9]) rfl)⟩⟩
theorem cK_chs (h : cK ad g R T S M Rs Hs X ch st tm dn rs) {X1 : List Chg} (hn : chs (UU ad) g1 (ad 10) (ad 11) (ad 12) X1) (hf : fx (List.map ad [10, 11, 12]) g g1) : cK ad g1 R T S M Rs Hs X1 ch st tm dn rs := by
  obtain ⟨hj, h0, ht, hs, hm, hr, hh, hc, ⟨Y, hd⟩⟩ := h
  exact ⟨hj, fx_at hf h0 (nin hj (I := [10, 11, 12]) rfl), isTp_fx ht hf (nin hj (I := [10, 11, 12]) rfl) (nin hj (I := [10, 11, 12]) rfl) (nin hj (I := [10, 11, 12]) rfl), tr_fx hs hf (sUU (I := [10, 11, 12]) rfl) (nin hj (I := [10, 11, 12]) rfl) (nin hj (I := [10, 11, 12]) rfl), tr_fx hm hf (sUU (I := [10, 11, 12]) rfl) (nin hj (I := [10, 11, 12]) rfl) (nin hj (I := [10, 11, 12]) rfl), trI_fx hr hf (sUU (I := [10, 11, 12]) rfl), his_fx hh hf (sUU (I := [10, 11, 12]) rfl) (nin hj (I := [10, 11, 12]) rfl) (nin hj (I := [10, 11, 12]) rfl), hn, ⟨Y, chs_fx hd hf (sUU (I := [10, 11, 12]) rfl) (nin hj (I := [10, 11, 12]) rfl) (nin hj (I := [10, 11, 12]) rfl) (nin hj (I := [10, 11, 12]) rfl)⟩⟩
theorem cK_dif (h : cK ad g R T S M Rs Hs X ch st tm dn rs) {Y1 : List Chg} (hn : chs (UU ad) g1 (ad 13) (ad 14) (ad 15) Y1) (hf : fx (List.map ad [13, 14, 15]) g g1) : cK ad g1 R T S M Rs Hs X ch st tm dn rs := by
  obtain ⟨hj, h0, ht, hs, hm, hr, hh, hc, ⟨Y, hd⟩⟩ := h
  exact ⟨hj, fx_at hf h0 (nin hj (I := [13, 14, 15]) rfl), isTp_fx ht hf (nin hj (I := [13, 14, 15]) rfl) (nin hj (I := [13, 14, 15]) rfl) (nin hj (I := [13, 14, 15]) rfl), tr_fx hs hf (sUU (I := [13, 14, 15]) rfl) (nin hj (I := [13, 14, 15]) rfl) (nin hj (I := [13, 14, 15]) rfl), tr_fx hm hf (sUU (I := [13, 14, 15]) rfl) (nin hj (I := [13, 14, 15]) rfl) (nin hj (I := [13, 14, 15]) rfl), trI_fx hr hf (sUU (I := [13, 14, 15]) rfl), his_fx hh hf (sUU (I := [13, 14, 15]) rfl) (nin hj (I := [13, 14, 15]) rfl) (nin hj (I := [13, 14, 15]) rfl), chs_fx hc hf (sUU (I := [13, 14, 15]) rfl) (nin hj (I := [13, 14, 15]) rfl) (nin hj (I := [13, 14, 15]) rfl) (nin hj (I := [13, 14, 15]) rfl), ⟨Y1, hn⟩⟩
theorem cK_z {ch1 st1 tm1 dn1 : Int32} (h : cK ad g R T S M Rs Hs X ch st tm dn rs) : cK ad (g_up g (ad 0) (oK ad rs ch1 st1 tm1 dn1)) R T S M Rs Hs X ch1 st1 tm1 dn1 rs := by
  have hf : fx (List.map ad [0]) g (g_up g (ad 0) (oK ad rs ch1 st1 tm1 dn1)) := fx_up fx_rf (by simp)
  obtain ⟨hj, h0, ht, hs, hm, hr, hh, hc, ⟨Y, hd⟩⟩ := h
  exact ⟨hj, g_up_s, isTp_fx ht hf (nin hj (I := [0]) rfl) (nin hj (I := [0]) rfl) (nin hj (I := [0]) rfl), tr_fx hs hf (sUU (I := [0]) rfl) (nin hj (I := [0]) rfl) (nin hj (I := [0]) rfl), tr_fx hm hf (sUU (I := [0]) rfl) (nin hj (I := [0]) rfl) (nin hj (I := [0]) rfl), trI_fx hr hf (sUU (I := [0]) rfl), his_fx hh hf (sUU (I := [0]) rfl) (nin hj (I := [0]) rfl) (nin hj (I := [0]) rfl), chs_fx hc hf (sUU (I := [0]) rfl) (nin hj (I := [0]) rfl) (nin hj (I := [0]) rfl) (nin hj (I := [0]) rfl), ⟨Y, chs_fx hd hf (sUU (I := [0]) rfl) (nin hj (I := [0]) rfl) (nin hj (I := [0]) rfl) (nin hj (I := [0]) rfl)⟩⟩
theorem cK_r {Rs1 : List Ent} {rs1 : Nat} (h : cK ad g R T S M Rs Hs X ch st tm dn rs) (hr1 : trI (UU ad) g rs1 Rs1) : cK ad (g_up g (ad 0) (oK ad rs1 ch st tm dn)) R T S M Rs1 Hs X ch st tm dn rs1 := by
  have hf : fx (List.map ad [0]) g (g_up g (ad 0) (oK ad rs1 ch st tm dn)) := fx_up fx_rf (by simp)
  obtain ⟨hj, h0, ht, hs, hm, hr, hh, hc, ⟨Y, hd⟩⟩ := h
  exact ⟨hj, g_up_s, isTp_fx ht hf (nin hj (I := [0]) rfl) (nin hj (I := [0]) rfl) (nin hj (I := [0]) rfl), tr_fx hs hf (sUU (I := [0]) rfl) (nin hj (I := [0]) rfl) (nin hj (I := [0]) rfl), tr_fx hm hf (sUU (I := [0]) rfl) (nin hj (I := [0]) rfl) (nin hj (I := [0]) rfl), trI_fx hr1 hf (sUU (I := [0]) rfl), his_fx hh hf (sUU (I := [0]) rfl) (nin hj (I := [0]) rfl) (nin hj (I := [0]) rfl), chs_fx hc hf (sUU (I := [0]) rfl) (nin hj (I := [0]) rfl) (nin hj (I := [0]) rfl) (nin hj (I := [0]) rfl), ⟨Y, chs_fx hd hf (sUU (I := [0]) rfl) (nin hj (I := [0]) rfl) (nin hj (I := [0]) rfl) (nin hj (I := [0]) rfl)⟩⟩
end CK
