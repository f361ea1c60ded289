/-! MirrorKeepModel: what its memory stands for -/
section MR
/-- bytes in an array of ints -/
def ib (f : Nat → Int32) (L : List Nat) : Prop := (∀ i, i < L.length → f i = nI (L.getD i 0)) ∧ ∀ b ∈ L, b < 256
def cpR (A : mA) (F : mF) (cp : Option (List Nat)) : Prop := match cp with
  | none => F 7 = nI 0
  | some P => F 7 = nI 1 ∧ F 8 = nI P.length ∧ P.length ≤ 150 ∧ ib (A 15) P
def seR (A : mA) (Hs : List Ses) : Prop := Hs.length ≤ 40 ∧ ∀ i X, Hs[i]? = some X → A 13 i = X.1 ∧ A 14 i = nI X.2.1 ∧ tm A (6 + i) X.2.2
def mR (A : mA) (F : mF) (R : List Nat) (T : List Nat) (S : List Ent) (M : List Ent) (Rs : List Ent) (Hs : List Ses) (O : List Ent) (N : List Ent) (cp : Option (List Nat)) (st : Int32) (tv : Int32) (op : Nat) (nX : Nat) : Prop :=
  (F 1 = nI T.length ∧ F 2 = st ∧ F 3 = nI op ∧ F 4 = nI nX ∧ F 5 = nI Hs.length ∧ F 6 = tv) ∧ (R.length = 20 ∧ ib (A 11) R) ∧ (T.length ≤ 400 ∧ ib (A 12) T) ∧ tm A 0 S ∧ tm A 1 M ∧ tm A 2 Rs ∧ tm A 3 O ∧ tm A 4 N ∧ seR A Hs ∧ cpR A F cp
variable {A A1 : mA} {F : mF} {R : List Nat} {T : List Nat} {S : List Ent} {M : List Ent} {Rs : List Ent} {Hs : List Ses} {O : List Ent} {N : List Ent} {cp : Option (List Nat)} {st : Int32} {tv : Int32} {op : Nat} {nX : Nat}
theorem hi_dif {t r : Nat} (hd : dif A A1 (Wt t)) (hr : 11 ≤ r) : A1 r = A r := funext fun q => hd r q (by unfold Wt; omega)
theorem seR_dif {t : Nat} {Hs : List Ses} (h : seR A Hs) (hd : dif A A1 (Wt t)) (ht : t < 6) : seR A1 Hs := ⟨h.1, fun i X hX => ⟨by rw [hi_dif hd (by decide)]; exact (h.2 i X hX).1, by rw [hi_dif hd (by decide)]; exact (h.2 i X hX).2.1, tm_dif (h.2 i X hX).2.2 hd (by omega)⟩⟩
theorem cpR_dif {t : Nat} (h : cpR A F cp) (hd : dif A A1 (Wt t)) : cpR A1 F cp := by
  cases cp with
  | none => exact h
  | some P => exact ⟨h.1, h.2.1, h.2.2.1, by rw [hi_dif hd (by decide)]; exact h.2.2.2⟩
theorem mR_5 (h : mR A F R T S M Rs Hs O N cp st tv op nX) (hd : dif A A1 (Wt 5)) : mR A1 F R T S M Rs Hs O N cp st tv op nX := by
  obtain ⟨h1, h2, h3, h4, h5, h6, h7, h8, h9, h10⟩ := h
  exact ⟨h1, by rw [hi_dif hd (by decide)]; exact h2, by rw [hi_dif hd (by decide)]; exact h3, tm_dif h4 hd (by decide), tm_dif h5 hd (by decide), tm_dif h6 hd (by decide), tm_dif h7 hd (by decide), tm_dif h8 hd (by decide), seR_dif h9 hd (by decide), cpR_dif h10 hd⟩
theorem mR_0 {S1 : List Ent} (h : mR A F R T S M Rs Hs O N cp st tv op nX) (hd : dif A A1 (Wt 0)) (hn : tm A1 0 S1) : mR A1 F R T S1 M Rs Hs O N cp st tv op nX := by
  obtain ⟨h1, h2, h3, h4, h5, h6, h7, h8, h9, h10⟩ := h
  exact ⟨h1, by rw [hi_dif hd (by decide)]; exact h2, by rw [hi_dif hd (by decide)]; exact h3, hn, tm_dif h5 hd (by decide), tm_dif h6 hd (by decide), tm_dif h7 hd (by decide), tm_dif h8 hd (by decide), seR_dif h9 hd (by decide), cpR_dif h10 hd⟩
theorem mR_1 {M1 : List Ent} (h : mR A F R T S M Rs Hs O N cp st tv op nX) (hd : dif A A1 (Wt 1)) (hn : tm A1 1 M1) : mR A1 F R T S M1 Rs Hs O N cp st tv op nX := by
  obtain ⟨h1, h2, h3, h4, h5, h6, h7, h8, h9, h10⟩ := h
  exact ⟨h1, by rw [hi_dif hd (by decide)]; exact h2, by rw [hi_dif hd (by decide)]; exact h3, tm_dif h4 hd (by decide), hn, tm_dif h6 hd (by decide), tm_dif h7 hd (by decide), tm_dif h8 hd (by decide), seR_dif h9 hd (by decide), cpR_dif h10 hd⟩
theorem mR_2 {Rs1 : List Ent} (h : mR A F R T S M Rs Hs O N cp st tv op nX) (hd : dif A A1 (Wt 2)) (hn : tm A1 2 Rs1) : mR A1 F R T S M Rs1 Hs O N cp st tv op nX := by
  obtain ⟨h1, h2, h3, h4, h5, h6, h7, h8, h9, h10⟩ := h
  exact ⟨h1, by rw [hi_dif hd (by decide)]; exact h2, by rw [hi_dif hd (by decide)]; exact h3, tm_dif h4 hd (by decide), tm_dif h5 hd (by decide), hn, tm_dif h7 hd (by decide), tm_dif h8 hd (by decide), seR_dif h9 hd (by decide), cpR_dif h10 hd⟩
theorem mR_3 {O1 : List Ent} (h : mR A F R T S M Rs Hs O N cp st tv op nX) (hd : dif A A1 (Wt 3)) (hn : tm A1 3 O1) : mR A1 F R T S M Rs Hs O1 N cp st tv op nX := by
  obtain ⟨h1, h2, h3, h4, h5, h6, h7, h8, h9, h10⟩ := h
  exact ⟨h1, by rw [hi_dif hd (by decide)]; exact h2, by rw [hi_dif hd (by decide)]; exact h3, tm_dif h4 hd (by decide), tm_dif h5 hd (by decide), tm_dif h6 hd (by decide), hn, tm_dif h8 hd (by decide), seR_dif h9 hd (by decide), cpR_dif h10 hd⟩
theorem mR_4 {N1 : List Ent} (h : mR A F R T S M Rs Hs O N cp st tv op nX) (hd : dif A A1 (Wt 4)) (hn : tm A1 4 N1) : mR A1 F R T S M Rs Hs O N1 cp st tv op nX := by
  obtain ⟨h1, h2, h3, h4, h5, h6, h7, h8, h9, h10⟩ := h
  exact ⟨h1, by rw [hi_dif hd (by decide)]; exact h2, by rw [hi_dif hd (by decide)]; exact h3, tm_dif h4 hd (by decide), tm_dif h5 hd (by decide), tm_dif h6 hd (by decide), tm_dif h7 hd (by decide), hn, seR_dif h9 hd (by decide), cpR_dif h10 hd⟩
theorem mR_st {st1 : Int32} (h : mR A F R T S M Rs Hs O N cp st tv op nX) : mR A (uF F 2 (st1)) R T S M Rs Hs O N cp st1 tv op nX := by
  obtain ⟨⟨f1, f2, f3, f4, f5, f6⟩, h2, h3, h4, h5, h6, h7, h8, h9, h10⟩ := h
  refine ⟨⟨?_, ?_, ?_, ?_, ?_, ?_⟩, h2, h3, h4, h5, h6, h7, h8, h9, ?_⟩
  all_goals first | assumption | exact uF_s | (rw [uF_n (by decide)]; assumption) | skip
theorem mR_op {op1 : Nat} (h : mR A F R T S M Rs Hs O N cp st tv op nX) : mR A (uF F 3 (nI op1)) R T S M Rs Hs O N cp st tv op1 nX := by
  obtain ⟨⟨f1, f2, f3, f4, f5, f6⟩, h2, h3, h4, h5, h6, h7, h8, h9, h10⟩ := h
  refine ⟨⟨?_, ?_, ?_, ?_, ?_, ?_⟩, h2, h3, h4, h5, h6, h7, h8, h9, ?_⟩
  all_goals first | assumption | exact uF_s | (rw [uF_n (by decide)]; assumption) | skip
theorem mR_nX {nX1 : Nat} (h : mR A F R T S M Rs Hs O N cp st tv op nX) : mR A (uF F 4 (nI nX1)) R T S M Rs Hs O N cp st tv op nX1 := by
  obtain ⟨⟨f1, f2, f3, f4, f5, f6⟩, h2, h3, h4, h5, h6, h7, h8, h9, h10⟩ := h
  refine ⟨⟨?_, ?_, ?_, ?_, ?_, ?_⟩, h2, h3, h4, h5, h6, h7, h8, h9, ?_⟩
  all_goals first | assumption | exact uF_s | (rw [uF_n (by decide)]; assumption) | skip
theorem mR_tv {tv1 : Int32} (h : mR A F R T S M Rs Hs O N cp st tv op nX) : mR A (uF F 6 (tv1)) R T S M Rs Hs O N cp st tv1 op nX := by
  obtain ⟨⟨f1, f2, f3, f4, f5, f6⟩, h2, h3, h4, h5, h6, h7, h8, h9, h10⟩ := h
  refine ⟨⟨?_, ?_, ?_, ?_, ?_, ?_⟩, h2, h3, h4, h5, h6, h7, h8, h9, ?_⟩
  all_goals first | assumption | exact uF_s | (rw [uF_n (by decide)]; assumption) | skip
theorem mR_z {x : Int32} (h : mR A F R T S M Rs Hs O N cp st tv op nX) : mR A (uF F 0 x) R T S M Rs Hs O N cp st tv op nX := by
  obtain ⟨⟨f1, f2, f3, f4, f5, f6⟩, h2, h3, h4, h5, h6, h7, h8, h9, h10⟩ := h
  refine ⟨⟨f1, f2, f3, f4, f5, f6⟩, h2, h3, h4, h5, h6, h7, h8, h9, ?_⟩
  cases cp with
  | none => exact h10
  | some P => exact h10
theorem mR_t0 (h : mR A F R T S M Rs Hs O N cp st tv op nX) : mR A (uF F 1 (nI 0)) R [] S M Rs Hs O N cp st tv op nX := by
  obtain ⟨⟨f1, f2, f3, f4, f5, f6⟩, h2, h3, h4, h5, h6, h7, h8, h9, h10⟩ := h
  refine ⟨⟨uF_s, f2, f3, f4, f5, f6⟩, h2, ⟨by simp, fun i hi => by simp at hi, fun b hb => by simp at hb⟩, h4, h5, h6, h7, h8, h9, ?_⟩
  cases cp with
  | none => exact h10
  | some P => exact h10
def mO (am : Nat → Nat) (g : g_H) (v : x_O) (thr : Nat) (R : List Nat) (T : List Nat) (S : List Ent) (M : List Ent) (Rs : List Ent) (Hs : List Ses) (O : List Ent) (N : List Ent) (cp : Option (List Nat)) (st : Int32) (tv : Int32) (op : Nat) (nX : Nat) : x_O → g_H → Prop := fun oc g1 => oc = v ∧ fx (UU am) g g1 ∧ ∃ A F, mg am A F g1 ∧ F 0 = nI thr ∧ mR A F R T S M Rs Hs O N cp st tv op nX
end MR
