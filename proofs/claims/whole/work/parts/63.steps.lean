/-! Each call of the law keeps the state of both, and both answer alike -/
section STP
variable {S M : List Ent} {Hs : List Ses} {X : List Chg} {ch st tm dn : Int32} {O N : List Ent} {cp : Option (List Nat)} {tv : Int32} {op nX : Nat}
theorem chR_ch {T : List Nat} (hs : srt S) : chR S (idx S T) (match fnd S T S.length with | none => none | some _ => some T) := by
  rw [idx_fnd hs]
  cases h : fnd S T S.length with
  | none => exact rfl
  | some i =>
    obtain ⟨E, h1, h2⟩ := fnd_get h
    exact ⟨i, E, h1, h2, rfl⟩
theorem chR_set {i : Nat} {E E1 : Ent} (hc : chR S ch cp) (hE : S[i]? = some E) (hp : E1.1 = E.1) : chR (S.set i E1) ch cp := by
  cases cp with
  | none => exact hc
  | some P =>
    obtain ⟨j, G, h1, h2, h3⟩ := hc
    by_cases hj : j = i
    · subst hj
      rw [hE] at h1
      cases h1
      exact ⟨j, E1, by rw [set_get hE, if_pos rfl], hp.trans h2, h3⟩
    · exact ⟨j, G, by rw [set_get hE, if_neg hj]; exact h1, h2, h3⟩
theorem pI_S {S1 : List Ent} {ch1 : Int32} {cp1 : Option (List Nat)} (h : pI S M Hs X ch st tm dn O N cp tv op nX) (hg : good S1) (hc : chR S1 ch1 cp1) : pI S1 M Hs X ch1 st tm dn O N cp1 tv op nX := ⟨hg, hc, h.2.2⟩
theorem pI_0 (h : pI S M Hs X ch st tm dn O N cp tv op nX) (hs : st = 0) : op = 0 ∧ good M := by
  rcases h.2.2.2.2 with ⟨-, a, b⟩ | ⟨a, -⟩
  · exact ⟨a, b⟩
  · rw [hs] at a
    rcases a with a | a <;> exact absurd a (by decide)
theorem pI_n (h : pI S M Hs X ch st tm dn O N cp tv op nX) (hs : st = nI 1 ∨ st = nI 2) : op < 2 * nX + 3 ∧ good O ∧ good N ∧ X = difL (O.length + N.length) O N ∧ nX = X.length ∧ M = mir O N op ∧ tm = tv ∧ Hs.length < 40 := by
  rcases h.2.2.2.2 with ⟨a, -⟩ | ⟨-, b⟩
  · rw [a] at hs
    rcases hs with a | a <;> exact absurd a (by decide)
  · exact b
theorem pI_so (h : pI S M Hs X ch st tm dn O N cp tv op nX) (hs : st = 0) : op = 0 := (pI_0 h hs).1
theorem pI_op (h : pI S M Hs X ch st tm dn O N cp tv op nX) : op < 2 ^ 10 := by
  have hn := h.2.2.2.1
  rcases h.2.2.2.2 with ⟨-, a, -⟩ | ⟨-, b, -⟩
  · omega
  · omega
end STP
section STQ
variable {l : Launch} {D : va_G} {aC : Nat → ClassId}
variable {ad am : Nat → Nat} {o thr : Nat} {g : g_H}
theorem pl_feed (hfl : l.flags = pinnedFlags ++ [noTraceFlag]) (hl : lw ad am o g thr) {a b c d e : Int32} : k_E l D aC n_K_feed 1 5 [.ref (ad 0), .int a, .int b, .int c, .int d, .int e] g (pF l D aC ad am o n_M_feed [.ref (am 0), .int a, .int b, .int c, .int d, .int e]) := by
  obtain ⟨R, T, S, M, Rs, Hs, X, ch, st, tm, dn, rs, A, F, O, N, cp, tv, op, nX, f, h, hm, -, r, ho, hp⟩ := hl
  exact p_f h hm ho (c_K_feed hfl h) hp (fun g1 hm1 => c_M_feed hfl hm1 r)
theorem pl_end (hfl : l.flags = pinnedFlags ++ [noTraceFlag]) (hl : lw ad am o g thr) {x : Int32} : k_E l D aC n_K_end 0 0 [.ref (ad 0), .int x] g (pQ l D aC ad am o n_M_end [.ref (am 0), .int x]) := by
  obtain ⟨R, T, S, M, Rs, Hs, X, ch, st, tm, dn, rs, A, F, O, N, cp, tv, op, nX, f, h, hm, -, r, ho, hp⟩ := hl
  by_cases hx : x.toInt < 0 ∨ 20 < x.toInt ∨ 400 - (T.length : Int) < x.toInt
  · exact p_q h hm ho (c_K_end_no hfl h hx) hp (fun g1 hm1 => c_M_end_no hfl hm1 r hx)
  · obtain ⟨e1, e2⟩ := nI_ofT (x := x) (by omega)
    rw [e1]
    exact p_q h hm ho (c_K_end hfl h (by omega) (by omega)) hp (fun g1 hm1 => c_M_end hfl hm1 r (by omega) (by omega))
theorem pl_choose (hfl : l.flags = pinnedFlags ++ [noTraceFlag]) (hl : lw ad am o g thr) : k_E l D aC n_K_choose 1 400 [.ref (ad 0)] g (pQ l D aC ad am o n_M_choose [.ref (am 0)]) := by
  obtain ⟨R, T, S, M, Rs, Hs, X, ch, st, tm, dn, rs, A, F, O, N, cp, tv, op, nX, f, h, hm, -, r, ho, hp⟩ := hl
  exact p_q h hm ho (c_K_choose hfl h) (pI_S hp hp.1 (chR_ch hp.1.1)) (fun g1 hm1 => c_M_choose hfl hm1 r hp.1.1 (fun E hE => (hp.1.2.2.2 E hE).2.2))
theorem pl_differ (hfl : l.flags = pinnedFlags ++ [noTraceFlag]) (hl : lw ad am o g thr) : k_E l D aC n_K_differ 0 0 [.ref (ad 0)] g (pQ l D aC ad am o n_M_differ [.ref (am 0)]) := by
  obtain ⟨R, T, S, M, Rs, Hs, X, ch, st, tm, dn, rs, A, F, O, N, cp, tv, op, nX, f, h, hm, -, r, ho, hp⟩ := hl
  have h1 := r.2.2.2.2.1.2.2.1
  have h2 := hp.1.2.1
  exact p_q h hm ho (c_K_differ hfl h (by omega)) hp (fun g1 hm1 => c_M_differ hfl hm1 r)
theorem pl_entry (hfl : l.flags = pinnedFlags ++ [noTraceFlag]) (hl : lw ad am o g thr) {x y w : Int32} : k_E l D aC n_K_entry 0 0 [.ref (ad 0), .int x, .int y, .int w] g (pQ l D aC ad am o n_M_entry [.ref (am 0), .int x, .int y, .int w]) := by
  obtain ⟨R, T, S, M, Rs, Hs, X, ch, st, tm, dn, rs, A, F, O, N, cp, tv, op, nX, f, h, hm, -, r, ho, hp⟩ := hl
  exact p_q h hm ho (c_K_entry hfl h) hp (fun g1 hm1 => c_M_entry hfl hm1 r)
theorem pl_at (hfl : l.flags = pinnedFlags ++ [noTraceFlag]) (hl : lw ad am o g thr) {x y k : Int32} {p : Bool} : k_E l D aC n_K_at 0 0 [.ref (ad 0), .int x, .int y, .int (b2 p), .int k] g (pQ l D aC ad am o n_M_at [.ref (am 0), .int x, .int y, .int (b2 p), .int k]) := by
  obtain ⟨R, T, S, M, Rs, Hs, X, ch, st, tm, dn, rs, A, F, O, N, cp, tv, op, nX, f, h, hm, -, r, ho, hp⟩ := hl
  exact p_q h hm ho (c_K_at hfl h) hp (fun g1 hm1 => c_M_at hfl hm1 r)
theorem pl_session (hfl : l.flags = pinnedFlags ++ [noTraceFlag]) (hl : lw ad am o g thr) {x w : Int32} : k_E l D aC n_K_session 0 0 [.ref (ad 0), .int x, .int w] g (pQ l D aC ad am o n_M_session [.ref (am 0), .int x, .int w]) := by
  obtain ⟨R, T, S, M, Rs, Hs, X, ch, st, tm, dn, rs, A, F, O, N, cp, tv, op, nX, f, h, hm, -, r, ho, hp⟩ := hl
  exact p_q h hm ho (c_K_session hfl h) hp (fun g1 hm1 => c_M_session hfl hm1 r)
theorem pl_about (hfl : l.flags = pinnedFlags ++ [noTraceFlag]) (hl : lw ad am o g thr) {w : Int32} : k_E l D aC n_K_about 0 0 [.ref (ad 0), .int w] g (pQ l D aC ad am o n_M_about [.ref (am 0), .int w]) := by
  obtain ⟨R, T, S, M, Rs, Hs, X, ch, st, tm, dn, rs, A, F, O, N, cp, tv, op, nX, f, h, hm, -, r, ho, hp⟩ := hl
  have hop := pI_op hp
  have hnX := hp.2.2.2.1
  have hd : dn = nI op := hp.2.2.1
  subst hd
  have hk := c_K_about (l := l) (D := D) (aC := aC) hfl (op := op) (by omega) h (w := w)
  have e : aA T S M Rs Hs X.length op st w = aA T S M Rs Hs nX op st w := by
    rcases hp.2.2.2.2 with ⟨-, a, -⟩ | ⟨-, -, -, -, -, a, -⟩
    · subst a
      unfold aA
      rw [Nat.zero_div, Nat.zero_min, Nat.zero_min]
    · rw [a]
  rw [e] at hk
  exact p_q h hm ho hk hp (fun g1 hm1 => c_M_about hfl hm1 r (by omega) (by omega) (pI_so hp))
theorem mkR_le {S : List Ent} {T : List Nat} {k m t : Int32} : mkR S T k m t ≤ 2 := by
  unfold mkR
  split
  · omega
  · split <;> omega
theorem pl_make (hfl : l.flags = pinnedFlags ++ [noTraceFlag]) (hl : lw ad am o g thr) {a b c : Int32} : k_E l D aC n_L_make 16 4000 [.ref (ad 0), .int a, .int b, .int c, .ref o] g (pT l D aC ad am o n_M_make [.ref (am 0), .int a, .int b, .int c]) := by
  obtain ⟨R, T, S, M, Rs, Hs, X, ch, st, tm, dn, rs, A, F, O, N, cp, tv, op, nX, f, h, hm, -, r, ho, hp⟩ := hl
  by_cases hs : st = nI 1
  · exact p_S h hm ho (by decide) (c_L_make hfl h.2.1 (c_K_make_uw hfl h hs) (fun v g1 z => by cases z.1) (fun C g1 z => Or.inr (Sum.inr.inj z.1))) (hp) (fun g1 hm1 => c_M_make_uw hfl hm1 r hs)
  · have hk := c_K_make (l := l) (D := D) (aC := aC) hfl h hs (k := a) (m := b) (t := c)
    have hM := fun g1 (hm1 : mg am A F g1) => c_M_make (l := l) (D := D) (aC := aC) hfl hm1 r hs hp.1.1 hp.1.2.1 (k := a) (m := b) (t := c)
    have hle := mkR_le (S := S) (T := T) (k := a) (m := b) (t := c)
    rcases (by omega : mkR S T a b c = 0 ∨ mkR S T a b c = 1 ∨ mkR S T a b c = 2) with hr | hr | hr
    · obtain ⟨hok, hfn, hdr, hs60⟩ := mkR_0 hp.1.1 hr
      rw [hr] at hk hM
      obtain ⟨q1, q2, q3, i, q4⟩ := srt_fresh hp.1.1 (E := (T, a, b, c, [])) hfn
      have hi := (List.getElem?_eq_some_iff.mp q4).1
      have hch : chR (putL S (T, a, b, c, [])) (idx (putL S (T, a, b, c, [])) T) (some T) := ⟨i, _, q4, rfl, by rw [idx_fnd q1, fnd_srt q1 q4 rfl]; rfl⟩
      have hgd : good (putL S (T, a, b, c, [])) := good_fresh hp.1 hfn hs60 rfl ⟨kd_iff.mpr (okM_iff.mp hok).1, Nat.zero_le _, ptOk_len (okM_iff.mp hok).2.2.2⟩
      exact p_v h hm ho (c_L_make hfl h.2.1 (hk) (fun v g1 z => ⟨_, f, Sum.inl.inj z.1, o_K ho h z.2.1⟩) (fun C g1 z => by cases z.1)) (pI_S hp hgd hch) (fun g1 hm1 => hM g1 hm1)
    · rw [hr] at hk hM
      exact p_A h hm ho (by decide) (c_L_make hfl h.2.1 (hk) (fun v g1 z => by cases z.1) (fun C g1 z => Or.inl (Sum.inr.inj z.1))) (hp) (fun g1 hm1 => hM g1 hm1)
    · rw [hr] at hk hM
      exact p_S h hm ho (by decide) (c_L_make hfl h.2.1 (hk) (fun v g1 z => by cases z.1) (fun C g1 z => Or.inr (Sum.inr.inj z.1))) (hp) (fun g1 hm1 => hM g1 hm1)
theorem pl_set (hfl : l.flags = pinnedFlags ++ [noTraceFlag]) (hl : lw ad am o g thr) {a b : Int32} : k_E l D aC n_L_set 16 4000 [.ref (ad 0), .int a, .int b] g (pU l D aC ad am o n_M_set [.ref (am 0), .int a, .int b]) := by
  obtain ⟨R, T, S, M, Rs, Hs, X, ch, st, tm, dn, rs, A, F, O, N, cp, tv, op, nX, f, h, hm, -, r, ho, hp⟩ := hl
  have hS := hp.1.1
  have hc := hp.2.1
  have hl2 := hp.1.2.1
  by_cases hs : st = nI 1
  · exact q_S h hm ho (by decide) (c_L_set hfl h.2.1 (c_K_set_uw hfl h hs) (fun v g1 z => by cases z.1) (fun C g1 z => Or.inr (Sum.inr.inj z.1))) (hp) (fun g1 hm1 => c_M_set_no hfl hm1 r hS hc (Or.inl hs))
  · rcases chR_at (by omega) hc with ⟨-, -, e1⟩ | ⟨i, E, -, e0, e1, e2, -⟩
    · exact q_S h hm ho (by decide) (c_L_set hfl h.2.1 (c_K_set_no hfl h hs e1) (fun v g1 z => by cases z.1) (fun C g1 z => Or.inr (Sum.inr.inj z.1))) (hp) (fun g1 hm1 => c_M_set_no hfl hm1 r hS hc (Or.inr e1))
    · cases hb : (mdOk a && tmOk b) with
      | false =>
        exact q_A h hm ho (by decide) (c_L_set hfl h.2.1 (c_K_set_bad hfl h hs e2 hb) (fun v g1 z => by cases z.1) (fun C g1 z => Or.inl (Sum.inr.inj z.1))) (hp) (fun g1 hm1 => c_M_set_bad hfl hm1 r hS hc hs e2 hb)
      | true =>
        have hps := putL_set hS (E := (E.1, E.2.1, a, b, eC E)) e0 rfl
        have hk := c_K_set (l := l) (D := D) (aC := aC) hfl h hs e2 hb (by rw [hps, List.length_set]; omega)
        rw [hps] at hk
        have hE := hp.1.2.2.2 E (List.mem_of_getElem? e0)
        have hge := sumC_ge e0
        exact q_v h hm ho (c_L_set hfl h.2.1 (hk) (fun v g1 z => Sum.inl.inj z.1) (fun C g1 z => by cases z.1)) (pI_S hp (good_set hp.1 e0 rfl (by have := hp.1.2.2.1; show sumC S - (eC E).length + (eC E).length ≤ 4000; omega) hE) (chR_set hc e0 rfl)) (fun g1 hm1 => c_M_set hfl hm1 r hS hc hs e0 e1 hb)
theorem pl_cut (hfl : l.flags = pinnedFlags ++ [noTraceFlag]) (hl : lw ad am o g thr) {a : Int32} : k_E l D aC n_L_cut 16 4000 [.ref (ad 0), .int a] g (pU l D aC ad am o n_M_cut [.ref (am 0), .int a]) := by
  obtain ⟨R, T, S, M, Rs, Hs, X, ch, st, tm, dn, rs, A, F, O, N, cp, tv, op, nX, f, h, hm, -, r, ho, hp⟩ := hl
  have hS := hp.1.1
  have hc := hp.2.1
  have hl2 := hp.1.2.1
  by_cases hs : st = nI 1
  · exact q_S h hm ho (by decide) (c_L_cut hfl h.2.1 (c_K_cut_uw hfl h hs) (fun v g1 z => by cases z.1) (fun C g1 z => Or.inr (Sum.inr.inj z.1))) (hp) (fun g1 hm1 => c_M_cut_no hfl hm1 r hS hc (Or.inl hs))
  · rcases chC_at (by omega) hc with ⟨-, -, e1⟩ | ⟨i, E, -, e0, e1, hi, (⟨-, hk⟩ | ⟨hk, e2⟩)⟩
    · exact q_S h hm ho (by decide) (c_L_cut hfl h.2.1 (c_K_cut_no hfl h hs e1) (fun v g1 z => by cases z.1) (fun C g1 z => Or.inr (Sum.inr.inj z.1))) (hp) (fun g1 hm1 => c_M_cut_no hfl hm1 r hS hc (Or.inr e1))
    · exact q_S h hm ho (by decide) (c_L_cut hfl h.2.1 (c_K_cut_no hfl h hs hk) (fun v g1 z => by cases z.1) (fun C g1 z => Or.inr (Sum.inr.inj z.1))) (hp) (fun g1 hm1 => c_M_cut_no hfl hm1 r hS hc (Or.inr hk))
    · have hE := hp.1.2.2.2 E (List.mem_of_getElem? e0)
      have hme : mostE E ≤ 1500 := by unfold mostE; split <;> omega
      have he2 := hE.2.1
      by_cases hb : a.toInt < 0 ∨ ((eC E).length : Int) < a.toInt
      · exact q_A h hm ho (by decide) (c_L_cut hfl h.2.1 (c_K_cut_bad hfl h hs e2 hb) (fun v g1 z => by cases z.1) (fun C g1 z => Or.inl (Sum.inr.inj z.1))) (hp) (fun g1 hm1 => c_M_cut_bad hfl hm1 r hS hc hs e0 e1 hk hb)
      · obtain ⟨x1, x2⟩ := nI_ofT (x := a) (by omega)
        generalize hn : a.toInt.toNat = n at x1 x2
        have hnl : n ≤ (eC E).length := by omega
        subst x1
        have hps := putL_set hS (E := (E.1, E.2.1, E.2.2.1, E.2.2.2.1, (eC E).take n)) e0 rfl
        have hkk := c_K_cut (l := l) (D := D) (aC := aC) hfl h hs e2 hnl (by omega) (by rw [hps, List.length_set]; omega)
        rw [hps] at hkk
        have hge := sumC_ge e0
        have htl : ((eC E).take n).length ≤ (eC E).length := by rw [List.length_take]; omega
        exact q_v h hm ho (c_L_cut hfl h.2.1 (hkk) (fun v g1 z => Sum.inl.inj z.1) (fun C g1 z => by cases z.1)) (pI_S hp (good_set hp.1 e0 rfl (by have := hp.1.2.2.1; show sumC S - (eC E).length + ((eC E).take n).length ≤ 4000; omega) ⟨hE.1, Nat.le_trans htl he2, hE.2.2⟩) (chR_set hc e0 rfl)) (fun g1 hm1 => c_M_cut hfl hm1 r hS hc hs e0 e1 hk hnl)
theorem pl_write (hfl : l.flags = pinnedFlags ++ [noTraceFlag]) (hl : lw ad am o g thr) {a : Int32} : k_E l D aC n_L_write 16 4000 [.ref (ad 0), .int a, .ref o] g (pT l D aC ad am o n_M_write [.ref (am 0), .int a]) := by
  obtain ⟨R, T, S, M, Rs, Hs, X, ch, st, tm, dn, rs, A, F, O, N, cp, tv, op, nX, f, h, hm, -, r, ho, hp⟩ := hl
  have hS := hp.1.1
  have hc := hp.2.1
  have hl2 := hp.1.2.1
  have hsm := hp.1.2.2.1
  by_cases hs : st = nI 1
  · exact p_S h hm ho (by decide) (c_L_write hfl h.2.1 (c_K_write_uw hfl h hs) (fun v g1 z => by cases z.1) (fun C g1 z => Or.inr (Sum.inr.inj z.1))) (hp) (fun g1 hm1 => c_M_write_uw hfl hm1 r hs)
  · rcases chC_at (by omega) hc with ⟨-, -, e1⟩ | ⟨i, E, -, e0, e1, hi, (⟨-, hk⟩ | ⟨hk, e2⟩)⟩
    · exact p_S h hm ho (by decide) (c_L_write hfl h.2.1 (c_K_write_no hfl h hs e1) (fun v g1 z => by cases z.1) (fun C g1 z => Or.inr (Sum.inr.inj z.1))) (hp) (fun g1 hm1 => c_M_write_no hfl hm1 r hS hc hs e1)
    · exact p_S h hm ho (by decide) (c_L_write hfl h.2.1 (c_K_write_no hfl h hs hk) (fun v g1 z => by cases z.1) (fun C g1 z => Or.inr (Sum.inr.inj z.1))) (hp) (fun g1 hm1 => c_M_write_no hfl hm1 r hS hc hs hk)
    · have hE := hp.1.2.2.2 E (List.mem_of_getElem? e0)
      have he2 := hE.2.1
      have hge := sumC_ge e0
      by_cases hbig : wrBig S E a T
      · exact p_S h hm ho (by decide) (c_L_write hfl h.2.1 (c_K_write_big hfl h hs e2 hsm hbig) (fun v g1 z => by cases z.1) (fun C g1 z => Or.inr (Sum.inr.inj z.1))) (hp) (fun g1 hm1 => c_M_write_big hfl hm1 r hS hc hs e0 e1 hk hE.1 hbig)
      · by_cases hb : a.toInt < 0 ∨ ((eC E).length : Int) < a.toInt
        · exact p_A h hm ho (by decide) (c_L_write hfl h.2.1 (c_K_write_bad hfl h hs e2 hsm hbig hb) (fun v g1 z => by cases z.1) (fun C g1 z => Or.inl (Sum.inr.inj z.1))) (hp) (fun g1 hm1 => c_M_write_bad hfl hm1 r hS hc hs e0 e1 hk hE.1 hbig hb)
        · obtain ⟨x1, x2⟩ := nI_ofT (x := a) (by omega)
          have hwn : (wrN E a T : Int) = (max (eC E).length (a.toInt.toNat + T.length) : Nat) := by unfold wrN; omega
          have hb1 : ¬ (mostE E : Int) < wrN E a T := fun z => hbig (Or.inl z)
          have hb2 : ¬ 4000 < (sumC S : Int) - (eC E).length + wrN E a T := fun z => hbig (Or.inr z)
          rw [hwn] at hb1 hb2
          generalize hn : a.toInt.toNat = n at x1 x2 hb1 hb2
          have hnl : n ≤ (eC E).length := by omega
          subst x1
          have hwl := wrC_len (T := T) hnl
          have hps := putL_set hS (E := (E.1, E.2.1, E.2.2.1, E.2.2.2.1, wrC (eC E) n T)) e0 rfl
          have hkk := c_K_write (l := l) (D := D) (aC := aC) hfl h hs e2 hsm hbig hnl x2 (by rw [hps, List.length_set]; omega)
          rw [hps] at hkk
          exact p_v h hm ho (c_L_write hfl h.2.1 (hkk) (fun v g1 z => ⟨_, f, Sum.inl.inj z.1, o_K ho h z.2.1⟩) (fun C g1 z => by cases z.1)) (pI_S hp (good_set hp.1 e0 rfl (by show sumC S - (eC E).length + (wrC (eC E) n T).length ≤ 4000; omega) ⟨hE.1, by show (wrC (eC E) n T).length ≤ mostE E; omega, hE.2.2⟩) (chR_set hc e0 rfl)) (fun g1 hm1 => c_M_write hfl hm1 r hS hc hs e0 e1 hk hE.1 hbig hnl)
theorem pl_remove (hfl : l.flags = pinnedFlags ++ [noTraceFlag]) (hl : lw ad am o g thr) : k_E l D aC n_L_remove 16 4000 [.ref (ad 0), .ref o] g (pT l D aC ad am o n_M_remove [.ref (am 0)]) := by
  obtain ⟨R, T, S, M, Rs, Hs, X, ch, st, tm, dn, rs, A, F, O, N, cp, tv, op, nX, f, h, hm, -, r, ho, hp⟩ := hl
  have hS := hp.1.1
  have hc := hp.2.1
  have hl2 := hp.1.2.1
  by_cases hs : st = nI 1
  · exact p_S h hm ho (by decide) (c_L_remove hfl h.2.1 (c_K_remove_uw hfl h hs) (fun v g1 z => by cases z.1) (fun C g1 z => Sum.inr.inj z.1)) (hp) (fun g1 hm1 => c_M_remove_no hfl hm1 r hS hc (Or.inl hs))
  · rcases chR_at (by omega) hc with ⟨-, -, e1⟩ | ⟨i, E, e3, e0, e1, e2, -⟩
    · exact p_S h hm ho (by decide) (c_L_remove hfl h.2.1 (c_K_remove_no hfl h hs e1) (fun v g1 z => by cases z.1) (fun C g1 z => Sum.inr.inj z.1)) (hp) (fun g1 hm1 => c_M_remove_no hfl hm1 r hS hc (Or.inr e1))
    · exact p_v h hm ho (c_L_remove hfl h.2.1 (c_K_remove hfl h hs e2) (fun v g1 z => ⟨_, f, Sum.inl.inj z.1, o_K ho h z.2.1⟩) (fun C g1 z => by cases z.1)) (pI_S hp (good_keep hp.1 _) (show chR _ (-1) none from rfl)) (fun g1 hm1 => c_M_remove hfl hm1 r hS hc hs e0 e1 e3)
theorem pl_begin (hfl : l.flags = pinnedFlags ++ [noTraceFlag]) (hl : lw ad am o g thr) {a : Int32} : k_E l D aC n_L_begin 16 4000 [.ref (ad 0), .int a, .ref o] g (pT l D aC ad am o n_M_begin [.ref (am 0), .int a]) := by
  obtain ⟨R, T, S, M, Rs, Hs, X, ch, st, tm, dn, rs, A, F, O, N, cp, tv, op, nX, f, h, hm, -, r, ho, hp⟩ := hl
  by_cases hs : st = 0
  · obtain ⟨hop, hgM⟩ := pI_0 hp hs
    have hbl : beR Hs a ≤ 2 := by unfold beR; split; omega; split <;> omega
    rcases (by omega : beR Hs a = 0 ∨ beR Hs a = 1 ∨ beR Hs a = 2) with hb | hb | hb
    · have h40 : ¬ 40 ≤ Hs.length := fun z => by unfold beR at hb; rw [if_pos z] at hb; cases hb
      have l1 := hp.1.2.1
      have l2 := hgM.2.1
      have hdl := difL_len (M.length + S.length) M S
      have hd : dn = nI 0 := by rw [hp.2.2.1, hop]
      exact p_v h hm ho (c_L_begin hfl h.2.1 (c_K_begin hfl h hs hb (by omega)) (fun v g1 z => ⟨_, f, Sum.inl.inj z.1, o_K ho h z.2.1⟩) (fun C g1 z => by cases z.1)) ((⟨hp.1, hp.2.1, hd, by omega, Or.inr ⟨Or.inl rfl, by omega, hgM, hp.1, rfl, rfl, (mir_0 hgM.1 hp.1.1).symm, rfl, by omega⟩⟩ : pI S M Hs (difL (M.length + S.length) M S) ch (nI 1) a dn M S cp a 0 (difL (M.length + S.length) M S).length)) (fun g1 hm1 => c_M_begin hfl hm1 r hs hb)
    · exact p_A h hm ho (by decide) (c_L_begin hfl h.2.1 (c_K_begin_bad hfl h hs hb) (fun v g1 z => by cases z.1) (fun C g1 z => Or.inl (Sum.inr.inj z.1))) (hp) (fun g1 hm1 => c_M_begin_bad hfl hm1 r hs hb)
    · exact p_S h hm ho (by decide) (c_L_begin hfl h.2.1 (c_K_begin_no hfl h (Or.inr hb)) (fun v g1 z => by cases z.1) (fun C g1 z => Or.inr (Sum.inr.inj z.1))) (hp) (fun g1 hm1 => c_M_begin_no hfl hm1 r (Or.inr hb))
  · exact p_S h hm ho (by decide) (c_L_begin hfl h.2.1 (c_K_begin_no hfl h (Or.inl hs)) (fun v g1 z => by cases z.1) (fun C g1 z => Or.inr (Sum.inr.inj z.1))) (hp) (fun g1 hm1 => c_M_begin_no hfl hm1 r (Or.inl hs))
theorem pl_crash (hfl : l.flags = pinnedFlags ++ [noTraceFlag]) (hl : lw ad am o g thr) : k_E l D aC n_L_crash 16 4000 [.ref (ad 0)] g (pU l D aC ad am o n_M_crash [.ref (am 0)]) := by
  obtain ⟨R, T, S, M, Rs, Hs, X, ch, st, tm, dn, rs, A, F, O, N, cp, tv, op, nX, f, h, hm, -, r, ho, hp⟩ := hl
  by_cases hs : st = nI 1
  · exact q_v h hm ho (c_L_crash hfl h.2.1 (c_K_crash hfl h hs) (fun v g1 z => Sum.inl.inj z.1) (fun C g1 z => by cases z.1)) ((⟨hp.1, hp.2.1, hp.2.2.1, hp.2.2.2.1, Or.inr ⟨Or.inr rfl, pI_n hp (Or.inl hs)⟩⟩ : pI S M Hs X ch (nI 2) tm dn O N cp tv op nX)) (fun g1 hm1 => c_M_crash hfl hm1 r hs)
  · exact q_S h hm ho (by decide) (c_L_crash hfl h.2.1 (c_K_crash_no hfl h hs) (fun v g1 z => by cases z.1) (fun C g1 z => Sum.inr.inj z.1)) (hp) (fun g1 hm1 => c_M_crash_no hfl hm1 r hs)
theorem pl_restore (hfl : l.flags = pinnedFlags ++ [noTraceFlag]) (hl : lw ad am o g thr) {a : Int32} : k_E l D aC n_L_restore 16 4000 [.ref (ad 0), .int a, .ref o] g (pT l D aC ad am o n_M_restore [.ref (am 0), .int a]) := by
  obtain ⟨R, T, S, M, Rs, Hs, X, ch, st, tm, dn, rs, A, F, O, N, cp, tv, op, nX, f, h, hm, -, r, ho, hp⟩ := hl
  by_cases hs : st = 0
  · cases hla : lastLe Hs a Hs.length with
    | none =>
      exact p_S h hm ho (by decide) (c_L_restore hfl h.2.1 (c_K_restore_no hfl h (Or.inr hla)) (fun v g1 z => by cases z.1) (fun C g1 z => Sum.inr.inj z.1)) (hp) (fun g1 hm1 => c_M_restore_no hfl hm1 r (Or.inr hla))
    | some i =>
      have hE := List.getElem?_eq_getElem (lastLe_lt hla)
      exact p_v h hm ho (c_L_restore hfl h.2.1 (c_K_restore hfl h hs hla hE) (fun v g1 z => ⟨_, f, Sum.inl.inj z.1, o_K ho h z.2.1⟩) (fun C g1 z => by cases z.1)) (hp) (fun g1 hm1 => c_M_restore hfl hm1 r hs hla hE)
  · exact p_S h hm ho (by decide) (c_L_restore hfl h.2.1 (c_K_restore_no hfl h (Or.inl hs)) (fun v g1 z => by cases z.1) (fun C g1 z => Sum.inr.inj z.1)) (hp) (fun g1 hm1 => c_M_restore_no hfl hm1 r (Or.inl hs))
theorem pl_prune (hfl : l.flags = pinnedFlags ++ [noTraceFlag]) (hl : lw ad am o g thr) {a : Int32} : k_E l D aC n_L_prune 16 4000 [.ref (ad 0), .int a, .ref o] g (pT l D aC ad am o n_M_prune [.ref (am 0), .int a]) := by
  obtain ⟨R, T, S, M, Rs, Hs, X, ch, st, tm, dn, rs, A, F, O, N, cp, tv, op, nX, f, h, hm, -, r, ho, hp⟩ := hl
  by_cases hs : st = 0
  · exact p_v h hm ho (c_L_prune hfl h.2.1 (c_K_prune hfl h hs) (fun v g1 z => ⟨_, f, Sum.inl.inj z.1, o_K ho h z.2.1⟩) (fun C g1 z => by cases z.1)) ((⟨hp.1, hp.2.1, hp.2.2.1, hp.2.2.2.1, Or.inl ⟨hs, pI_0 hp hs⟩⟩ : pI S M (Hs.drop (prN Hs a)) X ch st tm dn O N cp tv op nX)) (fun g1 hm1 => c_M_prune hfl hm1 r hs)
  · exact p_S h hm ho (by decide) (c_L_prune hfl h.2.1 (c_K_prune_no hfl h hs) (fun v g1 z => by cases z.1) (fun C g1 z => Sum.inr.inj z.1)) (hp) (fun g1 hm1 => c_M_prune_no hfl hm1 r hs)
theorem pl_step (hfl : l.flags = pinnedFlags ++ [noTraceFlag]) (hl : lw ad am o g thr) {a : Int32} : k_E l D aC n_L_step 16 4000 [.ref (ad 0), .int a, .ref o] g (pT l D aC ad am o n_M_step [.ref (am 0), .int a]) := by
  obtain ⟨R, T, S, M, Rs, Hs, X, ch, st, tm, dn, rs, A, F, O, N, cp, tv, op, nX, f, h, hm, -, r, ho, hp⟩ := hl
  by_cases hs : st = nI 1
  · by_cases hb : a.toInt < 0 ∨ 200 < a.toInt
    · exact p_A h hm ho (by decide) (c_L_step hfl h.2.1 (c_K_step_bad hfl h hs hb) (fun v g1 z => by cases z.1) (fun C g1 z => Or.inl (Sum.inr.inj z.1))) (hp) (fun g1 hm1 => c_M_step_bad hfl hm1 r hs hb)
    · obtain ⟨x1, x2⟩ := nI_ofT (x := a) (by omega)
      generalize hnv : a.toInt.toNat = n at x1 x2
      have hn : n ≤ 200 := by omega
      obtain ⟨hop, hO, hN, hX, hnX, hM, htm, h40⟩ := pI_n hp (Or.inl hs)
      have hd := hp.2.2.1
      have l1 := hO.2.1
      have l2 := hN.2.1
      subst x1 hs hd hM htm
      have hroom : ∀ j, j ≤ min n (2 * X.length + 3 - op) → (itM X (mir O N op) op j).length ≤ 120 := fun j _ => by
        rw [hX, mir_it hO.1 hN.1]
        exact Nat.le_trans (mir_size hO.1 hN.1 _).1 (by omega)
      have hk := c_K_step (l := l) (D := D) (aC := aC) hfl h hn (by omega) h40 hroom
      have hMM := fun g1 (hm1 : mg am A F g1) => c_M_step (l := l) (D := D) (aC := aC) hfl hm1 r hO hN (by rw [hnX, hX]) hn hop h40
      rw [← hnX] at hk
      unfold stP at hk
      unfold stQ at hMM
      have hit : itM X (mir O N op) op (min n (2 * nX + 3 - op)) = mir O N (op + min n (2 * nX + 3 - op)) := by rw [hX]; exact mir_it hO.1 hN.1 _ _
      rw [hit, ← hnX] at hk
      by_cases hlt : op + min n (2 * nX + 3 - op) < 2 * nX + 3
      · rw [if_pos hlt] at hk
        simp only [if_pos hlt] at hMM
        exact p_v h hm ho (c_L_step hfl h.2.1 (hk) (fun v g1 z => ⟨_, f, Sum.inl.inj z.1, o_K ho h z.2.1⟩) (fun C g1 z => by cases z.1)) ((⟨hp.1, hp.2.1, rfl, hp.2.2.2.1, Or.inr ⟨Or.inl rfl, hlt, hO, hN, hX, hnX, rfl, rfl, h40⟩⟩ : pI S (mir O N (op + min n (2 * nX + 3 - op))) Hs X ch (nI 1) tm (nI (op + min n (2 * nX + 3 - op))) O N cp tm (op + min n (2 * nX + 3 - op)) nX)) (fun g1 hm1 => hMM g1 hm1)
      · rw [if_neg hlt] at hk
        simp only [if_neg hlt] at hMM
        have hme : mir O N (op + min n (2 * nX + 3 - op)) = N := mir_end hO.1 hN.1 (by rw [← hX, ← hnX]; omega)
        rw [hme] at hk
        simp only [hme] at hMM
        exact p_v h hm ho (c_L_step hfl h.2.1 (hk) (fun v g1 z => ⟨_, f, Sum.inl.inj z.1, o_K ho h z.2.1⟩) (fun C g1 z => by cases z.1)) ((⟨hp.1, hp.2.1, rfl, hp.2.2.2.1, Or.inl ⟨rfl, rfl, hN⟩⟩ : pI S N (Hs ++ [(tm, nX, N)]) X ch 0 tm (nI 0) O N cp tm 0 nX)) (fun g1 hm1 => hMM g1 hm1)
  · exact p_S h hm ho (by decide) (c_L_step hfl h.2.1 (c_K_step_no hfl h hs) (fun v g1 z => by cases z.1) (fun C g1 z => Or.inr (Sum.inr.inj z.1))) (hp) (fun g1 hm1 => c_M_step_no hfl hm1 r hs)
theorem pl_regress (hfl : l.flags = pinnedFlags ++ [noTraceFlag]) (hl : lw ad am o g thr) {a : Int32} : k_E l D aC n_L_regress 16 4000 [.ref (ad 0), .int a, .ref o] g (pT l D aC ad am o n_M_regress [.ref (am 0), .int a]) := by
  obtain ⟨R, T, S, M, Rs, Hs, X, ch, st, tm, dn, rs, A, F, O, N, cp, tv, op, nX, f, h, hm, -, r, ho, hp⟩ := hl
  by_cases hs : st = nI 2
  · by_cases hb : a.toInt < 0 ∨ 200 < a.toInt
    · exact p_A h hm ho (by decide) (c_L_regress hfl h.2.1 (c_K_regress_bad hfl h hs hb) (fun v g1 z => by cases z.1) (fun C g1 z => Or.inl (Sum.inr.inj z.1))) (hp) (fun g1 hm1 => c_M_regress_bad hfl hm1 r hs hb)
    · obtain ⟨x1, x2⟩ := nI_ofT (x := a) (by omega)
      generalize hnv : a.toInt.toNat = n at x1 x2
      have hn : n ≤ 200 := by omega
      have hop2 := pI_op hp
      obtain ⟨hop, hO, hN, hX, hnX, hM, htm, h40⟩ := pI_n hp (Or.inr hs)
      have hd := hp.2.2.1
      have l1 := hO.2.1
      have l2 := hN.2.1
      subst x1 hs hd hM htm
      have hit : ∀ j, j ≤ op → itD X (mir O N op) op j = mir O N (op - j) := fun j hj => by rw [hX]; exact mir_itD hO.1 hN.1 _ _ hj
      have hk := c_K_regress (l := l) (D := D) (aC := aC) hfl h hn (by omega) (fun j hj => by rw [hit j (by omega)]; exact Nat.le_trans (mir_size hO.1 hN.1 _).1 (by omega))
      have hMM := fun g1 (hm1 : mg am A F g1) => c_M_regress (l := l) (D := D) (aC := aC) hfl hm1 r hO hN (by rw [hnX, hX]) hn hop
      rw [hit _ (Nat.min_le_right _ _)] at hk
      by_cases h0 : op - min n op = 0
      · rw [if_pos h0] at hk
        simp only [if_pos h0] at hMM
        rw [h0] at hk
        simp only [h0] at hMM
        rw [mir_0 hO.1 hN.1] at hk
        simp only [mir_0 hO.1 hN.1] at hMM
        exact p_v h hm ho (c_L_regress hfl h.2.1 (hk) (fun v g1 z => ⟨_, f, Sum.inl.inj z.1, o_K ho h z.2.1⟩) (fun C g1 z => by cases z.1)) ((⟨hp.1, hp.2.1, rfl, hp.2.2.2.1, Or.inl ⟨rfl, rfl, hO⟩⟩ : pI S O Hs X ch 0 tm (nI 0) O N cp tm 0 nX)) (fun g1 hm1 => hMM g1 hm1)
      · rw [if_neg h0] at hk
        simp only [if_neg h0] at hMM
        exact p_v h hm ho (c_L_regress hfl h.2.1 (hk) (fun v g1 z => ⟨_, f, Sum.inl.inj z.1, o_K ho h z.2.1⟩) (fun C g1 z => by cases z.1)) ((⟨hp.1, hp.2.1, rfl, hp.2.2.2.1, Or.inr ⟨Or.inr rfl, by omega, hO, hN, hX, hnX, rfl, rfl, h40⟩⟩ : pI S (mir O N (op - min n op)) Hs X ch (nI 2) tm (nI (op - min n op)) O N cp tm (op - min n op) nX)) (fun g1 hm1 => hMM g1 hm1)
  · exact p_S h hm ho (by decide) (c_L_regress hfl h.2.1 (c_K_regress_no hfl h hs) (fun v g1 z => by cases z.1) (fun C g1 z => Or.inr (Sum.inr.inj z.1))) (hp) (fun g1 hm1 => c_M_regress_no hfl hm1 r hs)
end STQ
