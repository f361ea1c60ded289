section WSOUND3
theorem w_sw_at {N : Nat → Prop} {x : Int} : ∀ {ts : List Nat} {j : Int} {i t : Nat}, w_sw N x j ts → ts[i]? = some t → x = j + i → N t
  | [], j, i, t, _, h, _ => by simp at h
  | q :: r, j, 0, t, h, h2, h3 => by
    simp only [List.getElem?_cons_zero, Option.some.injEq] at h2
    subst h2
    exact h.1 (by simpa using h3)
  | q :: r, j, i + 1, t, h, h2, h3 => by
    rw [List.getElem?_cons_succ] at h2
    exact w_sw_at h.2 h2 (by rw [h3]; push_cast; omega)
theorem w_tg_eq {pc : Nat} {o : Int} (h : 0 ≤ (pc : Int) + o) : (pc : Int) + o = (w_tg pc o : Int) := (Int.toNat_of_nonneg h).symm
theorem w_lk_at {N : Nat → Prop} {x d : Int} {pc : Nat} : ∀ {ps : List (Int × Int)}, w_lk N x (w_tg pc d) (ps.map (fun q => (q.1, w_tg pc q.2))) → (∃ q ∈ ps, Op.lookupswitch.offset ps d x = q.2 ∧ N (w_tg pc q.2)) ∨ (Op.lookupswitch.offset ps d x = d ∧ N (w_tg pc d))
  | [], h => Or.inr ⟨rfl, h⟩
  | (a, o) :: r, h => by
    by_cases hx : x = a
    · exact Or.inl ⟨(a, o), List.mem_cons_self, by simp [Op.lookupswitch.offset, hx], h.1 hx⟩
    · have e : Op.lookupswitch.offset ((a, o) :: r) d x = Op.lookupswitch.offset r d x := by
        have hx2 : ¬ a = x := fun q => hx q.symm
        simp [Op.lookupswitch.offset, hx2]
      rcases w_lk_at (h.2 hx) with ⟨q, q1, q2, q3⟩ | ⟨q1, q2⟩
      · exact Or.inl ⟨q, List.mem_cons_of_mem _ q1, e.trans q2, q3⟩
      · exact Or.inr ⟨e.trans q1, q2⟩
variable {p : Program} {l : Launch} {e : Env} {s : State} {m : MethodId} {args : Array Value} {below : List Frame} {meth : Method} {c : Code} {k n : Nat}
variable {RW : List Cond} {D : va_G} {cl : List vw_C} {aC : Nat → ClassId} {tyl : List FieldType} {fty : Nat → Nat → FieldType} {dfl : Nat → List Value} {ex : Nat → w_X} {xcs : List (Nat × String)} {g0 g : g_H} {cc : ByteArray} {own : String} {nL fr lo MC MS : Nat} {ret : Option FieldType} {hs : List w_Hd} {init : Bool} {scr : Option (Nat × Nat × (Nat → Int32))} {P : x_O → g_H → Prop} {N : w_K} {mt : Nat → w_M}
theorem w_fin {H : Heap} {locs : List Loc} {v : Option Value} (hok : g_ok D cl aC (x_A g0 s.heap.size) g H) (hS : va_S (x_A g0 s.heap.size) s.heap H locs) (hP : P (.inl v) g) :
    ∀ t, MQ below (fun _ _ o t => o = .returned v ∧ t.heap = H) args s MC MS (x_A g0 s.heap.size) t → x_Q D cl aC below s g0 P MC MS t := by
  rintro t ⟨o, h1, h2, ⟨rfl, h4⟩, L, ⟨-, h5, h6⟩, h7⟩
  exact ⟨_, .inl v, g, L, h1, h2, rfl, hP, by rw [h4]; exact hok, hS.F h4, h5, h6, h7⟩
set_option maxHeartbeats 4000000 in
theorem w_1_go (hce : w_ce RW cl fty dfl) (hwe : w_we RW xcs) (hme : ∀ y, w_mokb RW (mt y) = true) (hX : w_cx RW cl tyl own cc nL ret hs init scr p e s m args meth c D aC (x_A g0 s.heap.size)) (hh : w_he RW own hs) {r : w_R} {lv : w_L} {st : List Value}
    (hokb : w_okb RW cl tyl mt ex xcs own cc nL fr lo init r = true) (h : w_1 (w_CTm l RW D cl aC tyl mt) (fun y => (mt y).2.2.2.2.2.1) fty dfl tyl ex hs scr ret MC MS P N r lv st g k n)
    (hN : ∀ pc lv st g k n, N pc lv st g k n → w_V p l e { frames := fr, cells := MC, slots := MS, locals := lo } s m args below meth c D cl aC (x_A g0 s.heap.size) nL (x_Q D cl aC below s g0 P MC MS) pc lv st g k n) :
    w_V p l e { frames := fr, cells := MC, slots := MS, locals := lo } s m args below meth c D cl aC (x_A g0 s.heap.size) nL (x_Q D cl aC below s g0 P MC MS) r.1 lv st g k n := by
  intro H locs ls hl hok hS
  obtain ⟨hexec, hb, hml, hown, hts, hK, hSt, hA, hAst, hlocks, hr, htr, htab, hin, hscr⟩ := id hX
  simp only [w_okb, Bool.and_eq_true, decide_eq_true_eq] at hokb
  obtain ⟨hd, hk⟩ := hokb
  unfold w_1 at h
  split at h
  · rename_i q hq
    rw [w_okx_pure hq] at hk
    exact w_pure_go hexec hb hd hk hq hl (fun ls1 hl1 => hN _ _ _ _ _ _ h H locs ls1 hl1 hok hS)
  · obtain ⟨pc, i, len, cv, x, y, z⟩ := r
    dsimp only at h hd hk ⊢
    split at h
    · simp only [w_okx, Bool.and_eq_true, decide_eq_true_eq] at hk
      obtain ⟨k1, k2⟩ := hk
      obtain rfl := Nat.eq_of_beq_eq_true k2
      exact lv_ldc hexec hb hown (hts _ (w_in_mem k1)) hd (hN _ _ _ _ _ _ h H locs ls hl hok hS)
    · simp only [w_okx, Bool.and_eq_true, decide_eq_true_eq] at hk
      obtain ⟨k1, k2⟩ := hk
      obtain rfl := Nat.eq_of_beq_eq_true k2
      exact lv_ldc2 hexec hb hown (hts _ (w_in_mem k1)) hd (hN _ _ _ _ _ _ h H locs ls hl hok hS)
    · obtain rfl := Nat.eq_of_beq_eq_true hk
      exact W.lcmp hexec hb hd (hN _ _ _ _ _ _ h H locs ls hl hok hS)
    · simp only [w_okx, Bool.and_eq_true, decide_eq_true_eq] at hk
      obtain ⟨k1, k2⟩ := hk
      obtain rfl := Nat.eq_of_beq_eq_true k2
      exact lv_goto hexec hb hd k1 (hN _ _ _ _ _ _ h H locs ls hl hok hS)
    · simp only [w_okx, Bool.and_eq_true, decide_eq_true_eq] at hk
      obtain ⟨k1, k2⟩ := hk
      obtain rfl := Nat.eq_of_beq_eq_true k2
      obtain ⟨h1, h2⟩ := h
      rename_i cnd _ _ _ _
      cases cnd with
      | eq => exact lv_if_eq hexec hb hd k1 (fun q => hN _ _ _ _ _ _ (h1 q) H locs ls hl hok hS) (fun q => hN _ _ _ _ _ _ (h2 q) H locs ls hl hok hS)
      | ne => exact lv_if_ne hexec hb hd k1 (fun q => hN _ _ _ _ _ _ (h1 q) H locs ls hl hok hS) (fun q => hN _ _ _ _ _ _ (h2 (fun z => z q)) H locs ls hl hok hS)
      | lt => exact lv_if_lt hexec hb hd k1 (fun q => hN _ _ _ _ _ _ (h1 (Int32.lt_iff_toInt_lt.mp q)) H locs ls hl hok hS) (fun q => hN _ _ _ _ _ _ (h2 (fun z => q (Int32.lt_iff_toInt_lt.mpr z))) H locs ls hl hok hS)
      | ge => exact lv_if_ge hexec hb hd k1 (fun q => hN _ _ _ _ _ _ (h1 (Int32.le_iff_toInt_le.mp q)) H locs ls hl hok hS) (fun q => hN _ _ _ _ _ _ (h2 (fun z => q (Int32.le_iff_toInt_le.mpr z))) H locs ls hl hok hS)
      | gt => exact lv_if_gt hexec hb hd k1 (fun q => hN _ _ _ _ _ _ (h1 (Int32.lt_iff_toInt_lt.mp q)) H locs ls hl hok hS) (fun q => hN _ _ _ _ _ _ (h2 (fun z => q (Int32.lt_iff_toInt_lt.mpr z))) H locs ls hl hok hS)
      | le => exact lv_if_le hexec hb hd k1 (fun q => hN _ _ _ _ _ _ (h1 (Int32.le_iff_toInt_le.mp q)) H locs ls hl hok hS) (fun q => hN _ _ _ _ _ _ (h2 (fun z => q (Int32.le_iff_toInt_le.mpr z))) H locs ls hl hok hS)
    · simp only [w_okx, Bool.and_eq_true, decide_eq_true_eq] at hk
      obtain ⟨k1, k2⟩ := hk
      obtain rfl := Nat.eq_of_beq_eq_true k2
      obtain ⟨h1, h2⟩ := h
      rename_i cnd _ _ _ _ _
      cases cnd with
      | eq => exact lv_icmp_eq hexec hb hd k1 (fun q => hN _ _ _ _ _ _ (h1 q) H locs ls hl hok hS) (fun q => hN _ _ _ _ _ _ (h2 q) H locs ls hl hok hS)
      | ne => exact lv_icmp_ne hexec hb hd k1 (fun q => hN _ _ _ _ _ _ (h1 q) H locs ls hl hok hS) (fun q => hN _ _ _ _ _ _ (h2 (fun z => z q)) H locs ls hl hok hS)
      | lt => exact lv_icmp_lt hexec hb hd k1 (fun q => hN _ _ _ _ _ _ (h1 (Int32.lt_iff_toInt_lt.mp q)) H locs ls hl hok hS) (fun q => hN _ _ _ _ _ _ (h2 (fun z => q (Int32.lt_iff_toInt_lt.mpr z))) H locs ls hl hok hS)
      | ge => exact lv_icmp_ge hexec hb hd k1 (fun q => hN _ _ _ _ _ _ (h1 (Int32.le_iff_toInt_le.mp q)) H locs ls hl hok hS) (fun q => hN _ _ _ _ _ _ (h2 (fun z => q (Int32.le_iff_toInt_le.mpr z))) H locs ls hl hok hS)
      | gt => exact lv_icmp_gt hexec hb hd k1 (fun q => hN _ _ _ _ _ _ (h1 (Int32.lt_iff_toInt_lt.mp q)) H locs ls hl hok hS) (fun q => hN _ _ _ _ _ _ (h2 (fun z => q (Int32.lt_iff_toInt_lt.mpr z))) H locs ls hl hok hS)
      | le => exact lv_icmp_le hexec hb hd k1 (fun q => hN _ _ _ _ _ _ (h1 (Int32.le_iff_toInt_le.mp q)) H locs ls hl hok hS) (fun q => hN _ _ _ _ _ _ (h2 (fun z => q (Int32.le_iff_toInt_le.mpr z))) H locs ls hl hok hS)
    · simp only [w_okx, Bool.and_eq_true, decide_eq_true_eq] at hk
      obtain ⟨k1, k2⟩ := hk
      obtain rfl := Nat.eq_of_beq_eq_true k2
      exact lv_ifnullN hexec hb hd k1 (hN _ _ _ _ _ _ h H locs ls hl hok hS)
    · simp only [w_okx, Bool.and_eq_true, decide_eq_true_eq] at hk
      obtain ⟨k1, k2⟩ := hk
      obtain rfl := Nat.eq_of_beq_eq_true k2
      exact lv_ifnull hexec hb hd (hN _ _ _ _ _ _ h H locs ls hl hok hS)
    · simp only [w_okx, Bool.and_eq_true, decide_eq_true_eq] at hk
      obtain ⟨k1, k2⟩ := hk
      obtain rfl := Nat.eq_of_beq_eq_true k2
      exact lv_ifnonnullN hexec hb hd (hN _ _ _ _ _ _ h H locs ls hl hok hS)
    · simp only [w_okx, Bool.and_eq_true, decide_eq_true_eq] at hk
      obtain ⟨k1, k2⟩ := hk
      obtain rfl := Nat.eq_of_beq_eq_true k2
      exact lv_ifnonnull hexec hb hd k1 (hN _ _ _ _ _ _ h H locs ls hl hok hS)
    · simp only [w_okx, Bool.and_eq_true, decide_eq_true_eq] at hk
      obtain ⟨k1, k2⟩ := hk
      obtain rfl := Nat.eq_of_beq_eq_true k2
      obtain ⟨h1, h2⟩ := h
      rename_i b1 a1 _ _
      exact lv_acmp_ne (rx := some a1) (ry := some b1) hexec hb hd k1 (fun q => hN _ _ _ _ _ _ (h2 (fun z => q (by rw [z]))) H locs ls hl hok hS) (fun q => hN _ _ _ _ _ _ (h1 (Option.some.inj q)) H locs ls hl hok hS)
    · simp only [w_okx, Bool.and_eq_true, decide_eq_true_eq] at hk
      obtain ⟨k1, k2⟩ := hk
      obtain rfl := Nat.eq_of_beq_eq_true k2
      exact lv_acmp_ne (rx := none) (ry := none) hexec hb hd k1 (fun q => absurd rfl q) (fun _ => hN _ _ _ _ _ _ h H locs ls hl hok hS)
    · simp only [w_okx, Bool.and_eq_true, decide_eq_true_eq] at hk
      obtain ⟨k1, k2⟩ := hk
      obtain rfl := Nat.eq_of_beq_eq_true k2
      rename_i b1 _ _
      exact lv_acmp_ne (rx := none) (ry := some b1) hexec hb hd k1 (fun _ => hN _ _ _ _ _ _ h H locs ls hl hok hS) (fun q => by cases q)
    · simp only [w_okx, Bool.and_eq_true, decide_eq_true_eq] at hk
      obtain ⟨k1, k2⟩ := hk
      obtain rfl := Nat.eq_of_beq_eq_true k2
      rename_i a1 _ _
      exact lv_acmp_ne (rx := some a1) (ry := none) hexec hb hd k1 (fun _ => hN _ _ _ _ _ _ h H locs ls hl hok hS) (fun q => by cases q)
    · simp only [w_okx, Bool.and_eq_true, decide_eq_true_eq] at hk
      obtain ⟨⟨k1, k2⟩, k3⟩ := hk
      rename_i d lo1 hi1 offs x1 _ _
      obtain ⟨h1, h2⟩ := h
      by_cases hx : x1.toInt < lo1 ∨ hi1 < x1.toInt
      · exact lv_tableOut hexec hb hd hx (w_tg_eq k1) (hN _ _ _ _ _ _ (h2 hx) H locs ls hl hok hS)
      · have hn1 : ¬ x1.toInt < lo1 := fun q => hx (Or.inl q)
        have hn2 : ¬ hi1 < x1.toInt := fun q => hx (Or.inr q)
        have hi : (x1.toInt - lo1).toNat < offs.size := by omega
        have ho : offs[(x1.toInt - lo1).toNat]? = some offs[(x1.toInt - lo1).toNat] := Array.getElem?_eq_getElem hi
        have hmem : offs[(x1.toInt - lo1).toNat] ∈ offs.toList := by simp
        have hpos := of_decide_eq_true (List.all_eq_true.mp k2 _ hmem)
        have hgo := w_sw_at (i := (x1.toInt - lo1).toNat) (t := w_tg pc offs[(x1.toInt - lo1).toNat]) h1 (by simp [hi]) (by omega)
        exact lv_tableIn hexec hb hd hn1 hn2 ho (w_tg_eq hpos) (hN _ _ _ _ _ _ hgo H locs ls hl hok hS)
    · simp only [w_okx, Bool.and_eq_true, decide_eq_true_eq] at hk
      obtain ⟨⟨k1, k2⟩, k3⟩ := hk
      rename_i d ps x1 _ _
      rcases w_lk_at h with ⟨q, q1, q2, q3⟩ | ⟨q1, q2⟩
      · have hpos := of_decide_eq_true (List.all_eq_true.mp k2 _ q1)
        exact lv_lookup hexec hb hd k3 q2 (w_tg_eq hpos) (hN _ _ _ _ _ _ q3 H locs ls hl hok hS)
      · exact lv_lookup hexec hb hd k3 q1 (w_tg_eq k1) (hN _ _ _ _ _ _ q2 H locs ls hl hok hS)
    · obtain rfl := Nat.eq_of_beq_eq_true hk
      exact lv_idiv hexec hb hd h.1 (hN _ _ _ _ _ _ h.2 H locs ls hl hok hS)
    · obtain rfl := Nat.eq_of_beq_eq_true hk
      exact lv_irem hexec hb hd h.1 (hN _ _ _ _ _ _ h.2 H locs ls hl hok hS)
    · simp only [w_okx, Bool.and_eq_true] at hk
      obtain ⟨k1, k2⟩ := hk
      obtain rfl := Nat.eq_of_beq_eq_true k1
      split at k2
      · rename_i q hq
        simp only [Bool.and_eq_true, decide_eq_true_eq] at k2
        obtain ⟨C, T, Nn⟩ := q
        obtain ⟨e1, e2, e3, e4, e5, e6, e7⟩ := hce x C T Nn hq
        obtain ⟨fs, v, h1, h2, h3⟩ := h
        exact w_get hexec hb hts hown hK hok hq e1 k2.1 (w_flb_or k2.2) h1 h2 hd (hN _ _ _ _ _ _ h3 H locs ls hl hok hS)
      · cases k2
    · simp only [w_okx, Bool.and_eq_true] at hk
      obtain ⟨k1, k2⟩ := hk
      obtain rfl := Nat.eq_of_beq_eq_true k1
      split at k2
      · rename_i q hq
        simp only [Bool.and_eq_true, Bool.or_eq_true, decide_eq_true_eq, Bool.not_eq_true'] at k2
        obtain ⟨C, T, Nn⟩ := q
        obtain ⟨e1, e2, e3, e4, e5, e6, e7⟩ := hce x C T Nn hq
        obtain ⟨fs, h1, h2, h3, h4, h5⟩ := h
        exact w_put hexec hb hts hown hK hok hS hq e1 k2.1.1 (w_in_mem k2.1.2) e2 e3 (k2.2.imp_right (fun q => ⟨hin q.1, q.2⟩)) h1 h2 h3 h4 hd (fun H1 locs1 q1 q2 => hN _ _ _ _ _ _ h5 H1 locs1 ls hl q1 q2)
      · cases k2
    · obtain rfl := Nat.eq_of_beq_eq_true hk
      rcases h with ⟨t, a0, h1, h2, h3⟩ | ⟨L, xs, h1, h3⟩
      · obtain ⟨q0, hq⟩ := hok.at h1
        exact va_alen hexec hb hK hok.pp q0 t hq (w_tys_at (List.getElem?_eq_getElem h2)) rfl hd (hN _ _ _ _ _ _ h3 H locs ls hl hok hS)
      · obtain ⟨s1, s2, s3⟩ := hscr _ _ _ h1
        exact va_slen hexec hb s1 s2 s3 hS hd (hN _ _ _ _ _ _ h3 H locs ls hl hok hS)
    · obtain rfl := Nat.eq_of_beq_eq_true hk
      obtain ⟨t, nn, f, j, h1, h2, h3, h4, h5, h6⟩ := h
      obtain ⟨q0, hq⟩ := hok.at h1
      subst h3
      refine va_bald hexec hb hK hok.pp q0 t hq (w_tys_at h2) (vp_in_nI h4 h5) hd ?_
      rw [nI_clamp (Nat.lt_trans h4 h5)]
      exact hN _ _ _ _ _ _ h6 H locs ls hl hok hS
    · obtain rfl := Nat.eq_of_beq_eq_true hk
      rcases h with ⟨t, nn, f, j, h1, h2, h3, h4, h5, h6⟩ | ⟨L, xs, j, h1, h3, h4, h5, h6⟩
      · obtain ⟨q0, hq⟩ := hok.at h1
        subst h3
        refine va_iald hexec hb hK hok.pp q0 t hq (w_tys_at h2) (vp_in_nI h4 h5) hd ?_
        rw [nI_clamp (Nat.lt_trans h4 h5)]
        exact hN _ _ _ _ _ _ h6 H locs ls hl hok hS
      · obtain ⟨s1, s2, s3⟩ := hscr _ _ _ h1
        subst h3
        refine va_sld hexec hb s1 s2 s3 hS (vp_in_nI h4 h5) hd ?_
        rw [nI_clamp (Nat.lt_trans h4 h5)]
        exact hN _ _ _ _ _ _ h6 H locs ls hl hok hS
    · obtain rfl := Nat.eq_of_beq_eq_true hk
      obtain ⟨t, nn, f, j, h1, h2, h3, h4, h5, h6⟩ := h
      obtain ⟨q0, hq⟩ := hok.at h1
      subst h3
      refine va_lald hexec hb hK hok.pp q0 t hq (w_tys_at h2) (vp_in_nI h4 h5) hd ?_
      rw [nI_clamp (Nat.lt_trans h4 h5)]
      exact hN _ _ _ _ _ _ h6 H locs ls hl hok hS
    · obtain rfl := Nat.eq_of_beq_eq_true hk
      obtain ⟨t, nn, f, j, E, h1, h2, h3, h4, h5, h6, h7⟩ := h
      obtain ⟨q0, hq⟩ := hok.at h1
      subst h3
      refine va_aldq hexec hb hK hok.pp q0 t hq (w_tys_at h2) (vp_in_nI h4 h5) hd ?_
      rw [nI_clamp (Nat.lt_trans h4 h5)]
      cases hf : f j with
      | none => exact hN _ _ _ _ _ _ (h6 hf) H locs ls hl hok hS
      | some b => exact hN _ _ _ _ _ _ (h7 b hf) H locs ls hl hok hS
    · obtain rfl := Nat.eq_of_beq_eq_true hk
      obtain ⟨t, nn, f, j, h1, h2, h3, h4, h5, h6⟩ := h
      obtain ⟨q0, hq⟩ := hok.at h1
      subst h3
      refine va_bast hexec hb hK hok.pp hok.dd hS q0 t hq (w_tys_at h2) (vp_in_nI h4 h5) hd (fun H1 locs1 hP _ hS1 => ?_)
      rw [nI_clamp (Nat.lt_trans h4 h5), vp_nar_byte] at hP
      exact hN _ _ _ _ _ _ h6 H1 locs1 ls hl (hok.set hq hP) hS1
    · obtain rfl := Nat.eq_of_beq_eq_true hk
      obtain ⟨t, nn, f, j, h1, h2, h3, h4, h5, h6⟩ := h
      obtain ⟨q0, hq⟩ := hok.at h1
      subst h3
      refine va_iast hexec hb hK hok.pp hok.dd hS q0 t hq (w_tys_at h2) (vp_in_nI h4 h5) hd (fun H1 locs1 hP _ hS1 => ?_)
      rw [nI_clamp (Nat.lt_trans h4 h5)] at hP
      exact hN _ _ _ _ _ _ h6 H1 locs1 ls hl (hok.set hq hP) hS1
    · obtain rfl := Nat.eq_of_beq_eq_true hk
      obtain ⟨t, nn, f, j, h1, h2, h3, h4, h5, h6⟩ := h
      obtain ⟨q0, hq⟩ := hok.at h1
      subst h3
      refine va_last hexec hb hK hok.pp hok.dd hS q0 t hq (w_tys_at h2) (vp_in_nI h4 h5) hd (fun H1 locs1 hP _ hS1 => ?_)
      rw [nI_clamp (Nat.lt_trans h4 h5)] at hP
      exact hN _ _ _ _ _ _ h6 H1 locs1 ls hl (hok.set hq hP) hS1
    · simp only [w_okx, Bool.and_eq_true] at hk
      obtain ⟨k1, k2⟩ := hk
      obtain rfl := Nat.eq_of_beq_eq_true k1
      split at k2
      · rename_i qc hqc
        have k3 := of_decide_eq_true k2
        obtain ⟨t, nn, f, j, ci, vs, h1, h2, e1, e2, h3, h4, h5, h6⟩ := h
        subst e1
        subst e2
        obtain ⟨q0, hq⟩ := hok.at h1
        obtain ⟨q1, hq1⟩ := hok.at h2
        subst h3
        refine va_astq hexec hb hK hok.pp hok.dd hS q0 _ q1 _ hq (w_tys_at k3) hq1 hqc (vp_in_nI h4 h5) hd (fun H1 locs1 hP _ hS1 => ?_)
        rw [nI_clamp (Nat.lt_trans h4 h5)] at hP
        exact hN _ _ _ _ _ _ h6 H1 locs1 ls hl (hok.set hq hP) hS1
      · cases k2
    · simp only [w_okx, Bool.and_eq_true] at hk
      obtain ⟨k1, k2⟩ := hk
      obtain rfl := Nat.eq_of_beq_eq_true k1
      obtain ⟨t, nn, f, j, E, h1, h2, h3, h4, h5, h6⟩ := h
      obtain ⟨q0, hq⟩ := hok.at h1
      subst h3
      refine va_astqN hexec hb hK hok.pp hok.dd hS q0 t hq (w_tys_at h2) (vp_in_nI h4 h5) hd (fun H1 locs1 hP _ hS1 => ?_)
      rw [nI_clamp (Nat.lt_trans h4 h5)] at hP
      exact hN _ _ _ _ _ _ h6 H1 locs1 ls hl (hok.set hq hP) hS1
    · simp only [w_okx, Bool.and_eq_true, decide_eq_true_eq] at hk
      obtain ⟨⟨⟨k1, k2⟩, k3⟩, k4⟩ := hk
      obtain rfl := Nat.eq_of_beq_eq_true k1
      obtain ⟨N', h1, h2, h3, h4, h5⟩ := h
      rename_i aty _ _ _
      cases aty <;> first
        | (exfalso; simp at k4; done)
        | exact w_newa hexec hb hts hK hok hS hA rfl k2 (w_in_mem k3) (fun _ => rfl) h1 h2 (by decide) h3 h4 hd (fun q H1 q1 q2 q3 => hN _ _ _ _ _ _ (h5 q q1) H1 locs ls hl q2 q3)
    · simp only [w_okx, Bool.and_eq_true] at hk
      obtain ⟨k1, k2⟩ := hk
      obtain rfl := Nat.eq_of_beq_eq_true k1
      split at k2
      · rename_i E hE
        simp only [Bool.and_eq_true] at k2
        obtain ⟨N', h1, h2, h3, h4, h5⟩ := h
        exact w_newq hexec hb hts hown hK hok hS hA hE (w_in_mem k2.1) (w_in_mem k2.2) h1 h2 h3 h4 hd (fun q H1 q1 q2 q3 => hN _ _ _ _ _ _ (h5 q q1) H1 locs ls hl q2 q3)
      · cases k2
    · simp only [w_okx, Bool.and_eq_true] at hk
      obtain ⟨k1, k2⟩ := hk
      obtain rfl := Nat.eq_of_beq_eq_true k1
      split at h
      · rename_i hx992
        rw [hx992] at k2
        dsimp only at k2
        split at h
        case h_2 => exact h.elim
        obtain ⟨h1, h2, h3, h4⟩ := h
        generalize hex : ex y = xr at k2 h2
        obtain ⟨ci, ik, ic, wide, tx, C, p1, p2⟩ := xr
        dsimp only at k2 h2
        simp only [Bool.and_eq_true, decide_eq_true_eq] at k2
        obtain ⟨⟨⟨⟨⟨⟨⟨q1, q2⟩, q3⟩, q4⟩, q5⟩, q6⟩, q7⟩, q8⟩ := k2
        obtain ⟨q2, hown9⟩ := q2
        obtain ⟨w1, w2, w3, w4, w5, -, w6⟩ := hwe
        obtain ⟨o1, o2, o3⟩ := w6 (ic, C) q2
        have hsk : ∀ U : State, U.heap = H → x_sk s.heap U.heap := fun U hU a0 cell0 a1 a2 => by
          rw [hU, hS.2.1 a0 (Array.getElem?_eq_some_iff.mp a1).1 (fun z => by rw [hAst a0 cell0 z a1] at a2; cases a2)]
          exact a1
        have hgd := w_TB_good RW
        have f6 := Nat.le_of_ble_eq_true q7
        have f7 := Nat.le_of_ble_eq_true q8
        have hrow : ∃ q : Nat, ((decode cc (pc + 4) = .ok (.ldc ik, 2) ∧ q = pc + 6) ∨ (decode cc (pc + 4) = .ok (.ldc_w ik, 3) ∧ q = pc + 7)) ∧ decode cc q = .ok (.invokespecial ic, 3) ∧ decode cc (q + 3) = .ok (.athrow, 1) := by
          cases wide with
          | true =>
            simp only [Bool.and_eq_true, decide_eq_true_eq] at q6
            exact ⟨pc + 7, Or.inr ⟨q6.1.1, rfl⟩, q6.1.2, q6.2⟩
          | false =>
            simp only [Bool.and_eq_true, decide_eq_true_eq] at q6
            exact ⟨pc + 6, Or.inl ⟨q6.1.1, rfl⟩, q6.1.2, q6.2⟩
        obtain ⟨qq, r1, r2, r3⟩ := hrow
        refine x_raise (names := w_exN) (own := own) (C := C) (tx := tx) (ik := ik) (ic := ic) (q := qq) hexec hb (hl.1.trans hml.symm) hlocks htr (by simpa using htab) hown (fun U hU hH => ⟨fun w hw => ?_, ?_, ?_, ?_⟩) o3 (by decide) hd q5 r1 r2 r3 h3 h4 (by show 2 + 3 < fr; omega) (by show _ + 1 + (13 * (2 + 1) + 42) ≤ lo; omega) hok hS h2 h3 h4
        · rw [hown9] at hw
          rcases o1 w hw with h9 | h9
          · exact hgd w h9 args args s U hU (hts w h9)
          · exact (hSt.kept hU.alike (hsk U hH)).any w h9
        · exact hgd _ (w_in_mem q3) args args s U hU (hts _ (w_in_mem q3))
        · exact hgd _ o2 args args s U hU (hts _ o2)
        · exact hgd _ (w_in_mem q4) args args s U hU (hts _ (w_in_mem q4))
      · rename_i hx992
        rw [hx992] at k2
        dsimp only at k2
        split at k2
        · rename_i q hq
          obtain ⟨C, T, Nn⟩ := q
          obtain ⟨e1, e2, e3, e4, e5, e6, e7⟩ := hce x C T Nn hq
          obtain ⟨h1, h2, h3⟩ := h
          rw [e7] at h2
          refine w_new hexec hb hts hown hK hok hS hA hq e1 e2 (w_in_mem k2) e4 e5 e6 h1 h2 hd (fun q H1 q1 q2 q3 => ?_)
          have h4 := h3 q q1
          rw [e7] at h4
          exact hN _ _ _ _ _ _ h4 H1 locs ls hl q2 q3
        · cases k2
    · simp only [w_okx, Bool.and_eq_true] at hk
      obtain ⟨k1, k2⟩ := hk
      obtain rfl := Nat.eq_of_beq_eq_true k1
      split at h
      · rename_i hx993
        rw [hx993] at k2
        simp only [Bool.and_eq_true] at k2
        have f4 := Nat.le_of_ble_eq_true k2.1.2
        have f5 := Nat.le_of_ble_eq_true k2.2
        obtain ⟨-, -, -, -, -, ⟨u1, u2, u3, u4, u5⟩, -⟩ := hwe
        split at h
        · obtain ⟨h1, t, m0, f, h2, h3, h4, h5, h6, h7⟩ := h
          obtain ⟨q0, hq0⟩ := hok.at h2
          have hnm : s.vm.findClass "[B" = some (aC t) := (hK.2 t _ (w_tys_at h3)).2
          refine va_clone hexec hb (hml.trans hl.1.symm) hown (hts _ (w_in_mem k2.1.1)) (hts _ u1) (hts _ u2) (hts _ u3) (hts _ u4) (va_Nw.of rfl (hts _ u5)) hK hok.pp hok.dd hS hA q0 t hq0 (w_tys_at h3) hnm (fun i v hv => ?_) f4 (by show _ ≤ lo; omega) h5 h6 hd (fun q H1 _ hP hD hS1 => ?_)
          · have hv2 : (arrV (aC t) m0 (fun j => Value.int (f j))).slots[i]? = some v := hv
            by_cases hi : i < m0
            · simp [arrV, hi] at hv2
              rw [← hv2]
              exact h4 i hi
            · simp [arrV, hi] at hv2
          · obtain ⟨g1, g2⟩ := hok.push (e := .inl (t, m0, .inl f)) hP hD
            exact hN _ _ _ _ _ _ (h7 q g1) H1 locs ls hl g2 hS1
        · exact h.elim
      · rename_i hx993
        rw [hx993] at k2
        simp only [Bool.and_eq_true] at k2
        obtain ⟨⟨⟨k2, k3⟩, k4⟩, k5⟩ := k2
        have hM := hme x
        obtain ⟨m1, m2, m3, m4, m5, m6, m7, m8⟩ := w_mok_cd hM
        obtain ⟨i1, i2⟩ := m6 (Nat.eq_of_beq_eq_true k4)
        obtain ⟨mk, methM, cM, c1, c2, c3, c4, c5, c6, c7, c8, c9⟩ := x_cd_spec m1 hts
        rw [c9] at m5
        split at h
        · rename_i b rest hst
          obtain ⟨⟨fs, h1⟩, h2⟩ := h
          split at k5
          · rename_i q hq
            have k6 := of_decide_eq_true k5
            obtain ⟨cell, r1, r2, r3⟩ := w_recv hK hok h1 hq
            rw [k6] at r3
            have hlt : (mt x).2.2.2.2.2.1 < st.length := by
              have := congrArg List.length hst
              simp at this
              omega
            refine w_call_go hX hh hM k3 h2 hN hl hok hS hd (fun T hT X => ?_)
            refine x_lkV X hexec hown (w_lkb_or k2 hts) (hts _ i1) (hts _ i2) m4 c1 c2 (Option.some.inj m5) (by rw [hT]; exact r1) r2 r3 rfl ?_ ?_ (by rw [hb]; exact hd)
            · simp
              omega
            · show st = _
              rw [List.reverse_reverse, ← hst, List.take_append_drop]
          · cases k5
        · exact h.elim
    · simp only [w_okx, Bool.and_eq_true] at hk
      obtain ⟨k1, k2⟩ := hk
      obtain rfl := Nat.eq_of_beq_eq_true k1
      obtain ⟨t, x0, h1, h2, h3⟩ := h
      obtain ⟨q0, hq0⟩ := hok.at h1
      have hnm : s.vm.findClass "[B" = some (aC t) := (hK.2 t _ (w_tys_at h2)).2
      exact va_castA hexec hb hown (hts _ (w_in_mem k2)) hok.pp q0 hq0 hnm hd (hN _ _ _ _ _ _ h3 H locs ls hl hok hS)
    · simp only [w_okx, Bool.and_eq_true] at hk
      obtain ⟨k1, k2⟩ := hk
      obtain rfl := Nat.eq_of_beq_eq_true k1
      split at h
      · rename_i hx990
        rw [hx990] at k2
        simp only [Bool.and_eq_true] at k2
        split at h
        · obtain ⟨h1, h2⟩ := h
          have f1 := Nat.le_of_ble_eq_true k2.1.2
          have f2 := Nat.le_of_ble_eq_true k2.2
          exact W.objInit hexec hb hown (hts _ (w_in_mem k2.1.1)) (hts _ hwe.1) (hts _ hwe.2.1) rfl (hl.1.trans hml.symm) rfl hd f1 (by show 2 * 0 + _ + 12 ≤ lo; omega) (hN _ _ _ _ _ _ h2 H locs ls hl hok hS)
        · exact h.elim
      · rename_i hx990
        rw [hx990] at k2
        simp only [Bool.and_eq_true] at k2
        obtain ⟨⟨k2, k3⟩, k4⟩ := k2
        have hM := hme x
        obtain ⟨m1, m2, m3, m4, m5, m6, m7, m8⟩ := w_mok_cd hM
        obtain ⟨i1, i2, i3⟩ := m8 (Nat.eq_of_beq_eq_true k4)
        split at h
        · rename_i b rest hst
          have hlt : (mt x).2.2.2.2.2.1 < st.length := by
            have := congrArg List.length hst
            simp at this
            omega
          refine w_call_go hX hh hM k3 h hN hl hok hS hd (fun T hT X => ?_)
          refine x_lkI X hexec hown (w_lkb_or k2 hts) (hts _ i1) (hts _ i3) i2 m4 (n := (mt x).2.2.2.2.2.1) (fun sig hsig => ?_) rfl ?_ ?_ (by rw [hb]; exact hd)
          · rw [hsig] at m5
            exact (Option.some.inj m5).symm
          · simp
            omega
          · show st = _
            rw [List.reverse_reverse, ← hst, List.take_append_drop]
        · exact h.elim
    · simp only [w_okx, Bool.and_eq_true] at hk
      obtain ⟨k1, k2⟩ := hk
      obtain rfl := Nat.eq_of_beq_eq_true k1
      split at h
      · rename_i hx991
        rw [hx991] at k2
        simp only [Bool.and_eq_true, decide_eq_true_eq] at k2
        obtain ⟨⟨⟨k3, k4⟩, k5⟩, k6⟩ := k2
        have f4 := Nat.le_of_ble_eq_true k4
        obtain ⟨-, -, w3, w4, w5, -⟩ := hwe
        split at h
        · obtain ⟨h1, t, n0, n1, sj, dj, zj, rfl, rfl, rfl, b0, b1, u1, u2, hcase⟩ := h
          have c1 : (nI sj).toNatClampNeg = sj := nI_clamp (by omega)
          have c2 : (nI dj).toNatClampNeg = dj := nI_clamp (by omega)
          have c3 : (nI zj).toNatClampNeg = zj := nI_clamp (by omega)
          rcases hcase with ⟨f, hf, a1, a2, a3, a4, a5⟩ | ⟨f, hf, ci, a1, a2, a0, a3, a4, a5, a6, a7⟩
          · obtain ⟨q0, hq0⟩ := hok.at a1
            obtain ⟨q1, hq1⟩ := hok.at a2
            refine va_copyi hexec hb (hml.trans hl.1.symm) hown (hts _ (w_in_mem k3)) (hts _ w3) (hts _ w4) (hts _ w5) hK hok.pp hok.dd hS q0 q1 t t hq0 hq1 (w_tys_at a3) (w_tys_at a3) rfl (nI_pos (by omega)) (nI_pos (by omega)) (nI_pos (by omega)) (by rw [c1, c3]; exact u1) (by rw [c2, c3]; exact u2)
              (fun i hi => by rw [c1]; rw [c3] at hi; exact a4 i hi) f4 (by show _ ≤ lo; omega) hd (fun H1 locs1 hP _ hS1 => ?_)
            rw [c1, c2, c3] at hP
            exact hN _ _ _ _ _ _ a5 H1 locs1 ls hl (hok.set hq1 hP) hS1
          · obtain ⟨q0, hq0⟩ := hok.at a1
            obtain ⟨q1, hq1⟩ := hok.at a2
            subst a3
            rw [a4, nI_clamp (by omega)] at k6
            split at k6
            · rename_i qc hqc
              simp only [Bool.or_eq_true, decide_eq_true_eq] at k6
              have k7 := k6.resolve_right (by omega)
              refine va_copyq (C := qc.1) hexec hb (hml.trans hl.1.symm) hown (hts _ (w_in_mem k3)) (hts _ w3) (hts _ w4) (hts _ w5) hK hok.pp hok.dd hS q0 q1 _ _ hq0 hq1 (w_tys_at k7) (w_tys_at k7) (nI_pos (by omega)) (nI_pos (by omega)) (nI_pos (by omega)) (by rw [c1, c3]; exact u1) (by rw [c2, c3]; exact u2)
                (fun i hi y hy => ?_) (fun comp c0 e1 e2 => by cases e1.symm.trans e2; exact va_asg _ _) f4 (by show _ ≤ lo; omega) hd (fun H1 locs1 hP _ hS1 => ?_)
              · rw [c1] at hy
                rw [c3] at hi
                obtain ⟨vs, hvs⟩ := a6 i hi y hy
                exact w_recv hK hok hvs hqc
              · rw [c1, c2, c3] at hP
                exact hN _ _ _ _ _ _ a7 H1 locs1 ls hl (hok.set hq1 hP) hS1
            · cases k6
        · exact h.elim
      · rename_i hx991
        rw [hx991] at k2
        simp only [Bool.and_eq_true] at k2
        obtain ⟨⟨k2, k3⟩, k4⟩ := k2
        have hM := hme x
        obtain ⟨m1, m2, m3, m4, m5, m6, m7, m8⟩ := w_mok_cd hM
        have i1 := m7 (Nat.eq_of_beq_eq_true k4)
        obtain ⟨mk, methM, cM, c1, c2, c3, c4, c5, c6, c7, c8, c9⟩ := x_cd_spec m1 hts
        rw [c9] at m5
        split at h
        · rename_i hle
          have hle := Nat.le_of_ble_eq_true hle
          refine w_call_go hX hh hM k3 h hN hl hok hS hd (fun T hT X => ?_)
          refine x_lkS X hexec hown (w_lkb_or k2 hts) (hts _ i1) (hts _ m2) m4 c1 c2 (Option.some.inj m5) rfl ?_ ?_ (by rw [hb]; exact hd)
          · simp
            omega
          · show st = _
            rw [List.reverse_reverse, List.take_append_drop]
        · exact h.elim
    · obtain rfl := Nat.eq_of_beq_eq_true hk
      obtain ⟨⟨ty, h1, h2⟩, h3, h4, h5⟩ := h
      exact W.widen h4 h5 (x_mono (w_fin hok hS h3) (W.zret hexec hb (hr.trans h1) h2 (fun t ht _ => ⟨rfl, ht⟩) hS.2.2 hd hlocks))
    · obtain rfl := Nat.eq_of_beq_eq_true hk
      obtain ⟨h1, h3, h4, h5⟩ := h
      exact W.widen h4 h5 (x_mono (w_fin hok hS h3) (W.lret hexec hb (hr.trans h1) (fun t ht _ => ⟨rfl, ht⟩) hS.2.2 hd hlocks))
    · obtain rfl := Nat.eq_of_beq_eq_true hk
      obtain ⟨⟨ty, h1, h2⟩, h3, h4, h5⟩ := h
      exact W.widen h4 h5 (x_mono (w_fin hok hS h3) (W.aret hexec hb (hr.trans h1) h2 (Or.inr ⟨_, rfl⟩) (fun t ht _ => ⟨rfl, ht⟩) hS.2.2 hd hlocks))
    · obtain rfl := Nat.eq_of_beq_eq_true hk
      obtain ⟨⟨ty, h1, h2⟩, h3, h4, h5⟩ := h
      exact W.widen h4 h5 (x_mono (w_fin hok hS h3) (W.aret hexec hb (hr.trans h1) h2 (Or.inl rfl) (fun t ht _ => ⟨rfl, ht⟩) hS.2.2 hd hlocks))
    · obtain rfl := Nat.eq_of_beq_eq_true hk
      obtain ⟨h1, h3, h4, h5⟩ := h
      exact W.widen h4 h5 (x_mono (w_fin hok hS h3) (W.vret hexec hb (hr.trans h1) (fun t ht _ => ⟨rfl, ht⟩) hS.2.2 hd hlocks))
    · exact h.elim
end WSOUND3
