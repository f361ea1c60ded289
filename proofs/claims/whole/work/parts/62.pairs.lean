/-! What a call of the law does to class and reference, one behind the other -/
section PRS
variable (l : Launch) (D : va_G) (aC : Nat → ClassId)
/-- a contract, or one that says more -/
def k_E (y mc ms : Nat) (args : List Value) (g : g_H) (P : x_O → g_H → Prop) : Prop := ∃ Q, k_CT l D aC y mc ms args g Q ∧ ∀ oc g1, Q oc g1 → P oc g1
def pF (ad am : Nat → Nat) (o y : Nat) (args : List Value) : x_O → g_H → Prop := fun oc g1 => oc = .inl none ∧ (∃ A F, mg am A F g1) ∧ k_E l D aC y 0 0 args g1 (fun oc2 g2 => oc2 = .inl none ∧ ∃ t, lw ad am o g2 t)
def pQ (ad am : Nat → Nat) (o y : Nat) (args : List Value) : x_O → g_H → Prop := fun oc g1 => ∃ x : Int32, oc = .inl (some (.int x)) ∧ (∃ A F, mg am A F g1) ∧ k_E l D aC y 0 0 args g1 (fun oc2 g2 => oc2 = .inl (some (.int x)) ∧ ∃ t, lw ad am o g2 t)
def pT (ad am : Nat → Nat) (o y : Nat) (args : List Value) : x_O → g_H → Prop := fun oc g1 => ∃ (kc : Nat) (x : Int32) (f : Nat → Int64), kc < 3 ∧ oc = .inl (some (.int (nI kc))) ∧ (∃ A F, mg am A F g1) ∧ (kc = 0 → f 0 = x.toInt64) ∧ k_E l D aC y 0 0 args g1 (fun oc2 g2 => ∃ b, oc2 = .inl (some (.int b)) ∧ (kc = 0 → b = x) ∧ lw ad am o g2 kc ∧ g2 o = some (lc f))
def pU (ad am : Nat → Nat) (o y : Nat) (args : List Value) : x_O → g_H → Prop := fun oc g1 => ∃ kc : Nat, kc < 3 ∧ oc = .inl (some (.int (nI kc))) ∧ (∃ A F, mg am A F g1) ∧ k_E l D aC y 0 0 args g1 (fun oc2 g2 => oc2 = .inl none ∧ lw ad am o g2 kc)
end PRS
section PRS1
variable {l : Launch} {D : va_G} {aC : Nat → ClassId}
variable {ad am : Nat → Nat} {o y yL mc ms thr cA cS : Nat} {ka ma : List Value} {g : g_H} {R T : List Nat} {S M Rs : List Ent} {Hs : List Ses} {X : List Chg} {ch st tm dn : Int32} {rs : Nat} {A : mA} {F : mF} {f : Nat → Int64} {x b : Int32}
variable {R1 T1 : List Nat} {S1 M1 Rs1 : List Ent} {Hs1 : List Ses} {X1 : List Chg} {ch1 st1 tm1 dn1 : Int32} {O1 N1 : List Ent} {cp1 : Option (List Nat)} {tv1 : Int32} {op1 nX1 : Nat}
theorem lw_end {g1 g2 : g_H} {v : x_O} {oc : x_O} (hk : cK ad g1 R1 T1 S1 M1 Rs1 Hs1 X1 ch1 st1 tm1 dn1 rs) (hm : mg am A F g1) (ho : g1 o = some (lc f)) (hp : pI S1 M1 Hs1 X1 ch1 st1 tm1 dn1 O1 N1 cp1 tv1 op1 nX1) (h2 : mO am g1 v thr R1 T1 S1 M1 Rs1 Hs1 O1 N1 cp1 st1 tv1 op1 nX1 oc g2) : oc = v ∧ lw ad am o g2 thr ∧ g2 o = some (lc f) := by
  obtain ⟨hv, hf2, A2, F2, h3, h4, h5⟩ := h2
  exact ⟨hv, ⟨R1, T1, S1, M1, Rs1, Hs1, X1, ch1, st1, tm1, dn1, rs, A2, F2, O1, N1, cp1, tv1, op1, nX1, f, cK_fy hk (fy_M hm hf2), h3, h4, h5, o_M ho hm hf2, hp⟩, o_M ho hm hf2⟩
theorem p_f (h : cK ad g R T S M Rs Hs X ch st tm dn rs) (hm : mg am A F g) (ho : g o = some (lc f)) (hk : k_CT l D aC y mc ms ka g (kO ad g (.inl none) R1 T1 S1 M1 Rs1 Hs1 X1 ch1 st1 tm1 dn1)) (hp : pI S1 M1 Hs1 X1 ch1 st1 tm1 dn1 O1 N1 cp1 tv1 op1 nX1) (hM : ∀ g1, mg am A F g1 → k_CT l D aC yL 0 0 ma g1 (mO am g1 (.inl none) thr R1 T1 S1 M1 Rs1 Hs1 O1 N1 cp1 st1 tv1 op1 nX1)) : k_E l D aC y mc ms ka g (pF l D aC ad am o yL ma) := by
  refine ⟨_, hk, ?_⟩
  rintro oc g1 ⟨rfl, hf, rs1, h1⟩
  have hm1 := mg_K hm h hf
  refine ⟨rfl, ⟨A, F, hm1⟩, _, hM g1 hm1, fun oc2 g2 h2 => ?_⟩
  obtain ⟨a1, a2, a3⟩ := lw_end h1 hm1 (o_K ho h hf) hp h2
  exact ⟨a1, _, a2⟩
theorem p_q (h : cK ad g R T S M Rs Hs X ch st tm dn rs) (hm : mg am A F g) (ho : g o = some (lc f)) (hk : k_CT l D aC y mc ms ka g (kO ad g (.inl (some (.int x))) R1 T1 S1 M1 Rs1 Hs1 X1 ch1 st1 tm1 dn1)) (hp : pI S1 M1 Hs1 X1 ch1 st1 tm1 dn1 O1 N1 cp1 tv1 op1 nX1) (hM : ∀ g1, mg am A F g1 → k_CT l D aC yL 0 0 ma g1 (mO am g1 (.inl (some (.int x))) thr R1 T1 S1 M1 Rs1 Hs1 O1 N1 cp1 st1 tv1 op1 nX1)) : k_E l D aC y mc ms ka g (pQ l D aC ad am o yL ma) := by
  refine ⟨_, hk, ?_⟩
  rintro oc g1 ⟨rfl, hf, rs1, h1⟩
  have hm1 := mg_K hm h hf
  refine ⟨x, rfl, ⟨A, F, hm1⟩, _, hM g1 hm1, fun oc2 g2 h2 => ?_⟩
  obtain ⟨a1, a2, a3⟩ := lw_end h1 hm1 (o_K ho h hf) hp h2
  exact ⟨a1, _, a2⟩
theorem p_v (h : cK ad g R T S M Rs Hs X ch st tm dn rs) (hm : mg am A F g) (ho : g o = some (lc f)) (hk : k_CT l D aC y mc ms ka g (lQ (kO ad g (.inl (some (.int x))) R1 T1 S1 M1 Rs1 Hs1 X1 ch1 st1 tm1 dn1) o cA cS)) (hp : pI S1 M1 Hs1 X1 ch1 st1 tm1 dn1 O1 N1 cp1 tv1 op1 nX1) (hM : ∀ g1, mg am A F g1 → k_CT l D aC yL 0 0 ma g1 (mO am g1 (.inl (some (.int x))) 0 R1 T1 S1 M1 Rs1 Hs1 O1 N1 cp1 st1 tv1 op1 nX1)) : k_E l D aC y mc ms ka g (pT l D aC ad am o yL ma) := by
  refine ⟨_, hk, ?_⟩
  rintro oc g1 (⟨x1, g0, f1, ⟨hv, hf, rs1, h1⟩, ho1, rfl, rfl⟩ | ⟨⟨hv, -⟩, -⟩ | ⟨⟨hv, -⟩, -⟩)
  · cases hv
    have hm1 := mg_o (f1 := vp_updL f1 0 x.toInt64) ho1 (mg_K hm h hf)
    refine ⟨0, x, vp_updL f1 0 x.toInt64, by decide, rfl, ⟨A, F, hm1⟩, fun _ => if_pos rfl, _, hM _ hm1, fun oc2 g2 h2 => ?_⟩
    obtain ⟨a1, a2, a3⟩ := lw_end (cK_fy h1 (fy_o ho1)) hm1 g_up_s hp h2
    exact ⟨x, a1, fun _ => rfl, a2, a3⟩
  · cases hv
  · cases hv
theorem p_A (h : cK ad g R T S M Rs Hs X ch st tm dn rs) (hm : mg am A F g) (ho : g o = some (lc f)) (hc : 0 < cA ∧ cA < 3) (hk : k_CT l D aC y mc ms ka g (lQ (kO ad g (.inr IA) R1 T1 S1 M1 Rs1 Hs1 X1 ch1 st1 tm1 dn1) o cA cS)) (hp : pI S1 M1 Hs1 X1 ch1 st1 tm1 dn1 O1 N1 cp1 tv1 op1 nX1) (hM : ∀ g1, mg am A F g1 → k_CT l D aC yL 0 0 ma g1 (mO am g1 (.inl (some (.int b))) cA R1 T1 S1 M1 Rs1 Hs1 O1 N1 cp1 st1 tv1 op1 nX1)) : k_E l D aC y mc ms ka g (pT l D aC ad am o yL ma) := by
  refine ⟨_, hk, ?_⟩
  rintro oc g1 (⟨x1, g0, f1, ⟨hv, -⟩, -⟩ | ⟨⟨hv, hf, rs1, h1⟩, rfl⟩ | ⟨⟨hv, -⟩, -⟩)
  · cases hv
  · have hm1 := mg_K hm h hf
    refine ⟨cA, 0, f, hc.2, rfl, ⟨A, F, hm1⟩, fun z => by omega, _, hM _ hm1, fun oc2 g2 h2 => ?_⟩
    obtain ⟨a1, a2, a3⟩ := lw_end h1 hm1 (o_K ho h hf) hp h2
    exact ⟨b, a1, fun z => by omega, a2, a3⟩
  · exact absurd (Sum.inr.inj hv) (by decide)
theorem p_S (h : cK ad g R T S M Rs Hs X ch st tm dn rs) (hm : mg am A F g) (ho : g o = some (lc f)) (hc : 0 < cS ∧ cS < 3) (hk : k_CT l D aC y mc ms ka g (lQ (kO ad g (.inr IS) R1 T1 S1 M1 Rs1 Hs1 X1 ch1 st1 tm1 dn1) o cA cS)) (hp : pI S1 M1 Hs1 X1 ch1 st1 tm1 dn1 O1 N1 cp1 tv1 op1 nX1) (hM : ∀ g1, mg am A F g1 → k_CT l D aC yL 0 0 ma g1 (mO am g1 (.inl (some (.int b))) cS R1 T1 S1 M1 Rs1 Hs1 O1 N1 cp1 st1 tv1 op1 nX1)) : k_E l D aC y mc ms ka g (pT l D aC ad am o yL ma) := by
  refine ⟨_, hk, ?_⟩
  rintro oc g1 (⟨x1, g0, f1, ⟨hv, -⟩, -⟩ | ⟨⟨hv, -⟩, -⟩ | ⟨⟨hv, hf, rs1, h1⟩, rfl⟩)
  · cases hv
  · exact absurd (Sum.inr.inj hv) (by decide)
  · have hm1 := mg_K hm h hf
    refine ⟨cS, 0, f, hc.2, rfl, ⟨A, F, hm1⟩, fun z => by omega, _, hM _ hm1, fun oc2 g2 h2 => ?_⟩
    obtain ⟨a1, a2, a3⟩ := lw_end h1 hm1 (o_K ho h hf) hp h2
    exact ⟨b, a1, fun z => by omega, a2, a3⟩
theorem q_v (h : cK ad g R T S M Rs Hs X ch st tm dn rs) (hm : mg am A F g) (ho : g o = some (lc f)) (hk : k_CT l D aC y mc ms ka g (lV (kO ad g (.inl none) R1 T1 S1 M1 Rs1 Hs1 X1 ch1 st1 tm1 dn1) cA cS)) (hp : pI S1 M1 Hs1 X1 ch1 st1 tm1 dn1 O1 N1 cp1 tv1 op1 nX1) (hM : ∀ g1, mg am A F g1 → k_CT l D aC yL 0 0 ma g1 (mO am g1 (.inl none) 0 R1 T1 S1 M1 Rs1 Hs1 O1 N1 cp1 st1 tv1 op1 nX1)) : k_E l D aC y mc ms ka g (pU l D aC ad am o yL ma) := by
  refine ⟨_, hk, ?_⟩
  rintro oc g1 (⟨⟨hv, hf, rs1, h1⟩, rfl⟩ | ⟨⟨hv, -⟩, -⟩ | ⟨⟨hv, -⟩, -⟩)
  · have hm1 := mg_K hm h hf
    refine ⟨0, by decide, rfl, ⟨A, F, hm1⟩, _, hM _ hm1, fun oc2 g2 h2 => ?_⟩
    obtain ⟨a1, a2, a3⟩ := lw_end h1 hm1 (o_K ho h hf) hp h2
    exact ⟨a1, a2⟩
  · cases hv
  · cases hv
theorem q_A (h : cK ad g R T S M Rs Hs X ch st tm dn rs) (hm : mg am A F g) (ho : g o = some (lc f)) (hc : 0 < cA ∧ cA < 3) (hk : k_CT l D aC y mc ms ka g (lV (kO ad g (.inr IA) R1 T1 S1 M1 Rs1 Hs1 X1 ch1 st1 tm1 dn1) cA cS)) (hp : pI S1 M1 Hs1 X1 ch1 st1 tm1 dn1 O1 N1 cp1 tv1 op1 nX1) (hM : ∀ g1, mg am A F g1 → k_CT l D aC yL 0 0 ma g1 (mO am g1 (.inl none) cA R1 T1 S1 M1 Rs1 Hs1 O1 N1 cp1 st1 tv1 op1 nX1)) : k_E l D aC y mc ms ka g (pU l D aC ad am o yL ma) := by
  refine ⟨_, hk, ?_⟩
  rintro oc g1 (⟨⟨hv, -⟩, -⟩ | ⟨⟨hv, hf, rs1, h1⟩, rfl⟩ | ⟨⟨hv, -⟩, -⟩)
  · cases hv
  · have hm1 := mg_K hm h hf
    refine ⟨cA, hc.2, rfl, ⟨A, F, hm1⟩, _, hM _ hm1, fun oc2 g2 h2 => ?_⟩
    obtain ⟨a1, a2, a3⟩ := lw_end h1 hm1 (o_K ho h hf) hp h2
    exact ⟨a1, a2⟩
  · exact absurd (Sum.inr.inj hv) (by decide)
theorem q_S (h : cK ad g R T S M Rs Hs X ch st tm dn rs) (hm : mg am A F g) (ho : g o = some (lc f)) (hc : 0 < cS ∧ cS < 3) (hk : k_CT l D aC y mc ms ka g (lV (kO ad g (.inr IS) R1 T1 S1 M1 Rs1 Hs1 X1 ch1 st1 tm1 dn1) cA cS)) (hp : pI S1 M1 Hs1 X1 ch1 st1 tm1 dn1 O1 N1 cp1 tv1 op1 nX1) (hM : ∀ g1, mg am A F g1 → k_CT l D aC yL 0 0 ma g1 (mO am g1 (.inl none) cS R1 T1 S1 M1 Rs1 Hs1 O1 N1 cp1 st1 tv1 op1 nX1)) : k_E l D aC y mc ms ka g (pU l D aC ad am o yL ma) := by
  refine ⟨_, hk, ?_⟩
  rintro oc g1 (⟨⟨hv, -⟩, -⟩ | ⟨⟨hv, -⟩, -⟩ | ⟨⟨hv, hf, rs1, h1⟩, rfl⟩)
  · cases hv
  · exact absurd (Sum.inr.inj hv) (by decide)
  · have hm1 := mg_K hm h hf
    refine ⟨cS, hc.2, rfl, ⟨A, F, hm1⟩, _, hM _ hm1, fun oc2 g2 h2 => ?_⟩
    obtain ⟨a1, a2, a3⟩ := lw_end h1 hm1 (o_K ho h hf) hp h2
    exact ⟨a1, a2⟩
end PRS1
