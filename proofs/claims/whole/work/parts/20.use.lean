/-! the walk, over this claim's own data -/
section KUSE
variable {l : Launch} {D : va_G} {aC : Nat → ClassId}
abbrev k_CT (l : Launch) (D : va_G) (aC : Nat → ClassId) : w_CT := w_CTm l k_RW D k_cl aC k_tyl k_mt
abbrev k_np (y : Nat) : Nat := (k_mt y).2.2.2.2.2.1
abbrev k_p (l : Launch) (D : va_G) (aC : Nat → ClassId) (hs : List w_Hd) (scr : Option (Nat × Nat × (Nat → Int32))) (ret : Option FieldType) (MC MS : Nat) (P : x_O → g_H → Prop) (tab : List w_R) (cuts : List Nat) (KP : w_K) : Nat → w_K :=
  w_p (k_CT l D aC) (fun y => (k_mt y).2.2.2.2.2.1) k_fty k_dfl k_tyl k_ex hs scr ret MC MS P tab cuts KP
abbrev k_T (l : Launch) (D : va_G) (aC : Nat → ClassId) (own : String) (cc : ByteArray) (nL fr lo : Nat) (ret : Option FieldType) (hs : List w_Hd) (init : Bool) (scr : Option (Nat × Nat × (Nat → Int32))) (MC MS : Nat) (g0 : g_H) (P : x_O → g_H → Prop) : w_K :=
  w_T l k_RW D k_cl aC k_tyl own cc nL fr lo ret hs init scr MC MS g0 P
def k_none : w_K := fun _ _ _ _ _ _ => False
theorem k_run {own : String} {cc : ByteArray} {nL fr lo : Nat} {init : Bool} {tab : List w_R} (htab : tab.all (w_okb k_RW k_cl k_tyl k_mt k_ex k_xcs own cc nL fr lo init) = true) {ret : Option FieldType} {MC MS : Nat} {g0 : g_H} {P : x_O → g_H → Prop} (cuts : List Nat) (KP : w_K)
    (hK : ∀ pc lv st g k n, KP pc lv st g k n → k_T l D aC own cc nL fr lo ret [] init none MC MS g0 P pc lv st g k n) (f : Nat) {pc : Nat} {lv : w_L} {st : List Value} {g : g_H} {k n : Nat} (h : k_p l D aC [] none ret MC MS P tab cuts KP f pc lv st g k n) :
    k_T l D aC own cc nL fr lo ret [] init none MC MS g0 P pc lv st g k n :=
  w_run k_ce k_we k_me (fun _ hh => by cases hh) htab cuts KP hK f pc lv st g k n h
/-- a method's contract, its loops given -/
theorem k_loop (hfl : l.flags = pinnedFlags ++ [noTraceFlag]) (y : Nat) {own : String} {cc : ByteArray} {nL fr lo : Nat} {init : Bool} {tab : List w_R} (htab : tab.all (w_okb k_RW k_cl k_tyl k_mt k_ex k_xcs own cc nL fr lo init) = true) (e1 : (k_mt y).1.cls = own) (e2 : (k_mt y).2.1 = cc) (e3 : (k_mt y).2.2.1 = nL) (e4 : (k_mt y).2.2.2.2.1 = []) (e5 : (k_mt y).2.2.2.2.2.2.1 = fr) (e6 : (k_mt y).2.2.2.2.2.2.2.1 = lo) (e7 : init = true → (k_mt y).1.name = "<init>")
    {MC MS : Nat} {P : x_O → g_H → Prop} {a : List Value} {g : g_H} (ha : (lg_sl a).length ≤ nL) (cuts : List Nat) (KP : w_K) (hK : ∀ pc lv st g1 k n, KP pc lv st g1 k n → k_T l D aC own cc nL fr lo (k_mt y).2.2.2.1 [] init none MC MS g P pc lv st g1 k n) (f : Nat)
    (h : k_p l D aC [] none (k_mt y).2.2.2.1 MC MS P tab cuts KP f 0 (lv_args 0 a) [] g 0 0) : k_CT l D aC y MC MS a g P :=
  w_meth (hs := []) hfl y (k_me y) e1 e2 e3 rfl e4 e5 e6 e7 ha (k_run htab cuts KP hK f h)
/-- a method without loops -/
theorem k_line (hfl : l.flags = pinnedFlags ++ [noTraceFlag]) (y : Nat) {own : String} {cc : ByteArray} {nL fr lo : Nat} {init : Bool} {tab : List w_R} (htab : tab.all (w_okb k_RW k_cl k_tyl k_mt k_ex k_xcs own cc nL fr lo init) = true) (e1 : (k_mt y).1.cls = own) (e2 : (k_mt y).2.1 = cc) (e3 : (k_mt y).2.2.1 = nL) (e4 : (k_mt y).2.2.2.2.1 = []) (e5 : (k_mt y).2.2.2.2.2.2.1 = fr) (e6 : (k_mt y).2.2.2.2.2.2.2.1 = lo) (e7 : init = true → (k_mt y).1.name = "<init>")
    {MC MS : Nat} {P : x_O → g_H → Prop} {a : List Value} {g : g_H} (ha : (lg_sl a).length ≤ nL) (f : Nat)
    (h : k_p l D aC [] none (k_mt y).2.2.2.1 MC MS P tab [] k_none f 0 (lv_args 0 a) [] g 0 0) : k_CT l D aC y MC MS a g P :=
  k_loop hfl y htab e1 e2 e3 e4 e5 e6 e7 ha [] k_none (fun _ _ _ _ _ _ h => h.elim) f h
end KUSE
section KTEST
variable {l : Launch} {D : va_G} {aC : Nat → ClassId}
theorem c_R_size (hfl : l.flags = pinnedFlags ++ [noTraceFlag]) {a arr : Nat} {x : Int32} {g : g_H} (ha : g a = some (.inr (2, [.ref arr, .int x]))) : k_CT l D aC n_R_size 0 0 [.ref a] g (fun oc g1 => oc = .inl (some (.int x)) ∧ g1 = g) := by
  refine k_line hfl n_R_size ok_R_size rfl rfl rfl rfl rfl rfl (fun h => by cases h) (Nat.le_of_ble_eq_true rfl) 10 ?_
  conv => whnf
  refine ⟨_, _, ha, rfl, ?_⟩
  conv => whnf
  exact ⟨⟨_, rfl, rfl⟩, ⟨rfl, rfl⟩, Nat.le_refl _, Nat.le_refl _⟩
end KTEST
