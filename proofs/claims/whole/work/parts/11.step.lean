/-! ONE INSTRUCTION: what has to hold so that the walk goes on (w_1), and that it goes on then (w_1_go) -/
section WONE
def w_cmp (c : ClassFile.Cond) (x y : Int32) : Prop := match c with
  | .eq => x = y
  | .ne => ¬ x = y
  | .lt => x.toInt < y.toInt
  | .ge => y.toInt ≤ x.toInt
  | .gt => y.toInt < x.toInt
  | .le => x.toInt ≤ y.toInt
/-- a method's number gives: its name, code, locals, answer, handlers, parameters (without the receiver), of its room frames and words, its kind (0 virtual, 1 static, 2 constructor), and the places of its words in the tables (code; instance or static; selects; initialized) -/
abbrev w_M : Type := MethodName × ByteArray × Nat × Option FieldType × List (Nat × Nat × Nat × Nat) × Nat × Nat × Nat × Nat × Nat × Nat × Nat × Nat
/-- an exception that is made and thrown: pool places of its class, its text, its constructor; whether ldc is wide; the text, the class; places of its words -/
abbrev w_X : Type := Nat × Nat × Nat × Bool × String × String × Nat × Nat
abbrev w_K : Type := Nat → w_L → List Value → g_H → Nat → Nat → Prop
abbrev w_CT : Type := Nat → Nat → Nat → List Value → g_H → (x_O → g_H → Prop) → Prop
/-- a handler: from, to, where, the pool place of its class, its class -/
abbrev w_Hd : Type := Nat × Nat × Nat × Nat × String
def w_hnd (hs : List w_Hd) (pc : Nat) (C : String) : Option Nat := match hs with
  | [] => none
  | h :: t => match Nat.ble h.1 pc, Nat.blt pc h.2.1, decide (h.2.2.2.2 = C) with
    | true, true, true => some h.2.2.1
    | _, _, _ => w_hnd t pc C
def w_end (hs : List w_Hd) (P : x_O → g_H → Prop) (MC MS : Nat) (N : w_K) (pc : Nat) (lv : w_L) (C : String) (g : g_H) (k n : Nat) : Prop := match hs with
  | [] => P (.inr C) g ∧ k ≤ MC ∧ n ≤ MS
  | h :: r => match w_hnd (h :: r) pc C with
    | none => False
    | some q => ∀ x : Nat, N q lv [.ref x] g k n
def w_call (CT : w_CT) (hs : List w_Hd) (P : x_O → g_H → Prop) (MC MS : Nat) (N : w_K) (pc : Nat) (lv : w_L) (g : g_H) (k n : Nat) (y : Nat) (a rest : List Value) : Prop :=
  (rest.map fun v => v.category).sum ≤ 8 ∧ ∃ (mc ms : Nat) (P1 : x_O → g_H → Prop), CT y mc ms a g P1 ∧ k + mc ≤ MC ∧ n + ms ≤ MS ∧
    (∀ (v : Option Value) (g1 : g_H), P1 (.inl v) g1 → N (pc + 3) lv (v.toList ++ rest) g1 (k + mc) (n + ms)) ∧
    ∀ (C : String) (g1 : g_H), P1 (.inr C) g1 → w_end hs P MC MS N pc lv C g1 (k + mc) (n + ms)
def w_sw (N : Nat → Prop) (x : Int) (j : Int) (ts : List Nat) : Prop := match ts with
  | [] => True
  | t :: r => (x = j → N t) ∧ w_sw N x (j + 1) r
def w_lk (N : Nat → Prop) (x : Int) (d : Nat) (ps : List (Int × Nat)) : Prop := match ps with
  | [] => N d
  | q :: r => (x = q.1 → N q.2) ∧ (¬ x = q.1 → w_lk N x d r)
def w_tg (pc : Nat) (o : Int) : Nat := ((pc : Int) + o).toNat
def w_1 (CT : w_CT) (np : Nat → Nat) (fty : Nat → Nat → FieldType) (dfl : Nat → List Value) (tyl : List FieldType) (ex : Nat → w_X) (hs : List w_Hd) (scr : Option (Nat × Nat × (Nat → Int32))) (ret : Option FieldType) (MC MS : Nat) (P : x_O → g_H → Prop) (N : w_K)
    (r : w_R) (lv : w_L) (st : List Value) (g : g_H) (k n : Nat) : Prop := match w_pure r.2.1 r.2.2.2.1 lv st with
  | some q => N (r.1 + r.2.2.1) q.1 q.2 g k n
  | none => match r.2.1, st with
    | .ldc _, st => N (r.1 + 2) lv (.int r.2.2.2.1 :: st) g k n
    | .ldc2_w _, st => N (r.1 + 3) lv (.long r.2.2.2.1.toInt64 :: st) g k n
    | .lcmp, .long y :: .long x :: st => N (r.1 + 1) lv (.int (lg_cmp x y) :: st) g k n
    | .goto _, st => N r.2.2.2.2.1 lv st g k n
    | .ifCond c _, .int x :: st => (w_cmp c x 0 → N r.2.2.2.2.1 lv st g k n) ∧ (¬ w_cmp c x 0 → N (r.1 + 3) lv st g k n)
    | .if_icmp c _, .int y :: .int x :: st => (w_cmp c x y → N r.2.2.2.2.1 lv st g k n) ∧ (¬ w_cmp c x y → N (r.1 + 3) lv st g k n)
    | .ifnull _, .null :: st => N r.2.2.2.2.1 lv st g k n
    | .ifnull _, .ref _ :: st => N (r.1 + 3) lv st g k n
    | .ifnonnull _, .null :: st => N (r.1 + 3) lv st g k n
    | .ifnonnull _, .ref _ :: st => N r.2.2.2.2.1 lv st g k n
    | .if_acmp .ne _, .ref y :: .ref x :: st => (x = y → N (r.1 + 3) lv st g k n) ∧ (¬ x = y → N r.2.2.2.2.1 lv st g k n)
    | .if_acmp .ne _, .null :: .null :: st => N (r.1 + 3) lv st g k n
    | .if_acmp .ne _, .ref _ :: .null :: st => N r.2.2.2.2.1 lv st g k n
    | .if_acmp .ne _, .null :: .ref _ :: st => N r.2.2.2.2.1 lv st g k n
    | .tableswitch d lo hi offs, .int x :: st => w_sw (fun t => N t lv st g k n) x.toInt lo (offs.toList.map (w_tg r.1)) ∧ ((x.toInt < lo ∨ hi < x.toInt) → N (w_tg r.1 d) lv st g k n)
    | .lookupswitch d ps, .int x :: st => w_lk (fun t => N t lv st g k n) x.toInt (w_tg r.1 d) (ps.toList.map (fun q => (q.1, w_tg r.1 q.2)))
    | .idiv, .int y :: .int x :: st => ¬ y = 0 ∧ N (r.1 + 1) lv (.int (x / y) :: st) g k n
    | .irem, .int y :: .int x :: st => ¬ y = 0 ∧ N (r.1 + 1) lv (.int (x - x / y * y) :: st) g k n
    | .getfield _, .ref a :: st => ∃ (fs : List Value) (v : Value), g a = some (.inr (r.2.2.2.2.1, fs)) ∧ fs[r.2.2.2.2.2.1]? = some v ∧ N (r.1 + 3) lv (v :: st) g k n
    | .putfield _, v :: .ref a :: st => ∃ (fs : List Value), g a = some (.inr (r.2.2.2.2.1, fs)) ∧ r.2.2.2.2.2.1 < fs.length ∧ narrow (fty r.2.2.2.2.1 r.2.2.2.2.2.1) v = v ∧ fits (fty r.2.2.2.2.1 r.2.2.2.2.2.1) v = true ∧
        N (r.1 + 3) lv st (g_up g a (.inr (r.2.2.2.2.1, fs.set r.2.2.2.2.2.1 v))) k n
    | .arraylength, .ref a :: st => (∃ (t : Nat) (x : vp_A), g a = some (.inl (t, x)) ∧ t < tyl.length ∧ N (r.1 + 1) lv (.int (nI x.1) :: st) g k n) ∨ ∃ (L : Nat) (xs : Nat → Int32), scr = some (a, L, xs) ∧ N (r.1 + 1) lv (.int (nI L) :: st) g k n
    | .baload, .int i :: .ref a :: st => ∃ (t m : Nat) (f : Nat → Int32) (j : Nat), g a = some (.inl (t, m, .inl f)) ∧ tyl[t]? = some .byte ∧ i = nI j ∧ j < m ∧ m < 2 ^ 31 ∧ N (r.1 + 1) lv (.int (f j) :: st) g k n
    | .iaload, .int i :: .ref a :: st => (∃ (t m : Nat) (f : Nat → Int32) (j : Nat), g a = some (.inl (t, m, .inl f)) ∧ tyl[t]? = some .int ∧ i = nI j ∧ j < m ∧ m < 2 ^ 31 ∧ N (r.1 + 1) lv (.int (f j) :: st) g k n) ∨
        ∃ (L : Nat) (xs : Nat → Int32) (j : Nat), scr = some (a, L, xs) ∧ i = nI j ∧ j < L ∧ L < 2 ^ 31 ∧ N (r.1 + 1) lv (.int (xs j) :: st) g k n
    | .laload, .int i :: .ref a :: st => ∃ (t m : Nat) (f : Nat → Int64) (j : Nat), g a = some (.inl (t, m, .inr (.inl f))) ∧ tyl[t]? = some .long ∧ i = nI j ∧ j < m ∧ m < 2 ^ 31 ∧ N (r.1 + 1) lv (.long (f j) :: st) g k n
    | .aaload, .int i :: .ref a :: st => ∃ (t m : Nat) (f : Nat → Option Nat) (j : Nat) (C : String), g a = some (.inl (t, m, .inr (.inr (.inr (.inr f))))) ∧ tyl[t]? = some (.object C) ∧ i = nI j ∧ j < m ∧ m < 2 ^ 31 ∧
        (f j = none → N (r.1 + 1) lv (.null :: st) g k n) ∧ ∀ b, f j = some b → N (r.1 + 1) lv (.ref b :: st) g k n
    | .bastore, .int x :: .int i :: .ref a :: st => ∃ (t m : Nat) (f : Nat → Int32) (j : Nat), g a = some (.inl (t, m, .inl f)) ∧ tyl[t]? = some .byte ∧ i = nI j ∧ j < m ∧ m < 2 ^ 31 ∧ N (r.1 + 1) lv st (g_up g a (.inl (t, m, .inl (upd f j x.toInt8.toInt32)))) k n
    | .iastore, .int x :: .int i :: .ref a :: st => ∃ (t m : Nat) (f : Nat → Int32) (j : Nat), g a = some (.inl (t, m, .inl f)) ∧ tyl[t]? = some .int ∧ i = nI j ∧ j < m ∧ m < 2 ^ 31 ∧ N (r.1 + 1) lv st (g_up g a (.inl (t, m, .inl (upd f j x)))) k n
    | .lastore, .long x :: .int i :: .ref a :: st => ∃ (t m : Nat) (f : Nat → Int64) (j : Nat), g a = some (.inl (t, m, .inr (.inl f))) ∧ tyl[t]? = some .long ∧ i = nI j ∧ j < m ∧ m < 2 ^ 31 ∧ N (r.1 + 1) lv st (g_up g a (.inl (t, m, .inr (.inl (vp_updL f j x))))) k n
    | .aastore, .ref v :: .int i :: .ref a :: st => ∃ (t m : Nat) (f : Nat → Option Nat) (j ci : Nat) (vs : List Value), g a = some (.inl (t, m, .inr (.inr (.inr (.inr f))))) ∧ g v = some (.inr (ci, vs)) ∧ r.2.2.2.2.1 = ci ∧ r.2.2.2.2.2.1 = t ∧ i = nI j ∧ j < m ∧ m < 2 ^ 31 ∧
        N (r.1 + 1) lv st (g_up g a (.inl (t, m, .inr (.inr (.inr (.inr (va_up f j (some v)))))))) k n
    | .aastore, .null :: .int i :: .ref a :: st => ∃ (t m : Nat) (f : Nat → Option Nat) (j : Nat) (C : String), g a = some (.inl (t, m, .inr (.inr (.inr (.inr f))))) ∧ tyl[t]? = some (.object C) ∧ i = nI j ∧ j < m ∧ m < 2 ^ 31 ∧
        N (r.1 + 1) lv st (g_up g a (.inl (t, m, .inr (.inr (.inr (.inr (va_up f j none))))))) k n
    | .newarray aty, .int x :: st => ∃ N' : Nat, x = nI N' ∧ N' < 2 ^ 20 ∧ k + 1 ≤ MC ∧ n + N' ≤ MS ∧ ∀ q : Nat, g q = none → N (r.1 + 2) lv (.ref q :: st) (g_up g q (.inl (r.2.2.2.2.1, N', match aty with | .long => .inr (.inl (fun _ => 0)) | _ => .inl (fun _ => 0)))) (k + 1) (n + N')
    | .anewarray _, .int x :: st => ∃ N' : Nat, x = nI N' ∧ N' < 2 ^ 20 ∧ k + 1 ≤ MC ∧ n + N' ≤ MS ∧ ∀ q : Nat, g q = none → N (r.1 + 3) lv (.ref q :: st) (g_up g q (.inl (r.2.2.2.2.1, N', .inr (.inr (.inr (.inr (fun _ => none))))))) (k + 1) (n + N')
    | .new _, st => match Nat.beq r.2.2.2.2.1 992 with
      | true => match hs with
        | [] => (st.map fun v => v.category).sum ≤ 8 ∧ P (.inr (ex r.2.2.2.2.2.1).2.2.2.2.2.1) g ∧ k + 1 ≤ MC ∧ n + 6 ≤ MS
        | _ :: _ => False
      | false => k + 1 ≤ MC ∧ n + (dfl r.2.2.2.2.1).length ≤ MS ∧ ∀ q : Nat, g q = none → N (r.1 + 3) lv (.ref q :: st) (g_up g q (.inr (r.2.2.2.2.1, dfl r.2.2.2.2.1))) (k + 1) (n + (dfl r.2.2.2.2.1).length)
    | .invokevirtual _, st => match Nat.beq r.2.2.2.2.1 993 with
      | true => match st with
        | .ref a :: rest => (rest.map fun v => v.category).sum ≤ 8 ∧ ∃ (t m : Nat) (f : Nat → Int32), g a = some (.inl (t, m, .inl f)) ∧ tyl[t]? = some .byte ∧ (∀ i, i < m → fits .byte (.int (f i)) = true) ∧ k + 1 ≤ MC ∧ n + m ≤ MS ∧ ∀ q : Nat, g q = none → N (r.1 + 3) lv (.ref q :: rest) (g_up g q (.inl (t, m, .inl f))) (k + 1) (n + m)
        | _ => False
      | false => match st.drop (np r.2.2.2.2.1) with
        | .ref b :: rest => (∃ fs : List Value, g b = some (.inr (r.2.2.2.2.2.1, fs))) ∧ w_call CT hs P MC MS N r.1 lv g k n r.2.2.2.2.1 (.ref b :: (st.take (np r.2.2.2.2.1)).reverse) rest
        | _ => False
    | .checkcast _, .ref a :: st => ∃ (t : Nat) (x : vp_A), g a = some (.inl (t, x)) ∧ tyl[t]? = some .byte ∧ N (r.1 + 3) lv (.ref a :: st) g k n
    | .invokespecial _, st => match Nat.beq r.2.2.2.2.1 990 with
      | true => match st with
        | .ref _ :: rest => (rest.map fun v => v.category).sum ≤ 8 ∧ N (r.1 + 3) lv rest g k n
        | _ => False
      | false => match st.drop (np r.2.2.2.2.1) with
        | .ref b :: rest => w_call CT hs P MC MS N r.1 lv g k n r.2.2.2.2.1 (.ref b :: (st.take (np r.2.2.2.2.1)).reverse) rest
        | _ => False
    | .invokestatic _, st => match Nat.beq r.2.2.2.2.1 991 with
      | true => match st with
        | .int z :: .int dp :: .ref b :: .int sp :: .ref a :: rest => (rest.map fun v => v.category).sum ≤ 8 ∧ ∃ (t n0 n1 sj dj zj : Nat), sp = nI sj ∧ dp = nI dj ∧ z = nI zj ∧ n0 < 2 ^ 31 ∧ n1 < 2 ^ 31 ∧ sj + zj ≤ n0 ∧ dj + zj ≤ n1 ∧
            ((∃ (f h : Nat → Int32), g a = some (.inl (t, n0, .inl f)) ∧ g b = some (.inl (t, n1, .inl h)) ∧ tyl[t]? = some .byte ∧ (∀ i, i < zj → fits .byte (.int (f (sj + i))) = true) ∧ N (r.1 + 3) lv rest (g_up g b (.inl (t, n1, .inl (va_cpy f h sj dj zj)))) k n) ∨
             ∃ (f h : Nat → Option Nat) (ci : Nat), g a = some (.inl (t, n0, .inr (.inr (.inr (.inr f))))) ∧ g b = some (.inl (t, n1, .inr (.inr (.inr (.inr h))))) ∧ 0 < t ∧ r.2.2.2.2.2.1 = t ∧ r.2.2.2.1 = nI ci ∧ ci < 1000 ∧ (∀ i, i < zj → ∀ y, f (sj + i) = some y → ∃ vs, g y = some (.inr (ci, vs))) ∧
               N (r.1 + 3) lv rest (g_up g b (.inl (t, n1, .inr (.inr (.inr (.inr (va_cpy f h sj dj zj))))))) k n)
        | _ => False
      | false => match Nat.ble (np r.2.2.2.2.1) st.length with
        | true => w_call CT hs P MC MS N r.1 lv g k n r.2.2.2.2.1 (st.take (np r.2.2.2.2.1)).reverse (st.drop (np r.2.2.2.2.1))
        | false => False
    | .ireturn, [.int v] => (∃ ty, ret = some ty ∧ narrow ty (.int v) = .int v) ∧ P (.inl (some (.int v))) g ∧ k ≤ MC ∧ n ≤ MS
    | .lreturn, [.long v] => ret = some .long ∧ P (.inl (some (.long v))) g ∧ k ≤ MC ∧ n ≤ MS
    | .areturn, [.ref v] => (∃ ty, ret = some ty ∧ ((∃ z, ty = .object z) ∨ ∃ z, ty = .array z)) ∧ P (.inl (some (.ref v))) g ∧ k ≤ MC ∧ n ≤ MS
    | .areturn, [.null] => (∃ ty, ret = some ty ∧ ((∃ z, ty = .object z) ∨ ∃ z, ty = .array z)) ∧ P (.inl (some .null)) g ∧ k ≤ MC ∧ n ≤ MS
    | .return_, [] => ret = none ∧ P (.inl none) g ∧ k ≤ MC ∧ n ≤ MS
    | _, _ => False
end WONE
