/-! THE SMALL MACHINE: a predicate transformer over resolved bytecode. A heap: (next reference, junk cells), shapes, ints, references, longs. References below 100 are special (the script, a static row, String constants). -/
abbrev aH : Type := (Nat × Nat) × (Nat → Nat × Nat) × (Nat → Nat → Int32) × (Nat → Nat → Option Nat) × (Nat → Nat → Int64)
/-- a call's end: a value or none; or the number of the class that was thrown -/
abbrev aR : Type := Option Value ⊕ Nat
/-- an instruction: its place in the bytes, itself, what its numbers stand for -/
abbrev aEnt : Type := Nat × Instr × List Nat
/-- a method: name, bytes, locals, answer, instructions, handlers (from, to, behind the handler's store, the store's local, class; all by index), the table itself -/
abbrev aMeth : Type := MethodName × ByteArray × Nat × Option FieldType × List aEnt × List (Nat × Nat × Nat × Nat × Nat) × List (Nat × Nat × Nat × Nat)
def a_n (h : aH) : Nat := h.1.1
def a_z (h : aH) : Nat := h.1.2
def a_sh (h : aH) : Nat → Nat × Nat := h.2.1
def a_i (h : aH) : Nat → Nat → Int32 := h.2.2.1
def a_r (h : aH) : Nat → Nat → Option Nat := h.2.2.2.1
def a_l (h : aH) : Nat → Nat → Int64 := h.2.2.2.2
def a_up2 {α : Type} (f : Nat → Nat → α) (c k : Nat) (x : α) : Nat → Nat → α := fun a j => if a = c then (if j = k then x else f a j) else f a j
def a_setI (h : aH) (c k : Nat) (x : Int32) : aH := (h.1, h.2.1, a_up2 h.2.2.1 c k x, h.2.2.2)
def a_setR (h : aH) (c k : Nat) (x : Option Nat) : aH := (h.1, h.2.1, h.2.2.1, a_up2 h.2.2.2.1 c k x, h.2.2.2.2)
def a_setL (h : aH) (c k : Nat) (x : Int64) : aH := (h.1, h.2.1, h.2.2.1, h.2.2.2.1, a_up2 h.2.2.2.2 c k x)
/-- one row of ints laid anew -/
def a_row (h : aH) (c : Nat) (f : Nat → Int32) : aH := (h.1, h.2.1, va_up h.2.2.1 c f, h.2.2.2)
/-- a fresh cell of a shape, all of it 0 -/
def a_new (h : aH) (sh : Nat × Nat) : aH := ((h.1.1 + 1, h.1.2), va_up h.2.1 h.1.1 sh, va_up h.2.2.1 h.1.1 (fun _ => 0), va_up h.2.2.2.1 h.1.1 (fun _ => none), va_up h.2.2.2.2 h.1.1 (fun _ => 0))
def a_junk (h : aH) : aH := ((h.1.1, h.1.2 + 1), h.2)
def a_rv (r : Option Nat) : Value := match r with
  | some a => .ref a
  | none => .null
/-- how long an instruction is (but switches) -/
def a_len : Instr → Nat
  | .bipush _ => 2 | .ldc _ => 2 | .iload _ => 2 | .lload _ => 2 | .aload _ => 2 | .istore _ => 2 | .astore _ => 2 | .newarray _ => 2
  | .sipush _ => 3 | .ldc_w _ => 3 | .ldc2_w _ => 3 | .iinc _ _ => 3 | .ifCond _ _ => 3 | .if_icmp _ _ => 3 | .goto _ => 3 | .getfield _ => 3 | .putfield _ => 3 | .getstatic _ => 3
  | .new _ => 3 | .anewarray _ => 3 | .invokevirtual _ => 3 | .invokespecial _ => 3 | .invokestatic _ => 3
  | _ => 1
/-- instructions of the stack alone -/
def a_pure (ins : Instr) (rs : List Nat) (S : List Value) : Option (List Value) :=
  match ins with
  | .iconst n => some (.int (Int32.ofInt n) :: S)
  | .bipush n => some (.int (Int8.ofInt n).toInt32 :: S)
  | .sipush n => some (.int (Int16.ofInt n).toInt32 :: S)
  | .lconst n => some (.long (Int64.ofNat (n : Nat)) :: S)
  | .ldc _ => match rs with | [0, v] => some (.int (Int32.ofNat v) :: S) | [1, j] => some (.ref j :: S) | _ => none
  | .ldc_w _ => match rs with | [0, v] => some (.int (Int32.ofNat v) :: S) | [1, j] => some (.ref j :: S) | _ => none
  | .ldc2_w _ => match rs with | [v] => some (.long (Int64.ofNat v) :: S) | _ => none
  | .iadd => match S with | .int y :: .int x :: S' => some (.int (x + y) :: S') | _ => none
  | .isub => match S with | .int y :: .int x :: S' => some (.int (x - y) :: S') | _ => none
  | .imul => match S with | .int y :: .int x :: S' => some (.int (x * y) :: S') | _ => none
  | .iand => match S with | .int y :: .int x :: S' => some (.int (x &&& y) :: S') | _ => none
  | .ior => match S with | .int y :: .int x :: S' => some (.int (x ||| y) :: S') | _ => none
  | .ixor => match S with | .int y :: .int x :: S' => some (.int (x ^^^ y) :: S') | _ => none
  | .ishl => match S with | .int y :: .int x :: S' => some (.int (x <<< (y &&& 31)) :: S') | _ => none
  | .ishr => match S with | .int y :: .int x :: S' => some (.int (x >>> (y &&& 31)) :: S') | _ => none
  | .iushr => match S with | .int y :: .int x :: S' => some (.int (x.toUInt32 >>> (y.toUInt32 &&& Int32.toUInt32 31)).toInt32 :: S') | _ => none
  | .ineg => match S with | .int x :: S' => some (.int (-x) :: S') | _ => none
  | .i2l => match S with | .int x :: S' => some (.long x.toInt64 :: S') | _ => none
  | .i2b => match S with | .int x :: S' => some (.int x.toInt8.toInt32 :: S') | _ => none
  | .i2c => match S with | .int x :: S' => some (.int (x.toUInt32 % 65536).toInt32 :: S') | _ => none
  | .lcmp => match S with | .long y :: .long x :: S' => some (.int (lg_cmp x y) :: S') | _ => none
  | .dup => match S with | .int x :: S' => some (.int x :: .int x :: S') | .ref x :: S' => some (.ref x :: .ref x :: S') | _ => none
  | .dup_x1 => match S with | .int x :: .ref y :: S' => some (.int x :: .ref y :: .int x :: S') | _ => none
  | .dup_x2 => match S with | .int x :: .int y :: .ref z :: S' => some (.int x :: .int y :: .ref z :: .int x :: S') | _ => none
  | .dup2 => match S with | .int x :: .ref y :: S' => some (.int x :: .ref y :: .int x :: .ref y :: S') | _ => none
  | .pop => match S with | .int _ :: S' => some S' | .ref _ :: S' => some S' | _ => none
  | _ => none
/-- may the local i be stored -/
def a_st (L : List Value) (i : Nat) : Bool := decide (i < L.length) && (match i with
  | 0 => true
  | j + 1 => match L[j]? with | some v => v.category == 1 | none => true)
/-- locals -/
def a_loc (ins : Instr) (L S : List Value) : Option (List Value × List Value) :=
  match ins with
  | .iload i => match L[i]? with | some (.int x) => some (L, .int x :: S) | _ => none
  | .iload_n k => match L[(k : Nat)]? with | some (.int x) => some (L, .int x :: S) | _ => none
  | .lload i => match L[i]? with | some (.long x) => some (L, .long x :: S) | _ => none
  | .lload_n k => match L[(k : Nat)]? with | some (.long x) => some (L, .long x :: S) | _ => none
  | .aload i => match L[i]? with | some (.ref x) => some (L, .ref x :: S) | _ => none
  | .aload_n k => match L[(k : Nat)]? with | some (.ref x) => some (L, .ref x :: S) | _ => none
  | .istore i => match S with | .int x :: S' => (match a_st L i with | true => some (L.set i (.int x), S') | false => none) | _ => none
  | .istore_n k => match S with | .int x :: S' => (match a_st L (k : Nat) with | true => some (L.set (k : Nat) (.int x), S') | false => none) | _ => none
  | .astore i => match S with | .ref x :: S' => (match a_st L i with | true => some (L.set i (.ref x), S') | false => none) | _ => none
  | .astore_n k => match S with | .ref x :: S' => (match a_st L (k : Nat) with | true => some (L.set (k : Nat) (.ref x), S') | false => none) | _ => none
  | .iinc i n => match L[i]? with | some (.int x) => (match a_st L i with | true => some (L.set i (.int (x + Int32.ofInt n)), S) | false => none) | _ => none
  | _ => none
/-- branches: when it goes -/
def a_br (ins : Instr) (S : List Value) : Option (Prop × List Value) :=
  match ins with
  | .ifCond .eq _ => match S with | .int x :: S' => some (x = 0, S') | _ => none
  | .ifCond .ne _ => match S with | .int x :: S' => some (¬ x = 0, S') | _ => none
  | .ifCond .lt _ => match S with | .int x :: S' => some (x < 0, S') | _ => none
  | .ifCond .ge _ => match S with | .int x :: S' => some (0 ≤ x, S') | _ => none
  | .ifCond .gt _ => match S with | .int x :: S' => some (0 < x, S') | _ => none
  | .ifCond .le _ => match S with | .int x :: S' => some (x ≤ 0, S') | _ => none
  | .if_icmp .eq _ => match S with | .int y :: .int x :: S' => some (x = y, S') | _ => none
  | .if_icmp .ne _ => match S with | .int y :: .int x :: S' => some (¬ x = y, S') | _ => none
  | .if_icmp .lt _ => match S with | .int y :: .int x :: S' => some (x < y, S') | _ => none
  | .if_icmp .ge _ => match S with | .int y :: .int x :: S' => some (y ≤ x, S') | _ => none
  | .if_icmp .gt _ => match S with | .int y :: .int x :: S' => some (y < x, S') | _ => none
  | .if_icmp .le _ => match S with | .int y :: .int x :: S' => some (x ≤ y, S') | _ => none
  | _ => none
/-- the kind of a field: 0 int, 1 boolean, 2 a reference -/
abbrev aF : Type := Nat → Nat → Nat
def a_isI (k : Nat) : Bool := k == 1 || k == 5 || k == 6
def a_isB (k : Nat) : Bool := k == 2 || k == 8
def a_isL (k : Nat) : Bool := k == 1 || k == 2 || k == 3 || k == 4 || k == 5 || k == 8
def a_max (x y : Int32) : Int32 := if x < y then y else x
def a_min (x y : Int32) : Int32 := if y < x then y else x
def a_abs (x : Int32) : Int32 := if 0 ≤ x then x else 0 - x
/-- the heap: what must hold, the stack and the heap behind it -/
def a_hp (ft : aF) (ins : Instr) (rs : List Nat) (S : List Value) (h : aH) : Option (Prop × List Value × aH) :=
  match ins with
  | .idiv => match S with | .int y :: .int x :: S' => some (¬ y = 0, .int (x / y) :: S', h) | _ => none
  | .irem => match S with | .int y :: .int x :: S' => some (¬ y = 0, .int (x - x / y * y) :: S', h) | _ => none
  | .getfield _ => match rs, S with
    | [ci, f], .ref a :: S' => match ft ci f with
      | 2 => some ((a_sh h a).1 = 10 + ci, a_rv (a_r h a f) :: S', h)
      | _ => some ((a_sh h a).1 = 10 + ci, .int (a_i h a f) :: S', h)
    | _, _ => none
  | .putfield _ => match rs, S with
    | [ci, f], .int x :: .ref a :: S' => match ft ci f with
      | 0 => some ((a_sh h a).1 = 10 + ci, S', a_setI h a f x)
      | 1 => some ((a_sh h a).1 = 10 + ci ∧ (x = 0 ∨ x = 1), S', a_setI h a f x)
      | _ => none
    | [ci, f], .ref x :: .ref a :: S' => match ft ci f with
      | 2 => some ((a_sh h a).1 = 10 + ci, S', a_setR h a f (some x))
      | _ => none
    | _, _ => none
  | .getstatic _ => match rs with | [1] => some (True, .ref 1 :: S, h) | [2] => some (True, .int 1 :: S, h) | [3] => some (True, a_rv (a_r h 2 0) :: S, h) | _ => none
  | .iaload => match S with | .int i :: .ref a :: S' => some (a_isI (a_sh h a).1 = true ∧ vp_in i (a_sh h a).2, .int (a_i h a i.toNatClampNeg) :: S', h) | _ => none
  | .iastore => match S with | .int x :: .int i :: .ref a :: S' => some ((a_sh h a).1 = 1 ∧ vp_in i (a_sh h a).2, S', a_setI h a i.toNatClampNeg x) | _ => none
  | .baload => match S with | .int i :: .ref a :: S' => some (a_isB (a_sh h a).1 = true ∧ vp_in i (a_sh h a).2, .int (a_i h a i.toNatClampNeg) :: S', h) | _ => none
  | .bastore => match S with | .int x :: .int i :: .ref a :: S' => some ((a_sh h a).1 = 2 ∧ vp_in i (a_sh h a).2, S', a_setI h a i.toNatClampNeg x.toInt8.toInt32) | _ => none
  | .laload => match S with | .int i :: .ref a :: S' => some ((a_sh h a).1 = 3 ∧ vp_in i (a_sh h a).2, .long (a_l h a i.toNatClampNeg) :: S', h) | _ => none
  | .lastore => match S with | .long x :: .int i :: .ref a :: S' => some ((a_sh h a).1 = 3 ∧ vp_in i (a_sh h a).2, S', a_setL h a i.toNatClampNeg x) | _ => none
  | .aaload => match S with | .int i :: .ref a :: S' => some ((a_sh h a).1 = 4 ∧ vp_in i (a_sh h a).2, a_rv (a_r h a i.toNatClampNeg) :: S', h) | _ => none
  | .aastore => match S with | .ref x :: .int i :: .ref a :: S' => some ((a_sh h a).1 = 4 ∧ vp_in i (a_sh h a).2 ∧ (a_sh h x).1 = 22, S', a_setR h a i.toNatClampNeg (some x)) | _ => none
  | .arraylength => match S with | .ref a :: S' => some (a_isL (a_sh h a).1 = true, .int (Int32.ofNat (a_sh h a).2) :: S', h) | _ => none
  | .invokestatic _ => match rs, S with
    | [1000], .int n :: .int dp :: .ref d :: .int sp :: .ref s :: S' => if (S'.map Value.category).sum ≤ 8 then some (((a_sh h s).1 = 1 ∧ (a_sh h d).1 = 1) ∧ (¬ sp < 0 ∧ ¬ dp < 0 ∧ ¬ n < 0) ∧ sp.toNatClampNeg + n.toNatClampNeg ≤ (a_sh h s).2 ∧ dp.toNatClampNeg + n.toNatClampNeg ≤ (a_sh h d).2, S', a_row h d (va_cpy (a_i h s) (a_i h d) sp.toNatClampNeg dp.toNatClampNeg n.toNatClampNeg)) else none
    | [1004], .int y :: .int x :: S' => if (S'.map Value.category).sum ≤ 8 then some (True, .int (a_max x y) :: S', h) else none
    | [1005], .int y :: .int x :: S' => if (S'.map Value.category).sum ≤ 8 then some (True, .int (a_min x y) :: S', h) else none
    | [1006], .int x :: S' => if (S'.map Value.category).sum ≤ 8 then some (True, .int (a_abs x) :: S', h) else none
    | _, _ => none
  | .invokespecial _ => match rs, S with
    | [1003], .ref _ :: S' => if (S'.map Value.category).sum ≤ 8 then some (True, S', h) else none
    | _, _ => none
  | _ => none
/-- what is made: its shape, the stack below it -/
def a_mk (nf : Nat → Nat) (ins : Instr) (rs : List Nat) (S : List Value) : Option (Prop × Nat × (Nat × Nat) × List Value) :=
  match ins with
  | .new _ => match rs with | [ci] => some (True, nf ci, (10 + ci, 0), S) | _ => none
  | .newarray .int => match S with | .int n :: S' => some (¬ n < 0 ∧ n.toNatClampNeg ≤ 100000, n.toNatClampNeg, (1, n.toNatClampNeg), S') | _ => none
  | .newarray .byte => match S with | .int n :: S' => some (¬ n < 0 ∧ n.toNatClampNeg ≤ 100000, n.toNatClampNeg, (2, n.toNatClampNeg), S') | _ => none
  | .newarray .long => match S with | .int n :: S' => some (¬ n < 0 ∧ n.toNatClampNeg ≤ 100000, n.toNatClampNeg, (3, n.toNatClampNeg), S') | _ => none
  | .anewarray _ => match S with | .int n :: S' => some (¬ n < 0 ∧ n.toNatClampNeg ≤ 100000, n.toNatClampNeg, (4, n.toNatClampNeg), S') | _ => none
  | _ => none
/-- a switch: the number, the cases, else -/
def a_sw (ins : Instr) (rs : List Nat) (S : List Value) : Option (Int32 × List (Int32 × Nat) × Nat × List Value) :=
  match ins, S, rs with
  | .tableswitch _ lo _ _, .int x :: S', d :: ts => some (x, ((List.range ts.length).zip ts).map (fun q => (Int32.ofInt (lo + (q.1 : Int)), q.2)), d, S')
  | .lookupswitch _ ps, .int x :: S', d :: ts => some (x, (ps.toList.zip ts).map (fun q => (Int32.ofInt q.1.1, q.2)), d, S')
  | _, _, _ => none
/-- a call of a method of the program: what must hold, which, what it is given, the stack below, whether it may throw -/
def a_call (ins : Instr) (rs : List Nat) (S : List Value) (h : aH) : Option (Prop × Nat × List Value × List Value × Bool) :=
  match ins, rs with
  | .invokevirtual _, [k, n, ci] => if n ≤ S.length ∧ ((S.drop n).map Value.category).sum ≤ 8 then (match (S.take n).reverse with
      | .ref a :: as => some ((a_sh h a).1 = 10 + ci, k, .ref a :: as, S.drop n, true)
      | _ => none) else none
  | .invokespecial _, [k, n, _] => if n ≤ S.length ∧ ((S.drop n).map Value.category).sum ≤ 8 then (match (S.take n).reverse with
      | .ref a :: as => some (True, k, .ref a :: as, S.drop n, false)
      | _ => none) else none
  | .invokestatic _, [k, n, _] => if n ≤ S.length ∧ ((S.drop n).map Value.category).sum ≤ 8 then some (True, k, (S.take n).reverse, S.drop n, true) else none
  | _, _ => none
/-- an end: what must hold of the answer -/
def a_ret (ret : Option FieldType) (ins : Instr) (S : List Value) : Option (Prop × Option Value) :=
  match ins, S with
  | .ireturn, [.int x] => (match ret with | some .int => some (True, some (.int x)) | some .boolean => some (x = 0 ∨ x = 1, some (.int x)) | some .char => some ((x.toUInt32 % 65536).toInt32 = x, some (.int x)) | some .byte => some (x.toInt8.toInt32 = x, some (.int x)) | _ => none)
  | .areturn, [.ref a] => (match ret with | some (.object _) => some (True, some (.ref a)) | _ => none)
  | .return_, [] => (match ret with | none => some (True, none) | _ => none)
  | _, _ => none
/-- 'throw new E("text")', at its 'new' -/
def a_thr (ins : Instr) (rs : List Nat) (S : List Value) : Option Nat :=
  match ins, rs, S with
  | .new _, [ci, 77], [] => some ci
  | _, _, _ => none
/-- the handler that takes a class at an index -/
def a_hd : List (Nat × Nat × Nat × Nat × Nat) → Nat → Nat → Option (Nat × Nat)
  | [], _, _ => none
  | (lo, hi, t, x, c) :: r, i, E => if lo ≤ i ∧ i < hi then (if c = E then some (t, x) else a_hd r i E) else a_hd r i E
abbrev aQ : Type := aR → aH → Prop
/-- calls: which method, arguments, heap, cells and slots that it may make, what holds behind it -/
abbrev aC : Type := Nat → List Value → aH → Nat → Nat → aQ → Prop
def wpL (ft : aF) (nf : Nat → Nat) (C : aC) (ret : Option FieldType) (P : List aEnt) (hs : List (Nat × Nat × Nat × Nat × Nat)) : Nat → Nat → List Value → List Value → aH → Nat → Nat → aQ → Prop
  | 0, _, _, _, _, _, _, _ => False
  | n + 1, i, L, S, h, bc, bs, Q =>
    match P[i]? with
    | none => False
    | some (_, ins, rs) =>
      match a_pure ins rs S with
      | some S' => wpL ft nf C ret P hs n (i + 1) L S' h bc bs Q
      | none =>
      match a_loc ins L S with
      | some (L', S') => wpL ft nf C ret P hs n (i + 1) L' S' h bc bs Q
      | none =>
      match a_hp ft ins rs S h with
      | some (c, S', h') => c ∧ wpL ft nf C ret P hs n (i + 1) L S' h' bc bs Q
      | none =>
      match a_br ins S with
      | some (c, S') => (c → wpL ft nf C ret P hs n (rs.headD 0) L S' h bc bs Q) ∧ (¬ c → wpL ft nf C ret P hs n (i + 1) L S' h bc bs Q)
      | none =>
      match ins with
      | .goto _ => wpL ft nf C ret P hs n (rs.headD 0) L S h bc bs Q
      | _ =>
      match a_call ins rs S h with
      | some (c, k, as, S', th) => c ∧ ∃ dc ds bc' bs', bc = bc' + dc ∧ bs = bs' + ds ∧ C k as h dc ds (fun r h' => (a_z h' = 0 → a_z h = 0 ∧ a_n h + dc ≤ a_n h') ∧ match r with
          | .inl v => wpL ft nf C ret P hs n (i + 1) L (v.toList ++ S') h' bc' bs' Q
          | .inr E => th = true ∧ match a_hd hs i E with
            | some (t, x) => a_st L x = true ∧ wpL ft nf C ret P hs n t (L.set x .null) [] h' bc' bs' Q
            | none => hs = [] ∧ Q (.inr E) h')
      | none =>
      match a_ret ret ins S with
      | some (c, v) => c ∧ Q (.inl v) h
      | none =>
      match a_sw ins rs S with
      | some (x, cs, d, S') => (∀ q ∈ cs, x = q.1 → wpL ft nf C ret P hs n q.2 L S' h bc bs Q) ∧ ((∀ q ∈ cs, ¬ x = q.1) → wpL ft nf C ret P hs n d L S' h bc bs Q)
      | none =>
      match a_thr ins rs S with
      | some E => (∃ bc' bs', bc = bc' + 1 ∧ bs = bs' + 6) ∧ Q (.inr E) (a_junk h)
      | none =>
      match a_mk nf ins rs S with
      | some (c, sl, sh, S') => c ∧ a_z h = 0 ∧ ∃ bc' bs', bc = bc' + 1 ∧ bs = bs' + sl ∧ wpL ft nf C ret P hs n (i + 1) L (.ref (a_n h) :: S') (a_new h sh) bc' bs' Q
      | none => False
/-- the locals with which a method begins -/
def a_ent : List Value → List Value
  | [] => []
  | v :: vs => if v.category = 2 then v :: .null :: a_ent vs else v :: a_ent vs
/-- a method, at most d calls deep -/
def wpM (ft : aF) (nf : Nat → Nat) (pr : Nat → Option aMeth) : Nat → aC
  | 0 => fun _ _ _ _ _ _ => False
  | d + 1 => fun k as h bc bs Q => match pr k with
    | none => False
    | some (_, _, nL, ret, P, hs, _) => (a_ent as).length ≤ nL ∧ ∃ n, wpL ft nf (wpM ft nf pr d) ret P hs n 0 (a_ent as ++ List.replicate (nL - (a_ent as).length) .null) [] h bc bs Q
