set_option maxHeartbeats 400000
/-! THE CONSTRUCTORS, RUN ON DATA: shapes, ints written, references written -/
abbrev CH : Type := List (Nat × Nat) × List (Nat × Nat × Int32) × List (Nat × Nat × Nat)
def rdI : List (Nat × Nat × Int32) → Nat → Nat → Int32 → Int32
  | [], _, _, b => b
  | q :: r, a, j, b => if a = q.1 then (if j = q.2.1 then q.2.2 else rdI r a j b) else rdI r a j b
def rdR : List (Nat × Nat × Nat) → Nat → Nat → Option Nat → Option Nat
  | [], _, _, b => b
  | q :: r, a, j, b => if a = q.1 then (if j = q.2.1 then some q.2.2 else rdR r a j b) else rdR r a j b
def cSh (c : CH) (a : Nat) : Nat × Nat := c.1.getD (a - 100) (0, 0)
def ab (L : Nat) (xs : Nat → Int32) (r0 : Option Nat) (c : CH) : aH := ((100 + c.1.length, 0), fun a => if a < 100 then sSx L a else c.1.getD (a - 100) (0, 0), fun a j => rdI c.2.1 a j (sIx xs a j), fun a j => rdR c.2.2 a j (sRx r0 a j), fun _ _ => 0)
def gdC (c : CH) : Prop := (∀ q ∈ c.2.1, 100 ≤ q.1 ∧ q.1 < 100 + c.1.length) ∧ ∀ q ∈ c.2.2, 100 ≤ q.1 ∧ q.1 < 100 + c.1.length
theorem rdI_no {w : List (Nat × Nat × Int32)} {a j : Nat} {b : Int32} : (∀ q ∈ w, q.1 ≠ a) → rdI w a j b = b := by
  induction w with
  | nil => intro _; rfl
  | cons q r ih =>
    intro h
    show (if a = q.1 then _ else rdI r a j b) = b
    rw [if_neg (fun e => h q (List.mem_cons_self) e.symm)]
    exact ih (fun q hq => h q (List.mem_cons_of_mem _ hq))
theorem rdR_no {w : List (Nat × Nat × Nat)} {a j : Nat} {b : Option Nat} : (∀ q ∈ w, q.1 ≠ a) → rdR w a j b = b := by
  induction w with
  | nil => intro _; rfl
  | cons q r ih =>
    intro h
    show (if a = q.1 then _ else rdR r a j b) = b
    rw [if_neg (fun e => h q (List.mem_cons_self) e.symm)]
    exact ih (fun q hq => h q (List.mem_cons_of_mem _ hq))
theorem sI_hi {xs : Nat → Int32} {a j : Nat} (h : 100 ≤ a) : sIx xs a j = 0 := by
  unfold sIx
  rw [if_neg (by omega), if_neg (by omega), if_neg (by omega)]
theorem sR_hi {r0 : Option Nat} {a j : Nat} (h : 100 ≤ a) : sRx r0 a j = none := by
  unfold sRx
  rw [if_neg (by omega), if_neg (by omega)]
section
variable {L : Nat} {xs : Nat → Int32} {r0 : Option Nat} {c : CH}
theorem ab_sh {a : Nat} (h : 100 ≤ a) : a_sh (ab L xs r0 c) a = cSh c a := if_neg (by omega)
theorem ab_i {a j : Nat} (h : 100 ≤ a) : a_i (ab L xs r0 c) a j = rdI c.2.1 a j 0 := by
  show rdI c.2.1 a j (sIx xs a j) = _
  rw [sI_hi h]
theorem ab_r {a j : Nat} (h : 100 ≤ a) : a_r (ab L xs r0 c) a j = rdR c.2.2 a j none := by
  show rdR c.2.2 a j (sRx r0 a j) = _
  rw [sR_hi h]
theorem ab_new {sh : Nat × Nat} (g : gdC c) : a_new (ab L xs r0 c) sh = ab L xs r0 (c.1 ++ [sh], c.2.1, c.2.2) := by
  have e1 : (100 + c.1.length + 1, 0) = (100 + (c.1 ++ [sh]).length, 0) := by rw [List.length_append]; rfl
  have e2 : va_up (fun a => if a < 100 then sSx L a else c.1.getD (a - 100) (0, 0)) (100 + c.1.length) sh = (fun a => if a < 100 then sSx L a else (c.1 ++ [sh]).getD (a - 100) (0, 0)) := by
    funext a
    unfold va_up
    by_cases e : a = 100 + c.1.length
    · subst e
      rw [if_pos rfl, if_neg (by omega), show 100 + c.1.length - 100 = c.1.length by omega, List.getD_eq_getElem?_getD, List.getElem?_append_right (Nat.le_refl _), Nat.sub_self]
      rfl
    · rw [if_neg e]
      show (if a < 100 then sSx L a else c.1.getD (a - 100) (0, 0)) = _
      by_cases q : a < 100
      · rw [if_pos q, if_pos q]
      · rw [if_neg q, if_neg q, List.getD_eq_getElem?_getD, List.getD_eq_getElem?_getD]
        by_cases y : a - 100 < c.1.length
        · rw [List.getElem?_append_left y]
        · rw [List.getElem?_eq_none (by omega), List.getElem?_eq_none (by rw [List.length_append]; show c.1.length + 1 ≤ _; omega)]
  have e3 : va_up (fun a j => rdI c.2.1 a j (sIx xs a j)) (100 + c.1.length) (fun _ => 0) = (fun a j => rdI c.2.1 a j (sIx xs a j)) := by
    funext a
    unfold va_up
    by_cases e : a = 100 + c.1.length
    · rw [if_pos e]
      funext j
      rw [rdI_no (fun q hq => by have := (g.1 q hq).2; omega), sI_hi (by omega)]
    · rw [if_neg e]
  have e4 : va_up (fun a j => rdR c.2.2 a j (sRx r0 a j)) (100 + c.1.length) (fun _ => none) = (fun a j => rdR c.2.2 a j (sRx r0 a j)) := by
    funext a
    unfold va_up
    by_cases e : a = 100 + c.1.length
    · rw [if_pos e]
      funext j
      rw [rdR_no (fun q hq => by have := (g.2 q hq).2; omega), sR_hi (by omega)]
    · rw [if_neg e]
  have e5 : va_up (fun (_ _ : Nat) => (0 : Int64)) (100 + c.1.length) (fun _ => 0) = (fun _ _ => 0) := by
    funext a
    unfold va_up
    split <;> rfl
  show ((100 + c.1.length + 1, 0), va_up (fun a => if a < 100 then sSx L a else c.1.getD (a - 100) (0, 0)) (100 + c.1.length) sh, va_up (fun a j => rdI c.2.1 a j (sIx xs a j)) (100 + c.1.length) (fun _ => 0), va_up (fun a j => rdR c.2.2 a j (sRx r0 a j)) (100 + c.1.length) (fun _ => none), va_up (fun (_ _ : Nat) => (0 : Int64)) (100 + c.1.length) (fun _ => 0)) = _
  rw [e1, e2, e3, e4, e5]
  rfl
theorem gd_new {sh : Nat × Nat} (g : gdC c) : gdC (c.1 ++ [sh], c.2.1, c.2.2) := by
  have e : (c.1 ++ [sh]).length = c.1.length + 1 := List.length_append
  refine ⟨fun q hq => ?_, fun q hq => ?_⟩
  · have := g.1 q hq
    show 100 ≤ q.1 ∧ q.1 < 100 + (c.1 ++ [sh]).length
    omega
  · have := g.2 q hq
    show 100 ≤ q.1 ∧ q.1 < 100 + (c.1 ++ [sh]).length
    omega
theorem gd_i {a k : Nat} {x : Int32} (g : gdC c) (h1 : 100 ≤ a) (h2 : a < 100 + c.1.length) : gdC (c.1, (a, k, x) :: c.2.1, c.2.2) :=
  ⟨fun q hq => (List.mem_cons.mp hq).elim (fun e => by rw [e]; exact ⟨h1, h2⟩) (g.1 q), g.2⟩
theorem gdr_C {a k x : Nat} (g : gdC c) (h1 : 100 ≤ a) (h2 : a < 100 + c.1.length) : gdC (c.1, c.2.1, (a, k, x) :: c.2.2) :=
  ⟨g.1, fun q hq => (List.mem_cons.mp hq).elim (fun e => by rw [e]; exact ⟨h1, h2⟩) (g.2 q)⟩
/-- a row copied -/
def cpC (c : CH) (s sp d dp : Nat) : Nat → List (Nat × Nat × Int32)
  | 0 => c.2.1
  | n + 1 => (d, dp + n, rdI c.2.1 s (sp + n) 0) :: cpC c s sp d dp n
theorem cp_rd {s sp d dp a j : Nat} {b : Int32} : ∀ n, rdI (cpC c s sp d dp n) a j b = if a = d then (if dp ≤ j ∧ j < dp + n then rdI c.2.1 s (sp + (j - dp)) 0 else rdI c.2.1 a j b) else rdI c.2.1 a j b := by
  intro n
  induction n with
  | zero =>
    show rdI c.2.1 a j b = _
    split
    · rw [if_neg (by omega)]
    · rfl
  | succ n ih =>
    show (if a = d then (if j = dp + n then rdI c.2.1 s (sp + n) 0 else rdI (cpC c s sp d dp n) a j b) else rdI (cpC c s sp d dp n) a j b) = _
    rw [ih]
    by_cases e : a = d
    · rw [if_pos e, if_pos e, if_pos e]
      by_cases y : j = dp + n
      · rw [if_pos y, if_pos (by omega), show j - dp = n by omega]
      · rw [if_neg y]
        by_cases z : dp ≤ j ∧ j < dp + n
        · rw [if_pos z, if_pos (by omega)]
        · rw [if_neg z, if_neg (by omega)]
    · rw [if_neg e, if_neg e, if_neg e]
theorem gd_cp {s sp d dp : Nat} (g : gdC c) (h1 : 100 ≤ d) (h2 : d < 100 + c.1.length) : ∀ n, gdC (c.1, cpC c s sp d dp n, c.2.2) := by
  intro n
  induction n with
  | zero => exact g
  | succ n ih => exact gd_i (c := (c.1, cpC c s sp d dp n, c.2.2)) ih h1 h2
theorem ab_cp {s sp d dp n : Nat} (h1 : 100 ≤ s) : a_row (ab L xs r0 c) d (va_cpy (a_i (ab L xs r0 c) s) (a_i (ab L xs r0 c) d) sp dp n) = ab L xs r0 (c.1, cpC c s sp d dp n, c.2.2) := by
  have e : va_up (fun a j => rdI c.2.1 a j (sIx xs a j)) d (va_cpy (fun j => rdI c.2.1 s j (sIx xs s j)) (fun j => rdI c.2.1 d j (sIx xs d j)) sp dp n) = fun a j => rdI (cpC c s sp d dp n) a j (sIx xs a j) := by
    funext a j
    rw [cp_rd]
    unfold va_up va_cpy
    by_cases e : a = d
    · subst e
      rw [if_pos rfl, if_pos rfl]
      by_cases y : dp ≤ j ∧ j < dp + n
      · rw [if_pos y, if_pos y]
        show rdI c.2.1 s (sp + (j - dp)) (sIx xs s (sp + (j - dp))) = _
        rw [sI_hi h1]
      · rw [if_neg y, if_neg y]
    · rw [if_neg e, if_neg e]
  show ((100 + c.1.length, 0), _, va_up (fun a j => rdI c.2.1 a j (sIx xs a j)) d (va_cpy (fun j => rdI c.2.1 s j (sIx xs s j)) (fun j => rdI c.2.1 d j (sIx xs d j)) sp dp n), _, _) = _
  rw [e]
  rfl
end
/-- in the data, and of this shape -/
def isC (c : CH) (a k : Nat) : Bool := Nat.ble 100 a && (Nat.blt a (100 + c.1.length) && (cSh c a).1 == k)
def inC (c : CH) (a : Nat) (i : Int32) : Bool := !decide (i < 0) && Nat.blt i.toNatClampNeg (cSh c a).2
def c_hp (ins : Instr) (rs : List Nat) (S : List Value) (c : CH) : Option (List Value × CH) :=
  match ins with
  | .getfield _ => match rs, S with
    | [ci, f], .ref a :: S' => cond (isC c a (10 + ci)) (match aft ci f with
      | 2 => some (a_rv (rdR c.2.2 a f none) :: S', c)
      | _ => some (.int (rdI c.2.1 a f 0) :: S', c)) none
    | _, _ => none
  | .putfield _ => match rs, S with
    | [ci, f], .int x :: .ref a :: S' => cond (isC c a (10 + ci)) (match aft ci f with
      | 0 => some (S', (c.1, (a, f, x) :: c.2.1, c.2.2))
      | 1 => cond (decide (x = 0)) (some (S', (c.1, (a, f, x) :: c.2.1, c.2.2))) none
      | _ => none) none
    | [ci, f], .ref x :: .ref a :: S' => cond (isC c a (10 + ci)) (match aft ci f with
      | 2 => some (S', (c.1, c.2.1, (a, f, x) :: c.2.2))
      | _ => none) none
    | _, _ => none
  | .iastore => match S with
    | .int x :: .int i :: .ref a :: S' => cond (isC c a 1 && inC c a i) (some (S', (c.1, (a, i.toNatClampNeg, x) :: c.2.1, c.2.2))) none
    | _ => none
  | .aastore => match S with
    | .ref x :: .int i :: .ref a :: S' => cond (isC c a 4 && inC c a i && Nat.ble 10 x && Nat.blt x 44) (some (S', (c.1, c.2.1, (a, i.toNatClampNeg, x) :: c.2.2))) none
    | _ => none
  | .arraylength => match S with
    | .ref a :: S' => cond (isC c a 1) (some (.int (Int32.ofNat (cSh c a).2) :: S', c)) none
    | _ => none
  | .invokestatic _ => match rs, S with
    | [1000], .int n :: .int dp :: .ref d :: .int sp :: .ref s :: S' => cond (isC c s 1 && isC c d 1 && !decide (sp < 0) && !decide (dp < 0) && !decide (n < 0) && Nat.ble (sp.toNatClampNeg + n.toNatClampNeg) (cSh c s).2 && Nat.ble (dp.toNatClampNeg + n.toNatClampNeg) (cSh c d).2 && Nat.ble (S'.map Value.category).sum 8) (some (S', (c.1, cpC c s sp.toNatClampNeg d dp.toNatClampNeg n.toNatClampNeg, c.2.2))) none
    | _, _ => none
  | .invokespecial _ => match rs, S with
    | [1003], .ref _ :: S' => cond (Nat.ble (S'.map Value.category).sum 8) (some (S', c)) none
    | _, _ => none
  | _ => none
def c_br (ins : Instr) (S : List Value) : Option (Bool × List Value) :=
  match ins with
  | .ifCond .ge _ => match S with | .int x :: S' => some (decide (0 ≤ x), S') | _ => none
  | .if_icmp .ge _ => match S with | .int y :: .int x :: S' => some (decide (y ≤ x), S') | _ => none
  | .if_icmp .le _ => match S with | .int y :: .int x :: S' => some (decide (x ≤ y), S') | _ => none
  | _ => none
def c_call (ins : Instr) (rs : List Nat) (S : List Value) (c : CH) : Option (Nat × List Value × List Value) :=
  match ins, rs with
  | .invokevirtual _, [k, n, ci] => cond (Nat.ble n S.length && Nat.ble ((S.drop n).map Value.category).sum 8) (match (S.take n).reverse with
      | .ref a :: as => cond (isC c a (10 + ci)) (some (k, .ref a :: as, S.drop n)) none
      | _ => none) none
  | .invokespecial _, [k, n, _] => cond (Nat.ble n S.length && Nat.ble ((S.drop n).map Value.category).sum 8) (match (S.take n).reverse with
      | .ref a :: as => some (k, .ref a :: as, S.drop n)
      | _ => none) none
  | .invokestatic _, [k, n, _] => cond (Nat.ble n S.length && Nat.ble ((S.drop n).map Value.category).sum 8) (some (k, (S.take n).reverse, S.drop n)) none
  | _, _ => none
def c_mk (ins : Instr) (rs : List Nat) (S : List Value) : Option (Nat × (Nat × Nat) × List Value) :=
  match ins with
  | .new _ => match rs with | [ci] => some (anf ci, (10 + ci, 0), S) | _ => none
  | .newarray .int => match S with | .int n :: S' => cond (!decide (n < 0) && Nat.ble n.toNatClampNeg 100000) (some (n.toNatClampNeg, (1, n.toNatClampNeg), S')) none | _ => none
  | .newarray .byte => match S with | .int n :: S' => cond (!decide (n < 0) && Nat.ble n.toNatClampNeg 100000) (some (n.toNatClampNeg, (2, n.toNatClampNeg), S')) none | _ => none
  | .anewarray _ => match S with | .int n :: S' => cond (!decide (n < 0) && Nat.ble n.toNatClampNeg 100000) (some (n.toNatClampNeg, (4, n.toNatClampNeg), S')) none | _ => none
  | _ => none
/-- the run, with the slots made so far -/
def rnL (R : Nat → List Value → CH × Nat → Option (CH × Nat)) (P : List aEnt) : Nat → Nat → List Value → List Value → CH × Nat → Option (CH × Nat)
  | 0, _, _, _, _ => none
  | n + 1, i, L, S, c => match P[i]? with
    | none => none
    | some (_, ins, rs) => match a_pure ins rs S with
      | some S' => rnL R P n (i + 1) L S' c
      | none => match a_loc ins L S with
        | some (L', S') => rnL R P n (i + 1) L' S' c
        | none => match c_hp ins rs S c.1 with
          | some (S', c') => rnL R P n (i + 1) L S' (c', c.2)
          | none => match c_br ins S with
            | some (b, S') => cond b (rnL R P n (rs.headD 0) L S' c) (rnL R P n (i + 1) L S' c)
            | none => match ins with
              | .goto _ => rnL R P n (rs.headD 0) L S c
              | .return_ => (match S with | [] => some c | _ => none)
              | ins => match c_call ins rs S c.1 with
                | some (k, as, S') => (match R k as c with | some c' => rnL R P n (i + 1) L S' c' | none => none)
                | none => match c_mk ins rs S with
                  | some (sl, sh, S') => rnL R P n (i + 1) L (.ref (100 + c.1.1.length) :: S') ((c.1.1 ++ [sh], c.1.2.1, c.1.2.2), c.2 + sl)
                  | none => none
def rnM : Nat → Nat → List Value → CH × Nat → Option (CH × Nat)
  | 0 => fun _ _ _ => none
  | d + 1 => fun k as c => match apr k with
    | none => none
    | some (_, _, nL, ret, P, hs, _) => cond (Nat.ble (a_ent as).length nL && ret.isNone && hs.isEmpty) (rnL (rnM d) P 1000 0 (a_ent as ++ List.replicate (nL - (a_ent as).length) .null) [] c) none
