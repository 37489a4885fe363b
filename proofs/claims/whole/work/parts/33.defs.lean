set_option maxHeartbeats 400000
/-! WHAT A TEXT TELLS, AND THE SNOW, AS TUPLES OF NUMBERS -/
abbrev CT : Type := (Nat × Nat × Nat × Nat) × (Nat → Nat) × (Nat → Nat) × (Nat → Nat) × (Nat → Nat) × (Nat → Nat) × (Nat → Nat) × (Nat → Nat) × (Nat × (Nat → Int32))
def gw (g : CT) : Nat := g.1.1
def gh (g : CT) : Nat := g.1.2.1
def gp (g : CT) : Nat := g.1.2.2.1
def gf (g : CT) : Nat := g.1.2.2.2
def ghg (g : CT) : Nat → Nat := g.2.1
def gkd (g : CT) : Nat → Nat := g.2.2.1
def ghm (g : CT) : Nat → Nat := g.2.2.2.1
def ght (g : CT) : Nat → Nat := g.2.2.2.2.1
def gfh (g : CT) : Nat → Nat := g.2.2.2.2.2.1
def gfc (g : CT) : Nat → Nat := g.2.2.2.2.2.2.1
def gfm (g : CT) : Nat → Nat := g.2.2.2.2.2.2.2.1
def grs (g : CT) : Nat := g.2.2.2.2.2.2.2.2.1
def gst (g : CT) : Nat → Int32 := g.2.2.2.2.2.2.2.2.2
def gn (g : CT) : Nat := gw g * gh g
/-- hour, water (0: nobody's), places, flakes, owners, hats, who is left out -/
abbrev ST : Type := Nat × (Nat → Int32) × (Nat → Nat) × (Nat → Nat) × (Nat → Int32) × (Nat → Nat) × Int32
def s_hr (s : ST) : Nat := s.1
def s_wt (s : ST) : Nat → Int32 := s.2.1
def s_pl (s : ST) : Nat → Nat := s.2.2.1
def s_fl (s : ST) : Nat → Nat := s.2.2.2.1
def s_ow (s : ST) : Nat → Int32 := s.2.2.2.2.1
def s_ht (s : ST) : Nat → Nat := s.2.2.2.2.2.1
def s_ab (s : ST) : Int32 := s.2.2.2.2.2.2
theorem gn_le {g : CT} (h1 : gw g ≤ 5) (h2 : gh g ≤ 5) : gn g ≤ 25 := Nat.mul_le_mul h1 h2
theorem gn_pos {g : CT} (h1 : 1 ≤ gw g) (h2 : 1 ≤ gh g) : 1 ≤ gn g := Nat.mul_le_mul h1 h2
/-! the rule: steps 0 and above are numbers, -1 to -6 values, -7 not, below it what joins -/
def m7 : Int32 := Int32.ofInt (-7)
def dpF (st : Nat → Int32) : Nat → Nat
  | 0 => 0
  | j + 1 => if st j ≤ m7 then (if st j = m7 then dpF st j else dpF st j - 1) else dpF st j + 1
def lgB (x : Int32) : Prop := (∃ v, v ≤ 9999 ∧ x = N v) ∨ (∃ k : Nat, k < 6 ∧ x = Int32.ofInt (-1 - (k : Int))) ∨ x = m7 ∨ ∃ k : Nat, k < 8 ∧ x = Int32.ofInt (-8 - (k : Int))
def okR (st : Nat → Int32) (n : Nat) : Prop := (∀ j, j < n → lgB (st j) ∧ (¬ st j ≤ m7 → dpF st j < 40) ∧ (st j = m7 → 1 ≤ dpF st j) ∧ (st j ≤ m7 → st j ≠ m7 → 2 ≤ dpF st j)) ∧ (0 < n → 1 ≤ dpF st n)
/-- the numbers keep their bounds -/
def okG (g : CT) : Prop := 1 ≤ gw g ∧ gw g ≤ 5 ∧ 1 ≤ gh g ∧ gh g ≤ 5 ∧ gp g ≤ 8 ∧ gf g ≤ 24 ∧ (∀ c, c < 25 → ghg g c ≤ 9) ∧ (∀ p, p < gp g → gkd g p ≤ 3) ∧ (∀ p, p < gp g → ghm g p < gn g) ∧ (∀ p, p < gp g → ght g p ≤ 3) ∧ (∀ j, j < gf g → gfh g j < 24) ∧ (∀ j, j < gf g → gfc g j < gn g) ∧ (∀ j, j < gf g → 1 ≤ gfm g j) ∧ (∀ j, j < gf g → gfm g j ≤ 99) ∧ grs g ≤ 700 ∧ okR (gst g) (grs g)
def okS (g : CT) (s : ST) : Prop := s_hr s ≤ 20000 ∧ (∀ p, p < gp g → s_pl s p < gn g) ∧ (∀ c, c < gn g → s_fl s c ≤ 9999) ∧ (∀ c, c < gn g → s_ow s c = Int32.ofInt (-1) ∨ ∃ p, p < gp g ∧ s_ow s c = N p) ∧ (∀ p, p < gp g → s_ht s p ≤ 3) ∧ (∀ c, c < gn g → s_fl s c = 0 → s_ow s c = Int32.ofInt (-1))
/-- the class's rows of what is told -/
def CR (f : HF) (g : CT) : Prop := f 102 0 = N (gw g) ∧ f 102 1 = N (gh g) ∧ f 102 2 = N (gn g) ∧ f 102 3 = N (gp g) ∧ f 102 4 = N (gf g) ∧ (∀ c, c < 25 → f 103 c = N (ghg g c)) ∧ (∀ p, p < gp g → f 104 p = N (gkd g p)) ∧ (∀ p, p < gp g → f 105 p = N (ghm g p)) ∧ (∀ p, p < gp g → f 106 p = N (ght g p)) ∧ (∀ j, j < gf g → f 107 j = N (gfh g j)) ∧ (∀ j, j < gf g → f 108 j = N (gfc g j)) ∧ (∀ j, j < gf g → f 109 j = N (gfm g j)) ∧ f 110 1 = N (grs g) ∧ (∀ j, j < grs g → f 111 j = gst g j)
/-- a row of snow of the class's -/
def SR (g : CT) (r : Nat → Int32) (s : ST) : Prop := r 0 = N (s_hr s) ∧ (∀ k, k < 9 → r (1 + k) = s_wt s k) ∧ (∀ p, p < gp g → r (10 + p) = N (s_pl s p)) ∧ (∀ c, c < gn g → r (18 + c) = N (s_fl s c)) ∧ (∀ c, c < gn g → r (43 + c) = s_ow s c) ∧ (∀ p, p < gp g → r (68 + p) = N (s_ht s p)) ∧ r 76 = s_ab s
/-- all rows but some are as they were -/
def Fx (D : List Nat) (f f' : HF) : Prop := ∀ a, a ∉ D → f' a = f a
theorem Fx.rf {D : List Nat} {f : HF} : Fx D f f := fun _ _ => rfl
theorem Fx.tr {D D' : List Nat} {f f' f'' : HF} (h : Fx D f f') (h' : Fx D' f' f'') (s1 : ∀ a ∈ D, a ∈ D') : Fx D' f f'' := fun a ha => by rw [h' a ha, h a (fun q => ha (s1 a q))]
theorem Fx.wide {D D' : List Nat} {f f' : HF} (h : Fx D f f') (s1 : D.all (fun a => D'.contains a) = true) : Fx D' f f' := fun a ha => h a (fun q => ha (by have := List.all_eq_true.mp s1 a q; simpa using this))
theorem Fx.set {D : List Nat} {f f' : HF} {c k : Nat} {x : Int32} (h : Fx D f f') (hc : c ∈ D) : Fx D f (a_up2 f' c k x) := fun a ha => by
  have : a ≠ c := fun e => ha (e ▸ hc)
  have e : a_up2 f' c k x a = f' a := by funext j; unfold a_up2; rw [if_neg this]
  rw [e, h a ha]
theorem Fx.row {D : List Nat} {f f' : HF} {c : Nat} {x : Nat → Int32} (h : Fx D f f') (hc : c ∈ D) : Fx D f (va_up f' c x) := fun a ha => by
  have : a ≠ c := fun e => ha (e ▸ hc)
  rw [show va_up f' c x a = f' a by unfold va_up; rw [if_neg this], h a ha]
theorem CR.fx {D : List Nat} {f f' : HF} {g : CT} (h : Fx D f f') (hc : CR f g) (hD : D.all (fun a => !(Nat.ble 102 a && Nat.ble a 111)) = true) : CR f' g := by
  have e : ∀ a, 102 ≤ a → a ≤ 111 → f' a = f a := fun a h1 h2 => h a (fun q => by
    have := List.all_eq_true.mp hD a q
    rw [Nat.ble_eq_true_of_le h1, Nat.ble_eq_true_of_le h2] at this
    exact absurd this (by decide))
  unfold CR
  rw [e 102 (by omega) (by omega), e 103 (by omega) (by omega), e 104 (by omega) (by omega), e 105 (by omega) (by omega), e 106 (by omega) (by omega), e 107 (by omega) (by omega), e 108 (by omega) (by omega), e 109 (by omega) (by omega), e 110 (by omega) (by omega), e 111 (by omega) (by omega)]
  exact hc
/-- one place of a row -/
theorem u2_at {f : HF} {c k : Nat} {x : Int32} : a_up2 f c k x c = va_up (f c) k x := by funext j; unfold a_up2 va_up; rw [if_pos rfl]
theorem u2_ne {f : HF} {c k a : Nat} {x : Int32} (h : a ≠ c) : a_up2 f c k x a = f a := by funext j; unfold a_up2; rw [if_neg h]
theorem up_at {α : Type} {r : Nat → α} {k : Nat} {x : α} : va_up r k x k = x := by unfold va_up; rw [if_pos rfl]
theorem up_ne {α : Type} {r : Nat → α} {k j : Nat} {x : α} (h : j ≠ k) : va_up r k x j = r j := by unfold va_up; rw [if_neg h]
theorem wp_le {d : Nat} {ret : Option FieldType} {P : List aEnt} {hs : List (Nat × Nat × Nat × Nat × Nat)} {bc bs : Nat} {Q : aQ} {m m' i : Nat} {L S : List Value} {h : aH} (hw : wpL aft anf (wpM aft anf apr d) ret P hs m i L S h bc bs Q) (hm : m ≤ m') : wpL aft anf (wpM aft anf apr d) ret P hs m' i L S h bc bs Q := wpL_le (wpM_le d d (Nat.le_refl d)) _ _ hm _ _ _ _ _ _ _ _ (fun _ _ q => q) hw
theorem ndz {y : Int32} (h : ¬ y = 0) : ¬ y = 0 := h
def b2 (b : Bool) : Int32 := cond b (N 1) (N 0)
theorem b2_t {b : Bool} (h : b = true) : b2 b = N 1 := by rw [h]; rfl
theorem b2_f {b : Bool} (h : b = false) : b2 b = N 0 := by rw [h]; rfl
