/-! THE PURE SIDE: calls, loops -/
abbrev KK : Type := Nat × Option Nat × Nat × (Nat → Nat → Int64)
def hk (K : KK) (f : HF) : aH := ((203, K.2.2.1), SHP K.1, f, RFP K.2.1, K.2.2.2)
/-- a method of the frozen heap that doesn't throw: what its answer and the ints behind it are -/
def Sp (K : KK) (d k : Nat) (as : List Value) (f : HF) (R : Option Value → HF → Prop) : Prop := ∀ (bc bs : Nat) (Q : aQ), (∀ v f', R v f' → Q (.inl v) (hk K f')) → wpM aft anf apr d k as (hk K f) bc bs Q
theorem Sp.mk {K : KK} {d k : Nat} {as : List Value} {f : HF} {R : Option Value → HF → Prop} {M : aMeth} (hM : apr k = some M) (hl : (a_ent as).length ≤ M.2.2.1) (n : Nat) (hw : ∀ bc bs Q, (∀ v f', R v f' → Q (.inl v) (hk K f')) → wpL aft anf (wpM aft anf apr d) M.2.2.2.1 M.2.2.2.2.1 M.2.2.2.2.2.1 n 0 (a_ent as ++ List.replicate (M.2.2.1 - (a_ent as).length) .null) [] (hk K f) bc bs Q) : Sp K (d + 1) k as f R := by
  intro bc bs Q hQ
  unfold wpM
  rw [hM]
  exact ⟨hl, n, hw bc bs Q hQ⟩
theorem Sp.mono {K : KK} {d k : Nat} {as : List Value} {f : HF} {R R' : Option Value → HF → Prop} (h : Sp K d k as f R) (hR : ∀ v f', R v f' → R' v f') : Sp K d k as f R' := fun bc bs Q hQ => h bc bs Q (fun v f' q => hQ v f' (hR v f' q))
theorem Sp.le {K : KK} {d d' k : Nat} {as : List Value} {f : HF} {R : Option Value → HF → Prop} (h : Sp K d k as f R) (hd : d ≤ d') : Sp K d' k as f R := fun bc bs Q hQ => wpM_le d d' hd _ _ _ _ _ _ _ (fun _ _ q => q) (h bc bs Q hQ)
/-- the answer is x and nothing changes -/
abbrev is1 (f : HF) (x : Int32) : Option Value → HF → Prop := fun v f' => v = some (.int x) ∧ f' = f
/-- no answer -/
abbrev is0 (R : HF → Prop) : Option Value → HF → Prop := fun v f' => v = none ∧ R f'
abbrev isR (x : Int32) (R : HF → Prop) : Option Value → HF → Prop := fun v f' => v = some (.int x) ∧ R f'
section
variable {K : KK} {d : Nat} {ret : Option FieldType} {P : List aEnt} {n i : Nat} {L S' : List Value} {bc bs : Nat} {Q : aQ} {k : Nat} {as : List Value} {th : Bool} {f : HF} {hs : List (Nat × Nat × Nat × Nat × Nat)}
theorem callx {R : Option Value → HF → Prop} (hsp : Sp K d k as f R) (hn : ∀ v f', R v f' → wpL aft anf (wpM aft anf apr d) ret P hs n (i + 1) L (v.toList ++ S') (hk K f') bc bs Q) : ∃ dc ds bc' bs', bc = bc' + dc ∧ bs = bs' + ds ∧ wpM aft anf apr d k as (hk K f) dc ds (fun r h' => (a_z h' = 0 → a_z (hk K f) = 0 ∧ a_n (hk K f) + dc ≤ a_n h') ∧ match r with
          | .inl v => wpL aft anf (wpM aft anf apr d) ret P hs n (i + 1) L (v.toList ++ S') h' bc' bs' Q
          | .inr E => th = true ∧ match a_hd hs i E with
            | some (t, x) => a_st L x = true ∧ wpL aft anf (wpM aft anf apr d) ret P hs n t (L.set x .null) [] h' bc' bs' Q
            | none => hs = [] ∧ Q (.inr E) h') :=
  ⟨0, 0, bc, bs, rfl, rfl, hsp 0 0 _ (fun v f' q => ⟨fun z => ⟨z, Nat.le_refl _⟩, hn v f' q⟩)⟩
theorem callv {x : Int32} (hsp : Sp K d k as f (is1 f x)) (hn : wpL aft anf (wpM aft anf apr d) ret P hs n (i + 1) L (.int x :: S') (hk K f) bc bs Q) : ∃ dc ds bc' bs', bc = bc' + dc ∧ bs = bs' + ds ∧ wpM aft anf apr d k as (hk K f) dc ds (fun r h' => (a_z h' = 0 → a_z (hk K f) = 0 ∧ a_n (hk K f) + dc ≤ a_n h') ∧ match r with
          | .inl v => wpL aft anf (wpM aft anf apr d) ret P hs n (i + 1) L (v.toList ++ S') h' bc' bs' Q
          | .inr E => th = true ∧ match a_hd hs i E with
            | some (t, x) => a_st L x = true ∧ wpL aft anf (wpM aft anf apr d) ret P hs n t (L.set x .null) [] h' bc' bs' Q
            | none => hs = [] ∧ Q (.inr E) h') :=
  callx hsp (fun v f' q => by obtain ⟨rfl, rfl⟩ := q; exact hn)
/-- a loop: what holds at its head, by how often it has been round -/
theorem wp_for {ret : Option FieldType} {P : List aEnt} {C : aC} {hd : Nat} {bc bs : Nat} {Q : aQ} (I : Nat → List Value → HF → Prop) (n c e : Nat) (hstep : ∀ i L f m, i < n → I i L f → (∀ L' f', I (i + 1) L' f' → wpL aft anf C ret P hs m hd L' [] (hk K f') bc bs Q) → wpL aft anf C ret P hs (m + c) hd L [] (hk K f) bc bs Q) (hend : ∀ L f m, I n L f → wpL aft anf C ret P hs (m + e) hd L [] (hk K f) bc bs Q) (hC : C_le C C) : ∀ (q i : Nat) (L : List Value) (f : HF) (m : Nat), i + q = n → c * q + e ≤ m → I i L f → wpL aft anf C ret P hs m hd L [] (hk K f) bc bs Q := by
  intro q
  induction q with
  | zero =>
    intro i L f m hi hm hI
    obtain rfl : i = n := by omega
    obtain ⟨m', rfl⟩ : ∃ m', m = m' + e := ⟨m - e, by omega⟩
    exact hend L f m' hI
  | succ q ih =>
    intro i L f m hi hm hI
    rw [Nat.mul_succ] at hm
    obtain ⟨m', rfl⟩ : ∃ m', m = m' + c := ⟨m - c, by omega⟩
    exact hstep i L f m' (by omega) hI (fun L' f' hI' => ih (i + 1) L' f' m' (by omega) (by omega) hI')
/-- a loop that changes no heap -/
theorem wp_forp {ret : Option FieldType} {P : List aEnt} {C : aC} {hd : Nat} {bc bs : Nat} {Q : aQ} (Lf : Nat → List Value) (n c e : Nat) {L : List Value} {m : Nat} (hm : c * n + e ≤ m) (h0 : L = Lf 0) (hstep : ∀ i m, i < n → wpL aft anf C ret P hs m hd (Lf (i + 1)) [] (hk K f) bc bs Q → wpL aft anf C ret P hs (m + c) hd (Lf i) [] (hk K f) bc bs Q) (hend : ∀ m, wpL aft anf C ret P hs (m + e) hd (Lf n) [] (hk K f) bc bs Q) : wpL aft anf C ret P hs m hd L [] (hk K f) bc bs Q := by
  subst h0
  have key : ∀ q i m, i + q = n → c * q + e ≤ m → wpL aft anf C ret P hs m hd (Lf i) [] (hk K f) bc bs Q := by
    intro q
    induction q with
    | zero =>
      intro i m hi hm
      obtain rfl : i = n := by omega
      obtain ⟨m', rfl⟩ : ∃ m', m = m' + e := ⟨m - e, by omega⟩
      exact hend m'
    | succ q ih =>
      intro i m hi hm
      rw [Nat.mul_succ] at hm
      obtain ⟨m', rfl⟩ : ∃ m', m = m' + c := ⟨m - c, by omega⟩
      exact hstep i m' (by omega) (ih (i + 1) m' (by omega) (by omega))
  exact key n 0 m (by omega) hm
theorem wp_more {m m' : Nat} {hd : Nat} {L S : List Value} {h : aH} {L' S2 : List Value} {h' : aH} (hw : wpL aft anf (wpM aft anf apr d) ret P hs m hd L S h bc bs Q) (hm : m ≤ m') (hL : L' = L) (hS : S2 = S) (hh : h' = h) : wpL aft anf (wpM aft anf apr d) ret P hs m' hd L' S2 h' bc bs Q := by
  subst hL hS hh
  exact wpL_le (wpM_le d d (Nat.le_refl d)) _ _ hm _ _ _ _ _ _ _ _ (fun _ _ q => q) hw
end
/-- small numbers -/
def N (k : Nat) : Int32 := Int32.ofNat k
theorem N_add (a b : Nat) : N a + N b = N (a + b) := (Int32.ofNat_add a b).symm
theorem N_int {k : Nat} (h : k < 2147483648) : (N k).toInt = (k : Int) := Int32.toInt_ofNat_of_lt h
theorem N_nat {k : Nat} (h : k < 2147483648) : (N k).toNatClampNeg = k := Int32.toNatClampNeg_ofNat_of_lt h
theorem N_lt {a b : Nat} (ha : a < 2147483648) (hb : b < 2147483648) : (N a < N b) ↔ a < b := by rw [Int32.lt_iff_toInt_lt, N_int ha, N_int hb]; omega
theorem N_le {a b : Nat} (ha : a < 2147483648) (hb : b < 2147483648) : (N a ≤ N b) ↔ a ≤ b := by rw [Int32.le_iff_toInt_le, N_int ha, N_int hb]; omega
theorem N_eq {a b : Nat} (ha : a < 2147483648) (hb : b < 2147483648) : (N a = N b) ↔ a = b := by rw [← Int32.toInt_inj, N_int ha, N_int hb]; omega
theorem N_zero : (0 : Int32) = N 0 := rfl
theorem N_one : (1 : Int32) = N 1 := rfl
theorem N_neg {a : Nat} (ha : a < 2147483648) : ¬ N a < 0 := by rw [N_zero, N_lt ha (by omega)]; omega
theorem N_pos {a : Nat} (ha : a < 2147483648) : 0 ≤ N a := by rw [N_zero, N_le (by omega) ha]; omega
theorem N_in {k n : Nat} (h : k < n) (hk : k < 2147483648) : vp_in (N k) n := by
  unfold vp_in
  rw [N_nat hk]
  intro h9
  rcases h9 with q | q
  · exact N_neg hk q
  · omega
theorem N_in2 {x : Int32} {k n : Nat} (e : x = N k) (h : k < n) (hk : n < 2147483648) : vp_in x n := by
  subst e
  exact N_in h (by omega)
theorem brT {c A B : Prop} (h : c) (a : A) : (c → A) ∧ (¬ c → B) := ⟨fun _ => a, fun n => absurd h n⟩
theorem brF {c A B : Prop} (h : ¬ c) (b : B) : (c → A) ∧ (¬ c → B) := ⟨fun n => absurd n h, fun _ => b⟩
theorem hk_i {K : KK} {f : HF} : a_i (hk K f) = f := rfl
theorem lcons {x y : Value} {xs ys : List Value} (h : x = y) (t : xs = ys) : x :: xs = y :: ys := by rw [h, t]
theorem hk_p {K : KK} {f : HF} : (hk K f).2.2.1 = f := rfl
theorem hk_set {K : KK} {f : HF} {c k : Nat} {x : Int32} : a_setI (hk K f) c k x = hk K (a_up2 f c k x) := rfl
theorem hk_row {K : KK} {f : HF} {c : Nat} {x : Nat → Int32} : a_row (hk K f) c x = hk K (va_up f c x) := rfl
theorem N_mul (a b : Nat) : N a * N b = N (a * b) := (Int32.ofNat_mul a b).symm
theorem N_sub {a b : Nat} (h : b ≤ a) : N a - N b = N (a - b) := (Int32.ofNat_sub a b h).symm
theorem N_div {a b : Nat} (ha : a < 2147483648) (hb : b < 2147483648) : N a / N b = N (a / b) := by
  apply Int32.toInt_inj.mp
  rw [Int32.toInt_div_of_ne_left, N_int ha, N_int hb, N_int (Nat.lt_of_le_of_lt (Nat.div_le_self a b) ha)]
  · exact (Int.ofNat_tdiv a b)
  · intro h
    have := congrArg Int32.toInt h
    rw [N_int ha] at this
    have h2 : Int32.minValue.toInt = -2147483648 := by decide
    omega
theorem N_max {a b : Nat} (ha : a < 2147483648) (hb : b < 2147483648) : a_max (N a) (N b) = N (max a b) := by
  unfold a_max
  rw [Nat.max_def]
  by_cases h : a ≤ b
  · rw [if_pos h]
    by_cases h2 : a = b
    · subst h2; split <;> rfl
    · rw [if_pos ((N_lt ha hb).mpr (by omega))]
  · rw [if_neg h, if_neg (fun q => by have := (N_lt ha hb).mp q; omega)]
theorem N_min {a b : Nat} (ha : a < 2147483648) (hb : b < 2147483648) : a_min (N a) (N b) = N (min a b) := by
  unfold a_min
  rw [Nat.min_def]
  by_cases h : a ≤ b
  · rw [if_pos h, if_neg (fun q => by have := (N_lt hb ha).mp q; omega)]
  · rw [if_neg h, if_pos ((N_lt hb ha).mpr (by omega))]
theorem N_m1 {a : Nat} (ha : a < 2147483648) : (N a = Int32.ofInt (-1)) ↔ False := by
  refine ⟨fun h => ?_, fun h => h.elim⟩
  have := congrArg Int32.toInt h
  rw [N_int ha] at this
  have h2 : (Int32.ofInt (-1)).toInt = -1 := by decide
  omega
theorem N_m1' {a : Nat} (ha : a < 2147483648) : (Int32.ofInt (-1) = N a) ↔ False := by rw [eq_comm]; exact N_m1 ha
theorem N_of {x : Int32} (h : ¬ x < 0) : x = N x.toNatClampNeg := by
  have h0 : 0 ≤ x := Int32.not_lt.mp h
  apply Int32.toInt_inj.mp
  rw [N_int x.toNatClampNeg_lt]
  have h1 := (Int32.le_iff_toInt_le).mp h0
  have h2 : (0 : Int32).toInt = 0 := rfl
  show x.toInt = ((x.toInt.toNat : Nat) : Int)
  omega
theorem N_rem (a b : Nat) : N a - N (a / b * b) = N (a % b) := by
  rw [N_sub (Nat.div_mul_le_self a b)]
  congr 1
  have := Nat.div_add_mod a b
  rw [Nat.mul_comm] at this
  omega
theorem sw_hit {cs : List (Int32 × Nat)} {x : Int32} {W : Nat → Prop} {d t : Nat} (h1 : cs.all (fun q => !(decide (x = q.1)) || q.2 == t) = true) (h2 : cs.any (fun q => decide (x = q.1)) = true) (w : W t) : (∀ q ∈ cs, x = q.1 → W q.2) ∧ ((∀ q ∈ cs, ¬ x = q.1) → W d) := by
  refine ⟨fun q hq e => ?_, fun h => ?_⟩
  · have := List.all_eq_true.mp h1 q hq
    simp only [Bool.or_eq_true, Bool.not_eq_true', decide_eq_false_iff_not, beq_iff_eq] at this
    rcases this with z | z
    · exact absurd e z
    · rw [z]; exact w
  · obtain ⟨q, hq, e⟩ := List.any_eq_true.mp h2
    exact absurd (of_decide_eq_true e) (h q hq)
theorem sw_miss {cs : List (Int32 × Nat)} {x : Int32} {W : Nat → Prop} {d : Nat} (h1 : ∀ q ∈ cs, ¬ x = q.1) (w : W d) : (∀ q ∈ cs, x = q.1 → W q.2) ∧ ((∀ q ∈ cs, ¬ x = q.1) → W d) := ⟨fun q hq e => absurd e (h1 q hq), fun _ => w⟩
/-- a number or none -/
def OI : Option Nat → Int32
  | none => Int32.ofInt (-1)
  | some k => N k
theorem wp_at (i : Nat) {C : aC} {ret : Option FieldType} {P : List aEnt} {hs : List (Nat × Nat × Nat × Nat × Nat)} {n : Nat} {L S : List Value} {h : aH} {bc bs : Nat} {Q : aQ} (hw : wpL aft anf C ret P hs n i L S h bc bs Q) : wpL aft anf C ret P hs n i L S h bc bs Q := hw
/-- a loop, from its head -/
theorem wp_loop {K : KK} {C : aC} {ret : Option FieldType} {P : List aEnt} {hs : List (Nat × Nat × Nat × Nat × Nat)} {hd : Nat} {bc bs : Nat} {Q : aQ} {L : List Value} {f : HF} {m : Nat} (I : Nat → List Value → HF → Prop) (n c e : Nat) (hC : C_le C C) (hm : c * n + e ≤ m) (h0 : I 0 L f) (hstep : ∀ i L f m, i < n → I i L f → (∀ L' f', I (i + 1) L' f' → wpL aft anf C ret P hs m hd L' [] (hk K f') bc bs Q) → wpL aft anf C ret P hs (m + c) hd L [] (hk K f) bc bs Q) (hend : ∀ L f m, I n L f → wpL aft anf C ret P hs (m + e) hd L [] (hk K f) bc bs Q) : wpL aft anf C ret P hs m hd L [] (hk K f) bc bs Q :=
  wp_for I n c e hstep hend hC n 0 L f m (by omega) hm h0
theorem OI_none : OI none = Int32.ofInt (-1) := rfl
theorem OI_some {k : Nat} : OI (some k) = N k := rfl
