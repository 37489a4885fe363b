set_option maxHeartbeats 400000
/-! how many bits: one more -/
theorem pop_add : ∀ i k n, n < 2 ^ i → i < k → popN k (n + 2 ^ i) = popN k n + 1 := by
  intro i
  induction i with
  | zero =>
    intro k n hn hk
    cases k with
    | zero => omega
    | succ k =>
      have : n = 0 := by omega
      subst this
      simp only [popN]
      show 1 + popN k 0 = 0 + popN k 0 + 1
      omega
  | succ i ih =>
    intro k n hn hk
    cases k with
    | zero => omega
    | succ k =>
      have e : 2 ^ (i + 1) = 2 * 2 ^ i := by rw [Nat.pow_succ]; omega
      have h1 : (n + 2 ^ (i + 1)) % 2 = n % 2 := by omega
      have h2 : (n + 2 ^ (i + 1)) / 2 = n / 2 + 2 ^ i := by omega
      simp only [popN]
      rw [h1, h2, ih k (n / 2) (by omega) (by omega)]
      omega
theorem on_pop {fl : Nat → Nat} {ow : Nat → Int32} {o : Int32} : ∀ i, i ≤ 30 → popN 32 (celN fl ow o i) = onN fl ow o i := by
  intro i
  induction i with
  | zero => intro _; show popN 32 0 = 0; decide
  | succ i ih =>
    intro hi
    have h1 := celN_lt (fl := fl) (ow := ow) (o := o) i
    simp only [celN, onN]
    split
    · have e : celN fl ow o i ||| 2 ^ i = celN fl ow o i + 2 ^ i := by
        have := Nat.two_pow_add_eq_or_of_lt h1 1
        rw [Nat.mul_one] at this
        rw [Nat.or_comm, ← this, Nat.add_comm]
      rw [e, pop_add i 32 _ h1 (by omega), ih (by omega)]
    · rw [ih (by omega)]; rfl
theorem on_bc {fl : Nat → Nat} {ow : Nat → Int32} {o : Int32} {n : Nat} (h : n ≤ 30) : bcN (celI fl ow o n) = onN fl ow o n := by
  have h1 := celN_lt (fl := fl) (ow := ow) (o := o) n
  have h2 : 2 ^ n ≤ 2 ^ 30 := Nat.pow_le_pow_right (by omega) h
  rw [celI_N n h, bcN_N (by omega), on_pop n h]
