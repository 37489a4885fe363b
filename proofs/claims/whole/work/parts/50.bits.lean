set_option maxHeartbeats 400000
/-! BITS -/
theorem n_and (a b : Nat) : N a &&& N b = N (a &&& b) := by
  apply Int32.toBitVec_inj.1
  show BitVec.ofNat 32 a &&& BitVec.ofNat 32 b = BitVec.ofNat 32 (a &&& b)
  apply BitVec.eq_of_getLsbD_eq
  intro i hi
  simp [hi]
theorem n_or (a b : Nat) : N a ||| N b = N (a ||| b) := by
  apply Int32.toBitVec_inj.1
  show BitVec.ofNat 32 a ||| BitVec.ofNat 32 b = BitVec.ofNat 32 (a ||| b)
  apply BitVec.eq_of_getLsbD_eq
  intro i hi
  simp [hi]
theorem n_xor (a b : Nat) : N a ^^^ N b = N (a ^^^ b) := by
  apply Int32.toBitVec_inj.1
  show BitVec.ofNat 32 a ^^^ BitVec.ofNat 32 b = BitVec.ofNat 32 (a ^^^ b)
  apply BitVec.eq_of_getLsbD_eq
  intro i hi
  simp [hi]
theorem sl_31 : ∀ n, n < 32 → ((N n &&& 31).toBitVec.smod 32).toNat = n := by decide +kernel
theorem su_31 : ∀ n, n < 32 → (((N n).toUInt32 &&& Int32.toUInt32 31).toBitVec % 32).toNat = n := by decide +kernel
theorem n_shl {i : Nat} (h : i < 31) : N 1 <<< (N i &&& 31) = N (2 ^ i) := by
  have h1 : (1 : Nat) * 2 ^ i < 2 ^ 32 := by rw [Nat.one_mul]; exact Nat.pow_lt_pow_right (by decide) (by omega)
  have := pk_shlN (n := 1) (N i &&& 31) i (sl_31 i (by omega)) h1
  rw [Nat.one_mul] at this
  exact this
theorem n_shr {a i : Nat} (ha : a < 2147483648) (h : i < 32) : N a >>> (N i &&& 31) = N (a / 2 ^ i) := pk_shrN ha (N i &&& 31) i (sl_31 i h)
theorem n_ush {a i : Nat} (ha : a < 4294967296) (h : i < 32) : ((N a).toUInt32 >>> ((N i).toUInt32 &&& Int32.toUInt32 31)).toInt32 = N (a / 2 ^ i) := pk_ushrN ha (N i) i (su_31 i h)
theorem n_of (x : Int32) : ∃ n, n < 4294967296 ∧ x = N n ∧ x.toBitVec.toNat = n := ⟨x.toBitVec.toNat, x.toBitVec.isLt, Int32.toBitVec_inj.mp (by show _ = BitVec.ofNat 32 _; simp), rfl⟩
theorem and_dig {a m s j : Nat} (hs : s < 2 ^ j) : a &&& (2 ^ j * m + s) = 2 ^ j * ((a / 2 ^ j) &&& m) + ((a % 2 ^ j) &&& s) := by
  have h2 : (a % 2 ^ j) &&& s < 2 ^ j := Nat.lt_of_le_of_lt Nat.and_le_right hs
  apply Nat.eq_of_testBit_eq
  intro i
  rw [Nat.testBit_and, Nat.testBit_two_pow_mul_add _ hs, Nat.testBit_two_pow_mul_add _ h2]
  by_cases h : i < j
  · rw [if_pos h, if_pos h, Nat.testBit_and, Nat.testBit_mod_two_pow, decide_eq_true h, Bool.true_and]
  · rw [if_neg h, if_neg h, Nat.testBit_and, Nat.testBit_div_two_pow]
    congr 2
    omega
/-- how many of k bits are set -/
def popN : Nat → Nat → Nat
  | 0, _ => 0
  | k + 1, n => n % 2 + popN k (n / 2)
def dsum (B : Nat) : Nat → Nat → Nat
  | 0, _ => 0
  | k + 1, n => n % B + dsum B k (n / B)
def mk1 : Nat → Nat
  | 0 => 0
  | k + 1 => 2 ^ 2 * mk1 k + 1
def mk3 : Nat → Nat
  | 0 => 0
  | k + 1 => 2 ^ 4 * mk3 k + 3
theorem and_1 {r : Nat} (h : r < 4) : r &&& 1 = r % 2 := by
  rcases (show r = 0 ∨ r = 1 ∨ r = 2 ∨ r = 3 by omega) with rfl | rfl | rfl | rfl <;> rfl
theorem and_3 : ∀ r, r < 16 → r &&& 3 = r % 4 := by decide
theorem st1 : ∀ k n, n < 4 ^ k → (n / 2) &&& mk1 k ≤ n ∧ dsum 4 k (n - ((n / 2) &&& mk1 k)) = popN (2 * k) n ∧ (∀ i, (n - ((n / 2) &&& mk1 k)) / 4 ^ i % 4 ≤ 2) := by
  intro k
  induction k with
  | zero =>
    intro n hn
    have : n = 0 := by simpa using hn
    subst this
    refine ⟨Nat.le_refl 0, rfl, fun i => ?_⟩
    simp [mk1]
  | succ k ih =>
    intro n hn
    obtain ⟨h1, h2, h3⟩ := ih (n / 4) (by rw [Nat.pow_succ] at hn; omega)
    have e : (n / 2) &&& mk1 (k + 1) = 4 * ((n / 4 / 2) &&& mk1 k) + n % 4 / 2 := by
      show (n / 2) &&& (2 ^ 2 * mk1 k + 1) = _
      rw [and_dig (by decide), and_1 (by have := Nat.mod_lt (n / 2) (show 2 ^ 2 > 0 by decide); exact this)]
      have a1 : n / 2 / 2 ^ 2 = n / 4 / 2 := by omega
      have a2 : n / 2 % 2 ^ 2 % 2 = n % 4 / 2 := by omega
      rw [a1, a2]
    rw [e]
    generalize (n / 4 / 2) &&& mk1 k = t at *
    have e2 : n - (4 * t + n % 4 / 2) = 4 * (n / 4 - t) + (n % 4 - n % 4 / 2) := by omega
    rw [e2]
    refine ⟨by omega, ?_, fun i => ?_⟩
    · show (4 * (n / 4 - t) + (n % 4 - n % 4 / 2)) % 4 + dsum 4 k ((4 * (n / 4 - t) + (n % 4 - n % 4 / 2)) / 4) = n % 2 + (n / 2 % 2 + popN (2 * k) (n / 2 / 2))
      have a1 : (4 * (n / 4 - t) + (n % 4 - n % 4 / 2)) % 4 = n % 4 - n % 4 / 2 := by omega
      have a2 : (4 * (n / 4 - t) + (n % 4 - n % 4 / 2)) / 4 = n / 4 - t := by omega
      have a3 : n / 2 / 2 = n / 4 := by omega
      rw [a1, a2, a3, h2]
      omega
    · cases i with
      | zero => rw [Nat.pow_zero, Nat.div_one]; omega
      | succ i =>
        have a2 : (4 * (n / 4 - t) + (n % 4 - n % 4 / 2)) / 4 = n / 4 - t := by omega
        rw [show 4 ^ (i + 1) = 4 * 4 ^ i by rw [Nat.pow_succ, Nat.mul_comm], ← Nat.div_div_eq_div_mul, a2]
        exact h3 i
theorem st2 : ∀ k n, n < 16 ^ k → (∀ i, n / 4 ^ i % 4 ≤ 2) → dsum 16 k ((n &&& mk3 k) + ((n / 4) &&& mk3 k)) = dsum 4 (2 * k) n ∧ (∀ i, ((n &&& mk3 k) + ((n / 4) &&& mk3 k)) / 16 ^ i % 16 ≤ 4) ∧ (n &&& mk3 k) + ((n / 4) &&& mk3 k) < 16 ^ k := by
  intro k
  induction k with
  | zero =>
    intro n hn hd
    have : n = 0 := by simpa using hn
    subst this
    exact ⟨rfl, fun i => by simp [mk3], by simp [mk3]⟩
  | succ k ih =>
    intro n hn hd
    have d0 := hd 0
    have d1 := hd 1
    rw [Nat.pow_zero, Nat.div_one] at d0
    rw [Nat.pow_one] at d1
    obtain ⟨h1, h2, h3⟩ := ih (n / 16) (by rw [Nat.pow_succ] at hn; omega) (fun i => by
      have := hd (i + 2)
      rw [show 4 ^ (i + 2) = 16 * 4 ^ i by rw [Nat.pow_succ, Nat.pow_succ]; omega, ← Nat.div_div_eq_div_mul] at this
      exact this)
    have e : n &&& mk3 (k + 1) = 16 * ((n / 16) &&& mk3 k) + n % 4 := by
      show n &&& (2 ^ 4 * mk3 k + 3) = _
      rw [and_dig (by decide), and_3 _ (Nat.mod_lt n (by decide))]
      have a2 : n % 2 ^ 4 % 4 = n % 4 := by omega
      rw [a2]
    have e' : (n / 4) &&& mk3 (k + 1) = 16 * ((n / 16 / 4) &&& mk3 k) + n / 4 % 4 := by
      show (n / 4) &&& (2 ^ 4 * mk3 k + 3) = _
      rw [and_dig (by decide), and_3 _ (Nat.mod_lt (n / 4) (by decide))]
      have a1 : n / 4 / 2 ^ 4 = n / 16 / 4 := by omega
      have a2 : n / 4 % 2 ^ 4 % 4 = n / 4 % 4 := by omega
      rw [a1, a2]
    rw [e, e']
    generalize (n / 16) &&& mk3 k = t at *
    generalize (n / 16 / 4) &&& mk3 k = u at *
    have e2 : 16 * t + n % 4 + (16 * u + n / 4 % 4) = 16 * (t + u) + (n % 4 + n / 4 % 4) := by omega
    rw [e2]
    have a1 : (16 * (t + u) + (n % 4 + n / 4 % 4)) % 16 = n % 4 + n / 4 % 4 := by omega
    have a2 : (16 * (t + u) + (n % 4 + n / 4 % 4)) / 16 = t + u := by omega
    refine ⟨?_, fun i => ?_, ?_⟩
    · show (16 * (t + u) + (n % 4 + n / 4 % 4)) % 16 + dsum 16 k ((16 * (t + u) + (n % 4 + n / 4 % 4)) / 16) = n % 4 + (n / 4 % 4 + dsum 4 (2 * k) (n / 4 / 4))
      have a3 : n / 4 / 4 = n / 16 := by omega
      rw [a1, a2, a3, h1]
      omega
    · cases i with
      | zero => rw [Nat.pow_zero, Nat.div_one]; omega
      | succ i =>
        rw [show 16 ^ (i + 1) = 16 * 16 ^ i by rw [Nat.pow_succ, Nat.mul_comm], ← Nat.div_div_eq_div_mul, a2]
        exact h2 i
    · rw [Nat.pow_succ]; omega
def sw1 (n : Nat) : Nat := n - ((n / 2) &&& 1431655765)
def sw2 (n : Nat) : Nat := (n &&& 858993459) + ((n / 4) &&& 858993459)
theorem and_0f (a : Nat) : a &&& 252645135 = a % 16 + 256 * (a / 256 % 16 + 256 * (a / 65536 % 16 + 256 * (a / 16777216 % 16))) := by
  have h15 : ∀ b, b % 2 ^ 8 &&& 15 = b % 16 := by
    intro b
    have := Nat.and_two_pow_sub_one_eq_mod (b % 2 ^ 8) 4
    rw [show 2 ^ 4 - 1 = 15 from rfl] at this
    rw [this]
    omega
  have a0 : ∀ b, b &&& 0 = 0 := fun b => Nat.and_zero b
  rw [show (252645135 : Nat) = 2 ^ 8 * (2 ^ 8 * (2 ^ 8 * (2 ^ 8 * 0 + 15) + 15) + 15) + 15 from rfl]
  rw [and_dig (by decide), and_dig (by decide), and_dig (by decide), and_dig (by decide), a0, h15, h15, h15, h15]
  omega
theorem dg16 {s t u : Nat} (h : s = t + 16 * u) (ht : t ≤ 8) : s % 16 = t ∧ s / 16 = u := by omega
theorem dgf {t0 t2 t4 t6 m : Nat} (h0 : t0 ≤ 8) (h2 : t2 ≤ 8) (h4 : t4 ≤ 8) (h6 : t6 ≤ 8) (hm : m = t0 + 256 * (t2 + 256 * (t4 + 256 * t6))) : ((m + m / 256) + (m + m / 256) / 65536) % 64 = t0 + t2 + t4 + t6 := by
  have e1 : m / 256 = t2 + 256 * (t4 + 256 * t6) := by omega
  rw [e1]
  have e2 : m + (t2 + 256 * (t4 + 256 * t6)) = (t0 + t2 + 256 * (t2 + t4)) + 65536 * (t4 + t6 + 256 * t6) := by omega
  rw [e2]
  have e3 : (t0 + t2 + 256 * (t2 + t4) + 65536 * (t4 + t6 + 256 * t6)) / 65536 = t4 + t6 + 256 * t6 := by omega
  rw [e3]
  omega
theorem sw3 {n : Nat} (h : n < 4294967296) (hd : ∀ i, n / 16 ^ i % 16 ≤ 4) : ∀ m, m = (n + n / 16) &&& 252645135 → ((m + m / 256) + (m + m / 256) / 65536) % 64 = dsum 16 8 n := by
  intro m hm
  rw [and_0f] at hm
  have d0 := hd 0
  have d1 := hd 1
  have d2 := hd 2
  have d3 := hd 3
  have d4 := hd 4
  have d5 := hd 5
  have d6 := hd 6
  have d7 := hd 7
  have p2 : n / 16 ^ 2 = n / 16 / 16 := by rw [Nat.div_div_eq_div_mul]
  have p3 : n / 16 ^ 3 = n / 16 / 16 / 16 := by simp only [Nat.div_div_eq_div_mul, Nat.reduceMul, Nat.reducePow]
  have p4 : n / 16 ^ 4 = n / 16 / 16 / 16 / 16 := by simp only [Nat.div_div_eq_div_mul, Nat.reduceMul, Nat.reducePow]
  have p5 : n / 16 ^ 5 = n / 16 / 16 / 16 / 16 / 16 := by simp only [Nat.div_div_eq_div_mul, Nat.reduceMul, Nat.reducePow]
  have p6 : n / 16 ^ 6 = n / 16 / 16 / 16 / 16 / 16 / 16 := by simp only [Nat.div_div_eq_div_mul, Nat.reduceMul, Nat.reducePow]
  have p7 : n / 16 ^ 7 = n / 16 / 16 / 16 / 16 / 16 / 16 / 16 := by simp only [Nat.div_div_eq_div_mul, Nat.reduceMul, Nat.reducePow]
  rw [Nat.pow_zero, Nat.div_one] at d0
  rw [Nat.pow_one] at d1
  rw [p2] at d2
  rw [p3] at d3
  rw [p4] at d4
  rw [p5] at d5
  rw [p6] at d6
  rw [p7] at d7
  have hz : n / 16 / 16 / 16 / 16 / 16 / 16 / 16 / 16 = 0 := by
    simp only [Nat.div_div_eq_div_mul, Nat.reduceMul]
    exact Nat.div_eq_of_lt h
  simp only [dsum]
  have q0 := (Nat.mod_add_div n 16).symm
  have q1 := (Nat.mod_add_div (n / 16) 16).symm
  have q2 := (Nat.mod_add_div (n / 16 / 16) 16).symm
  have q3 := (Nat.mod_add_div (n / 16 / 16 / 16) 16).symm
  have q4 := (Nat.mod_add_div (n / 16 / 16 / 16 / 16) 16).symm
  have q5 := (Nat.mod_add_div (n / 16 / 16 / 16 / 16 / 16) 16).symm
  have q6 := (Nat.mod_add_div (n / 16 / 16 / 16 / 16 / 16 / 16) 16).symm
  have q7 := (Nat.mod_add_div (n / 16 / 16 / 16 / 16 / 16 / 16 / 16) 16).symm
  rw [hz] at q7
  clear hz hd p2 p3 p4 p5 p6 p7 h
  have s2 : ∀ a : Nat, a / 256 = a / 16 / 16 := fun a => by rw [Nat.div_div_eq_div_mul]
  have s4 : ∀ a : Nat, a / 65536 = a / 16 / 16 / 16 / 16 := fun a => by simp only [Nat.div_div_eq_div_mul, Nat.reduceMul]
  have s6 : ∀ a : Nat, a / 16777216 = a / 16 / 16 / 16 / 16 / 16 / 16 := fun a => by simp only [Nat.div_div_eq_div_mul, Nat.reduceMul]
  rw [s2, s4, s6] at hm
  generalize n / 16 / 16 / 16 / 16 / 16 / 16 / 16 = y7 at *
  generalize n / 16 / 16 / 16 / 16 / 16 / 16 = y6 at *
  generalize n / 16 / 16 / 16 / 16 / 16 = y5 at *
  generalize n / 16 / 16 / 16 / 16 = y4 at *
  generalize n / 16 / 16 / 16 = y3 at *
  generalize n / 16 / 16 = y2 at *
  generalize n / 16 = y1 at *
  generalize n % 16 = x0 at *
  generalize y1 % 16 = x1 at *
  generalize y2 % 16 = x2 at *
  generalize y3 % 16 = x3 at *
  generalize y4 % 16 = x4 at *
  generalize y5 % 16 = x5 at *
  generalize y6 % 16 = x6 at *
  generalize y7 % 16 = x7 at *
  obtain ⟨a0, b0⟩ := dg16 (s := n + y1) (t := x0 + x1) (u := y1 + y2) (by omega) (by omega)
  obtain ⟨a1, b1⟩ := dg16 (s := y1 + y2) (t := x1 + x2) (u := y2 + y3) (by omega) (by omega)
  obtain ⟨a2, b2⟩ := dg16 (s := y2 + y3) (t := x2 + x3) (u := y3 + y4) (by omega) (by omega)
  obtain ⟨a3, b3⟩ := dg16 (s := y3 + y4) (t := x3 + x4) (u := y4 + y5) (by omega) (by omega)
  obtain ⟨a4, b4⟩ := dg16 (s := y4 + y5) (t := x4 + x5) (u := y5 + y6) (by omega) (by omega)
  obtain ⟨a5, b5⟩ := dg16 (s := y5 + y6) (t := x5 + x6) (u := y6 + y7) (by omega) (by omega)
  obtain ⟨a6, b6⟩ := dg16 (s := y6 + y7) (t := x6 + x7) (u := y7) (by omega) (by omega)
  rw [b0, b1, b2, b3, b4, b5, a0, a2, a4, a6] at hm
  rw [dgf (by omega) (by omega) (by omega) (by omega) hm]
  clear hm a0 a1 a2 a3 a4 a5 a6 b0 b1 b2 b3 b4 b5 b6 q0 q1 q2 q3 q4 q5 q6 q7 s2 s4 s6
  omega
theorem swar {n : Nat} (h : n < 4294967296) : (((((sw2 (sw1 n)) + (sw2 (sw1 n)) / 16) &&& 252645135) + (((sw2 (sw1 n)) + (sw2 (sw1 n)) / 16) &&& 252645135) / 256) + ((((sw2 (sw1 n)) + (sw2 (sw1 n)) / 16) &&& 252645135) + (((sw2 (sw1 n)) + (sw2 (sw1 n)) / 16) &&& 252645135) / 256) / 65536) % 64 = popN 32 n := by
  obtain ⟨h1, h2, h3⟩ := st1 16 n h
  have e1 : n - ((n / 2) &&& mk1 16) = sw1 n := rfl
  rw [e1] at h2 h3
  have hl : sw1 n < 16 ^ 8 := Nat.lt_of_le_of_lt (Nat.sub_le _ _) h
  obtain ⟨k1, k2, k3⟩ := st2 8 (sw1 n) hl h3
  have e2 : (sw1 n &&& mk3 8) + ((sw1 n / 4) &&& mk3 8) = sw2 (sw1 n) := rfl
  rw [e2] at k1 k2 k3
  rw [sw3 k3 k2 _ rfl, k1, h2]
def bcN (x : Int32) : Nat := popN 32 x.toBitVec.toNat
theorem popN_le : ∀ k n, popN k n ≤ k := by
  intro k
  induction k with
  | zero => intro n; exact Nat.le_refl 0
  | succ k ih =>
    intro n
    have := ih (n / 2)
    simp only [popN]
    omega
theorem bcN_le (x : Int32) : bcN x ≤ 32 := popN_le 32 _
theorem bcN_N {n : Nat} (h : n < 4294967296) : bcN (N n) = popN 32 n := by
  unfold bcN
  show popN 32 (BitVec.ofNat 32 n).toNat = _
  rw [BitVec.toNat_ofNat, Nat.mod_eq_of_lt h]
theorem sp_bitCount {K : KK} {d : Nat} {x : Int32} {f : HF} : Sp K (d + 1) k_Integer_bitCount [.int x] f (is1 f (N (bcN x))) := by
  obtain ⟨n, hn, rfl, -⟩ := n_of x
  rw [bcN_N hn]
  have b1 : sw1 n < 4294967296 := Nat.lt_of_le_of_lt (Nat.sub_le _ _) hn
  obtain ⟨h1, h2, h3⟩ := st1 16 n hn
  obtain ⟨k1, k2, k3⟩ := st2 8 (sw1 n) b1 h3
  have b2' : sw2 (sw1 n) < 4294967296 := k3
  have e1 : N n - N ((n / 2) &&& 1431655765) = N (sw1 n) := N_sub h1
  have e2 : N (sw1 n &&& 858993459) + N ((sw1 n / 4) &&& 858993459) = N (sw2 (sw1 n)) := N_add _ _
  have hm : ∀ a : Nat, a &&& 63 = a % 64 := fun a => Nat.and_two_pow_sub_one_eq_mod a 6
  have ha : ∀ a : Nat, a &&& 252645135 ≤ 252645135 := fun a => Nat.and_le_right
  generalize ht : ((sw2 (sw1 n) + sw2 (sw1 n) / 16) &&& 252645135) = t
  have lt := ha (sw2 (sw1 n) + sw2 (sw1 n) / 16)
  rw [ht] at lt
  have sw := swar hn
  rw [ht] at sw
  rw [← sw]
  refine en_Integer_bitCount 99999 ?_; intro bc bs Q hQ
  refine And.intro trivial (hQ _ _ ⟨?_, rfl⟩)
  refine congrArg (fun z => some (Value.int z)) ?_
  have q1 : ((N n).toUInt32 >>> ((N 1).toUInt32 &&& Int32.toUInt32 31)).toInt32 = N (n / 2) := n_ush hn (by omega)
  have q2 : ((N (sw1 n)).toUInt32 >>> ((N 2).toUInt32 &&& Int32.toUInt32 31)).toInt32 = N (sw1 n / 4) := n_ush b1 (by omega)
  have q3 : ((N (sw2 (sw1 n))).toUInt32 >>> ((N 4).toUInt32 &&& Int32.toUInt32 31)).toInt32 = N (sw2 (sw1 n) / 16) := n_ush b2' (by omega)
  have q4 : ((N t).toUInt32 >>> ((N 8).toUInt32 &&& Int32.toUInt32 31)).toInt32 = N (t / 256) := n_ush (by omega) (by omega)
  have q5 : ((N (t + t / 256)).toUInt32 >>> ((N 16).toUInt32 &&& Int32.toUInt32 31)).toInt32 = N ((t + t / 256) / 65536) := n_ush (by omega) (by omega)
  have c1 : Int32.ofNat 1431655765 = N 1431655765 := rfl
  have c2 : Int32.ofNat 858993459 = N 858993459 := rfl
  have c3 : Int32.ofNat 252645135 = N 252645135 := rfl
  simp only [cn_c1, cn_c2, cn_c4, cn_b8, cn_b16, cn_b63, c1, c2, c3, q1, n_and, e1, q2, e2, q3, N_add, ht, q4, q5, hm]
