set_option maxHeartbeats 400000
/-! THE REFERENCE's rows: neighbours by number, rows by their digits -/
theorem abs_sub {x y : Nat} (hx : x < 1073741824) (hy : y < 1073741824) : a_abs (N x - N y) = N ((x - y) + (y - x)) := by
  unfold a_abs
  have ht := N_subi hx hy
  have h0 : (0 : Int32).toInt = 0 := rfl
  by_cases q : y ≤ x
  · rw [if_pos (by rw [Int32.le_iff_toInt_le, ht, h0]; omega), N_sub q]
    congr 1
    omega
  · rw [if_neg (by rw [Int32.le_iff_toInt_le, ht, h0]; omega)]
    have e : N y = N x + N (y - x) := by rw [N_add]; congr 1; omega
    rw [e, show (x - y) + (y - x) = y - x by omega]
    generalize N x = a
    generalize N (y - x) = b
    grind
def farN (w a b : Nat) : Nat := (a % w - b % w) + (b % w - a % w) + ((a / w - b / w) + (b / w - a / w))
theorem far_N {w a b : Nat} (w1 : 1 ≤ w) (w5 : w ≤ 5) (ha : a < 25) (hb : b < 25) : farF (N w) (N a) (N b) = N (farN w a b) := by
  have h1 := Nat.mod_lt a w1
  have h2 := Nat.mod_lt b w1
  have h3 : a / w ≤ a := Nat.div_le_self _ _
  have h4 : b / w ≤ b := Nat.div_le_self _ _
  unfold farF
  rw [N_div (by omega) (by omega), N_div (by omega) (by omega), N_mul, N_mul, N_rem, N_rem, abs_sub (by omega) (by omega), abs_sub (by omega) (by omega), N_add]
  rfl
theorem far_lt {w a b : Nat} (w1 : 1 ≤ w) (w5 : w ≤ 5) (ha : a < 25) (hb : b < 25) : farN w a b < 100 := by
  have h1 := Nat.mod_lt a w1
  have h2 := Nat.mod_lt b w1
  have h3 : a / w ≤ a := Nat.div_le_self _ _
  have h4 : b / w ≤ b := Nat.div_le_self _ _
  unfold farN
  generalize a % w = u1 at *
  generalize b % w = u2 at *
  generalize a / w = u3 at *
  generalize b / w = u4 at *
  omega
theorem far_1 {w h a b : Nat} (w1 : 1 ≤ w) (w5 : w ≤ 5) (ha : a < w * h) (hb : b < w * h) : farN w a b = 1 ↔ ∃ j, j < 4 ∧ nbN w (w * h) a (ord4 j) = some b := by
  unfold farN
  constructor
  · intro hf
    rcases (show w = 1 ∨ w = 2 ∨ w = 3 ∨ w = 4 ∨ w = 5 by omega) with rfl | rfl | rfl | rfl | rfl
    · by_cases q0 : b + 1 = a
      · exact ⟨0, by omega, by show (if 1 ≤ a then some (a - 1) else none) = some b; rw [if_pos (by omega)]; congr 1; omega⟩
      by_cases q1 : b + 1 = a
      · exact ⟨1, by omega, by show (if 0 < a % 1 then some (a - 1) else none) = some b; rw [if_pos (by omega)]; congr 1; omega⟩
      by_cases q3 : a + 1 = b
      · exact ⟨3, by omega, by show (if a + 1 < 1 * h then some (a + 1) else none) = some b; rw [if_pos (by omega)]; congr 1⟩
      by_cases q2 : a + 1 = b
      · exact ⟨2, by omega, by show (if a % 1 < 1 - 1 then some (a + 1) else none) = some b; rw [if_pos (by omega)]; congr 1⟩
      omega
    · by_cases q0 : b + 2 = a
      · exact ⟨0, by omega, by show (if 2 ≤ a then some (a - 2) else none) = some b; rw [if_pos (by omega)]; congr 1; omega⟩
      by_cases q1 : b + 1 = a
      · exact ⟨1, by omega, by show (if 0 < a % 2 then some (a - 1) else none) = some b; rw [if_pos (by omega)]; congr 1; omega⟩
      by_cases q3 : a + 2 = b
      · exact ⟨3, by omega, by show (if a + 2 < 2 * h then some (a + 2) else none) = some b; rw [if_pos (by omega)]; congr 1⟩
      by_cases q2 : a + 1 = b
      · exact ⟨2, by omega, by show (if a % 2 < 2 - 1 then some (a + 1) else none) = some b; rw [if_pos (by omega)]; congr 1⟩
      omega
    · by_cases q0 : b + 3 = a
      · exact ⟨0, by omega, by show (if 3 ≤ a then some (a - 3) else none) = some b; rw [if_pos (by omega)]; congr 1; omega⟩
      by_cases q1 : b + 1 = a
      · exact ⟨1, by omega, by show (if 0 < a % 3 then some (a - 1) else none) = some b; rw [if_pos (by omega)]; congr 1; omega⟩
      by_cases q3 : a + 3 = b
      · exact ⟨3, by omega, by show (if a + 3 < 3 * h then some (a + 3) else none) = some b; rw [if_pos (by omega)]; congr 1⟩
      by_cases q2 : a + 1 = b
      · exact ⟨2, by omega, by show (if a % 3 < 3 - 1 then some (a + 1) else none) = some b; rw [if_pos (by omega)]; congr 1⟩
      omega
    · by_cases q0 : b + 4 = a
      · exact ⟨0, by omega, by show (if 4 ≤ a then some (a - 4) else none) = some b; rw [if_pos (by omega)]; congr 1; omega⟩
      by_cases q1 : b + 1 = a
      · exact ⟨1, by omega, by show (if 0 < a % 4 then some (a - 1) else none) = some b; rw [if_pos (by omega)]; congr 1; omega⟩
      by_cases q3 : a + 4 = b
      · exact ⟨3, by omega, by show (if a + 4 < 4 * h then some (a + 4) else none) = some b; rw [if_pos (by omega)]; congr 1⟩
      by_cases q2 : a + 1 = b
      · exact ⟨2, by omega, by show (if a % 4 < 4 - 1 then some (a + 1) else none) = some b; rw [if_pos (by omega)]; congr 1⟩
      omega
    · by_cases q0 : b + 5 = a
      · exact ⟨0, by omega, by show (if 5 ≤ a then some (a - 5) else none) = some b; rw [if_pos (by omega)]; congr 1; omega⟩
      by_cases q1 : b + 1 = a
      · exact ⟨1, by omega, by show (if 0 < a % 5 then some (a - 1) else none) = some b; rw [if_pos (by omega)]; congr 1; omega⟩
      by_cases q3 : a + 5 = b
      · exact ⟨3, by omega, by show (if a + 5 < 5 * h then some (a + 5) else none) = some b; rw [if_pos (by omega)]; congr 1⟩
      by_cases q2 : a + 1 = b
      · exact ⟨2, by omega, by show (if a % 5 < 5 - 1 then some (a + 1) else none) = some b; rw [if_pos (by omega)]; congr 1⟩
      omega
  · rintro ⟨j, hj, e⟩
    rcases (show w = 1 ∨ w = 2 ∨ w = 3 ∨ w = 4 ∨ w = 5 by omega) with rfl | rfl | rfl | rfl | rfl
    · rcases (show j = 0 ∨ j = 1 ∨ j = 2 ∨ j = 3 by omega) with rfl | rfl | rfl | rfl
      · have e' : (if 1 ≤ a then some (a - 1) else none) = some b := e
        split at e' <;> cases e'
        omega
      · have e' : (if 0 < a % 1 then some (a - 1) else none) = some b := e
        split at e' <;> cases e'
        omega
      · have e' : (if a % 1 < 1 - 1 then some (a + 1) else none) = some b := e
        split at e' <;> cases e'
        omega
      · have e' : (if a + 1 < 1 * h then some (a + 1) else none) = some b := e
        split at e' <;> cases e'
        omega
    · rcases (show j = 0 ∨ j = 1 ∨ j = 2 ∨ j = 3 by omega) with rfl | rfl | rfl | rfl
      · have e' : (if 2 ≤ a then some (a - 2) else none) = some b := e
        split at e' <;> cases e'
        omega
      · have e' : (if 0 < a % 2 then some (a - 1) else none) = some b := e
        split at e' <;> cases e'
        omega
      · have e' : (if a % 2 < 2 - 1 then some (a + 1) else none) = some b := e
        split at e' <;> cases e'
        omega
      · have e' : (if a + 2 < 2 * h then some (a + 2) else none) = some b := e
        split at e' <;> cases e'
        omega
    · rcases (show j = 0 ∨ j = 1 ∨ j = 2 ∨ j = 3 by omega) with rfl | rfl | rfl | rfl
      · have e' : (if 3 ≤ a then some (a - 3) else none) = some b := e
        split at e' <;> cases e'
        omega
      · have e' : (if 0 < a % 3 then some (a - 1) else none) = some b := e
        split at e' <;> cases e'
        omega
      · have e' : (if a % 3 < 3 - 1 then some (a + 1) else none) = some b := e
        split at e' <;> cases e'
        omega
      · have e' : (if a + 3 < 3 * h then some (a + 3) else none) = some b := e
        split at e' <;> cases e'
        omega
    · rcases (show j = 0 ∨ j = 1 ∨ j = 2 ∨ j = 3 by omega) with rfl | rfl | rfl | rfl
      · have e' : (if 4 ≤ a then some (a - 4) else none) = some b := e
        split at e' <;> cases e'
        omega
      · have e' : (if 0 < a % 4 then some (a - 1) else none) = some b := e
        split at e' <;> cases e'
        omega
      · have e' : (if a % 4 < 4 - 1 then some (a + 1) else none) = some b := e
        split at e' <;> cases e'
        omega
      · have e' : (if a + 4 < 4 * h then some (a + 4) else none) = some b := e
        split at e' <;> cases e'
        omega
    · rcases (show j = 0 ∨ j = 1 ∨ j = 2 ∨ j = 3 by omega) with rfl | rfl | rfl | rfl
      · have e' : (if 5 ≤ a then some (a - 5) else none) = some b := e
        split at e' <;> cases e'
        omega
      · have e' : (if 0 < a % 5 then some (a - 1) else none) = some b := e
        split at e' <;> cases e'
        omega
      · have e' : (if a % 5 < 5 - 1 then some (a + 1) else none) = some b := e
        split at e' <;> cases e'
        omega
      · have e' : (if a + 5 < 5 * h then some (a + 5) else none) = some b := e
        split at e' <;> cases e'
        omega
theorem nb_up {w n a : Nat} (w1 : 1 ≤ w) : ∀ j b, j < 4 → nbN w n a (ord4 j) = some b → (j = 0 → b + w = a) ∧ (j = 1 → b + 1 = a ∧ 2 ≤ w) ∧ (j = 2 → b = a + 1 ∧ 2 ≤ w) ∧ (j = 3 → b = a + w) := by
  intro j b hj e
  have hm := Nat.mod_lt a w1
  rcases (show j = 0 ∨ j = 1 ∨ j = 2 ∨ j = 3 by omega) with rfl | rfl | rfl | rfl
  · have e' : (if w ≤ a then some (a - w) else none) = some b := e
    split at e' <;> cases e'
    exact ⟨fun _ => by omega, fun z => by omega, fun z => by omega, fun z => by omega⟩
  · have e' : (if 0 < a % w then some (a - 1) else none) = some b := e
    split at e' <;> cases e'
    have h2 : a % w ≤ a := Nat.mod_le a w
    exact ⟨fun z => by omega, fun _ => ⟨by omega, by omega⟩, fun z => by omega, fun z => by omega⟩
  · have e' : (if a % w < w - 1 then some (a + 1) else none) = some b := e
    split at e' <;> cases e'
    exact ⟨fun z => by omega, fun z => by omega, fun _ => ⟨rfl, by omega⟩, fun z => by omega⟩
  · have e' : (if a + w < n then some (a + w) else none) = some b := e
    split at e' <;> cases e'
    exact ⟨fun z => by omega, fun z => by omega, fun z => by omega, fun _ => rfl⟩
theorem nb_ord {w n a j1 j2 b1 b2 : Nat} (w1 : 1 ≤ w) (h : j1 < j2) (h2 : j2 < 4) (e1 : nbN w n a (ord4 j1) = some b1) (e2 : nbN w n a (ord4 j2) = some b2) : b1 < b2 := by
  obtain ⟨p0, p1, p2, p3⟩ := nb_up w1 j1 b1 (by omega) e1
  obtain ⟨q0, q1, q2, q3⟩ := nb_up w1 j2 b2 h2 e2
  rcases (show j1 = 0 ∨ j1 = 1 ∨ j1 = 2 by omega) with z | z | z
  · have := p0 z
    rcases (show j2 = 1 ∨ j2 = 2 ∨ j2 = 3 by omega) with y | y | y
    · have := q1 y; omega
    · have := q2 y; omega
    · have := q3 y; omega
  · have := p1 z
    rcases (show j2 = 2 ∨ j2 = 3 by omega) with y | y
    · have := q2 y; omega
    · have := q3 y; omega
  · have := p2 z
    have := q3 (by omega)
    omega
theorem nb_ne4 {w n a j b : Nat} (w1 : 1 ≤ w) (hj : j < 4) (e : nbN w n a (ord4 j) = some b) : b ≠ a := by
  obtain ⟨p0, p1, p2, p3⟩ := nb_up w1 j b hj e
  rcases (show j = 0 ∨ j = 1 ∨ j = 2 ∨ j = 3 by omega) with z | z | z | z
  · have := p0 z; omega
  · have := p1 z; omega
  · have := p2 z; omega
  · have := p3 z; omega
theorem dig_pre {k m R s i : Nat} (hs : s < 2 ^ (2 * m)) (hi : i < k) : dirN (k + m) (R * 2 ^ (2 * m) + s) i = dirN k R i := by
  unfold dirN
  have hp : 0 < 2 ^ (2 * m) := Nat.two_pow_pos _
  rw [show 2 * (k + m - 1 - i) = 2 * m + 2 * (k - 1 - i) by omega, Nat.pow_add, ← Nat.div_div_eq_div_mul, Nat.add_comm (R * 2 ^ (2 * m)) s, Nat.add_mul_div_right _ _ hp, Nat.div_eq_of_lt hs, Nat.zero_add]
theorem dig_last {k R j : Nat} (hj : j < 4) : dirN (k + 1) (R * 4 + j) k = j := by
  unfold dirN
  rw [show 2 * (k + 1 - 1 - k) = 0 by omega, Nat.pow_zero, Nat.div_one]
  omega
theorem dig_init {k R j i : Nat} (hj : j < 4) (hi : i < k) : dirN (k + 1) (R * 4 + j) i = dirN k R i := dig_pre (m := 1) (s := j) hj hi
theorem pa_cg {g : CT} {dr ds : Nat → Nat} {q0 : ST × Nat} : ∀ n, (∀ i, i < n → dr i = ds i) → paI g dr q0 n = paI g ds q0 n := by
  intro n
  induction n with
  | zero => intro _; rfl
  | succ n ih =>
    intro h
    simp only [paI]
    rw [ih (fun i hi => h i (by omega)), h n (by omega)]
theorem pos_congr {g : CT} {dr ds : Nat → Nat} {q0 : ST × Nat} {n : Nat} (h : ∀ i, i < n → dr i = ds i) : posN g dr q0 n = posN g ds q0 n := by
  unfold posN
  rw [pa_cg n h]
theorem br_skip {g : CT} {q0 : ST × Nat} {many lo : Nat} (hl : ∀ r x, (brS g q0 many r).1 = some x → x ≤ 9999) : ∀ cnt, (∀ s, s < cnt → puV g (dirN many (lo + s)) q0 many = none) → brS g q0 many (lo + cnt) = brS g q0 many lo := by
  intro cnt
  induction cnt with
  | zero => intro _; rfl
  | succ cnt ih =>
    intro h
    have e := ih (fun s hs => h s (by omega))
    show (if OI (brS g q0 many (lo + cnt)).1 < OI (puV g (dirN many (lo + cnt)) q0 many) then _ else _) = _
    rw [if_neg (fun z => oi_pos z (fun x hx => by have := hl _ x hx; omega) (h cnt (by omega)))]
    exact e
theorem pa_step {g : CT} {q0 q : ST × Nat} {k R j : Nat} (hj : j < 4) (h : paI g (dirN k R) q0 k = some q) : paI g (dirN (k + 1) (R * 4 + j)) q0 (k + 1) = match nbN (gw g) (gn g) q.2 (ord4 j) with
      | none => none
      | some t => some (shiftF q.1 q.2 (some t) (s_fl q.1 q.2), t) := by
  simp only [paI]
  rw [pa_cg k (fun i hi => dig_init hj hi), h, dig_last hj]
  simp only []
  cases nbN (gw g) (gn g) q.snd (ord4 j) <;> rfl
theorem br_none {g : CT} {q0 q : ST × Nat} {k m R j : Nat} (hl : ∀ r x, (brS g q0 (k + 1 + m) r).1 = some x → x ≤ 9999) (hj : j < 4) (h : paI g (dirN k R) q0 k = some q) (hb : nbN (gw g) (gn g) q.2 (ord4 j) = none) : brS g q0 (k + 1 + m) ((R * 4 + j + 1) * 2 ^ (2 * m)) = brS g q0 (k + 1 + m) ((R * 4 + j) * 2 ^ (2 * m)) := by
  rw [Nat.add_mul (R * 4 + j) 1, Nat.one_mul]
  refine br_skip hl _ (fun s hs => ?_)
  have e : paI g (dirN (k + 1 + m) ((R * 4 + j) * 2 ^ (2 * m) + s)) q0 (k + 1) = none := by
    rw [pa_cg (k + 1) (fun i hi => dig_pre hs hi), pa_step hj h, hb]
  unfold puV
  rw [pa_none e (k + 1 + m) (by omega)]
