set_option maxHeartbeats 400000
/-! THE LEAST WEIGHTS: round by round -/
theorem pigeon : ∀ n (f : Nat → Nat), (∀ i, i ≤ n → f i < n) → ∃ i j, i < j ∧ j ≤ n ∧ f i = f j := by
  intro n
  induction n with
  | zero => intro f h; exact absurd (h 0 (Nat.le_refl 0)) (Nat.not_lt_zero _)
  | succ n ih =>
    intro f h
    by_cases q : ∃ i, i ≤ n ∧ f i = f (n + 1)
    · obtain ⟨i, h1, h2⟩ := q
      exact ⟨i, n + 1, by omega, Nat.le_refl _, h2⟩
    · have hn := h (n + 1) (Nat.le_refl _)
      obtain ⟨i, j, h1, h2, h3⟩ := ih (fun i => if f i = n then f (n + 1) else f i) (by
        intro i hi
        have h4 := h i (by omega)
        show (if f i = n then f (n + 1) else f i) < n
        split
        · rename_i z
          have : f (n + 1) ≠ n := fun y => q ⟨i, hi, by rw [z, y]⟩
          omega
        · omega)
      have h3' : (if f i = n then f (n + 1) else f i) = (if f j = n then f (n + 1) else f j) := h3
      refine ⟨i, j, h1, by omega, ?_⟩
      by_cases a : f i = n
      · by_cases b : f j = n
        · rw [a, b]
        · rw [if_pos a, if_neg b] at h3'
          exact absurd ⟨j, h2, h3'.symm⟩ q
      · by_cases b : f j = n
        · rw [if_neg a, if_pos b] at h3'
          exact absurd ⟨i, by omega, h3'⟩ q
        · rw [if_neg a, if_neg b] at h3'
          exact h3'
def jaR (nb : Nat → Nat → Option Nat) (ws d : Nat → Nat) (c k : Nat) : Nat := match nb c k with
  | some b => d b + ws c
  | none => d c
def jaM (nb : Nat → Nat → Option Nat) (ws d : Nat → Nat) (c : Nat) : Nat := min (d c) (min (jaR nb ws d c 0) (min (jaR nb ws d c 1) (min (jaR nb ws d c 2) (jaR nb ws d c 3))))
def jaD (nb : Nat → Nat → Option Nat) (ws : Nat → Nat) (I a : Nat) : Nat → Nat → Nat
  | 0, c => if c = a then 0 else I
  | k + 1, c => jaM nb ws (jaD nb ws I a k) c
section
variable {nb : Nat → Nat → Option Nat} {ws d : Nat → Nat} {I a n : Nat}
theorem ja_le {c : Nat} : jaM nb ws d c ≤ d c := Nat.min_le_left _ _
theorem ja_nb {c k b : Nat} (hk : k < 4) (h : nb c k = some b) : jaM nb ws d c ≤ d b + ws c := by
  have e : jaR nb ws d c k = d b + ws c := by unfold jaR; rw [h]
  unfold jaM
  rcases (show k = 0 ∨ k = 1 ∨ k = 2 ∨ k = 3 by omega) with rfl | rfl | rfl | rfl <;> omega
theorem ja_is {c : Nat} : jaM nb ws d c = d c ∨ ∃ k b, k < 4 ∧ nb c k = some b ∧ jaM nb ws d c = d b + ws c := by
  have key : ∀ k, jaR nb ws d c k = d c ∨ ∃ b, nb c k = some b ∧ jaR nb ws d c k = d b + ws c := by
    intro k
    unfold jaR
    cases h : nb c k with
    | none => exact Or.inl rfl
    | some b => exact Or.inr ⟨b, rfl, rfl⟩
  have h4 : jaM nb ws d c = d c ∨ jaM nb ws d c = jaR nb ws d c 0 ∨ jaM nb ws d c = jaR nb ws d c 1 ∨ jaM nb ws d c = jaR nb ws d c 2 ∨ jaM nb ws d c = jaR nb ws d c 3 := by unfold jaM; omega
  have fin : ∀ k, k < 4 → jaM nb ws d c = jaR nb ws d c k → (jaM nb ws d c = d c ∨ ∃ k b, k < 4 ∧ nb c k = some b ∧ jaM nb ws d c = d b + ws c) := by
    intro k hk h
    rcases key k with q | ⟨b, q1, q2⟩
    · exact Or.inl (h.trans q)
    · exact Or.inr ⟨k, b, hk, q1, h.trans q2⟩
  rcases h4 with h | h | h | h | h
  · exact Or.inl h
  · exact fin 0 (by omega) h
  · exact fin 1 (by omega) h
  · exact fin 2 (by omega) h
  · exact fin 3 (by omega) h
theorem ja_anti {c : Nat} : ∀ i j, jaD nb ws I a (i + j) c ≤ jaD nb ws I a i c := by
  intro i j
  induction j with
  | zero => exact Nat.le_refl _
  | succ j ih => exact Nat.le_trans (ja_le (d := jaD nb ws I a (i + j))) ih
theorem ja_chain (hw : ∀ c, 1 ≤ ws c) (hl : ∀ c k b, c < n → nb c k = some b → b < n) : ∀ k c, c < n → jaD nb ws I a (k + 1) c < jaD nb ws I a k c → ∃ f : Nat → Nat, f (k + 1) = c ∧ (∀ j, j ≤ k + 1 → f j < n) ∧ ∀ j, j ≤ k → jaD nb ws I a (j + 1) (f (j + 1)) < jaD nb ws I a j (f (j + 1)) ∧ jaD nb ws I a j (f j) < jaD nb ws I a (j + 1) (f (j + 1)) := by
  intro k
  induction k with
  | zero =>
    intro c hc h
    rcases ja_is (nb := nb) (ws := ws) (d := jaD nb ws I a 0) (c := c) with q | ⟨k, b, hk, q1, q2⟩
    · have : jaD nb ws I a (0 + 1) c = jaD nb ws I a 0 c := q
      omega
    · have q3 : jaD nb ws I a (0 + 1) c = jaD nb ws I a 0 b + ws c := q2
      have w1 := hw c
      refine ⟨fun j => if j = 0 then b else c, rfl, fun j hj => ?_, fun j hj => ?_⟩
      · show (if j = 0 then b else c) < n
        split
        · exact hl c k b hc q1
        · exact hc
      · have : j = 0 := by omega
        subst this
        show jaD nb ws I a (0 + 1) c < jaD nb ws I a 0 c ∧ jaD nb ws I a 0 b < jaD nb ws I a (0 + 1) c
        exact ⟨h, by omega⟩
  | succ k ih =>
    intro c hc h
    rcases ja_is (nb := nb) (ws := ws) (d := jaD nb ws I a (k + 1)) (c := c) with q | ⟨i, b, hi, q1, q2⟩
    · have : jaD nb ws I a (k + 1 + 1) c = jaD nb ws I a (k + 1) c := q
      omega
    · have q3 : jaD nb ws I a (k + 1 + 1) c = jaD nb ws I a (k + 1) b + ws c := q2
      have w1 := hw c
      have hb := hl c i b hc q1
      have h1 : jaD nb ws I a (k + 1) b ≤ jaD nb ws I a k b := ja_le (d := jaD nb ws I a k)
      have h2 : jaD nb ws I a (k + 1) c ≤ jaD nb ws I a k b + ws c := ja_nb (d := jaD nb ws I a k) hi q1
      obtain ⟨f, f1, f2, f3⟩ := ih b hb (by omega)
      refine ⟨fun j => if j = k + 1 + 1 then c else f j, if_pos rfl, fun j hj => ?_, fun j hj => ?_⟩
      · show (if j = k + 1 + 1 then c else f j) < n
        split
        · exact hc
        · exact f2 j (by omega)
      · show jaD nb ws I a (j + 1) (if j + 1 = k + 1 + 1 then c else f (j + 1)) < jaD nb ws I a j (if j + 1 = k + 1 + 1 then c else f (j + 1)) ∧ jaD nb ws I a j (if j = k + 1 + 1 then c else f j) < jaD nb ws I a (j + 1) (if j + 1 = k + 1 + 1 then c else f (j + 1))
        rw [if_neg (show ¬ j = k + 1 + 1 by omega)]
        by_cases z : j = k + 1
        · subst z
          rw [if_pos rfl, f1]
          exact ⟨h, by omega⟩
        · rw [if_neg (by omega)]
          exact f3 j (by omega)
theorem ja_conv (hw : ∀ c, 1 ≤ ws c) (hl : ∀ c k b, c < n → nb c k = some b → b < n) {c : Nat} (hc : c < n) : jaD nb ws I a (n + 1) c = jaD nb ws I a n c := by
  have h0 : jaD nb ws I a (n + 1) c ≤ jaD nb ws I a n c := ja_le (d := jaD nb ws I a n)
  rcases Nat.lt_or_ge (jaD nb ws I a (n + 1) c) (jaD nb ws I a n c) with h | h
  · exfalso
    obtain ⟨f, f1, f2, f3⟩ := ja_chain hw hl n c hc h
    obtain ⟨i, j, h1, h2, h3⟩ := pigeon n f (fun i hi => f2 i (by omega))
    have up : ∀ m, i + 1 + m ≤ n → jaD nb ws I a i (f i) < jaD nb ws I a (i + 1 + m) (f (i + 1 + m)) := by
      intro m
      induction m with
      | zero => intro _; exact (f3 i (by omega)).2
      | succ m ihm => intro hm; exact Nat.lt_trans (ihm (by omega)) (f3 (i + 1 + m) (by omega)).2
    obtain ⟨m, rfl⟩ : ∃ m, j = i + 1 + m := ⟨j - i - 1, by omega⟩
    have u1 := up m h2
    have u2 := (f3 (i + m) (by omega)).1
    have u3 := ja_anti (nb := nb) (ws := ws) (I := I) (a := a) (c := f (i + m + 1)) i m
    rw [show i + 1 + m = i + m + 1 by omega] at u1 h3
    rw [h3] at u1
    omega
  · omega
theorem ja_fix (hw : ∀ c, 1 ≤ ws c) (hl : ∀ c k b, c < n → nb c k = some b → b < n) {c k b : Nat} (hc : c < n) (hk : k < 4) (h : nb c k = some b) : jaD nb ws I a n c ≤ jaD nb ws I a n b + ws c := by
  rw [← ja_conv hw hl hc]
  exact ja_nb (d := jaD nb ws I a n) hk h
theorem ja_ge {v : Nat → Nat} (h0 : v a = 0) (hI : ∀ c, c < n → v c ≤ I) (hl : ∀ c k b, c < n → nb c k = some b → b < n) (hf : ∀ c k b, c < n → k < 4 → nb c k = some b → v c ≤ v b + ws c) : ∀ k c, c < n → v c ≤ jaD nb ws I a k c := by
  intro k
  induction k with
  | zero =>
    intro c hc
    show v c ≤ if c = a then 0 else I
    split
    · rename_i z; rw [z, h0]; exact Nat.le_refl 0
    · exact hI c hc
  | succ k ih =>
    intro c hc
    rcases ja_is (nb := nb) (ws := ws) (d := jaD nb ws I a k) (c := c) with q | ⟨i, b, hi, q1, q2⟩
    · show v c ≤ jaM nb ws (jaD nb ws I a k) c
      rw [q]; exact ih c hc
    · show v c ≤ jaM nb ws (jaD nb ws I a k) c
      rw [q2]
      have := hf c i b hc hi q1
      have := ih b (hl c i b hc q1)
      omega
theorem ja_min {J : Nat} (h : J ≤ I) : ∀ k c, jaD nb ws J a k c = min J (jaD nb ws I a k c) := by
  intro k
  induction k with
  | zero =>
    intro c
    show (if c = a then 0 else J) = min J (if c = a then 0 else I)
    split <;> omega
  | succ k ih =>
    intro c
    show jaM nb ws (jaD nb ws J a k) c = min J (jaM nb ws (jaD nb ws I a k) c)
    have l1 : jaM nb ws (jaD nb ws J a k) c ≤ jaD nb ws J a k c := ja_le
    have l2 : jaM nb ws (jaD nb ws I a k) c ≤ jaD nb ws I a k c := ja_le
    have l3 := ih c
    refine Nat.le_antisymm ?_ ?_
    · rcases ja_is (nb := nb) (ws := ws) (d := jaD nb ws I a k) (c := c) with q | ⟨i, b, hi, q1, q2⟩
      · rw [q]; omega
      · rw [q2]
        have h1 : jaM nb ws (jaD nb ws J a k) c ≤ jaD nb ws J a k b + ws c := ja_nb hi q1
        have h2 := ih b
        omega
    · rcases ja_is (nb := nb) (ws := ws) (d := jaD nb ws J a k) (c := c) with q | ⟨i, b, hi, q1, q2⟩
      · rw [q]; omega
      · rw [q2]
        have h1 : jaM nb ws (jaD nb ws I a k) c ≤ jaD nb ws I a k b + ws c := ja_nb hi q1
        have h2 := ih b
        omega
theorem ja_at0 {k : Nat} : jaD nb ws I a k a = 0 := by
  have := ja_anti (nb := nb) (ws := ws) (I := I) (a := a) (c := a) 0 k
  rw [Nat.zero_add] at this
  have e : jaD nb ws I a 0 a = 0 := if_pos rfl
  omega
end
theorem nb_far {T : Nat → Nat} {w h a : Nat} (w1 : 1 ≤ w) (w5 : w ≤ 5) (ha : a < w * h) (h0 : T a = 0) (hT : ∀ c k b, c < w * h → k < 4 → nbN w (w * h) c k = some b → T c ≤ T b + 101) : ∀ m c, c < w * h → (c % w - a % w) + (a % w - c % w) + (c / w - a / w) + (a / w - c / w) ≤ m → T c ≤ 101 * m := by
  intro m
  induction m with
  | zero =>
    intro c hc hm
    have : c = a := by
      rw [← Nat.div_add_mod c w, ← Nat.div_add_mod a w, show c % w = a % w by omega, show c / w = a / w by omega]
    rw [this, h0]
    exact Nat.zero_le _
  | succ m ih =>
    intro c hc hm
    rcases (show w = 1 ∨ w = 2 ∨ w = 3 ∨ w = 4 ∨ w = 5 by omega) with rfl | rfl | rfl | rfl | rfl
    · by_cases q1 : c % 1 < a % 1
      · have h1 := hT c 1 (c + 1) hc (by omega) (by simp only [nbN]; rw [if_pos (by omega)])
        have h2 := ih (c + 1) (by omega) (by omega)
        omega
      by_cases q2 : a % 1 < c % 1
      · have h1 := hT c 3 (c - 1) hc (by omega) (by simp only [nbN]; rw [if_pos (by omega)])
        have h2 := ih (c - 1) (by omega) (by omega)
        omega
      by_cases q3 : c / 1 < a / 1
      · have h1 := hT c 2 (c + 1) hc (by omega) (by simp only [nbN]; rw [if_pos (by omega)])
        have h2 := ih (c + 1) (by omega) (by omega)
        omega
      by_cases q4 : a / 1 < c / 1
      · have h1 := hT c 0 (c - 1) hc (by omega) (by simp only [nbN]; rw [if_pos (by omega)])
        have h2 := ih (c - 1) (by omega) (by omega)
        omega
      have h2 := ih c hc (by omega)
      omega
    · by_cases q1 : c % 2 < a % 2
      · have h1 := hT c 1 (c + 1) hc (by omega) (by simp only [nbN]; rw [if_pos (by omega)])
        have h2 := ih (c + 1) (by omega) (by omega)
        omega
      by_cases q2 : a % 2 < c % 2
      · have h1 := hT c 3 (c - 1) hc (by omega) (by simp only [nbN]; rw [if_pos (by omega)])
        have h2 := ih (c - 1) (by omega) (by omega)
        omega
      by_cases q3 : c / 2 < a / 2
      · have h1 := hT c 2 (c + 2) hc (by omega) (by simp only [nbN]; rw [if_pos (by omega)])
        have h2 := ih (c + 2) (by omega) (by omega)
        omega
      by_cases q4 : a / 2 < c / 2
      · have h1 := hT c 0 (c - 2) hc (by omega) (by simp only [nbN]; rw [if_pos (by omega)])
        have h2 := ih (c - 2) (by omega) (by omega)
        omega
      have h2 := ih c hc (by omega)
      omega
    · by_cases q1 : c % 3 < a % 3
      · have h1 := hT c 1 (c + 1) hc (by omega) (by simp only [nbN]; rw [if_pos (by omega)])
        have h2 := ih (c + 1) (by omega) (by omega)
        omega
      by_cases q2 : a % 3 < c % 3
      · have h1 := hT c 3 (c - 1) hc (by omega) (by simp only [nbN]; rw [if_pos (by omega)])
        have h2 := ih (c - 1) (by omega) (by omega)
        omega
      by_cases q3 : c / 3 < a / 3
      · have h1 := hT c 2 (c + 3) hc (by omega) (by simp only [nbN]; rw [if_pos (by omega)])
        have h2 := ih (c + 3) (by omega) (by omega)
        omega
      by_cases q4 : a / 3 < c / 3
      · have h1 := hT c 0 (c - 3) hc (by omega) (by simp only [nbN]; rw [if_pos (by omega)])
        have h2 := ih (c - 3) (by omega) (by omega)
        omega
      have h2 := ih c hc (by omega)
      omega
    · by_cases q1 : c % 4 < a % 4
      · have h1 := hT c 1 (c + 1) hc (by omega) (by simp only [nbN]; rw [if_pos (by omega)])
        have h2 := ih (c + 1) (by omega) (by omega)
        omega
      by_cases q2 : a % 4 < c % 4
      · have h1 := hT c 3 (c - 1) hc (by omega) (by simp only [nbN]; rw [if_pos (by omega)])
        have h2 := ih (c - 1) (by omega) (by omega)
        omega
      by_cases q3 : c / 4 < a / 4
      · have h1 := hT c 2 (c + 4) hc (by omega) (by simp only [nbN]; rw [if_pos (by omega)])
        have h2 := ih (c + 4) (by omega) (by omega)
        omega
      by_cases q4 : a / 4 < c / 4
      · have h1 := hT c 0 (c - 4) hc (by omega) (by simp only [nbN]; rw [if_pos (by omega)])
        have h2 := ih (c - 4) (by omega) (by omega)
        omega
      have h2 := ih c hc (by omega)
      omega
    · by_cases q1 : c % 5 < a % 5
      · have h1 := hT c 1 (c + 1) hc (by omega) (by simp only [nbN]; rw [if_pos (by omega)])
        have h2 := ih (c + 1) (by omega) (by omega)
        omega
      by_cases q2 : a % 5 < c % 5
      · have h1 := hT c 3 (c - 1) hc (by omega) (by simp only [nbN]; rw [if_pos (by omega)])
        have h2 := ih (c - 1) (by omega) (by omega)
        omega
      by_cases q3 : c / 5 < a / 5
      · have h1 := hT c 2 (c + 5) hc (by omega) (by simp only [nbN]; rw [if_pos (by omega)])
        have h2 := ih (c + 5) (by omega) (by omega)
        omega
      by_cases q4 : a / 5 < c / 5
      · have h1 := hT c 0 (c - 5) hc (by omega) (by simp only [nbN]; rw [if_pos (by omega)])
        have h2 := ih (c - 5) (by omega) (by omega)
        omega
      have h2 := ih c hc (by omega)
      omega
theorem nb_sym {w h c b k : Nat} (w1 : 1 ≤ w) (w5 : w ≤ 5) (hc : c < w * h) (hk : k < 4) (e : nbN w (w * h) c k = some b) : ∃ j, j < 4 ∧ nbN w (w * h) b j = some c := by
  rcases (show k = 0 ∨ k = 1 ∨ k = 2 ∨ k = 3 by omega) with rfl | rfl | rfl | rfl
  · simp only [nbN] at e
    split at e <;> cases e
    exact ⟨2, by omega, by simp only [nbN]; rw [if_pos (by omega)]; congr 1; omega⟩
  · simp only [nbN] at e
    split at e <;> cases e
    refine ⟨3, by omega, ?_⟩
    simp only [nbN]
    rw [if_pos (by rcases (show w = 1 ∨ w = 2 ∨ w = 3 ∨ w = 4 ∨ w = 5 by omega) with rfl | rfl | rfl | rfl | rfl <;> omega)]
    rfl
  · simp only [nbN] at e
    split at e <;> cases e
    exact ⟨0, by omega, by simp only [nbN]; rw [if_pos (by omega)]; congr 1; omega⟩
  · simp only [nbN] at e
    split at e <;> cases e
    refine ⟨1, by omega, ?_⟩
    simp only [nbN]
    rw [if_pos (by rcases (show w = 1 ∨ w = 2 ∨ w = 3 ∨ w = 4 ∨ w = 5 by omega) with rfl | rfl | rfl | rfl | rfl <;> omega)]
    congr 1
    rcases (show w = 1 ∨ w = 2 ∨ w = 3 ∨ w = 4 ∨ w = 5 by omega) with rfl | rfl | rfl | rfl | rfl <;> omega
/-! the class's weights are these -/
section
variable {g : CT} {σ : ST} {p : Nat}
theorem tr_le {c : Nat} : 1 ≤ trN σ p c ∧ trN σ p c ≤ 101 := by unfold trN; split <;> omega
theorem nb_in (hg : okG g) : ∀ c k b, c < gn g → nbN (gw g) (gn g) c k = some b → b < gn g := fun _ _ _ hc h => nbN_lt hg.1 hc h
theorem li_mono {c s : Nat} {q : WT} : ∀ k x, (liI g c s q k).1 x ≤ q.1 x := by
  intro k
  induction k with
  | zero => intro x; exact Nat.le_refl _
  | succ k ih =>
    intro x
    unfold liI
    cases hb : nbN (gw g) (gn g) c k with
    | none => exact ih x
    | some b =>
      simp only []
      split
      · rename_i z
        show va_up (liI g c s q k).1 c ((liI g c s q k).1 b + s) x ≤ _
        by_cases y : x = c
        · subst y; rw [up_at]; have := ih x; omega
        · rw [up_ne y]; exact ih x
      · exact ih x
theorem li_get {c s j b : Nat} {q : WT} (hb : nbN (gw g) (gn g) c j = some b) : ∀ k, j < k → (liI g c s q k).1 c ≤ q.1 b + s := by
  intro k
  induction k with
  | zero => intro h; omega
  | succ k ih =>
    intro hj
    by_cases y : j = k
    · subst y
      have m1 := li_mono (g := g) (c := c) (s := s) (q := q) j b
      unfold liI
      rw [hb]
      simp only []
      split
      · show va_up (liI g c s q j).1 c ((liI g c s q j).1 b + s) c ≤ _
        rw [up_at]; omega
      · omega
    · have h1 := ih (by omega)
      unfold liI
      cases hk : nbN (gw g) (gn g) c k with
      | none => exact h1
      | some b2 =>
        simp only []
        split
        · show va_up (liI g c s q k).1 c ((liI g c s q k).1 b2 + s) c ≤ _
          rw [up_at]; omega
        · exact h1
theorem li_ge {T : Nat → Nat} {c : Nat} {q : WT} (hl : ∀ c k b, c < gn g → nbN (gw g) (gn g) c k = some b → b < gn g) (hT : ∀ c k b, c < gn g → k < 4 → nbN (gw g) (gn g) c k = some b → T c ≤ T b + trN σ p c) (hc : c < gn g) (hq : ∀ x, x < gn g → T x ≤ q.1 x) : ∀ k, k ≤ 4 → ∀ x, x < gn g → T x ≤ (liI g c (trN σ p c) q k).1 x := by
  intro k
  induction k with
  | zero => intro _; exact hq
  | succ k ih =>
    intro hk x hx
    unfold liI
    cases hb : nbN (gw g) (gn g) c k with
    | none => exact ih (by omega) x hx
    | some b =>
      simp only []
      split
      · show T x ≤ va_up (liI g c (trN σ p c) q k).1 c ((liI g c (trN σ p c) q k).1 b + trN σ p c) x
        by_cases y : x = c
        · subst y
          rw [up_at]
          have := hT x k b hc (by omega) hb
          have := ih (by omega) b (hl x k b hc hb)
          omega
        · rw [up_ne y]; exact ih (by omega) x hx
      · exact ih (by omega) x hx
theorem li_flag {c s : Nat} {q : WT} : ∀ k, (liI g c s q k).2 = false → liI g c s q k = q := by
  intro k
  induction k with
  | zero => intro _; rfl
  | succ k ih =>
    intro h
    unfold liI at h ⊢
    cases hb : nbN (gw g) (gn g) c k with
    | none => rw [hb] at h; exact ih h
    | some b =>
      rw [hb] at h
      simp only [] at h ⊢
      split at h
      · cases h
      · rename_i z
        rw [if_neg z]
        exact ih h
theorem lo_mono {q : WT} : ∀ k x, (liO g σ p q k).1 x ≤ q.1 x := by
  intro k
  induction k with
  | zero => intro x; exact Nat.le_refl _
  | succ k ih => intro x; exact Nat.le_trans (li_mono 4 x) (ih x)
theorem lo_get {c j b : Nat} {q : WT} (hj : j < 4) (hb : nbN (gw g) (gn g) c j = some b) : ∀ k, c < k → (liO g σ p q k).1 c ≤ q.1 b + trN σ p c := by
  intro k
  induction k with
  | zero => intro h; omega
  | succ k ih =>
    intro hk
    by_cases y : c = k
    · subst y
      have h1 := li_get (g := g) (s := trN σ p c) (q := liO g σ p q c) hb 4 hj
      have h2 := lo_mono (g := g) (σ := σ) (p := p) (q := q) c b
      show (liI g c (trN σ p c) (liO g σ p q c) 4).1 c ≤ _
      omega
    · exact Nat.le_trans (li_mono 4 c) (ih (by omega))
theorem lo_ge {T : Nat → Nat} {q : WT} (hl : ∀ c k b, c < gn g → nbN (gw g) (gn g) c k = some b → b < gn g) (hT : ∀ c k b, c < gn g → k < 4 → nbN (gw g) (gn g) c k = some b → T c ≤ T b + trN σ p c) (hq : ∀ x, x < gn g → T x ≤ q.1 x) : ∀ k, k ≤ gn g → ∀ x, x < gn g → T x ≤ (liO g σ p q k).1 x := by
  intro k
  induction k with
  | zero => intro _; exact hq
  | succ k ih => intro hk; exact li_ge hl hT (by omega) (ih (by omega)) 4 (Nat.le_refl 4)
theorem lo_flag {q : WT} : ∀ k, (liO g σ p q k).2 = false → liO g σ p q k = q := by
  intro k
  induction k with
  | zero => intro _; rfl
  | succ k ih =>
    intro h
    have e : liO g σ p q (k + 1) = liO g σ p q k := li_flag 4 h
    rw [e] at h ⊢
    exact ih h
theorem we_ja (hg : okG g) (ha : s_pl σ p < gn g) {c : Nat} (hc : c < gn g) : (weI g σ p 25).1 c = jaD (nbN (gw g) (gn g)) (trN σ p) 1000000 (s_pl σ p) (gn g) c := by
  have on25 := gn_le hg.2.1 hg.2.2.2.1
  have hl := nb_in hg
  have hw : ∀ c, 1 ≤ trN σ p c := fun c => tr_le.1
  obtain ⟨T, hTe⟩ : ∃ T, T = jaD (nbN (gw g) (gn g)) (trN σ p) 1000000 (s_pl σ p) (gn g) := ⟨_, rfl⟩
  have hT : ∀ c k b, c < gn g → k < 4 → nbN (gw g) (gn g) c k = some b → T c ≤ T b + trN σ p c := by
    rw [hTe]; exact fun c k b h1 h2 h3 => ja_fix hw hl h1 h2 h3
  have main : ∀ i, (∀ c, c < gn g → T c ≤ (weI g σ p i).1 c) ∧ (((weI g σ p i).2 = true ∧ ∀ c, c < gn g → (weI g σ p i).1 c ≤ jaD (nbN (gw g) (gn g)) (trN σ p) 1000000 (s_pl σ p) i c) ∨ ∀ c, c < gn g → (weI g σ p i).1 c ≤ T c) := by
    intro i
    induction i with
    | zero =>
      have e : ∀ c, (weI g σ p 0).1 c = jaD (nbN (gw g) (gn g)) (trN σ p) 1000000 (s_pl σ p) 0 c := by
        intro c
        show va_up (fun _ => 1000000) (s_pl σ p) 0 c = if c = s_pl σ p then 0 else 1000000
        unfold va_up
        rfl
      refine ⟨fun c hc => ?_, Or.inl ⟨rfl, fun c _ => Nat.le_of_eq (e c)⟩⟩
      rw [e c, hTe]
      have := ja_anti (nb := nbN (gw g) (gn g)) (ws := trN σ p) (I := 1000000) (a := s_pl σ p) (c := c) 0 (gn g)
      rw [Nat.zero_add] at this
      exact this
    | succ i ih =>
      obtain ⟨h1, h2⟩ := ih
      by_cases q : (weI g σ p i).2 = true
      · have e : weI g σ p (i + 1) = liO g σ p ((weI g σ p i).1, false) (gn g) := by simp only [weI]; rw [if_pos q]
        refine ⟨by rw [e]; exact lo_ge (q := ((weI g σ p i).1, false)) hl hT h1 (gn g) (Nat.le_refl _), ?_⟩
        rcases h2 with ⟨-, h2⟩ | h2
        · cases hf : (weI g σ p (i + 1)).2
          · refine Or.inr ?_
            rw [e] at hf
            have e2 := lo_flag (gn g) hf
            rw [e, e2]
            intro c hc
            rw [hTe]
            refine ja_ge (v := (weI g σ p i).1) ?_ (fun c _ => weI_le i c) hl (fun c k b h3 h4 h5 => ?_) (gn g) c hc
            · have := h2 (s_pl σ p) ha
              rw [ja_at0] at this
              omega
            · have := lo_get (g := g) (σ := σ) (p := p) (q := ((weI g σ p i).1, false)) h4 h5 (gn g) h3
              rw [e2] at this
              exact this
          · refine Or.inl ⟨rfl, fun c hc => ?_⟩
            rw [e]
            show _ ≤ jaM (nbN (gw g) (gn g)) (trN σ p) (jaD (nbN (gw g) (gn g)) (trN σ p) 1000000 (s_pl σ p) i) c
            rcases ja_is (nb := nbN (gw g) (gn g)) (ws := trN σ p) (d := jaD (nbN (gw g) (gn g)) (trN σ p) 1000000 (s_pl σ p) i) (c := c) with z | ⟨k, b, hk, z1, z2⟩
            · rw [z]; exact Nat.le_trans (lo_mono (gn g) c) (h2 c hc)
            · rw [z2]
              have := lo_get (g := g) (σ := σ) (p := p) (q := ((weI g σ p i).1, false)) hk z1 (gn g) hc
              have := h2 b (hl c k b hc z1)
              have y : (liO g σ p ((weI g σ p i).1, false) (gn g)).1 c ≤ (weI g σ p i).1 b + trN σ p c := by assumption
              omega
        · refine Or.inr (fun c hc => ?_)
          rw [e]
          exact Nat.le_trans (lo_mono (gn g) c) (h2 c hc)
      · have e : weI g σ p (i + 1) = weI g σ p i := by simp only [weI]; rw [if_neg q]
        rw [e]
        refine ⟨h1, ?_⟩
        rcases h2 with ⟨h2, -⟩ | h2
        · exact absurd h2 q
        · exact Or.inr h2
  obtain ⟨m1', m2⟩ := main 25
  rw [← hTe]
  refine Nat.le_antisymm ?_ (m1' c hc)
  rcases m2 with ⟨-, m2⟩ | m2
  · have := ja_anti (nb := nbN (gw g) (gn g)) (ws := trN σ p) (I := 1000000) (a := s_pl σ p) (c := c) (gn g) (25 - gn g)
    rw [show gn g + (25 - gn g) = 25 by omega] at this
    rw [hTe]
    exact Nat.le_trans (m2 c hc) this
  · exact m2 c hc
theorem we_is (hg : okG g) (ha : s_pl σ p < gn g) {c : Nat} (hc : c < gn g) : (weI g σ p 25).1 c = jaD (nbN (gw g) (gn g)) (trN σ p) 100000 (s_pl σ p) (gn g) c := by
  have on25 := gn_le hg.2.1 hg.2.2.2.1
  have hl := nb_in hg
  have hw : ∀ c, 1 ≤ trN σ p c := fun c => tr_le.1
  rw [we_ja hg ha hc, ja_min (I := 1000000) (J := 100000) (by omega)]
  have w1 := hg.1
  have w5 := hg.2.1
  have b := nb_far (T := jaD (nbN (gw g) (gn g)) (trN σ p) 1000000 (s_pl σ p) (gn g)) (w := gw g) (h := gh g) (a := s_pl σ p) w1 w5 ha ja_at0 (fun c k b h1 h2 h3 => by
    have h4 := ja_fix (I := 1000000) (a := s_pl σ p) hw hl h1 h2 h3
    have h5 := (tr_le (σ := σ) (p := p) (c := c)).2
    omega) 100 c hc (by
      have h1 := Nat.mod_lt c w1
      have h2 := Nat.mod_lt (s_pl σ p) w1
      have h3 : c / gw g ≤ c := Nat.div_le_self _ _
      have h4 : s_pl σ p / gw g ≤ s_pl σ p := Nat.div_le_self _ _
      generalize c / gw g = u1 at *
      generalize s_pl σ p / gw g = u2 at *
      generalize c % gw g = u3 at *
      generalize s_pl σ p % gw g = u4 at *
      omega)
  omega
end
