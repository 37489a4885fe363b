set_option maxHeartbeats 400000
/-! THE RUN ON DATA IS RIGHT -/
section
variable {L9 : Nat} {xs : Nat → Int32} {r0 : Option Nat} {c c' : CH}
theorem is_C {a k : Nat} (h : isC c a k = true) : 100 ≤ a ∧ a < 100 + c.1.length ∧ (cSh c a).1 = k := by
  unfold isC at h
  rw [Bool.and_eq_true, Bool.and_eq_true, Nat.blt_eq] at h
  exact ⟨Nat.le_of_ble_eq_true h.1, h.2.1, eq_of_beq h.2.2⟩
theorem in_C {a : Nat} {i : Int32} (h : inC c a i = true) : vp_in i (cSh c a).2 := by
  unfold inC at h
  rw [Bool.and_eq_true, Nat.blt_eq] at h
  intro q
  rcases q with q | q
  · rw [decide_eq_true q] at h
    exact absurd h.1 (by decide)
  · omega
theorem st_22 {L y : Nat} (h5 : 10 ≤ y) (h6 : y < 44) : (sSx L y).1 = 22 ∧ y < 100 := by
  unfold sSx
  rw [if_neg (by omega), if_neg (by omega), if_pos (by omega)]
  exact ⟨rfl, by omega⟩
theorem hp_sp {x : _} {r1 r2 r3 : Nat} {S : List Value} {h9 : aH} : a_hp aft (.invokespecial x) [r1, r2, r3] S h9 = none := by
  first
  | (simp only [a_hp]; done)
  | (simp only [a_hp]; split <;> first | rfl | (rename_i q; cases q) | (rename_i q _; cases q) | simp_all)
  | simp [a_hp]
theorem hp_st {x : _} {r1 r2 r3 : Nat} {S : List Value} {h9 : aH} : a_hp aft (.invokestatic x) [r1, r2, r3] S h9 = none := by
  first
  | (simp only [a_hp]; done)
  | (simp only [a_hp]; split <;> first | rfl | (rename_i q; cases q) | (rename_i q _; cases q) | simp_all)
  | simp [a_hp]
theorem hp_ok {ins : Instr} {rs : List Nat} {S S' : List Value} (h : c_hp ins rs S c = some (S', c')) (g : gdC c) : (∃ cnd, a_hp aft ins rs S (ab L9 xs r0 c) = some (cnd, S', ab L9 xs r0 c') ∧ cnd) ∧ gdC c' ∧ c'.1 = c.1 := by
  unfold c_hp at h
  split at h
  · split at h
    · rename_i ci f a S9
      cases q : isC c a (10 + ci) with
      | false => rw [q] at h; cases h
      | true =>
        rw [q] at h
        obtain ⟨h1, h2, h3⟩ := is_C q
        have e9 : (a_sh (ab L9 xs r0 c) a).1 = 10 + ci := by rw [ab_sh h1]; exact h3
        simp only [cond_true] at h
        by_cases e : aft ci f = 2
        · simp only [e] at h
          cases h
          refine ⟨⟨_, ?_, e9⟩, g, rfl⟩
          simp only [a_hp, e]
          rw [ab_r h1]
        · have h4 : some (Value.int (rdI c.2.1 a f 0) :: S9, c) = some (S', c') := by
            revert h
            split
            · rename_i e2; exact absurd e2 e
            · exact fun h => h
          cases h4
          refine ⟨⟨_, ?_, e9⟩, g, rfl⟩
          simp only [a_hp]
          rw [ab_i h1]
    · cases h
  · split at h
    · rename_i ci f x a S9
      cases q : isC c a (10 + ci) with
      | false => rw [q] at h; cases h
      | true =>
        rw [q] at h
        obtain ⟨h1, h2, h3⟩ := is_C q
        have e9 : (a_sh (ab L9 xs r0 c) a).1 = 10 + ci := by rw [ab_sh h1]; exact h3
        simp only [cond_true] at h
        split at h
        · rename_i e
          cases h
          refine ⟨⟨_, ?_, e9⟩, gd_i g h1 h2, rfl⟩
          simp only [a_hp, e]
          rfl
        · rename_i e
          by_cases x0 : x = 0
          · rw [decide_eq_true x0] at h
            cases h
            refine ⟨⟨(a_sh (ab L9 xs r0 c) a).1 = 10 + ci ∧ (x = 0 ∨ x = 1), ?_, e9, Or.inl x0⟩, gd_i g h1 h2, rfl⟩
            simp only [a_hp, e]
            rfl
          · rw [decide_eq_false x0] at h
            cases h
        · cases h
    · rename_i ci f x a S9
      cases q : isC c a (10 + ci) with
      | false => rw [q] at h; cases h
      | true =>
        rw [q] at h
        obtain ⟨h1, h2, h3⟩ := is_C q
        have e9 : (a_sh (ab L9 xs r0 c) a).1 = 10 + ci := by rw [ab_sh h1]; exact h3
        simp only [cond_true] at h
        split at h
        · rename_i e
          cases h
          refine ⟨⟨_, ?_, e9⟩, gdr_C g h1 h2, rfl⟩
          simp only [a_hp, e]
          rfl
        · cases h
    · cases h
  · split at h
    · rename_i x i a S9
      cases q : (isC c a 1 && inC c a i) with
      | false => rw [q] at h; cases h
      | true =>
        rw [q] at h
        rw [Bool.and_eq_true] at q
        obtain ⟨h1, h2, h3⟩ := is_C q.1
        have h4 := in_C q.2
        cases h
        exact ⟨⟨(a_sh (ab L9 xs r0 c) a).1 = 1 ∧ vp_in i (a_sh (ab L9 xs r0 c) a).2, rfl, by rw [ab_sh h1]; exact ⟨h3, h4⟩⟩, gd_i g h1 h2, rfl⟩
    · cases h
  · split at h
    · rename_i x i a S9
      cases q : (isC c a 4 && inC c a i && Nat.ble 10 x && Nat.blt x 44) with
      | false => rw [q] at h; cases h
      | true =>
        rw [q] at h
        rw [Bool.and_eq_true, Bool.and_eq_true, Bool.and_eq_true, Nat.blt_eq] at q
        obtain ⟨h1, h2, h3⟩ := is_C q.1.1.1
        have h4 := in_C q.1.1.2
        have h5 := Nat.le_of_ble_eq_true q.1.2
        have h6 := q.2
        have h7 : (a_sh (ab L9 xs r0 c) x).1 = 22 := by
          show (if x < 100 then sSx L9 x else _).1 = 22
          rw [if_pos (st_22 (L := L9) h5 h6).2]
          exact (st_22 h5 h6).1
        cases h
        exact ⟨⟨(a_sh (ab L9 xs r0 c) a).1 = 4 ∧ vp_in i (a_sh (ab L9 xs r0 c) a).2 ∧ (a_sh (ab L9 xs r0 c) x).1 = 22, rfl, by rw [ab_sh h1]; exact ⟨h3, h4, h7⟩⟩, gdr_C g h1 h2, rfl⟩
    · cases h
  · split at h
    · rename_i a S9
      cases q : isC c a 1 with
      | false => rw [q] at h; cases h
      | true =>
        rw [q] at h
        obtain ⟨h1, h2, h3⟩ := is_C q
        cases h
        refine ⟨⟨a_isL (a_sh (ab L9 xs r0 c) a).1 = true, ?_, by rw [ab_sh h1, h3]; rfl⟩, g, rfl⟩
        simp only [a_hp]
        rw [ab_sh h1]
    · cases h
  · split at h
    · rename_i n dp d sp s S9
      cases q : (isC c s 1 && isC c d 1 && !decide (sp < 0) && !decide (dp < 0) && !decide (n < 0) && Nat.ble (sp.toNatClampNeg + n.toNatClampNeg) (cSh c s).2 && Nat.ble (dp.toNatClampNeg + n.toNatClampNeg) (cSh c d).2 && Nat.ble (S9.map Value.category).sum 8) with
      | false => rw [q] at h; cases h
      | true =>
        rw [q] at h
        rw [Bool.and_eq_true, Bool.and_eq_true, Bool.and_eq_true, Bool.and_eq_true, Bool.and_eq_true, Bool.and_eq_true, Bool.and_eq_true] at q
        obtain ⟨⟨⟨⟨⟨⟨⟨q1, q2⟩, q3⟩, q4⟩, q5⟩, q6⟩, q7⟩, q8⟩ := q
        obtain ⟨h1, h2, h3⟩ := is_C q1
        obtain ⟨k1, k2, k3⟩ := is_C q2
        have n3 : ¬ sp < 0 := fun y => by rw [decide_eq_true y] at q3; exact absurd q3 (by decide)
        have n4 : ¬ dp < 0 := fun y => by rw [decide_eq_true y] at q4; exact absurd q4 (by decide)
        have n5 : ¬ n < 0 := fun y => by rw [decide_eq_true y] at q5; exact absurd q5 (by decide)
        cases h
        refine ⟨⟨((a_sh (ab L9 xs r0 c) s).1 = 1 ∧ (a_sh (ab L9 xs r0 c) d).1 = 1) ∧ (¬ sp < 0 ∧ ¬ dp < 0 ∧ ¬ n < 0) ∧ sp.toNatClampNeg + n.toNatClampNeg ≤ (a_sh (ab L9 xs r0 c) s).2 ∧ dp.toNatClampNeg + n.toNatClampNeg ≤ (a_sh (ab L9 xs r0 c) d).2, ?_, ?_⟩, gd_cp g k1 k2 _, rfl⟩
        · simp only [a_hp]
          rw [if_pos (Nat.le_of_ble_eq_true q8), ab_cp h1]
        · rw [ab_sh h1, ab_sh k1]
          exact ⟨⟨h3, k3⟩, ⟨n3, n4, n5⟩, Nat.le_of_ble_eq_true q6, Nat.le_of_ble_eq_true q7⟩
    · cases h
  · split at h
    · rename_i a S9
      cases q : Nat.ble (S9.map Value.category).sum 8 with
      | false => rw [q] at h; cases h
      | true =>
        rw [q] at h
        cases h
        refine ⟨⟨True, ?_, trivial⟩, g, rfl⟩
        simp only [a_hp]
        rw [if_pos (Nat.le_of_ble_eq_true q)]
    · cases h
  · cases h
theorem br_ok {ins : Instr} {rs : List Nat} {S S' : List Value} {b : Bool} {h9 : aH} (h : c_br ins S = some (b, S')) : a_hp aft ins rs S h9 = none ∧ ∃ cnd, a_br ins S = some (cnd, S') ∧ (b = true → cnd) ∧ (b = false → ¬ cnd) := by
  unfold c_br at h
  split at h
  · split at h
    · cases h
      exact ⟨rfl, _, rfl, of_decide_eq_true, of_decide_eq_false⟩
    · cases h
  · split at h
    · cases h
      exact ⟨rfl, _, rfl, of_decide_eq_true, of_decide_eq_false⟩
    · cases h
  · split at h
    · cases h
      exact ⟨rfl, _, rfl, of_decide_eq_true, of_decide_eq_false⟩
    · cases h
  · cases h
theorem call_ok {ins : Instr} {rs : List Nat} {S S' as : List Value} {k : Nat} (h : c_call ins rs S c = some (k, as, S')) : ((∃ x, ins = .invokevirtual x) ∨ (∃ x, ins = .invokespecial x) ∨ ∃ x, ins = .invokestatic x) ∧ (∃ a b e, rs = [a, b, e]) ∧ ∃ cnd th, a_call ins rs S (ab L9 xs r0 c) = some (cnd, k, as, S', th) ∧ cnd := by
  unfold c_call at h
  split at h
  · rename_i x k9 n ci
    cases q : (Nat.ble n S.length && Nat.ble ((S.drop n).map Value.category).sum 8) with
    | false => rw [q] at h; cases h
    | true =>
      rw [q] at h
      rw [Bool.and_eq_true] at q
      have q1 := Nat.le_of_ble_eq_true q.1
      have q2 := Nat.le_of_ble_eq_true q.2
      simp only [cond_true] at h
      split at h
      · rename_i a as9 e
        cases q3 : isC c a (10 + ci) with
        | false => rw [q3] at h; cases h
        | true =>
          rw [q3] at h
          obtain ⟨h1, h2, h3⟩ := is_C q3
          cases h
          refine ⟨Or.inl ⟨x, rfl⟩, ⟨_, _, _, rfl⟩, (a_sh (ab L9 xs r0 c) a).1 = 10 + ci, true, ?_, by rw [ab_sh h1]; exact h3⟩
          simp only [a_call]
          rw [if_pos ⟨q1, q2⟩, e]
      · cases h
  · rename_i x k9 n e9
    cases q : (Nat.ble n S.length && Nat.ble ((S.drop n).map Value.category).sum 8) with
    | false => rw [q] at h; cases h
    | true =>
      rw [q] at h
      rw [Bool.and_eq_true] at q
      have q1 := Nat.le_of_ble_eq_true q.1
      have q2 := Nat.le_of_ble_eq_true q.2
      simp only [cond_true] at h
      split at h
      · rename_i a as9 e
        cases h
        refine ⟨Or.inr (Or.inl ⟨x, rfl⟩), ⟨_, _, _, rfl⟩, True, false, ?_, trivial⟩
        simp only [a_call]
        rw [if_pos ⟨q1, q2⟩, e]
      · cases h
  · rename_i x k9 n e9
    cases q : (Nat.ble n S.length && Nat.ble ((S.drop n).map Value.category).sum 8) with
    | false => rw [q] at h; cases h
    | true =>
      rw [q] at h
      rw [Bool.and_eq_true] at q
      have q1 := Nat.le_of_ble_eq_true q.1
      have q2 := Nat.le_of_ble_eq_true q.2
      cases h
      refine ⟨Or.inr (Or.inr ⟨x, rfl⟩), ⟨_, _, _, rfl⟩, True, true, ?_, trivial⟩
      simp only [a_call]
      rw [if_pos ⟨q1, q2⟩]
  · cases h
theorem mk_ok {ins : Instr} {rs : List Nat} {S S' : List Value} {sl : Nat} {sh : Nat × Nat} (h : c_mk ins rs S = some (sl, sh, S')) : ((∃ x ci, ins = .new x ∧ rs = [ci]) ∨ (∃ x n, ins = .newarray x ∧ S = .int n :: S') ∨ (∃ x n, ins = .anewarray x ∧ S = .int n :: S')) ∧ ∃ cnd, a_mk anf ins rs S = some (cnd, sl, sh, S') ∧ cnd := by
  have arr : ∀ {n : Int32}, (!decide (n < 0) && Nat.ble n.toNatClampNeg 100000) = true → ¬ n < 0 ∧ n.toNatClampNeg ≤ 100000 := by
    intro n q
    rw [Bool.and_eq_true] at q
    exact ⟨fun y => by rw [decide_eq_true y] at q; exact absurd q.1 (by decide), Nat.le_of_ble_eq_true q.2⟩
  unfold c_mk at h
  split at h
  · split at h
    · rename_i x ci
      cases h
      exact ⟨Or.inl ⟨_, _, rfl, rfl⟩, True, rfl, trivial⟩
    · cases h
  · split at h
    · rename_i n S9
      cases q : (!decide (n < 0) && Nat.ble n.toNatClampNeg 100000) with
      | false => rw [q] at h; cases h
      | true =>
        rw [q] at h
        cases h
        exact ⟨Or.inr (Or.inl ⟨_, _, rfl, rfl⟩), ¬ n < 0 ∧ n.toNatClampNeg ≤ 100000, rfl, arr q⟩
    · cases h
  · split at h
    · rename_i n S9
      cases q : (!decide (n < 0) && Nat.ble n.toNatClampNeg 100000) with
      | false => rw [q] at h; cases h
      | true =>
        rw [q] at h
        cases h
        exact ⟨Or.inr (Or.inl ⟨_, _, rfl, rfl⟩), ¬ n < 0 ∧ n.toNatClampNeg ≤ 100000, rfl, arr q⟩
    · cases h
  · split at h
    · rename_i n S9
      cases q : (!decide (n < 0) && Nat.ble n.toNatClampNeg 100000) with
      | false => rw [q] at h; cases h
      | true =>
        rw [q] at h
        cases h
        exact ⟨Or.inr (Or.inr ⟨_, _, rfl, rfl⟩), ¬ n < 0 ∧ n.toNatClampNeg ≤ 100000, rfl, arr q⟩
    · cases h
  · cases h
def okRn (L9 : Nat) (xs : Nat → Int32) (r0 : Option Nat) (C : aC) (R : Nat → List Value → CH × Nat → Option (CH × Nat)) : Prop := ∀ k as c c', R k as c = some c' → gdC c.1 → gdC c'.1 ∧ c.1.1.length ≤ c'.1.1.length ∧ c.2 ≤ c'.2 ∧ ∀ (Q : aQ) bc bs, c'.1.1.length ≤ c.1.1.length + bc → c'.2 ≤ c.2 + bs → Q (.inl none) (ab L9 xs r0 c'.1) → C k as (ab L9 xs r0 c.1) bc bs Q
set_option maxHeartbeats 1000000 in
theorem rnL_ok {C : aC} {R : Nat → List Value → CH × Nat → Option (CH × Nat)} {P : List aEnt} (hR : okRn L9 xs r0 C R) : ∀ n i L S c c', rnL R P n i L S c = some c' → gdC c.1 → gdC c'.1 ∧ c.1.1.length ≤ c'.1.1.length ∧ c.2 ≤ c'.2 ∧ ∀ (Q : aQ) bc bs, c'.1.1.length ≤ c.1.1.length + bc → c'.2 ≤ c.2 + bs → Q (.inl none) (ab L9 xs r0 c'.1) → wpL aft anf C none P [] n i L S (ab L9 xs r0 c.1) bc bs Q := by
  intro n
  induction n with
  | zero => intro i L S c c' h; cases h
  | succ n ih =>
    intro i L S c c' h g
    cases hP : P[i]? with
    | none => simp only [rnL, hP] at h; cases h
    | some q =>
      obtain ⟨o, ins, rs⟩ := q
      simp only [rnL, hP] at h
      simp only [wpL, hP]
      cases h1 : a_pure ins rs S with
      | some S' => simp only [h1] at h ⊢; exact ih _ _ _ _ _ h g
      | none =>
      simp only [h1] at h ⊢
      cases h2 : a_loc ins L S with
      | some q2 => simp only [h2] at h ⊢; exact ih _ _ _ _ _ h g
      | none =>
      simp only [h2] at h ⊢
      cases h3 : c_hp ins rs S c.1 with
      | some q3 =>
        obtain ⟨S', c1⟩ := q3
        simp only [h3] at h
        obtain ⟨⟨cnd, e1, e2⟩, g1, e3⟩ := hp_ok (L9 := L9) (xs := xs) (r0 := r0) h3 g
        simp only [e1]
        obtain ⟨k1, k2, k3, k4⟩ := ih _ _ _ (c1, c.2) c' h g1
        simp only [e3] at k2 k3 k4
        exact ⟨k1, k2, k3, fun Q bc bs b1 b2 hQ => ⟨e2, k4 Q bc bs b1 b2 hQ⟩⟩
      | none =>
      simp only [h3] at h
      cases h4 : c_br ins S with
      | some q4 =>
        obtain ⟨b, S'⟩ := q4
        simp only [h4] at h
        obtain ⟨e0, cnd, e1, e2, e3⟩ := br_ok (rs := rs) (h9 := ab L9 xs r0 c.1) h4
        simp only [e0, e1]
        cases b with
        | true =>
          obtain ⟨k1, k2, k3, k4⟩ := ih _ _ _ _ _ h g
          exact ⟨k1, k2, k3, fun Q bc bs b1 b2 hQ => ⟨fun _ => k4 Q bc bs b1 b2 hQ, fun y => absurd (e2 rfl) y⟩⟩
        | false =>
          obtain ⟨k1, k2, k3, k4⟩ := ih _ _ _ _ _ h g
          exact ⟨k1, k2, k3, fun Q bc bs b1 b2 hQ => ⟨fun y => absurd y (e3 rfl), fun _ => k4 Q bc bs b1 b2 hQ⟩⟩
      | none =>
      simp only [h4] at h
      have key : (match c_call ins rs S c.1 with
                | some (k, as, S') => (match R k as c with | some c' => rnL R P n (i + 1) L S' c' | none => none)
                | none => match c_mk ins rs S with
                  | some (sl, sh, S') => rnL R P n (i + 1) L (.ref (100 + c.1.1.length) :: S') ((c.1.1 ++ [sh], c.1.2.1, c.1.2.2), c.2 + sl)
                  | none => none) = some c' → gdC c'.1 ∧ c.1.1.length ≤ c'.1.1.length ∧ c.2 ≤ c'.2 ∧ ∀ (Q : aQ) bc bs, c'.1.1.length ≤ c.1.1.length + bc → c'.2 ≤ c.2 + bs → Q (.inl none) (ab L9 xs r0 c'.1) → wpL aft anf C none P [] (n + 1) i L S (ab L9 xs r0 c.1) bc bs Q := by
        intro hz
        cases h5 : c_call ins rs S c.1 with
        | some q5 =>
          obtain ⟨k, as, S'⟩ := q5
          simp only [h5] at hz
          cases h6 : R k as c with
          | none => simp only [h6] at hz; cases hz
          | some c1 =>
            simp only [h6] at hz
            obtain ⟨y1, ⟨r1, r2, r3, rfl⟩, cnd, th, e1, e2⟩ := call_ok (L9 := L9) (xs := xs) (r0 := r0) h5
            obtain ⟨g1, l1, l2, w1⟩ := hR k as c c1 h6 g
            obtain ⟨k1, k2, k3, k4⟩ := ih _ _ _ _ _ hz g1
            refine ⟨k1, Nat.le_trans l1 k2, Nat.le_trans l2 k3, fun Q bc bs b1 b2 hQ => ?_⟩
            have ea : a_hp aft ins [r1, r2, r3] S (ab L9 xs r0 c.1) = none ∧ a_br ins S = none := by
              rcases y1 with ⟨x, rfl⟩ | ⟨x, rfl⟩ | ⟨x, rfl⟩
              · exact ⟨rfl, rfl⟩
              · exact ⟨hp_sp, rfl⟩
              · exact ⟨hp_st, rfl⟩
            simp only [wpL, hP, h1, h2, ea.1, ea.2]
            rcases y1 with ⟨x, rfl⟩ | ⟨x, rfl⟩ | ⟨x, rfl⟩
            · simp only [e1]
              refine ⟨e2, c1.1.1.length - c.1.1.length, c1.2 - c.2, bc - (c1.1.1.length - c.1.1.length), bs - (c1.2 - c.2), by omega, by omega, w1 _ _ _ (by omega) (by omega) ⟨fun _ => ⟨rfl, ?_⟩, ?_⟩⟩
              · show 100 + c.1.1.length + (c1.1.1.length - c.1.1.length) ≤ 100 + c1.1.1.length
                omega
              · exact k4 Q _ _ (by omega) (by omega) hQ
            · simp only [e1]
              refine ⟨e2, c1.1.1.length - c.1.1.length, c1.2 - c.2, bc - (c1.1.1.length - c.1.1.length), bs - (c1.2 - c.2), by omega, by omega, w1 _ _ _ (by omega) (by omega) ⟨fun _ => ⟨rfl, ?_⟩, ?_⟩⟩
              · show 100 + c.1.1.length + (c1.1.1.length - c.1.1.length) ≤ 100 + c1.1.1.length
                omega
              · exact k4 Q _ _ (by omega) (by omega) hQ
            · simp only [e1]
              refine ⟨e2, c1.1.1.length - c.1.1.length, c1.2 - c.2, bc - (c1.1.1.length - c.1.1.length), bs - (c1.2 - c.2), by omega, by omega, w1 _ _ _ (by omega) (by omega) ⟨fun _ => ⟨rfl, ?_⟩, ?_⟩⟩
              · show 100 + c.1.1.length + (c1.1.1.length - c.1.1.length) ≤ 100 + c1.1.1.length
                omega
              · exact k4 Q _ _ (by omega) (by omega) hQ
        | none =>
          simp only [h5] at hz
          cases h6 : c_mk ins rs S with
          | none => simp only [h6] at hz; cases hz
          | some q6 =>
            obtain ⟨sl, sh, S'⟩ := q6
            simp only [h6] at hz
            obtain ⟨y1, cnd, e1, e2⟩ := mk_ok h6
            obtain ⟨k1, k2, k3, k4⟩ := ih _ _ _ _ _ hz (gd_new g)
            have el : (c.1.1 ++ [sh]).length = c.1.1.length + 1 := List.length_append
            simp only [el] at k2 k3 k4
            refine ⟨k1, by omega, by omega, fun Q bc bs b1 b2 hQ => ?_⟩
            have fin : cnd ∧ a_z (ab L9 xs r0 c.1) = 0 ∧ ∃ bc' bs', bc = bc' + 1 ∧ bs = bs' + sl ∧ wpL aft anf C none P [] n (i + 1) L (.ref (a_n (ab L9 xs r0 c.1)) :: S') (a_new (ab L9 xs r0 c.1) sh) bc' bs' Q := by
              refine ⟨e2, rfl, bc - 1, bs - sl, by omega, by omega, ?_⟩
              rw [ab_new g]
              exact k4 Q _ _ (by omega) (by omega) hQ
            simp only [wpL, hP, h1, h2]
            rcases y1 with ⟨x, ci, rfl, rfl⟩ | ⟨x, m, rfl, rfl⟩ | ⟨x, m, rfl, rfl⟩
            · show (match a_mk anf (.new x) [ci] S with
                | some (c9, sl, sh, S') => c9 ∧ a_z (ab L9 xs r0 c.1) = 0 ∧ ∃ bc' bs', bc = bc' + 1 ∧ bs = bs' + sl ∧ wpL aft anf C none P [] n (i + 1) L (.ref (a_n (ab L9 xs r0 c.1)) :: S') (a_new (ab L9 xs r0 c.1) sh) bc' bs' Q
                | none => False)
              simp only [e1]; exact fin
            · show (match a_mk anf (.newarray x) rs (.int m :: S') with
                | some (c9, sl, sh, S') => c9 ∧ a_z (ab L9 xs r0 c.1) = 0 ∧ ∃ bc' bs', bc = bc' + 1 ∧ bs = bs' + sl ∧ wpL aft anf C none P [] n (i + 1) L (.ref (a_n (ab L9 xs r0 c.1)) :: S') (a_new (ab L9 xs r0 c.1) sh) bc' bs' Q
                | none => False)
              simp only [e1]; exact fin
            · show (match a_mk anf (.anewarray x) rs (.int m :: S') with
                | some (c9, sl, sh, S') => c9 ∧ a_z (ab L9 xs r0 c.1) = 0 ∧ ∃ bc' bs', bc = bc' + 1 ∧ bs = bs' + sl ∧ wpL aft anf C none P [] n (i + 1) L (.ref (a_n (ab L9 xs r0 c.1)) :: S') (a_new (ab L9 xs r0 c.1) sh) bc' bs' Q
                | none => False)
              simp only [e1]; exact fin
      simp only [wpL, hP, h1, h2] at key
      cases ins
      case goto o9 =>
        obtain ⟨k1, k2, k3, k4⟩ := ih _ _ _ _ _ h g
        exact ⟨k1, k2, k3, k4⟩
      case return_ =>
        cases S with
        | nil =>
          have h8 : some c = some c' := h
          cases h8
          exact ⟨g, Nat.le_refl _, Nat.le_refl _, fun Q bc bs b1 b2 hQ => ⟨trivial, hQ⟩⟩
        | cons v S =>
          have h8 : (none : Option (CH × Nat)) = some c' := h
          cases h8
      all_goals exact key h
theorem rnM_ok : ∀ d, okRn L9 xs r0 (wpM aft anf apr d) (rnM d) := by
  intro d
  induction d with
  | zero => intro k as c c' h; cases h
  | succ d ih =>
    intro k as c c' h g
    unfold rnM at h
    cases hk : apr k with
    | none => simp only [hk] at h; cases h
    | some M =>
      obtain ⟨m1, m2, nL, ret, P, hs, m3⟩ := M
      simp only [hk] at h
      cases q : (Nat.ble (a_ent as).length nL && ret.isNone && hs.isEmpty) with
      | false => rw [q] at h; cases h
      | true =>
        rw [q] at h
        rw [Bool.and_eq_true, Bool.and_eq_true] at q
        have q1 := Nat.le_of_ble_eq_true q.1.1
        have q2 : ret = none := Option.isNone_iff_eq_none.mp q.1.2
        have q3 : hs = [] := List.isEmpty_iff.mp q.2
        subst q2 q3
        obtain ⟨k1, k2, k3, k4⟩ := rnL_ok ih _ _ _ _ _ _ h g
        refine ⟨k1, k2, k3, fun Q bc bs b1 b2 hQ => ?_⟩
        unfold wpM
        rw [hk]
        exact ⟨q1, _, k4 Q bc bs b1 b2 hQ⟩
end
