set_option maxHeartbeats 400000
/-! canton keeps the bounds -/
theorem ls_ok {t : TX} (h7 : t.1 ≤ 700) : ∀ k s z, s ≤ t.1 → okD z → (∀ c p, lsX t k s z = .inl (c, p) → 1 ≤ c ∧ c ≤ 5 ∧ p ≤ t.1) ∧ ∀ g, lsX t k s z = .inr g → okG g := by
  intro k
  induction k with
  | zero => intro s z hs ok; exact ⟨fun c p h => (by cases h), fun g h => by cases h; exact ok.1⟩
  | succ k ih =>
    intro s z hs ok
    by_cases e : kdN t s = 0
    · rw [ls_end e]; exact ⟨fun c p h => (by cases h), fun g h => by cases h; exact ok.1⟩
    · have hg := gl_line h7 ok (kd_lt e)
      cases e2 : lnX t s z with
      | inl y =>
        obtain ⟨c, p⟩ := y
        rw [ls_in e e2]
        exact ⟨fun c2 p2 h => by cases h; exact hg.1 c p e2, fun g h => by cases h⟩
      | inr y =>
        obtain ⟨s2, z2⟩ := y
        rw [ls_on e e2]
        have := hg.2 s2 z2 e2
        exact ih s2 z2 this.2.1 this.2.2
theorem hd_ok {t : TX} : GL t 0 (hdX t) ∨ ∃ s, hdX t = .inr (s, z00) ∧ s ≤ t.1 := by
  have l3 := (sk_le (t := t) (Nat.zero_le _)).2
  unfold hdX
  cases q : wdB t (skN t 0) w_canton with
  | false => exact Or.inr ⟨_, rfl, l3⟩
  | true =>
    have hlt := wd_lt q
    have y1 := nx_lt hlt
    have y2 := nx_le y1.2
    have y3 := nx_le y2.2
    refine Or.inl (show GL t 0 (szX t (skN t 0) z00) from ?_)
    exact (gl_nu y1.2 (fun x1 => gl_nu y2.2 (fun x2 => gl_ps (by omega) y3.2 (ok_size ok_00 rfl rfl (nu_0 x1).2.2.1 (nu_0 x1).2.2.2 (nu_0 x2).2.2.1 (nu_0 x2).2.2.2))))
theorem tx_ok {t : TX} (h7 : t.1 ≤ 700) : (∀ c p, txX t = .inl (c, p) → 1 ≤ c ∧ c ≤ 5 ∧ p ≤ t.1) ∧ ∀ g, txX t = .inr g → okG g := by
  unfold txX
  rcases hd_ok (t := t) with hg | ⟨s, e, hs⟩
  · cases e : hdX t with
    | inl y =>
      obtain ⟨c, p⟩ := y
      exact ⟨fun c2 p2 h => by cases h; exact hg.1 c p e, fun g h => by cases h⟩
    | inr y =>
      obtain ⟨s, z⟩ := y
      have := hg.2 s z e
      exact ls_ok h7 700 s z this.2.1 this.2.2
  · rw [e]
    exact ls_ok h7 700 s z00 hs ok_00
theorem ok_canton {w : WD} (ok : okW w) {x : Int32} : okW (cnD w x).2 := by
  obtain ⟨o1, o2, o3, o4, o5, o6⟩ := ok
  unfold cnD
  cases hx : ixO (wq_tn w + 1) x with
  | none => exact ⟨o1, o2, o3, o4, o5, o6⟩
  | some n =>
    obtain ⟨hn9, rfl⟩ := ix_some (by omega) hx
    simp only []
    cases e : txX (n, wq_tp w) with
    | inl y => exact ⟨o1, o2, o3, Nat.zero_le _, fun i hi => absurd hi (Nat.not_lt_zero i), o6⟩
    | inr g =>
      have hg := (tx_ok (t := (n, wq_tp w)) (show n ≤ 700 by omega)).2 g e
      have hg9 := hg
      obtain ⟨ow1, ow5, oh1, oh5, onp, onf, ohg, okd, ohm, oht, ofh, ofc, ofm, ofm2, ors, oR⟩ := hg9
      refine ⟨hg, ⟨⟨⟨Nat.zero_le _, ohm, fun _ _ => Nat.zero_le _, fun _ _ => Or.inl rfl, oht, fun _ _ _ => rfl⟩, rfl, rfl⟩, ⟨Nat.zero_le _, fun i hi => absurd hi (Nat.not_lt_zero i)⟩, Nat.zero_le _, fun i hi => absurd hi (Nat.not_lt_zero i)⟩, ⟨Nat.zero_le _, fun i hi => absurd hi (Nat.not_lt_zero i)⟩, Nat.zero_le _, fun i hi => absurd hi (Nat.not_lt_zero i), fun m hm => by cases hm⟩
