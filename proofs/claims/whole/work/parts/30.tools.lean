/-! THE PURE SIDE: tools -/
def C_le (C C' : aC) : Prop := ∀ k as h bc bs Q Q', (∀ r h, Q r h → Q' r h) → C k as h bc bs Q → C' k as h bc bs Q'
set_option maxHeartbeats 1000000 in
theorem wpL_le {ft : aF} {nf : Nat → Nat} {C C' : aC} {ret : Option FieldType} {P : List aEnt} {hs : List (Nat × Nat × Nat × Nat × Nat)} (hC : C_le C C') : ∀ (n n' : Nat), n ≤ n' → ∀ (i : Nat) (L S : List Value) (h : aH) (bc bs : Nat) (Q Q' : aQ), (∀ r h, Q r h → Q' r h) → wpL ft nf C ret P hs n i L S h bc bs Q → wpL ft nf C' ret P hs n' i L S h bc bs Q' := by
  intro n
  induction n with
  | zero => intro n' _ i L S h bc bs Q Q' _ hw; exact hw.elim
  | succ n ih =>
    intro n' hn i L S h bc bs Q Q' hQ hw
    obtain ⟨m, rfl⟩ : ∃ m, n' = m + 1 := ⟨n' - 1, by omega⟩
    have hm : n ≤ m := by omega
    cases hP : P[i]? with
    | none => simp only [wpL, hP] at hw
    | some q =>
      obtain ⟨o, ins, rs⟩ := q
      simp only [wpL, hP] at hw ⊢
      cases h1 : a_pure ins rs S with
      | some S' => simp only [h1] at hw ⊢; exact ih m hm _ _ _ _ _ _ _ _ hQ hw
      | none =>
      simp only [h1] at hw ⊢
      cases h2 : a_loc ins L S with
      | some q2 => simp only [h2] at hw ⊢; exact ih m hm _ _ _ _ _ _ _ _ hQ hw
      | none =>
      simp only [h2] at hw ⊢
      cases h3 : a_hp ft ins rs S h with
      | some q3 => simp only [h3] at hw ⊢; exact ⟨hw.1, ih m hm _ _ _ _ _ _ _ _ hQ hw.2⟩
      | none =>
      simp only [h3] at hw ⊢
      cases h4 : a_br ins S with
      | some q4 => simp only [h4] at hw ⊢; exact ⟨fun c => ih m hm _ _ _ _ _ _ _ _ hQ (hw.1 c), fun c => ih m hm _ _ _ _ _ _ _ _ hQ (hw.2 c)⟩
      | none =>
      simp only [h4] at hw ⊢
      have key : (match a_call ins rs S h with
      | some (c, k, as, S', th) => c ∧ ∃ dc ds bc' bs', bc = bc' + dc ∧ bs = bs' + ds ∧ C k as h dc ds (fun r h' => (a_z h' = 0 → a_z h = 0 ∧ a_n h + dc ≤ a_n h') ∧ match r with
          | .inl v => wpL ft nf C ret P hs n (i + 1) L (v.toList ++ S') h' bc' bs' Q
          | .inr E => th = true ∧ match a_hd hs i E with
            | some (t, x) => a_st L x = true ∧ wpL ft nf C ret P hs n t (L.set x .null) [] h' bc' bs' Q
            | none => hs = [] ∧ Q (.inr E) h')
      | none =>
      match a_ret ret ins S with
      | some (c, v) => c ∧ Q (.inl v) h
      | none =>
      match a_sw ins rs S with
      | some (x, cs, d, S') => (∀ q ∈ cs, x = q.1 → wpL ft nf C ret P hs n q.2 L S' h bc bs Q) ∧ ((∀ q ∈ cs, ¬ x = q.1) → wpL ft nf C ret P hs n d L S' h bc bs Q)
      | none =>
      match a_thr ins rs S with
      | some E => (∃ bc' bs', bc = bc' + 1 ∧ bs = bs' + 6) ∧ Q (.inr E) (a_junk h)
      | none =>
      match a_mk nf ins rs S with
      | some (c, sl, sh, S') => c ∧ a_z h = 0 ∧ ∃ bc' bs', bc = bc' + 1 ∧ bs = bs' + sl ∧ wpL ft nf C ret P hs n (i + 1) L (.ref (a_n h) :: S') (a_new h sh) bc' bs' Q
      | none => False) → (match a_call ins rs S h with
      | some (c, k, as, S', th) => c ∧ ∃ dc ds bc' bs', bc = bc' + dc ∧ bs = bs' + ds ∧ C' k as h dc ds (fun r h' => (a_z h' = 0 → a_z h = 0 ∧ a_n h + dc ≤ a_n h') ∧ match r with
          | .inl v => wpL ft nf C' ret P hs m (i + 1) L (v.toList ++ S') h' bc' bs' Q'
          | .inr E => th = true ∧ match a_hd hs i E with
            | some (t, x) => a_st L x = true ∧ wpL ft nf C' ret P hs m t (L.set x .null) [] h' bc' bs' Q'
            | none => hs = [] ∧ Q' (.inr E) h')
      | none =>
      match a_ret ret ins S with
      | some (c, v) => c ∧ Q' (.inl v) h
      | none =>
      match a_sw ins rs S with
      | some (x, cs, d, S') => (∀ q ∈ cs, x = q.1 → wpL ft nf C' ret P hs m q.2 L S' h bc bs Q') ∧ ((∀ q ∈ cs, ¬ x = q.1) → wpL ft nf C' ret P hs m d L S' h bc bs Q')
      | none =>
      match a_thr ins rs S with
      | some E => (∃ bc' bs', bc = bc' + 1 ∧ bs = bs' + 6) ∧ Q' (.inr E) (a_junk h)
      | none =>
      match a_mk nf ins rs S with
      | some (c, sl, sh, S') => c ∧ a_z h = 0 ∧ ∃ bc' bs', bc = bc' + 1 ∧ bs = bs' + sl ∧ wpL ft nf C' ret P hs m (i + 1) L (.ref (a_n h) :: S') (a_new h sh) bc' bs' Q'
      | none => False) := by
        intro hw
        cases h5 : a_call ins rs S h with
        | some q5 =>
          obtain ⟨c, k, as, S', th⟩ := q5
          simp only [h5] at hw ⊢
          obtain ⟨hc, dc, ds, bc', bs', e1, e2, hcall⟩ := hw
          refine ⟨hc, dc, ds, bc', bs', e1, e2, hC _ _ _ _ _ _ _ ?_ hcall⟩
          intro r h' hr
          refine ⟨hr.1, ?_⟩
          cases r with
          | inl v => exact ih m hm _ _ _ _ _ _ _ _ hQ hr.2
          | inr E =>
            refine ⟨hr.2.1, ?_⟩
            have h9 := hr.2.2
            cases h6 : a_hd hs i E with
            | none => simp only [h6] at h9 ⊢; exact ⟨h9.1, hQ _ _ h9.2⟩
            | some q6 => simp only [h6] at h9 ⊢; exact ⟨h9.1, ih m hm _ _ _ _ _ _ _ _ hQ h9.2⟩
        | none =>
        simp only [h5] at hw ⊢
        cases h6 : a_ret ret ins S with
        | some q6 => simp only [h6] at hw ⊢; exact ⟨hw.1, hQ _ _ hw.2⟩
        | none =>
        simp only [h6] at hw ⊢
        cases h7 : a_sw ins rs S with
        | some q7 => simp only [h7] at hw ⊢; exact ⟨fun q hq e => ih m hm _ _ _ _ _ _ _ _ hQ (hw.1 q hq e), fun c => ih m hm _ _ _ _ _ _ _ _ hQ (hw.2 c)⟩
        | none =>
        simp only [h7] at hw ⊢
        cases h8 : a_thr ins rs S with
        | some q8 => simp only [h8] at hw ⊢; exact ⟨hw.1, hQ _ _ hw.2⟩
        | none =>
        simp only [h8] at hw ⊢
        cases h9 : a_mk nf ins rs S with
        | some q9 =>
          simp only [h9] at hw ⊢
          obtain ⟨a, b, bc', bs', e1, e2, z⟩ := hw
          exact ⟨a, b, bc', bs', e1, e2, ih m hm _ _ _ _ _ _ _ _ hQ z⟩
        | none => simp only [h9] at hw
      cases ins
      case goto o9 => exact ih m hm _ _ _ _ _ _ _ _ hQ hw
      all_goals exact key hw
theorem wpM_le {ft : aF} {nf : Nat → Nat} {pr : Nat → Option aMeth} : ∀ (d d' : Nat), d ≤ d' → C_le (wpM ft nf pr d) (wpM ft nf pr d') := by
  intro d
  induction d with
  | zero => intro d' _ k as h bc bs Q Q' _ hw; exact hw.elim
  | succ d ih =>
    intro d' hd k as h bc bs Q Q' hQ hw
    obtain ⟨m, rfl⟩ : ∃ m, d' = m + 1 := ⟨d' - 1, by omega⟩
    unfold wpM at hw ⊢
    cases hk : pr k with
    | none => simp only [hk] at hw
    | some M =>
      simp only [hk] at hw ⊢
      obtain ⟨h1, n, hw⟩ := hw
      exact ⟨h1, n, wpL_le (ih m (by omega)) n n (Nat.le_refl n) _ _ _ _ _ _ _ _ hQ hw⟩
