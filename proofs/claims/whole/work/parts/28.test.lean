theorem tq1 (C : aC) (h : aH) (n a : Nat) (x : Int32) (bc bs : Nat) (Q : aQ) (hs : (a_sh h a).1 = 12) (h1 : ∀ r, Q (.inl (some (.int r))) h) : wpL aft anf C (some .boolean) pP_Canton_hasCell [] (n + 14) 0 [.ref a, .int x] [] h bc bs Q := by
  refine And.intro (fun c1 => ?_) (fun c1 => ?_)
  · exact ⟨Or.inl rfl, h1 _⟩
  · refine And.intro hs ?_
    refine And.intro (fun c2 => ?_) (fun c2 => ?_)
    · exact ⟨Or.inl rfl, h1 _⟩
    · refine And.intro (fun c3 => ?_) (fun c3 => ?_)
      · exact ⟨Or.inl rfl, h1 _⟩
      · exact ⟨Or.inr rfl, h1 _⟩
theorem tq2 (C : aC) (h : aH) (n a : Nat) (x : Int32) (bc bs : Nat) (Q : aQ) (hs : (a_sh h a).1 = 12) (h1 : x < 0 → Q (.inl (some (.int 0))) h) (h2 : ¬ x < 0 → a_i h a 2 ≤ x → Q (.inl (some (.int 0))) h) (h3 : ¬ x < 0 → ¬ a_i h a 2 ≤ x → 25 ≤ x → Q (.inl (some (.int 0))) h) (h4 : ¬ x < 0 → ¬ a_i h a 2 ≤ x → ¬ 25 ≤ x → Q (.inl (some (.int 1))) h) : wpL aft anf C (some .boolean) pP_Canton_hasCell [] (n + 14) 0 [.ref a, .int x] [] h bc bs Q :=
  ⟨fun c1 => ⟨Or.inl rfl, h1 c1⟩, fun c1 => ⟨hs, fun c2 => ⟨Or.inl rfl, h2 c1 c2⟩, fun c2 => ⟨fun c3 => ⟨Or.inl rfl, h3 c1 c2 c3⟩, fun c3 => ⟨Or.inr rfl, h4 c1 c2 c3⟩⟩⟩⟩
