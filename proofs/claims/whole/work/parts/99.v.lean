set_option maxHeartbeats 400000
/-! THE LAW'S LOOP -/
theorem sw_any {ts : List Nat} {x lo : Int32} {l9 : Int} {W : Nat → Prop} {d : Nat} (h : ∀ t ∈ ts, W t) (hd : W d) : (∀ q ∈ ((List.range ts.length).zip ts).map (fun q => (Int32.ofInt (l9 + (q.1 : Int)), q.2)), x = q.1 → W q.2) ∧ ((∀ q ∈ ((List.range ts.length).zip ts).map (fun q => (Int32.ofInt (l9 + (q.1 : Int)), q.2)), ¬ x = q.1) → W d) := by
  refine ⟨fun q hq _ => ?_, fun _ => hd⟩
  obtain ⟨p, hp, rfl⟩ := List.mem_map.mp hq
  obtain ⟨p1, p2⟩ := p
  exact h _ (List.of_mem_zip hp).2
section
variable {K : KK} {f : HF} {w : WD} {xs : Nat → Int32} {t m bc bs : Nat} {v5 v6 : Value} {Q : aQ}
set_option maxRecDepth 100000 in
theorem lw_turn (ht : t + 6 ≤ K.1) (hL : K.1 ≤ 3072) (wi : WI xs f w) (nx : Nx xs K.1 t m bc bs Q) : wpL aft anf (wpM aft anf apr 300) (some .boolean) pP_SnowCantonLaw_law [] (m + 400) 13 [.ref 0, .ref 100, .ref 161, .ref 202, .int (N t), v5, v6] [] (hk K f) (bc + 1) (bs + 6) Q := by
  have c9 : Int32.ofNat K.1 = N K.1 := rfl
  have e6 : ¬ (N K.1 - N 6 < N t) := by
    rw [Int32.lt_iff_toInt_lt, N_subi (by omega) (by omega), N_int (by omega)]
    omega
  refine And.intro rfl ?_
  refine brF (by show ¬ (Int32.ofNat K.1 - (Int8.ofInt 6).toInt32 < N t); rw [c9, cn_b6]; exact e6) ?_
  refine And.intro (And.intro rfl (N_in2 (k := t) rfl (show t < K.1 by omega) (show K.1 < 2147483648 by omega))) ?_
  refine sw_any (lo := 0) (W := fun p => wpL aft anf (wpM aft anf apr 300) (some .boolean) pP_SnowCantonLaw_law [] _ p _ _ _ _ _ _) ?_ ?_
  · intro p hp
    rcases List.mem_cons.mp hp with rfl | hp
    · exact wp_le (lc_feed ht hL wi nx) (by (try simp only [Nat.add_eq]) <;> omega)
    rcases List.mem_cons.mp hp with rfl | hp
    · exact wp_le (lc_canton ht hL wi nx) (by (try simp only [Nat.add_eq]) <;> omega)
    rcases List.mem_cons.mp hp with rfl | hp
    · exact wp_le (lc_fault ht hL wi nx) (by (try simp only [Nat.add_eq]) <;> omega)
    rcases List.mem_cons.mp hp with rfl | hp
    · exact wp_le (lc_count ht hL wi nx) (by (try simp only [Nat.add_eq]) <;> omega)
    rcases List.mem_cons.mp hp with rfl | hp
    · exact wp_le (lc_cell ht hL wi nx) (by (try simp only [Nat.add_eq]) <;> omega)
    rcases List.mem_cons.mp hp with rfl | hp
    · exact wp_le (lc_person ht hL wi nx) (by (try simp only [Nat.add_eq]) <;> omega)
    rcases List.mem_cons.mp hp with rfl | hp
    · exact wp_le (lc_hours ht hL wi nx) (by (try simp only [Nat.add_eq]) <;> omega)
    rcases List.mem_cons.mp hp with rfl | hp
    · exact wp_le (lc_walk ht hL wi nx) (by (try simp only [Nat.add_eq]) <;> omega)
    rcases List.mem_cons.mp hp with rfl | hp
    · exact wp_le (lc_wind ht hL wi nx) (by (try simp only [Nat.add_eq]) <;> omega)
    rcases List.mem_cons.mp hp with rfl | hp
    · exact wp_le (lc_thaw ht hL wi nx) (by (try simp only [Nat.add_eq]) <;> omega)
    rcases List.mem_cons.mp hp with rfl | hp
    · exact wp_le (lc_push ht hL wi nx) (by (try simp only [Nat.add_eq]) <;> omega)
    rcases List.mem_cons.mp hp with rfl | hp
    · exact wp_le (lc_undo ht hL wi nx) (by (try simp only [Nat.add_eq]) <;> omega)
    rcases List.mem_cons.mp hp with rfl | hp
    · exact wp_le (lc_trespass ht hL wi nx) (by (try simp only [Nat.add_eq]) <;> omega)
    rcases List.mem_cons.mp hp with rfl | hp
    · exact wp_le (lc_then ht hL wi nx) (by (try simp only [Nat.add_eq]) <;> omega)
    rcases List.mem_cons.mp hp with rfl | hp
    · exact wp_le (lc_stand ht hL wi nx) (by (try simp only [Nat.add_eq]) <;> omega)
    rcases List.mem_cons.mp hp with rfl | hp
    · exact wp_le (lc_covered ht hL wi nx) (by (try simp only [Nat.add_eq]) <;> omega)
    rcases List.mem_cons.mp hp with rfl | hp
    · exact wp_le (lc_coming ht hL wi nx) (by (try simp only [Nat.add_eq]) <;> omega)
    rcases List.mem_cons.mp hp with rfl | hp
    · exact wp_le (lc_row ht hL wi nx) (by (try simp only [Nat.add_eq]) <;> omega)
    rcases List.mem_cons.mp hp with rfl | hp
    · exact wp_le (lc_heir ht hL wi nx) (by (try simp only [Nat.add_eq]) <;> omega)
    rcases List.mem_cons.mp hp with rfl | hp
    · exact wp_le (lc_see ht hL wi nx) (by (try simp only [Nat.add_eq]) <;> omega)
    rcases List.mem_cons.mp hp with rfl | hp
    · exact wp_le (lc_hat ht hL wi nx) (by (try simp only [Nat.add_eq]) <;> omega)
    rcases List.mem_cons.mp hp with rfl | hp
    · exact wp_le (lc_look ht hL wi nx) (by (try simp only [Nat.add_eq]) <;> omega)
    rcases List.mem_cons.mp hp with rfl | hp
    · exact wp_le (lc_forget ht hL wi nx) (by (try simp only [Nat.add_eq]) <;> omega)
    rcases List.mem_cons.mp hp with rfl | hp
    · exact wp_le (lc_partition ht hL wi nx) (by (try simp only [Nat.add_eq]) <;> omega)
    rcases List.mem_cons.mp hp with rfl | hp
    · exact wp_le (lc_game ht hL wi nx) (by (try simp only [Nat.add_eq]) <;> omega)
    rcases List.mem_cons.mp hp with rfl | hp
    · exact wp_le (lc_winter ht hL wi nx) (by (try simp only [Nat.add_eq]) <;> omega)
    rcases List.mem_cons.mp hp with rfl | hp
    · exact wp_le (lc_image ht hL wi nx) (by (try simp only [Nat.add_eq]) <;> omega)
    rcases List.mem_cons.mp hp with rfl | hp
    · exact wp_le (lc_restore ht hL wi nx) (by (try simp only [Nat.add_eq]) <;> omega)
    cases hp
  · exact wp_le (nx K f w v5 v6 (bc + 1) (bs + 6) rfl wi (by omega) (by omega)) (by (try simp only [Nat.add_eq]) <;> omega)
end
set_option maxRecDepth 100000 in
theorem lw_loop {xs : Nat → Int32} {L T : Nat} (hL : L ≤ 3072) (hT : T = L / 6) {Q : aQ} (hQ : ∀ h, Q (.inl (some (.int 1))) h) : ∀ k t (K : KK) f w v5 v6 bc bs m, t + k = T → K.1 = L → WI xs f w → k ≤ bc → 6 * k ≤ bs → 500 * k + 100 ≤ m → wpL aft anf (wpM aft anf apr 300) (some .boolean) pP_SnowCantonLaw_law [] m 13 [.ref 0, .ref 100, .ref 161, .ref 202, .int (N (6 * t)), v5, v6] [] (hk K f) bc bs Q := by
  intro k
  induction k with
  | zero =>
    intro t K f w v5 v6 bc bs m ht hK wi h1 h2 hm
    obtain ⟨m, rfl⟩ : ∃ m', m = m' + 100 := ⟨m - 100, by omega⟩
    have c9 : Int32.ofNat K.1 = N K.1 := rfl
    have e6 : N K.1 - N 6 < N (6 * t) := by
      rw [Int32.lt_iff_toInt_lt, N_subi (by omega) (by omega), N_int (by omega)]
      omega
    refine And.intro rfl ?_
    refine brT (by show Int32.ofNat K.1 - (Int8.ofInt 6).toInt32 < N (6 * t); rw [c9, cn_b6]; exact e6) ?_
    exact ⟨Or.inr rfl, hQ _⟩
  | succ k ih =>
    intro t K f w v5 v6 bc bs m ht hK wi h1 h2 hm
    obtain ⟨bc, rfl⟩ : ∃ b, bc = b + 1 := ⟨bc - 1, by omega⟩
    obtain ⟨bs, rfl⟩ : ∃ b, bs = b + 6 := ⟨bs - 6, by omega⟩
    obtain ⟨m, rfl⟩ : ∃ m', m = m' + 400 := ⟨m - 400, by omega⟩
    refine lw_turn (by omega) (by omega) wi ?_
    intro K2 f2 w2 u5 u6 bc2 bs2 hK2 wi2 hb1 hb2
    obtain ⟨m, rfl⟩ : ∃ m', m = m' + 2 := ⟨m - 2, by omega⟩
    refine wp_at 1001 ?_
    refine wp_more (hd := 13) (m := m) (L := [.ref 0, .ref 100, .ref 161, .ref 202, .int (N (6 * (t + 1))), u5, u6]) (S := []) (h := hk K2 f2) (ih (t + 1) K2 f2 w2 u5 u6 bc2 bs2 m (by omega) (by rw [hK2]; exact hK) wi2 (by omega) (by omega) (by omega)) (Nat.le_refl _) ?_ rfl rfl
    show [Value.ref 0, .ref 100, .ref 161, .ref 202, .int (N (6 * t) + Int32.ofInt 6), u5, u6] = _
    rw [cn_c6, N_add]
    rfl
