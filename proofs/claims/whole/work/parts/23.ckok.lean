/-! THE CHECK OF AN INSTRUCTION MAY BE BELIEVED -/
theorem isI_of {M : aMeth} (h : (M.1.name == "<init>" && M.2.2.2.1 == none) = true) : M.1.name = "<init>" ∧ M.2.2.2.1 = none := by
  simp only [Bool.and_eq_true, beq_iff_eq] at h
  exact h
theorem apr_some {k : Nat} (h : k < 309) : ∃ M, apr k = some M := ⟨_, List.getElem?_eq_getElem (by rw [aML_len]; exact h)⟩
theorem fld_ok {own i ci f : Nat} (h1 : ci < 12) (h2 : f < anf ci) (hl : Cond.fieldLink (cnm own) i (cnm ci) (aTd ci f).1 (aTd ci f).2.1 ∈ aGT ++ aNW ∨ ∃ host, Cond.fieldLinkNest (cnm own) i (cnm ci) (aTd ci f).1 (aTd ci f).2.1 host ∈ aGT ++ aNW) : a_fld (aGT ++ aNW) (cnm own) acl aft anf i ci f := by
  obtain ⟨c1, c2, c3, c4⟩ := cls_spec h1
  obtain ⟨t1, t2, t3, t4, -⟩ := ty_spec (c2 f h2)
  exact ⟨cnm ci, aT ci, aty ci, acl_at h1, h2, c1, fun k hk => (ty_spec (c2 k hk)).1, c3, hl, rfl, t2, t3, t4⟩
theorem fldW_ok {own i ci f : Nat} {isI : Bool} (h1 : ci < 12) (h2 : f < anf ci) (hl : Cond.fieldLink (cnm own) i (cnm ci) (aTd ci f).1 (aTd ci f).2.1 ∈ aGT ++ aNW) (hf : (aTd ci f).2.2 = false ∨ (isI = true ∧ ci = own)) : a_fldW (aGT ++ aNW) (cnm own) acl aft anf isI i ci f := by
  obtain ⟨c1, c2, c3, c4⟩ := cls_spec h1
  obtain ⟨t1, t2, t3, t4, -⟩ := ty_spec (c2 f h2)
  refine ⟨cnm ci, aT ci, aty ci, acl_at h1, h2, c1, fun k hk => (ty_spec (c2 k hk)).1, c3, hl, rfl, ?_, t2, t3, t4⟩
  cases hz : (aTd ci f).2.2 with
  | false => exact Or.inl hz
  | true =>
    rcases hf with q | ⟨q1, q2⟩
    · rw [hz] at q; cases q
    · exact Or.inr ⟨hz, q1, by rw [q2]⟩
theorem ck_res_ok {own : Nat} {isI : Bool} {ins : Instr} {rs : List Nat} (h : ck_res own isI ins rs = true) : a_res aGT aNW (cnm own) acl aft anf apr isI ins rs := by
  unfold ck_res at h
  split at h
  · -- getfield
    rename_i i ci f
    by_cases h12 : ci = 12
    · rw [if_pos h12] at h
      simp only [Bool.and_eq_true, Bool.or_eq_true, beq_iff_eq, List.contains_iff_mem] at h
      have hw := w_fS _ h.2
      refine Or.inr ⟨h12, ?_⟩
      rcases h.1 with rfl | rfl
      · exact Or.inl ⟨rfl, rfl, List.mem_append_left _ hw⟩
      · exact Or.inr ⟨rfl, rfl, List.mem_append_left _ hw⟩
    · rw [if_neg h12] at h
      simp only [Bool.and_eq_true, Bool.or_eq_true, decide_eq_true_eq, List.contains_iff_mem] at h
      refine Or.inl ⟨h12, fld_ok h.1.1 h.1.2 ?_⟩
      rcases h.2 with q | q
      · exact Or.inl (List.mem_append_left _ (w_f _ q))
      · exact Or.inr ⟨_, List.mem_append_right _ (w_fN _ q)⟩
  · -- putfield
    rename_i i ci f
    simp only [Bool.and_eq_true, Bool.or_eq_true, decide_eq_true_eq, List.contains_iff_mem, Bool.not_eq_true', beq_iff_eq] at h
    exact ⟨by omega, fldW_ok h.1.1.1 h.1.1.2 (List.mem_append_left _ (w_f _ h.1.2)) h.2⟩
  · -- getstatic
    rename_i i x
    rw [List.contains_iff_mem] at h
    obtain ⟨h1, h2, h3⟩ := w_st _ h
    rcases (show x = 1 ∨ x = 2 ∨ x = 3 by dsimp only at h2 h3; omega) with rfl | rfl | rfl
    · exact ⟨_, h1⟩
    · exact h1
    · exact h1
  · cases h
  · -- invokestatic, one
    rename_i i x
    simp only [Bool.and_eq_true, Bool.or_eq_true, Bool.not_eq_true', beq_eq_false_iff_ne, ne_eq, List.contains_iff_mem] at h
    obtain ⟨⟨⟨a1, a2⟩, a3⟩, a4⟩ := h
    refine ⟨fun z => ?_, fun z => ?_, fun z => ?_, fun z => ?_⟩
    · rcases a1 with q | q
      · exact absurd z q
      · exact ⟨w_a _ q, w_in0 (by simp [aW0]), w_in0 (by simp [aW0]), w_in0 (by simp [aW0])⟩
    · rcases a2 with q | q
      · exact absurd z q
      · exact ⟨w_max _ q, w_in0 (by simp [aW0]), w_in0 (by simp [aW0]), w_in0 (by simp [aW0])⟩
    · rcases a3 with q | q
      · exact absurd z q
      · exact ⟨w_min _ q, w_in0 (by simp [aW0]), w_in0 (by simp [aW0]), w_in0 (by simp [aW0])⟩
    · rcases a4 with q | q
      · exact absurd z q
      · exact ⟨w_abs _ q, w_in0 (by simp [aW0]), w_in0 (by simp [aW0]), w_in0 (by simp [aW0])⟩
  · -- invokespecial, one
    rename_i i x
    simp only [Bool.or_eq_true, Bool.not_eq_true', beq_eq_false_iff_ne, ne_eq, List.contains_iff_mem] at h
    intro z
    rcases h with q | q
    · exact absurd z q
    · exact ⟨w_o _ q, w_in0 (by simp [aW0]), w_in0 (by simp [aW0])⟩
  · -- new
    rename_i i ci
    simp only [Bool.and_eq_true, decide_eq_true_eq, List.contains_iff_mem] at h
    obtain ⟨⟨h1, h2⟩, h3⟩ := h
    obtain ⟨c1, c2, c3, c4⟩ := cls_spec h1
    exact ⟨by omega, cnm ci, aT ci, aty ci, acl_at h1, c1, fun k hk => (ty_spec (c2 k hk)).1, fun k hk => (ty_spec (c2 k hk)).2.2.2.2, List.mem_append_left _ (w_k _ h2), List.mem_append_left _ c4, List.mem_append_left _ (w_n _ h3)⟩
  · -- newarray
    rename_i t
    cases t <;> first | exact absurd h (by decide) | exact w_in0 (by simp [aW0, newarray.typeOf])
  · rw [List.contains_iff_mem] at h
    exact w_k _ h
  · -- invokestatic
    rename_i i k n x
    simp only [Bool.and_eq_true, decide_eq_true_eq, List.contains_iff_mem, beq_iff_eq] at h
    obtain ⟨⟨⟨⟨h1, h2⟩, h3⟩, h4⟩, h5⟩ := h
    obtain ⟨M, hM⟩ := apr_some h2
    obtain ⟨m1, m2, m3, m4⟩ := m_spec hM h1
    have hl := w_m _ h3
    have hs := w_s _ h4
    unfold mW at hl
    dsimp only at hl
    rw [m4] at hl hs
    exact ⟨M, hM, by rw [← h5]; exact m1, hl, hs⟩
  · -- invokevirtual
    rename_i i k n ci
    simp only [Bool.and_eq_true, decide_eq_true_eq, List.contains_iff_mem, beq_iff_eq] at h
    obtain ⟨⟨⟨⟨⟨⟨⟨⟨h1, h2⟩, h3⟩, h4⟩, h5⟩, h6⟩, h7⟩, h8⟩, h9⟩ := h
    obtain ⟨M, hM⟩ := apr_some h2
    obtain ⟨m1, m2, m3, m4⟩ := m_spec hM h1
    have hl := w_m _ h3
    have hi := w_i _ h4
    have hv := w_v _ h5
    unfold mW at hl
    dsimp only at hl
    rw [m4] at hl hi hv
    have hM' : aML[k]? = some M := hM
    unfold noH at h7
    rw [hM'] at h7
    refine ⟨M, aNP.getD k 0, h6.symm, hM, m1, List.isEmpty_iff.mp h7, hl, hi, hv, ?_⟩
    rw [h9] at m2
    by_cases h12 : ci = 12
    · refine Or.inr ⟨h12, ?_⟩
      rw [← m2, h12]; rfl
    · exact Or.inl ⟨h12, _, acl_at (by omega), m2⟩
  · -- invokespecial
    rename_i i k n x
    simp only [Bool.and_eq_true, decide_eq_true_eq, List.contains_iff_mem, beq_iff_eq, Bool.or_eq_true] at h
    obtain ⟨⟨⟨⟨⟨⟨h1, h2⟩, h3⟩, h4⟩, h6⟩, h7⟩, h8⟩ := h
    obtain ⟨M, hM⟩ := apr_some h2
    obtain ⟨m1, m2, m3, m4⟩ := m_spec hM h1
    have hi := w_i _ h4
    rw [m4] at hi
    have hM' : aML[k]? = some M := hM
    unfold noH at h7
    rw [hM'] at h7
    unfold isIn at h8
    rw [hM'] at h8
    obtain ⟨n1, n2⟩ := isI_of h8
    refine ⟨M, aNP.getD k 0, h6.symm, hM, m1, List.isEmpty_iff.mp h7, n2, n1, hi, ?_⟩
    rcases h3 with q | q
    · have hl := w_m _ q
      unfold mW at hl
      dsimp only at hl
      rw [m4] at hl
      exact Or.inl hl
    · have hl := w_mN _ q
      unfold mNW at hl
      dsimp only at hl
      rw [m4] at hl
      exact Or.inr ⟨_, hl⟩
  · rename_i g1 g2 g3 g4 g5 g6 g7 g8 g9 g10 g11 g12
    unfold a_res
    split
    all_goals first | trivial | (exfalso; first | exact g1 _ rfl rfl | exact g1 _ _ rfl rfl | exact g1 _ _ _ rfl rfl | exact g1 _ _ _ _ rfl rfl | exact g1 _ rfl | exact g1 _ _ rfl | exact g2 _ rfl rfl | exact g2 _ _ rfl rfl | exact g2 _ _ _ rfl rfl | exact g2 _ _ _ _ rfl rfl | exact g2 _ rfl | exact g2 _ _ rfl | exact g3 _ rfl rfl | exact g3 _ _ rfl rfl | exact g3 _ _ _ rfl rfl | exact g3 _ _ _ _ rfl rfl | exact g3 _ rfl | exact g3 _ _ rfl | exact g4 _ rfl rfl | exact g4 _ _ rfl rfl | exact g4 _ _ _ rfl rfl | exact g4 _ _ _ _ rfl rfl | exact g4 _ rfl | exact g4 _ _ rfl | exact g5 _ rfl rfl | exact g5 _ _ rfl rfl | exact g5 _ _ _ rfl rfl | exact g5 _ _ _ _ rfl rfl | exact g5 _ rfl | exact g5 _ _ rfl | exact g6 _ rfl rfl | exact g6 _ _ rfl rfl | exact g6 _ _ _ rfl rfl | exact g6 _ _ _ _ rfl rfl | exact g6 _ rfl | exact g6 _ _ rfl | exact g7 _ rfl rfl | exact g7 _ _ rfl rfl | exact g7 _ _ _ rfl rfl | exact g7 _ _ _ _ rfl rfl | exact g7 _ rfl | exact g7 _ _ rfl | exact g8 _ rfl rfl | exact g8 _ _ rfl rfl | exact g8 _ _ _ rfl rfl | exact g8 _ _ _ _ rfl rfl | exact g8 _ rfl | exact g8 _ _ rfl | exact g9 _ rfl rfl | exact g9 _ _ rfl rfl | exact g9 _ _ _ rfl rfl | exact g9 _ _ _ _ rfl rfl | exact g9 _ rfl | exact g9 _ _ rfl | exact g10 _ rfl rfl | exact g10 _ _ rfl rfl | exact g10 _ _ _ rfl rfl | exact g10 _ _ _ _ rfl rfl | exact g10 _ rfl | exact g10 _ _ rfl | exact g11 _ rfl rfl | exact g11 _ _ rfl rfl | exact g11 _ _ _ rfl rfl | exact g11 _ _ _ _ rfl rfl | exact g11 _ rfl | exact g11 _ _ rfl | exact g12 _ rfl rfl | exact g12 _ _ rfl rfl | exact g12 _ _ _ rfl rfl | exact g12 _ _ _ _ rfl rfl | exact g12 _ rfl | exact g12 _ _ rfl)
-- constants
def ck_ldc (own : Nat) (ins : Instr) (rs : List Nat) : Bool := match ins, rs with
  | .ldc i, [0, v] => aPC.contains (own, i, v)
  | .ldc i, [1, j] => aStrs.any (fun q => q.1 == cnm own && q.2.1 == i && q.2.2.2 == j)
  | .ldc_w i, [0, v] => aPC.contains (own, i, v)
  | .ldc_w i, [1, j] => aStrs.any (fun q => q.1 == cnm own && q.2.1 == i && q.2.2.2 == j)
  | .ldc2_w i, [v] => aPL.contains (own, i, v)
  | _, _ => true
theorem ck_ldc_ok {own : Nat} {ins : Instr} {rs : List Nat} (h : ck_ldc own ins rs = true) : a_ldR (aGT ++ aNW) aStrs (cnm own) ins rs := by
  unfold a_ldR
  split
  · have h' : aPC.contains _ = true := h
    rw [List.contains_iff_mem] at h'
    exact List.mem_append_left _ (w_c _ h')
  · rename_i i j
    have h' : aStrs.any (fun q => q.1 == cnm own && q.2.1 == i && q.2.2.2 == j) = true := h
    obtain ⟨q, hq, hh⟩ := List.any_eq_true.mp h'
    simp only [Bool.and_eq_true, beq_iff_eq] at hh
    obtain ⟨⟨e1, e2⟩, e3⟩ := hh
    refine ⟨q.2.2.1, ?_⟩
    rw [← e1, ← e2, ← e3]
    exact hq
  · have h' : aPC.contains _ = true := h
    rw [List.contains_iff_mem] at h'
    exact List.mem_append_left _ (w_c _ h')
  · rename_i i j
    have h' : aStrs.any (fun q => q.1 == cnm own && q.2.1 == i && q.2.2.2 == j) = true := h
    obtain ⟨q, hq, hh⟩ := List.any_eq_true.mp h'
    simp only [Bool.and_eq_true, beq_iff_eq] at hh
    obtain ⟨⟨e1, e2⟩, e3⟩ := hh
    refine ⟨q.2.2.1, ?_⟩
    rw [← e1, ← e2, ← e3]
    exact hq
  · have h' : aPL.contains _ = true := h
    rw [List.contains_iff_mem] at h'
    exact List.mem_append_left _ (w_l _ h')
  · trivial
-- switches
def tgt_ok (P : List aEnt) (pc : Nat) (o : Int) (t : Nat) : Bool := match P[t]? with
  | some z => decide ((pc : Int) + o = (z.1 : Int))
  | none => true
theorem tgt_spec {P : List aEnt} {pc t : Nat} {o : Int} (h : tgt_ok P pc o t = true) : ∀ z, P[t]? = some z → (pc : Int) + o = (z.1 : Int) := by
  intro z hz
  unfold tgt_ok at h
  rw [hz] at h
  exact of_decide_eq_true h
def ck_sw (cc : ByteArray) (P : List aEnt) (len pc : Nat) (ins : Instr) (rs : List Nat) : Bool := match ins, rs with
  | .tableswitch d lo hi offs, t :: ts => decide (decode cc pc = .ok (.tableswitch d lo hi offs, len)) && offs.size == ts.length && decide (hi = lo + (ts.length : Int) - 1) && decide (-2147483648 ≤ lo) && decide (hi < 2147483648) && tgt_ok P pc d t && (offs.toList.zip ts).all (fun q => tgt_ok P pc q.1 q.2)
  | .lookupswitch d ps, t :: ts => decide (decode cc pc = .ok (.lookupswitch d ps, len)) && (ps.toList.zip (ps.toList.drop 1)).all (fun (a, next) => a.1 < next.1) && ps.toList.length == ts.length && ps.toList.all (fun q => decide (-2147483648 ≤ q.1 ∧ q.1 < 2147483648)) && tgt_ok P pc d t && (ps.toList.zip ts).all (fun q => tgt_ok P pc q.1.2 q.2)
  | _, _ => true
theorem ck_sw_ok {cc : ByteArray} {P : List aEnt} {len pc : Nat} {ins : Instr} {rs : List Nat} (h : ck_sw cc P len pc ins rs = true) : a_swR cc P pc ins rs := by
  unfold a_swR
  split
  · rename_i d lo hi offs t ts
    have h' : (decide (decode cc pc = .ok (.tableswitch d lo hi offs, len)) && offs.size == ts.length && decide (hi = lo + (ts.length : Int) - 1) && decide (-2147483648 ≤ lo) && decide (hi < 2147483648) && tgt_ok P pc d t && (offs.toList.zip ts).all (fun q => tgt_ok P pc q.1 q.2)) = true := h
    simp only [Bool.and_eq_true, decide_eq_true_eq, beq_iff_eq] at h'
    obtain ⟨⟨⟨⟨⟨⟨a1, a2⟩, a3⟩, a4⟩, a5⟩, a6⟩, a7⟩ := h'
    refine ⟨⟨len, a1⟩, a2, a3, a4, a5, tgt_spec a6, fun j o t' ho ht => ?_⟩
    refine tgt_spec (List.all_eq_true.mp a7 (o, t') (List.mem_of_getElem? (i := j) ?_))
    rw [List.getElem?_zip_eq_some]
    exact ⟨by rw [Array.getElem?_toList]; exact ho, ht⟩
  · rename_i d ps t ts
    have h' : (decide (decode cc pc = .ok (.lookupswitch d ps, len)) && (ps.toList.zip (ps.toList.drop 1)).all (fun (a, next) => a.1 < next.1) && ps.toList.length == ts.length && ps.toList.all (fun q => decide (-2147483648 ≤ q.1 ∧ q.1 < 2147483648)) && tgt_ok P pc d t && (ps.toList.zip ts).all (fun q => tgt_ok P pc q.1.2 q.2)) = true := h
    simp only [Bool.and_eq_true, beq_iff_eq] at h'
    obtain ⟨⟨⟨⟨⟨a1, a2⟩, a3⟩, a4⟩, a5⟩, a6⟩ := h'
    exact ⟨⟨len, of_decide_eq_true a1⟩, a2, a3, fun q hq => of_decide_eq_true (List.all_eq_true.mp a4 q hq), tgt_spec a5, fun q hq => tgt_spec (List.all_eq_true.mp a6 q hq)⟩
  · trivial
-- an entry; the rest of the list begins behind it
def sw_len : List aEnt → Nat → Nat
  | z :: _, pc => z.1 - pc
  | [], _ => 0
def ck_ent (own : Nat) (isI : Bool) (cc : ByteArray) (P rest : List aEnt) (q : aEnt) : Bool :=
  (a_sws q.2.1 || (decide (decode cc q.1 = .ok (q.2.1, a_len q.2.1)) && (match rest with | z :: _ => z.1 == q.1 + a_len q.2.1 | [] => true))) &&
  (match a_off q.2.1 with | some off => (match P[q.2.2.headD 0]? with | some z => decide ((q.1 : Int) + off = (z.1 : Int)) | none => false) | none => true) &&
  ck_ldc own q.2.1 q.2.2 && ck_res own isI q.2.1 q.2.2 && ck_sw cc P (sw_len rest q.1) q.1 q.2.1 q.2.2
def ck_list (own : Nat) (isI : Bool) (cc : ByteArray) (P : List aEnt) : List aEnt → Bool
  | [] => true
  | q :: r => ck_ent own isI cc P r q && ck_list own isI cc P r
theorem ck_ent_ok {own : Nat} {isI : Bool} {cc : ByteArray} {P rest : List aEnt} {q : aEnt} {i : Nat} (hrest : P[i + 1]? = rest.head?) (h : ck_ent own isI cc P rest q = true) : a_vld aGT aNW aStrs (cnm own) acl aft anf apr isI cc P i q := by
  unfold ck_ent at h
  simp only [Bool.and_eq_true] at h
  obtain ⟨⟨⟨⟨a1, a2⟩, a3⟩, a4⟩, a5⟩ := h
  refine ⟨fun hs => ?_, fun off ho => ?_, ck_ldc_ok a3, ck_res_ok a4, ck_sw_ok a5⟩
  · rw [hs, Bool.false_or, Bool.and_eq_true, decide_eq_true_eq] at a1
    refine ⟨a1.1, fun z hz => ?_⟩
    rw [hrest] at hz
    cases rest with
    | nil => cases hz
    | cons y ys =>
      cases hz
      exact beq_iff_eq.mp a1.2
  · rw [ho] at a2
    dsimp only at a2
    split at a2
    · rename_i z hz
      exact ⟨z, hz, of_decide_eq_true a2⟩
    · cases a2
theorem ck_list_ok {own : Nat} {isI : Bool} {cc : ByteArray} {P : List aEnt} : ∀ (r pre : List aEnt), P = pre ++ r → ck_list own isI cc P r = true → ∀ i q, r[i]? = some q → a_vld aGT aNW aStrs (cnm own) acl aft anf apr isI cc P (pre.length + i) q := by
  intro r
  induction r with
  | nil => intro pre _ _ i q h; simp at h
  | cons a r ih =>
    intro pre hP h i q hq
    unfold ck_list at h
    rw [Bool.and_eq_true] at h
    cases i with
    | zero =>
      cases hq
      refine ck_ent_ok (rest := r) ?_ h.1
      rw [hP, List.getElem?_append_right (by omega), show pre.length + 0 + 1 - pre.length = 1 by omega]
      cases r <;> rfl
    | succ i =>
      have := ih (pre ++ [a]) (by rw [hP]; simp) h.2 i q hq
      rw [List.length_append] at this
      rw [show pre.length + (i + 1) = pre.length + [a].length + i by simp; omega]
      exact this
theorem ck_meth_ok {own : Nat} {isI : Bool} {cc : ByteArray} {P : List aEnt} (h : ck_list own isI cc P P = true) : ∀ i q, P[i]? = some q → a_vld aGT aNW aStrs (cnm own) acl aft anf apr isI cc P i q := by
  intro i q hq
  have := ck_list_ok P [] rfl h i q hq
  rwa [List.length_nil, Nat.zero_add] at this
-- tables of handlers
def ck_cov (P : List aEnt) (s e lo hi : Nat) : List aEnt → Nat → Bool
  | [], _ => true
  | q :: r, i => (decide (s ≤ q.1 ∧ q.1 < e) == decide (lo ≤ i ∧ i < hi)) && ck_cov P s e lo hi r (i + 1)
theorem ck_cov_ok {P : List aEnt} {s e lo hi : Nat} : ∀ (r : List aEnt) (k : Nat), ck_cov P s e lo hi r k = true → ∀ i q, r[i]? = some q → ((s ≤ q.1 ∧ q.1 < e) ↔ (lo ≤ k + i ∧ k + i < hi)) := by
  intro r
  induction r with
  | nil => intro k _ i q h; simp at h
  | cons a r ih =>
    intro k h i q hq
    unfold ck_cov at h
    rw [Bool.and_eq_true] at h
    cases i with
    | zero => cases hq; exact decide_eq_decide.mp (beq_iff_eq.mp h.1)
    | succ i =>
      have := ih (k + 1) h.2 i q hq
      rw [show k + 1 + i = k + (i + 1) by omega] at this
      exact this
def ck_st (P : List aEnt) (t x hp : Nat) : Bool := match P[t - 1]? with
  | some (p, .astore y, _) => p == hp && y == x && decide (1 ≤ t) && P[t]?.isSome
  | some (p, .astore_n y, _) => p == hp && (y : Nat) == x && decide (1 ≤ t) && P[t]?.isSome
  | _ => false
theorem ck_st_ok {P : List aEnt} {t x hp : Nat} (h : ck_st P t x hp = true) : ∃ ins rs, P[t - 1]? = some (hp, ins, rs) ∧ (1 ≤ t ∧ ∃ z, P[t]? = some z) ∧ (ins = .astore x ∨ ∃ k : Fin 4, ins = .astore_n k ∧ (k : Nat) = x) := by
  unfold ck_st at h
  split at h
  · rename_i p y rs hz
    simp only [Bool.and_eq_true, beq_iff_eq, decide_eq_true_eq] at h
    obtain ⟨⟨⟨rfl, rfl⟩, h3⟩, h4⟩ := h
    exact ⟨_, rs, hz, ⟨h3, Option.isSome_iff_exists.mp h4⟩, Or.inl rfl⟩
  · rename_i p y rs hz
    simp only [Bool.and_eq_true, beq_iff_eq, decide_eq_true_eq] at h
    obtain ⟨⟨⟨rfl, h2⟩, h3⟩, h4⟩ := h
    exact ⟨_, rs, hz, ⟨h3, Option.isSome_iff_exists.mp h4⟩, Or.inr ⟨y, rfl, h2⟩⟩
  · cases h
def ck_hd (own : Nat) (P : List aEnt) : List (Nat × Nat × Nat × Nat × Nat) → List (Nat × Nat × Nat × Nat) → Bool
  | [], [] => true
  | (lo, hi, t, x, E) :: r, (s, e, hp, ct) :: r' => ck_cov P s e lo hi P 0 && !(ct == 0) && (E == 20 || E == 21) && aPK.contains (own, ct, a_en E) && ck_st P t x hp && (r.isEmpty || E == 21) && ck_hd own P r r'
  | _, _ => false
theorem ck_hd_ok {own : Nat} {P : List aEnt} : ∀ (hs : List (Nat × Nat × Nat × Nat × Nat)) (hh : List (Nat × Nat × Nat × Nat)), ck_hd own P hs hh = true → a_hdR aGT (cnm own) P hs hh := by
  intro hs
  induction hs with
  | nil =>
    intro hh h
    cases hh with
    | nil => trivial
    | cons a b => cases h
  | cons a r ih =>
    intro hh h
    obtain ⟨lo, hi, t, x, E⟩ := a
    cases hh with
    | nil => cases h
    | cons b r' =>
      obtain ⟨s, e, hp, ct⟩ := b
      unfold ck_hd at h
      simp only [Bool.and_eq_true, Bool.not_eq_true', beq_eq_false_iff_ne, ne_eq, Bool.or_eq_true, beq_iff_eq, List.contains_iff_mem] at h
      obtain ⟨⟨⟨⟨⟨⟨a1, a2⟩, a3⟩, a4⟩, a5⟩, a6⟩, a7⟩ := h
      refine ⟨fun i q hq => ?_, a2, a3, w_k _ a4, ck_st_ok a5, fun hne => ?_, ih r' a7⟩
      · have := ck_cov_ok P 0 a1 i q hq
        rwa [Nat.zero_add] at this
      · rcases a6 with z | z
        · exact absurd (List.isEmpty_iff.mp z) hne
        · exact z
-- throws
def isThr (q : aEnt) : Bool := match q.2.1, q.2.2 with
  | .new _, [_, x] => x == 77
  | _, _ => false
def goodM (M : aMeth) : Prop := a_mvld aGT aNW aStrs acl aft anf apr M ∧ ∀ q, M.2.2.2.2.1[0]? = some q → q.1 = 0
theorem goodM_of {M : aMeth} (own : Nat) (h1 : ck_list own (M.1.name == "<init>") M.2.1 M.2.2.2.2.1 M.2.2.2.2.1 = true) (h2 : cnm own = M.1.cls) (h3 : plainName M.1.cls = true) (h4 : ck_hd own M.2.2.2.2.1 M.2.2.2.2.2.1 M.2.2.2.2.2.2 = true) (h5 : M.2.2.2.2.1.all (fun q => !isThr q) = true) (h6 : (M.2.2.2.2.1.head?.map (fun q => q.1)) = some 0) : goodM M := by
  refine ⟨⟨?_, h3, ?_, fun pc idx E hm => ?_⟩, fun q hq => ?_⟩
  · rw [← h2]; exact ck_meth_ok h1
  · rw [← h2]; exact ck_hd_ok _ _ h4
  · have := List.all_eq_true.mp h5 _ hm
    cases this
  · rw [← List.head?_eq_getElem?] at hq
    rw [hq] at h6
    exact Option.some.inj h6
