/-! WHAT HOLDS AT THE LAW'S START -/
def stl : List (String × Nat × List Int32) := [("SnowCanton$Reader", 55, [99, 97, 110, 116, 111, 110]), ("SnowCanton$Reader", 80, [104, 101, 105, 103, 104, 116]), ("SnowCanton$Reader", 106, [109, 97, 110]), ("SnowCanton$Reader", 108, [99, 104, 105, 108, 100]), ("SnowCanton$Reader", 110, [114, 111, 111, 102]), ("SnowCanton$Reader", 112, [112, 108, 111, 117, 103, 104]), ("SnowCanton$Reader", 93, [102, 97, 108, 108]), ("SnowCanton$Reader", 98, [102, 105, 114, 115, 116]), ("SnowCanton$Reader", 172, [110, 111, 116]), ("SnowCanton$Reader", 189, [104, 97, 116]), ("SnowCanton$Reader", 191, [102, 97, 114]), ("SnowCanton$Reader", 193, [107, 105, 110, 100]), ("SnowCanton$Reader", 195, [104, 97, 115]), ("SnowCanton$Reader", 197, [104, 111, 117, 114]), ("SnowCanton$Reader", 199, [116, 97, 108, 108]), ("SnowCanton$Reader", 170, [97, 110, 100]), ("SnowCanton$Reader", 161, [111, 114]), ("SnowCantonModel", 11, [109, 97, 110]), ("SnowCantonModel", 13, [99, 104, 105, 108, 100]), ("SnowCantonModel", 15, [114, 111, 111, 102]), ("SnowCantonModel", 17, [112, 108, 111, 117, 103, 104]), ("SnowCantonModel", 23, [104, 97, 116]), ("SnowCantonModel", 25, [102, 97, 114]), ("SnowCantonModel", 27, [107, 105, 110, 100]), ("SnowCantonModel", 29, [104, 97, 115]), ("SnowCantonModel", 31, [104, 111, 117, 114]), ("SnowCantonModel", 33, [116, 97, 108, 108]), ("SnowCantonModel", 304, [99, 97, 110, 116, 111, 110]), ("SnowCantonModel", 289, [102, 105, 114, 115, 116]), ("SnowCantonModel", 267, [110, 111, 116]), ("SnowCantonModel", 275, [97, 110, 100]), ("SnowCantonModel", 280, [111, 114]), ("SnowCantonModel", 294, [104, 101, 105, 103, 104, 116]), ("SnowCantonModel", 299, [102, 97, 108, 108])]
def stw (j : Nat) : String × Nat × List Int32 := stl.getD j ("", 0, [])
def stT (j : Nat) : Term := .string (stw j).1 (stw j).2.1
def stV (j : Nat) : Term := .field (stT j) "java/lang/String" "value" "[B"
/-- the premises of a literal -/
def stC (j : Nat) : List Cond := [.exactly (stT j) "java/lang/String", .eq (.field (stT j) "java/lang/String" "coder" "B") (.int 0), .arrayOf (stV j) .byte, .eq (.length (stV j)) (.int (Int32.ofNat (stw j).2.2.length))] ++ (List.range (stw j).2.2.length).map (fun k => .eq (.elem (stV j) (.int (Int32.ofNat k))) (.int ((stw j).2.2.getD k 0)))
def aFN : List Cond := flatC (Jvm.Cond.and given_1 narrow_1)
theorem st_all : (List.range 34).all (fun j => subs (stC j) aFN && decide ((stw j).2.2.length < 2 ^ 31)) = true := by decide +kernel
theorem st_in {j : Nat} (hj : j < 34) : (∀ w ∈ stC j, w ∈ aFN) ∧ (stw j).2.2.length < 2 ^ 31 := by
  have h := List.all_eq_true.mp st_all j (List.mem_range.mpr hj)
  rw [Bool.and_eq_true, decide_eq_true_eq] at h
  exact ⟨subs_ok _ _ h.1, h.2⟩
def stF (args : Array Value) (s : State) (A : Nat → Prop) (j a t : Nat) : Prop := (stT j).eval args s none [] s = some (.ref a) ∧ va_O "java/lang/String" a A s s.heap ∧ va_OF "java/lang/String" "coder" "B" (.int 0) a A s s.heap ∧ va_OF "java/lang/String" "value" "[B" (.ref t) a A s s.heap ∧ va_T .byte t (stw j).2.2.length (fun k => .int ((stw j).2.2.getD k 0)) A s s.heap
theorem st_of {args : Array Value} {s : State} {A : Nat → Prop} (hf : ∀ c ∈ aFN, c.before args s = true) (hA : ∀ a : Nat, a < s.heap.size → ¬ A a) {j : Nat} (hj : j < 34) : ∃ a t, stF args s A j a t := by
  obtain ⟨h1, h2⟩ := st_in hj
  have hw : ∀ w ∈ stC j, w.before args s = true := fun w hw => hf w (h1 w hw)
  obtain ⟨adK, adV, hS, hev⟩ := vk_Sof (args := args) (s := s) (N := 1) (tm := fun _ => stT j) (len := [(stw j).2.2.length]) (byt := [(stw j).2.2]) (A := A)
    (fun i hi => by rw [show i = 0 by omega]; exact h2) (fun i hi => hw _ (by simp [stC])) (fun i hi => hw _ (by simp [stC])) (fun i hi => hw _ (by simp [stC, stV])) (fun i hi => by rw [show i = 0 by omega]; exact hw _ (by simp [stC, stV]))
    (fun i hi k hk => by
      rw [show i = 0 by omega] at hk ⊢
      exact hw _ (List.mem_append_right _ (List.mem_map.mpr ⟨k, List.mem_range.mpr hk, rfl⟩)))
    (fun i k hi hk hne => absurd (show i = k by omega) hne) hA
  obtain ⟨q1, q2, q3, q4⟩ := hS.1 0 (by omega)
  exact ⟨adK 0, adV 0, hev 0 (by omega), q1, q2, q3, q4⟩
def sSx (L i : Nat) : Nat × Nat := if i = 0 then (5, L) else if i = 1 then (6, 4) else if 10 ≤ i ∧ i < 10 + 34 then (22, 0) else if 50 ≤ i ∧ i < 50 + 34 then (8, (stw (i - 50)).2.2.length) else (0, 0)
def sBN (k : Nat) : Int32 := ([0, 3, 1, 2] : List Int32).getD k 0
def sIx (xs : Nat → Int32) (i : Nat) : Nat → Int32 := if i = 0 then xs else if i = 1 then sBN else if 50 ≤ i ∧ i < 50 + 34 then (fun k => (stw (i - 50)).2.2.getD k 0) else fun _ => 0
def sRx (r0 : Option Nat) (i : Nat) : Nat → Option Nat := if 10 ≤ i ∧ i < 10 + 34 then (fun k => if k = 0 then some (i + 40) else none) else if i = 2 then (fun k => if k = 0 then r0 else none) else fun _ => none
def spx (b tB tS m1 m2 : Nat) (fa fv : Nat → Nat) (i : Nat) : Nat := if i = 0 then b else if i = 1 then tB else if i = 3 then tS else if i = 98 then m1 else if i = 99 then m2 else if 10 ≤ i ∧ i < 10 + 34 then fa (i - 10) else if 50 ≤ i ∧ i < 50 + 34 then fv (i - 50) else 0
def bnT : Term := .static "SnowCanton" "BY_NUMBER" "[I"
def aF0 : List Cond := [.arrayOf bnT .int, .eq (.length bnT) (.int 4), .eq (.elem bnT (.int 0)) (.int 0), .eq (.elem bnT (.int 1)) (.int 3), .eq (.elem bnT (.int 2)) (.int 1), .eq (.elem bnT (.int 3)) (.int 2), .eq (.static "java/lang/String" "COMPACT_STRINGS" "Z") (.int 1), .isRef (.static "jdk/internal/util/Preconditions" "SIOOBE_FORMATTER" "Ljava/util/function/BiFunction;"),
  .isRef (.static "java/lang/Throwable" "UNASSIGNED_STACK" "[Ljava/lang/StackTraceElement;"), .isRef (.static "java/lang/Throwable" "SUPPRESSED_SENTINEL" "Ljava/util/List;"), .not (.castable "java/lang/IllegalArgumentException" "java/util/NoSuchElementException"), .exactly (.string "SnowCanton" 340) "java/lang/String", .exactly (.string "SnowCanton" 333) "java/lang/String"]
theorem f0_all : aF0.all (fun w => decide (w ∈ aFN)) = true := by decide +kernel
theorem f0_in {w : Cond} (h : w ∈ aF0) : w ∈ aFN := of_decide_eq_true (List.all_eq_true.mp f0_all w h)
def aT0 : List Cond := [.laysStatic "SnowCanton" "BY_NUMBER" "[I", .laysStatic "java/lang/String" "COMPACT_STRINGS" "Z", .laysStatic "jdk/internal/util/Preconditions" "SIOOBE_FORMATTER" "Ljava/util/function/BiFunction;", .laysStatic "java/lang/Throwable" "UNASSIGNED_STACK" "[Ljava/lang/StackTraceElement;", .laysStatic "java/lang/Throwable" "SUPPRESSED_SENTINEL" "Ljava/util/List;",
  .initialized "SnowCanton", .initialized "java/lang/String", .initialized "jdk/internal/util/Preconditions", .initialized "java/lang/Throwable", .arrayOver (.object "java/lang/String"), .arrayClass .int, .arrayClass .byte, .arrayClass .long] ++ aStrs.map (fun q => .stringRef q.1 q.2.1 q.2.2.1)
theorem t0_all : aT0.all (fun w => decide (w ∈ tables_1)) = true := by decide +kernel
theorem t0_in {w : Cond} (h : w ∈ aT0) : w ∈ lw_tbl := List.mem_append_right _ (of_decide_eq_true (List.all_eq_true.mp t0_all w h))
theorem strs_ix : aStrs.all (fun q => (q.2.2.2 == 98 && q.1 == "SnowCanton" && q.2.1 == 340) || (q.2.2.2 == 99 && q.1 == "SnowCanton" && q.2.1 == 333) || (decide (10 ≤ q.2.2.2 ∧ q.2.2.2 < 10 + 34) && q.1 == (stw (q.2.2.2 - 10)).1 && q.2.1 == (stw (q.2.2.2 - 10)).2.1)) = true := by decide +kernel
set_option maxHeartbeats 2000000 in
theorem start_Lo {args : Array Value} {s : State} {b L : Nat} {xs : Nat → Int32} (hts : ∀ w ∈ lw_tbl, w.before args s = true) (hf : ∀ c ∈ aFN, c.before args s = true) (hX : va_X b L xs s s.heap) (hbl : b < s.heap.size) :
    ∃ (sp : Nat → Nat) (r0 : Option Nat), sp 0 = b ∧ (r0 = none ∨ r0 = some 3) ∧ a_Lo aNW aStrs sp s.heap.size (sSx L) (sIx xs) (sRx r0) s := by
  have hA : ∀ a : Nat, a < s.heap.size → ¬ a_A s.heap.size a := fun a h z => by unfold a_A at z; omega
  have hst : ∀ j, ∃ q : Nat × Nat, j < 34 → stF args s (a_A s.heap.size) j q.1 q.2 := by
    intro j
    by_cases hj : j < 34
    · obtain ⟨a, t, h⟩ := st_of hf hA hj
      exact ⟨(a, t), fun _ => h⟩
    · exact ⟨(0, 0), fun z => absurd z hj⟩
  have hfaf : ∃ fq : Nat → Nat × Nat, ∀ j, j < 34 → stF args s (a_A s.heap.size) j (fq j).1 (fq j).2 := ⟨fun j => Classical.choose (hst j), fun j hj => Classical.choose_spec (hst j) hj⟩
  obtain ⟨fq, hfq⟩ := hfaf
  have h0 : ∀ w ∈ aF0, w.before args s = true := fun w hw => hf w (f0_in hw)
  have ht : ∀ w ∈ aT0, w.before args s = true := fun w hw => hts w (t0_in hw)
  obtain ⟨tB, heB, hTB⟩ := va_Tof (args := args) (s := s) (tm := bnT) (ty := .int) (N := 4) (f := fun k => .int (sBN k)) (A := a_A s.heap.size) (by decide) (h0 _ (by simp [aF0])) (va_eqt (h0 _ (by simp [aF0]))) (fun j hj => by
    rcases (show j = 0 ∨ j = 1 ∨ j = 2 ∨ j = 3 by omega) with rfl | rfl | rfl | rfl
    · exact va_eqt (h0 (.eq (.elem bnT (.int 0)) (.int 0)) (by simp [aF0]))
    · exact va_eqt (h0 (.eq (.elem bnT (.int 1)) (.int 3)) (by simp [aF0]))
    · exact va_eqt (h0 (.eq (.elem bnT (.int 2)) (.int 1)) (by simp [aF0]))
    · exact va_eqt (h0 (.eq (.elem bnT (.int 3)) (.int 2)) (by simp [aF0]))) hA
  have hZB := va_Zref (A := a_A s.heap.size) (ht (.laysStatic "SnowCanton" "BY_NUMBER" "[I") (by simp [aT0])) (ht (.initialized "SnowCanton") (by simp [aT0])) heB hA
  have hZC := va_Zof (A := a_A s.heap.size) (ht (.laysStatic "java/lang/String" "COMPACT_STRINGS" "Z") (by simp [aT0])) (ht (.initialized "java/lang/String") (by simp [aT0])) (va_eqt (h0 (.eq (.static "java/lang/String" "COMPACT_STRINGS" "Z") (.int 1)) (by simp [aF0]))) hA
  have hZS := va_Zqof (A := a_A s.heap.size) (ht (.laysStatic "jdk/internal/util/Preconditions" "SIOOBE_FORMATTER" "Ljava/util/function/BiFunction;") (by simp [aT0])) (ht (.initialized "jdk/internal/util/Preconditions") (by simp [aT0])) (h0 _ (by simp [aF0])) hA
  have hZU := vx_Zqof (A := a_A s.heap.size) (ht (.laysStatic "java/lang/Throwable" "UNASSIGNED_STACK" "[Ljava/lang/StackTraceElement;") (by simp [aT0])) (ht (.initialized "java/lang/Throwable") (by simp [aT0])) (h0 _ (by simp [aF0])) hA
  have hZN := vx_Zqof (A := a_A s.heap.size) (ht (.laysStatic "java/lang/Throwable" "SUPPRESSED_SENTINEL" "Ljava/util/List;") (by simp [aT0])) (ht (.initialized "java/lang/Throwable") (by simp [aT0])) (h0 _ (by simp [aF0])) hA
  obtain ⟨m1, -, -, -, hm1, -⟩ := Cond.exactly_spec (args := args) (first := s) (o := none) (s := s) (idx := []) (h0 (.exactly (.string "SnowCanton" 340) "java/lang/String") (by simp [aF0]))
  obtain ⟨m2, -, -, -, hm2, -⟩ := Cond.exactly_spec (args := args) (first := s) (o := none) (s := s) (idx := []) (h0 (.exactly (.string "SnowCanton" 333) "java/lang/String") (by simp [aF0]))
  obtain ⟨r0, tS, hr0, hZS'⟩ : ∃ (r0 : Option Nat) (tS : Nat), (r0 = none ∨ r0 = some 3) ∧ va_Z "jdk/internal/util/Preconditions" "SIOOBE_FORMATTER" "Ljava/util/function/BiFunction;" (va_rf (r0.map (fun _ => tS))) (a_A s.heap.size) s s.heap := by
    rcases hZS with h | ⟨t, h⟩
    · exact ⟨none, 0, Or.inl rfl, h⟩
    · exact ⟨some 3, t, Or.inr rfl, h⟩
  generalize hsp : spx b tB tS m1 m2 (fun j => (fq j).1) (fun j => (fq j).2) = sp
  have hsp0 : sp 0 = b := by rw [← hsp]; rfl
  have hsp1 : sp 1 = tB := by rw [← hsp]; rfl
  have hspK : ∀ i, 10 ≤ i → i < 10 + 34 → sp i = (fq (i - 10)).1 := by
    intro i h1 h2
    rw [← hsp]; unfold spx
    rw [if_neg (by omega), if_neg (by omega), if_neg (by omega), if_neg (by omega), if_neg (by omega), if_pos ⟨h1, h2⟩]
  have hspV : ∀ i, 50 ≤ i → i < 50 + 34 → sp i = (fq (i - 50)).2 := by
    intro i h1 h2
    rw [← hsp]; unfold spx
    rw [if_neg (by omega), if_neg (by omega), if_neg (by omega), if_neg (by omega), if_neg (by omega), if_neg (by omega), if_pos ⟨h1, h2⟩]
  refine ⟨sp, r0, hsp0, hr0, ?_, ?_, ?_, ?_, ?_, hZC, ?_, ?_, hZU, hZN, ?_, va_AO.of (ht (.arrayOver (.object "java/lang/String")) (by simp [aT0])), va_Nc.of (h0 (.not (.castable "java/lang/IllegalArgumentException" "java/util/NoSuchElementException")) (by simp [aF0]))⟩
  · intro i hi hk
    by_cases h1 : i = 0
    · subst h1
      rw [hsp0]
      exact ⟨hX, hA b hbl⟩
    · exfalso
      unfold sSx at hk
      repeat' split at hk
      all_goals first | exact absurd hk (by decide) | contradiction | omega
  · intro i hi hk
    by_cases h1 : i = 1
    · subst h1
      rw [hsp1]
      exact hTB
    · exfalso
      unfold sSx at hk
      repeat' split at hk
      all_goals first | exact absurd hk (by decide) | contradiction | omega
  · intro i hi hk
    by_cases h1 : 50 ≤ i ∧ i < 50 + 34
    · rw [hspV i h1.1 h1.2]
      have e1 : (sSx L i).2 = (stw (i - 50)).2.2.length := by unfold sSx; rw [if_neg (by omega), if_neg (by omega), if_neg (by omega), if_pos h1]
      have e2 : sIx xs i = fun k => (stw (i - 50)).2.2.getD k 0 := by unfold sIx; rw [if_neg (by omega), if_neg (by omega), if_pos h1]
      rw [e1, e2]
      exact (hfq (i - 50) (by omega)).2.2.2.2
    · exfalso
      unfold sSx at hk
      repeat' split at hk
      all_goals first | exact absurd hk (by decide) | contradiction | omega
  · intro i hi hk
    by_cases h1 : 10 ≤ i ∧ i < 10 + 34
    · rw [hspK i h1.1 h1.2]
      have e1 : sRx r0 i 0 = some (i + 40) := by unfold sRx; rw [if_pos h1]; rfl
      have e2 : sIx xs i 1 = 0 := by unfold sIx; rw [if_neg (by omega), if_neg (by omega), if_neg (by omega)]
      rw [e1, e2]
      obtain ⟨-, q1, q2, q3, -⟩ := hfq (i - 10) (by omega)
      refine ⟨q1, ?_, q2⟩
      show va_OF _ _ _ (.ref (a_ad sp s.heap.size (i + 40))) _ _ _ _
      rw [a_ad_lo (by omega), hspV (i + 40) (by omega) (by omega), show i + 40 - 50 = i - 10 by omega]
      exact q3
    · exfalso
      unfold sSx at hk
      repeat' split at hk
      all_goals first | exact absurd hk (by decide) | contradiction | omega
  · rw [hsp1]; exact hZB
  · have e1 : sRx r0 2 0 = r0 := by unfold sRx; rw [if_neg (by omega), if_pos rfl]; rfl
    rw [e1]
    rcases hr0 with rfl | rfl
    · exact hZS'
    · have e3 : a_ad sp s.heap.size 3 = tS := by rw [a_ad_lo (by omega), ← hsp]; rfl
      show va_Z _ _ _ (.ref (a_ad sp s.heap.size 3)) _ _ _
      rw [e3]; exact hZS'
  · intro q hq
    have h9 := List.all_eq_true.mp strs_ix q hq
    have hw : (Cond.stringRef q.1 q.2.1 q.2.2.1).before args s = true := ht _ (List.mem_append_right _ (List.mem_map.mpr ⟨q, hq, rfl⟩))
    simp only [Bool.or_eq_true, Bool.and_eq_true, beq_iff_eq, decide_eq_true_eq] at h9
    rcases h9 with (⟨⟨e1, e2⟩, e3⟩ | ⟨⟨e1, e2⟩, e3⟩) | ⟨⟨e1, e2⟩, e3⟩
    · refine vk_R.of hw ?_
      rw [e1, e2, e3, a_ad_lo (by omega), ← hsp]
      exact hm1
    · refine vk_R.of hw ?_
      rw [e1, e2, e3, a_ad_lo (by omega), ← hsp]
      exact hm2
    · refine vk_R.of hw ?_
      rw [a_ad_lo (by omega), hspK _ e1.1 e1.2, e2, e3]
      exact (hfq _ (by omega)).1
  · intro w hw hn
    exact va_Nw.of (a_nest_on hn) (hts w (List.mem_filter.mp hw).1)
