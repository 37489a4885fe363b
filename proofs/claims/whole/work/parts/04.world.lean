/-! THE SMALL MACHINE'S HEAP IN THE JVM'S -/
def a_ad (sp : Nat → Nat) (base : Nat) (i : Nat) : Nat := if i < 100 then sp i else base + (i - 100)
def vM (ad : Nat → Nat) : Value → Value
  | .ref a => .ref (ad a)
  | v => v
theorem vM_int (ad : Nat → Nat) (x : Int32) : vM ad (.int x) = .int x := rfl
theorem vM_cat (ad : Nat → Nat) (v : Value) : (vM ad v).category = v.category := by cases v <;> rfl
theorem vM_rv (ad : Nat → Nat) (r : Option Nat) : vM ad (a_rv r) = va_rf (r.map ad) := by cases r <;> rfl
def a_fs (ft : aF) (ad : Nat → Nat) (h : aH) (ci i N : Nat) : List Value := (List.range N).map (fun f => if ft ci f = 2 then va_rf ((a_r h i f).map ad) else .int (a_i h i f))
def a_E (ft : aF) (nf : Nat → Nat) (cy : Nat → ClassId) (ad : Nat → Nat) (h : aH) (i : Nat) : va_E :=
  if (a_sh h i).1 = 1 ∨ (a_sh h i).1 = 2 then .inl (cy (a_sh h i).1, (a_sh h i).2, .inl (a_i h i))
  else if (a_sh h i).1 = 3 then .inl (cy 3, (a_sh h i).2, .inr (.inl (a_l h i)))
  else if (a_sh h i).1 = 4 then .inl (cy 4, (a_sh h i).2, .inr (.inr (.inr (.inr (fun j => (a_r h i j).map ad)))))
  else .inr ((a_sh h i).1 - 10, a_fs ft ad h ((a_sh h i).1 - 10) i (nf ((a_sh h i).1 - 10)))
def a_ws (ft : aF) (nf : Nat → Nat) (cy : Nat → ClassId) (ad : Nat → Nat) (base : Nat) (h : aH) : va_W := (List.range (a_n h - 100)).map (fun j => (base + j, a_E ft nf cy ad h (100 + j)))
section
variable {ft : aF} {nf : Nat → Nat} {cy : Nat → ClassId} {ad sp : Nat → Nat} {base : Nat} {h h' : aH}
theorem a_ad_hi {i : Nat} (hi : 100 ≤ i) : a_ad sp base i = base + (i - 100) := by unfold a_ad; rw [if_neg (by omega)]
theorem a_ad_lo {i : Nat} (hi : i < 100) : a_ad sp base i = sp i := by unfold a_ad; rw [if_pos hi]
theorem ws_get {i : Nat} (h1 : 100 ≤ i) (h2 : i < a_n h) : (a_ws ft nf cy ad base h)[i - 100]? = some (base + (i - 100), a_E ft nf cy ad h i) := by
  have e : 100 + (i - 100) = i := by omega
  unfold a_ws
  rw [List.getElem?_map, List.getElem?_range (by omega)]
  simp only [Option.map_some, e]
theorem ws_len : (a_ws ft nf cy ad base h).length = a_n h - 100 := by unfold a_ws; rw [List.length_map, List.length_range]
theorem ws_set {i : Nat} (h1 : 100 ≤ i) (h2 : i < a_n h) (hn : a_n h' = a_n h) (ho : ∀ j, j ≠ i → a_E ft nf cy ad h' j = a_E ft nf cy ad h j) {e : va_E} (he : e = a_E ft nf cy ad h' i) :
    (a_ws ft nf cy ad base h).set (i - 100) (base + (i - 100), e) = a_ws ft nf cy ad base h' := by
  subst he
  apply List.ext_getElem?
  intro k
  rw [List.getElem?_set]
  by_cases hk : i - 100 = k
  · subst hk
    rw [if_pos rfl, if_pos (by rw [ws_len]; omega), ws_get h1 (by omega)]
  · rw [if_neg hk]
    by_cases hk2 : k < a_n h - 100
    · have e1 := ws_get (ft := ft) (nf := nf) (cy := cy) (ad := ad) (base := base) (h := h) (i := 100 + k) (by omega) (by omega)
      have e2 := ws_get (ft := ft) (nf := nf) (cy := cy) (ad := ad) (base := base) (h := h') (i := 100 + k) (by omega) (by omega)
      rw [show 100 + k - 100 = k by omega] at e1 e2
      rw [e1, e2, ho _ (by omega)]
    · rw [List.getElem?_eq_none (by rw [ws_len]; omega), List.getElem?_eq_none (by rw [ws_len]; omega)]
theorem ws_D : va_D (fun q : Nat => base ≤ q) (a_ws ft nf cy ad base h) := by
  have key : ∀ (k : Nat) (q : Nat × va_E), (a_ws ft nf cy ad base h)[k]? = some q → q.1 = base + k := by
    intro k q hq
    have hk : k < a_n h - 100 := by
      have := (List.getElem?_eq_some_iff.mp hq).1
      rwa [ws_len] at this
    have e1 := ws_get (ft := ft) (nf := nf) (cy := cy) (ad := ad) (base := base) (h := h) (i := 100 + k) (by omega) (by omega)
    rw [show 100 + k - 100 = k by omega, hq] at e1
    cases e1; rfl
  refine ⟨fun i j p q h1 h2 e => ?_, fun k q h1 => ?_⟩
  · have a1 := key i p h1
    have a2 := key j q h2
    omega
  · have a1 := key k q h1
    show base ≤ q.1
    omega
theorem ws_push {e : va_E} (hn : a_n h' = a_n h + 1) (h1 : 100 ≤ a_n h) (ho : ∀ j, j < a_n h → a_E ft nf cy ad h' j = a_E ft nf cy ad h j) (he : e = a_E ft nf cy ad h' (a_n h)) :
    a_ws ft nf cy ad base h ++ [(base + (a_n h - 100), e)] = a_ws ft nf cy ad base h' := by
  subst he
  unfold a_ws
  rw [hn, show a_n h + 1 - 100 = (a_n h - 100) + 1 by omega, List.range_succ, List.map_append]
  congr 1
  · apply List.map_congr_left
    intro j hj
    rw [List.mem_range] at hj
    rw [ho _ (by omega)]
  · simp only [List.map_cons, List.map_nil, show 100 + (a_n h - 100) = a_n h by omega]
theorem E_arr {i : Nat} (hk : (a_sh h i).1 = 1 ∨ (a_sh h i).1 = 2) : a_E ft nf cy ad h i = .inl (cy (a_sh h i).1, (a_sh h i).2, .inl (a_i h i)) := by unfold a_E; rw [if_pos hk]
theorem E_long {i : Nat} (hk : (a_sh h i).1 = 3) : a_E ft nf cy ad h i = .inl (cy 3, (a_sh h i).2, .inr (.inl (a_l h i))) := by unfold a_E; rw [if_neg (by omega), if_pos hk]
theorem E_ref {i : Nat} (hk : (a_sh h i).1 = 4) : a_E ft nf cy ad h i = .inl (cy 4, (a_sh h i).2, .inr (.inr (.inr (.inr (fun j => (a_r h i j).map ad))))) := by unfold a_E; rw [if_neg (by omega), if_neg (by omega), if_pos hk]
theorem E_obj {i ci : Nat} (hk : (a_sh h i).1 = 10 + ci) : a_E ft nf cy ad h i = .inr (ci, a_fs ft ad h ci i (nf ci)) := by
  unfold a_E; rw [if_neg (by omega), if_neg (by omega), if_neg (by omega), hk, show 10 + ci - 10 = ci by omega]
/-- a cell is the same where its shape and what it holds are -/
theorem E_same {i : Nat} (h0 : a_sh h' i = a_sh h i) (h1 : a_i h' i = a_i h i) (h2 : a_r h' i = a_r h i) (h3 : a_l h' i = a_l h i) : a_E ft nf cy ad h' i = a_E ft nf cy ad h i := by
  unfold a_E a_fs; rw [h0, h1, h2, h3]
theorem fs_get {ci i N f : Nat} (hf : f < N) : (a_fs ft ad h ci i N)[f]? = some (if ft ci f = 2 then va_rf ((a_r h i f).map ad) else .int (a_i h i f)) := by
  unfold a_fs; rw [List.getElem?_map, List.getElem?_range hf]; rfl
theorem fs_len {ci i N : Nat} : (a_fs ft ad h ci i N).length = N := by unfold a_fs; rw [List.length_map, List.length_range]
theorem fs_set {ci i N f : Nat} {v : Value} (hv : v = if ft ci f = 2 then va_rf ((a_r h' i f).map ad) else .int (a_i h' i f)) (ho : ∀ j, j ≠ f → a_i h' i j = a_i h i j ∧ a_r h' i j = a_r h i j) :
    (a_fs ft ad h ci i N).set f v = a_fs ft ad h' ci i N := by
  subst hv
  apply List.ext_getElem?
  intro k
  rw [List.getElem?_set]
  by_cases hk : f = k
  · subst hk
    rw [if_pos rfl, fs_len]
    by_cases hN : f < N
    · rw [if_pos hN, fs_get hN]
    · rw [if_neg hN, List.getElem?_eq_none (by rw [fs_len]; omega)]
  · rw [if_neg hk]
    by_cases hN : k < N
    · rw [fs_get hN, fs_get hN, (ho k (Ne.symm hk)).1, (ho k (Ne.symm hk)).2]
    · rw [List.getElem?_eq_none (by rw [fs_len]; omega), List.getElem?_eq_none (by rw [fs_len]; omega)]
end
/-- the kinds of special cells: the script, a static row, a literal's bytes, a literal -/
def a_spk (k : Nat) : Bool := k == 5 || k == 6 || k == 8 || k == 22
/-- a heap in order: special references below 100, nothing from the next one on -/
def a_ok (h : aH) : Prop := 100 ≤ a_n h ∧ (∀ i, a_n h ≤ i → (a_sh h i).1 = 0) ∧ (∀ i, i < 100 → (a_sh h i).1 = 0 ∨ a_spk (a_sh h i).1 = true) ∧ ∀ i, 100 ≤ i → a_spk (a_sh h i).1 = false
theorem a_ok.in_heap {h : aH} (ok : a_ok h) {i : Nat} (h0 : ¬ (a_sh h i).1 = 0) (h1 : a_spk (a_sh h i).1 = false) : 100 ≤ i ∧ i < a_n h := by
  refine ⟨?_, ?_⟩
  · rcases Nat.lt_or_ge i 100 with q | q
    · rcases ok.2.2.1 i q with a | a
      · exact absurd a h0
      · rw [h1] at a; cases a
    · exact q
  · rcases Nat.lt_or_ge i (a_n h) with q | q
    · exact q
    · exact absurd (ok.2.1 i q) h0
theorem a_ok.special {h : aH} (ok : a_ok h) {i : Nat} (h1 : a_spk (a_sh h i).1 = true) : i < 100 := by
  rcases Nat.lt_or_ge i 100 with q | q
  · exact q
  · rw [ok.2.2.2 i q] at h1; cases h1
/-- the world: special cells as they are told, the heap's least size, every cell's picture -/
def a_W (D : va_G) (cl : List vw_C) (ft : aF) (nf : Nat → Nat) (cy : Nat → ClassId) (sp : Nat → Nat) (base : Nat) (sS : Nat → Nat × Nat) (sI : Nat → Nat → Int32) (sR : Nat → Nat → Option Nat) (h : aH) (H : Heap) : Prop :=
  a_ok h ∧ (∀ i, i < 100 → a_sh h i = sS i ∧ a_i h i = sI i ∧ a_r h i = sR i) ∧ base + (a_n h - 100) ≤ H.size ∧ va_P D cl (a_ws ft nf cy (a_ad sp base) base h) H
/-- only a cell of the heap has changed: the world's other parts stay -/
theorem a_ok.keep {h h' : aH} (ok : a_ok h) (hn : a_n h' = a_n h) (hs : a_sh h' = a_sh h) : a_ok h' := by
  unfold a_ok at *; rw [hn, hs]; exact ok
