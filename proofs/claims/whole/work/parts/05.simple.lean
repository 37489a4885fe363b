/-! THE JVM DOES WHAT THE SMALL MACHINE DOES: stack, locals, branches -/
def lvOf (ad : Nat → Nat) (L : List Value) : List (Nat × Value) := (List.range L.length).filterMap (fun i => match L[i]? with
  | some v => if v = .null then none else some (i, vM ad v)
  | none => none)
theorem lvOf_mem {ad : Nat → Nat} {L : List Value} {q : Nat × Value} : q ∈ lvOf ad L ↔ ∃ v, L[q.1]? = some v ∧ v ≠ .null ∧ q.2 = vM ad v := by
  unfold lvOf
  rw [List.mem_filterMap]
  constructor
  · rintro ⟨i, -, hi⟩
    split at hi
    · rename_i v hv
      split at hi
      · cases hi
      · rename_i hn
        cases hi
        exact ⟨v, hv, hn, rfl⟩
    · cases hi
  · rintro ⟨v, hv, hn, h2⟩
    refine ⟨q.1, List.mem_range.mpr (List.getElem?_eq_some_iff.mp hv).1, ?_⟩
    rw [hv]
    simp only [if_neg hn]
    rw [← h2]
/-- the locals as the machine has them -/
def a_lr (ad : Nat → Nat) (ls : Array Slot) (nL : Nat) (L : List Value) : Prop := lv_has ls nL (lvOf ad L) ∧ L.length = nL
theorem a_lr.at {ad : Nat → Nat} {ls : Array Slot} {nL : Nat} {L : List Value} (h : a_lr ad ls nL L) {i : Nat} {v : Value} (hv : L[i]? = some v) (hn : v ≠ .null) : ls[i]? = some (.val (vM ad v)) :=
  h.1.2.2 (i, vM ad v) (lvOf_mem.mpr ⟨v, hv, hn, rfl⟩)
theorem a_st_spec {L : List Value} {i : Nat} (h : a_st L i = true) : i < L.length ∧ ∀ j, j + 1 = i → ∀ v, L[j]? = some v → v.category = 1 := by
  unfold a_st at h
  rw [Bool.and_eq_true, decide_eq_true_eq] at h
  refine ⟨h.1, ?_⟩
  intro j hj v hv
  subst hj
  have h2 := h.2
  simp only [hv, beq_iff_eq] at h2
  exact h2
def a_nd (_ : List Value) : Prop := True
theorem a_lr_store {ad : Nat → Nat} {ls' : Array Slot} {nL : Nat} {L : List Value} {i : Nat} {v : Value} (hl : L.length = nL) (hnd : a_nd L) (hst : a_st L i = true)
    (h : lv_has ls' nL ((i, vM ad v) :: (lvOf ad L).filter (fun q => !(q.1 == i) && !(q.1 + 1 == i && q.2.category == 2)))) : a_lr ad ls' nL (L.set i v) := by
  obtain ⟨h1, h2, h3⟩ := h
  obtain ⟨s1, s2⟩ := a_st_spec hst
  refine ⟨⟨h1, h2, fun q hq => h3 q ?_⟩, by rw [List.length_set]; exact hl⟩
  obtain ⟨w, hw, hn, e⟩ := lvOf_mem.mp hq
  rw [List.getElem?_set] at hw
  by_cases hi : i = q.1
  · rw [if_pos hi, if_pos (by omega)] at hw
    cases hw
    refine List.mem_cons.mpr (Or.inl ?_)
    obtain ⟨q1, q2⟩ := q
    cases hi; cases e; rfl
  · rw [if_neg hi] at hw
    refine List.mem_cons_of_mem _ (List.mem_filter.mpr ⟨lvOf_mem.mpr ⟨w, hw, hn, e⟩, ?_⟩)
    simp only [Bool.and_eq_true, Bool.not_eq_true', beq_eq_false_iff_ne, ne_eq, Bool.and_eq_false_imp, beq_iff_eq]
    refine ⟨fun z => hi z.symm, fun z => ?_⟩
    rw [e, vM_cat, s2 q.1 z w hw]
    decide
theorem a_nd_set {L : List Value} {i : Nat} {v : Value} (h : a_nd L) (hv : v.category = 2 → ∃ x, v = .long x) : a_nd (L.set i v) := trivial
section
variable {p : Program} {l : Launch} {e : Env} {R : Room} {s : State} {m : MethodId} {args : Array Value} {below : List Frame} {meth : Method} {c : Code} {H : Heap} {locs : List Loc} {cells slots : Nat} {Q : State → Prop} {cc : ByteArray} {pc : Nat} {ls : Array Slot} {ad : Nat → Nat}
/-- what the constants of an instruction stand for -/
def a_ldc (own : String) (ad : Nat → Nat) (args : Array Value) (s : State) (ins : Instr) (rs : List Nat) : Prop := match ins, rs with
  | .ldc i, [0, v] => (Cond.constant own i (Int32.ofNat v)).before args s = true
  | .ldc i, [1, j] => ∃ tx, vk_R own i tx (ad j) s
  | .ldc_w i, [0, v] => (Cond.constant own i (Int32.ofNat v)).before args s = true
  | .ldc_w i, [1, j] => ∃ tx, vk_R own i tx (ad j) s
  | .ldc2_w i, [v] => (Cond.constantLong own i (Int64.ofNat v)).before args s = true
  | _, _ => True
theorem va_ldcSW (hexec : p.tables.exec = Jvm.exec) (hb : c.code = cc) {own tx : String} {index q : Nat} {rest : List Value} (hown : s.vm.findClass own = some m.cls) (hZ : vk_R own index tx q s) (hdg : decode cc pc = .ok (.ldc_w index, 3))
    (k : W p l e R s m args below meth c H locs cells slots Q (F0 m (pc + 3) ls (.ref q :: rest))) : W p l e R s m args below meth c H locs cells slots Q (F0 m pc ls rest) := by
  intro T hT X
  obtain ⟨t, a1, b1⟩ := k T hT X
  exact ⟨t, X.ldcStringW hexec hown (text := tx) (a := q) hZ.1 hZ.2 (g := F0 m pc ls rest) rfl (by rw [hb]; exact hdg) t a1, b1⟩
theorem s_pure (hx : p.tables.exec = Jvm.exec) (hb : c.code = cc) {own : String} (hown : s.vm.findClass own = some m.cls) {ins : Instr} {rs : List Nat} {S S' : List Value} (hd : decode cc pc = .ok (ins, a_len ins)) (hc : a_ldc own ad args s ins rs) (h : a_pure ins rs S = some S')
    (k : W p l e R s m args below meth c H locs cells slots Q (F0 m (pc + a_len ins) ls (S'.map (vM ad)))) : W p l e R s m args below meth c H locs cells slots Q (F0 m pc ls (S.map (vM ad))) := by
  unfold a_pure at h
  split at h
  all_goals (try split at h)
  all_goals (first | (cases h; done) | skip)
  all_goals (obtain rfl := Option.some.inj h)
  · exact lv_iconst hx hb hd rfl k
  · exact lv_bipush hx hb hd rfl k
  · exact lv_sipush hx hb hd rfl k
  · exact lv_lconst hx hb hd rfl k
  · exact lv_ldc hx hb hown hc hd k
  · exact hc.elim (fun tx hz => va_ldcS hx hb hown hz hd k)
  · exact lv_ldcw hx hb hown hc hd k
  · exact hc.elim (fun tx hz => va_ldcSW hx hb hown hz hd k)
  · exact lv_ldc2 hx hb hown hc hd k
  · exact lv_iadd hx hb hd k
  · exact lv_isub hx hb hd k
  · exact lv_imul hx hb hd k
  · exact lv_iand hx hb hd k
  · exact lv_ior hx hb hd k
  · exact lv_ixor hx hb hd k
  · exact lv_ishl hx hb hd k
  · exact lv_ishr hx hb hd k
  · exact lv_iushr hx hb hd rfl k
  · exact lv_ineg hx hb hd k
  · exact lv_i2l hx hb hd rfl k
  · exact lv_i2b hx hb hd rfl k
  · exact lv_i2c hx hb hd rfl k
  · exact W.lcmp hx hb hd k
  · exact lv_dup hx hb hd rfl k
  · exact lv_dup hx hb hd rfl k
  · exact lv_dup_x1 hx hb hd rfl rfl k
  · exact lv_dup_x2 hx hb hd rfl rfl rfl k
  · exact lv_dup2_11 hx hb hd rfl rfl k
  · exact lv_pop hx hb hd rfl k
  · exact lv_pop hx hb hd rfl k
theorem s_br (hx : p.tables.exec = Jvm.exec) (hb : c.code = cc) {ins : Instr} {S S' : List Value} {cnd : Prop} {tgt : Nat} (hd : decode cc pc = .ok (ins, a_len ins)) (h : a_br ins S = some (cnd, S'))
    (ht : ∀ (b : ClassFile.Cond) (off : Int), (ins = .ifCond b off ∨ ins = .if_icmp b off) → (pc : Int) + off = (tgt : Int))
    (kt : cnd → W p l e R s m args below meth c H locs cells slots Q (F0 m tgt ls (S'.map (vM ad)))) (kf : ¬ cnd → W p l e R s m args below meth c H locs cells slots Q (F0 m (pc + 3) ls (S'.map (vM ad)))) :
    W p l e R s m args below meth c H locs cells slots Q (F0 m pc ls (S.map (vM ad))) := by
  unfold a_br at h
  split at h
  all_goals (try split at h)
  all_goals (first | (cases h; done) | skip)
  all_goals (obtain ⟨rfl, rfl⟩ := Prod.mk.inj (Option.some.inj h))
  all_goals (first
    | exact lv_if_eq hx hb hd (ht _ _ (Or.inl rfl)) kt kf
    | exact lv_if_ne hx hb hd (ht _ _ (Or.inl rfl)) kt (fun q => kf (fun z => z q))
    | exact lv_if_lt hx hb hd (ht _ _ (Or.inl rfl)) kt kf
    | exact lv_if_ge hx hb hd (ht _ _ (Or.inl rfl)) kt kf
    | exact lv_if_gt hx hb hd (ht _ _ (Or.inl rfl)) kt kf
    | exact lv_if_le hx hb hd (ht _ _ (Or.inl rfl)) kt kf
    | exact lv_icmp_eq hx hb hd (ht _ _ (Or.inr rfl)) kt kf
    | exact lv_icmp_ne hx hb hd (ht _ _ (Or.inr rfl)) kt (fun q => kf (fun z => z q))
    | exact lv_icmp_lt hx hb hd (ht _ _ (Or.inr rfl)) kt kf
    | exact lv_icmp_ge hx hb hd (ht _ _ (Or.inr rfl)) kt kf
    | exact lv_icmp_gt hx hb hd (ht _ _ (Or.inr rfl)) kt kf
    | exact lv_icmp_le hx hb hd (ht _ _ (Or.inr rfl)) kt kf)
theorem s_loc (hx : p.tables.exec = Jvm.exec) (hb : c.code = cc) {ins : Instr} {nL : Nat} {L L' S S' : List Value} (hd : decode cc pc = .ok (ins, a_len ins)) (hl : a_lr ad ls nL L) (hnd : a_nd L) (h : a_loc ins L S = some (L', S'))
    (k : ∀ ls' : Array Slot, a_lr ad ls' nL L' → a_nd L' → W p l e R s m args below meth c H locs cells slots Q (F0 m (pc + a_len ins) ls' (S'.map (vM ad)))) : W p l e R s m args below meth c H locs cells slots Q (F0 m pc ls (S.map (vM ad))) := by
  unfold a_loc at h
  split at h
  all_goals (try split at h)
  all_goals (try split at h)
  all_goals (first | (cases h; done) | skip)
  all_goals (obtain ⟨rfl, rfl⟩ := Prod.mk.inj (Option.some.inj h))
  · rename_i q; exact lv_iload hx hb hd (hl.at q (by intro z; cases z)) (k ls hl hnd)
  · rename_i q; exact lv_iload_n hx hb hd rfl (hl.at q (by intro z; cases z)) (k ls hl hnd)
  · rename_i q; exact lv_lload hx hb hd (hl.at q (by intro z; cases z)) (k ls hl hnd)
  · rename_i q; exact lv_lload_n hx hb hd rfl (hl.at q (by intro z; cases z)) (k ls hl hnd)
  · rename_i q; exact lv_aload hx hb hd (hl.at q (by intro z; cases z)) (k ls hl hnd)
  · rename_i q; exact lv_aload_n hx hb hd rfl (hl.at q (by intro z; cases z)) (k ls hl hnd)
  · rename_i q; exact lv_istore hx hb hd hl.1 (by have := (a_st_spec q).1; rw [hl.2] at this; exact this) rfl (fun ls' h' => k ls' (a_lr_store hl.2 hnd q h') (a_nd_set hnd (by intro z; cases z)))
  · rename_i q; exact lv_istore_n hx hb hd rfl hl.1 (by have := (a_st_spec q).1; rw [hl.2] at this; exact this) rfl (fun ls' h' => k ls' (a_lr_store hl.2 hnd q h') (a_nd_set hnd (by intro z; cases z)))
  · rename_i q; exact lv_astore hx hb hd hl.1 (by have := (a_st_spec q).1; rw [hl.2] at this; exact this) rfl (fun ls' h' => k ls' (a_lr_store hl.2 hnd q h') (a_nd_set hnd (by intro z; cases z)))
  · rename_i q; exact lv_astore_n hx hb hd rfl hl.1 (by have := (a_st_spec q).1; rw [hl.2] at this; exact this) rfl (fun ls' h' => k ls' (a_lr_store hl.2 hnd q h') (a_nd_set hnd (by intro z; cases z)))
  · rename_i xx q0 bb q
    obtain ⟨kk, hkk⟩ := List.getElem?_of_mem ((lvOf_mem (ad := ad) (L := L) (q := (_, Value.int xx))).mpr ⟨_, q0, (by intro z; cases z), rfl⟩)
    exact lv_iinc hx hb hd hl.1 hkk rfl (by have := (a_st_spec q).1; rw [hl.2] at this; exact this) rfl (fun ls' h' => k ls' (a_lr_store hl.2 hnd q h') (a_nd_set hnd (by intro z; cases z)))
end
