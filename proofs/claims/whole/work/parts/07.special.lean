/-! WHAT LIES BELOW THE PROGRAM'S CELLS: the script, a static row, literals, statics -/
abbrev aStr : Type := List (String × Nat × String × Nat)
/-- words of the tables that stay as they are, though 'keeps' doesn't say so -/
def a_nest : Cond → Bool
  | .fieldLinkNest _ _ _ _ _ _ => true
  | .methodLinkNest _ _ _ _ => true
  | .castable _ _ => true
  | .declares _ => true
  | _ => false
theorem a_nest_warm {w : Cond} {s U : State} (hn : a_nest w = true) (hW : s.WarmedH U.vm) (h : va_Nw w s) : va_Nw w U := by
  cases w <;> first | (cases hn; done) | exact va_Nw.warmF hW h | exact va_Nw.warmM hW h | exact va_Nw.warmC hW h | exact va_Nw.warmD hW h
theorem a_nest_on {w : Cond} (hn : a_nest w = true) : w.onTables = true := by
  cases w <;> first | (cases hn; done) | rfl
def a_Lo (nw : List Cond) (strs : aStr) (sp : Nat → Nat) (base : Nat) (sS : Nat → Nat × Nat) (sI : Nat → Nat → Int32) (sR : Nat → Nat → Option Nat) (s : State) : Prop :=
  (∀ i, i < 100 → (sS i).1 = 5 → va_X (sp i) (sS i).2 (sI i) s s.heap ∧ ¬ a_A base (sp i)) ∧
  (∀ i, i < 100 → (sS i).1 = 6 → va_T .int (sp i) (sS i).2 (fun k => .int (sI i k)) (a_A base) s s.heap) ∧
  (∀ i, i < 100 → (sS i).1 = 8 → va_T .byte (sp i) (sS i).2 (fun k => .int (sI i k)) (a_A base) s s.heap) ∧
  (∀ i, i < 100 → (sS i).1 = 22 → va_O "java/lang/String" (sp i) (a_A base) s s.heap ∧ va_OF "java/lang/String" "value" "[B" (va_rf ((sR i 0).map (a_ad sp base))) (sp i) (a_A base) s s.heap ∧ va_OF "java/lang/String" "coder" "B" (.int (sI i 1)) (sp i) (a_A base) s s.heap) ∧
  va_Z "SnowCanton" "BY_NUMBER" "[I" (.ref (sp 1)) (a_A base) s s.heap ∧
  va_Z "java/lang/String" "COMPACT_STRINGS" "Z" (.int 1) (a_A base) s s.heap ∧
  va_Z "jdk/internal/util/Preconditions" "SIOOBE_FORMATTER" "Ljava/util/function/BiFunction;" (va_rf ((sR 2 0).map (a_ad sp base))) (a_A base) s s.heap ∧
  (∀ q ∈ strs, vk_R q.1 q.2.1 q.2.2.1 (a_ad sp base q.2.2.2) s) ∧
  vx_Zq Bundle.tN "UNASSIGNED_STACK" Bundle.steD (a_A base) s s.heap ∧ vx_Zq Bundle.tN "SUPPRESSED_SENTINEL" Bundle.listD (a_A base) s s.heap ∧
  (∀ w ∈ nw, a_nest w = true → va_Nw w s) ∧ va_AO "java/lang/String" s ∧ va_Nc "java/lang/IllegalArgumentException" "java/util/NoSuchElementException" s
theorem a_Lo.to {nw : List Cond} {strs : aStr} {sp : Nat → Nat} {base : Nat} {sS : Nat → Nat × Nat} {sI : Nat → Nat → Int32} {sR : Nat → Nat → Option Nat} {s U : State} (h : a_Lo nw strs sp base sS sI sR s) (hW : s.WarmedH U.vm) (hq : ∀ a : Nat, a < s.heap.size → ¬ a_A base a → U.heap[a]? = s.heap[a]?) : a_Lo nw strs sp base sS sI sR U := by
  obtain ⟨h1, h2, h3, h4, h5, h6, h7, h8, h9, h10, h11, h12, h13⟩ := h
  have hv := hW.alike
  refine ⟨fun i a b => ⟨((h1 i a b).1.kept (hq _ ?_ (h1 i a b).2)).moved hv, (h1 i a b).2⟩, fun i a b => ((h2 i a b).kept hq).moved hv, fun i a b => ((h3 i a b).kept hq).moved hv, fun i a b => ⟨((h4 i a b).1.kept hq).moved hv, ((h4 i a b).2.1.kept hq).moved hv, ((h4 i a b).2.2.kept hq).moved hv⟩, (h5.kept hq).moved hv, (h6.kept hq).moved hv, (h7.kept hq).moved hv, fun q a => (h8 q a).warm hW, (h9.kept hq).moved hv, (h10.kept hq).moved hv, fun w a b => a_nest_warm b hW (h11 w a b), h12.moved hv, h13.moved hv⟩
  obtain ⟨scr, g, -⟩ := (h1 i a b).1
  exact (Array.getElem?_eq_some_iff.mp g).1
/-- what a string literal's 'ldc' needs is in the list -/
def a_ldR (Ts : List Cond) (strs : aStr) (own : String) (ins : Instr) (rs : List Nat) : Prop := match ins, rs with
  | .ldc i, [0, v] => Cond.constant own i (Int32.ofNat v) ∈ Ts
  | .ldc i, [1, j] => ∃ tx, (own, i, tx, j) ∈ strs
  | .ldc_w i, [0, v] => Cond.constant own i (Int32.ofNat v) ∈ Ts
  | .ldc_w i, [1, j] => ∃ tx, (own, i, tx, j) ∈ strs
  | .ldc2_w i, [v] => Cond.constantLong own i (Int64.ofNat v) ∈ Ts
  | _, _ => True
section
variable {p : Program} {l : Launch} {e : Env} {R : Room} {s : State} {m : MethodId} {args : Array Value} {below : List Frame} {meth : Method} {c : Code} {H : Heap} {locs : List Loc} {cells slots : Nat} {Q : State → Prop} {cc : ByteArray} {pc : Nat} {ls : Array Slot} {rest : List Value}
variable {D : va_G} {cl : List vw_C} {ft : aF} {nf : Nat → Nat} {cy sp : Nat → Nat} {base : Nat} {sS : Nat → Nat × Nat} {sI : Nat → Nat → Int32} {sR : Nat → Nat → Option Nat} {h h' : aH} {Ts : List Cond} {own : String} {nw : List Cond} {strs : aStr}
theorem a_ldc_of {ins : Instr} {rs : List Nat} (hts : ∀ w ∈ Ts, w.before args s = true) (hL : a_Lo nw strs sp base sS sI sR s) (hr : a_ldR Ts strs own ins rs) : a_ldc own (a_ad sp base) args s ins rs := by
  unfold a_ldc
  split
  · exact hts _ hr
  · obtain ⟨tx, hm⟩ := hr
    exact ⟨tx, hL.2.2.2.2.2.2.2.1 _ hm⟩
  · exact hts _ hr
  · obtain ⟨tx, hm⟩ := hr
    exact ⟨tx, hL.2.2.2.2.2.2.2.1 _ hm⟩
  · exact hts _ hr
  · trivial
/-- iaload of any row of ints -/
theorem s_iald_all (hx : p.tables.exec = Jvm.exec) (hb : c.code = cc) (hK : va_K D cl (a_tys cy) s) (hL : a_Lo nw strs sp base sS sI sR s) (hW : a_W D cl ft nf cy sp base sS sI sR h H) (hS : va_S (a_A base) s.heap H locs) {a : Nat} {i : Int32} (hsh : a_isI (a_sh h a).1 = true) (hin : vp_in i (a_sh h a).2) (hd : decode cc pc = .ok (.iaload, 1))
    (k : W p l e R s m args below meth c H locs cells slots Q (F0 m (pc + 1) ls (.int (a_i h a i.toNatClampNeg) :: rest))) : W p l e R s m args below meth c H locs cells slots Q (F0 m pc ls (.int i :: .ref (a_ad sp base a) :: rest)) := by
  rcases (show (a_sh h a).1 = 1 ∨ (a_sh h a).1 = 5 ∨ (a_sh h a).1 = 6 by unfold a_isI at hsh; simp only [Bool.or_eq_true, beq_iff_eq] at hsh; omega) with q | q | q
  · exact s_iald hx hb hK hW q hin hd k
  · have ha := hW.1.special (i := a) (by rw [q]; rfl)
    obtain ⟨w1, w2, -⟩ := hW.2.1 a ha
    rw [w1] at q hin
    rw [w2] at k
    obtain ⟨g1, g2⟩ := hL.1 a ha q
    rw [a_ad_lo ha]
    obtain ⟨scr, g3, -⟩ := id g1
    exact va_sld hx hb g1 (Array.getElem?_eq_some_iff.mp g3).1 g2 hS hin hd k
  · have ha := hW.1.special (i := a) (by rw [q]; rfl)
    obtain ⟨w1, w2, -⟩ := hW.2.1 a ha
    rw [w1] at q hin
    rw [w2] at k
    rw [a_ad_lo ha]
    exact va_ti hx hb (hL.2.1 a ha q) hS hin rfl hd k
theorem s_bald_all (hx : p.tables.exec = Jvm.exec) (hb : c.code = cc) (hK : va_K D cl (a_tys cy) s) (hL : a_Lo nw strs sp base sS sI sR s) (hW : a_W D cl ft nf cy sp base sS sI sR h H) (hS : va_S (a_A base) s.heap H locs) {a : Nat} {i : Int32} (hsh : a_isB (a_sh h a).1 = true) (hin : vp_in i (a_sh h a).2) (hd : decode cc pc = .ok (.baload, 1))
    (k : W p l e R s m args below meth c H locs cells slots Q (F0 m (pc + 1) ls (.int (a_i h a i.toNatClampNeg) :: rest))) : W p l e R s m args below meth c H locs cells slots Q (F0 m pc ls (.int i :: .ref (a_ad sp base a) :: rest)) := by
  rcases (show (a_sh h a).1 = 2 ∨ (a_sh h a).1 = 8 by unfold a_isB at hsh; simp only [Bool.or_eq_true, beq_iff_eq] at hsh; omega) with q | q
  · exact s_bald hx hb hK hW q hin hd k
  · have ha := hW.1.special (i := a) (by rw [q]; rfl)
    obtain ⟨w1, w2, -⟩ := hW.2.1 a ha
    rw [w1] at q hin
    rw [w2] at k
    rw [a_ad_lo ha]
    exact va_tb hx hb (hL.2.2.1 a ha q) hS hin rfl hd k
theorem s_alen_all (hx : p.tables.exec = Jvm.exec) (hb : c.code = cc) (hK : va_K D cl (a_tys cy) s) (hL : a_Lo nw strs sp base sS sI sR s) (hW : a_W D cl ft nf cy sp base sS sI sR h H) (hS : va_S (a_A base) s.heap H locs) {a : Nat} (hsh : a_isL (a_sh h a).1 = true) (hd : decode cc pc = .ok (.arraylength, 1))
    (k : W p l e R s m args below meth c H locs cells slots Q (F0 m (pc + 1) ls (.int (Int32.ofNat (a_sh h a).2) :: rest))) : W p l e R s m args below meth c H locs cells slots Q (F0 m pc ls (.ref (a_ad sp base a) :: rest)) := by
  rcases (show (1 ≤ (a_sh h a).1 ∧ (a_sh h a).1 ≤ 4) ∨ (a_sh h a).1 = 5 ∨ (a_sh h a).1 = 8 by unfold a_isL at hsh; simp only [Bool.or_eq_true, beq_iff_eq] at hsh; omega) with q | q | q
  · exact s_alen hx hb hK hW q.1 q.2 hd k
  · have ha := hW.1.special (i := a) (by rw [q]; rfl)
    obtain ⟨w1, w2, -⟩ := hW.2.1 a ha
    rw [w1] at q k
    obtain ⟨g1, g2⟩ := hL.1 a ha q
    rw [a_ad_lo ha]
    obtain ⟨scr, g3, -⟩ := id g1
    exact va_slen hx hb g1 (Array.getElem?_eq_some_iff.mp g3).1 g2 hS hd k
  · have ha := hW.1.special (i := a) (by rw [q]; rfl)
    obtain ⟨w1, w2, -⟩ := hW.2.1 a ha
    rw [w1] at q k
    rw [a_ad_lo ha]
    exact va_tlen hx hb (hL.2.2.1 a ha q) hS rfl hd k
/-- a literal's two fields -/
theorem s_getS (hx : p.tables.exec = Jvm.exec) (hb : c.code = cc) (hown : s.vm.findClass own = some m.cls) (hL : a_Lo nw strs sp base sS sI sR s) (hW : a_W D cl ft nf cy sp base sS sI sR h H) (hS : va_S (a_A base) s.heap H locs) {idx f a : Nat} (hsh : (a_sh h a).1 = 22) (hd : decode cc pc = .ok (.getfield idx, 3)) {v : Value}
    (hf : (f = 0 ∧ (Cond.fieldLink own idx "java/lang/String" "value" "[B").before args s = true ∧ v = va_rf ((a_r h a 0).map (a_ad sp base))) ∨ (f = 1 ∧ (Cond.fieldLink own idx "java/lang/String" "coder" "B").before args s = true ∧ v = .int (a_i h a 1)))
    (k : W p l e R s m args below meth c H locs cells slots Q (F0 m (pc + 3) ls (v :: rest))) : W p l e R s m args below meth c H locs cells slots Q (F0 m pc ls (.ref (a_ad sp base a) :: rest)) := by
  have ha := hW.1.special (i := a) (by rw [hsh]; rfl)
  obtain ⟨w1, w2, w3⟩ := hW.2.1 a ha
  rw [w1] at hsh
  rw [w2, w3] at hf
  rw [a_ad_lo ha]
  obtain ⟨g1, g2, g3⟩ := hL.2.2.2.1 a ha hsh
  rcases hf with ⟨-, hl, rfl⟩ | ⟨-, hl, rfl⟩
  · exact vk_getf hx hb g2 hS hown hl (fun x hx => hx) hd k
  · exact vk_getf hx hb g3 hS hown hl (fun x hx => hx) hd k
/-- the statics that are read -/
def a_stR (Ts : List Cond) (own : String) (idx : Nat) (rs : List Nat) : Prop := match rs with
  | [1] => ∃ host, Cond.fieldLinkNest own idx "SnowCanton" "BY_NUMBER" "[I" host ∈ Ts
  | [2] => Cond.fieldLink own idx "java/lang/String" "COMPACT_STRINGS" "Z" ∈ Ts
  | [3] => Cond.fieldLink own idx "jdk/internal/util/Preconditions" "SIOOBE_FORMATTER" "Ljava/util/function/BiFunction;" ∈ Ts
  | _ => False
theorem s_gets (hx : p.tables.exec = Jvm.exec) (hb : c.code = cc) (hown : s.vm.findClass own = some m.cls) (hts : ∀ w ∈ Ts, w.before args s = true) (hL : a_Lo nw strs sp base sS sI sR s) (hW : a_W D cl ft nf cy sp base sS sI sR h H) (hS : va_S (a_A base) s.heap H locs) {idx : Nat} {rs : List Nat} (hr : a_stR Ts own idx rs) (hd : decode cc pc = .ok (.getstatic idx, 3)) {v : Value}
    (hv : (rs = [1] ∧ v = .ref 1) ∨ (rs = [2] ∧ v = .int 1) ∨ (rs = [3] ∧ v = a_rv (a_r h 2 0)))
    (k : W p l e R s m args below meth c H locs cells slots Q (F0 m (pc + 3) ls (vM (a_ad sp base) v :: rest))) : W p l e R s m args below meth c H locs cells slots Q (F0 m pc ls rest) := by
  obtain ⟨-, -, -, -, z1, z2, z3, -⟩ := hL
  rcases hv with ⟨rfl, rfl⟩ | ⟨rfl, rfl⟩ | ⟨rfl, rfl⟩
  · obtain ⟨host, hl⟩ := hr
    exact va_getsN hx hb z1 hS hown (hts _ hl) (fun x hx => hx) hd k
  · exact va_gets hx hb z2 hS hown (hts _ hr) (fun x hx => hx) hd k
  · rw [vM_rv, (hW.2.1 2 (by omega)).2.2] at k
    exact va_gets hx hb z3 hS hown (hts _ hr) (fun x hx => hx) hd k
/-- a fact about the heap's size out of the room that was counted -/
theorem s_size {g : JFrame} (k : H.size ≤ s.heap.size + cells → W p l e R s m args below meth c H locs cells slots Q g) : W p l e R s m args below meth c H locs cells slots Q g := by
  intro T hT X
  exact k (by rw [← hT]; exact X.heapSize) T hT X
/-- a fresh cell: the world behind it -/
theorem W_new (hW : a_W D cl ft nf cy sp base sS sI sR h H) {sh : Nat × Nat} {H1 : Heap} (hz : H.size = base + (a_n h - 100)) (z1 : H1.size = H.size + 1) (o1 : ∀ q, q < H.size → H1[q]? = H[q]?) (hk0 : ¬ sh.1 = 0) (hk1 : a_spk sh.1 = false)
    (hat : va_at D cl (H.size, a_E ft nf cy (a_ad sp base) (a_new h sh) (a_n h)) H1) : a_W D cl ft nf cy sp base sS sI sR (a_new h sh) H1 := by
  obtain ⟨⟨o1a, o2, o3, o4⟩, w2, w3, w4⟩ := hW
  have hs : ∀ i, i ≠ a_n h → a_sh (a_new h sh) i = a_sh h i := fun i hi => va_up_ne _ _ hi
  have hs0 : a_sh (a_new h sh) (a_n h) = sh := by show va_up h.2.1 h.1.1 sh h.1.1 = sh; unfold va_up; rw [if_pos rfl]
  have hi1 : ∀ i, i ≠ a_n h → a_i (a_new h sh) i = a_i h i := fun i hi => va_up_ne _ _ hi
  have hr1 : ∀ i, i ≠ a_n h → a_r (a_new h sh) i = a_r h i := fun i hi => va_up_ne _ _ hi
  have hl1 : ∀ i, i ≠ a_n h → a_l (a_new h sh) i = a_l h i := fun i hi => va_up_ne _ _ hi
  have hn1 : a_n (a_new h sh) = a_n h + 1 := rfl
  refine ⟨⟨by rw [hn1]; omega, fun i hi => ?_, fun i hi => ?_, fun i hi => ?_⟩, fun i hi => ?_, by rw [hn1]; omega, ?_⟩
  · rw [hs i (by omega)]; exact o2 i (by omega)
  · rw [hs i (by omega)]; exact o3 i hi
  · by_cases hq : i = a_n h
    · subst hq; rw [hs0]; exact hk1
    · rw [hs i hq]; exact o4 i hi
  · rw [hs i (by omega), hi1 i (by omega), hr1 i (by omega)]; exact w2 i hi
  · rw [← ws_push (h := h) (h' := a_new h sh) hn1 o1a (fun j hj => E_same (hs j (by omega)) (hi1 j (by omega)) (hr1 j (by omega)) (hl1 j (by omega))) rfl]
    have hk : ∀ (k : Nat) (x : Nat × va_E), (a_ws ft nf cy (a_ad sp base) base h)[k]? = some x → H1[x.1]? = H[x.1]? := fun k x hx => o1 x.1 ((w4 k x hx).lt)
    refine (va_P.kept w4 hk).app (fun k x hx => ?_)
    have hz1 : k < 1 := (List.getElem?_eq_some_iff.mp hx).1
    rw [show k = 0 by omega] at hx
    cases hx
    rw [← hz]
    exact hat
theorem S_new {A : Nat → Prop} {H0 H1 : Heap} (hS : va_S A H0 H locs) (z1 : H1.size = H.size + 1) (o1 : ∀ q, q < H.size → H1[q]? = H[q]?) : va_S A H0 H1 locs :=
  ⟨Nat.le_trans hS.1 (by omega), fun x h1 h2 => (o1 x (Nat.lt_of_lt_of_le h1 hS.1)).trans (hS.2.1 x h1 h2), hS.2.2⟩
theorem new_i (h : aH) (sh : Nat × Nat) : a_i (a_new h sh) (a_n h) = fun _ => 0 := by show va_up h.2.2.1 h.1.1 (fun _ => 0) h.1.1 = _; unfold va_up; rw [if_pos rfl]
theorem new_r (h : aH) (sh : Nat × Nat) : a_r (a_new h sh) (a_n h) = fun _ => none := by show va_up h.2.2.2.1 h.1.1 (fun _ => none) h.1.1 = _; unfold va_up; rw [if_pos rfl]
theorem new_l (h : aH) (sh : Nat × Nat) : a_l (a_new h sh) (a_n h) = fun _ => 0 := by show va_up h.2.2.2.2 h.1.1 (fun _ => 0) h.1.1 = _; unfold va_up; rw [if_pos rfl]
theorem new_sh (h : aH) (sh : Nat × Nat) : a_sh (a_new h sh) (a_n h) = sh := by show va_up h.2.1 h.1.1 sh h.1.1 = _; unfold va_up; rw [if_pos rfl]
/-- newarray -/
theorem s_newa (hx : p.tables.exec = Jvm.exec) (hb : c.code = cc) (hK : va_K D cl (a_tys cy) s) (hW : a_W D cl ft nf cy sp base sS sI sR h H) (hS : va_S (a_A base) s.heap H locs) {atype : ArrayType} (harr : (Cond.arrayClass (newarray.typeOf atype)).before args s = true) (hz : H.size = base + (a_n h - 100)) {n : Int32} (hn : ¬ n < 0) (hN : n.toNatClampNeg ≤ 100000) {kd : Nat}
    (hkd : (atype = .int ∧ kd = 1) ∨ (atype = .byte ∧ kd = 2) ∨ (atype = .long ∧ kd = 3)) (hcells : cells + 1 ≤ R.cells) (hslots : slots + n.toNatClampNeg ≤ R.slots) (hd : decode cc pc = .ok (.newarray atype, 2))
    (k : ∀ (H1 : Heap), a_W D cl ft nf cy sp base sS sI sR (a_new h (kd, n.toNatClampNeg)) H1 → va_S (a_A base) s.heap H1 locs → W p l e R s m args below meth c H1 locs (cells + 1) (slots + n.toNatClampNeg) Q (F0 m (pc + 2) ls (.ref (a_ad sp base (a_n h)) :: rest))) : W p l e R s m args below meth c H locs cells slots Q (F0 m pc ls (.int n :: rest)) := by
  refine va_newaK hx hb harr rfl hd rfl hn rfl ?_ hcells hslots rfl fun H1 cA e1 z1 o1 hAr hNm => ?_
  · rcases hkd with ⟨rfl, -⟩ | ⟨rfl, -⟩ | ⟨rfl, -⟩
    · have : componentBytes (newarray.typeOf .int) ≤ 8 := by decide
      have := Nat.mul_le_mul hN this; omega
    · have : componentBytes (newarray.typeOf .byte) ≤ 8 := by decide
      have := Nat.mul_le_mul hN this; omega
    · have : componentBytes (newarray.typeOf .long) ≤ 8 := by decide
      have := Nat.mul_le_mul hN this; omega
  have h0 : 100 ≤ a_n h := hW.1.1
  have k1 := k H1
  rw [a_ad_hi h0, ← hz] at k1
  rcases hkd with ⟨rfl, rfl⟩ | ⟨rfl, rfl⟩ | ⟨rfl, rfl⟩
  · have hcA : cA = cy 1 := Option.some.inj (hNm.symm.trans (hK.2 0 _ rfl).2)
    refine k1 (W_new hW hz z1 o1 (show ¬ (1 : Nat) = 0 by decide) rfl ?_) (S_new hS z1 o1)
    rw [E_arr (by rw [new_sh]; exact Or.inl rfl), new_sh, new_i]
    show H1[H.size]? = some (vp_cell (cy 1) (n.toNatClampNeg, .inl (fun _ => 0)))
    rw [e1, hcA]; rfl
  · have hcA : cA = cy 2 := Option.some.inj (hNm.symm.trans (hK.2 1 _ rfl).2)
    refine k1 (W_new hW hz z1 o1 (show ¬ (2 : Nat) = 0 by decide) rfl ?_) (S_new hS z1 o1)
    rw [E_arr (by rw [new_sh]; exact Or.inr rfl), new_sh, new_i]
    show H1[H.size]? = some (vp_cell (cy 2) (n.toNatClampNeg, .inl (fun _ => 0)))
    rw [e1, hcA]; rfl
  · have hcA : cA = cy 3 := Option.some.inj (hNm.symm.trans (hK.2 2 _ rfl).2)
    refine k1 (W_new hW hz z1 o1 (show ¬ (3 : Nat) = 0 by decide) rfl ?_) (S_new hS z1 o1)
    rw [E_long (by rw [new_sh]), new_sh, new_l]
    show H1[H.size]? = some (vp_cell (cy 3) (n.toNatClampNeg, .inr (.inl (fun _ => 0))))
    rw [e1, hcA]; rfl
end
