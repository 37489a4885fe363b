/-! THE LAW, FROM ITS ENTRY, OUT OF THE SMALL MACHINE -/
def h0x (L : Nat) (xs : Nat → Int32) (r0 : Option Nat) : aH := ((100, 0), sSx L, sIx xs, sRx r0, fun _ _ => 0)
/-- what is left to be shown of the small machine: the law answers 1 -/
def law_says (L : Nat) (xs : Nat → Int32) (r0 : Option Nat) : Prop := ∃ n, wpL aft anf (wpM aft anf apr 300) (some .boolean) pP_SnowCantonLaw_law [] n 0 [.ref 0, .null, .null, .null, .null, .null, .null] [] (h0x L xs r0) 601024 7293034 (fun r _ => r = .inl (some (.int 1)))
theorem sS_hi {L i : Nat} (h : 100 ≤ i) : sSx L i = (0, 0) := by unfold sSx; rw [if_neg (by omega), if_neg (by omega), if_neg (by omega), if_neg (by omega)]
theorem sS_lo {L i : Nat} : (sSx L i).1 = 0 ∨ a_spk (sSx L i).1 = true := by
  unfold sSx
  split
  · exact Or.inr rfl
  · split
    · exact Or.inr rfl
    · split
      · exact Or.inr rfl
      · split
        · exact Or.inr rfl
        · exact Or.inl rfl
theorem h0_ok (L : Nat) (xs : Nat → Int32) (r0 : Option Nat) : a_ok (h0x L xs r0) := by
  refine ⟨Nat.le_refl 100, fun i hi => ?_, fun i hi => sS_lo, fun i hi => ?_⟩
  · show (sSx L i).1 = 0
    rw [sS_hi hi]
  · show a_spk (sSx L i).1 = false
    rw [sS_hi hi]; rfl
theorem start_K {args : Array Value} {s : State} (hts : ∀ w ∈ lw_tbl, w.before args s = true) : ∃ (D : va_G) (cy : Nat → ClassId), va_K D acl (a_tys cy) s := by
  have hG : ∀ w ∈ aGT ++ aNW, w.before args s = true := by
    intro w hw
    rcases List.mem_append.mp hw with q | q <;> exact hts w (List.mem_filter.mp q).1
  have hcl : ∀ ci, ∃ q : ClassId × (Nat → Nat), ci < 12 → u_Kn s (cnm ci) (aT ci) (anf ci) q.1 q.2 := by
    intro ci
    by_cases h : ci < 12
    · obtain ⟨c1, c2, c3, c4⟩ := cls_spec h
      obtain ⟨cC, iS, hk⟩ := u_known (C := cnm ci) (T := aT ci) (N := anf ci) (n := anf ci) hG c1 (hG _ (List.mem_append_left _ c4))
      exact ⟨(cC, iS), fun _ => hk⟩
    · exact ⟨(0, fun _ => 0), fun z => absurd z h⟩
  have ht : ∀ w ∈ aT0, w.before args s = true := fun w hw => hts w (t0_in hw)
  obtain ⟨c1, k1, p1, a1, a2, a3⟩ := Cond.arrayClass_spec (args := args) (first := s) (o := none) (s := s) (idx := []) (ht (.arrayClass .int) (by simp [aT0]))
  obtain ⟨c2, k2, p2, b1, b2, b3⟩ := Cond.arrayClass_spec (args := args) (first := s) (o := none) (s := s) (idx := []) (ht (.arrayClass .byte) (by simp [aT0]))
  obtain ⟨c3, k3, p3, d1, d2, d3⟩ := Cond.arrayClass_spec (args := args) (first := s) (o := none) (s := s) (idx := []) (ht (.arrayClass .long) (by simp [aT0]))
  obtain ⟨p4, c4, k4, e1, -, e2, e3, e4⟩ := Cond.arrayOver_spec (args := args) (first := s) (o := none) (s := s) (idx := []) (ht (.arrayOver (.object "java/lang/String")) (by simp [aT0]))
  refine ⟨(fun ci => (Classical.choose (hcl ci)).1, fun ci => (Classical.choose (hcl ci)).2), fun k => if k = 1 then c1 else if k = 2 then c2 else if k = 3 then c3 else c4, fun ci q hq => ?_, fun k q hq => ?_⟩
  · have hlt : ci < 12 := (List.getElem?_eq_some_iff.mp hq).1
    rw [acl_at hlt] at hq
    cases hq
    exact Classical.choose_spec (hcl ci) hlt
  · have hlt : k < 4 := (List.getElem?_eq_some_iff.mp hq).1
    rcases (show k = 0 ∨ k = 1 ∨ k = 2 ∨ k = 3 by omega) with rfl | rfl | rfl | rfl
    · cases hq; exact ⟨fun n z => ⟨fun k h => (by cases h), k1, a2, p1, a3⟩, a1⟩
    · cases hq; exact ⟨fun n z => ⟨fun k h => (by cases h), k2, b2, p2, b3⟩, b1⟩
    · cases hq; exact ⟨fun n z => ⟨fun k h => (by cases h), k3, d2, p3, d3⟩, d1⟩
    · cases hq; exact ⟨fun n z => ⟨fun k h => (by cases h), k4, e2, p4, e3⟩, k4, p4, e2, e3, e1, e4⟩
theorem no_traces {l : Launch} (h : l.flags = flags0) : l.stackTraces = false := by
  unfold Launch.stackTraces
  rw [h]
  decide +kernel
/-! THE CLAIM OUT OF ONE WALK OF THE LAW'S BODY. Your part is whole_start (and what it stands on); all else here is the same for every law, but numbers. -/
def R_law : String := "SnowCantonLaw"
def lw_P (b : Addr) (xs : List Int32) (args : Array Value) (s : State) : Prop := args = #[.ref b] ∧ s.IntsAt b xs ∧ xs.length ≤ 3072 ∧ (Jvm.Cond.and given_1 narrow_1).before args s = true
def lw_Q (_ : Array Value) (s : State) (o : Outcome) (t : State) : Prop := o = .returned (some (.int 1)) ∧ Framed s o t [] 601024 7293034
def lw_Z (below : List Frame) (a : Array Value) (s : State) : State → Prop := fun t => ∃ o, t.status = .running ∧ Ended t below o ∧ lw_Q a s o t
/-- the law's own end, with 1 on the stack, nothing written that was there before, its room as the claim has it -/
theorem lw_ret {p : Program} {l : Launch} {e : Env} {s : State} {m : MethodId} {below : List Frame} {meth : Method} {c : Code} {b : Nat} (hx : p.tables.exec = Jvm.exec) (hb : c.code = code) (hr : meth.sig.returnType = ret) (hlocks : meth.locks = false) {pc : Nat} {H : Heap} {ls : Array Slot} (hdg : decode code pc = .ok (.ireturn, 1)) : W p l e room_1 s m #[Value.ref b] below meth c H [] 601024 7293034 (lw_Z below #[Value.ref b] s) (F0 m pc ls [.int 1]) := by
  intro T hT X
  obtain ⟨fs, hret, hrun, hended, hW, hframe⟩ := X.leave (v := some (.int 1)) (hlocks := hlocks) (fun h => by rw [hr] at h; cases h)
  have hmeth' : T.vm.method? m = some meth := X.method'
  refine ⟨T.setFrames fs, ?_, .returned (some (.int 1)), hrun, hended, rfl, ⟨_, rfl⟩, hW, hframe⟩
  jvm_step X.here [X.here.top, hx, hb, hdg, hmeth', hr, ret, narrow_b1]
  (try refine ⟨rfl, ?_⟩); (try refine ⟨rfl, ?_⟩)
  first | (intro acts; rw [hret _ acts rfl rfl rfl]) | rw [hret _ _ rfl rfl rfl]
  exact Steps.refl _
/-- what holds at the law's entry: the machine, the code, the tables' words (any of lw_tbl by 'hts w (by decide +kernel)'), the script of L ints xs at the cell b, what the Statement gives of the start (any of its parts by flat_of_before) -/
def lw_At (p : Program) (s : State) (m : MethodId) (meth : Method) (c : Code) (b L : Nat) (xs : Nat → Int32) : Prop :=
  p.tables.exec = Jvm.exec ∧ c.code = code ∧ meth.sig.returnType = ret ∧ c.maxLocals = 7 ∧ s.vm.findClass R_law = some m.cls ∧ (∀ w ∈ lw_tbl, w.before #[Value.ref b] s = true) ∧ va_X b L xs s s.heap ∧ b < s.heap.size ∧ meth.locks = false ∧ (Jvm.Cond.and given_1 narrow_1).before #[Value.ref b] s = true
set_option maxHeartbeats 4000000 in
theorem whole_of (hlaw : ∀ (L : Nat) (xs : Nat → Int32) (r0 : Option Nat), L ≤ 3072 → (r0 = none ∨ r0 = some 3) → law_says L xs r0) {p : Program} {e : Env} {s : State} {m : MethodId} {below : List Frame} {meth : Method} {c : Code} (l : Launch) (hflags : l.flags = flags0) {b L : Nat} {xs : Nat → Int32} (hL : L ≤ 3072) (C0 : lw_At p s m meth c b L xs) : W p l e room_1 s m #[Value.ref b] below meth c s.heap [] 0 0 (lw_Z below #[Value.ref b] s) (entryFrame m ([Value.ref b] : List Value).toArray 7) := by
  obtain ⟨hx, hb, hr, hml, hown, hts, hX, hbl, hlocks, hgv⟩ := C0
  have hf : ∀ w ∈ aFN, w.before #[Value.ref b] s = true := flat_of_before _ hgv
  obtain ⟨sp, r0, hsp0, hr0, hLo⟩ := start_Lo hts hf hX hbl
  obtain ⟨D, cy, hK⟩ := start_K hts
  obtain ⟨n, hw⟩ := hlaw L xs r0 hL hr0
  have hG : ∀ w ∈ aGT ++ aNW, w.before #[Value.ref b] s = true := by
    intro w hw
    rcases List.mem_append.mp hw with q | q <;> exact hts w (List.mem_filter.mp q).1
  have hfl := no_traces hflags
  have hl := lv_entry ([.ref b] : List Value) (n := 7) (Nat.le_of_ble_eq_true rfl)
  rw [lg_entry_eq]
  generalize (lg_sl ([.ref b] : List Value) ++ List.replicate (7 - (lg_sl ([.ref b] : List Value)).length) Slot.unset).toArray = ls at hl ⊢
  have had : a_ad sp s.heap.size 0 = b := by rw [a_ad_lo (by omega)]; exact hsp0
  have hW0 : a_W D acl aft anf cy sp s.heap.size (sSx L) (sIx xs) (sRx r0) (h0x L xs r0) s.heap := by
    refine ⟨h0_ok L xs r0, fun i hi => ⟨rfl, rfl, rfl⟩, by show s.heap.size + (100 - 100) ≤ s.heap.size; omega, ?_⟩
    intro k q hq
    have hlt := (List.getElem?_eq_some_iff.mp hq).1
    rw [ws_len] at hlt
    exact absurd hlt (by show ¬ k < 100 - 100; omega)
  have hlr : a_lr (a_ad sp s.heap.size) ls 7 [.ref 0, .null, .null, .null, .null, .null, .null] := by
    have := ent_lr (ad := a_ad sp s.heap.size) (as := [.ref 0]) (nL := 7) (ls := ls) (Nat.le_of_ble_eq_true rfl) (by
      show lv_has ls 7 (lv_args 0 [.ref (a_ad sp s.heap.size 0)])
      rw [had]; exact hl)
    exact this
  have hS0 : va_S (a_A s.heap.size) s.heap s.heap [] := va_S.rf
  have hv := gm_0.1.1
  have key := s_main (p := p) (l := l) (e := e) (R := room_1) (s := s) (m := m) (args := #[Value.ref b]) (below := below) (meth := meth) (c := c) (Q := lw_Z below #[Value.ref b] s) (cc := code) (nL := 7) (D := D) (cl := acl) (ft := aft) (nf := anf) (cy := cy) (sp := sp) (base := s.heap.size) (sS := sSx L) (sI := sIx xs) (sR := sRx r0) (GT := aGT) (nw := aNW) (own := "SnowCantonLaw") (strs := aStrs) (pr := apr) (isI := false) (C := wpM aft anf apr 300) (ret := some .boolean) (P := pP_SnowCantonLaw_law) (hs := []) (Qa := fun r _ => r = .inl (some (.int 1))) (fr := 40 + 300) (lo := 1000 + 100 * 300)
    hx hb hml hown aGT_good hG (fun z => by cases z) hK hLo ⟨by decide, by decide⟩ (by decide) (by decide) hv (s_sound hfl aGT_good aNW_nest prog_ok 300) ?hret ?hthr ?hout ?hcat n 0 _ [] (h0x L xs r0) 601024 7293034 ls s.heap [] 0 0 hw hlr trivial hW0 hS0 (fun _ => by show s.heap.size + 0 ≤ s.heap.size + (100 - 100); omega) (by decide) (by decide) (0, .new 8, [10]) rfl
  · exact key
  case hret =>
    intro pc ls1 ins S cnd v h1 H locs cells slots hd he hc hq hW1 hS1 hcl hsl
    cases Sum.inl.inj hq
    refine va_forget hS1.2.2 (W.widen (k := 601024) (n := 7293034) hcl hsl ?_)
    unfold a_ret at he
    split at he
    · rename_i x9
      have he2 : (some ((x9 = 0 ∨ x9 = 1), some (Value.int x9)) : Option (Prop × Option Value)) = some (cnd, some (.int 1)) := he
      simp only [Option.some.injEq, Prod.mk.injEq, Value.int.injEq] at he2
      obtain ⟨rfl, rfl⟩ := he2
      exact lw_ret hx hb hr hlocks hd
    · have he2 : (none : Option (Prop × Option Value)) = some (cnd, some (.int 1)) := he
      cases he2
    · have he2 : (none : Option (Prop × Option Value)) = some (cnd, some (.int 1)) := he
      cases he2
    · cases he
  case hthr => intro pc idx E ls1 h1 H locs cells slots hm hq; cases hq
  case hout => intro pc ls1 ci h1 H locs q ce rest cells slots hh hq; cases hq
  case hcat => intro i q9 ls1 L1 ci t x H locs q ce rest cells slots hPi hhd; cases hhd
