/-! A METHOD'S CONTRACT OUT OF THE SMALL MACHINE -/
theorem ent_mem (ad : Nat → Nat) : ∀ (as : List Value) (k j : Nat) (v : Value), (a_ent as)[j]? = some v → v ≠ .null → (k + j, vM ad v) ∈ lv_args k (as.map (vM ad)) := by
  intro as
  induction as with
  | nil => intro k j v h; simp [a_ent] at h
  | cons a as ih =>
    intro k j v h hn
    unfold a_ent at h
    rw [List.map_cons]
    unfold lv_args
    rw [vM_cat]
    by_cases hc : a.category = 2
    · rw [if_pos hc] at h
      rw [if_pos hc]
      match j with
      | 0 => cases h; exact List.mem_cons_self
      | 1 => cases h; exact absurd rfl hn
      | j + 2 =>
        have := ih (k + 2) j v h hn
        rw [show k + 2 + j = k + (j + 2) by omega] at this
        exact List.mem_cons_of_mem _ this
    · rw [if_neg hc] at h
      rw [if_neg hc]
      match j with
      | 0 => cases h; exact List.mem_cons_self
      | j + 1 =>
        have := ih (k + 1) j v h hn
        rw [show k + 1 + j = k + (j + 1) by omega] at this
        exact List.mem_cons_of_mem _ this
theorem ent_len (ad : Nat → Nat) : ∀ (as : List Value), (lg_sl (as.map (vM ad))).length = (a_ent as).length := by
  intro as
  induction as with
  | nil => rfl
  | cons a as ih =>
    rw [List.map_cons]
    unfold lg_sl at ih ⊢
    rw [List.flatMap_cons, List.length_append, ih]
    show _ = (if a.category = 2 then a :: .null :: a_ent as else a :: a_ent as).length
    rw [vM_cat]
    by_cases hc : a.category = 2
    · rw [if_pos hc, if_pos hc]; simp; omega
    · rw [if_neg hc, if_neg hc]; simp; omega
/-- the locals at a method's entry -/
theorem ent_lr {ad : Nat → Nat} {as : List Value} {nL : Nat} {ls : Array Slot} (hlen : (a_ent as).length ≤ nL) (hl : lv_has ls nL (lv_args 0 (as.map (vM ad)))) : a_lr ad ls nL (a_ent as ++ List.replicate (nL - (a_ent as).length) .null) := by
  refine ⟨⟨hl.1, hl.2.1, fun q hq => hl.2.2 q ?_⟩, by rw [List.length_append, List.length_replicate]; omega⟩
  obtain ⟨v, hv, hn, e⟩ := lvOf_mem.mp hq
  obtain ⟨q1, q2⟩ := q
  cases e
  by_cases hj : q1 < (a_ent as).length
  · rw [List.getElem?_append_left hj] at hv
    have := ent_mem ad as 0 q1 v hv hn
    rwa [Nat.zero_add] at this
  · rw [List.getElem?_append_right (by omega), List.getElem?_replicate] at hv
    by_cases hq1 : q1 - (a_ent as).length < nL - (a_ent as).length
    · rw [if_pos hq1] at hv; exact absurd (Option.some.inj hv).symm hn
    · rw [if_neg hq1] at hv; cases hv
/-- a throw site: 'new E; dup; ldc_w; invokespecial; athrow' -/
def a_i6 (E : Nat) : Nat := if E = 20 then 7 else 13
def a_b6 (E : Nat) : ByteArray := if E = 20 then ⟨#[0x2a, 0x2b, 0xb7, 0x00, 0x07, 0xb1]⟩ else ⟨#[0x2a, 0x2b, 0xb7, 0x00, 0x0d, 0xb1]⟩
def a_thrR (GT nw : List Cond) (strs : aStr) (own : String) (cc : ByteArray) (pc ik E : Nat) : Prop := ∃ (isx ic : Nat) (tx : String) (j : Nat), (E = 20 ∨ E = 21) ∧ (own, isx, tx, j) ∈ strs ∧
  Cond.classLink own ik (a_en E) ∈ GT ∧ Cond.initialized (a_en E) ∈ GT ∧ (∀ w ∈ m_at own ic (a_en E) "java/lang/RuntimeException" (a_i6 E) (a_b6 E) ["java/lang/Exception"], w ∈ GT ++ nw ∧ vx_ot w = true) ∧ vx_ot (Cond.classLink own ik (a_en E)) = true ∧ vx_ot (Cond.initialized (a_en E)) = true ∧
  decode cc pc = .ok (.new ik, 3) ∧ decode cc (pc + 3) = .ok (.dup, 1) ∧ decode cc (pc + 4) = .ok (.ldc_w isx, 3) ∧ decode cc (pc + 7) = .ok (.invokespecial ic, 3) ∧ decode cc (pc + 10) = .ok (.athrow, 1)
/-- the rows of a table, seen by index and by place -/
def a_hdR (GT : List Cond) (own : String) (P : List aEnt) : List (Nat × Nat × Nat × Nat × Nat) → List (Nat × Nat × Nat × Nat) → Prop
  | [], [] => True
  | (lo, hi, t, x, E) :: r, (s, e, hp, ct) :: r' => (∀ i q, P[i]? = some q → ((s ≤ q.1 ∧ q.1 < e) ↔ (lo ≤ i ∧ i < hi))) ∧ ct ≠ 0 ∧ (E = 20 ∨ E = 21) ∧ Cond.classLink own ct (a_en E) ∈ GT ∧ (∃ ins rs, P[t - 1]? = some (hp, ins, rs) ∧ (1 ≤ t ∧ ∃ z, P[t]? = some z) ∧ (ins = .astore x ∨ ∃ k : Fin 4, ins = .astore_n k ∧ (k : Nat) = x)) ∧ (r ≠ [] → E = 21) ∧ a_hdR GT own P r r'
  | _, _ => False
def a_mvld (GT nw : List Cond) (strs : aStr) (cl : List vw_C) (ft : aF) (nf : Nat → Nat) (pr : Nat → Option aMeth) (M : aMeth) : Prop :=
  (∀ i q, M.2.2.2.2.1[i]? = some q → a_vld GT nw strs M.1.cls cl ft nf pr (M.1.name == "<init>") M.2.1 M.2.2.2.2.1 i q) ∧ plainName M.1.cls = true ∧ a_hdR GT M.1.cls M.2.2.2.2.1 M.2.2.2.2.2.1 M.2.2.2.2.2.2 ∧
  (∀ pc idx E, (pc, Instr.new idx, [E, 77]) ∈ M.2.2.2.2.1 → M.2.2.2.2.2.2 = [] ∧ a_thrR GT nw strs M.1.cls M.2.1 pc idx E)
section
variable {l : Launch} {D : va_G} {cl : List vw_C} {ft : aF} {nf : Nat → Nat} {cy sp : Nat → Nat} {base : Nat} {sS : Nat → Nat × Nat} {sI : Nat → Nat → Int32} {sR : Nat → Nat → Option Nat} {GT nw : List Cond} {strs : aStr} {pr : Nat → Option aMeth}
/-- the split of a table at the row that takes a class -/
theorem hd_split {own : String} {P : List aEnt} {i : Nat} {q : aEnt} (hPi : P[i]? = some q) {E t x : Nat} (hE : E = 20 ∨ E = 21) : ∀ (hs : List (Nat × Nat × Nat × Nat × Nat)) (hh : List (Nat × Nat × Nat × Nat)), a_hdR GT own P hs hh → a_hd hs i E = some (t, x) →
    ∃ pre y suf, tableOf hh = pre ++ y :: suf ∧ (∀ z ∈ pre, covers z q.1 = false ∨ (z.catchType ≠ 0 ∧ E = 20 ∧ Cond.classLink own z.catchType (a_en 21) ∈ GT)) ∧ covers y q.1 = true ∧ y.catchType ≠ 0 ∧ Cond.classLink own y.catchType (a_en E) ∈ GT ∧ ∃ ins rs, P[t - 1]? = some (y.handlerPc, ins, rs) ∧ (1 ≤ t ∧ ∃ z, P[t]? = some z) ∧ (ins = .astore x ∨ ∃ k : Fin 4, ins = .astore_n k ∧ (k : Nat) = x) := by
  intro hs
  induction hs with
  | nil => intro hh _ h; cases h
  | cons a r ih =>
    intro hh hR h
    obtain ⟨lo, hi, t1, x1, E1⟩ := a
    cases hh with
    | nil => exact hR.elim
    | cons b r' =>
      obtain ⟨s1, e1, hp1, ct1⟩ := b
      obtain ⟨g1, g2, g3, g4, g5, g6, g7⟩ := hR
      have hcov : covers (⟨s1, e1, hp1, ct1⟩ : ExceptionTableEntry) q.1 = decide (s1 ≤ q.1 ∧ q.1 < e1) := by simp [covers]
      unfold a_hd at h
      by_cases hin : lo ≤ i ∧ i < hi
      · rw [if_pos hin] at h
        have hc1 : covers (⟨s1, e1, hp1, ct1⟩ : ExceptionTableEntry) q.1 = true := by rw [hcov]; exact decide_eq_true ((g1 i q hPi).mpr hin)
        by_cases hEE : E1 = E
        · rw [if_pos hEE] at h
          cases h
          subst hEE
          exact ⟨[], _, tableOf r', rfl, fun z hz => by simp at hz, hc1, g2, g4, g5⟩
        · rw [if_neg hEE] at h
          obtain ⟨pre, y, suf, q1, q2, q3⟩ := ih r' g7 h
          refine ⟨⟨s1, e1, hp1, ct1⟩ :: pre, y, suf, by show _ :: tableOf r' = _; rw [q1]; rfl, fun z hz => ?_, q3⟩
          rcases List.mem_cons.mp hz with rfl | hz
          · have hr0 : r ≠ [] := by intro z; rw [z] at h; cases h
            have h21 := g6 hr0
            subst h21
            exact Or.inr ⟨g2, by omega, g4⟩
          · exact q2 z hz
      · rw [if_neg hin] at h
        obtain ⟨pre, y, suf, q1, q2, q3⟩ := ih r' g7 h
        refine ⟨⟨s1, e1, hp1, ct1⟩ :: pre, y, suf, by show _ :: tableOf r' = _; rw [q1]; rfl, fun z hz => ?_, q3⟩
        rcases List.mem_cons.mp hz with rfl | hz
        · exact Or.inl (by rw [hcov]; exact decide_eq_false (fun z => hin ((g1 i q hPi).mp z)))
        · exact q2 z hz
set_option maxHeartbeats 4000000 in
theorem s_body (hfl : l.stackTraces = false) (hG : ∀ w ∈ GT, goodWord w = true) (hnw : ∀ w ∈ nw, a_nest w = true) {M : aMeth} (hMv : a_mvld GT nw strs cl ft nf pr M) {C : aC} {fr lo bc bs n : Nat} {as : List Value} {h : aH} {Qa : aQ}
    (hC : ∀ k as h dc ds Q, C k as h dc ds Q → ∀ M, pr k = some M → vx_Met l M.1 (a_cw M :: GT) { frames := fr, cells := dc, slots := ds, locals := lo } (a_Pc D cl ft nf cy sp base sS sI sR nw strs as h) (a_Qc D cl ft nf cy sp base sS sI sR Q) (a_XC D cl ft nf cy sp base sS sI sR Q) dc ds (a_A base))
    (hlen : (a_ent as).length ≤ M.2.2.1) (hw : wpL ft nf C M.2.2.2.1 M.2.2.2.2.1 M.2.2.2.2.2.1 n 0 (a_ent as ++ List.replicate (M.2.2.1 - (a_ent as).length) .null) [] h bc bs Qa)
    {fr1 lo1 : Nat} (hR0 : 40 ≤ fr1 ∧ 1000 ≤ lo1) (hR1 : fr + 1 ≤ fr1) (hR2 : 100 + lo ≤ lo1) (hP0 : ∀ q, M.2.2.2.2.1[0]? = some q → q.1 = 0)
    {p : Program} {e : Env} {s : State} {m : MethodId} {below : List Frame} {meth : Method} {c : Code} {s₁ : State} {args : Array Value}
    (B : BodyLoose p l M.1 (headSpec (a_cw M :: GT) { frames := fr1, cells := bc, slots := bs, locals := lo1 }) M.2.1 M.2.2.1 M.2.2.2.1 e s m args below meth c s₁) (hml : c.maxLocals = M.2.2.1) (htab : c.exceptionTable.toList = tableOf M.2.2.2.2.2.2) (hPc : a_Pc D cl ft nf cy sp base sS sI sR nw strs as h args s) :
    W p l e (headSpec (a_cw M :: GT) { frames := fr1, cells := bc, slots := bs, locals := lo1 }).room s m args below meth c s.heap [] 0 0 (vx_MQ below (a_Qc D cl ft nf cy sp base sS sI sR Qa) (a_XC D cl ft nf cy sp base sS sI sR Qa) args s bc bs (a_A base)) (entryFrame m args M.2.2.1) := by
  obtain ⟨rfl, hW, hz, hK, hL⟩ := hPc
  have hx := B.exec
  have hb := B.bytes
  have hr := B.returns
  have hlocks := B.notSynchronized
  have hown : s.vm.findClass M.1.cls = some m.cls := findClass_of_methodNamed B.named
  have hname : meth.name = M.1.name := (name_of_methodNamed B.named B.method).1
  have hts0 := atoms_spec (ws := a_cw M :: GT) B.pre
  have hts : ∀ w ∈ GT ++ nw, w.before (as.map (vM (a_ad sp base))).toArray s = true := by
    intro w hw
    rcases List.mem_append.mp hw with q | q
    · exact hts0 w (List.mem_cons_of_mem _ q)
    · exact va_Nw.use (a_nest_on (hnw w q)) (hL.2.2.2.2.2.2.2.2.2.2.1 w q (hnw w q))
  have hl := lv_entry (as.map (vM (a_ad sp base))) (n := M.2.2.1) (by rw [ent_len]; exact hlen)
  rw [lg_entry_eq]
  generalize (lg_sl (as.map (vM (a_ad sp base))) ++ List.replicate (M.2.2.1 - (lg_sl (as.map (vM (a_ad sp base)))).length) Slot.unset).toArray = ls at hl ⊢
  obtain ⟨q0, hq0⟩ := wpL_some hw
  have hS0 : va_S (a_A base) s.heap s.heap [] := va_S.rf
  have key := s_main (p := p) (l := l) (e := e) (R := { frames := fr1, cells := bc, slots := bs, locals := lo1 }) (s := s) (m := m) (args := (as.map (vM (a_ad sp base))).toArray) (below := below) (meth := meth) (c := c) (Q := vx_MQ below (a_Qc D cl ft nf cy sp base sS sI sR Qa) (a_XC D cl ft nf cy sp base sS sI sR Qa) (as.map (vM (a_ad sp base))).toArray s bc bs (a_A base)) (cc := M.2.1) (nL := M.2.2.1) (D := D) (cl := cl) (ft := ft) (nf := nf) (cy := cy) (sp := sp) (base := base) (sS := sS) (sI := sI) (sR := sR) (GT := GT) (nw := nw) (own := M.1.cls) (strs := strs) (pr := pr) (isI := M.1.name == "<init>") (C := C) (ret := M.2.2.2.1) (P := M.2.2.2.2.1) (hs := M.2.2.2.2.2.1) (Qa := Qa) (fr := fr) (lo := lo)
    hx hb hml hown hG hts (fun z => by rw [hname]; exact beq_iff_eq.mp z) hK hL hR0 hR1 hR2 hMv.1 hC ?hret ?hthr ?hout ?hcat n 0 _ [] h bc bs ls s.heap [] 0 0 hw (ent_lr hlen hl) trivial hW hS0 (fun z => by rw [hz z]; exact Nat.le_refl _) (by show 0 + bc ≤ bc; omega) (by show 0 + bs ≤ bs; omega) q0 hq0
  · rw [hP0 q0 hq0] at key
    exact key
  case hret =>
    intro pc ls ins S cnd v h1 H locs cells slots hd he hc hq hW1 hS1 hcl hsl
    refine W.widen (k := bc) (n := bs) hcl hsl (vx_ret ?_)
    have hqq : ∀ (v : Option Value), Qa (.inl v) h1 → ∀ t : State, t.heap = H → s.WarmedH t.vm → a_Qc D cl ft nf cy sp base sS sI sR Qa (as.map (vM (a_ad sp base))).toArray s (.returned (v.map (vM (a_ad sp base)))) t := fun v hq t ht _ => ⟨⟨v, h1, hq, rfl, by rw [ht]; exact hW1⟩, ⟨by rw [ht]; exact hS1.1, fun z a b => by rw [ht]; exact hS1.2.1 z a b⟩⟩
    unfold a_ret at he
    split at he
    · split at he
      · rename_i hre
        simp only [Option.some.injEq, Prod.mk.injEq] at he
        obtain ⟨rfl, rfl⟩ := he
        exact W.iret hx hb (hr.trans hre) (hqq _ hq) hS1.2.2 hd
      · rename_i hre
        simp only [Option.some.injEq, Prod.mk.injEq] at he
        obtain ⟨rfl, rfl⟩ := he
        refine W.zret hx hb (hr.trans hre) ?_ (hqq _ hq) hS1.2.2 hd
        rcases hc with z | z <;> rw [z] <;> rfl
      · rename_i hre
        simp only [Option.some.injEq, Prod.mk.injEq] at he
        obtain ⟨rfl, rfl⟩ := he
        refine W.zret hx hb (hr.trans hre) ?_ (hqq _ hq) hS1.2.2 hd
        rw [← hc]; exact pk_nc _
      · rename_i hre
        simp only [Option.some.injEq, Prod.mk.injEq] at he
        obtain ⟨rfl, rfl⟩ := he
        refine W.zret hx hb (hr.trans hre) ?_ (hqq _ hq) hS1.2.2 hd
        rw [← hc]; exact pk_nb _
      · cases he
    · split at he
      · rename_i hre
        simp only [Option.some.injEq, Prod.mk.injEq] at he
        obtain ⟨rfl, rfl⟩ := he
        exact W.aret hx hb (hr.trans hre) (Or.inl ⟨_, rfl⟩) (Or.inr ⟨_, rfl⟩) (hqq _ hq) hS1.2.2 hd
      · cases he
    · split at he
      · rename_i hre
        simp only [Option.some.injEq, Prod.mk.injEq] at he
        obtain ⟨rfl, rfl⟩ := he
        exact W.vret hx hb (hr.trans hre) (hqq _ hq) hS1.2.2 hd
      · cases he
    · cases he
  case hthr =>
    intro pc idx E ls h1 H locs cells slots hmem hq hW1 hS1 hsz hcl hsl
    obtain ⟨hh, isx, ic, tx, j, hE, hst, w1, w2, w3, w4, w5, d0, d3, d4, d7, d10⟩ := hMv.2.2.2 pc idx E hmem
    obtain ⟨-, -, -, -, -, -, -, g8, g9, g10, -⟩ := hL
    have htg : ∀ w ∈ GT, w.before (as.map (vM (a_ad sp base))).toArray s = true := fun w hw => hts w (List.mem_append_left _ hw)
    have hdec : decode (a_b6 E) 0 = .ok (.aload_n 0, 1) ∧ decode (a_b6 E) 1 = .ok (.aload_n 1, 1) ∧ decode (a_b6 E) 2 = .ok (.invokespecial (a_i6 E), 3) ∧ decode (a_b6 E) 5 = .ok (.return_, 1) := by
      rcases hE with rfl | rfl <;> exact ⟨by decide +kernel, by decide +kernel, by decide +kernel, by decide +kernel⟩
    refine m_throwSW (cls := a_en E) (sup := "java/lang/RuntimeException") (i6 := a_i6 E) (b6 := a_b6 E) (names := ["java/lang/Exception"]) (mc := bc) (ms := bs) hx hb hfl hown ?_ (by decide) (by decide) hdec.1 hdec.2.1 hdec.2.2.1 hdec.2.2.2 (htg _ w1) (htg _ w2) (g8 _ hst) (fun w hw => hts w (w3 w hw).1) ?_ g9 g10 hS1 (hsz.trans hml.symm) d0 d3 d4 d7 d10 ?_ (by show 1 + 4 < fr1; omega) (by show 0 + (13 * (1 + 2) + 43) ≤ lo1; omega) hcl hsl hlocks ?_ hS1.2.2 hcl hsl
    · rcases hE with rfl | rfl <;> decide
    · intro w hw
      rcases List.mem_cons.mp hw with rfl | hw
      · exact w4
      · rcases List.mem_cons.mp hw with rfl | hw
        · exact w5
        · exact (w3 w hw).2
    · intro x hx9
      rw [htab, hh] at hx9
      cases hx9
    · intro t _ hsz9 hsame
      refine ⟨⟨E, a_junk h1, hq, rfl, hE, ?_⟩, ?_⟩
      · obtain ⟨o1, o2, o3, o4⟩ := hW1
        refine ⟨o1, o2, Nat.le_trans o3 hsz9, ?_⟩
        exact va_P.kept o4 (fun k x hx9 => hsame x.1 ((o4 k x hx9).lt))
      · exact ⟨Nat.le_trans hS1.1 hsz9, fun q a b => (hsame q (Nat.lt_of_lt_of_le a hS1.1)).trans (hS1.2.1 q a b)⟩
  case hout =>
    intro pc ls ci h1 H locs q ce rest cells slots hh hq hci hW1 hS1 g1 g2 g3 hcl hsl
    refine vx_out ?_ hlocks g1 g2 g3 ?_ hS1.2.2 hcl hsl
    · intro x hx9
      have hh2 : M.2.2.2.2.2.2 = [] := by
        have h9 := hMv.2.2.1
        rw [hh] at h9
        cases hz9 : M.2.2.2.2.2.2 with
        | nil => rfl
        | cons a b => rw [hz9] at h9; exact h9.elim
      rw [htab, hh2] at hx9
      cases hx9
    · intro t ht _
      exact ⟨⟨ci, h1, hq, rfl, hci, by rw [ht]; exact hW1⟩, ⟨by rw [ht]; exact hS1.1, fun z a b => by rw [ht]; exact hS1.2.1 z a b⟩⟩
  case hcat =>
    intro i q9 ls L ci t x H locs q ce rest cells slots hPi hhd hst hci hl1 hnd g1 g2 g3 kk
    obtain ⟨pre, y, suf, e1, e2, e3, e4, e5, ins, rs, e6, e7, e8⟩ := hd_split hPi hci _ _ hMv.2.2.1 hhd
    have htg : ∀ w ∈ GT, w.before (as.map (vM (a_ad sp base))).toArray s = true := fun w hw => hts w (List.mem_append_left _ hw)
    refine s_catch hown pre y suf (htab.trans e1) (fun z hz => ?_) e3 e4 (htg _ e5) g1 g2 g3 ?_
    · rcases e2 z hz with h9 | ⟨h9, rfl, h8⟩
      · exact Or.inl h9
      · exact Or.inr ⟨h9, _, htg _ h8, hL.2.2.2.2.2.2.2.2.2.2.2.2⟩
    · obtain ⟨e7, z9, hz9⟩ := e7
      obtain ⟨v1, -⟩ := hMv.1 (t - 1) _ e6
      have hcl9 : ∀ ls' : Array Slot, lv_has ls' M.2.2.1 ((x, Value.ref q) :: (lvOf (a_ad sp base) L).filter (fun q => !(q.1 == x) && !(q.1 + 1 == x && q.2.category == 2))) → a_lr (a_ad sp base) ls' M.2.2.1 (L.set x .null) := by
        intro ls' h9
        refine ⟨⟨h9.1, h9.2.1, fun w hw => ?_⟩, by rw [List.length_set]; exact hl1.2⟩
        obtain ⟨v, hv, hn, e9⟩ := lvOf_mem.mp hw
        rw [List.getElem?_set] at hv
        by_cases hi : x = w.1
        · rw [if_pos hi] at hv
          split at hv
          · exact absurd (Option.some.inj hv).symm hn
          · cases hv
        · rw [if_neg hi] at hv
          refine h9.2.2 w (List.mem_cons_of_mem _ (List.mem_filter.mpr ⟨lvOf_mem.mpr ⟨v, hv, hn, e9⟩, ?_⟩))
          simp only [Bool.and_eq_true, Bool.not_eq_true', beq_eq_false_iff_ne, ne_eq, Bool.and_eq_false_imp, beq_iff_eq]
          refine ⟨fun z => hi z.symm, fun z => ?_⟩
          rw [e9, vM_cat, (a_st_spec hst).2 w.1 z v hv]
          decide
      have hlt : x < M.2.2.1 := by have := (a_st_spec hst).1; rw [hl1.2] at this; exact this
      rcases e8 with rfl | ⟨k9, rfl, rfl⟩
      · obtain ⟨d1, d2⟩ := v1 rfl
        have d2' := d2 z9 (by rw [show t - 1 + 1 = t by omega]; exact hz9)
        refine lv_astore hx hb d1 hl1.1 hlt rfl (fun ls' h9 => ?_)
        have k := kk ls' (hcl9 ls' h9) trivial z9 hz9
        rw [d2'] at k
        exact k
      · obtain ⟨d1, d2⟩ := v1 rfl
        have d2' := d2 z9 (by rw [show t - 1 + 1 = t by omega]; exact hz9)
        refine lv_astore_n hx hb d1 rfl hl1.1 hlt rfl (fun ls' h9 => ?_)
        have k := kk ls' (hcl9 ls' h9) trivial z9 hz9
        rw [d2'] at k
        exact k
end
