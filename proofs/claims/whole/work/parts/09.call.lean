/-! CALLS: a method's contract, and what a caller gets of it -/
/-- the classes that are thrown -/
def a_en (ci : Nat) : String := if ci = 20 then "java/lang/IllegalArgumentException" else "java/util/NoSuchElementException"
/-- the world at a method's start -/
def a_B (D : va_G) (cl : List vw_C) (ft : aF) (nf : Nat → Nat) (cy sp : Nat → Nat) (base : Nat) (sS : Nat → Nat × Nat) (sI : Nat → Nat → Int32) (sR : Nat → Nat → Option Nat) (nw : List Cond) (strs : aStr) (h : aH) (U : State) : Prop :=
  a_W D cl ft nf cy sp base sS sI sR h U.heap ∧ (a_z h = 0 → U.heap.size = base + (a_n h - 100)) ∧ va_K D cl (a_tys cy) U ∧ a_Lo nw strs sp base sS sI sR U
def a_Pc (D : va_G) (cl : List vw_C) (ft : aF) (nf : Nat → Nat) (cy sp : Nat → Nat) (base : Nat) (sS : Nat → Nat × Nat) (sI : Nat → Nat → Int32) (sR : Nat → Nat → Option Nat) (nw : List Cond) (strs : aStr) (as : List Value) (h : aH) : Array Value → State → Prop :=
  va_Pc (as.map (vM (a_ad sp base))) (a_B D cl ft nf cy sp base sS sI sR nw strs h)
def a_Qc (D : va_G) (cl : List vw_C) (ft : aF) (nf : Nat → Nat) (cy sp : Nat → Nat) (base : Nat) (sS : Nat → Nat × Nat) (sI : Nat → Nat → Int32) (sR : Nat → Nat → Option Nat) (Q : aQ) : Array Value → State → Outcome → State → Prop := fun _ st o t =>
  (∃ v h', Q (.inl v) h' ∧ o = .returned (v.map (vM (a_ad sp base))) ∧ a_W D cl ft nf cy sp base sS sI sR h' t.heap) ∧ va_F (a_A base) st t
def a_XC (D : va_G) (cl : List vw_C) (ft : aF) (nf : Nat → Nat) (cy sp : Nat → Nat) (base : Nat) (sS : Nat → Nat × Nat) (sI : Nat → Nat → Int32) (sR : Nat → Nat → Option Nat) (Q : aQ) : String → State → State → Prop := fun E st t =>
  (∃ ci h', Q (.inr ci) h' ∧ E = a_en ci ∧ (ci = 20 ∨ ci = 21) ∧ a_W D cl ft nf cy sp base sS sI sR h' t.heap) ∧ va_F (a_A base) st t
section
variable {p : Program} {l : Launch} {e : Env} {R : Room} {s : State} {m : MethodId} {args : Array Value} {below : List Frame} {meth : Method} {c : Code} {H : Heap} {locs : List Loc} {cells slots : Nat} {Q : State → Prop} {cc : ByteArray} {pc : Nat} {ls : Array Slot} {rest : List Value}
variable {D : va_G} {cl : List vw_C} {ft : aF} {nf : Nat → Nat} {cy sp : Nat → Nat} {base : Nat} {sS : Nat → Nat × Nat} {sI : Nat → Nat → Int32} {sR : Nat → Nat → Option Nat} {h h' : aH} {Ts : List Cond} {own : String} {nw : List Cond} {strs : aStr} {as : List Value}
theorem a_Pc_blind : FrameBlind (a_Pc D cl ft nf cy sp base sS sI sR nw strs as h) := by
  intro a U g mk q
  obtain ⟨q1, q2, q3, q4, q5⟩ := q
  exact ⟨q1, q2, q3, va_K.moved (u := U) (U := U.calling g mk a) (Vm.Alike.refl U.vm) q4, q5.to (U := U.calling g mk a) (State.WarmedH.refl U) (fun _ _ _ => rfl)⟩
/-- a caller's state gives the callee's start -/
theorem a_B_of {U : State} (hU : U.heap = H) (hWm : s.WarmedH U.vm) (hW : a_W D cl ft nf cy sp base sS sI sR h H) (hz : a_z h = 0 → H.size = base + (a_n h - 100)) (hK : va_K D cl (a_tys cy) s) (hL : a_Lo nw strs sp base sS sI sR s) (hS : va_S (a_A base) s.heap H locs) : a_B D cl ft nf cy sp base sS sI sR nw strs h U := by
  refine ⟨by rw [hU]; exact hW, by rw [hU]; exact hz, va_K.moved hWm.alike hK, hL.to hWm (fun a h1 h2 => ?_)⟩
  rw [hU]; exact hS.2.1 a h1 h2
theorem s_run {st0 : List Value} {dc ds : Nat} {Qa : aQ} {a : Array Value} (hr : vx_Run p l e R s m args below meth c H locs cells slots dc ds (F0 m pc ls st0) rest (a_Qc D cl ft nf cy sp base sS sI sR Qa a) (a_XC D cl ft nf cy sp base sS sI sR Qa) (a_A base)) (hS : va_S (a_A base) s.heap H locs)
    (kk : ∀ (v : Option Value) (h1 : aH) (H1 : Heap) (locs1 : List Loc), Qa (.inl v) h1 → a_W D cl ft nf cy sp base sS sI sR h1 H1 → va_S (a_A base) s.heap H1 locs1 → W p l e R s m args below meth c H1 locs1 (cells + dc) (slots + ds) Q (F0 m (pc + 3) ls ((v.map (vM (a_ad sp base))).toList ++ rest)))
    (kx : ∀ (ci : Nat) (h1 : aH) (H1 : Heap) (locs1 : List Loc) (q : Addr) (ce : Cell), Qa (.inr ci) h1 → (ci = 20 ∨ ci = 21) → a_W D cl ft nf cy sp base sS sI sR h1 H1 → va_S (a_A base) s.heap H1 locs1 → H1[q]? = some ce → ce.vm = .none → s.vm.findClass (a_en ci) = some ce.cls → vx_W p l e R s m args below meth c H1 locs1 (cells + dc) (slots + ds) Q (F0 m pc ls rest) q) :
    W p l e R s m args below meth c H locs cells slots Q (F0 m pc ls st0) := by
  intro T hT X
  rcases hr T hT X with ⟨v, st₀, t, T', L, h0, X', hL, e1, e2, ⟨⟨v', h1, hq, hv, hw⟩, hF⟩, st⟩ | ⟨q, st₀, t, T', L, E, ce, h0, X', hL, e1, e2, ⟨⟨ci, h1, hq, hE, hci, hw⟩, hF⟩, hce, hcv, hcl, st⟩
  · obtain ⟨k1, k2, k3⟩ := vx_keep h0 e1 hS (fun _ _ z => z) (fun _ z => z) hL hF
    cases hv
    rw [← e1] at hw
    obtain ⟨t2, a1, b1⟩ := kk v' h1 T'.heap (locs ++ L) hq hw k3 T' rfl X'
    exact ⟨t2, st t2 a1, b1⟩
  · obtain ⟨k1, k2, k3⟩ := vx_keep h0 e1 hS (fun _ _ z => z) (fun _ z => z) hL hF
    rw [← e1] at hw hce
    subst hE
    obtain ⟨t2, a1, b1⟩ := kx ci h1 T'.heap (locs ++ L) q ce hq hci hw k3 hce hcv hcl T' rfl X'
    exact ⟨t2, st.trans a1, b1⟩
/-- a call that only returns -/
theorem s_runR {st0 : List Value} {dc ds : Nat} {Qa : aQ} {a : Array Value} (hr : va_Run p l e R s m args below meth c H locs cells slots dc ds (F0 m pc ls st0) rest (a_Qc D cl ft nf cy sp base sS sI sR Qa a) (a_A base)) (hS : va_S (a_A base) s.heap H locs)
    (kk : ∀ (v : Option Value) (h1 : aH) (H1 : Heap) (locs1 : List Loc), Qa (.inl v) h1 → a_W D cl ft nf cy sp base sS sI sR h1 H1 → va_S (a_A base) s.heap H1 locs1 → W p l e R s m args below meth c H1 locs1 (cells + dc) (slots + ds) Q (F0 m (pc + 3) ls ((v.map (vM (a_ad sp base))).toList ++ rest))) :
    W p l e R s m args below meth c H locs cells slots Q (F0 m pc ls st0) := by
  intro T hT X
  obtain ⟨v, st₀, t, T', L, h0, X', hL, e1, e2, ⟨⟨v', h1, hq, hv, hw⟩, hF⟩, st⟩ := hr T hT X
  obtain ⟨k1, k2, k3⟩ := vx_keep h0 e1 hS (fun _ _ z => z) (fun _ z => z) hL hF
  cases hv
  rw [← e1] at hw
  obtain ⟨t2, a1, b1⟩ := kk v' h1 T'.heap (locs ++ L) hq hw k3 T' rfl X'
  exact ⟨t2, st t2 a1, b1⟩
/-- a contract that never throws -/
theorem a_noThrow {y : MethodName} {ws : List Cond} {rm : Room} {Pc : Array Value → State → Prop} {dc ds : Nat} {Qa : aQ} (hM : vx_Met l y ws rm Pc (a_Qc D cl ft nf cy sp base sS sI sR Qa) (a_XC D cl ft nf cy sp base sS sI sR Qa) dc ds (a_A base)) (hno : ∀ ci h1, ¬ Qa (.inr ci) h1) : Met l y ws rm Pc (a_Qc D cl ft nf cy sp base sS sI sR Qa) dc ds (a_A base) := by
  refine MetFree.mono hM (fun _ _ z => z) (fun _ _ _ _ _ z => z) ?_
  intro a st o t _ hq
  rcases hq with hq | ⟨q, -, E, ce, L, ⟨⟨ci, h1, hq, -⟩, -⟩, -⟩
  · exact hq
  · exact absurd hq (hno ci h1)
end
