/-! ALL METHODS, BY THE DEPTH OF CALLS -/
section
variable {l : Launch} {D : va_G} {cl : List vw_C} {ft : aF} {nf : Nat → Nat} {cy sp : Nat → Nat} {base : Nat} {sS : Nat → Nat × Nat} {sI : Nat → Nat → Int32} {sR : Nat → Nat → Option Nat} {GT nw : List Cond} {strs : aStr} {pr : Nat → Option aMeth}
set_option maxHeartbeats 4000000 in
theorem s_sound (hfl : l.stackTraces = false) (hG : ∀ w ∈ GT, goodWord w = true) (hnw : ∀ w ∈ nw, a_nest w = true) (hprog : ∀ k M, pr k = some M → a_mvld GT nw strs cl ft nf pr M ∧ ∀ q, M.2.2.2.2.1[0]? = some q → q.1 = 0) :
    ∀ (d k : Nat) (as : List Value) (h : aH) (bc bs : Nat) (Qa : aQ), wpM ft nf pr d k as h bc bs Qa → ∀ M, pr k = some M → vx_Met l M.1 (a_cw M :: GT) { frames := 40 + d, cells := bc, slots := bs, locals := 1000 + 100 * d } (a_Pc D cl ft nf cy sp base sS sI sR nw strs as h) (a_Qc D cl ft nf cy sp base sS sI sR Qa) (a_XC D cl ft nf cy sp base sS sI sR Qa) bc bs (a_A base) := by
  intro d
  induction d with
  | zero => intro k as h bc bs Qa hw; exact hw.elim
  | succ d ih =>
    intro k as h bc bs Qa hw M hM
    unfold wpM at hw
    rw [hM] at hw
    obtain ⟨hlen, n, hw⟩ := hw
    obtain ⟨hMv, hP0⟩ := hprog k M hM
    cases hh : M.2.2.2.2.2.2 with
    | nil =>
      have he : a_cw M = Cond.code M.1 M.2.1 M.2.2.1 M.2.2.2.1 := by unfold a_cw; rw [hh]
      refine vx_ofW (ws' := GT) hMv.2.1 (by rw [he]) ?_
      intro p e s m args below meth c s₁ B hml hno hPc
      refine s_body hfl hG hnw hMv ih hlen hw ⟨by omega, by omega⟩ (by omega) (by omega) hP0 B hml ?_ hPc
      rw [hh]
      cases hz : c.exceptionTable.toList with
      | nil => rfl
      | cons a b => exact (hno a (by rw [hz]; exact List.mem_cons_self)).elim
    | cons x xs =>
      have he : a_cw M = Cond.codeWith M.1 M.2.1 M.2.2.1 M.2.2.2.1 (x :: xs) := by unfold a_cw; rw [hh]
      refine vx_ofWH (ws' := GT) (hh := x :: xs) hMv.2.1 (by rw [he]) ?_
      intro p e s m args below meth c s₁ B hml hPc
      refine s_body hfl hG hnw hMv ih hlen hw ⟨by omega, by omega⟩ (by omega) (by omega) hP0 B hml ?_ hPc
      rw [hh]
      have h9 := atoms_spec (ws := a_cw M :: GT) B.pre (a_cw M) List.mem_cons_self
      rw [he] at h9
      exact vx_table (x := M.1) B h9
end
