set_option maxHeartbeats 400000
/-! THE HEAP BEHIND THE CONSTRUCTORS -/
def f00 (xs : Nat → Int32) : HF := fun a j => rdI ctW_b a j (sIx xs a j)
def K00 (L : Nat) (r0 : Option Nat) : KK := (L, r0, 0, fun _ _ => 0)
theorem ct_len : (ctS_b ++ [(3, 1)]).length = 103 ∧ ctS_a.length = 61 ∧ ctS_b.length = 102 := by decide +kernel
theorem ct_shs : (List.range 103).all (fun i => decide ((ctS_b ++ [(3, 1)]).getD i (0, 0) = SHT (100 + i))) = true := by decide +kernel
theorem ct_rfs : (List.range 103).all (fun i => (List.range 64).all (fun j => decide (rdR ctR_b (100 + i) j none = RFT (100 + i) j))) = true := by decide +kernel
theorem ct_rin : ctR_b.all (fun q => Nat.ble 100 q.1 && (Nat.blt q.1 203 && Nat.blt q.2.1 64)) = true := by decide +kernel
theorem ct_win : ctW_b.all (fun q => Nat.ble 100 q.1) = true := by decide +kernel
theorem ct_ain : ctW_a.all (fun q => Nat.ble 100 q.1 && Nat.blt q.1 161) = true ∧ ctR_a.all (fun q => Nat.ble 100 q.1 && Nat.blt q.1 161) = true := by decide +kernel
theorem ble_f {a b : Nat} (h : b < a) : Nat.ble a b = false := by
  cases e : Nat.ble a b with
  | false => rfl
  | true => exact absurd (Nat.le_of_ble_eq_true e) (by omega)
theorem cnd_none {b : Bool} {x y : Option Nat} (h1 : x = none) (h2 : y = none) : cond b x y = none := by
  cases b
  · exact h2
  · exact h1
theorem gd_none {l : List (Option Nat)} {j : Nat} (h : l.length ≤ j) : l.getD j none = none := by
  rw [List.getD_eq_getElem?_getD, List.getElem?_eq_none h]
  rfl
theorem rft_hi {a j : Nat} (hj : 64 ≤ j) : RFT a j = none := by
  unfold RFT
  repeat' (first | refine cnd_none ?_ ?_ | exact gd_none (Nat.le_trans (by decide) hj) | exact rfl)
theorem rdR_j {w : List (Nat × Nat × Nat)} {a j : Nat} {b : Option Nat} : (∀ q ∈ w, q.2.1 ≠ j) → rdR w a j b = b := by
  induction w with
  | nil => intro _; rfl
  | cons q r ih =>
    intro h
    show (if a = q.1 then (if j = q.2.1 then some q.2.2 else rdR r a j b) else rdR r a j b) = b
    rw [if_neg (show ¬ j = q.2.1 from fun e => h q (List.mem_cons_self) e.symm), ih (fun q hq => h q (List.mem_cons_of_mem _ hq))]
    split <;> rfl
section
variable {L : Nat} {xs : Nat → Int32} {r0 : Option Nat}
theorem ct_in (q : Nat × Nat × Nat) (hq : q ∈ ctR_b) : 100 ≤ q.1 ∧ q.1 < 203 ∧ q.2.1 < 64 := by
  have := List.all_eq_true.mp ct_rin q hq
  rw [Bool.and_eq_true, Bool.and_eq_true, Nat.blt_eq, Nat.blt_eq] at this
  exact ⟨Nat.le_of_ble_eq_true this.1, this.2⟩
theorem ct_sh (a : Nat) : (if a < 100 then sSx L a else (ctS_b ++ [(3, 1)]).getD (a - 100) (0, 0)) = SHP L a := by
  unfold SHP
  by_cases h : a < 100
  · rw [if_pos h, ble_f h]; rfl
  · rw [if_neg h, Nat.ble_eq_true_of_le (show 100 ≤ a by omega)]
    by_cases h2 : a < 203
    · rw [ble_f h2]
      have := of_decide_eq_true (List.all_eq_true.mp ct_shs (a - 100) (List.mem_range.mpr (by omega)))
      rw [this, show 100 + (a - 100) = a by omega]
      rfl
    · rw [Nat.ble_eq_true_of_le (show 203 ≤ a by omega), List.getD_eq_getElem?_getD, List.getElem?_eq_none (by rw [ct_len.1]; omega)]
      rfl
theorem ct_rf (a j : Nat) : rdR ctR_b a j (sRx r0 a j) = RFP r0 a j := by
  unfold RFP
  by_cases h : a < 100
  · rw [ble_f h, rdR_no (fun q hq => by have := ct_in q hq; omega)]; rfl
  · rw [Nat.ble_eq_true_of_le (show 100 ≤ a by omega), sR_hi (by omega)]
    by_cases h2 : a < 203
    · rw [ble_f h2]
      show rdR ctR_b a j none = RFT a j
      by_cases h3 : j < 64
      · have := of_decide_eq_true (List.all_eq_true.mp (List.all_eq_true.mp ct_rfs (a - 100) (List.mem_range.mpr (by omega))) j (List.mem_range.mpr h3))
        rw [show 100 + (a - 100) = a by omega] at this
        exact this
      · rw [rft_hi (by omega), rdR_j (fun q hq => by have := ct_in q hq; omega)]
    · rw [Nat.ble_eq_true_of_le (show 203 ≤ a by omega), rdR_no (fun q hq => by have := ct_in q hq; omega)]
      rfl
theorem ct_hk : ab L xs r0 (ctS_b ++ [(3, 1)], ctW_b, ctR_b) = hk (K00 L r0) (f00 xs) := by
  have e2 : (fun a => if a < 100 then sSx L a else (ctS_b ++ [(3, 1)]).getD (a - 100) (0, 0)) = SHP L := funext ct_sh
  have e4 : (fun a j => rdR ctR_b a j (sRx r0 a j)) = RFP r0 := funext (fun a => funext (fun j => ct_rf a j))
  show ((100 + (ctS_b ++ [(3, 1)]).length, 0), (fun a => if a < 100 then sSx L a else (ctS_b ++ [(3, 1)]).getD (a - 100) (0, 0)), (fun a j => rdI ctW_b a j (sIx xs a j)), (fun a j => rdR ctR_b a j (sRx r0 a j)), fun (_ _ : Nat) => (0 : Int64)) = _
  rw [e2, e4, ct_len.1]
  rfl
theorem h0_ab : h0x L xs r0 = ab L xs r0 ([], [], []) := by
  have e : sSx L = (fun a => if a < 100 then sSx L a else ([] : List (Nat × Nat)).getD (a - 100) (0, 0)) := by
    funext a
    by_cases h : a < 100
    · rw [if_pos h]
    · rw [if_neg h, sS_hi (by omega)]; rfl
  unfold h0x
  rw [e]
  rfl
/-! the first world -/
def w00 : WD := (fun _ => 0, 0, m1, g00, (newS g00, (0, fun _ => newS g00), (0, (fun _ => 0), (fun _ => 0), fun _ => N 0), fun _ => N 0), none)
theorem ok_w0 : okW w00 := by
  have hg : okG g00 := ok_00.1
  refine ⟨hg, ⟨ok_new hg, ⟨Nat.zero_le _, fun i hi => absurd hi (Nat.not_lt_zero i)⟩, Nat.zero_le _, fun i hi => absurd hi (Nat.not_lt_zero i)⟩, ⟨Nat.zero_le _, fun i hi => absurd hi (Nat.not_lt_zero i)⟩, Nat.zero_le _, fun i hi => absurd hi (Nat.not_lt_zero i), fun m hm => by cases hm⟩
theorem fv {a j : Nat} {x : Int32} (h : 100 ≤ a) (e : rdI ctW_b a j 0 = x) : f00 xs a j = x := by
  show rdI ctW_b a j (sIx xs a j) = x
  rw [sI_hi h]
  exact e
theorem f_lo {a : Nat} (h : a < 100) : f00 xs a = sIx xs a := by
  funext j
  show rdI ctW_b a j (sIx xs a j) = _
  exact rdI_no (fun q hq => by have := Nat.le_of_ble_eq_true (List.all_eq_true.mp ct_win q hq); omega)
theorem v_103 : ∀ c, c < 25 → rdI ctW_b 103 c 0 = N 0 := by decide +kernel
theorem v_136a : ∀ k, k < 9 → rdI ctW_b 136 (1 + k) 0 = N 0 := by decide +kernel
theorem v_136b : ∀ c, c < 16 → rdI ctW_b 136 (18 + c) 0 = N 0 := by decide +kernel
theorem v_136c : ∀ c, c < 16 → rdI ctW_b 136 (43 + c) 0 = m1 := by decide +kernel
theorem v_134 : ∀ k, k < 3 → rdI ctW_b 134 k 0 = N 0 := by decide +kernel
theorem v_bn : ∀ i, i < 4 → sBN i = N (ord4 i) := by decide +kernel
theorem v_165 : ∀ c, c < 25 → rdI ctW_b 165 c 0 = N 0 := by decide +kernel
theorem v_178 : ∀ c, c < 8 → rdI ctW_b 178 c 0 = N 0 := by decide +kernel
theorem v_175 : ∀ c, c < 16 → rdI ctW_b 175 c 0 = N 0 := by decide +kernel
theorem v_176 : ∀ c, c < 16 → rdI ctW_b 176 c 0 = m1 := by decide +kernel
theorem v_173 : ∀ c, c < 3 → rdI ctW_b 173 c 0 = N 0 := by decide +kernel
theorem ci_w0 : CI (f00 xs) w00 := by
  have no : ∀ {P : Nat → Prop} (j : Nat), j < 0 → P j := fun j hj => absurd hj (Nat.not_lt_zero j)
  refine ⟨?_, ?_, fv (by decide) (by decide +kernel), fv (by decide) (by decide +kernel), no, fun i hi => ?_, fun _ => fv (by decide) (by decide +kernel), fun m hm => by cases hm⟩
  · exact ⟨fv (x := N 4) (by decide) (by decide +kernel), fv (x := N 4) (by decide) (by decide +kernel), fv (x := N 16) (by decide) (by decide +kernel), fv (x := N 0) (by decide) (by decide +kernel), fv (x := N 0) (by decide) (by decide +kernel), fun c hc => fv (x := N 0) (by decide) (v_103 c hc), no, no, no, no, no, no, fv (x := N 0) (by decide) (by decide +kernel), no⟩
  · show NRr g00 (f00 xs 136) (f00 xs 128) (f00 xs 129) (f00 xs 130) (f00 xs 131) (f00 xs 132) (f00 xs 133) (f00 xs 134) (newS g00, (0, fun _ => newS g00), (0, (fun _ => 0), (fun _ => 0), fun _ => N 0), fun _ => N 0)
    refine ⟨⟨fv (x := N 0) (by decide) (by decide +kernel), fun k hk => fv (x := N 0) (by decide) (v_136a k hk), no, fun c hc => fv (x := N 0) (by decide) (v_136b c hc), fun c hc => fv (x := m1) (by decide) (v_136c c hc), no, fv (x := m1) (by decide) (by decide +kernel)⟩, ⟨0, by decide, fv (x := N 0) (by decide) (by decide +kernel), fv (x := N 0) (by decide) (by decide +kernel), no⟩, ⟨fv (x := N 0) (by decide) (by decide +kernel), no, no, no⟩, fun k hk => fv (x := N 0) (by decide) (v_134 k hk)⟩
  · rw [f_lo (by decide)]
    exact v_bn i hi
theorem mi_w0 : MI (f00 xs) w00 := by
  have no : ∀ {P : Nat → Prop} (j : Nat), j < 0 → P j := fun j hj => absurd hj (Nat.not_lt_zero j)
  refine ⟨⟨fv (x := N 4) (by decide) (by decide +kernel), fv (x := N 4) (by decide) (by decide +kernel), fv (x := N 0) (by decide) (by decide +kernel), fv (x := N 0) (by decide) (by decide +kernel), fv (x := N 0) (by decide) (by decide +kernel), fun c hc => fv (x := N 0) (by decide) (v_165 c hc), no, no, no, no, no, no⟩, ⟨fv (x := N 0) (by decide) (by decide +kernel), fun k hk => fv (x := N 0) (by decide) (v_178 k hk), fv (x := N 0) (by decide) (by decide +kernel), no, fun c hc => fv (x := N 0) (by decide) (v_175 c hc), fun c hc => fv (x := m1) (by decide) (v_176 c hc), no, fv (x := m1) (by decide) (by decide +kernel)⟩, ⟨fv (x := N 0) (by decide) (by decide +kernel), no, fv (x := m1) (by decide) (by decide +kernel)⟩, ⟨fv (x := N 0) (by decide) (by decide +kernel), no⟩, ⟨fv (x := N 0) (by decide) (by decide +kernel), no, no, no⟩, fun k hk => fv (x := N 0) (by decide) (v_173 k hk), fun _ => fv (x := N 0) (by decide) (by decide +kernel), fun m hm => by cases hm⟩
theorem bi_w0 : BI xs (f00 xs) := fun a ha => f_lo ha
end
