set_option maxHeartbeats 400000
/-! THE LAW'S HELPERS: calls whose throws are caught -/
def lK (K : KK) (v : Int32) : KK := (K.1, K.2.1, K.2.2.1, a_up2 K.2.2.2 202 0 v.toInt64)
theorem lK_set {K : KK} {f : HF} {v : Int32} : a_setL (hk K f) 202 (Int32.ofInt 0).toNatClampNeg v.toInt64 = hk (lK K v) f := by
  rw [cn_c0, N_nat (by omega)]
  rfl
theorem wpM_in {k d n bc bs : Nat} {as : List Value} {h : aH} {Q : aQ} {M : aMeth} (hM : apr k = some M) (hl : (a_ent as).length ≤ M.2.2.1) (hw : wpL aft anf (wpM aft anf apr d) M.2.2.2.1 M.2.2.2.2.1 M.2.2.2.2.2.1 n 0 (a_ent as ++ List.replicate (M.2.2.1 - (a_ent as).length) .null) [] h bc bs Q) : wpM aft anf apr (d + 1) k as h bc bs Q := by
  unfold wpM
  rw [hM]
  exact ⟨hl, n, hw⟩
section
variable {K : KK} {d : Nat} {ret : Option FieldType} {P : List aEnt} {n i : Nat} {L S' : List Value} {bc bs : Nat} {Q : aQ} {k : Nat} {as as' : List Value} {f : HF} {E t x : Nat} {hs : List (Nat × Nat × Nat × Nat × Nat)}
theorem callth (hst : St K d k as' f E) (e : as = as') (hd : a_hd hs i E = some (t, x)) (hs2 : a_st L x = true) (hn : wpL aft anf (wpM aft anf apr d) ret P hs n t (L.set x .null) [] (hk (zK K) f) bc bs Q) : ∃ dc ds bc' bs', bc + 1 = bc' + dc ∧ bs + 6 = bs' + ds ∧ wpM aft anf apr d k as (hk K f) dc ds (fun r h' => (a_z h' = 0 → a_z (hk K f) = 0 ∧ a_n (hk K f) + dc ≤ a_n h') ∧ match r with
          | .inl v => wpL aft anf (wpM aft anf apr d) ret P hs n (i + 1) L (v.toList ++ S') h' bc' bs' Q
          | .inr E => true = true ∧ match a_hd hs i E with
            | some (t, x) => a_st L x = true ∧ wpL aft anf (wpM aft anf apr d) ret P hs n t (L.set x .null) [] h' bc' bs' Q
            | none => hs = [] ∧ Q (.inr E) h') := by
  subst e
  refine ⟨1, 6, bc, bs, rfl, rfl, hst 0 0 _ ⟨fun z => absurd z (Nat.succ_ne_zero _), rfl, ?_⟩⟩
  simp only [hd]
  exact ⟨hs2, hn⟩
end
section
variable {K : KK} {d : Nat} {f f1 : HF} {w w1 : WD} {xs : Nat → Int32}
theorem eh_canton {x1 : Int32} {n bc bs : Nat} {Q : aQ} (hw : wpL aft anf (wpM aft anf apr d) (some .int) pP_SnowCantonLaw_canton [(0, 7, 9, 3, 20)] n 0 [.ref 100, .int x1, .ref 202, .null] [] (hk K f) bc bs Q) : wpM aft anf apr (d + 1) 5 [.ref 100, .int x1, .ref 202] (hk K f) bc bs Q := wpM_in (M := pM_SnowCantonLaw_canton) rfl (Nat.le_of_ble_eq_true rfl) hw
theorem lv_canton {x1 v : Int32} (h : Sp K d k_SnowCanton_canton [.ref 100, .int x1] f (isR v (fun f' => CI f' w1 ∧ Cl f f'))) {bc bs : Nat} {Q : aQ} (hq : ∀ f', CI f' w1 → Cl f f' → Q (.inl (some (.int (N 0)))) (hk (lK K v) f')) : wpM aft anf apr (d + 1) 5 [.ref 100, .int x1, .ref 202] (hk K f) bc bs Q := by
  refine eh_canton (n := 999) ?_
  refine And.intro rfl ?_
  refine callxq h rfl ?_
  rintro v1 f1 ⟨rfl, ci, cl⟩
  refine And.intro (And.intro rfl (N_in2 (k := 0) rfl (show 0 < 1 from by decide) (show 1 < 2147483648 from by decide))) ?_
  refine wp_more (hd := 7) (m := 99) (L := [.ref 100, .int x1, .ref 202, .null]) (S := []) (h := hk (lK K v) f1) ?_ (Nat.le_of_ble_eq_true rfl) rfl rfl lK_set
  exact ⟨trivial, hq f1 ci cl⟩
theorem lt_canton_20 {x1 : Int32} (h : St K d k_SnowCanton_canton [.ref 100, .int x1] f 20) {bc bs : Nat} {Q : aQ} (hq : Q (.inl (some (.int (N 1)))) (hk (zK K) f)) : wpM aft anf apr (d + 1) 5 [.ref 100, .int x1, .ref 202] (hk K f) (bc + 1) (bs + 6) Q := by
  refine eh_canton (n := 999) ?_
  refine And.intro rfl ?_
  refine callth h rfl (t := 9) (x := 3) rfl rfl ?_
  exact ⟨trivial, hq⟩
theorem eh_count {x1 : Int32} {n bc bs : Nat} {Q : aQ} (hw : wpL aft anf (wpM aft anf apr d) (some .int) pP_SnowCantonLaw_count [(0, 7, 9, 3, 21)] n 0 [.ref 100, .int x1, .ref 202, .null] [] (hk K f) bc bs Q) : wpM aft anf apr (d + 1) 10 [.ref 100, .int x1, .ref 202] (hk K f) bc bs Q := wpM_in (M := pM_SnowCantonLaw_count) rfl (Nat.le_of_ble_eq_true rfl) hw
theorem lv_count {x1 v : Int32} (h : Sp K d k_SnowCanton_count [.ref 100, .int x1] f (isR v (fun f' => CI f' w1 ∧ Cl f f'))) {bc bs : Nat} {Q : aQ} (hq : ∀ f', CI f' w1 → Cl f f' → Q (.inl (some (.int (N 0)))) (hk (lK K v) f')) : wpM aft anf apr (d + 1) 10 [.ref 100, .int x1, .ref 202] (hk K f) bc bs Q := by
  refine eh_count (n := 999) ?_
  refine And.intro rfl ?_
  refine callxq h rfl ?_
  rintro v1 f1 ⟨rfl, ci, cl⟩
  refine And.intro (And.intro rfl (N_in2 (k := 0) rfl (show 0 < 1 from by decide) (show 1 < 2147483648 from by decide))) ?_
  refine wp_more (hd := 7) (m := 99) (L := [.ref 100, .int x1, .ref 202, .null]) (S := []) (h := hk (lK K v) f1) ?_ (Nat.le_of_ble_eq_true rfl) rfl rfl lK_set
  exact ⟨trivial, hq f1 ci cl⟩
theorem lt_count_21 {x1 : Int32} (h : St K d k_SnowCanton_count [.ref 100, .int x1] f 21) {bc bs : Nat} {Q : aQ} (hq : Q (.inl (some (.int (N 1)))) (hk (zK K) f)) : wpM aft anf apr (d + 1) 10 [.ref 100, .int x1, .ref 202] (hk K f) (bc + 1) (bs + 6) Q := by
  refine eh_count (n := 999) ?_
  refine And.intro rfl ?_
  refine callth h rfl (t := 9) (x := 3) rfl rfl ?_
  exact ⟨trivial, hq⟩
theorem eh_cell {x1 x2 : Int32} {n bc bs : Nat} {Q : aQ} (hw : wpL aft anf (wpM aft anf apr d) (some .int) pP_SnowCantonLaw_cell [(0, 8, 10, 4, 21)] n 0 [.ref 100, .int x1, .int x2, .ref 202, .null] [] (hk K f) bc bs Q) : wpM aft anf apr (d + 1) 12 [.ref 100, .int x1, .int x2, .ref 202] (hk K f) bc bs Q := wpM_in (M := pM_SnowCantonLaw_cell) rfl (Nat.le_of_ble_eq_true rfl) hw
theorem lv_cell {x1 x2 v : Int32} (h : Sp K d k_SnowCanton_cell [.ref 100, .int x1, .int x2] f (isR v (fun f' => CI f' w1 ∧ Cl f f'))) {bc bs : Nat} {Q : aQ} (hq : ∀ f', CI f' w1 → Cl f f' → Q (.inl (some (.int (N 0)))) (hk (lK K v) f')) : wpM aft anf apr (d + 1) 12 [.ref 100, .int x1, .int x2, .ref 202] (hk K f) bc bs Q := by
  refine eh_cell (n := 999) ?_
  refine And.intro rfl ?_
  refine callxq h rfl ?_
  rintro v1 f1 ⟨rfl, ci, cl⟩
  refine And.intro (And.intro rfl (N_in2 (k := 0) rfl (show 0 < 1 from by decide) (show 1 < 2147483648 from by decide))) ?_
  refine wp_more (hd := 8) (m := 99) (L := [.ref 100, .int x1, .int x2, .ref 202, .null]) (S := []) (h := hk (lK K v) f1) ?_ (Nat.le_of_ble_eq_true rfl) rfl rfl lK_set
  exact ⟨trivial, hq f1 ci cl⟩
theorem lt_cell_21 {x1 x2 : Int32} (h : St K d k_SnowCanton_cell [.ref 100, .int x1, .int x2] f 21) {bc bs : Nat} {Q : aQ} (hq : Q (.inl (some (.int (N 1)))) (hk (zK K) f)) : wpM aft anf apr (d + 1) 12 [.ref 100, .int x1, .int x2, .ref 202] (hk K f) (bc + 1) (bs + 6) Q := by
  refine eh_cell (n := 999) ?_
  refine And.intro rfl ?_
  refine callth h rfl (t := 10) (x := 4) rfl rfl ?_
  exact ⟨trivial, hq⟩
theorem eh_person {x1 x2 : Int32} {n bc bs : Nat} {Q : aQ} (hw : wpL aft anf (wpM aft anf apr d) (some .int) pP_SnowCantonLaw_person [(0, 8, 10, 4, 21)] n 0 [.ref 100, .int x1, .int x2, .ref 202, .null] [] (hk K f) bc bs Q) : wpM aft anf apr (d + 1) 14 [.ref 100, .int x1, .int x2, .ref 202] (hk K f) bc bs Q := wpM_in (M := pM_SnowCantonLaw_person) rfl (Nat.le_of_ble_eq_true rfl) hw
theorem lv_person {x1 x2 v : Int32} (h : Sp K d k_SnowCanton_person [.ref 100, .int x1, .int x2] f (isR v (fun f' => CI f' w1 ∧ Cl f f'))) {bc bs : Nat} {Q : aQ} (hq : ∀ f', CI f' w1 → Cl f f' → Q (.inl (some (.int (N 0)))) (hk (lK K v) f')) : wpM aft anf apr (d + 1) 14 [.ref 100, .int x1, .int x2, .ref 202] (hk K f) bc bs Q := by
  refine eh_person (n := 999) ?_
  refine And.intro rfl ?_
  refine callxq h rfl ?_
  rintro v1 f1 ⟨rfl, ci, cl⟩
  refine And.intro (And.intro rfl (N_in2 (k := 0) rfl (show 0 < 1 from by decide) (show 1 < 2147483648 from by decide))) ?_
  refine wp_more (hd := 8) (m := 99) (L := [.ref 100, .int x1, .int x2, .ref 202, .null]) (S := []) (h := hk (lK K v) f1) ?_ (Nat.le_of_ble_eq_true rfl) rfl rfl lK_set
  exact ⟨trivial, hq f1 ci cl⟩
theorem lt_person_21 {x1 x2 : Int32} (h : St K d k_SnowCanton_person [.ref 100, .int x1, .int x2] f 21) {bc bs : Nat} {Q : aQ} (hq : Q (.inl (some (.int (N 1)))) (hk (zK K) f)) : wpM aft anf apr (d + 1) 14 [.ref 100, .int x1, .int x2, .ref 202] (hk K f) (bc + 1) (bs + 6) Q := by
  refine eh_person (n := 999) ?_
  refine And.intro rfl ?_
  refine callth h rfl (t := 10) (x := 4) rfl rfl ?_
  exact ⟨trivial, hq⟩
theorem eh_walk {x1 x2 : Int32} {n bc bs : Nat} {Q : aQ} (hw : wpL aft anf (wpM aft anf apr d) (some .int) pP_SnowCantonLaw_walk [(0, 8, 10, 4, 21)] n 0 [.ref 100, .int x1, .int x2, .ref 202, .null] [] (hk K f) bc bs Q) : wpM aft anf apr (d + 1) 18 [.ref 100, .int x1, .int x2, .ref 202] (hk K f) bc bs Q := wpM_in (M := pM_SnowCantonLaw_walk) rfl (Nat.le_of_ble_eq_true rfl) hw
theorem lv_walk {x1 x2 v : Int32} (h : Sp K d k_SnowCanton_walk [.ref 100, .int x1, .int x2] f (isR v (fun f' => CI f' w1 ∧ Cl f f'))) {bc bs : Nat} {Q : aQ} (hq : ∀ f', CI f' w1 → Cl f f' → Q (.inl (some (.int (N 0)))) (hk (lK K v) f')) : wpM aft anf apr (d + 1) 18 [.ref 100, .int x1, .int x2, .ref 202] (hk K f) bc bs Q := by
  refine eh_walk (n := 999) ?_
  refine And.intro rfl ?_
  refine callxq h rfl ?_
  rintro v1 f1 ⟨rfl, ci, cl⟩
  refine And.intro (And.intro rfl (N_in2 (k := 0) rfl (show 0 < 1 from by decide) (show 1 < 2147483648 from by decide))) ?_
  refine wp_more (hd := 8) (m := 99) (L := [.ref 100, .int x1, .int x2, .ref 202, .null]) (S := []) (h := hk (lK K v) f1) ?_ (Nat.le_of_ble_eq_true rfl) rfl rfl lK_set
  exact ⟨trivial, hq f1 ci cl⟩
theorem lt_walk_21 {x1 x2 : Int32} (h : St K d k_SnowCanton_walk [.ref 100, .int x1, .int x2] f 21) {bc bs : Nat} {Q : aQ} (hq : Q (.inl (some (.int (N 1)))) (hk (zK K) f)) : wpM aft anf apr (d + 1) 18 [.ref 100, .int x1, .int x2, .ref 202] (hk K f) (bc + 1) (bs + 6) Q := by
  refine eh_walk (n := 999) ?_
  refine And.intro rfl ?_
  refine callth h rfl (t := 10) (x := 4) rfl rfl ?_
  exact ⟨trivial, hq⟩
theorem eh_push {x1 x2 : Int32} {n bc bs : Nat} {Q : aQ} (hw : wpL aft anf (wpM aft anf apr d) (some .int) pP_SnowCantonLaw_push [(0, 8, 10, 4, 21)] n 0 [.ref 100, .int x1, .int x2, .ref 202, .null] [] (hk K f) bc bs Q) : wpM aft anf apr (d + 1) 24 [.ref 100, .int x1, .int x2, .ref 202] (hk K f) bc bs Q := wpM_in (M := pM_SnowCantonLaw_push) rfl (Nat.le_of_ble_eq_true rfl) hw
theorem lv_push {x1 x2 v : Int32} (h : Sp K d k_SnowCanton_push [.ref 100, .int x1, .int x2] f (isR v (fun f' => CI f' w1 ∧ Cl f f'))) {bc bs : Nat} {Q : aQ} (hq : ∀ f', CI f' w1 → Cl f f' → Q (.inl (some (.int (N 0)))) (hk (lK K v) f')) : wpM aft anf apr (d + 1) 24 [.ref 100, .int x1, .int x2, .ref 202] (hk K f) bc bs Q := by
  refine eh_push (n := 999) ?_
  refine And.intro rfl ?_
  refine callxq h rfl ?_
  rintro v1 f1 ⟨rfl, ci, cl⟩
  refine And.intro (And.intro rfl (N_in2 (k := 0) rfl (show 0 < 1 from by decide) (show 1 < 2147483648 from by decide))) ?_
  refine wp_more (hd := 8) (m := 99) (L := [.ref 100, .int x1, .int x2, .ref 202, .null]) (S := []) (h := hk (lK K v) f1) ?_ (Nat.le_of_ble_eq_true rfl) rfl rfl lK_set
  exact ⟨trivial, hq f1 ci cl⟩
theorem lt_push_21 {x1 x2 : Int32} (h : St K d k_SnowCanton_push [.ref 100, .int x1, .int x2] f 21) {bc bs : Nat} {Q : aQ} (hq : Q (.inl (some (.int (N 1)))) (hk (zK K) f)) : wpM aft anf apr (d + 1) 24 [.ref 100, .int x1, .int x2, .ref 202] (hk K f) (bc + 1) (bs + 6) Q := by
  refine eh_push (n := 999) ?_
  refine And.intro rfl ?_
  refine callth h rfl (t := 10) (x := 4) rfl rfl ?_
  exact ⟨trivial, hq⟩
theorem eh_trespass {x1 x2 x3 : Int32} {n bc bs : Nat} {Q : aQ} (hw : wpL aft anf (wpM aft anf apr d) (some .int) pP_SnowCantonLaw_trespass [(0, 9, 11, 5, 21)] n 0 [.ref 100, .int x1, .int x2, .int x3, .ref 202, .null] [] (hk K f) bc bs Q) : wpM aft anf apr (d + 1) 28 [.ref 100, .int x1, .int x2, .int x3, .ref 202] (hk K f) bc bs Q := wpM_in (M := pM_SnowCantonLaw_trespass) rfl (Nat.le_of_ble_eq_true rfl) hw
theorem lv_trespass {x1 x2 x3 v : Int32} (h : Sp K d k_SnowCanton_trespass [.ref 100, .int x1, .int x2, .int x3] f (isR v (fun f' => CI f' w1 ∧ Cl f f'))) {bc bs : Nat} {Q : aQ} (hq : ∀ f', CI f' w1 → Cl f f' → Q (.inl (some (.int (N 0)))) (hk (lK K v) f')) : wpM aft anf apr (d + 1) 28 [.ref 100, .int x1, .int x2, .int x3, .ref 202] (hk K f) bc bs Q := by
  refine eh_trespass (n := 999) ?_
  refine And.intro rfl ?_
  refine callxq h rfl ?_
  rintro v1 f1 ⟨rfl, ci, cl⟩
  refine And.intro (And.intro rfl (N_in2 (k := 0) rfl (show 0 < 1 from by decide) (show 1 < 2147483648 from by decide))) ?_
  refine wp_more (hd := 9) (m := 99) (L := [.ref 100, .int x1, .int x2, .int x3, .ref 202, .null]) (S := []) (h := hk (lK K v) f1) ?_ (Nat.le_of_ble_eq_true rfl) rfl rfl lK_set
  exact ⟨trivial, hq f1 ci cl⟩
theorem lt_trespass_21 {x1 x2 x3 : Int32} (h : St K d k_SnowCanton_trespass [.ref 100, .int x1, .int x2, .int x3] f 21) {bc bs : Nat} {Q : aQ} (hq : Q (.inl (some (.int (N 1)))) (hk (zK K) f)) : wpM aft anf apr (d + 1) 28 [.ref 100, .int x1, .int x2, .int x3, .ref 202] (hk K f) (bc + 1) (bs + 6) Q := by
  refine eh_trespass (n := 999) ?_
  refine And.intro rfl ?_
  refine callth h rfl (t := 11) (x := 5) rfl rfl ?_
  exact ⟨trivial, hq⟩
theorem eh_then {x1 x2 : Int32} {n bc bs : Nat} {Q : aQ} (hw : wpL aft anf (wpM aft anf apr d) (some .int) pP_SnowCantonLaw_then [(0, 8, 10, 4, 21), (0, 8, 13, 4, 20)] n 0 [.ref 100, .int x1, .int x2, .ref 202, .null] [] (hk K f) bc bs Q) : wpM aft anf apr (d + 1) 30 [.ref 100, .int x1, .int x2, .ref 202] (hk K f) bc bs Q := wpM_in (M := pM_SnowCantonLaw_then) rfl (Nat.le_of_ble_eq_true rfl) hw
theorem lv_then {x1 x2 v : Int32} (h : Sp K d k_SnowCanton_then [.ref 100, .int x1, .int x2] f (isR v (fun f' => CI f' w1 ∧ Cl f f'))) {bc bs : Nat} {Q : aQ} (hq : ∀ f', CI f' w1 → Cl f f' → Q (.inl (some (.int (N 0)))) (hk (lK K v) f')) : wpM aft anf apr (d + 1) 30 [.ref 100, .int x1, .int x2, .ref 202] (hk K f) bc bs Q := by
  refine eh_then (n := 999) ?_
  refine And.intro rfl ?_
  refine callxq h rfl ?_
  rintro v1 f1 ⟨rfl, ci, cl⟩
  refine And.intro (And.intro rfl (N_in2 (k := 0) rfl (show 0 < 1 from by decide) (show 1 < 2147483648 from by decide))) ?_
  refine wp_more (hd := 8) (m := 99) (L := [.ref 100, .int x1, .int x2, .ref 202, .null]) (S := []) (h := hk (lK K v) f1) ?_ (Nat.le_of_ble_eq_true rfl) rfl rfl lK_set
  exact ⟨trivial, hq f1 ci cl⟩
theorem lt_then_21 {x1 x2 : Int32} (h : St K d k_SnowCanton_then [.ref 100, .int x1, .int x2] f 21) {bc bs : Nat} {Q : aQ} (hq : Q (.inl (some (.int (N 1)))) (hk (zK K) f)) : wpM aft anf apr (d + 1) 30 [.ref 100, .int x1, .int x2, .ref 202] (hk K f) (bc + 1) (bs + 6) Q := by
  refine eh_then (n := 999) ?_
  refine And.intro rfl ?_
  refine callth h rfl (t := 10) (x := 4) rfl rfl ?_
  exact ⟨trivial, hq⟩
theorem lt_then_20 {x1 x2 : Int32} (h : St K d k_SnowCanton_then [.ref 100, .int x1, .int x2] f 20) {bc bs : Nat} {Q : aQ} (hq : Q (.inl (some (.int (N 2)))) (hk (zK K) f)) : wpM aft anf apr (d + 1) 30 [.ref 100, .int x1, .int x2, .ref 202] (hk K f) (bc + 1) (bs + 6) Q := by
  refine eh_then (n := 999) ?_
  refine And.intro rfl ?_
  refine callth h rfl (t := 13) (x := 4) rfl rfl ?_
  exact ⟨trivial, hq⟩
theorem eh_stand {x1 x2 x3 : Int32} {n bc bs : Nat} {Q : aQ} (hw : wpL aft anf (wpM aft anf apr d) (some .int) pP_SnowCantonLaw_stand [(0, 9, 11, 5, 21), (0, 9, 14, 5, 20)] n 0 [.ref 100, .int x1, .int x2, .int x3, .ref 202, .null] [] (hk K f) bc bs Q) : wpM aft anf apr (d + 1) 32 [.ref 100, .int x1, .int x2, .int x3, .ref 202] (hk K f) bc bs Q := wpM_in (M := pM_SnowCantonLaw_stand) rfl (Nat.le_of_ble_eq_true rfl) hw
theorem lv_stand {x1 x2 x3 v : Int32} (h : Sp K d k_SnowCanton_stand [.ref 100, .int x1, .int x2, .int x3] f (isR v (fun f' => CI f' w1 ∧ Cl f f'))) {bc bs : Nat} {Q : aQ} (hq : ∀ f', CI f' w1 → Cl f f' → Q (.inl (some (.int (N 0)))) (hk (lK K v) f')) : wpM aft anf apr (d + 1) 32 [.ref 100, .int x1, .int x2, .int x3, .ref 202] (hk K f) bc bs Q := by
  refine eh_stand (n := 999) ?_
  refine And.intro rfl ?_
  refine callxq h rfl ?_
  rintro v1 f1 ⟨rfl, ci, cl⟩
  refine And.intro (And.intro rfl (N_in2 (k := 0) rfl (show 0 < 1 from by decide) (show 1 < 2147483648 from by decide))) ?_
  refine wp_more (hd := 9) (m := 99) (L := [.ref 100, .int x1, .int x2, .int x3, .ref 202, .null]) (S := []) (h := hk (lK K v) f1) ?_ (Nat.le_of_ble_eq_true rfl) rfl rfl lK_set
  exact ⟨trivial, hq f1 ci cl⟩
theorem lt_stand_21 {x1 x2 x3 : Int32} (h : St K d k_SnowCanton_stand [.ref 100, .int x1, .int x2, .int x3] f 21) {bc bs : Nat} {Q : aQ} (hq : Q (.inl (some (.int (N 1)))) (hk (zK K) f)) : wpM aft anf apr (d + 1) 32 [.ref 100, .int x1, .int x2, .int x3, .ref 202] (hk K f) (bc + 1) (bs + 6) Q := by
  refine eh_stand (n := 999) ?_
  refine And.intro rfl ?_
  refine callth h rfl (t := 11) (x := 5) rfl rfl ?_
  exact ⟨trivial, hq⟩
theorem lt_stand_20 {x1 x2 x3 : Int32} (h : St K d k_SnowCanton_stand [.ref 100, .int x1, .int x2, .int x3] f 20) {bc bs : Nat} {Q : aQ} (hq : Q (.inl (some (.int (N 2)))) (hk (zK K) f)) : wpM aft anf apr (d + 1) 32 [.ref 100, .int x1, .int x2, .int x3, .ref 202] (hk K f) (bc + 1) (bs + 6) Q := by
  refine eh_stand (n := 999) ?_
  refine And.intro rfl ?_
  refine callth h rfl (t := 14) (x := 5) rfl rfl ?_
  exact ⟨trivial, hq⟩
theorem eh_covered {x1 : Int32} {n bc bs : Nat} {Q : aQ} (hw : wpL aft anf (wpM aft anf apr d) (some .int) pP_SnowCantonLaw_covered [(0, 7, 9, 3, 21)] n 0 [.ref 100, .int x1, .ref 202, .null] [] (hk K f) bc bs Q) : wpM aft anf apr (d + 1) 34 [.ref 100, .int x1, .ref 202] (hk K f) bc bs Q := wpM_in (M := pM_SnowCantonLaw_covered) rfl (Nat.le_of_ble_eq_true rfl) hw
theorem lv_covered {x1 v : Int32} (h : Sp K d k_SnowCanton_covered [.ref 100, .int x1] f (isR v (fun f' => CI f' w1 ∧ Cl f f'))) {bc bs : Nat} {Q : aQ} (hq : ∀ f', CI f' w1 → Cl f f' → Q (.inl (some (.int (N 0)))) (hk (lK K v) f')) : wpM aft anf apr (d + 1) 34 [.ref 100, .int x1, .ref 202] (hk K f) bc bs Q := by
  refine eh_covered (n := 999) ?_
  refine And.intro rfl ?_
  refine callxq h rfl ?_
  rintro v1 f1 ⟨rfl, ci, cl⟩
  refine And.intro (And.intro rfl (N_in2 (k := 0) rfl (show 0 < 1 from by decide) (show 1 < 2147483648 from by decide))) ?_
  refine wp_more (hd := 7) (m := 99) (L := [.ref 100, .int x1, .ref 202, .null]) (S := []) (h := hk (lK K v) f1) ?_ (Nat.le_of_ble_eq_true rfl) rfl rfl lK_set
  exact ⟨trivial, hq f1 ci cl⟩
theorem lt_covered_21 {x1 : Int32} (h : St K d k_SnowCanton_covered [.ref 100, .int x1] f 21) {bc bs : Nat} {Q : aQ} (hq : Q (.inl (some (.int (N 1)))) (hk (zK K) f)) : wpM aft anf apr (d + 1) 34 [.ref 100, .int x1, .ref 202] (hk K f) (bc + 1) (bs + 6) Q := by
  refine eh_covered (n := 999) ?_
  refine And.intro rfl ?_
  refine callth h rfl (t := 9) (x := 3) rfl rfl ?_
  exact ⟨trivial, hq⟩
theorem eh_coming {x1 x2 : Int32} {n bc bs : Nat} {Q : aQ} (hw : wpL aft anf (wpM aft anf apr d) (some .int) pP_SnowCantonLaw_coming [(0, 8, 10, 4, 21), (0, 8, 13, 4, 20)] n 0 [.ref 100, .int x1, .int x2, .ref 202, .null] [] (hk K f) bc bs Q) : wpM aft anf apr (d + 1) 36 [.ref 100, .int x1, .int x2, .ref 202] (hk K f) bc bs Q := wpM_in (M := pM_SnowCantonLaw_coming) rfl (Nat.le_of_ble_eq_true rfl) hw
theorem lv_coming {x1 x2 v : Int32} (h : Sp K d k_SnowCanton_coming [.ref 100, .int x1, .int x2] f (isR v (fun f' => CI f' w1 ∧ Cl f f'))) {bc bs : Nat} {Q : aQ} (hq : ∀ f', CI f' w1 → Cl f f' → Q (.inl (some (.int (N 0)))) (hk (lK K v) f')) : wpM aft anf apr (d + 1) 36 [.ref 100, .int x1, .int x2, .ref 202] (hk K f) bc bs Q := by
  refine eh_coming (n := 999) ?_
  refine And.intro rfl ?_
  refine callxq h rfl ?_
  rintro v1 f1 ⟨rfl, ci, cl⟩
  refine And.intro (And.intro rfl (N_in2 (k := 0) rfl (show 0 < 1 from by decide) (show 1 < 2147483648 from by decide))) ?_
  refine wp_more (hd := 8) (m := 99) (L := [.ref 100, .int x1, .int x2, .ref 202, .null]) (S := []) (h := hk (lK K v) f1) ?_ (Nat.le_of_ble_eq_true rfl) rfl rfl lK_set
  exact ⟨trivial, hq f1 ci cl⟩
theorem lt_coming_21 {x1 x2 : Int32} (h : St K d k_SnowCanton_coming [.ref 100, .int x1, .int x2] f 21) {bc bs : Nat} {Q : aQ} (hq : Q (.inl (some (.int (N 1)))) (hk (zK K) f)) : wpM aft anf apr (d + 1) 36 [.ref 100, .int x1, .int x2, .ref 202] (hk K f) (bc + 1) (bs + 6) Q := by
  refine eh_coming (n := 999) ?_
  refine And.intro rfl ?_
  refine callth h rfl (t := 10) (x := 4) rfl rfl ?_
  exact ⟨trivial, hq⟩
theorem lt_coming_20 {x1 x2 : Int32} (h : St K d k_SnowCanton_coming [.ref 100, .int x1, .int x2] f 20) {bc bs : Nat} {Q : aQ} (hq : Q (.inl (some (.int (N 2)))) (hk (zK K) f)) : wpM aft anf apr (d + 1) 36 [.ref 100, .int x1, .int x2, .ref 202] (hk K f) (bc + 1) (bs + 6) Q := by
  refine eh_coming (n := 999) ?_
  refine And.intro rfl ?_
  refine callth h rfl (t := 13) (x := 4) rfl rfl ?_
  exact ⟨trivial, hq⟩
theorem eh_row {x1 x2 x3 : Int32} {n bc bs : Nat} {Q : aQ} (hw : wpL aft anf (wpM aft anf apr d) (some .int) pP_SnowCantonLaw_row [(0, 9, 11, 5, 21), (0, 9, 14, 5, 20)] n 0 [.ref 100, .int x1, .int x2, .int x3, .ref 202, .null] [] (hk K f) bc bs Q) : wpM aft anf apr (d + 1) 38 [.ref 100, .int x1, .int x2, .int x3, .ref 202] (hk K f) bc bs Q := wpM_in (M := pM_SnowCantonLaw_row) rfl (Nat.le_of_ble_eq_true rfl) hw
theorem lv_row {x1 x2 x3 v : Int32} (h : Sp K d k_SnowCanton_row [.ref 100, .int x1, .int x2, .int x3] f (isR v (fun f' => CI f' w1 ∧ Cl f f'))) {bc bs : Nat} {Q : aQ} (hq : ∀ f', CI f' w1 → Cl f f' → Q (.inl (some (.int (N 0)))) (hk (lK K v) f')) : wpM aft anf apr (d + 1) 38 [.ref 100, .int x1, .int x2, .int x3, .ref 202] (hk K f) bc bs Q := by
  refine eh_row (n := 999) ?_
  refine And.intro rfl ?_
  refine callxq h rfl ?_
  rintro v1 f1 ⟨rfl, ci, cl⟩
  refine And.intro (And.intro rfl (N_in2 (k := 0) rfl (show 0 < 1 from by decide) (show 1 < 2147483648 from by decide))) ?_
  refine wp_more (hd := 9) (m := 99) (L := [.ref 100, .int x1, .int x2, .int x3, .ref 202, .null]) (S := []) (h := hk (lK K v) f1) ?_ (Nat.le_of_ble_eq_true rfl) rfl rfl lK_set
  exact ⟨trivial, hq f1 ci cl⟩
theorem lt_row_21 {x1 x2 x3 : Int32} (h : St K d k_SnowCanton_row [.ref 100, .int x1, .int x2, .int x3] f 21) {bc bs : Nat} {Q : aQ} (hq : Q (.inl (some (.int (N 1)))) (hk (zK K) f)) : wpM aft anf apr (d + 1) 38 [.ref 100, .int x1, .int x2, .int x3, .ref 202] (hk K f) (bc + 1) (bs + 6) Q := by
  refine eh_row (n := 999) ?_
  refine And.intro rfl ?_
  refine callth h rfl (t := 11) (x := 5) rfl rfl ?_
  exact ⟨trivial, hq⟩
theorem lt_row_20 {x1 x2 x3 : Int32} (h : St K d k_SnowCanton_row [.ref 100, .int x1, .int x2, .int x3] f 20) {bc bs : Nat} {Q : aQ} (hq : Q (.inl (some (.int (N 2)))) (hk (zK K) f)) : wpM aft anf apr (d + 1) 38 [.ref 100, .int x1, .int x2, .int x3, .ref 202] (hk K f) (bc + 1) (bs + 6) Q := by
  refine eh_row (n := 999) ?_
  refine And.intro rfl ?_
  refine callth h rfl (t := 14) (x := 5) rfl rfl ?_
  exact ⟨trivial, hq⟩
theorem eh_heir {x1 x2 : Int32} {n bc bs : Nat} {Q : aQ} (hw : wpL aft anf (wpM aft anf apr d) (some .int) pP_SnowCantonLaw_heir [(0, 8, 10, 4, 21), (0, 8, 13, 4, 20)] n 0 [.ref 100, .int x1, .int x2, .ref 202, .null] [] (hk K f) bc bs Q) : wpM aft anf apr (d + 1) 40 [.ref 100, .int x1, .int x2, .ref 202] (hk K f) bc bs Q := wpM_in (M := pM_SnowCantonLaw_heir) rfl (Nat.le_of_ble_eq_true rfl) hw
theorem lv_heir {x1 x2 v : Int32} (h : Sp K d k_SnowCanton_heir [.ref 100, .int x1, .int x2] f (isR v (fun f' => CI f' w1 ∧ Cl f f'))) {bc bs : Nat} {Q : aQ} (hq : ∀ f', CI f' w1 → Cl f f' → Q (.inl (some (.int (N 0)))) (hk (lK K v) f')) : wpM aft anf apr (d + 1) 40 [.ref 100, .int x1, .int x2, .ref 202] (hk K f) bc bs Q := by
  refine eh_heir (n := 999) ?_
  refine And.intro rfl ?_
  refine callxq h rfl ?_
  rintro v1 f1 ⟨rfl, ci, cl⟩
  refine And.intro (And.intro rfl (N_in2 (k := 0) rfl (show 0 < 1 from by decide) (show 1 < 2147483648 from by decide))) ?_
  refine wp_more (hd := 8) (m := 99) (L := [.ref 100, .int x1, .int x2, .ref 202, .null]) (S := []) (h := hk (lK K v) f1) ?_ (Nat.le_of_ble_eq_true rfl) rfl rfl lK_set
  exact ⟨trivial, hq f1 ci cl⟩
theorem lt_heir_21 {x1 x2 : Int32} (h : St K d k_SnowCanton_heir [.ref 100, .int x1, .int x2] f 21) {bc bs : Nat} {Q : aQ} (hq : Q (.inl (some (.int (N 1)))) (hk (zK K) f)) : wpM aft anf apr (d + 1) 40 [.ref 100, .int x1, .int x2, .ref 202] (hk K f) (bc + 1) (bs + 6) Q := by
  refine eh_heir (n := 999) ?_
  refine And.intro rfl ?_
  refine callth h rfl (t := 10) (x := 4) rfl rfl ?_
  exact ⟨trivial, hq⟩
theorem lt_heir_20 {x1 x2 : Int32} (h : St K d k_SnowCanton_heir [.ref 100, .int x1, .int x2] f 20) {bc bs : Nat} {Q : aQ} (hq : Q (.inl (some (.int (N 2)))) (hk (zK K) f)) : wpM aft anf apr (d + 1) 40 [.ref 100, .int x1, .int x2, .ref 202] (hk K f) (bc + 1) (bs + 6) Q := by
  refine eh_heir (n := 999) ?_
  refine And.intro rfl ?_
  refine callth h rfl (t := 13) (x := 4) rfl rfl ?_
  exact ⟨trivial, hq⟩
theorem eh_see {x1 x2 x3 : Int32} {n bc bs : Nat} {Q : aQ} (hw : wpL aft anf (wpM aft anf apr d) (some .int) pP_SnowCantonLaw_see [(0, 9, 11, 5, 21)] n 0 [.ref 100, .int x1, .int x2, .int x3, .ref 202, .null] [] (hk K f) bc bs Q) : wpM aft anf apr (d + 1) 42 [.ref 100, .int x1, .int x2, .int x3, .ref 202] (hk K f) bc bs Q := wpM_in (M := pM_SnowCantonLaw_see) rfl (Nat.le_of_ble_eq_true rfl) hw
theorem lv_see {x1 x2 x3 v : Int32} (h : Sp K d k_SnowCanton_see [.ref 100, .int x1, .int x2, .int x3] f (isR v (fun f' => CI f' w1 ∧ Cl f f'))) {bc bs : Nat} {Q : aQ} (hq : ∀ f', CI f' w1 → Cl f f' → Q (.inl (some (.int (N 0)))) (hk (lK K v) f')) : wpM aft anf apr (d + 1) 42 [.ref 100, .int x1, .int x2, .int x3, .ref 202] (hk K f) bc bs Q := by
  refine eh_see (n := 999) ?_
  refine And.intro rfl ?_
  refine callxq h rfl ?_
  rintro v1 f1 ⟨rfl, ci, cl⟩
  refine And.intro (And.intro rfl (N_in2 (k := 0) rfl (show 0 < 1 from by decide) (show 1 < 2147483648 from by decide))) ?_
  refine wp_more (hd := 9) (m := 99) (L := [.ref 100, .int x1, .int x2, .int x3, .ref 202, .null]) (S := []) (h := hk (lK K v) f1) ?_ (Nat.le_of_ble_eq_true rfl) rfl rfl lK_set
  exact ⟨trivial, hq f1 ci cl⟩
theorem lt_see_21 {x1 x2 x3 : Int32} (h : St K d k_SnowCanton_see [.ref 100, .int x1, .int x2, .int x3] f 21) {bc bs : Nat} {Q : aQ} (hq : Q (.inl (some (.int (N 1)))) (hk (zK K) f)) : wpM aft anf apr (d + 1) 42 [.ref 100, .int x1, .int x2, .int x3, .ref 202] (hk K f) (bc + 1) (bs + 6) Q := by
  refine eh_see (n := 999) ?_
  refine And.intro rfl ?_
  refine callth h rfl (t := 11) (x := 5) rfl rfl ?_
  exact ⟨trivial, hq⟩
theorem eh_hat {x1 : Int32} {n bc bs : Nat} {Q : aQ} (hw : wpL aft anf (wpM aft anf apr d) (some .int) pP_SnowCantonLaw_hat [(0, 7, 9, 3, 21)] n 0 [.ref 100, .int x1, .ref 202, .null] [] (hk K f) bc bs Q) : wpM aft anf apr (d + 1) 44 [.ref 100, .int x1, .ref 202] (hk K f) bc bs Q := wpM_in (M := pM_SnowCantonLaw_hat) rfl (Nat.le_of_ble_eq_true rfl) hw
theorem lv_hat {x1 v : Int32} (h : Sp K d k_SnowCanton_hat [.ref 100, .int x1] f (isR v (fun f' => CI f' w1 ∧ Cl f f'))) {bc bs : Nat} {Q : aQ} (hq : ∀ f', CI f' w1 → Cl f f' → Q (.inl (some (.int (N 0)))) (hk (lK K v) f')) : wpM aft anf apr (d + 1) 44 [.ref 100, .int x1, .ref 202] (hk K f) bc bs Q := by
  refine eh_hat (n := 999) ?_
  refine And.intro rfl ?_
  refine callxq h rfl ?_
  rintro v1 f1 ⟨rfl, ci, cl⟩
  refine And.intro (And.intro rfl (N_in2 (k := 0) rfl (show 0 < 1 from by decide) (show 1 < 2147483648 from by decide))) ?_
  refine wp_more (hd := 7) (m := 99) (L := [.ref 100, .int x1, .ref 202, .null]) (S := []) (h := hk (lK K v) f1) ?_ (Nat.le_of_ble_eq_true rfl) rfl rfl lK_set
  exact ⟨trivial, hq f1 ci cl⟩
theorem lt_hat_21 {x1 : Int32} (h : St K d k_SnowCanton_hat [.ref 100, .int x1] f 21) {bc bs : Nat} {Q : aQ} (hq : Q (.inl (some (.int (N 1)))) (hk (zK K) f)) : wpM aft anf apr (d + 1) 44 [.ref 100, .int x1, .ref 202] (hk K f) (bc + 1) (bs + 6) Q := by
  refine eh_hat (n := 999) ?_
  refine And.intro rfl ?_
  refine callth h rfl (t := 9) (x := 3) rfl rfl ?_
  exact ⟨trivial, hq⟩
theorem eh_look {x1 : Int32} {n bc bs : Nat} {Q : aQ} (hw : wpL aft anf (wpM aft anf apr d) (some .int) pP_SnowCantonLaw_look [(0, 7, 9, 3, 21)] n 0 [.ref 100, .int x1, .ref 202, .null] [] (hk K f) bc bs Q) : wpM aft anf apr (d + 1) 46 [.ref 100, .int x1, .ref 202] (hk K f) bc bs Q := wpM_in (M := pM_SnowCantonLaw_look) rfl (Nat.le_of_ble_eq_true rfl) hw
theorem lv_look {x1 v : Int32} (h : Sp K d k_SnowCanton_look [.ref 100, .int x1] f (isR v (fun f' => CI f' w1 ∧ Cl f f'))) {bc bs : Nat} {Q : aQ} (hq : ∀ f', CI f' w1 → Cl f f' → Q (.inl (some (.int (N 0)))) (hk (lK K v) f')) : wpM aft anf apr (d + 1) 46 [.ref 100, .int x1, .ref 202] (hk K f) bc bs Q := by
  refine eh_look (n := 999) ?_
  refine And.intro rfl ?_
  refine callxq h rfl ?_
  rintro v1 f1 ⟨rfl, ci, cl⟩
  refine And.intro (And.intro rfl (N_in2 (k := 0) rfl (show 0 < 1 from by decide) (show 1 < 2147483648 from by decide))) ?_
  refine wp_more (hd := 7) (m := 99) (L := [.ref 100, .int x1, .ref 202, .null]) (S := []) (h := hk (lK K v) f1) ?_ (Nat.le_of_ble_eq_true rfl) rfl rfl lK_set
  exact ⟨trivial, hq f1 ci cl⟩
theorem lt_look_21 {x1 : Int32} (h : St K d k_SnowCanton_look [.ref 100, .int x1] f 21) {bc bs : Nat} {Q : aQ} (hq : Q (.inl (some (.int (N 1)))) (hk (zK K) f)) : wpM aft anf apr (d + 1) 46 [.ref 100, .int x1, .ref 202] (hk K f) (bc + 1) (bs + 6) Q := by
  refine eh_look (n := 999) ?_
  refine And.intro rfl ?_
  refine callth h rfl (t := 9) (x := 3) rfl rfl ?_
  exact ⟨trivial, hq⟩
theorem eh_game {x1 x2 x3 x4 : Int32} {n bc bs : Nat} {Q : aQ} (hw : wpL aft anf (wpM aft anf apr d) (some .int) pP_SnowCantonLaw_game [(0, 10, 12, 6, 21), (0, 10, 15, 6, 20)] n 0 [.ref 100, .int x1, .int x2, .int x3, .int x4, .ref 202, .null] [] (hk K f) bc bs Q) : wpM aft anf apr (d + 1) 52 [.ref 100, .int x1, .int x2, .int x3, .int x4, .ref 202] (hk K f) bc bs Q := wpM_in (M := pM_SnowCantonLaw_game) rfl (Nat.le_of_ble_eq_true rfl) hw
theorem lv_game {x1 x2 x3 x4 v : Int32} (h : Sp K d k_SnowCanton_game [.ref 100, .int x1, .int x2, .int x3, .int x4] f (isR v (fun f' => CI f' w1 ∧ Cl f f'))) {bc bs : Nat} {Q : aQ} (hq : ∀ f', CI f' w1 → Cl f f' → Q (.inl (some (.int (N 0)))) (hk (lK K v) f')) : wpM aft anf apr (d + 1) 52 [.ref 100, .int x1, .int x2, .int x3, .int x4, .ref 202] (hk K f) bc bs Q := by
  refine eh_game (n := 999) ?_
  refine And.intro rfl ?_
  refine callxq h rfl ?_
  rintro v1 f1 ⟨rfl, ci, cl⟩
  refine And.intro (And.intro rfl (N_in2 (k := 0) rfl (show 0 < 1 from by decide) (show 1 < 2147483648 from by decide))) ?_
  refine wp_more (hd := 10) (m := 99) (L := [.ref 100, .int x1, .int x2, .int x3, .int x4, .ref 202, .null]) (S := []) (h := hk (lK K v) f1) ?_ (Nat.le_of_ble_eq_true rfl) rfl rfl lK_set
  exact ⟨trivial, hq f1 ci cl⟩
theorem lt_game_21 {x1 x2 x3 x4 : Int32} (h : St K d k_SnowCanton_game [.ref 100, .int x1, .int x2, .int x3, .int x4] f 21) {bc bs : Nat} {Q : aQ} (hq : Q (.inl (some (.int (N 1)))) (hk (zK K) f)) : wpM aft anf apr (d + 1) 52 [.ref 100, .int x1, .int x2, .int x3, .int x4, .ref 202] (hk K f) (bc + 1) (bs + 6) Q := by
  refine eh_game (n := 999) ?_
  refine And.intro rfl ?_
  refine callth h rfl (t := 12) (x := 6) rfl rfl ?_
  exact ⟨trivial, hq⟩
theorem lt_game_20 {x1 x2 x3 x4 : Int32} (h : St K d k_SnowCanton_game [.ref 100, .int x1, .int x2, .int x3, .int x4] f 20) {bc bs : Nat} {Q : aQ} (hq : Q (.inl (some (.int (N 2)))) (hk (zK K) f)) : wpM aft anf apr (d + 1) 52 [.ref 100, .int x1, .int x2, .int x3, .int x4, .ref 202] (hk K f) (bc + 1) (bs + 6) Q := by
  refine eh_game (n := 999) ?_
  refine And.intro rfl ?_
  refine callth h rfl (t := 15) (x := 6) rfl rfl ?_
  exact ⟨trivial, hq⟩
theorem eh_winter {x1 x2 x3 : Int32} {n bc bs : Nat} {Q : aQ} (hw : wpL aft anf (wpM aft anf apr d) (some .int) pP_SnowCantonLaw_winter [(0, 9, 11, 5, 21), (0, 9, 14, 5, 20)] n 0 [.ref 100, .int x1, .int x2, .int x3, .ref 202, .null] [] (hk K f) bc bs Q) : wpM aft anf apr (d + 1) 54 [.ref 100, .int x1, .int x2, .int x3, .ref 202] (hk K f) bc bs Q := wpM_in (M := pM_SnowCantonLaw_winter) rfl (Nat.le_of_ble_eq_true rfl) hw
theorem lv_winter {x1 x2 x3 v : Int32} (h : Sp K d k_SnowCanton_winter [.ref 100, .int x1, .int x2, .int x3] f (isR v (fun f' => CI f' w1 ∧ Cl f f'))) {bc bs : Nat} {Q : aQ} (hq : ∀ f', CI f' w1 → Cl f f' → Q (.inl (some (.int (N 0)))) (hk (lK K v) f')) : wpM aft anf apr (d + 1) 54 [.ref 100, .int x1, .int x2, .int x3, .ref 202] (hk K f) bc bs Q := by
  refine eh_winter (n := 999) ?_
  refine And.intro rfl ?_
  refine callxq h rfl ?_
  rintro v1 f1 ⟨rfl, ci, cl⟩
  refine And.intro (And.intro rfl (N_in2 (k := 0) rfl (show 0 < 1 from by decide) (show 1 < 2147483648 from by decide))) ?_
  refine wp_more (hd := 9) (m := 99) (L := [.ref 100, .int x1, .int x2, .int x3, .ref 202, .null]) (S := []) (h := hk (lK K v) f1) ?_ (Nat.le_of_ble_eq_true rfl) rfl rfl lK_set
  exact ⟨trivial, hq f1 ci cl⟩
theorem lt_winter_21 {x1 x2 x3 : Int32} (h : St K d k_SnowCanton_winter [.ref 100, .int x1, .int x2, .int x3] f 21) {bc bs : Nat} {Q : aQ} (hq : Q (.inl (some (.int (N 1)))) (hk (zK K) f)) : wpM aft anf apr (d + 1) 54 [.ref 100, .int x1, .int x2, .int x3, .ref 202] (hk K f) (bc + 1) (bs + 6) Q := by
  refine eh_winter (n := 999) ?_
  refine And.intro rfl ?_
  refine callth h rfl (t := 11) (x := 5) rfl rfl ?_
  exact ⟨trivial, hq⟩
theorem lt_winter_20 {x1 x2 x3 : Int32} (h : St K d k_SnowCanton_winter [.ref 100, .int x1, .int x2, .int x3] f 20) {bc bs : Nat} {Q : aQ} (hq : Q (.inl (some (.int (N 2)))) (hk (zK K) f)) : wpM aft anf apr (d + 1) 54 [.ref 100, .int x1, .int x2, .int x3, .ref 202] (hk K f) (bc + 1) (bs + 6) Q := by
  refine eh_winter (n := 999) ?_
  refine And.intro rfl ?_
  refine callth h rfl (t := 14) (x := 5) rfl rfl ?_
  exact ⟨trivial, hq⟩
/-! what holds between two calls -/
def WI (xs : Nat → Int32) (f : HF) (w : WD) : Prop := okW w ∧ CI f w ∧ MI f w ∧ BI xs f
theorem MI.cl (mi : MI f w) (h : Cl f f1) : MI f1 w := by
  have e : ∀ a, 161 ≤ a → f1 a = f a := fun a ha => h a (Or.inl ha)
  unfold MI MR MS
  rw [e 161 (by decide), e 164 (by decide), e 165 (by decide), e 166 (by decide), e 167 (by decide), e 168 (by decide), e 169 (by decide), e 170 (by decide), e 171 (by decide), e 172 (by decide), e 173 (by decide), e 174 (by decide), e 175 (by decide), e 176 (by decide), e 177 (by decide), e 178 (by decide), e 179 (by decide), e 188 (by decide), e 189 (by decide), e 190 (by decide), e 196 (by decide), e 197 (by decide), e 198 (by decide), e 199 (by decide), e 200 (by decide), e 201 (by decide)]
  exact mi
theorem CI.mo (ci : CI f w) (h : Mo f f1) : CI f1 w := by
  have e : ∀ a, a < 161 → f1 a = f a := h
  obtain ⟨k1, k2, k3, k4, k5, k6, k7, k8⟩ := ci
  refine ⟨?_, ?_, by rw [e 100 (by decide)]; exact k3, by rw [e 100 (by decide)]; exact k4, by rw [e 101 (by decide)]; exact k5, by rw [e 1 (by decide)]; exact k6, by rw [e 100 (by decide)]; exact k7, fun m hm => ?_⟩
  · unfold CR
    rw [e 102 (by decide), e 103 (by decide), e 104 (by decide), e 105 (by decide), e 106 (by decide), e 107 (by decide), e 108 (by decide), e 109 (by decide), e 110 (by decide), e 111 (by decide)]
    exact k1
  · show NRr (wq_g w) (f1 136) (f1 128) (f1 129) (f1 130) (f1 131) (f1 132) (f1 133) (f1 134) (wq_n w)
    rw [e 136 (by decide), e 128 (by decide), e 129 (by decide), e 130 (by decide), e 131 (by decide), e 132 (by decide), e 133 (by decide), e 134 (by decide)]
    exact k2
  · have := k8 m hm
    refine ⟨by rw [e 100 (by decide)]; exact this.1, ?_⟩
    show NRr (wq_g w) (f1 146) (f1 138) (f1 139) (f1 140) (f1 141) (f1 142) (f1 143) (f1 144) m
    rw [e 146 (by decide), e 138 (by decide), e 139 (by decide), e 140 (by decide), e 141 (by decide), e 142 (by decide), e 143 (by decide), e 144 (by decide)]
    exact this.2
theorem BI.cl (hb : BI xs f) (h : Cl f f1) : BI xs f1 := fun a ha => by rw [h a (Or.inr ha)]; exact hb a ha
theorem BI.mo (hb : BI xs f) (h : Mo f f1) : BI xs f1 := fun a ha => by rw [h a (by omega)]; exact hb a ha
theorem BI.s0 (hb : BI xs f) : f 0 = xs := hb 0 (by decide)
theorem th_canton {x1 : Int32} {E : Nat} : (cnD w x1).1 = .inr E → (E = 20) ∧ (cnD w x1).2 = w := by
  unfold cnD
  intro h
  repeat' (first | (cases h; done) | (cases h; first | exact rfl | exact Or.inl rfl | exact Or.inr rfl | exact ⟨rfl, rfl⟩) | split at h)
theorem th_count {x1 : Int32} {E : Nat} : cntD w x1 = .inr E → E = 21 := by
  unfold cntD
  intro h
  repeat' (first | (cases h; done) | (cases h; first | exact rfl | exact Or.inl rfl | exact Or.inr rfl | exact ⟨rfl, rfl⟩) | split at h)
theorem th_cell {x1 x2 : Int32} {E : Nat} : celD w x1 x2 = .inr E → E = 21 := by
  unfold celD
  intro h
  repeat' (first | (cases h; done) | (cases h; first | exact rfl | exact Or.inl rfl | exact Or.inr rfl | exact ⟨rfl, rfl⟩) | split at h)
theorem th_person {x1 x2 : Int32} {E : Nat} : perD w x1 x2 = .inr E → E = 21 := by
  unfold perD
  intro h
  repeat' (first | (cases h; done) | (cases h; first | exact rfl | exact Or.inl rfl | exact Or.inr rfl | exact ⟨rfl, rfl⟩) | split at h)
theorem th_walk {x1 x2 : Int32} {E : Nat} : (wlkD w x1 x2).1 = .inr E → (E = 21) ∧ (wlkD w x1 x2).2 = w := by
  unfold wlkD
  intro h
  repeat' (first | (cases h; done) | (cases h; first | exact rfl | exact Or.inl rfl | exact Or.inr rfl | exact ⟨rfl, rfl⟩) | split at h)
theorem th_push {x1 x2 : Int32} {E : Nat} : (pshD w x1 x2).1 = .inr E → (E = 21) ∧ (pshD w x1 x2).2 = w := by
  unfold pshD
  intro h
  repeat' (first | (cases h; done) | (cases h; first | exact rfl | exact Or.inl rfl | exact Or.inr rfl | exact ⟨rfl, rfl⟩) | split at h)
theorem th_trespass {x1 x2 x3 : Int32} {E : Nat} : trsD w x1 x2 x3 = .inr E → E = 21 := by
  unfold trsD
  intro h
  repeat' (first | (cases h; done) | (cases h; first | exact rfl | exact Or.inl rfl | exact Or.inr rfl | exact ⟨rfl, rfl⟩) | split at h)
theorem th_then {x1 x2 : Int32} {E : Nat} : thnD w x1 x2 = .inr E → E = 21 ∨ E = 20 := by
  unfold thnD
  intro h
  repeat' (first | (cases h; done) | (cases h; first | exact rfl | exact Or.inl rfl | exact Or.inr rfl | exact ⟨rfl, rfl⟩) | split at h)
theorem th_stand {x1 x2 x3 : Int32} {E : Nat} : stdD w x1 x2 x3 = .inr E → E = 21 ∨ E = 20 := by
  unfold stdD
  intro h
  repeat' (first | (cases h; done) | (cases h; first | exact rfl | exact Or.inl rfl | exact Or.inr rfl | exact ⟨rfl, rfl⟩) | split at h)
theorem th_covered {x1 : Int32} {E : Nat} : covD w x1 = .inr E → E = 21 := by
  unfold covD
  intro h
  repeat' (first | (cases h; done) | (cases h; first | exact rfl | exact Or.inl rfl | exact Or.inr rfl | exact ⟨rfl, rfl⟩) | split at h)
theorem th_coming {x1 x2 : Int32} {E : Nat} : comD w x1 x2 = .inr E → E = 21 ∨ E = 20 := by
  unfold comD
  intro h
  repeat' (first | (cases h; done) | (cases h; first | exact rfl | exact Or.inl rfl | exact Or.inr rfl | exact ⟨rfl, rfl⟩) | split at h)
theorem th_row {x1 x2 x3 : Int32} {E : Nat} : rowD w x1 x2 x3 = .inr E → E = 21 ∨ E = 20 := by
  unfold rowD
  intro h
  repeat' (first | (cases h; done) | (cases h; first | exact rfl | exact Or.inl rfl | exact Or.inr rfl | exact ⟨rfl, rfl⟩) | split at h)
theorem th_heir {x1 x2 : Int32} {E : Nat} : heiD w x1 x2 = .inr E → E = 21 ∨ E = 20 := by
  unfold heiD
  intro h
  repeat' (first | (cases h; done) | (cases h; first | exact rfl | exact Or.inl rfl | exact Or.inr rfl | exact ⟨rfl, rfl⟩) | split at h)
theorem th_see {x1 x2 x3 : Int32} {E : Nat} : (seeD w x1 x2 x3).1 = .inr E → (E = 21) ∧ (seeD w x1 x2 x3).2 = w := by
  unfold seeD
  intro h
  repeat' (first | (cases h; done) | (cases h; first | exact rfl | exact Or.inl rfl | exact Or.inr rfl | exact ⟨rfl, rfl⟩) | split at h)
theorem th_hat {x1 : Int32} {E : Nat} : hatD w x1 = .inr E → E = 21 := by
  unfold hatD
  intro h
  repeat' (first | (cases h; done) | (cases h; first | exact rfl | exact Or.inl rfl | exact Or.inr rfl | exact ⟨rfl, rfl⟩) | split at h)
theorem th_look {x1 : Int32} {E : Nat} : lookD w x1 = .inr E → E = 21 := by
  unfold lookD
  intro h
  repeat' (first | (cases h; done) | (cases h; first | exact rfl | exact Or.inl rfl | exact Or.inr rfl | exact ⟨rfl, rfl⟩) | split at h)
theorem th_game {x1 x2 x3 x4 : Int32} {E : Nat} : gamD w x1 x2 x3 x4 = .inr E → E = 21 ∨ E = 20 := by
  unfold gamD
  intro h
  repeat' (first | (cases h; done) | (cases h; first | exact rfl | exact Or.inl rfl | exact Or.inr rfl | exact ⟨rfl, rfl⟩) | split at h)
theorem th_winter {x1 x2 x3 : Int32} {E : Nat} : winD w x1 x2 x3 = .inr E → E = 21 ∨ E = 20 := by
  unfold winD
  intro h
  repeat' (first | (cases h; done) | (cases h; first | exact rfl | exact Or.inl rfl | exact Or.inr rfl | exact ⟨rfl, rfl⟩) | split at h)
theorem in_hours {x1 : Int32} : ∃ v, (hrsD w x1).1 = .inl v := by
  unfold hrsD
  repeat' (first | exact ⟨_, rfl⟩ | split)
theorem in_wind {x1 : Int32} : ∃ v, (wndD w x1).1 = .inl v := by
  unfold wndD
  repeat' (first | exact ⟨_, rfl⟩ | split)
theorem in_thaw {x1 : Int32} : ∃ v, (thwD w x1).1 = .inl v := by
  unfold thwD
  repeat' (first | exact ⟨_, rfl⟩ | split)
theorem in_undo : ∃ v, (undD w ).1 = .inl v := by
  unfold undD
  repeat' (first | exact ⟨_, rfl⟩ | split)
theorem in_restore : ∃ v, (rstD w ).1 = .inl v := by
  unfold rstD
  repeat' (first | exact ⟨_, rfl⟩ | split)
theorem in_feed {x1 x2 x3 x4 x5 : Int32} : ∃ v, (fedD w x1 x2 x3 x4 x5).1 = .inl v := by
  unfold fedD
  repeat' (first | exact ⟨_, rfl⟩ | split)
end
