set_option maxHeartbeats 400000
/-! THE LAW SAYS 1 -/
section
variable {L : Nat} {xs : Nat → Int32} {r0 : Option Nat}
theorem gd_0 : gdC ([], [], []) := ⟨fun q hq => (by cases hq), fun q hq => (by cases hq)⟩
set_option maxRecDepth 100000 in
theorem law_ok (hL : L ≤ 3072) : law_says L xs r0 := by
  refine ⟨400000, ?_⟩
  rw [h0_ab]
  have g1 : gdC ([(20, 0)], [], []) := gd_new (sh := (20, 0)) gd_0
  obtain ⟨ga, -, -, wa⟩ := rnM_ok (L9 := L) (xs := xs) (r0 := r0) 6 1 [.ref 100] _ _ ct_a g1
  have g2 : gdC (ctS_a ++ [(21, 0)], ctW_a, ctR_a) := gd_new (sh := (21, 0)) ga
  obtain ⟨gb, -, -, wb⟩ := rnM_ok (L9 := L) (xs := xs) (r0 := r0) 6 2 [.ref 161] _ _ ct_b g2
  have la : ctS_a.length = 61 := ct_len.2.1
  have lb : ctS_b.length = 102 := ct_len.2.2
  have la2 : (ctS_a ++ [(21, 0)]).length = 62 := by rw [List.length_append, la]; rfl
  have na : a_n (ab L xs r0 (ctS_a, ctW_a, ctR_a)) = 161 := by show 100 + ctS_a.length = 161; rw [la]
  have nb : a_n (ab L xs r0 (ctS_b, ctW_b, ctR_b)) = 202 := by show 100 + ctS_b.length = 202; rw [lb]
  refine ⟨trivial, rfl, 601023, 7293022, rfl, rfl, ?_⟩
  refine wp_more (hd := 1) (m := 399999) (L := [.ref 0, .null, .null, .null, .null, .null, .null]) (S := [.ref 100]) (h := ab L xs r0 ([(20, 0)], [], [])) ?_ (Nat.le_refl _) rfl rfl (ab_new gd_0)
  refine ⟨trivial, 60, 8400, 600963, 7284622, rfl, rfl, ?_⟩
  refine wpM_le 6 300 (by decide) _ _ _ _ _ _ _ (fun _ _ q => q) (wa _ 60 8400 (by show ctS_a.length ≤ 1 + 60; omega) (by decide) ⟨fun _ => ⟨rfl, ?_⟩, ?_⟩)
  · rw [na]; exact Nat.le_refl 161
  refine wp_more (hd := 3) (m := 399997) (L := [.ref 0, .null, .null, .null, .null, .null, .null]) (S := [.ref 100]) (h := ab L xs r0 (ctS_a, ctW_a, ctR_a)) ?_ (Nat.le_refl _) rfl rfl rfl
  refine ⟨trivial, rfl, 600962, 7284561, rfl, rfl, ?_⟩
  refine wp_more (hd := 5) (m := 399995) (L := [.ref 0, .ref 100, .null, .null, .null, .null, .null]) (S := [.ref 161]) (h := ab L xs r0 (ctS_a ++ [(21, 0)], ctW_a, ctR_a)) ?_ (Nat.le_refl _) rfl (by rw [na]) (ab_new ga)
  refine ⟨trivial, 40, 8575, 600922, 7275986, rfl, rfl, ?_⟩
  refine wpM_le 6 300 (by decide) _ _ _ _ _ _ _ (fun _ _ q => q) (wb _ 40 8575 (by show ctS_b.length ≤ (ctS_a ++ [(21, 0)]).length + 40; omega) (by decide) ⟨fun _ => ⟨rfl, ?_⟩, ?_⟩)
  · rw [nb]
    show 100 + (ctS_a ++ [(21, 0)]).length + 40 ≤ 202
    omega
  refine wp_more (hd := 7) (m := 399993) (L := [.ref 0, .ref 100, .null, .null, .null, .null, .null]) (S := [.ref 161]) (h := ab L xs r0 (ctS_b, ctW_b, ctR_b)) ?_ (Nat.le_refl _) rfl rfl rfl
  refine ⟨⟨by decide, by decide⟩, rfl, 600921, 7275985, rfl, by decide, ?_⟩
  refine wp_more (hd := 10) (m := 399990) (L := [.ref 0, .ref 100, .ref 161, .null, .null, .null, .null]) (S := [.ref 202]) (h := hk (K00 L r0) (f00 xs)) ?_ (Nat.le_refl _) rfl (by rw [nb]) ?_
  · refine wp_more (hd := 13) (m := 399987) (L := [.ref 0, .ref 100, .ref 161, .ref 202, .int (N (6 * 0)), .null, .null]) (S := []) (h := hk (K00 L r0) (f00 xs)) ?_ (Nat.le_refl _) rfl rfl rfl
    exact lw_loop (T := L / 6) hL rfl (fun _ => rfl) (L / 6) 0 (K00 L r0) (f00 xs) w00 .null .null _ _ _ (by omega) rfl ⟨ok_w0, ci_w0, mi_w0, bi_w0⟩ (by omega) (by omega) (by omega)
  · rw [show (Int32.ofInt 1).toNatClampNeg = 1 from by decide, ab_new gb]
    exact ct_hk
end
