/-! THE CHECK OF CLASSES, METHODS AND INSTRUCTIONS -/
def aty (ci k : Nat) : FieldType := (parseFieldDescriptor (aTd ci k).2.1).getD .int
def ck_ty (ci k : Nat) : Bool := match parseFieldDescriptor (aTd ci k).2.1 with
  | some .int => aft ci k == 0
  | some .boolean => aft ci k == 1
  | some (.object _) => aft ci k == 2
  | some (.array _) => aft ci k == 2
  | _ => false
def ck_cls (ci : Nat) : Bool := subs (u_ws (cnm ci) (aT ci) (anf ci)) tables_1 && (u_ws (cnm ci) (aT ci) (anf ci)).all goodWord && (List.range (anf ci)).all (ck_ty ci) &&
  (List.range (anf ci)).all (fun a => (List.range (anf ci)).all (fun b => a == b || !((aTd ci a).1 == (aTd ci b).1))) && subs [.instantiable (cnm ci) (anf ci)] tables_1
theorem cls_all : (List.range 12).all ck_cls = true := by decide +kernel
theorem cls_ok {ci : Nat} (h : ci < 12) : ck_cls ci = true := List.all_eq_true.mp cls_all ci (List.mem_range.mpr h)
theorem acl_at {ci : Nat} (h : ci < 12) : acl[ci]? = some (cnm ci, aT ci, anf ci) := by
  rcases (show ci = 0 ∨ ci = 1 ∨ ci = 2 ∨ ci = 3 ∨ ci = 4 ∨ ci = 5 ∨ ci = 6 ∨ ci = 7 ∨ ci = 8 ∨ ci = 9 ∨ ci = 10 ∨ ci = 11 by omega) with rfl | rfl | rfl | rfl | rfl | rfl | rfl | rfl | rfl | rfl | rfl | rfl <;> rfl
theorem ty_spec {ci k : Nat} (h : ck_ty ci k = true) : parseFieldDescriptor (aTd ci k).2.1 = some (aty ci k) ∧ (aft ci k = 0 → aty ci k = .int) ∧ (aft ci k = 1 → aty ci k = .boolean) ∧ (aft ci k = 2 → (∃ n, aty ci k = .object n) ∨ ∃ t, aty ci k = .array t) ∧ ((aft ci k = 2 ∧ ((∃ n, aty ci k = .object n) ∨ ∃ t, aty ci k = .array t)) ∨ (¬ aft ci k = 2 ∧ (aty ci k = .int ∨ aty ci k = .boolean))) := by
  unfold ck_ty at h
  unfold aty
  split at h
  · rename_i e; rw [e]; have q := beq_iff_eq.mp h; rw [q]; exact ⟨rfl, fun _ => rfl, (fun z => by cases z), (fun z => by cases z), Or.inr ⟨by decide, Or.inl rfl⟩⟩
  · rename_i e; rw [e]; have q := beq_iff_eq.mp h; rw [q]; exact ⟨rfl, (fun z => by cases z), fun _ => rfl, (fun z => by cases z), Or.inr ⟨by decide, Or.inr rfl⟩⟩
  · rename_i e; rw [e]; have q := beq_iff_eq.mp h; rw [q]; exact ⟨rfl, (fun z => by cases z), (fun z => by cases z), fun _ => Or.inl ⟨_, rfl⟩, Or.inl ⟨rfl, Or.inl ⟨_, rfl⟩⟩⟩
  · rename_i e; rw [e]; have q := beq_iff_eq.mp h; rw [q]; exact ⟨rfl, (fun z => by cases z), (fun z => by cases z), fun _ => Or.inr ⟨_, rfl⟩, Or.inl ⟨rfl, Or.inr ⟨_, rfl⟩⟩⟩
  · cases h
theorem cls_spec {ci : Nat} (h : ci < 12) : (∀ w ∈ u_ws (cnm ci) (aT ci) (anf ci), w ∈ aGT ++ aNW) ∧ (∀ k, k < anf ci → ck_ty ci k = true) ∧ (∀ a, a < anf ci → ∀ b, b < anf ci → a ≠ b → (aT ci a).2.1 ≠ (aT ci b).2.1) ∧ Cond.instantiable (cnm ci) (anf ci) ∈ aGT := by
  have h1 := cls_ok h
  unfold ck_cls at h1
  simp only [Bool.and_eq_true] at h1
  obtain ⟨⟨⟨⟨a1, a2⟩, a3⟩, a4⟩, a5⟩ := h1
  refine ⟨fun w hw => List.mem_append_left _ (in_GT a1 a2 w hw), fun k hk => List.all_eq_true.mp a3 k (List.mem_range.mpr hk), fun a ha b hb hne hq => ?_, in_GT a5 rfl _ List.mem_cons_self⟩
  have h2 := List.all_eq_true.mp (List.all_eq_true.mp a4 a (List.mem_range.mpr ha)) b (List.mem_range.mpr hb)
  simp only [Bool.or_eq_true, beq_iff_eq, Bool.not_eq_true', beq_eq_false_iff_ne, ne_eq] at h2
  rcases h2 with z | z
  · exact hne z
  · exact z hq
-- methods
def ck_m (k : Nat) : Bool := match aML[k]? with
  | some M => aKC.contains k && aKN.contains (aMC.getD k 99) && cnm (aMC.getD k 99) == M.1.cls && !(M.1.cls == "java/lang/invoke/MethodHandle") && !(M.1.cls == "java/lang/invoke/VarHandle") && (parseMethodDescriptor M.1.desc).map (fun d => d.parameters.length) == some (aNP.getD k 0) && decide (M.2.2.1 ≤ 60) && plainName M.1.cls
  | none => true
theorem m_all : ((List.range 308).map (fun j => j + 1)).all ck_m = true := by decide +kernel
theorem aML_len : aML.length = 309 := by decide +kernel
theorem m_spec {k : Nat} {M : aMeth} (hM : apr k = some M) (h0 : 0 < k) : a_mOK aGT M (aNP.getD k 0) ∧ cnm (aMC.getD k 99) = M.1.cls ∧ plainName M.1.cls = true ∧ ymt k = M.1 := by
  have hk : k < 309 := by
    have h9 := (List.getElem?_eq_some_iff.mp hM).1
    rwa [aML_len] at h9
  have h1 := List.all_eq_true.mp m_all k (List.mem_map.mpr ⟨k - 1, List.mem_range.mpr (by omega), by omega⟩)
  unfold ck_m at h1
  have hM' : aML[k]? = some M := hM
  rw [hM'] at h1
  simp only [Bool.and_eq_true, List.contains_iff_mem, beq_iff_eq, Bool.not_eq_true', beq_eq_false_iff_ne, ne_eq, decide_eq_true_eq] at h1
  obtain ⟨⟨⟨⟨⟨⟨⟨a1, a2⟩, a3⟩, a4⟩, a5⟩, a6⟩, a7⟩, a8⟩ := h1
  have hy : ymt k = M.1 := by unfold ymt; rw [hM']
  have hc := w_cd k a1
  have he : cdW k = a_cw M := by unfold cdW; rw [hM']
  rw [he] at hc
  have hi := w_n _ a2
  rw [a3] at hi
  exact ⟨⟨hc, hi, ⟨a4, a5⟩, a6, a7⟩, a3, a8, hy⟩
-- instructions
def noH (k : Nat) : Bool := match aML[k]? with
  | some M => M.2.2.2.2.2.2.isEmpty
  | none => false
def isIn (k : Nat) : Bool := match aML[k]? with
  | some M => M.1.name == "<init>" && M.2.2.2.1 == none
  | none => false
def ck_res (own : Nat) (isI : Bool) (ins : Instr) (rs : List Nat) : Bool := match ins, rs with
  | .getfield i, [ci, f] => if ci = 12 then (f == 0 || f == 1) && aPFS.contains (own, i, f) else decide (ci < 12) && decide (f < anf ci) && (aPF.contains (own, i, ci, f) || aPFN.contains (own, i, ci, f))
  | .putfield i, [ci, f] => decide (ci < 12) && decide (f < anf ci) && aPF.contains (own, i, ci, f) && (!(aTd ci f).2.2 || (isI && ci == own))
  | .getstatic i, [x] => aPS.contains (own, i, x)
  | .getstatic _, _ => false
  | .invokestatic i, [x] => (!(x == 1000) || aPA.contains (own, i)) && (!(x == 1004) || aPx.contains (own, i)) && (!(x == 1005) || aPn.contains (own, i)) && (!(x == 1006) || aPb.contains (own, i))
  | .invokespecial i, [x] => !(x == 1003) || aPO.contains (own, i)
  | .new i, [ci] => decide (ci < 12) && aPK.contains (own, i, cnm ci) && aKN.contains ci
  | .newarray t, _ => t == .int || t == .byte || t == .long
  | .anewarray i, _ => aPK.contains (own, i, "java/lang/String")
  | .invokestatic i, [k, n, _] => decide (0 < k) && decide (k < 309) && aPM.contains (own, i, k) && aKS.contains k && aNP.getD k 0 == n
  | .invokevirtual i, [k, n, ci] => decide (0 < k) && decide (k < 309) && aPM.contains (own, i, k) && aKI.contains k && aKV.contains k && aNP.getD k 0 + 1 == n && noH k && decide (ci ≤ 12) && aMC.getD k 99 == ci
  | .invokespecial i, [k, n, _] => decide (0 < k) && decide (k < 309) && (aPM.contains (own, i, k) || aPMN.contains (own, i, k)) && aKI.contains k && aNP.getD k 0 + 1 == n && noH k && isIn k
  | _, _ => true
def aW0 : List Cond := [.native arraycopyName, .static arraycopyName, .initialized "java/lang/System", .instanceMethod objectInit, .code objectInit ⟨#[0xb1]⟩ 1 none, .arrayClass .int, .arrayClass .byte, .arrayClass .long, .initialized "java/lang/Math", .static Lib.Math.max.name, .static Lib.Math.min.name, .static Lib.Math.abs.name, .code Lib.Math.max.name Lib.Math.max.code 2 (some .int), .code Lib.Math.min.name Lib.Math.min.code 2 (some .int), .code Lib.Math.abs.name Lib.Math.abs.code 1 (some .int)]
theorem w_0 : aW0.all (fun w => decide (w ∈ tables_1) && goodWord w) = true := by decide +kernel
theorem w_in0 {w : Cond} (h : w ∈ aW0) : w ∈ aGT := by
  have := List.all_eq_true.mp w_0 w h
  simp only [Bool.and_eq_true, decide_eq_true_eq] at this
  exact List.mem_filter.mpr ⟨List.mem_append_right _ this.1, this.2⟩
theorem w_a : ∀ q ∈ aPA, Cond.methodLink (cnm q.1) q.2 arraycopyName ∈ aGT := by
  have : (aPA.map (fun q => Cond.methodLink (cnm q.1) q.2 arraycopyName)).all (fun w => decide (w ∈ tables_1) && goodWord w) = true := by decide +kernel
  intro q hq
  have h1 := List.all_eq_true.mp this _ (List.mem_map.mpr ⟨q, hq, rfl⟩)
  simp only [Bool.and_eq_true, decide_eq_true_eq] at h1
  exact List.mem_filter.mpr ⟨List.mem_append_right _ h1.1, h1.2⟩
theorem w_o : ∀ q ∈ aPO, Cond.methodLink (cnm q.1) q.2 objectInit ∈ aGT := by
  have : (aPO.map (fun q => Cond.methodLink (cnm q.1) q.2 objectInit)).all (fun w => decide (w ∈ tables_1) && goodWord w) = true := by decide +kernel
  intro q hq
  have h1 := List.all_eq_true.mp this _ (List.mem_map.mpr ⟨q, hq, rfl⟩)
  simp only [Bool.and_eq_true, decide_eq_true_eq] at h1
  exact List.mem_filter.mpr ⟨List.mem_append_right _ h1.1, h1.2⟩
theorem w_max : ∀ q ∈ aPx, Cond.methodLink (cnm q.1) q.2 Lib.Math.max.name ∈ aGT := by
  have : (aPx.map (fun q => Cond.methodLink (cnm q.1) q.2 Lib.Math.max.name)).all (fun w => decide (w ∈ tables_1) && goodWord w) = true := by decide +kernel
  intro q hq
  have h1 := List.all_eq_true.mp this _ (List.mem_map.mpr ⟨q, hq, rfl⟩)
  simp only [Bool.and_eq_true, decide_eq_true_eq] at h1
  exact List.mem_filter.mpr ⟨List.mem_append_right _ h1.1, h1.2⟩
theorem w_min : ∀ q ∈ aPn, Cond.methodLink (cnm q.1) q.2 Lib.Math.min.name ∈ aGT := by
  have : (aPn.map (fun q => Cond.methodLink (cnm q.1) q.2 Lib.Math.min.name)).all (fun w => decide (w ∈ tables_1) && goodWord w) = true := by decide +kernel
  intro q hq
  have h1 := List.all_eq_true.mp this _ (List.mem_map.mpr ⟨q, hq, rfl⟩)
  simp only [Bool.and_eq_true, decide_eq_true_eq] at h1
  exact List.mem_filter.mpr ⟨List.mem_append_right _ h1.1, h1.2⟩
theorem w_abs : ∀ q ∈ aPb, Cond.methodLink (cnm q.1) q.2 Lib.Math.abs.name ∈ aGT := by
  have : (aPb.map (fun q => Cond.methodLink (cnm q.1) q.2 Lib.Math.abs.name)).all (fun w => decide (w ∈ tables_1) && goodWord w) = true := by decide +kernel
  intro q hq
  have h1 := List.all_eq_true.mp this _ (List.mem_map.mpr ⟨q, hq, rfl⟩)
  simp only [Bool.and_eq_true, decide_eq_true_eq] at h1
  exact List.mem_filter.mpr ⟨List.mem_append_right _ h1.1, h1.2⟩
def sWd (q : Nat × Nat × Nat) : Cond := if q.2.2 = 1 then .fieldLinkNest (cnm q.1) q.2.1 "SnowCanton" "BY_NUMBER" "[I" "SnowCanton" else if q.2.2 = 2 then .fieldLink (cnm q.1) q.2.1 "java/lang/String" "COMPACT_STRINGS" "Z" else .fieldLink (cnm q.1) q.2.1 "jdk/internal/util/Preconditions" "SIOOBE_FORMATTER" "Ljava/util/function/BiFunction;"
theorem w_st : ∀ q ∈ aPS, sWd q ∈ aGT ++ aNW ∧ 1 ≤ q.2.2 ∧ q.2.2 ≤ 3 := by
  have : aPS.all (fun q => decide (sWd q ∈ tables_1) && (goodWord (sWd q) || a_nest (sWd q)) && decide (1 ≤ q.2.2 ∧ q.2.2 ≤ 3)) = true := by decide +kernel
  intro q hq
  have h1 := List.all_eq_true.mp this q hq
  simp only [Bool.and_eq_true, decide_eq_true_eq, Bool.or_eq_true] at h1
  obtain ⟨⟨a1, a2⟩, a3⟩ := h1
  refine ⟨?_, a3⟩
  rcases a2 with z | z
  · exact List.mem_append_left _ (List.mem_filter.mpr ⟨List.mem_append_right _ a1, z⟩)
  · exact List.mem_append_right _ (List.mem_filter.mpr ⟨List.mem_append_right _ a1, z⟩)
