/-! WHAT THE TABLES MUST SAY OF AN INSTRUCTION, AND A STEP OF EACH KIND -/
def a_sws : Instr → Bool
  | .tableswitch _ _ _ _ => true
  | .lookupswitch _ _ => true
  | _ => false
def a_off : Instr → Option Int
  | .ifCond _ o => some o
  | .if_icmp _ o => some o
  | .goto o => some o
  | _ => none
/-- the word of a method's code -/
def a_cw (M : aMeth) : Cond := match M.2.2.2.2.2.2 with
  | [] => .code M.1 M.2.1 M.2.2.1 M.2.2.2.1
  | x :: xs => .codeWith M.1 M.2.1 M.2.2.1 M.2.2.2.1 (x :: xs)
/-- a method that may be called with so many parameters -/
def a_mOK (GT : List Cond) (M : aMeth) (np : Nat) : Prop := a_cw M ∈ GT ∧ Cond.initialized M.1.cls ∈ GT ∧ (M.1.cls ≠ "java/lang/invoke/MethodHandle" ∧ M.1.cls ≠ "java/lang/invoke/VarHandle") ∧ (parseMethodDescriptor M.1.desc).map (fun d => d.parameters.length) = some np ∧ M.2.2.1 ≤ 60
/-- the resolved numbers of an instruction -/
def a_res (GT nw : List Cond) (own : String) (cl : List vw_C) (ft : aF) (nf : Nat → Nat) (pr : Nat → Option aMeth) (isI : Bool) (ins : Instr) (rs : List Nat) : Prop := match ins, rs with
  | .getfield i, [ci, f] => (ci ≠ 12 ∧ a_fld (GT ++ nw) own cl ft nf i ci f) ∨ (ci = 12 ∧ ((f = 0 ∧ ft 12 0 = 2 ∧ Cond.fieldLink own i "java/lang/String" "value" "[B" ∈ GT ++ nw) ∨ (f = 1 ∧ ft 12 1 = 0 ∧ Cond.fieldLink own i "java/lang/String" "coder" "B" ∈ GT ++ nw)))
  | .putfield i, [ci, f] => ci ≠ 12 ∧ a_fldW (GT ++ nw) own cl ft nf isI i ci f
  | .getstatic i, rs => a_stR (GT ++ nw) own i rs
  | .invokestatic i, [x] => (x = 1000 → Cond.methodLink own i arraycopyName ∈ GT ∧ Cond.native arraycopyName ∈ GT ∧ Cond.static arraycopyName ∈ GT ∧ Cond.initialized "java/lang/System" ∈ GT) ∧
    (x = 1004 → Cond.methodLink own i Lib.Math.max.name ∈ GT ∧ Cond.static Lib.Math.max.name ∈ GT ∧ Cond.initialized "java/lang/Math" ∈ GT ∧ Cond.code Lib.Math.max.name Lib.Math.max.code 2 (some .int) ∈ GT) ∧
    (x = 1005 → Cond.methodLink own i Lib.Math.min.name ∈ GT ∧ Cond.static Lib.Math.min.name ∈ GT ∧ Cond.initialized "java/lang/Math" ∈ GT ∧ Cond.code Lib.Math.min.name Lib.Math.min.code 2 (some .int) ∈ GT) ∧
    (x = 1006 → Cond.methodLink own i Lib.Math.abs.name ∈ GT ∧ Cond.static Lib.Math.abs.name ∈ GT ∧ Cond.initialized "java/lang/Math" ∈ GT ∧ Cond.code Lib.Math.abs.name Lib.Math.abs.code 1 (some .int) ∈ GT)
  | .invokespecial i, [x] => x = 1003 → Cond.methodLink own i objectInit ∈ GT ∧ Cond.instanceMethod objectInit ∈ GT ∧ Cond.code objectInit ⟨#[0xb1]⟩ 1 none ∈ GT
  | .new i, [ci] => ci ≠ 12 ∧ a_clsR (GT ++ nw) own cl ft nf i ci
  | .newarray t, _ => Cond.arrayClass (newarray.typeOf t) ∈ GT
  | .anewarray i, _ => Cond.classLink own i "java/lang/String" ∈ GT
  | .invokestatic i, [k, n, _] => ∃ M, pr k = some M ∧ a_mOK GT M n ∧ Cond.methodLink own i M.1 ∈ GT ∧ Cond.static M.1 ∈ GT
  | .invokevirtual i, [k, n, ci] => ∃ M np, n = np + 1 ∧ pr k = some M ∧ a_mOK GT M np ∧ M.2.2.2.2.2.2 = [] ∧ Cond.methodLink own i M.1 ∈ GT ∧ Cond.instanceMethod M.1 ∈ GT ∧ Cond.selects M.1.cls M.1 M.1 ∈ GT ∧ ((ci ≠ 12 ∧ ∃ r, cl[ci]? = some r ∧ r.1 = M.1.cls) ∨ (ci = 12 ∧ M.1.cls = "java/lang/String"))
  | .invokespecial i, [k, n, _] => ∃ M np, n = np + 1 ∧ pr k = some M ∧ a_mOK GT M np ∧ M.2.2.2.2.2.2 = [] ∧ M.2.2.2.1 = none ∧ M.1.name = "<init>" ∧ Cond.instanceMethod M.1 ∈ GT ∧ (Cond.methodLink own i M.1 ∈ GT ∨ ∃ host, Cond.methodLinkNest own i M.1 host ∈ nw)
  | _, _ => True
section
variable {p : Program} {l : Launch} {e : Env} {R : Room} {s : State} {m : MethodId} {args : Array Value} {below : List Frame} {meth : Method} {c : Code} {H : Heap} {locs : List Loc} {cells slots : Nat} {Q : State → Prop} {cc : ByteArray} {pc : Nat} {ls : Array Slot} {rest : List Value}
variable {D : va_G} {cl : List vw_C} {ft : aF} {nf : Nat → Nat} {cy sp : Nat → Nat} {base : Nat} {sS : Nat → Nat × Nat} {sI : Nat → Nat → Int32} {sR : Nat → Nat → Option Nat} {h h' : aH} {GT nw : List Cond} {own : String} {strs : aStr} {pr : Nat → Option aMeth} {isI : Bool}
theorem cat_map (ad : Nat → Nat) (S : List Value) : ((S.map (vM ad)).map fun v => v.category) = S.map fun v => v.category := by
  rw [List.map_map]; exact List.map_congr_left (fun v _ => vM_cat ad v)
theorem s_hp (hx : p.tables.exec = Jvm.exec) (hb : c.code = cc) (hml : c.maxLocals = ls.size) (hown : s.vm.findClass own = some m.cls) (hts : ∀ w ∈ GT ++ nw, w.before args s = true) (hI : isI = true → meth.name = "<init>") (hK : va_K D cl (a_tys cy) s) (hL : a_Lo nw strs sp base sS sI sR s) (hW : a_W D cl ft nf cy sp base sS sI sR h H) (hS : va_S (a_A base) s.heap H locs)
    (hRf : 10 ≤ R.frames) (hRl : 1000 ≤ R.locals) (hcl : cells ≤ R.cells) (hsl : slots ≤ R.slots) {ins : Instr} {rs : List Nat} {S S' : List Value} {cnd : Prop} (hd : decode cc pc = .ok (ins, a_len ins)) (hr : a_res GT nw own cl ft nf pr isI ins rs) (h2 : a_hp ft ins rs S h = some (cnd, S', h')) (hc : cnd)
    (k : ∀ (H1 : Heap) (locs1 : List Loc), a_W D cl ft nf cy sp base sS sI sR h' H1 → va_S (a_A base) s.heap H1 locs1 → W p l e R s m args below meth c H1 locs1 cells slots Q (F0 m (pc + a_len ins) ls (S'.map (vM (a_ad sp base))))) :
    W p l e R s m args below meth c H locs cells slots Q (F0 m pc ls (S.map (vM (a_ad sp base)))) := by
  have htg : ∀ w ∈ GT, w.before args s = true := fun w hw => hts w (List.mem_append_left _ hw)
  unfold a_hp at h2
  split at h2
  all_goals (try split at h2)
  all_goals (try split at h2)
  all_goals (try split at h2)
  all_goals (first | (cases h2; done) | skip)
  all_goals (obtain ⟨rfl, hz⟩ := Prod.mk.inj (Option.some.inj h2); obtain ⟨rfl, rfl⟩ := Prod.mk.inj hz)
  · exact lv_idiv hx hb hd hc (k H locs hW hS)
  · exact lv_irem hx hb hd hc (k H locs hW hS)
  · -- getfield, a reference
    rename_i q
    rcases hr with ⟨h12, hf⟩ | ⟨rfl, ⟨rfl, -, hf⟩ | ⟨rfl, hq, -⟩⟩
    · refine s_get hx hb hown hts hK hW hf hc h12 hd rfl ?_
      have kk := k H locs hW hS
      rw [if_pos q, ← vM_rv]; exact kk
    · refine s_getS hx hb hown hL hW hS hc hd (Or.inl ⟨rfl, hts _ hf, rfl⟩) ?_
      have kk := k H locs hW hS
      rw [← vM_rv]; exact kk
    · rw [hq] at q; cases q
  · -- getfield, a number
    rename_i q
    rcases hr with ⟨h12, hf⟩ | ⟨rfl, ⟨rfl, hq, -⟩ | ⟨rfl, -, hf⟩⟩
    · refine s_get hx hb hown hts hK hW hf hc h12 hd rfl ?_
      rw [if_neg (fun z => q z)]; exact k H locs hW hS
    · exact absurd hq (fun z => q z)
    · exact s_getS hx hb hown hL hW hS hc hd (Or.inr ⟨rfl, hts _ hf, rfl⟩) (k H locs hW hS)
  · -- putfield, an int
    rename_i q
    refine s_put hx hb hown hts hK hW hS hI hr.2 hc hr.1 hd (h' := a_setI h _ _ _) ?_ rfl rfl (fun j hj => ⟨up2_ne hj, rfl, rfl⟩) (fun j hj => ⟨up2_at_ne hj, rfl⟩) ?_ k
    · rw [if_neg (by rw [q]; decide)]; exact congrArg Value.int up2_at.symm
    · intro ty ht; rw [ht.1 q]; exact ⟨rfl, rfl⟩
  · -- putfield, a boolean
    rename_i q
    refine s_put hx hb hown hts hK hW hS hI hr.2 hc.1 hr.1 hd (h' := a_setI h _ _ _) ?_ rfl rfl (fun j hj => ⟨up2_ne hj, rfl, rfl⟩) (fun j hj => ⟨up2_at_ne hj, rfl⟩) ?_ k
    · rw [if_neg (by rw [q]; decide)]; exact congrArg Value.int up2_at.symm
    · intro ty ht; rw [ht.2.1 q]
      rcases hc.2 with z | z <;> rw [z] <;> exact ⟨rfl, rfl⟩
  · -- putfield, a reference
    rename_i q
    refine s_put hx hb hown hts hK hW hS hI hr.2 hc hr.1 hd (h' := a_setR h _ _ _) ?_ rfl rfl (fun j hj => ⟨rfl, up2_ne hj, rfl⟩) (fun j hj => ⟨rfl, up2_at_ne hj⟩) ?_ k
    · rw [if_pos q]
      exact (congrArg (fun r => va_rf (Option.map (a_ad sp base) r)) (up2_at (f := a_r h) (x := some _))).symm
    · intro ty ht
      rcases ht.2.2 q with ⟨n, z⟩ | ⟨t, z⟩ <;> rw [z] <;> exact ⟨rfl, rfl⟩
  · exact s_gets (rs := [1]) hx hb hown hts hL hW hS hr hd  (Or.inl ⟨rfl, rfl⟩) (k H locs hW hS)
  · exact s_gets (rs := [2]) hx hb hown hts hL hW hS hr hd  (Or.inr (Or.inl ⟨rfl, rfl⟩)) (k H locs hW hS)
  · exact s_gets (rs := [3]) hx hb hown hts hL hW hS hr hd  (Or.inr (Or.inr ⟨rfl, rfl⟩)) (k H locs hW hS)
  · exact s_iald_all hx hb hK hL hW hS hc.1 hc.2 hd (k H locs hW hS)
  · exact s_iast hx hb hK hW hS hc.1 hc.2 hd k
  · exact s_bald_all hx hb hK hL hW hS hc.1 hc.2 hd (k H locs hW hS)
  · exact s_bast hx hb hK hW hS hc.1 hc.2 hd k
  · exact s_lald hx hb hK hW hc.1 hc.2 hd (k H locs hW hS)
  · exact s_last hx hb hK hW hS hc.1 hc.2 hd k
  · refine s_aald hx hb hK hW hc.1 hc.2 hd ?_
    have kk := k H locs hW hS
    rw [← vM_rv]; exact kk
  · -- aastore
    rename_i x i a S9
    have ha := hW.1.special (i := x) (by rw [hc.2.2]; rfl)
    have hsx := hc.2.2
    rw [(hW.2.1 x ha).1] at hsx
    obtain ⟨cell, g1, g2, g3, g4⟩ := (hL.2.2.2.1 x ha hsx).1
    refine s_aast hx hb hK hW hS hc.1 hc.2.1 hd ⟨cell, ?_, g2, g3⟩ k
    rw [a_ad_lo ha, hS.2.1 _ (Array.getElem?_eq_some_iff.mp g1).1 g4]; exact g1
  · exact s_alen_all hx hb hK hL hW hS hc hd (k H locs hW hS)
  · rename_i hroom
    have hroom2 : ((List.map (vM (a_ad sp base)) _).map fun v => v.category).sum ≤ 900 := Nat.le_trans (by rw [cat_map]; exact hroom) (by decide)
    obtain ⟨r1, r2, r3, r4⟩ := hr.1 rfl
    have hnw : nativeFrameWords "java/lang/System" "arraycopy" 5 + 11 ≤ 100 := by decide
    refine s_copy hx hb hml hown (htg _ r1) (htg _ r2) (htg _ r3) (htg _ r4) hK hW hS hc.1.1 hc.1.2 hc.2.1.1 hc.2.1.2.1 hc.2.1.2.2 hc.2.2.1 hc.2.2.2 (by omega) ?_ hd k
    exact Nat.le_trans (Nat.add_le_add hroom2 hnw) hRl
  · rename_i hroom
    have hroom2 : ((List.map (vM (a_ad sp base)) _).map fun v => v.category).sum ≤ 900 := Nat.le_trans (by rw [cat_map]; exact hroom) (by decide)
    obtain ⟨r1, r2, r3, r4⟩ := hr.2.1 rfl
    exact va_mmax hx hb hml hown (htg _ r1) (htg _ r2) (htg _ r3) (htg _ r4) (by omega) (Nat.le_trans (Nat.add_le_add hroom2 (Nat.le_refl 13)) (Nat.le_trans (by decide) hRl)) hcl hsl hd (k H locs hW hS)
  · rename_i hroom
    have hroom2 : ((List.map (vM (a_ad sp base)) _).map fun v => v.category).sum ≤ 900 := Nat.le_trans (by rw [cat_map]; exact hroom) (by decide)
    obtain ⟨r1, r2, r3, r4⟩ := hr.2.2.1 rfl
    exact va_mmin hx hb hml hown (htg _ r1) (htg _ r2) (htg _ r3) (htg _ r4) (by omega) (Nat.le_trans (Nat.add_le_add hroom2 (Nat.le_refl 13)) (Nat.le_trans (by decide) hRl)) hcl hsl hd (k H locs hW hS)
  · rename_i hroom
    have hroom2 : ((List.map (vM (a_ad sp base)) _).map fun v => v.category).sum ≤ 900 := Nat.le_trans (by rw [cat_map]; exact hroom) (by decide)
    obtain ⟨r1, r2, r3, r4⟩ := hr.2.2.2 rfl
    exact va_mabs hx hb hml hown (htg _ r1) (htg _ r2) (htg _ r3) (htg _ r4) (by omega) (Nat.le_trans (Nat.add_le_add hroom2 (Nat.le_refl 13)) (Nat.le_trans (by decide) hRl)) hcl hsl hd (k H locs hW hS)
  · rename_i hroom
    have hroom2 : ((List.map (vM (a_ad sp base)) _).map fun v => v.category).sum ≤ 900 := Nat.le_trans (by rw [cat_map]; exact hroom) (by decide)
    obtain ⟨r1, r2, r3⟩ := hr rfl
    exact W.objInit hx hb hown (htg _ r1) (htg _ r2) (htg _ r3) rfl hml.symm rfl hd (by omega) (Nat.le_trans (Nat.add_le_add (Nat.le_trans (Nat.le_of_eq (Nat.zero_add _)) hroom2) (Nat.le_refl 12)) (Nat.le_trans (by decide) hRl)) (k H locs hW hS)
end
