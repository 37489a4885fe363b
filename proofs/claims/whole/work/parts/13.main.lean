/-! THE WALK OF A WHOLE METHOD -/
def a_swR (cc : ByteArray) (P : List aEnt) (pc : Nat) (ins : Instr) (rs : List Nat) : Prop := match ins, rs with
  | .tableswitch d lo hi offs, t :: ts => (∃ len, decode cc pc = .ok (.tableswitch d lo hi offs, len)) ∧ offs.size = ts.length ∧ hi = lo + (ts.length : Int) - 1 ∧ -2147483648 ≤ lo ∧ hi < 2147483648 ∧ (∀ z, P[t]? = some z → (pc : Int) + d = (z.1 : Int)) ∧ (∀ (j : Nat) (o : Int) (t' : Nat), offs[j]? = some o → ts[j]? = some t' → ∀ z, P[t']? = some z → (pc : Int) + o = (z.1 : Int))
  | .lookupswitch d ps, t :: ts => (∃ len, decode cc pc = .ok (.lookupswitch d ps, len)) ∧ ((ps.toList.zip (ps.toList.drop 1)).all (fun (a, next) => a.1 < next.1) = true) ∧ ps.toList.length = ts.length ∧ (∀ q ∈ ps.toList, -2147483648 ≤ q.1 ∧ q.1 < 2147483648) ∧ (∀ z, P[t]? = some z → (pc : Int) + d = (z.1 : Int)) ∧ (∀ q ∈ ps.toList.zip ts, ∀ z, P[q.2]? = some z → (pc : Int) + q.1.2 = (z.1 : Int))
  | _, _ => True
def a_vld (GT nw : List Cond) (strs : aStr) (own : String) (cl : List vw_C) (ft : aF) (nf : Nat → Nat) (pr : Nat → Option aMeth) (isI : Bool) (cc : ByteArray) (P : List aEnt) (i : Nat) (q : aEnt) : Prop :=
  (a_sws q.2.1 = false → decode cc q.1 = .ok (q.2.1, a_len q.2.1) ∧ (∀ z, P[i + 1]? = some z → z.1 = q.1 + a_len q.2.1)) ∧
  (∀ off, a_off q.2.1 = some off → ∃ z, P[q.2.2.headD 0]? = some z ∧ (q.1 : Int) + off = (z.1 : Int)) ∧
  a_ldR (GT ++ nw) strs own q.2.1 q.2.2 ∧ a_res GT nw own cl ft nf pr isI q.2.1 q.2.2 ∧ a_swR cc P q.1 q.2.1 q.2.2
theorem ns_pure {ins : Instr} {rs : List Nat} {S S' : List Value} (h : a_pure ins rs S = some S') : a_sws ins = false := by
  cases ins <;> first | rfl | (simp [a_pure] at h; done)
theorem ns_loc {ins : Instr} {L S : List Value} {x : List Value × List Value} (h : a_loc ins L S = some x) : a_sws ins = false := by
  cases ins <;> first | rfl | (simp [a_loc] at h; done)
theorem ns_hp {ft : aF} {ins : Instr} {rs : List Nat} {S : List Value} {h : aH} {x : Prop × List Value × aH} (h2 : a_hp ft ins rs S h = some x) : a_sws ins = false := by
  cases ins <;> first | rfl | (simp [a_hp] at h2; done)
theorem hp_nz {ft : aF} {ins : Instr} {rs : List Nat} {S S' : List Value} {h h' : aH} {cnd : Prop} (h2 : a_hp ft ins rs S h = some (cnd, S', h')) : a_n h' = a_n h ∧ a_z h' = a_z h := by
  unfold a_hp at h2
  split at h2
  all_goals (try split at h2)
  all_goals (try split at h2)
  all_goals (try split at h2)
  all_goals (first | (cases h2; done) | skip)
  all_goals (obtain ⟨rfl, hz⟩ := Prod.mk.inj (Option.some.inj h2); obtain ⟨rfl, rfl⟩ := Prod.mk.inj hz; exact ⟨rfl, rfl⟩)
theorem br_off {ins : Instr} {S : List Value} {x : Prop × List Value} (h : a_br ins S = some x) : ∃ off, a_off ins = some off ∧ ∀ (b : ClassFile.Cond) (o : Int), (ins = .ifCond b o ∨ ins = .if_icmp b o) → o = off := by
  cases ins <;> first | (simp [a_br] at h; done) | skip
  · exact ⟨_, rfl, fun b o ho => by rcases ho with q | q <;> cases q; rfl⟩
  · exact ⟨_, rfl, fun b o ho => by rcases ho with q | q <;> cases q; rfl⟩
theorem ns_br {ins : Instr} {S : List Value} {x : Prop × List Value} (h : a_br ins S = some x) : a_sws ins = false ∧ a_len ins = 3 := by
  cases ins <;> first | exact ⟨rfl, rfl⟩ | (simp [a_br] at h; done)
theorem ns_ret {ret : Option FieldType} {ins : Instr} {S : List Value} {x : Prop × Option Value} (h : a_ret ret ins S = some x) : a_sws ins = false := by
  cases ins <;> first | rfl | (simp [a_ret] at h; done)
theorem ofInt_lt {z : Int} (h1 : -2147483648 ≤ z) (h2 : z < 2147483648) : (Int32.ofInt z).toInt = z := Int32.toInt_ofInt_of_le h1 h2
section
variable {p : Program} {l : Launch} {e : Env} {R : Room} {s : State} {m : MethodId} {args : Array Value} {below : List Frame} {meth : Method} {c : Code} {H : Heap} {locs : List Loc} {cells slots : Nat} {Q : State → Prop} {cc : ByteArray} {pc : Nat} {ls : Array Slot} {ad : Nat → Nat} {P : List aEnt}
theorem s_sw (hx : p.tables.exec = Jvm.exec) (hb : c.code = cc) {ins : Instr} {rs : List Nat} {S S' : List Value} {x : Int32} {cs : List (Int32 × Nat)} {d : Nat} (hr : a_swR cc P pc ins rs) (h : a_sw ins rs S = some (x, cs, d, S'))
    (k1 : ∀ q ∈ cs, x = q.1 → ∃ z, P[q.2]? = some z ∧ W p l e R s m args below meth c H locs cells slots Q (F0 m z.1 ls (S'.map (vM ad)))) (k2 : (∀ q ∈ cs, ¬ x = q.1) → ∃ z, P[d]? = some z ∧ W p l e R s m args below meth c H locs cells slots Q (F0 m z.1 ls (S'.map (vM ad)))) :
    W p l e R s m args below meth c H locs cells slots Q (F0 m pc ls (S.map (vM ad))) := by
  unfold a_sw at h
  split at h
  · rename_i dd lo hi offs x9 S9 d9 ts
    simp only [Option.some.injEq, Prod.mk.injEq] at h
    obtain ⟨rfl, rfl, rfl, rfl⟩ := h
    obtain ⟨⟨len, hd⟩, r1, r2, r3, r4, r5, r6⟩ := hr
    by_cases hin : x9.toInt < lo ∨ hi < x9.toInt
    · obtain ⟨z, hz, k⟩ := k2 (fun q hq hxq => by
        obtain ⟨q0, hq0, rfl⟩ := List.mem_map.mp hq
        have hlt : q0.1 < ts.length := List.mem_range.mp (List.of_mem_zip hq0).1
        rw [hxq] at hin
        simp only at hin
        rw [ofInt_lt (by omega) (by omega)] at hin
        omega)
      exact lv_tableOut hx hb hd hin (r5 z hz) k
    · have h1 : ¬ x9.toInt < lo := fun z => hin (Or.inl z)
      have h2 : ¬ hi < x9.toInt := fun z => hin (Or.inr z)
      have hlt : (x9.toInt - lo).toNat < ts.length := by omega
      obtain ⟨t', ht'⟩ : ∃ t', ts[(x9.toInt - lo).toNat]? = some t' := ⟨_, List.getElem?_eq_getElem hlt⟩
      obtain ⟨o, ho⟩ : ∃ o, offs[(x9.toInt - lo).toNat]? = some o := ⟨_, Array.getElem?_eq_getElem (by omega)⟩
      obtain ⟨z, hz, k⟩ := k1 (Int32.ofInt (lo + (((x9.toInt - lo).toNat : Nat) : Int)), t') (List.mem_map.mpr ⟨((x9.toInt - lo).toNat, t'), List.mem_of_getElem? (i := (x9.toInt - lo).toNat) (by rw [List.getElem?_zip_eq_some]; exact ⟨List.getElem?_range hlt, ht'⟩), rfl⟩) (by
        show x9 = Int32.ofInt (lo + _)
        rw [show lo + (((x9.toInt - lo).toNat : Nat) : Int) = x9.toInt by omega, Int32.ofInt_toInt])
      exact lv_tableIn hx hb hd h1 h2 ho (r6 _ _ _ ho ht' z hz) k
  · rename_i dd ps x9 S9 d9 ts
    simp only [Option.some.injEq, Prod.mk.injEq] at h
    obtain ⟨rfl, rfl, rfl, rfl⟩ := h
    obtain ⟨⟨len, hd⟩, r1, r2, r3, r5, r6⟩ := hr
    have key : ∀ (qs : List (Int × Int)) (us : List Nat), qs.length = us.length → (∀ q ∈ qs, -2147483648 ≤ q.1 ∧ q.1 < 2147483648) → (∃ q ∈ qs.zip us, x9 = Int32.ofInt q.1.1 ∧ Op.lookupswitch.offset qs dd x9.toInt = q.1.2) ∨ ((∀ q ∈ qs.zip us, ¬ x9 = Int32.ofInt q.1.1) ∧ Op.lookupswitch.offset qs dd x9.toInt = dd) := by
      intro qs
      induction qs with
      | nil => intro us _ _; exact Or.inr ⟨fun q hq => by simp at hq, rfl⟩
      | cons q0 qs ih =>
        intro us hl hb9
        cases us with
        | nil => cases hl
        | cons u us =>
          unfold Op.lookupswitch.offset
          by_cases hq : q0.1 = x9.toInt
          · exact Or.inl ⟨(q0, u), List.mem_cons_self, by rw [hq, Int32.ofInt_toInt], if_pos hq⟩
          · rcases ih us (by simpa using hl) (fun q hm => hb9 q (List.mem_cons_of_mem _ hm)) with ⟨q, hm, hx1, ho⟩ | ⟨hn, ho⟩
            · exact Or.inl ⟨q, List.mem_cons_of_mem _ hm, hx1, by rw [if_neg hq]; exact ho⟩
            · refine Or.inr ⟨fun q hm hx1 => ?_, by rw [if_neg hq]; exact ho⟩
              rcases List.mem_cons.mp hm with rfl | hm
              · have hb1 := hb9 q0 List.mem_cons_self
                exact hq (by rw [hx1]; exact (ofInt_lt hb1.1 hb1.2).symm)
              · exact hn q hm hx1
    rcases key ps.toList ts r2 r3 with ⟨q, hm, hx1, ho⟩ | ⟨hn, ho⟩
    · obtain ⟨z, hz, k⟩ := k1 (Int32.ofInt q.1.1, q.2) (List.mem_map.mpr ⟨q, hm, rfl⟩) hx1
      exact lv_lookup hx hb hd r1 ho (r6 q hm z hz) k
    · obtain ⟨z, hz, k⟩ := k2 (fun q hq hx1 => by
        obtain ⟨q0, hq0, rfl⟩ := List.mem_map.mp hq
        exact hn q0 hq0 hx1)
      exact lv_lookup hx hb hd r1 ho (r5 z hz) k
  · cases h
end
