/-! CALLS, BY THE KIND OF THE INSTRUCTION -/
section
variable {p : Program} {l : Launch} {e : Env} {R : Room} {s : State} {m : MethodId} {args : Array Value} {below : List Frame} {meth : Method} {c : Code} {H : Heap} {locs : List Loc} {cells slots : Nat} {Q : State → Prop} {cc : ByteArray} {pc nL : Nat} {ls : Array Slot}
variable {D : va_G} {cl : List vw_C} {ft : aF} {nf : Nat → Nat} {cy sp : Nat → Nat} {base : Nat} {sS : Nat → Nat × Nat} {sI : Nat → Nat → Int32} {sR : Nat → Nat → Option Nat} {h : aH} {GT nw : List Cond} {own : String} {strs : aStr} {as S' : List Value} {M : aMeth} {np dc ds fr lo : Nat} {Qa : aQ}
theorem a_words (hG : ∀ w ∈ GT, goodWord w = true) (hts : ∀ w ∈ GT ++ nw, w.before args s = true) (hM : a_cw M ∈ GT) : ∀ w ∈ a_cw M :: GT, ∀ (a' : Array Value) (U : State), s.WarmedH U.vm → w.before a' U = true := by
  intro w hw a' U hWm
  have hg : w ∈ GT := by
    rcases List.mem_cons.mp hw with q | q
    · rw [q]; exact hM
    · exact q
  exact word_at hWm (good_of_word (hG w hg)) (hts w (List.mem_append_left _ hg))
theorem a_sig {M : aMeth} (h : a_mOK GT M np) : ∀ sig, parseMethodDescriptor M.1.desc = some sig → np = sig.parameters.length := by
  intro sig hs
  have := h.2.2.2.1
  rw [hs] at this
  exact (Option.some.inj this).symm
theorem cat_rest (ad : Nat → Nat) {S : List Value} (h : (S.map Value.category).sum ≤ 8) : 2 * (F0 m pc ls (S.map (vM ad))).monitorRoom + ((S.map (vM ad)).map fun v => v.category).sum ≤ 8 := lv_room (by rw [cat_map]; exact h)
theorem s_static (hx : p.tables.exec = Jvm.exec) (hb : c.code = cc) (hml : c.maxLocals = nL) (hsz : ls.size = nL) (hown : s.vm.findClass own = some m.cls) (hG : ∀ w ∈ GT, goodWord w = true) (hts : ∀ w ∈ GT ++ nw, w.before args s = true) (hK : va_K D cl (a_tys cy) s) (hL : a_Lo nw strs sp base sS sI sR s) (hW : a_W D cl ft nf cy sp base sS sI sR h H) (hS : va_S (a_A base) s.heap H locs) (hz : a_z h = 0 → H.size = base + (a_n h - 100))
    {i : Nat} (hok : a_mOK GT M np) (hl : Cond.methodLink own i M.1 ∈ GT) (hst : Cond.static M.1 ∈ GT) (hn : as.length = np)
    (hM : vx_Met l M.1 (a_cw M :: GT) { frames := fr, cells := dc, slots := ds, locals := lo } (a_Pc D cl ft nf cy sp base sS sI sR nw strs as h) (a_Qc D cl ft nf cy sp base sS sI sR Qa) (a_XC D cl ft nf cy sp base sS sI sR Qa) dc ds (a_A base)) (hR1 : fr + 1 ≤ R.frames) (hR2 : 8 + (60 + 11) + lo ≤ R.locals)
    (hcat : (S'.map Value.category).sum ≤ 8) (hd : decode cc pc = .ok (.invokestatic i, 3)) (hf : cells + dc ≤ R.cells ∧ slots + ds ≤ R.slots)
    (kk : ∀ (v : Option Value) (h1 : aH) (H1 : Heap) (locs1 : List Loc), Qa (.inl v) h1 → a_W D cl ft nf cy sp base sS sI sR h1 H1 → va_S (a_A base) s.heap H1 locs1 → W p l e R s m args below meth c H1 locs1 (cells + dc) (slots + ds) Q (F0 m (pc + 3) ls ((v.map (vM (a_ad sp base))).toList ++ S'.map (vM (a_ad sp base)))))
    (kx : ∀ (ci : Nat) (h1 : aH) (H1 : Heap) (locs1 : List Loc) (q : Addr) (ce : Cell), Qa (.inr ci) h1 → (ci = 20 ∨ ci = 21) → a_W D cl ft nf cy sp base sS sI sR h1 H1 → va_S (a_A base) s.heap H1 locs1 → H1[q]? = some ce → ce.vm = .none → s.vm.findClass (a_en ci) = some ce.cls → vx_W p l e R s m args below meth c H1 locs1 (cells + dc) (slots + ds) Q (F0 m pc ls (S'.map (vM (a_ad sp base)))) q) :
    W p l e R s m args below meth c H locs cells slots Q (F0 m pc ls ((as.map (vM (a_ad sp base))).reverse ++ S'.map (vM (a_ad sp base)))) := by
  have htg : ∀ w ∈ GT, w.before args s = true := fun w hw => hts w (List.mem_append_left _ hw)
  have hlo : 8 + (M.2.2.1 + 11) + lo ≤ R.locals := by have := hok.2.2.2.2; omega
  have hp : PreS s H (a_Pc D cl ft nf cy sp base sS sI sR nw strs as h) (as.map (vM (a_ad sp base))) := ⟨a_Pc_blind, fun U hU hWm => ⟨rfl, a_B_of hU hWm hW hz hK hL hS⟩⟩
  have hwd := a_words (M := M) hG hts hok.1
  have hcw : a_cw M ∈ a_cw M :: GT := List.mem_cons_self
  have hcb := htg _ hok.1
  refine s_run (a := (as.map (vM (a_ad sp base))).toArray) (st0 := (as.map (vM (a_ad sp base))).reverse ++ S'.map (vM (a_ad sp base))) ?_ hS kk kx
  cases hh : M.2.2.2.2.2.2 with
  | nil =>
    have he : a_cw M = Cond.code M.1 M.2.1 M.2.2.1 M.2.2.2.1 := by unfold a_cw; rw [hh]
    rw [he] at hcb
    exact vx_runS (As := as.map (vM (a_ad sp base))) ⟨hx, hb, hml, hown, hts⟩ hM ⟨⟨rfl, rfl, hR1, hlo, hwd, by rw [← he]; exact hcw, hcb, htg _ hok.2.1, hok.2.2.1, a_sig hok, htg _ hl⟩, htg _ hst⟩ hp rfl (by rw [List.length_map]; exact hn) hsz rfl (cat_rest (m := m) (pc := pc) (ls := ls) _ hcat) hd hf
  | cons x xs =>
    have he : a_cw M = Cond.codeWith M.1 M.2.1 M.2.2.1 M.2.2.2.1 (x :: xs) := by unfold a_cw; rw [hh]
    rw [he] at hcb
    exact vx_runSX (As := as.map (vM (a_ad sp base))) ⟨hx, hb, hml, hown, hts⟩ hM ⟨⟨rfl, rfl, hR1, hlo, hwd, by rw [← he]; exact hcw⟩, hcb, htg _ hok.2.1, hok.2.2.1, a_sig hok, htg _ hl, htg _ hst⟩ hp rfl (by rw [List.length_map]; exact hn) hsz rfl (cat_rest (m := m) (pc := pc) (ls := ls) _ hcat) hd hf
theorem s_virtual (hx : p.tables.exec = Jvm.exec) (hb : c.code = cc) (hml : c.maxLocals = nL) (hsz : ls.size = nL) (hown : s.vm.findClass own = some m.cls) (hG : ∀ w ∈ GT, goodWord w = true) (hts : ∀ w ∈ GT ++ nw, w.before args s = true) (hK : va_K D cl (a_tys cy) s) (hL : a_Lo nw strs sp base sS sI sR s) (hW : a_W D cl ft nf cy sp base sS sI sR h H) (hS : va_S (a_A base) s.heap H locs) (hz : a_z h = 0 → H.size = base + (a_n h - 100))
    {i a ci : Nat} (hok : a_mOK GT M np) (hh : M.2.2.2.2.2.2 = []) (hl : Cond.methodLink own i M.1 ∈ GT) (hin : Cond.instanceMethod M.1 ∈ GT) (hse : Cond.selects M.1.cls M.1 M.1 ∈ GT) (hci : (ci ≠ 12 ∧ ∃ r, cl[ci]? = some r ∧ r.1 = M.1.cls) ∨ (ci = 12 ∧ M.1.cls = "java/lang/String")) (hsh : (a_sh h a).1 = 10 + ci) (hn : as.length = np)
    (hM : vx_Met l M.1 (a_cw M :: GT) { frames := fr, cells := dc, slots := ds, locals := lo } (a_Pc D cl ft nf cy sp base sS sI sR nw strs (.ref a :: as) h) (a_Qc D cl ft nf cy sp base sS sI sR Qa) (a_XC D cl ft nf cy sp base sS sI sR Qa) dc ds (a_A base)) (hR1 : fr + 1 ≤ R.frames) (hR2 : 8 + (60 + 11) + lo ≤ R.locals)
    (hcat : (S'.map Value.category).sum ≤ 8) (hd : decode cc pc = .ok (.invokevirtual i, 3)) (hf : cells + dc ≤ R.cells ∧ slots + ds ≤ R.slots)
    (kk : ∀ (v : Option Value) (h1 : aH) (H1 : Heap) (locs1 : List Loc), Qa (.inl v) h1 → a_W D cl ft nf cy sp base sS sI sR h1 H1 → va_S (a_A base) s.heap H1 locs1 → W p l e R s m args below meth c H1 locs1 (cells + dc) (slots + ds) Q (F0 m (pc + 3) ls ((v.map (vM (a_ad sp base))).toList ++ S'.map (vM (a_ad sp base)))))
    (kx : ∀ (ci : Nat) (h1 : aH) (H1 : Heap) (locs1 : List Loc) (q : Addr) (ce : Cell), Qa (.inr ci) h1 → (ci = 20 ∨ ci = 21) → a_W D cl ft nf cy sp base sS sI sR h1 H1 → va_S (a_A base) s.heap H1 locs1 → H1[q]? = some ce → ce.vm = .none → s.vm.findClass (a_en ci) = some ce.cls → vx_W p l e R s m args below meth c H1 locs1 (cells + dc) (slots + ds) Q (F0 m pc ls (S'.map (vM (a_ad sp base)))) q) :
    W p l e R s m args below meth c H locs cells slots Q (F0 m pc ls ((as.map (vM (a_ad sp base))).reverse ++ .ref (a_ad sp base a) :: S'.map (vM (a_ad sp base)))) := by
  have htg : ∀ w ∈ GT, w.before args s = true := fun w hw => hts w (List.mem_append_left _ hw)
  have hlo : 8 + (M.2.2.1 + 11) + lo ≤ R.locals := by have := hok.2.2.2.2; omega
  have hrecv : ∃ cellB : Cell, H[a_ad sp base a]? = some cellB ∧ cellB.vm.isStatics = false ∧ s.vm.findClass M.1.cls = some cellB.cls := by
    rcases hci with ⟨h12, r, hr, hrc⟩ | ⟨rfl, hrc⟩
    · have ha := hW.1.in_heap (i := a) (by omega) (spk_ci hsh h12)
      have he := ws_get (ft := ft) (nf := nf) (cy := cy) (ad := a_ad sp base) (base := base) (h := h) ha.1 ha.2
      rw [E_obj hsh] at he
      rw [a_ad_hi ha.1, ← hrc]
      exact va_recv hK hW.2.2.2 hr he
    · have ha := hW.1.special (i := a) (by rw [hsh]; rfl)
      rw [(hW.2.1 a ha).1] at hsh
      obtain ⟨cell, g1, g2, g3, g4⟩ := (hL.2.2.2.1 a ha hsh).1
      refine ⟨cell, ?_, g2, by rw [hrc]; exact g3⟩
      rw [a_ad_lo ha, hS.2.1 _ (Array.getElem?_eq_some_iff.mp g1).1 g4]; exact g1
  have hp : PreV s H M.1.cls (a_ad sp base a) (a_Pc D cl ft nf cy sp base sS sI sR nw strs (.ref a :: as) h) (as.map (vM (a_ad sp base))) := ⟨a_Pc_blind, hrecv, fun U hU hWm => ⟨rfl, a_B_of hU hWm hW hz hK hL hS⟩⟩
  have hwd := a_words (M := M) hG hts hok.1
  have hcw : a_cw M ∈ a_cw M :: GT := List.mem_cons_self
  have hcb := htg _ hok.1
  have he : a_cw M = Cond.code M.1 M.2.1 M.2.2.1 M.2.2.2.1 := by unfold a_cw; rw [hh]
  rw [he] at hcb
  refine s_run (a := (Value.ref (a_ad sp base a) :: as.map (vM (a_ad sp base))).toArray) (st0 := (as.map (vM (a_ad sp base))).reverse ++ .ref (a_ad sp base a) :: S'.map (vM (a_ad sp base))) ?_ hS kk kx
  exact vx_runV (As := as.map (vM (a_ad sp base))) ⟨hx, hb, hml, hown, hts⟩ hM ⟨⟨rfl, rfl, hR1, hlo, hwd, by rw [← he]; exact hcw, hcb, htg _ hok.2.1, hok.2.2.1, a_sig hok, htg _ hl⟩, htg _ hin, htg _ hse⟩ hp rfl (by rw [List.length_map]; exact hn) hsz rfl (cat_rest (m := m) (pc := pc) (ls := ls) _ hcat) hd hf
theorem s_special (hx : p.tables.exec = Jvm.exec) (hb : c.code = cc) (hml : c.maxLocals = nL) (hsz : ls.size = nL) (hown : s.vm.findClass own = some m.cls) (hG : ∀ w ∈ GT, goodWord w = true) (hts : ∀ w ∈ GT ++ nw, w.before args s = true) (hK : va_K D cl (a_tys cy) s) (hL : a_Lo nw strs sp base sS sI sR s) (hW : a_W D cl ft nf cy sp base sS sI sR h H) (hS : va_S (a_A base) s.heap H locs) (hz : a_z h = 0 → H.size = base + (a_n h - 100))
    {i a : Nat} (hok : a_mOK GT M np) (hh : M.2.2.2.2.2.2 = []) (hret : M.2.2.2.1 = none) (hnm : M.1.name = "<init>") (hin : Cond.instanceMethod M.1 ∈ GT) (hl : Cond.methodLink own i M.1 ∈ GT ∨ ∃ host, Cond.methodLinkNest own i M.1 host ∈ nw) (hn : as.length = np)
    (hM : vx_Met l M.1 (a_cw M :: GT) { frames := fr, cells := dc, slots := ds, locals := lo } (a_Pc D cl ft nf cy sp base sS sI sR nw strs (.ref a :: as) h) (a_Qc D cl ft nf cy sp base sS sI sR Qa) (a_XC D cl ft nf cy sp base sS sI sR Qa) dc ds (a_A base)) (hno : ∀ ci h1, ¬ Qa (.inr ci) h1) (hR1 : fr + 1 ≤ R.frames) (hR2 : 8 + (60 + 11) + lo ≤ R.locals)
    (hcat : (S'.map Value.category).sum ≤ 8) (hd : decode cc pc = .ok (.invokespecial i, 3)) (hf : cells + dc ≤ R.cells ∧ slots + ds ≤ R.slots)
    (kk : ∀ (v : Option Value) (h1 : aH) (H1 : Heap) (locs1 : List Loc), Qa (.inl v) h1 → a_W D cl ft nf cy sp base sS sI sR h1 H1 → va_S (a_A base) s.heap H1 locs1 → W p l e R s m args below meth c H1 locs1 (cells + dc) (slots + ds) Q (F0 m (pc + 3) ls ((v.map (vM (a_ad sp base))).toList ++ S'.map (vM (a_ad sp base))))) :
    W p l e R s m args below meth c H locs cells slots Q (F0 m pc ls ((as.map (vM (a_ad sp base))).reverse ++ .ref (a_ad sp base a) :: S'.map (vM (a_ad sp base)))) := by
  have htg : ∀ w ∈ GT, w.before args s = true := fun w hw => hts w (List.mem_append_left _ hw)
  have hlo : 8 + (M.2.2.1 + 11) + lo ≤ R.locals := by have := hok.2.2.2.2; omega
  have hp : PreS s H (a_Pc D cl ft nf cy sp base sS sI sR nw strs (.ref a :: as) h) (.ref (a_ad sp base a) :: as.map (vM (a_ad sp base))) := ⟨a_Pc_blind, fun U hU hWm => ⟨rfl, a_B_of hU hWm hW hz hK hL hS⟩⟩
  have hwd := a_words (M := M) hG hts hok.1
  have hcw : a_cw M ∈ a_cw M :: GT := List.mem_cons_self
  have hcb := htg _ hok.1
  have he : a_cw M = Cond.code M.1 M.2.1 M.2.2.1 none := by unfold a_cw; rw [hh, hret]
  rw [he] at hcb
  have hM2 := a_noThrow hM hno
  refine s_runR (a := (Value.ref (a_ad sp base a) :: as.map (vM (a_ad sp base))).toArray) (st0 := (as.map (vM (a_ad sp base))).reverse ++ .ref (a_ad sp base a) :: S'.map (vM (a_ad sp base))) ?_ hS kk
  rcases hl with hl | ⟨host, hl⟩
  · exact va_runI (As := as.map (vM (a_ad sp base))) ⟨hx, hb, hml, hown, hts⟩ hM2 ⟨⟨rfl, rfl, hR1, hlo, hwd, by rw [← he]; exact hcw, hcb, htg _ hok.2.1, hok.2.2.1, a_sig hok, htg _ hl⟩, hnm, htg _ hin⟩ hp rfl (by rw [List.length_map]; exact hn) hsz rfl (cat_rest (m := m) (pc := pc) (ls := ls) _ hcat) hd hf
  · exact va_runIN (host := host) (As := as.map (vM (a_ad sp base))) ⟨hx, hb, hml, hown, hts⟩ hM2 ⟨⟨⟨rfl, rfl, hR1, hlo, hwd, by rw [← he]; exact hcw⟩, hcb, htg _ hok.2.1, hok.2.2.1, a_sig hok, hts _ (List.mem_append_right _ hl)⟩, hnm, htg _ hin⟩ hp rfl (by rw [List.length_map]; exact hn) hsz rfl (cat_rest (m := m) (pc := pc) (ls := ls) _ hcat) hd hf
end
