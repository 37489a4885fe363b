/-! THE WALK: by induction on the steps -/
section
variable {p : Program} {l : Launch} {e : Env} {R : Room} {s : State} {m : MethodId} {args : Array Value} {below : List Frame} {meth : Method} {c : Code} {Q : State → Prop} {cc : ByteArray} {nL : Nat}
variable {D : va_G} {cl : List vw_C} {ft : aF} {nf : Nat → Nat} {cy sp : Nat → Nat} {base : Nat} {sS : Nat → Nat × Nat} {sI : Nat → Nat → Int32} {sR : Nat → Nat → Option Nat} {GT nw : List Cond} {own : String} {strs : aStr} {pr : Nat → Option aMeth} {isI : Bool} {C : aC} {ret : Option FieldType} {P : List aEnt} {hs : List (Nat × Nat × Nat × Nat × Nat)} {Qa : aQ} {fr lo : Nat}
theorem wpL_some {n i : Nat} {L S : List Value} {h : aH} {bc bs : Nat} (hw : wpL ft nf C ret P hs n i L S h bc bs Qa) : ∃ q, P[i]? = some q := by
  cases n with
  | zero => exact hw.elim
  | succ n =>
    cases hP : P[i]? with
    | none => unfold wpL at hw; rw [hP] at hw; exact hw.elim
    | some q => exact ⟨q, rfl⟩
set_option maxHeartbeats 4000000 in
theorem s_main (hx : p.tables.exec = Jvm.exec) (hb : c.code = cc) (hml : c.maxLocals = nL) (hown : s.vm.findClass own = some m.cls) (hG : ∀ w ∈ GT, goodWord w = true) (hts : ∀ w ∈ GT ++ nw, w.before args s = true) (hI : isI = true → meth.name = "<init>") (hK : va_K D cl (a_tys cy) s) (hL : a_Lo nw strs sp base sS sI sR s)
    (hR0 : 40 ≤ R.frames ∧ 1000 ≤ R.locals) (hR1 : fr + 1 ≤ R.frames) (hR2 : 100 + lo ≤ R.locals) (hval : ∀ i q, P[i]? = some q → a_vld GT nw strs own cl ft nf pr isI cc P i q)
    (hC : ∀ k as h dc ds Q, C k as h dc ds Q → ∀ M, pr k = some M → vx_Met l M.1 (a_cw M :: GT) { frames := fr, cells := dc, slots := ds, locals := lo } (a_Pc D cl ft nf cy sp base sS sI sR nw strs as h) (a_Qc D cl ft nf cy sp base sS sI sR Q) (a_XC D cl ft nf cy sp base sS sI sR Q) dc ds (a_A base))
    (hret : ∀ pc ls ins S cnd v h H locs cells slots, decode cc pc = .ok (ins, a_len ins) → a_ret ret ins S = some (cnd, v) → cnd → Qa (.inl v) h → a_W D cl ft nf cy sp base sS sI sR h H → va_S (a_A base) s.heap H locs → cells ≤ R.cells → slots ≤ R.slots → W p l e R s m args below meth c H locs cells slots Q (F0 m pc ls (S.map (vM (a_ad sp base)))))
    (hthr : ∀ pc idx E ls h H locs cells slots, (pc, Instr.new idx, [E, 77]) ∈ P → Qa (.inr E) (a_junk h) → a_W D cl ft nf cy sp base sS sI sR h H → va_S (a_A base) s.heap H locs → ls.size = nL → cells + 1 ≤ R.cells → slots + 6 ≤ R.slots → W p l e R s m args below meth c H locs cells slots Q (F0 m pc ls []))
    (hout : ∀ pc ls ci h H locs q ce rest cells slots, hs = [] → Qa (.inr ci) h → (ci = 20 ∨ ci = 21) → a_W D cl ft nf cy sp base sS sI sR h H → va_S (a_A base) s.heap H locs → H[q]? = some ce → ce.vm = .none → s.vm.findClass (a_en ci) = some ce.cls → cells ≤ R.cells → slots ≤ R.slots → vx_W p l e R s m args below meth c H locs cells slots Q (F0 m pc ls rest) q)
    (hcat : ∀ i q9 ls L ci t x H locs q ce rest cells slots, P[i]? = some q9 → a_hd hs i ci = some (t, x) → a_st L x = true → (ci = 20 ∨ ci = 21) → a_lr (a_ad sp base) ls nL L → a_nd L → H[q]? = some ce → ce.vm = .none → s.vm.findClass (a_en ci) = some ce.cls →
      (∀ ls', a_lr (a_ad sp base) ls' nL (L.set x .null) → a_nd (L.set x .null) → ∀ z, P[t]? = some z → W p l e R s m args below meth c H locs cells slots Q (F0 m z.1 ls' [])) → vx_W p l e R s m args below meth c H locs cells slots Q (F0 m q9.1 ls rest) q) :
    ∀ (n i : Nat) (L S : List Value) (h : aH) (bc bs : Nat) (ls : Array Slot) (H : Heap) (locs : List Loc) (cells slots : Nat), wpL ft nf C ret P hs n i L S h bc bs Qa → a_lr (a_ad sp base) ls nL L → a_nd L → a_W D cl ft nf cy sp base sS sI sR h H → va_S (a_A base) s.heap H locs → (a_z h = 0 → s.heap.size + cells ≤ base + (a_n h - 100)) → cells + bc ≤ R.cells → slots + bs ≤ R.slots →
      ∀ q, P[i]? = some q → W p l e R s m args below meth c H locs cells slots Q (F0 m q.1 ls (S.map (vM (a_ad sp base)))) := by
  have htg : ∀ w ∈ GT, w.before args s = true := fun w hw => hts w (List.mem_append_left _ hw)
  intro n
  induction n with
  | zero => intro i L S h bc bs ls H locs cells slots hw; exact hw.elim
  | succ n ih =>
    intro i L S h bc bs ls H locs cells slots hw hl hnd hW hS hE hbc hbs q hPi
    obtain ⟨v1, v2, v3, v4, v5⟩ := hval i q hPi
    obtain ⟨pc, ins, rs⟩ := q
    dsimp only at v1 v2 v3 v4 v5 ⊢
    have hsz : ls.size = nL := hl.1.1
    have hex : H.size ≤ s.heap.size + cells → a_z h = 0 → H.size = base + (a_n h - 100) := fun a b => by have := hE b; have := hW.2.2.1; omega
    unfold wpL at hw
    rw [hPi] at hw
    dsimp only at hw
    cases e1 : a_pure ins rs S with
    | some S' =>
      rw [e1] at hw
      dsimp only at hw
      obtain ⟨d1, d2⟩ := v1 (ns_pure e1)
      obtain ⟨q2, hq2⟩ := wpL_some hw
      have k := ih (i + 1) L S' h bc bs ls H locs cells slots hw hl hnd hW hS hE hbc hbs q2 hq2
      rw [d2 q2 hq2] at k
      exact s_pure hx hb hown d1 (a_ldc_of hts hL v3) e1 k
    | none =>
    rw [e1] at hw
    dsimp only at hw
    cases e2 : a_loc ins L S with
    | some x =>
      obtain ⟨L', S'⟩ := x
      rw [e2] at hw
      dsimp only at hw
      obtain ⟨d1, d2⟩ := v1 (ns_loc e2)
      obtain ⟨q2, hq2⟩ := wpL_some hw
      refine s_loc hx hb d1 hl hnd e2 (fun ls' hl' hnd' => ?_)
      have k := ih (i + 1) L' S' h bc bs ls' H locs cells slots hw hl' hnd' hW hS hE hbc hbs q2 hq2
      rw [d2 q2 hq2] at k
      exact k
    | none =>
    rw [e2] at hw
    dsimp only at hw
    cases e3 : a_hp ft ins rs S h with
    | some x =>
      obtain ⟨cnd, S', h'⟩ := x
      rw [e3] at hw
      dsimp only at hw
      obtain ⟨hc, hw⟩ := hw
      obtain ⟨d1, d2⟩ := v1 (ns_hp e3)
      obtain ⟨q2, hq2⟩ := wpL_some hw
      obtain ⟨hn9, hz9⟩ := hp_nz e3
      refine s_hp (pr := pr) hx hb (hml.trans hsz.symm) hown hts hI hK hL hW hS (by omega) (by omega) (by omega) (by omega) d1 v4 e3 hc (fun H1 locs1 hW1 hS1 => ?_)
      have k := ih (i + 1) L S' h' bc bs ls H1 locs1 cells slots hw hl hnd hW1 hS1 (by rw [hn9, hz9]; exact hE) hbc hbs q2 hq2
      rw [d2 q2 hq2] at k
      exact k
    | none =>
    rw [e3] at hw
    dsimp only at hw
    cases e4 : a_br ins S with
    | some x =>
      obtain ⟨cnd, S'⟩ := x
      rw [e4] at hw
      dsimp only at hw
      obtain ⟨hs9, h39⟩ := ns_br e4
      obtain ⟨d1, d2⟩ := v1 hs9
      rw [h39] at d2
      obtain ⟨off, hoff, hall⟩ := br_off e4
      obtain ⟨q3, hq3, htgt⟩ := v2 off hoff
      refine s_br hx hb d1 e4 (tgt := q3.1) (fun b o ho => by rw [hall b o ho]; exact htgt) (fun hcnd => ?_) (fun hcnd => ?_)
      · exact ih (rs.headD 0) L S' h bc bs ls H locs cells slots (hw.1 hcnd) hl hnd hW hS hE hbc hbs q3 hq3
      · have hw1 := hw.2 hcnd
        obtain ⟨q2, hq2⟩ := wpL_some hw1
        have k := ih (i + 1) L S' h bc bs ls H locs cells slots hw1 hl hnd hW hS hE hbc hbs q2 hq2
        rw [d2 q2 hq2] at k
        exact k
    | none =>
    rw [e4] at hw
    dsimp only at hw
    split at hw
    · rename_i o
      obtain ⟨d1, d2⟩ := v1 rfl
      obtain ⟨q3, hq3, htgt⟩ := v2 o rfl
      exact lv_goto hx hb d1 htgt (ih (rs.headD 0) L S h bc bs ls H locs cells slots hw hl hnd hW hS hE hbc hbs q3 hq3)
    rename_i hng
    cases e5 : a_call ins rs S h with
    | some x =>
      obtain ⟨cnd, k, as, S', th⟩ := x
      rw [e5] at hw
      dsimp only at hw
      obtain ⟨hc, dc, ds, bc', bs', hbc', hbs', hw⟩ := hw
      refine s_size (fun hsize => ?_)
      have hz := hex hsize
      have hf : cells + dc ≤ R.cells ∧ slots + ds ≤ R.slots := ⟨by omega, by omega⟩
      have hkk : ∀ (v : Option Value) (h1 : aH) (H1 : Heap) (locs1 : List Loc), ((a_z h1 = 0 → a_z h = 0 ∧ a_n h + dc ≤ a_n h1) ∧ wpL ft nf C ret P hs n (i + 1) L (v.toList ++ S') h1 bc' bs' Qa) → a_W D cl ft nf cy sp base sS sI sR h1 H1 → va_S (a_A base) s.heap H1 locs1 → a_len ins = 3 → a_sws ins = false → W p l e R s m args below meth c H1 locs1 (cells + dc) (slots + ds) Q (F0 m (pc + 3) ls ((v.map (vM (a_ad sp base))).toList ++ S'.map (vM (a_ad sp base)))) := by
        intro v h1 H1 locs1 hq hW1 hS1 hlen hsw
        obtain ⟨d1, d2⟩ := v1 hsw
        obtain ⟨q2, hq2⟩ := wpL_some hq.2
        have k9 := ih (i + 1) L (v.toList ++ S') h1 bc' bs' ls H1 locs1 (cells + dc) (slots + ds) hq.2 hl hnd hW1 hS1 (fun z => by have := hE (hq.1 z).1; have := (hq.1 z).2; have := hW.1.1; omega) (by omega) (by omega) q2 hq2
        rw [d2 q2 hq2, hlen, List.map_append] at k9
        have e9 : v.toList.map (vM (a_ad sp base)) = (v.map (vM (a_ad sp base))).toList := by cases v <;> rfl
        rw [e9] at k9
        exact k9
      have hkx : ∀ (ci : Nat) (h1 : aH) (H1 : Heap) (locs1 : List Loc) (q : Addr) (ce : Cell), ((a_z h1 = 0 → a_z h = 0 ∧ a_n h + dc ≤ a_n h1) ∧ th = true ∧ match a_hd hs i ci with | some (t, x) => a_st L x = true ∧ wpL ft nf C ret P hs n t (L.set x .null) [] h1 bc' bs' Qa | none => hs = [] ∧ Qa (.inr ci) h1) → (ci = 20 ∨ ci = 21) → a_W D cl ft nf cy sp base sS sI sR h1 H1 → va_S (a_A base) s.heap H1 locs1 → H1[q]? = some ce → ce.vm = .none → s.vm.findClass (a_en ci) = some ce.cls → vx_W p l e R s m args below meth c H1 locs1 (cells + dc) (slots + ds) Q (F0 m pc ls (S'.map (vM (a_ad sp base)))) q := by
        intro ci h1 H1 locs1 q ce hq hci hW1 hS1 g1 g2 g3
        cases e9 : a_hd hs i ci with
        | none =>
          have hq3 := hq.2.2
          rw [e9] at hq3
          exact hout pc ls ci h1 H1 locs1 q ce _ _ _ hq3.1 hq3.2 hci hW1 hS1 g1 g2 g3 (by omega) (by omega)
        | some tx =>
          obtain ⟨t, x⟩ := tx
          have hq3 := hq.2.2
          rw [e9] at hq3
          refine hcat i (pc, ins, rs) ls L ci t x H1 locs1 q ce _ _ _ hPi e9 hq3.1 hci hl hnd g1 g2 g3 (fun ls' hl' hnd' z hz9 => ?_)
          exact ih t (L.set x .null) [] h1 bc' bs' ls' H1 locs1 (cells + dc) (slots + ds) hq3.2 hl' hnd' hW1 hS1 (fun z => by have := hE (hq.1 z).1; have := (hq.1 z).2; have := hW.1.1; omega) (by omega) (by omega) z hz9
      clear ih
      unfold a_call at e5
      split at e5
      · -- invokevirtual
        split at e5
        · rename_i j k0 n0 ci hif
          split at e5
          · rename_i a as0 hrev
            simp only [Option.some.injEq, Prod.mk.injEq] at e5
            obtain ⟨rfl, rfl, rfl, rfl, rfl⟩ := e5
            obtain ⟨M, np, rfl, hpr, hok, hh, hl1, hin, hse, hcl9⟩ := v4
            obtain ⟨d1, d2⟩ := v1 rfl
            have hlen9 : (S.take (np + 1)).length = np + 1 := by rw [List.length_take]; omega
            have hn9 : as0.length = np := by
              have := congrArg List.length hrev
              rw [List.length_reverse, hlen9] at this
              simp at this; omega
            have hS9 : S.map (vM (a_ad sp base)) = (as0.map (vM (a_ad sp base))).reverse ++ .ref (a_ad sp base a) :: (S.drop (np + 1)).map (vM (a_ad sp base)) := by
              have e0 : S.take (np + 1) = as0.reverse ++ [.ref a] := by
                have := congrArg List.reverse hrev
                rw [List.reverse_reverse] at this
                rw [this]; simp
              conv => lhs; rw [← List.take_append_drop (np + 1) S]
              rw [List.map_append, e0]
              simp [vM]
            rw [hS9]
            exact s_virtual hx hb hml hsz hown hG hts hK hL hW hS hz hok hh hl1 hin hse hcl9 hc hn9 (hC _ _ _ _ _ _ hw M hpr) (by omega) (by omega) hif.2 d1 hf (fun v h1 H1 locs1 hq hW1 hS1 => hkk v h1 H1 locs1 hq hW1 hS1 rfl rfl) hkx
          · cases e5
        · cases e5
      · -- invokespecial
        split at e5
        · rename_i j k0 n0 ci hif
          split at e5
          · rename_i a as0 hrev
            simp only [Option.some.injEq, Prod.mk.injEq] at e5
            obtain ⟨rfl, rfl, rfl, rfl, rfl⟩ := e5
            obtain ⟨M, np, rfl, hpr, hok, hh, hret9, hnm, hin, hl1⟩ := v4
            obtain ⟨d1, d2⟩ := v1 rfl
            have hlen9 : (S.take (np + 1)).length = np + 1 := by rw [List.length_take]; omega
            have hn9 : as0.length = np := by
              have := congrArg List.length hrev
              rw [List.length_reverse, hlen9] at this
              simp at this; omega
            have hS9 : S.map (vM (a_ad sp base)) = (as0.map (vM (a_ad sp base))).reverse ++ .ref (a_ad sp base a) :: (S.drop (np + 1)).map (vM (a_ad sp base)) := by
              have e0 : S.take (np + 1) = as0.reverse ++ [.ref a] := by
                have := congrArg List.reverse hrev
                rw [List.reverse_reverse] at this
                rw [this]; simp
              conv => lhs; rw [← List.take_append_drop (np + 1) S]
              rw [List.map_append, e0]
              simp [vM]
            rw [hS9]
            exact s_special hx hb hml hsz hown hG hts hK hL hW hS hz hok hh hret9 hnm hin hl1 hn9 (hC _ _ _ _ _ _ hw M hpr) (fun ci h1 hq => by have := hq.2.1; cases this) (by omega) (by omega) hif.2 d1 hf (fun v h1 H1 locs1 hq hW1 hS1 => hkk v h1 H1 locs1 hq hW1 hS1 rfl rfl)
          · cases e5
        · cases e5
      · -- invokestatic
        split at e5
        · rename_i j k0 n0 ci hif
          simp only [Option.some.injEq, Prod.mk.injEq] at e5
          obtain ⟨rfl, rfl, rfl, rfl, rfl⟩ := e5
          obtain ⟨M, hpr, hok, hl1, hst⟩ := v4
          obtain ⟨d1, d2⟩ := v1 rfl
          have hn9 : (S.take n0).reverse.length = n0 := by rw [List.length_reverse, List.length_take]; omega
          have hS9 : S.map (vM (a_ad sp base)) = (((S.take n0).reverse).map (vM (a_ad sp base))).reverse ++ (S.drop n0).map (vM (a_ad sp base)) := by
            rw [List.map_reverse, List.reverse_reverse, ← List.map_append, List.take_append_drop]
          rw [hS9]
          exact s_static hx hb hml hsz hown hG hts hK hL hW hS hz hok hl1 hst hn9 (hC _ _ _ _ _ _ hw M hpr) (by omega) (by omega) hif.2 d1 hf (fun v h1 H1 locs1 hq hW1 hS1 => hkk v h1 H1 locs1 hq hW1 hS1 rfl rfl) hkx
        · cases e5
      · cases e5
    | none =>
    rw [e5] at hw
    dsimp only at hw
    cases e6 : a_ret ret ins S with
    | some x =>
      obtain ⟨cnd, v⟩ := x
      rw [e6] at hw
      dsimp only at hw
      exact hret pc ls ins S cnd v h H locs cells slots (v1 (ns_ret e6)).1 e6 hw.1 hw.2 hW hS (by omega) (by omega)
    | none =>
    rw [e6] at hw
    dsimp only at hw
    cases e7 : a_sw ins rs S with
    | some x =>
      obtain ⟨x, cs, d, S'⟩ := x
      rw [e7] at hw
      dsimp only at hw
      refine s_sw hx hb v5 e7 (fun q hq hxq => ?_) (fun hno => ?_)
      · obtain ⟨z, hz⟩ := wpL_some (hw.1 q hq hxq)
        exact ⟨z, hz, ih q.2 L S' h bc bs ls H locs cells slots (hw.1 q hq hxq) hl hnd hW hS hE hbc hbs z hz⟩
      · obtain ⟨z, hz⟩ := wpL_some (hw.2 hno)
        exact ⟨z, hz, ih d L S' h bc bs ls H locs cells slots (hw.2 hno) hl hnd hW hS hE hbc hbs z hz⟩
    | none =>
    rw [e7] at hw
    dsimp only at hw
    cases e8 : a_thr ins rs S with
    | some E =>
      rw [e8] at hw
      dsimp only at hw
      obtain ⟨⟨bc', bs', h1, h2⟩, hq⟩ := hw
      unfold a_thr at e8
      split at e8
      · cases e8
        exact hthr pc _ E ls h H locs cells slots (List.mem_of_getElem? hPi) hq hW hS hsz (by omega) (by omega)
      · cases e8
    | none =>
    rw [e8] at hw
    dsimp only at hw
    cases e9 : a_mk nf ins rs S with
    | some x =>
      obtain ⟨cnd, sl, sh, S'⟩ := x
      rw [e9] at hw
      dsimp only at hw
      obtain ⟨hc, hz0, bc', bs', hb1, hb2, hw⟩ := hw
      refine s_size (fun hsize => ?_)
      have hz := hex hsize hz0
      obtain ⟨q2, hq2⟩ := wpL_some hw
      have hk9 : ∀ (H1 : Heap), a_W D cl ft nf cy sp base sS sI sR (a_new h sh) H1 → va_S (a_A base) s.heap H1 locs → a_sws ins = false → W p l e R s m args below meth c H1 locs (cells + 1) (slots + sl) Q (F0 m (pc + a_len ins) ls (.ref (a_ad sp base (a_n h)) :: S'.map (vM (a_ad sp base)))) := by
        intro H1 hW1 hS1 hsw
        have k9 := ih (i + 1) L (.ref (a_n h) :: S') (a_new h sh) bc' bs' ls H1 locs (cells + 1) (slots + sl) hw hl hnd hW1 hS1 (fun _ => by
          have h8 := hE hz0
          have h9 := hW.1.1
          show s.heap.size + (cells + 1) ≤ base + (a_n h + 1 - 100)
          omega) (by omega) (by omega) q2 hq2
        rw [(v1 hsw).2 q2 hq2] at k9
        exact k9
      clear ih
      unfold a_mk at e9
      split at e9
      · split at e9
        · simp only [Option.some.injEq, Prod.mk.injEq] at e9
          obtain ⟨rfl, rfl, rfl, rfl⟩ := e9
          exact s_new hx hb hown hts hK hW hS v4.2 v4.1 hz (by omega) (by omega) (v1 rfl).1 (fun H1 hW1 hS1 => hk9 H1 hW1 hS1 rfl)
        · cases e9
      · split at e9
        · simp only [Option.some.injEq, Prod.mk.injEq] at e9
          obtain ⟨rfl, rfl, rfl, rfl⟩ := e9
          exact s_newa hx hb hK hW hS (htg _ v4) hz hc.1 hc.2 (Or.inl ⟨rfl, rfl⟩) (by omega) (by omega) (v1 rfl).1 (fun H1 hW1 hS1 => hk9 H1 hW1 hS1 rfl)
        · cases e9
      · split at e9
        · simp only [Option.some.injEq, Prod.mk.injEq] at e9
          obtain ⟨rfl, rfl, rfl, rfl⟩ := e9
          exact s_newa hx hb hK hW hS (htg _ v4) hz hc.1 hc.2 (Or.inr (Or.inl ⟨rfl, rfl⟩)) (by omega) (by omega) (v1 rfl).1 (fun H1 hW1 hS1 => hk9 H1 hW1 hS1 rfl)
        · cases e9
      · split at e9
        · simp only [Option.some.injEq, Prod.mk.injEq] at e9
          obtain ⟨rfl, rfl, rfl, rfl⟩ := e9
          exact s_newa hx hb hK hW hS (htg _ v4) hz hc.1 hc.2 (Or.inr (Or.inr ⟨rfl, rfl⟩)) (by omega) (by omega) (v1 rfl).1 (fun H1 hW1 hS1 => hk9 H1 hW1 hS1 rfl)
        · cases e9
      · split at e9
        · simp only [Option.some.injEq, Prod.mk.injEq] at e9
          obtain ⟨rfl, rfl, rfl, rfl⟩ := e9
          exact s_anew hx hb hown hK hL hW hS (htg _ v4) hz hc.1 hc.2 (by omega) (by omega) (v1 rfl).1 (fun H1 hW1 hS1 => hk9 H1 hW1 hS1 rfl)
        · cases e9
      · cases e9
    | none =>
      rw [e9] at hw
      exact hw.elim
end
