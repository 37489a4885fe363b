/-! OBJECTS AND ROWS OF TEXTS ARE MADE; A THROWN OBJECT IS CAUGHT -/
/-- a class that may be made here -/
def a_clsR (Ts : List Cond) (own : String) (cl : List vw_C) (ft : aF) (nf : Nat → Nat) (idx ci : Nat) : Prop :=
  ∃ (C : String) (T : u_T) (ty : Nat → FieldType), cl[ci]? = some (C, T, nf ci) ∧ (∀ w ∈ u_ws C T (nf ci), w ∈ Ts) ∧ (∀ k, k < nf ci → parseFieldDescriptor (T k).2.2.1 = some (ty k)) ∧
    (∀ k, k < nf ci → (ft ci k = 2 ∧ ((∃ n, ty k = .object n) ∨ ∃ t, ty k = .array t)) ∨ (¬ ft ci k = 2 ∧ (ty k = .int ∨ ty k = .boolean))) ∧
    Cond.classLink own idx C ∈ Ts ∧ Cond.instantiable C (nf ci) ∈ Ts ∧ Cond.initialized C ∈ Ts
section
variable {p : Program} {l : Launch} {e : Env} {R : Room} {s : State} {m : MethodId} {args : Array Value} {below : List Frame} {meth : Method} {c : Code} {H : Heap} {locs : List Loc} {cells slots : Nat} {Q : State → Prop} {cc : ByteArray} {pc : Nat} {ls : Array Slot} {rest : List Value}
variable {D : va_G} {cl : List vw_C} {ft : aF} {nf : Nat → Nat} {cy sp : Nat → Nat} {base : Nat} {sS : Nat → Nat × Nat} {sI : Nat → Nat → Int32} {sR : Nat → Nat → Option Nat} {h h' : aH} {Ts : List Cond} {own : String} {nw : List Cond} {strs : aStr}
theorem s_new (hx : p.tables.exec = Jvm.exec) (hb : c.code = cc) (hown : s.vm.findClass own = some m.cls) (hts : ∀ w ∈ Ts, w.before args s = true) (hK : va_K D cl (a_tys cy) s) (hW : a_W D cl ft nf cy sp base sS sI sR h H) (hS : va_S (a_A base) s.heap H locs) {idx ci : Nat} (hr : a_clsR Ts own cl ft nf idx ci) (hci : ci ≠ 12) (hz : H.size = base + (a_n h - 100)) (hcells : cells + 1 ≤ R.cells) (hslots : slots + nf ci ≤ R.slots) (hd : decode cc pc = .ok (.new idx, 3))
    (k : ∀ (H1 : Heap), a_W D cl ft nf cy sp base sS sI sR (a_new h (10 + ci, 0)) H1 → va_S (a_A base) s.heap H1 locs → W p l e R s m args below meth c H1 locs (cells + 1) (slots + nf ci) Q (F0 m (pc + 3) ls (.ref (a_ad sp base (a_n h)) :: rest))) : W p l e R s m args below meth c H locs cells slots Q (F0 m pc ls rest) := by
  obtain ⟨C, T, ty, hc, hin, hty, hft, h1, h2, h3⟩ := hr
  have hKn := hK.1 ci _ hc
  refine W.newcK hx hb hown (hts _ h1) (hts _ h2) (hts _ h3) rfl hd hcells hslots hKn.2.1 rfl fun H1 kC hkC e1 z1 o1 => ?_
  have k1 := k H1
  rw [a_ad_hi hW.1.1, ← hz] at k1
  refine k1 (W_new hW hz z1 o1 (show ¬ 10 + ci = 0 by omega) (spk_ci rfl hci) ?_) (S_new hS z1 o1)
  rw [E_obj (by rw [new_sh])]
  refine ⟨_, hc, (u_born ty hts hin hKn hkC e1 hty).to (fun j hj => ?_)⟩
  show defaultValue (ty j) = (a_fs ft (a_ad sp base) (a_new h (10 + ci, 0)) ci (a_n h) (nf ci)).getD j .null
  rw [List.getD_eq_getElem?_getD, fs_get hj, new_i, new_r]
  rcases hft j hj with ⟨q, ⟨n, q2⟩ | ⟨t, q2⟩⟩ | ⟨q, q2 | q2⟩
  · rw [if_pos q, q2]; rfl
  · rw [if_pos q, q2]; rfl
  · rw [if_neg q, q2]; rfl
  · rw [if_neg q, q2]; rfl
theorem s_anew (hx : p.tables.exec = Jvm.exec) (hb : c.code = cc) (hown : s.vm.findClass own = some m.cls) (hK : va_K D cl (a_tys cy) s) (hL : a_Lo nw strs sp base sS sI sR s) (hW : a_W D cl ft nf cy sp base sS sI sR h H) (hS : va_S (a_A base) s.heap H locs) {idx : Nat} (hr : (Cond.classLink own idx "java/lang/String").before args s = true) (hz : H.size = base + (a_n h - 100)) {n : Int32} (hn : ¬ n < 0) (hN : n.toNatClampNeg ≤ 100000) (hcells : cells + 1 ≤ R.cells) (hslots : slots + n.toNatClampNeg ≤ R.slots) (hd : decode cc pc = .ok (.anewarray idx, 3))
    (k : ∀ (H1 : Heap), a_W D cl ft nf cy sp base sS sI sR (a_new h (4, n.toNatClampNeg)) H1 → va_S (a_A base) s.heap H1 locs → W p l e R s m args below meth c H1 locs (cells + 1) (slots + n.toNatClampNeg) Q (F0 m (pc + 3) ls (.ref (a_ad sp base (a_n h)) :: rest))) : W p l e R s m args below meth c H locs cells slots Q (F0 m pc ls (.int n :: rest)) := by
  obtain ⟨-, -, -, -, -, -, -, -, -, -, -, hover, -⟩ := hL
  refine W.anew hx hb hown hr (va_AO.use hover) rfl hd rfl hn (by omega) hcells hslots fun cA kA comp f1 f2 f3 f4 => ?_
  generalize hH1 : H.push ({ cls := cA, slots := Array.replicate n.toNatClampNeg .null, vm := .none } : Cell) = H1
  have z1 : H1.size = H.size + 1 := by rw [← hH1, Array.size_push]
  have e1 : H1[H.size]? = some (arrV cA n.toNatClampNeg (fun _ => .null)) := by rw [← hH1, Array.getElem?_push_size, ← arrV_new]
  have o1 : ∀ q : Nat, q < H.size → H1[q]? = H[q]? := fun q hq => by rw [← hH1, Array.getElem?_push, if_neg (Nat.ne_of_lt hq)]
  have k1 := k H1
  rw [a_ad_hi hW.1.1, ← hz] at k1
  obtain ⟨kA', comp', g1, g2, g3, g4⟩ := (hK.2 3 _ rfl).2
  have hcA : cA = cy 4 := Option.some.inj (f1.symm.trans g4)
  refine k1 (W_new hW hz z1 o1 (show ¬ (4 : Nat) = 0 by decide) rfl ?_) (S_new hS z1 o1)
  rw [E_ref (by rw [new_sh]), new_sh, new_r]
  show H1[H.size]? = some (vp_cell (cy 4) (n.toNatClampNeg, .inr (.inr (.inr (.inr (fun _ => none))))))
  rw [e1, hcA, vp_cell_q]
  rfl
end
