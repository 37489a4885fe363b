/-! THE JVM DOES WHAT THE SMALL MACHINE DOES: the heap -/
def a_A (base : Nat) : Nat → Prop := fun q => base ≤ q
def a_tys (cy : Nat → ClassId) : List (ClassId × FieldType) := [(cy 1, .int), (cy 2, .byte), (cy 3, .long), (cy 4, .object "java/lang/String")]
theorem S_here {A : Nat → Prop} {H0 H : Heap} {locs : List Loc} (h : va_S A H0 H locs) : va_S A H H locs := ⟨Nat.le_refl _, fun _ _ _ => rfl, h.2.2⟩
theorem S_join {A : Nat → Prop} {H0 H H1 : Heap} {locs locs1 : List Loc} (h : va_S A H0 H locs) (h1 : va_S A H H1 locs1) : va_S A H0 H1 locs1 :=
  ⟨Nat.le_trans h.1 h1.1, fun q a b => (h1.2.1 q (Nat.lt_of_lt_of_le a h.1) b).trans (h.2.1 q a b), h1.2.2⟩
/-- an object's field, as the tables tell it -/
def a_fld (Ts : List Cond) (own : String) (cl : List vw_C) (ft : aF) (nf : Nat → Nat) (idx ci f : Nat) : Prop :=
  ∃ (C : String) (T : u_T) (ty : Nat → FieldType), cl[ci]? = some (C, T, nf ci) ∧ f < nf ci ∧ (∀ w ∈ u_ws C T (nf ci), w ∈ Ts) ∧ (∀ k, k < nf ci → parseFieldDescriptor (T k).2.2.1 = some (ty k)) ∧ (∀ a, a < nf ci → ∀ b, b < nf ci → a ≠ b → (T a).2.1 ≠ (T b).2.1) ∧
    (Cond.fieldLink own idx C (T f).2.1 (T f).2.2.1 ∈ Ts ∨ ∃ host, Cond.fieldLinkNest own idx C (T f).2.1 (T f).2.2.1 host ∈ Ts) ∧ (T f).1 = C ∧
    (ft ci f = 0 → ty f = .int) ∧ (ft ci f = 1 → ty f = .boolean) ∧ (ft ci f = 2 → (∃ n, ty f = .object n) ∨ ∃ t, ty f = .array t)
/-- .. that may be written here -/
def a_fldW (Ts : List Cond) (own : String) (cl : List vw_C) (ft : aF) (nf : Nat → Nat) (isI : Bool) (idx ci f : Nat) : Prop :=
  ∃ (C : String) (T : u_T) (ty : Nat → FieldType), cl[ci]? = some (C, T, nf ci) ∧ f < nf ci ∧ (∀ w ∈ u_ws C T (nf ci), w ∈ Ts) ∧ (∀ k, k < nf ci → parseFieldDescriptor (T k).2.2.1 = some (ty k)) ∧ (∀ a, a < nf ci → ∀ b, b < nf ci → a ≠ b → (T a).2.1 ≠ (T b).2.1) ∧
    Cond.fieldLink own idx C (T f).2.1 (T f).2.2.1 ∈ Ts ∧ (T f).1 = C ∧ ((T f).2.2.2 = false ∨ ((T f).2.2.2 = true ∧ isI = true ∧ C = own)) ∧
    (ft ci f = 0 → ty f = .int) ∧ (ft ci f = 1 → ty f = .boolean) ∧ (ft ci f = 2 → (∃ n, ty f = .object n) ∨ ∃ t, ty f = .array t)
theorem spk_ci {k ci : Nat} (h : k = 10 + ci) (hci : ci ≠ 12) : a_spk k = false := by
  unfold a_spk
  simp only [Bool.or_eq_false_iff, beq_eq_false_iff_ne, ne_eq]
  omega
section
variable {p : Program} {l : Launch} {e : Env} {R : Room} {s : State} {m : MethodId} {args : Array Value} {below : List Frame} {meth : Method} {c : Code} {H : Heap} {locs : List Loc} {cells slots : Nat} {Q : State → Prop} {cc : ByteArray} {pc : Nat} {ls : Array Slot} {rest : List Value}
variable {D : va_G} {cl : List vw_C} {ft : aF} {nf : Nat → Nat} {cy sp : Nat → Nat} {base : Nat} {sS : Nat → Nat × Nat} {sI : Nat → Nat → Int32} {sR : Nat → Nat → Option Nat} {h h' : aH} {Ts : List Cond} {own : String}
/-- a written cell: the world behind it -/
theorem W_put (hW : a_W D cl ft nf cy sp base sS sI sR h H) {a : Nat} {E : va_E} {H1 : Heap} (ha : 100 ≤ a ∧ a < a_n h) (hn : a_n h' = a_n h) (hs : a_sh h' = a_sh h) (ho : ∀ j, j ≠ a → a_i h' j = a_i h j ∧ a_r h' j = a_r h j ∧ a_l h' j = a_l h j) (hE : E = a_E ft nf cy (a_ad sp base) h' a)
    (hP : va_P D cl ((a_ws ft nf cy (a_ad sp base) base h).set (a - 100) (base + (a - 100), E)) H1) (hz : H.size ≤ H1.size) : a_W D cl ft nf cy sp base sS sI sR h' H1 := by
  obtain ⟨w1, w2, w3, w4⟩ := hW
  refine ⟨w1.keep hn hs, fun i hi => ?_, by rw [hn]; omega, ?_⟩
  · rw [hs, (ho i (by omega)).1, (ho i (by omega)).2.1]; exact w2 i hi
  · rw [ws_set ha.1 ha.2 hn (fun j hj => E_same (by rw [hs]) (ho j hj).1 (ho j hj).2.1 (ho j hj).2.2) hE] at hP
    exact hP
theorem s_get (hx : p.tables.exec = Jvm.exec) (hb : c.code = cc) (hown : s.vm.findClass own = some m.cls) (hts : ∀ w ∈ Ts, w.before args s = true) (hK : va_K D cl (a_tys cy) s) (hW : a_W D cl ft nf cy sp base sS sI sR h H) {idx ci f a : Nat} (hf : a_fld Ts own cl ft nf idx ci f) (hsh : (a_sh h a).1 = 10 + ci) (hci : ci ≠ 12) (hd : decode cc pc = .ok (.getfield idx, 3)) {v : Value}
    (hv : v = if ft ci f = 2 then va_rf ((a_r h a f).map (a_ad sp base)) else .int (a_i h a f))
    (k : W p l e R s m args below meth c H locs cells slots Q (F0 m (pc + 3) ls (v :: rest))) : W p l e R s m args below meth c H locs cells slots Q (F0 m pc ls (.ref (a_ad sp base a) :: rest)) := by
  obtain ⟨C, T, ty, hc, hN, hin, hty, hnm, hlk, hdecl, -⟩ := hf
  have ha := hW.1.in_heap (i := a) (by omega) (spk_ci hsh hci)
  have he := ws_get (ft := ft) (nf := nf) (cy := cy) (ad := a_ad sp base) (base := base) (h := h) ha.1 ha.2
  rw [E_obj hsh] at he
  rw [a_ad_hi ha.1]
  rcases hlk with hlk | ⟨host, hlk⟩
  · exact va_get hx hb hts hin hown hK hW.2.2.2 (a - 100) he hc f hN (hts _ hlk) (fun x hx => by rw [hdecl] at hx; exact hx) (by rw [fs_get hN, hv]) hd k
  · exact va_getN hx hb hts hin hown hK hW.2.2.2 (a - 100) he hc f hN (hts _ hlk) (fun x hx => by rw [hdecl] at hx; exact hx) (by rw [fs_get hN, hv]) hd k
theorem s_put (hx : p.tables.exec = Jvm.exec) (hb : c.code = cc) (hown : s.vm.findClass own = some m.cls) (hts : ∀ w ∈ Ts, w.before args s = true) (hK : va_K D cl (a_tys cy) s) (hW : a_W D cl ft nf cy sp base sS sI sR h H) (hS : va_S (a_A base) s.heap H locs) {idx ci f a : Nat} {isI : Bool} (hI : isI = true → meth.name = "<init>") (hf : a_fldW Ts own cl ft nf isI idx ci f) (hsh : (a_sh h a).1 = 10 + ci) (hci : ci ≠ 12) (hd : decode cc pc = .ok (.putfield idx, 3)) {v : Value}
    (hv : v = if ft ci f = 2 then va_rf ((a_r h' a f).map (a_ad sp base)) else .int (a_i h' a f)) (hn : a_n h' = a_n h) (hs : a_sh h' = a_sh h) (ho : ∀ j, j ≠ a → a_i h' j = a_i h j ∧ a_r h' j = a_r h j ∧ a_l h' j = a_l h j) (ho2 : ∀ j, j ≠ f → a_i h' a j = a_i h a j ∧ a_r h' a j = a_r h a j)
    (hfit : ∀ ty, ((ft ci f = 0 → ty = .int) ∧ (ft ci f = 1 → ty = .boolean) ∧ (ft ci f = 2 → (∃ n, ty = .object n) ∨ ∃ t, ty = .array t)) → narrow ty v = v ∧ fits ty v = true)
    (k : ∀ (H1 : Heap) (locs1 : List Loc), a_W D cl ft nf cy sp base sS sI sR h' H1 → va_S (a_A base) s.heap H1 locs1 → W p l e R s m args below meth c H1 locs1 cells slots Q (F0 m (pc + 3) ls rest)) : W p l e R s m args below meth c H locs cells slots Q (F0 m pc ls (v :: .ref (a_ad sp base a) :: rest)) := by
  obtain ⟨C, T, ty, hc, hN, hin, hty, hnm, hlk, hdecl, hfin, hty3⟩ := hf
  have ha := hW.1.in_heap (i := a) (by omega) (spk_ci hsh hci)
  have he := ws_get (ft := ft) (nf := nf) (cy := cy) (ad := a_ad sp base) (base := base) (h := h) ha.1 ha.2
  rw [E_obj hsh] at he
  rw [a_ad_hi ha.1]
  obtain ⟨hn1, hf1⟩ := hfit (ty f) hty3
  have hE : (Sum.inr (ci, (a_fs ft (a_ad sp base) h ci a (nf ci)).set f v) : va_E) = a_E ft nf cy (a_ad sp base) h' a := by
    rw [E_obj (by rw [hs]; exact hsh), fs_set hv ho2]
  rcases hfin with hfin | ⟨hfin, hin2, hCo⟩
  · exact va_put hx hb hts hin ty hty hnm hown hK hW.2.2.2 (A := a_A base) ws_D (S_here hS) (a - 100) he hc f hN (hts _ hlk) (fun x hx => by rw [hdecl] at hx; exact hx) hfin (hty f hN) hn1 hf1 (by rw [fs_len]; exact hN) hd
      (fun H1 locs1 hP1 _ hS1 => k H1 locs1 (W_put hW ha hn hs ho hE hP1 hS1.1) (S_join hS hS1))
  · exact va_putF hx hb hts hin ty hty hnm hown hK hW.2.2.2 (A := a_A base) ws_D (S_here hS) (a - 100) he hc f hN (hts _ hlk) (fun x hx => by rw [hdecl] at hx; exact hx) hfin (hI hin2) (hdecl.trans hCo) (hty f hN) hn1 hf1 (by rw [fs_len]; exact hN) hd
      (fun H1 locs1 hP1 _ hS1 => k H1 locs1 (W_put hW ha hn hs ho hE hP1 hS1.1) (S_join hS hS1))
theorem up2_ne {α : Type} {f : Nat → Nat → α} {c k : Nat} {x : α} {j : Nat} (hj : j ≠ c) : a_up2 f c k x j = f j := by funext i; unfold a_up2; rw [if_neg hj]
theorem up2_at {α : Type} {f : Nat → Nat → α} {c k : Nat} {x : α} : a_up2 f c k x c k = x := by unfold a_up2; rw [if_pos rfl, if_pos rfl]
theorem up2_at_ne {α : Type} {f : Nat → Nat → α} {c k : Nat} {x : α} {j : Nat} (hj : j ≠ k) : a_up2 f c k x c j = f c j := by unfold a_up2; rw [if_pos rfl, if_neg hj]
theorem up2_row (f : Nat → Nat → Int32) (c k : Nat) (x : Int32) : a_up2 f c k x c = upd (f c) k x := by funext j; unfold a_up2 upd; rw [if_pos rfl]
theorem up2_rowL (f : Nat → Nat → Int64) (c k : Nat) (x : Int64) : a_up2 f c k x c = vp_updL (f c) k x := by funext j; unfold a_up2 vp_updL; rw [if_pos rfl]
theorem s_iald (hx : p.tables.exec = Jvm.exec) (hb : c.code = cc) (hK : va_K D cl (a_tys cy) s) (hW : a_W D cl ft nf cy sp base sS sI sR h H) {a : Nat} {i : Int32} (hsh : (a_sh h a).1 = 1) (hin : vp_in i (a_sh h a).2) (hd : decode cc pc = .ok (.iaload, 1))
    (k : W p l e R s m args below meth c H locs cells slots Q (F0 m (pc + 1) ls (.int (a_i h a i.toNatClampNeg) :: rest))) : W p l e R s m args below meth c H locs cells slots Q (F0 m pc ls (.int i :: .ref (a_ad sp base a) :: rest)) := by
  have ha := hW.1.in_heap (i := a) (by omega) (by rw [hsh]; rfl)
  have he := ws_get (ft := ft) (nf := nf) (cy := cy) (ad := a_ad sp base) (base := base) (h := h) ha.1 ha.2
  rw [E_arr (Or.inl hsh), hsh] at he
  rw [a_ad_hi ha.1]
  exact va_iald hx hb hK hW.2.2.2 (a - 100) 0 he rfl hin hd k
theorem s_bald (hx : p.tables.exec = Jvm.exec) (hb : c.code = cc) (hK : va_K D cl (a_tys cy) s) (hW : a_W D cl ft nf cy sp base sS sI sR h H) {a : Nat} {i : Int32} (hsh : (a_sh h a).1 = 2) (hin : vp_in i (a_sh h a).2) (hd : decode cc pc = .ok (.baload, 1))
    (k : W p l e R s m args below meth c H locs cells slots Q (F0 m (pc + 1) ls (.int (a_i h a i.toNatClampNeg) :: rest))) : W p l e R s m args below meth c H locs cells slots Q (F0 m pc ls (.int i :: .ref (a_ad sp base a) :: rest)) := by
  have ha := hW.1.in_heap (i := a) (by omega) (by rw [hsh]; rfl)
  have he := ws_get (ft := ft) (nf := nf) (cy := cy) (ad := a_ad sp base) (base := base) (h := h) ha.1 ha.2
  rw [E_arr (Or.inr hsh), hsh] at he
  rw [a_ad_hi ha.1]
  exact va_bald hx hb hK hW.2.2.2 (a - 100) 1 he rfl hin hd k
theorem s_lald (hx : p.tables.exec = Jvm.exec) (hb : c.code = cc) (hK : va_K D cl (a_tys cy) s) (hW : a_W D cl ft nf cy sp base sS sI sR h H) {a : Nat} {i : Int32} (hsh : (a_sh h a).1 = 3) (hin : vp_in i (a_sh h a).2) (hd : decode cc pc = .ok (.laload, 1))
    (k : W p l e R s m args below meth c H locs cells slots Q (F0 m (pc + 1) ls (.long (a_l h a i.toNatClampNeg) :: rest))) : W p l e R s m args below meth c H locs cells slots Q (F0 m pc ls (.int i :: .ref (a_ad sp base a) :: rest)) := by
  have ha := hW.1.in_heap (i := a) (by omega) (by rw [hsh]; rfl)
  have he := ws_get (ft := ft) (nf := nf) (cy := cy) (ad := a_ad sp base) (base := base) (h := h) ha.1 ha.2
  rw [E_long hsh] at he
  rw [a_ad_hi ha.1]
  exact va_lald hx hb hK hW.2.2.2 (a - 100) 2 he rfl hin hd k
theorem s_aald (hx : p.tables.exec = Jvm.exec) (hb : c.code = cc) (hK : va_K D cl (a_tys cy) s) (hW : a_W D cl ft nf cy sp base sS sI sR h H) {a : Nat} {i : Int32} (hsh : (a_sh h a).1 = 4) (hin : vp_in i (a_sh h a).2) (hd : decode cc pc = .ok (.aaload, 1))
    (k : W p l e R s m args below meth c H locs cells slots Q (F0 m (pc + 1) ls (va_rf ((a_r h a i.toNatClampNeg).map (a_ad sp base)) :: rest))) : W p l e R s m args below meth c H locs cells slots Q (F0 m pc ls (.int i :: .ref (a_ad sp base a) :: rest)) := by
  have ha := hW.1.in_heap (i := a) (by omega) (by rw [hsh]; rfl)
  have he := ws_get (ft := ft) (nf := nf) (cy := cy) (ad := a_ad sp base) (base := base) (h := h) ha.1 ha.2
  rw [E_ref hsh] at he
  rw [a_ad_hi ha.1]
  exact va_aldq hx hb hK hW.2.2.2 (a - 100) 3 he rfl hin hd k
theorem s_iast (hx : p.tables.exec = Jvm.exec) (hb : c.code = cc) (hK : va_K D cl (a_tys cy) s) (hW : a_W D cl ft nf cy sp base sS sI sR h H) (hS : va_S (a_A base) s.heap H locs) {a : Nat} {i x : Int32} (hsh : (a_sh h a).1 = 1) (hin : vp_in i (a_sh h a).2) (hd : decode cc pc = .ok (.iastore, 1))
    (k : ∀ (H1 : Heap) (locs1 : List Loc), a_W D cl ft nf cy sp base sS sI sR (a_setI h a i.toNatClampNeg x) H1 → va_S (a_A base) s.heap H1 locs1 → W p l e R s m args below meth c H1 locs1 cells slots Q (F0 m (pc + 1) ls rest)) : W p l e R s m args below meth c H locs cells slots Q (F0 m pc ls (.int x :: .int i :: .ref (a_ad sp base a) :: rest)) := by
  have ha := hW.1.in_heap (i := a) (by omega) (by rw [hsh]; rfl)
  have he := ws_get (ft := ft) (nf := nf) (cy := cy) (ad := a_ad sp base) (base := base) (h := h) ha.1 ha.2
  rw [E_arr (Or.inl hsh), hsh] at he
  rw [a_ad_hi ha.1]
  refine va_iast hx hb hK hW.2.2.2 (A := a_A base) ws_D (S_here hS) (a - 100) 0 he rfl hin hd (fun H1 locs1 hP1 _ hS1 => k H1 locs1 (W_put (a := a) hW ha rfl rfl (fun j hj => ⟨up2_ne hj, rfl, rfl⟩) ?_ hP1 hS1.1) (S_join hS hS1))
  rw [E_arr (Or.inl (show (a_sh (a_setI h a i.toNatClampNeg x) a).1 = 1 from hsh))]
  show (Sum.inl (cy 1, (a_sh h a).2, Sum.inl (upd (a_i h a) i.toNatClampNeg x)) : va_E) = Sum.inl (cy (a_sh h a).1, (a_sh h a).2, Sum.inl (a_up2 (a_i h) a i.toNatClampNeg x a))
  rw [hsh, up2_row]
theorem s_bast (hx : p.tables.exec = Jvm.exec) (hb : c.code = cc) (hK : va_K D cl (a_tys cy) s) (hW : a_W D cl ft nf cy sp base sS sI sR h H) (hS : va_S (a_A base) s.heap H locs) {a : Nat} {i x : Int32} (hsh : (a_sh h a).1 = 2) (hin : vp_in i (a_sh h a).2) (hd : decode cc pc = .ok (.bastore, 1))
    (k : ∀ (H1 : Heap) (locs1 : List Loc), a_W D cl ft nf cy sp base sS sI sR (a_setI h a i.toNatClampNeg x.toInt8.toInt32) H1 → va_S (a_A base) s.heap H1 locs1 → W p l e R s m args below meth c H1 locs1 cells slots Q (F0 m (pc + 1) ls rest)) : W p l e R s m args below meth c H locs cells slots Q (F0 m pc ls (.int x :: .int i :: .ref (a_ad sp base a) :: rest)) := by
  have ha := hW.1.in_heap (i := a) (by omega) (by rw [hsh]; rfl)
  have he := ws_get (ft := ft) (nf := nf) (cy := cy) (ad := a_ad sp base) (base := base) (h := h) ha.1 ha.2
  rw [E_arr (Or.inr hsh), hsh] at he
  rw [a_ad_hi ha.1]
  refine va_bast hx hb hK hW.2.2.2 (A := a_A base) ws_D (S_here hS) (a - 100) 1 he rfl hin hd (fun H1 locs1 hP1 _ hS1 => k H1 locs1 (W_put (a := a) hW ha rfl rfl (fun j hj => ⟨up2_ne hj, rfl, rfl⟩) ?_ hP1 hS1.1) (S_join hS hS1))
  rw [E_arr (Or.inr (show (a_sh (a_setI h a i.toNatClampNeg x.toInt8.toInt32) a).1 = 2 from hsh))]
  show (Sum.inl (cy 2, (a_sh h a).2, Sum.inl (upd (a_i h a) i.toNatClampNeg (vp_nar .byte x))) : va_E) = Sum.inl (cy (a_sh h a).1, (a_sh h a).2, Sum.inl (a_up2 (a_i h) a i.toNatClampNeg x.toInt8.toInt32 a))
  rw [hsh, up2_row, vp_nar_byte]
theorem s_last (hx : p.tables.exec = Jvm.exec) (hb : c.code = cc) (hK : va_K D cl (a_tys cy) s) (hW : a_W D cl ft nf cy sp base sS sI sR h H) (hS : va_S (a_A base) s.heap H locs) {a : Nat} {i : Int32} {x : Int64} (hsh : (a_sh h a).1 = 3) (hin : vp_in i (a_sh h a).2) (hd : decode cc pc = .ok (.lastore, 1))
    (k : ∀ (H1 : Heap) (locs1 : List Loc), a_W D cl ft nf cy sp base sS sI sR (a_setL h a i.toNatClampNeg x) H1 → va_S (a_A base) s.heap H1 locs1 → W p l e R s m args below meth c H1 locs1 cells slots Q (F0 m (pc + 1) ls rest)) : W p l e R s m args below meth c H locs cells slots Q (F0 m pc ls (.long x :: .int i :: .ref (a_ad sp base a) :: rest)) := by
  have ha := hW.1.in_heap (i := a) (by omega) (by rw [hsh]; rfl)
  have he := ws_get (ft := ft) (nf := nf) (cy := cy) (ad := a_ad sp base) (base := base) (h := h) ha.1 ha.2
  rw [E_long hsh] at he
  rw [a_ad_hi ha.1]
  refine va_last hx hb hK hW.2.2.2 (A := a_A base) ws_D (S_here hS) (a - 100) 2 he rfl hin hd (fun H1 locs1 hP1 _ hS1 => k H1 locs1 (W_put (a := a) hW ha rfl rfl (fun j hj => ⟨rfl, rfl, up2_ne hj⟩) ?_ hP1 hS1.1) (S_join hS hS1))
  rw [E_long (show (a_sh (a_setL h a i.toNatClampNeg x) a).1 = 3 from hsh)]
  show (Sum.inl (cy 3, (a_sh h a).2, Sum.inr (Sum.inl (vp_updL (a_l h a) i.toNatClampNeg x))) : va_E) = Sum.inl (cy 3, (a_sh h a).2, Sum.inr (Sum.inl (a_up2 (a_l h) a i.toNatClampNeg x a)))
  rw [up2_rowL]
theorem s_aast (hx : p.tables.exec = Jvm.exec) (hb : c.code = cc) (hK : va_K D cl (a_tys cy) s) (hW : a_W D cl ft nf cy sp base sS sI sR h H) (hS : va_S (a_A base) s.heap H locs) {a x : Nat} {i : Int32} (hsh : (a_sh h a).1 = 4) (hin : vp_in i (a_sh h a).2) (hd : decode cc pc = .ok (.aastore, 1))
    (hr : ∃ cellV : Cell, H[a_ad sp base x]? = some cellV ∧ cellV.vm.isStatics = false ∧ s.vm.findClass "java/lang/String" = some cellV.cls)
    (k : ∀ (H1 : Heap) (locs1 : List Loc), a_W D cl ft nf cy sp base sS sI sR (a_setR h a i.toNatClampNeg (some x)) H1 → va_S (a_A base) s.heap H1 locs1 → W p l e R s m args below meth c H1 locs1 cells slots Q (F0 m (pc + 1) ls rest)) : W p l e R s m args below meth c H locs cells slots Q (F0 m pc ls (.ref (a_ad sp base x) :: .int i :: .ref (a_ad sp base a) :: rest)) := by
  have ha := hW.1.in_heap (i := a) (by omega) (by rw [hsh]; rfl)
  have he := ws_get (ft := ft) (nf := nf) (cy := cy) (ad := a_ad sp base) (base := base) (h := h) ha.1 ha.2
  rw [E_ref hsh] at he
  rw [a_ad_hi ha.1]
  refine vb_astq hx hb hK hW.2.2.2 (A := a_A base) ws_D (S_here hS) (a - 100) 3 he rfl hr vb_asgS hin hd (fun H1 locs1 hP1 _ hS1 => k H1 locs1 (W_put (a := a) hW ha rfl rfl (fun j hj => ⟨rfl, up2_ne hj, rfl⟩) ?_ hP1 hS1.1) (S_join hS hS1))
  rw [E_ref (show (a_sh (a_setR h a i.toNatClampNeg (some x)) a).1 = 4 from hsh)]
  show (Sum.inl (cy 4, (a_sh h a).2, Sum.inr (Sum.inr (Sum.inr (Sum.inr (va_up (fun j => (a_r h a j).map (a_ad sp base)) i.toNatClampNeg (some (a_ad sp base x))))))) : va_E) = Sum.inl (cy 4, (a_sh h a).2, Sum.inr (Sum.inr (Sum.inr (Sum.inr (fun j => (a_up2 (a_r h) a i.toNatClampNeg (some x) a j).map (a_ad sp base))))))
  refine congrArg (fun f => (Sum.inl (cy 4, (a_sh h a).2, Sum.inr (Sum.inr (Sum.inr (Sum.inr f)))) : va_E)) ?_
  funext j
  unfold va_up a_up2
  rw [if_pos rfl]
  split <;> rfl
theorem s_alen (hx : p.tables.exec = Jvm.exec) (hb : c.code = cc) (hK : va_K D cl (a_tys cy) s) (hW : a_W D cl ft nf cy sp base sS sI sR h H) {a : Nat} (h1 : 1 ≤ (a_sh h a).1) (h4 : (a_sh h a).1 ≤ 4) (hd : decode cc pc = .ok (.arraylength, 1))
    (k : W p l e R s m args below meth c H locs cells slots Q (F0 m (pc + 1) ls (.int (Int32.ofNat (a_sh h a).2) :: rest))) : W p l e R s m args below meth c H locs cells slots Q (F0 m pc ls (.ref (a_ad sp base a) :: rest)) := by
  have ha := hW.1.in_heap (i := a) (by omega) (by rcases (show (a_sh h a).1 = 1 ∨ (a_sh h a).1 = 2 ∨ (a_sh h a).1 = 3 ∨ (a_sh h a).1 = 4 by omega) with q | q | q | q <;> rw [q] <;> rfl)
  have he := ws_get (ft := ft) (nf := nf) (cy := cy) (ad := a_ad sp base) (base := base) (h := h) ha.1 ha.2
  rw [a_ad_hi ha.1]
  rcases (show (a_sh h a).1 = 1 ∨ (a_sh h a).1 = 2 ∨ (a_sh h a).1 = 3 ∨ (a_sh h a).1 = 4 by omega) with q | q | q | q
  · rw [E_arr (Or.inl q), q] at he
    exact va_alen hx hb hK hW.2.2.2 (a - 100) 0 he rfl rfl hd k
  · rw [E_arr (Or.inr q), q] at he
    exact va_alen hx hb hK hW.2.2.2 (a - 100) 1 he rfl rfl hd k
  · rw [E_long q] at he
    exact va_alen hx hb hK hW.2.2.2 (a - 100) 2 he rfl rfl hd k
  · rw [E_ref q] at he
    exact va_alen hx hb hK hW.2.2.2 (a - 100) 3 he rfl rfl hd k
theorem s_copy (hx : p.tables.exec = Jvm.exec) (hb : c.code = cc) (hml : c.maxLocals = ls.size) (hown : s.vm.findClass own = some m.cls) {idx : Nat} (hlink : (Cond.methodLink own idx arraycopyName).before args s = true) (hnat : (Cond.native arraycopyName).before args s = true) (hstat : (Cond.static arraycopyName).before args s = true) (hini : (Cond.initialized "java/lang/System").before args s = true)
    (hK : va_K D cl (a_tys cy) s) (hW : a_W D cl ft nf cy sp base sS sI sR h H) (hS : va_S (a_A base) s.heap H locs) {a0 a : Nat} {sp0 dp n : Int32} (hsh0 : (a_sh h a0).1 = 1) (hsh : (a_sh h a).1 = 1) (h1 : ¬ sp0 < 0) (h2 : ¬ dp < 0) (h3 : ¬ n < 0) (h4 : sp0.toNatClampNeg + n.toNatClampNeg ≤ (a_sh h a0).2) (h5 : dp.toNatClampNeg + n.toNatClampNeg ≤ (a_sh h a).2)
    (hframes : 1 ≤ R.frames) (hlocals : (rest.map fun v => v.category).sum + (nativeFrameWords "java/lang/System" "arraycopy" 5 + 11) ≤ R.locals) (hd : decode cc pc = .ok (.invokestatic idx, 3))
    (k : ∀ (H1 : Heap) (locs1 : List Loc), a_W D cl ft nf cy sp base sS sI sR (a_row h a (va_cpy (a_i h a0) (a_i h a) sp0.toNatClampNeg dp.toNatClampNeg n.toNatClampNeg)) H1 → va_S (a_A base) s.heap H1 locs1 → W p l e R s m args below meth c H1 locs1 cells slots Q (F0 m (pc + 3) ls rest)) : W p l e R s m args below meth c H locs cells slots Q (F0 m pc ls (.int n :: .int dp :: .ref (a_ad sp base a) :: .int sp0 :: .ref (a_ad sp base a0) :: rest)) := by
  have ha0 := hW.1.in_heap (i := a0) (by omega) (by rw [hsh0]; rfl)
  have ha := hW.1.in_heap (i := a) (by omega) (by rw [hsh]; rfl)
  have he0 := ws_get (ft := ft) (nf := nf) (cy := cy) (ad := a_ad sp base) (base := base) (h := h) ha0.1 ha0.2
  have he := ws_get (ft := ft) (nf := nf) (cy := cy) (ad := a_ad sp base) (base := base) (h := h) ha.1 ha.2
  rw [E_arr (Or.inl hsh0), hsh0] at he0
  rw [E_arr (Or.inl hsh), hsh] at he
  rw [a_ad_hi ha.1, a_ad_hi ha0.1]
  refine va_copyi hx hb hml hown hlink hnat hstat hini hK hW.2.2.2 (A := a_A base) ws_D (S_here hS) (a0 - 100) (a - 100) 0 0 he0 he rfl rfl rfl h1 h2 h3 h4 h5 (fun _ _ => rfl) hframes hlocals hd (fun H1 locs1 hP1 _ hS1 => k H1 locs1 (W_put (a := a) hW ha rfl rfl (fun j hj => ⟨va_up_ne _ _ hj, rfl, rfl⟩) ?_ hP1 hS1.1) (S_join hS hS1))
  rw [E_arr (Or.inl (show (a_sh (a_row h a (va_cpy (a_i h a0) (a_i h a) sp0.toNatClampNeg dp.toNatClampNeg n.toNatClampNeg)) a).1 = 1 from hsh))]
  show (Sum.inl (cy 1, (a_sh h a).2, Sum.inl (va_cpy (a_i h a0) (a_i h a) sp0.toNatClampNeg dp.toNatClampNeg n.toNatClampNeg)) : va_E) = Sum.inl (cy (a_sh h a).1, (a_sh h a).2, Sum.inl (va_up (a_i h) a (va_cpy (a_i h a0) (a_i h a) sp0.toNatClampNeg dp.toNatClampNeg n.toNatClampNeg) a))
  rw [hsh, va_up]
  rw [if_pos rfl]
end
