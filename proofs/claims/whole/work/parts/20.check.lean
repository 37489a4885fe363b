/-! A PROGRAM THAT CHECKS THE DATA AGAINST THE TABLES, AND WHY IT MAY BE BELIEVED -/
def aGT : List Cond := lw_tbl.filter goodWord
def aNW : List Cond := lw_tbl.filter a_nest
theorem aGT_good : ∀ w ∈ aGT, goodWord w = true := fun w h => (List.mem_filter.mp h).2
theorem aNW_nest : ∀ w ∈ aNW, a_nest w = true := fun w h => (List.mem_filter.mp h).2
/-- a list in the order of another -/
def subs : List Cond → List Cond → Bool
  | [], _ => true
  | _ :: _, [] => false
  | w :: ws, t :: ts => if w = t then subs ws ts else subs (w :: ws) ts
theorem subs_ok : ∀ (ts ws : List Cond), subs ws ts = true → ∀ w ∈ ws, w ∈ ts := by
  intro ts
  induction ts with
  | nil =>
    intro ws h w hw
    cases ws with
    | nil => cases hw
    | cons a b => cases h
  | cons t ts ih =>
    intro ws h w hw
    cases ws with
    | nil => cases hw
    | cons a b =>
      unfold subs at h
      by_cases e : a = t
      · rw [if_pos e] at h
        rcases List.mem_cons.mp hw with q | q
        · rw [q, e]; exact List.mem_cons_self
        · exact List.mem_cons_of_mem _ (ih b h w q)
      · rw [if_neg e] at h
        exact List.mem_cons_of_mem _ (ih (a :: b) h w hw)
theorem in_GT {ws : List Cond} (h : subs ws tables_1 = true) (hg : ws.all goodWord = true) : ∀ w ∈ ws, w ∈ aGT := fun w hw =>
  List.mem_filter.mpr ⟨List.mem_append_right _ (subs_ok _ _ h w hw), List.all_eq_true.mp hg w hw⟩
theorem in_GTl {ws : List Cond} (h : subs ws lw_tbl = true) (hg : ws.all goodWord = true) : ∀ w ∈ ws, w ∈ aGT := fun w hw =>
  List.mem_filter.mpr ⟨subs_ok _ _ h w hw, List.all_eq_true.mp hg w hw⟩
theorem in_NW {ws : List Cond} (h : subs ws tables_1 = true) (hg : ws.all a_nest = true) : ∀ w ∈ ws, w ∈ aNW := fun w hw =>
  List.mem_filter.mpr ⟨List.mem_append_right _ (subs_ok _ _ h w hw), List.all_eq_true.mp hg w hw⟩
-- the words of the pools
def fW (q : Nat × Nat × Nat × Nat) : Cond := .fieldLink (cnm q.1) q.2.1 (cnm q.2.2.1) (aTd q.2.2.1 q.2.2.2).1 (aTd q.2.2.1 q.2.2.2).2.1
def fNW (q : Nat × Nat × Nat × Nat) : Cond := .fieldLinkNest (cnm q.1) q.2.1 (cnm q.2.2.1) (aTd q.2.2.1 q.2.2.2).1 (aTd q.2.2.1 q.2.2.2).2.1 "SnowCanton"
def fSW (q : Nat × Nat × Nat) : Cond := .fieldLink (cnm q.1) q.2.1 "java/lang/String" (if q.2.2 = 0 then "value" else "coder") (if q.2.2 = 0 then "[B" else "B")
def ymt (k : Nat) : MethodName := match aML[k]? with
  | some M => M.1
  | none => ⟨"", "", ""⟩
def mW (q : Nat × Nat × Nat) : Cond := .methodLink (cnm q.1) q.2.1 (ymt q.2.2)
def mNW (q : Nat × Nat × Nat) : Cond := .methodLinkNest (cnm q.1) q.2.1 (ymt q.2.2) "SnowCanton"
def kW (q : Nat × Nat × String) : Cond := .classLink (cnm q.1) q.2.1 q.2.2
def cW (q : Nat × Nat × Nat) : Cond := .constant (cnm q.1) q.2.1 (Int32.ofNat q.2.2)
def lW (q : Nat × Nat × Nat) : Cond := .constantLong (cnm q.1) q.2.1 (Int64.ofNat q.2.2)
def cdW (k : Nat) : Cond := match aML[k]? with
  | some M => a_cw M
  | none => .tt
theorem w_f : ∀ q ∈ aPF, fW q ∈ aGT := fun q hq => in_GT (ws := aPF.map fW) (by decide +kernel) (by decide +kernel) _ (List.mem_map.mpr ⟨q, hq, rfl⟩)
theorem w_fN : ∀ q ∈ aPFN, fNW q ∈ aNW := fun q hq => in_NW (ws := aPFN.map fNW) (by decide +kernel) (by decide +kernel) _ (List.mem_map.mpr ⟨q, hq, rfl⟩)
theorem w_fS : ∀ q ∈ aPFS, fSW q ∈ aGT := fun q hq => in_GT (ws := aPFS.map fSW) (by decide +kernel) (by decide +kernel) _ (List.mem_map.mpr ⟨q, hq, rfl⟩)
theorem w_m : ∀ q ∈ aPM, mW q ∈ aGT := fun q hq => in_GT (ws := aPM.map mW) (by decide +kernel) (by decide +kernel) _ (List.mem_map.mpr ⟨q, hq, rfl⟩)
theorem w_mN : ∀ q ∈ aPMN, mNW q ∈ aNW := fun q hq => in_NW (ws := aPMN.map mNW) (by decide +kernel) (by decide +kernel) _ (List.mem_map.mpr ⟨q, hq, rfl⟩)
theorem w_k : ∀ q ∈ aPK, kW q ∈ aGT := fun q hq => in_GT (ws := aPK.map kW) (by decide +kernel) (by decide +kernel) _ (List.mem_map.mpr ⟨q, hq, rfl⟩)
theorem w_c : ∀ q ∈ aPC, cW q ∈ aGT := fun q hq => in_GT (ws := aPC.map cW) (by decide +kernel) (by decide +kernel) _ (List.mem_map.mpr ⟨q, hq, rfl⟩)
theorem w_l : ∀ q ∈ aPL, lW q ∈ aGT := fun q hq => in_GT (ws := aPL.map lW) (by decide +kernel) (by decide +kernel) _ (List.mem_map.mpr ⟨q, hq, rfl⟩)
theorem w_s : ∀ q ∈ aKS, Cond.static (ymt q) ∈ aGT := fun q hq => in_GT (ws := aKS.map (fun k => Cond.static (ymt k))) (by decide +kernel) (by decide +kernel) _ (List.mem_map.mpr ⟨q, hq, rfl⟩)
theorem w_i : ∀ q ∈ aKI, Cond.instanceMethod (ymt q) ∈ aGT := fun q hq => in_GT (ws := aKI.map (fun k => Cond.instanceMethod (ymt k))) (by decide +kernel) (by decide +kernel) _ (List.mem_map.mpr ⟨q, hq, rfl⟩)
theorem w_v : ∀ q ∈ aKV, Cond.selects (ymt q).cls (ymt q) (ymt q) ∈ aGT := fun q hq => in_GTl (ws := aKV.map (fun k => Cond.selects (ymt k).cls (ymt k) (ymt k))) (by decide +kernel) (by decide +kernel) _ (List.mem_map.mpr ⟨q, hq, rfl⟩)
theorem w_n : ∀ q ∈ aKN, Cond.initialized (cnm q) ∈ aGT := fun q hq => in_GT (ws := aKN.map (fun k => Cond.initialized (cnm k))) (by decide +kernel) (by decide +kernel) _ (List.mem_map.mpr ⟨q, hq, rfl⟩)
