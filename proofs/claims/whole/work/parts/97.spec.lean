set_option maxHeartbeats 400000
/-! WHAT A TEXT SAYS: the rule's parser -/
/-- a fault (which, where), or where the next token begins, and what was read -/
abbrev PX (α : Type) : Type := (Nat × Nat) ⊕ (Nat × α)
def bdX {α β : Type} (r : PX α) (k : Nat → α → PX β) : PX β := match r with
  | .inl e => .inl e
  | .inr z => k z.1 z.2
abbrev PP : Type := Nat → RS → PX RS
def loP (t : TX) (op : Nat → Option Int32) (sub : PP) : Nat → Nat → RS → PX RS
  | 0, s, q => .inr (s, q)
  | k + 1, s, q => match op s with
    | none => .inr (s, q)
    | some x => bdX (sub (nxN t s) q) (fun s2 q2 => loP t op sub k s2 (adR q2 x))
def leP (t : TX) (op : Nat → Option Int32) (sub : PP) : PP := fun s q => bdX (sub s q) (loP t op sub 700)
def opS (t : TX) (c1 c2 : Nat) (k1 k2 : Nat) (s : Nat) : Option Int32 := cond (sgB t s c1) (some (Int32.ofInt (-8 - (k1 : Int)))) (cond (sgB t s c2) (some (Int32.ofInt (-8 - (k2 : Int)))) none)
def opW (t : TX) (w : List Nat) (k : Nat) (s : Nat) : Option Int32 := cond (wdB t s w) (some (Int32.ofInt (-8 - (k : Int)))) none
def psX {α : Type} (t : TX) (c s : Nat) (q : α) : PX α := cond (sgB t s c) (.inr (nxN t s, q)) (.inl (1, s))
def ptP (t : TX) (ex : PP) : PP := fun s q => cond (sgB t s 40) (bdX (ex (nxN t s) q) (fun s1 q1 => psX t 41 s1 q1)) (if kdN t s = 1 then (if vlI t s = N 0 then .inl (3, s) else .inr (nxN t s, adR q (vlI t s))) else (if nuC t 0 9999 s = 0 then .inr (nxN t s, adR q (N (vaN t s))) else .inl (nuC t 0 9999 s, s)))
def pdP (t : TX) (ex : PP) : PP := leP t (opS t 42 47 6 7) (ptP t ex)
def smP (t : TX) (ex : PP) : PP := leP t (opS t 43 45 4 5) (pdP t ex)
def tsP (t : TX) (ex : PP) : PP := fun s q => bdX (smP t ex s q) (loP t (opS t 60 61 2 3) (smP t ex) 1)
def ntF (t : TX) : Nat → Nat → Nat × Nat
  | 0, s => (0, s)
  | k + 1, s => cond (wdB t s w_not) ((ntF t k (nxN t s)).1 + 1, (ntF t k (nxN t s)).2) (0, s)
def adN (q : RS) : Nat → RS
  | 0 => q
  | n + 1 => adR (adN q n) m7
def noP (t : TX) (ex : PP) : PP := fun s q => cond (wdB t (ntF t 6 s).2 w_not) (.inl (2, (ntF t 6 s).2)) (bdX (tsP t ex (ntF t 6 s).2 q) (fun s2 q2 => .inr (s2, adN q2 (ntF t 6 s).1)))
def anP (t : TX) (ex : PP) : PP := leP t (opW t w_and 1) (noP t ex)
def orP (t : TX) (ex : PP) : PP := leP t (opW t w_or 0) (anP t ex)
def exP (t : TX) : Nat → PP
  | 0 => fun s _ => .inl (if kdN t s = 2 ∨ kdN t s = 1 ∨ sgB t s 40 = true then 2 else 1, s)
  | L + 1 => orP t (exP t L)
/-! what is read is good -/
theorem dp_cg {a b : Nat → Int32} : ∀ n, (∀ j, j < n → a j = b j) → dpF a n = dpF b n := by
  intro n
  induction n with
  | zero => intro _; rfl
  | succ n ih =>
    intro h
    have e := ih (fun j hj => h j (by omega))
    have e2 := h n (by omega)
    unfold dpF
    rw [e, e2]
def exR (u k : Nat) (q q2 : RS) : Prop := q.1 ≤ q2.1 ∧ (∀ j, j < q.1 → q2.2 j = q.2 j) ∧ (∀ j, q.1 ≤ j → j < q2.1 → lgB (q2.2 j) ∧ (¬ q2.2 j ≤ m7 → dpF q2.2 j < dpF q.2 q.1 + u) ∧ (q2.2 j = m7 → 1 ≤ dpF q2.2 j) ∧ (q2.2 j ≤ m7 → q2.2 j ≠ m7 → 2 ≤ dpF q2.2 j)) ∧ dpF q2.2 q2.1 = dpF q.2 q.1 + k
theorem ex_rf {u : Nat} {q : RS} : exR u 0 q q := ⟨Nat.le_refl _, fun _ _ => rfl, fun j h1 h2 => absurd h2 (by omega), rfl⟩
theorem ex_tr {u u1 u2 k k2 : Nat} {q q1 q2 : RS} (h : exR u1 k q q1) (h2 : exR u2 k2 q1 q2) (hu : u1 ≤ u) (hu2 : k + u2 ≤ u) : exR u (k + k2) q q2 := by
  obtain ⟨a1, a2, a3, a4⟩ := h
  obtain ⟨b1, b2', b3, b4⟩ := h2
  have ed : ∀ j, j ≤ q1.1 → dpF q2.2 j = dpF q1.2 j := fun j hj => dp_cg j (fun i hi => b2' i (by omega))
  refine ⟨by omega, fun j hj => by rw [b2' j (by omega), a2 j hj], fun j h1 h2 => ?_, by omega⟩
  by_cases z : j < q1.1
  · rw [b2' j z, ed j (by omega)]
    obtain ⟨c1, c2, c3⟩ := a3 j h1 z
    exact ⟨c1, fun y => Nat.lt_of_lt_of_le (c2 y) (by omega), c3⟩
  · obtain ⟨c1, c2, c3⟩ := b3 j (by omega) h2
    exact ⟨c1, fun y => Nat.lt_of_lt_of_le (c2 y) (by omega), c3⟩
theorem ex_mono {u u' k : Nat} {q q2 : RS} (h : exR u k q q2) (hu : u ≤ u') : exR u' k q q2 := ⟨h.1, h.2.1, fun j h1 h2 => ⟨(h.2.2.1 j h1 h2).1, fun y => Nat.lt_of_lt_of_le ((h.2.2.1 j h1 h2).2.1 y) (by omega), (h.2.2.1 j h1 h2).2.2⟩, h.2.2.2⟩
theorem ex_add {u k k' : Nat} {q q1 : RS} {x : Int32} (h : exR u k q q1) (h1 : lgB x) (h2 : ¬ x ≤ m7 → k < u ∧ k' = k + 1) (h3 : x = m7 → 1 ≤ k ∧ k' = k) (h4 : x ≤ m7 → x ≠ m7 → 2 ≤ k ∧ k' + 1 = k) : exR u k' q (adR q1 x) := by
  obtain ⟨a1, a2, a3, a4⟩ := h
  have ex : (adR q1 x).2 q1.1 = x := up_at
  have eo : ∀ j, j < q1.1 → (adR q1 x).2 j = q1.2 j := fun j hj => up_ne (by omega)
  have ed : ∀ j, j ≤ q1.1 → dpF (adR q1 x).2 j = dpF q1.2 j := fun j hj => dp_cg j (fun i hi => eo i (by omega))
  refine ⟨show q.1 ≤ q1.1 + 1 by omega, fun j hj => by rw [eo j (by omega), a2 j hj], fun j z1 z2 => ?_, ?_⟩
  · by_cases z : j < q1.1
    · rw [eo j z, ed j (by omega)]
      exact a3 j z1 z
    · have e : j = q1.1 := by have : j < q1.1 + 1 := z2; omega
      subst e
      rw [ex, ed _ (Nat.le_refl _), a4]
      exact ⟨h1, fun y => by have := h2 y; omega, fun y => by have := h3 y; omega, fun y y2 => by have := h4 y y2; omega⟩
  · show (if (adR q1 x).2 q1.1 ≤ m7 then (if (adR q1 x).2 q1.1 = m7 then dpF (adR q1 x).2 q1.1 else dpF (adR q1 x).2 q1.1 - 1) else dpF (adR q1 x).2 q1.1 + 1) = _
    rw [ex, ed _ (Nat.le_refl _), a4]
    by_cases y : x ≤ m7
    · rw [if_pos y]
      by_cases y2 : x = m7
      · rw [if_pos y2]; have := h3 y2; omega
      · rw [if_neg y2]; have := h4 y y2; omega
    · rw [if_neg y]; have := h2 y; omega
theorem m8_le : ∀ k : Nat, k < 8 → Int32.ofInt (-8 - (k : Int)) ≤ m7 ∧ Int32.ofInt (-8 - (k : Int)) ≠ m7 := by decide
theorem m1_gt : ∀ k : Nat, k < 6 → ¬ Int32.ofInt (-1 - (k : Int)) ≤ m7 := by decide
theorem N_gt {v : Nat} (h : v ≤ 9999) : ¬ N v ≤ m7 := by
  rw [Int32.le_iff_toInt_le, N_int (by omega)]
  have : m7.toInt = -7 := by decide
  omega
theorem ex_join {u j : Nat} {q q1 : RS} (h : exR u 2 q q1) (hj : j < 8) : exR u 1 q (adR q1 (Int32.ofInt (-8 - (j : Int)))) := ex_add h (Or.inr (Or.inr (Or.inr ⟨j, hj, rfl⟩))) (fun y => absurd (m8_le j hj).1 y) (fun y => absurd y (m8_le j hj).2) (fun _ _ => ⟨Nat.le_refl 2, rfl⟩)
theorem ex_not {u : Nat} {q q1 : RS} (h : exR u 1 q q1) : exR u 1 q (adR q1 m7) := ex_add h (Or.inr (Or.inr (Or.inl rfl))) (fun y => absurd (show m7 ≤ m7 by decide) y) (fun _ => ⟨Nat.le_refl 1, rfl⟩) (fun _ y => absurd rfl y)
theorem ex_num {v : Nat} {q : RS} (h : v ≤ 9999) : exR 1 1 q (adR q (N v)) := ex_add (k := 0) ex_rf (Or.inl ⟨v, h, rfl⟩) (fun _ => ⟨Nat.one_pos, rfl⟩) (fun y => absurd (by rw [y]; decide) (N_gt h)) (fun y => absurd y (N_gt h))
theorem ex_val {k : Nat} {q : RS} (h : k < 6) : exR 1 1 q (adR q (Int32.ofInt (-1 - (k : Int)))) := ex_add (k := 0) ex_rf (Or.inr (Or.inl ⟨k, h, rfl⟩)) (fun _ => ⟨Nat.one_pos, rfl⟩) (fun y => absurd (by rw [y]; decide) (m1_gt k h)) (fun y => absurd y (m1_gt k h))
theorem vl_or {t : TX} {s : Nat} (h : vlI t s ≠ N 0) : ∃ k, k < 6 ∧ vlI t s = Int32.ofInt (-1 - ((k : Nat) : Int)) := by
  revert h
  unfold vlI
  cases wdB t s w_hat with
  | true => intro _; exact ⟨0, by decide, rfl⟩
  | false =>
  cases wdB t s w_far with
  | true => intro _; exact ⟨1, by decide, rfl⟩
  | false =>
  cases wdB t s w_kind with
  | true => intro _; exact ⟨2, by decide, rfl⟩
  | false =>
  cases wdB t s w_has with
  | true => intro _; exact ⟨3, by decide, rfl⟩
  | false =>
  cases wdB t s w_hour with
  | true => intro _; exact ⟨4, by decide, rfl⟩
  | false =>
  cases wdB t s w_tall with
  | true => intro _; exact ⟨5, by decide, rfl⟩
  | false => intro h; exact absurd rfl h
theorem kd_lt {t : TX} {s : Nat} (h : kdN t s ≠ 0) : s < t.1 := Nat.lt_of_not_le (fun z => h (kd_0.mpr z))
theorem sg_lt {t : TX} {s c : Nat} (h : sgB t s c = true) : s < t.1 := kd_lt (by have := (of_decide_eq_true h).1; omega)
theorem wd_lt {t : TX} {s : Nat} {w : List Nat} (h : wdB t s w = true) : s < t.1 := kd_lt (by have := (of_decide_eq_true h).1; omega)
/-- a good parser -/
def gdP (t : TX) (u : Nat) (P : PP) : Prop := ∀ s q, s ≤ t.1 → (∀ c p, P s q = .inl (c, p) → 1 ≤ c ∧ c ≤ 5 ∧ p ≤ t.1) ∧ ∀ s2 q2, P s q = .inr (s2, q2) → s ≤ s2 ∧ s2 ≤ t.1 ∧ q2.1 + s ≤ q.1 + s2 ∧ exR u 1 q q2
def opO (t : TX) (op : Nat → Option Int32) : Prop := ∀ s x, op s = some x → s < t.1 ∧ ∃ k : Nat, k < 8 ∧ x = Int32.ofInt (-8 - (k : Int))
theorem opS_ok {t : TX} {c1 c2 k1 k2 : Nat} (h1 : k1 < 8) (h2 : k2 < 8) : opO t (opS t c1 c2 k1 k2) := by
  intro s x h
  unfold opS at h
  cases q : sgB t s c1 with
  | true => rw [q] at h; exact ⟨sg_lt q, k1, h1, (Option.some.inj h).symm⟩
  | false =>
    rw [q] at h
    cases q2 : sgB t s c2 with
    | true => rw [q2] at h; exact ⟨sg_lt q2, k2, h2, (Option.some.inj h).symm⟩
    | false => rw [q2] at h; cases h
theorem opW_ok {t : TX} {w : List Nat} {k : Nat} (h1 : k < 8) : opO t (opW t w k) := by
  intro s x h
  unfold opW at h
  cases q : wdB t s w with
  | true => rw [q] at h; exact ⟨wd_lt q, k, h1, (Option.some.inj h).symm⟩
  | false => rw [q] at h; cases h
theorem gd_lo {t : TX} {u : Nat} {op : Nat → Option Int32} {sub : PP} (hg : gdP t u sub) (ho : opO t op) : ∀ k s q q0, s ≤ t.1 → exR (u + 1) 1 q0 q → (∀ c p, loP t op sub k s q = .inl (c, p) → 1 ≤ c ∧ c ≤ 5 ∧ p ≤ t.1) ∧ ∀ s2 q2, loP t op sub k s q = .inr (s2, q2) → s ≤ s2 ∧ s2 ≤ t.1 ∧ q2.1 + s ≤ q.1 + s2 ∧ exR (u + 1) 1 q0 q2 := by
  intro k
  induction k with
  | zero =>
    intro s q q0 hs hx
    refine ⟨fun c p h => (by cases h), fun s2 q2 h => ?_⟩
    cases h
    exact ⟨Nat.le_refl _, hs, Nat.le_refl _, hx⟩
  | succ k ih =>
    intro s q q0 hs hx
    show (∀ c p, (match op s with
      | none => Sum.inr (s, q)
      | some x => bdX (sub (nxN t s) q) (fun s2 q2 => loP t op sub k s2 (adR q2 x))) = Sum.inl (c, p) → _) ∧ ∀ s2 q2, (match op s with
      | none => Sum.inr (s, q)
      | some x => bdX (sub (nxN t s) q) (fun s2 q2 => loP t op sub k s2 (adR q2 x))) = Sum.inr (s2, q2) → _
    cases e : op s with
    | none =>
      refine ⟨fun c p h => (by cases h), fun s2 q2 h => ?_⟩
      cases h
      exact ⟨Nat.le_refl _, hs, Nat.le_refl _, hx⟩
    | some x =>
      obtain ⟨hlt, j, hj, rfl⟩ := ho s x e
      have hn := nx_lt hlt
      have hr := hg (nxN t s) q hn.2
      cases e2 : sub (nxN t s) q with
      | inl z =>
        refine ⟨fun c p h => ?_, fun s2 q2 h => by cases h⟩
        have h2 : z = (c, p) := Sum.inl.inj h
        exact hr.1 c p (by rw [e2, h2])
      | inr z =>
        obtain ⟨s1, q1⟩ := z
        obtain ⟨r1, r2, r3, r4⟩ := hr.2 s1 q1 e2
        have hx1 : exR (u + 1) 2 q0 q1 := ex_tr hx r4 (Nat.le_refl _) (by omega)
        have hx2 := ex_join hx1 hj
        obtain ⟨g1, g2⟩ := ih s1 (adR q1 (Int32.ofInt (-8 - (j : Int)))) q0 r2 hx2
        refine ⟨g1, fun s2 q2 h => ?_⟩
        obtain ⟨y1, y2, y3, y4⟩ := g2 s2 q2 h
        have y3' : q2.1 + s1 ≤ q1.1 + 1 + s2 := y3
        exact ⟨by omega, y2, by omega, y4⟩
theorem gd_bd {t : TX} {u k : Nat} {op : Nat → Option Int32} {sub sub2 : PP} (hg : gdP t u sub) (hg2 : gdP t u sub2) (ho : opO t op) : gdP t (u + 1) (fun s q => bdX (sub2 s q) (loP t op sub k)) := by
  intro s q hs
  have hr := hg2 s q hs
  show (∀ c p, bdX (sub2 s q) (loP t op sub k) = Sum.inl (c, p) → _) ∧ ∀ s2 q2, bdX (sub2 s q) (loP t op sub k) = Sum.inr (s2, q2) → _
  cases e : sub2 s q with
  | inl z =>
    refine ⟨fun c p h => ?_, fun s2 q2 h => by cases h⟩
    have h2 : z = (c, p) := Sum.inl.inj h
    exact hr.1 c p (by rw [e, h2])
  | inr z =>
    obtain ⟨s1, q1⟩ := z
    obtain ⟨r1, r2, r3, r4⟩ := hr.2 s1 q1 e
    obtain ⟨g1, g2⟩ := gd_lo hg ho k s1 q1 q r2 (ex_mono r4 (by omega))
    refine ⟨g1, fun s2 q2 h => ?_⟩
    obtain ⟨y1, y2, y3, y4⟩ := g2 s2 q2 h
    exact ⟨by omega, y2, by omega, y4⟩
theorem gd_le {t : TX} {u : Nat} {op : Nat → Option Int32} {sub : PP} (hg : gdP t u sub) (ho : opO t op) : gdP t (u + 1) (leP t op sub) := gd_bd hg hg ho
theorem gd_pt {t : TX} {u : Nat} {ex : PP} (hg : gdP t u ex) (hu : 1 ≤ u) : gdP t u (ptP t ex) := by
  intro s q hs
  unfold ptP
  cases e : sgB t s 40 with
  | true =>
    have hlt := sg_lt e
    have hn := nx_lt hlt
    have hr := hg (nxN t s) q hn.2
    simp only [cond_true]
    cases e2 : ex (nxN t s) q with
    | inl z =>
      refine ⟨fun c p h => ?_, fun s2 q2 h => by cases h⟩
      have h2 : z = (c, p) := Sum.inl.inj h
      exact hr.1 c p (by rw [e2, h2])
    | inr z =>
      obtain ⟨s1, q1⟩ := z
      obtain ⟨r1, r2, r3, r4⟩ := hr.2 s1 q1 e2
      show (∀ c p, psX t 41 s1 q1 = Sum.inl (c, p) → _) ∧ ∀ s2 q2, psX t 41 s1 q1 = Sum.inr (s2, q2) → _
      unfold psX
      cases e3 : sgB t s1 41 with
      | true =>
        have hn1 := nx_lt (sg_lt e3)
        refine ⟨fun c p h => (by cases h), fun s2 q2 h => ?_⟩
        cases h
        exact ⟨by omega, hn1.2, by omega, r4⟩
      | false =>
        refine ⟨fun c p h => ?_, fun s2 q2 h => by cases h⟩
        cases h
        exact ⟨by omega, by omega, r2⟩
  | false =>
    simp only [cond_false]
    by_cases e1 : kdN t s = 1
    · have hn := nx_lt (kd_lt (show kdN t s ≠ 0 by omega))
      rw [if_pos e1]
      by_cases e2 : vlI t s = N 0
      · rw [if_pos e2]
        refine ⟨fun c p h => ?_, fun s2 q2 h => by cases h⟩
        cases h
        exact ⟨by omega, by omega, hs⟩
      · rw [if_neg e2]
        refine ⟨fun c p h => (by cases h), fun s2 q2 h => ?_⟩
        cases h
        obtain ⟨k, hk, ek⟩ := vl_or e2
        refine ⟨by omega, hn.2, show q.1 + 1 + s ≤ q.1 + nxN t s by omega, ?_⟩
        rw [ek]
        exact ex_mono (ex_val hk) hu
    · rw [if_neg e1]
      by_cases e2 : nuC t 0 9999 s = 0
      · rw [if_pos e2]
        refine ⟨fun c p h => (by cases h), fun s2 q2 h => ?_⟩
        cases h
        have e3 : kdN t s = 2 ∧ vaN t s ≤ 9999 := by
          unfold nuC at e2
          by_cases z : kdN t s = 2
          · rw [if_pos z] at e2
            by_cases y : enN t s - s ≤ 4 ∧ 0 ≤ vaN t s ∧ vaN t s ≤ 9999
            · exact ⟨z, y.2.2⟩
            · rw [if_neg y] at e2; cases e2
          · rw [if_neg z] at e2; cases e2
        have hn := nx_lt (kd_lt (show kdN t s ≠ 0 by omega))
        exact ⟨by omega, hn.2, show q.1 + 1 + s ≤ q.1 + nxN t s by omega, ex_mono (ex_num e3.2) hu⟩
      · rw [if_neg e2]
        refine ⟨fun c p h => ?_, fun s2 q2 h => by cases h⟩
        cases h
        refine ⟨by omega, ?_, hs⟩
        unfold nuC
        split
        · split <;> omega
        · omega
theorem nt_le {t : TX} : ∀ k s, s ≤ t.1 → s + (ntF t k s).1 ≤ (ntF t k s).2 ∧ (ntF t k s).2 ≤ t.1 := by
  intro k
  induction k with
  | zero => intro s hs; exact ⟨Nat.le_refl _, hs⟩
  | succ k ih =>
    intro s hs
    unfold ntF
    cases e : wdB t s w_not with
    | true =>
      have hn := nx_lt (wd_lt e)
      have := ih (nxN t s) hn.2
      simp only [cond_true]
      omega
    | false => exact ⟨Nat.le_refl _, hs⟩
theorem ad_1 {q : RS} : ∀ n, (adN q n).1 = q.1 + n := by
  intro n
  induction n with
  | zero => rfl
  | succ n ih =>
    show (adN q n).1 + 1 = _
    rw [ih]; rfl
theorem ex_nots {u : Nat} {q q1 : RS} (h : exR u 1 q q1) : ∀ n, exR u 1 q (adN q1 n) := by
  intro n
  induction n with
  | zero => exact h
  | succ n ih => exact ex_not ih
theorem gd_no {t : TX} {u : Nat} {ex : PP} (hg : gdP t u (tsP t ex)) : gdP t u (noP t ex) := by
  intro s q hs
  have hn := nt_le (t := t) 6 s hs
  unfold noP
  cases e : wdB t (ntF t 6 s).2 w_not with
  | true =>
    refine ⟨fun c p h => ?_, fun s2 q2 h => by cases h⟩
    cases h
    exact ⟨by omega, by omega, hn.2⟩
  | false =>
    simp only [cond_false]
    have hr := hg (ntF t 6 s).2 q hn.2
    cases e2 : tsP t ex (ntF t 6 s).2 q with
    | inl z =>
      refine ⟨fun c p h => ?_, fun s2 q2 h => by cases h⟩
      have h2 : z = (c, p) := Sum.inl.inj h
      exact hr.1 c p (by rw [e2, h2])
    | inr z =>
      obtain ⟨s1, q1⟩ := z
      obtain ⟨r1, r2, r3, r4⟩ := hr.2 s1 q1 e2
      refine ⟨fun c p h => (by cases h), fun s2 q2 h => ?_⟩
      cases h
      refine ⟨by omega, r2, ?_, ex_nots r4 _⟩
      show (adN q1 (ntF t 6 s).1).1 + s ≤ q.1 + s1
      rw [ad_1]
      omega
theorem gd_ex {t : TX} : ∀ L, gdP t (5 * L + 1) (exP t L) := by
  intro L
  induction L with
  | zero =>
    intro s q hs
    refine ⟨fun c p h => ?_, fun s2 q2 h => by cases h⟩
    cases h
    refine ⟨?_, ?_, hs⟩
    · split <;> omega
    · split <;> omega
  | succ L ih =>
    have h1 := gd_pt ih (by omega)
    have h2 : gdP t (5 * L + 2) (pdP t (exP t L)) := gd_le h1 (opS_ok (by omega) (by omega))
    have h3 : gdP t (5 * L + 3) (smP t (exP t L)) := gd_le h2 (opS_ok (by omega) (by omega))
    have h4 : gdP t (5 * L + 4) (tsP t (exP t L)) := gd_bd h3 h3 (opS_ok (by omega) (by omega))
    have h5 := gd_no h4
    have h6 : gdP t (5 * L + 5) (anP t (exP t L)) := gd_le h5 (opW_ok (by omega))
    have h7 : gdP t (5 * L + 6) (orP t (exP t L)) := gd_le h6 (opW_ok (by omega))
    exact h7
