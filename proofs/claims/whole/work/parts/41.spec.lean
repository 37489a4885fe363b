set_option maxHeartbeats 400000
/-! THE SNOW: the document's acts, as functions -/
def m1 : Int32 := Int32.ofInt (-1)
def valF (g : CT) (σ : ST) (p c : Nat) (k : Nat) : Int32 :=
  if k = 0 then N (s_ht σ p) else if k = 1 then farF (N (gw g)) (N (s_pl σ p)) (N c) else if k = 2 then N (gkd g p) else if k = 3 then N (heldN (s_fl σ) (s_ow σ) (N p) (gn g)) else if k = 4 then N (s_hr σ % 24) else N (ghg g (s_pl σ p) + if gkd g p = 2 then 3 else 0)
def wthF (g : CT) (σ : ST) (p c : Nat) : Int32 := if 0 < grs g then evF (gst g) (valF g σ p c) (grs g) 0 else - farF (N (gw g)) (N (s_pl σ p)) (N c)
/-- whose it is, after p people -/
def whoS (g : CT) (σ : ST) (c : Nat) : Nat → Option Nat × Int32
  | 0 => (none, N 0)
  | p + 1 => if touN g σ p c = true then (if (whoS g σ c p).1 = none ∨ (whoS g σ c p).2 < wthF g σ p c then (some p, wthF g σ p c) else whoS g σ c p) else whoS g σ c p
def whoF (g : CT) (σ : ST) (c : Nat) : Option Nat := (whoS g σ c (gp g)).1
theorem whoS_lt {g : CT} {σ : ST} {c : Nat} : ∀ p q, (whoS g σ c p).1 = some q → q < p := by
  intro p
  induction p with
  | zero => intro q h; cases h
  | succ p ih =>
    intro q h
    unfold whoS at h
    split at h
    · split at h
      · cases h; omega
      · have := ih q h; omega
    · have := ih q h; omega
/-- flakes come to a cell; on bare ground they are o's -/
def addF (σ : ST) (c m : Nat) (o : Int32) : ST := if m = 0 then σ else w_fl (w_ow σ (if s_fl σ c = 0 then va_up (s_ow σ) c o else s_ow σ)) (va_up (s_fl σ) c (min 9999 (s_fl σ c + m)))
def fallF (g : CT) (σ : ST) (c m : Nat) : ST := addF σ c m (OI (whoF g σ c))
def flsF (g : CT) (σ : ST) : Nat → ST
  | 0 => σ
  | j + 1 => if gfh g j = s_hr σ % 24 then fallF g (flsF g σ j) (gfc g j) (gfm g j) else flsF g σ j
def hrF (g : CT) (σ : ST) : ST := w_hr (flsF g σ (gf g)) (s_hr σ + 1)
def goF (g : CT) (σ : ST) : Nat → ST
  | 0 => σ
  | n + 1 => hrF g (goF g σ n)
def lessF (σ : ST) (c m : Nat) : ST := w_ow (w_fl σ (va_up (s_fl σ) c (s_fl σ c - m))) (if s_fl σ c - m = 0 then va_up (s_ow σ) c m1 else s_ow σ)
def shiftF (σ : ST) (c : Nat) (to : Option Nat) (m : Nat) : ST := if m = 0 then σ else lessF (match to with
  | none => σ
  | some t => addF σ t m (s_ow σ c)) c m
def blowC (g : CT) (way i : Nat) : Nat := if way = 0 ∨ way = 3 then i else gn g - 1 - i
def blowF (g : CT) (way : Nat) (σ : ST) : Nat → ST
  | 0 => σ
  | i + 1 => shiftF (blowF g way σ i) (blowC g way i) (nbN (gw g) (gn g) (blowC g way i) way) (s_fl (blowF g way σ i) (blowC g way i) / 2)
def lostF (g : CT) (way : Nat) (σ : ST) : Nat → Nat
  | 0 => 0
  | i + 1 => lostF g way σ i + if nbN (gw g) (gn g) (blowC g way i) way = none then s_fl (blowF g way σ i) (blowC g way i) / 2 else 0
def ixW (o : Int32) : Nat := (o + N 1).toNatClampNeg
def watF (σ : ST) (o : Int32) (m : Nat) : ST := w_wt σ (va_up (s_wt σ) (ixW o) (s_wt σ (ixW o) + N m))
def seaB (g : CT) (c : Nat) : Bool := edgeN (gw g) (gn g) (wendN (ghg g) (gw g) (gn g) 25 c) 4
def meltF (g : CT) (much : Nat) (σ : ST) : Nat → ST
  | 0 => σ
  | c + 1 => if min much (s_fl (meltF g much σ c) c) = 0 then meltF g much σ c else lessF (if seaB g c = true then watF (meltF g much σ c) (s_ow (meltF g much σ c) c) (min much (s_fl (meltF g much σ c) c)) else meltF g much σ c) c (min much (s_fl (meltF g much σ c) c))
def wetF (g : CT) (much : Nat) (σ : ST) : Nat → Nat
  | 0 => 0
  | c + 1 => wetF g much σ c + if seaB g c = true then min much (s_fl (meltF g much σ c) c) else 0
def putF (σ : ST) (p c : Nat) : ST := w_pl σ (va_up (s_pl σ) p c)
def hatF (σ : ST) (p h : Nat) : ST := w_ht σ (va_up (s_ht σ) p h)
def touI (g : CT) (σ : ST) (c : Nat) : Nat → Int32
  | 0 => N 0
  | p + 1 => if touN g σ p c = true then touI g σ c p ||| (N 1 <<< (N p &&& 31)) else touI g σ c p
/-! they keep the bounds -/
theorem up_or {α : Type} {r : Nat → α} {k j : Nat} {x : α} : (va_up r k x j = x ∧ j = k) ∨ (va_up r k x j = r j ∧ j ≠ k) := by
  by_cases h : j = k
  · subst h; exact Or.inl ⟨up_at, rfl⟩
  · exact Or.inr ⟨up_ne h, h⟩
theorem ok_add {g : CT} {σ : ST} {c m : Nat} {o : Int32} (h : okS g σ) (ho : o = m1 ∨ ∃ p, p < gp g ∧ o = N p) : okS g (addF σ c m o) := by
  unfold addF
  by_cases hm : m = 0
  · rw [if_pos hm]; exact h
  rw [if_neg hm]
  obtain ⟨h1, h2, h3, h4, h5, h6⟩ := h
  refine ⟨h1, h2, fun j hj => ?_, fun j hj => ?_, h5, fun j hj => ?_⟩
  · simp only [sw_hr_hr, sw_hr_wt, sw_hr_pl, sw_hr_fl, sw_hr_ow, sw_hr_ht, sw_hr_ab, sw_wt_hr, sw_wt_wt, sw_wt_pl, sw_wt_fl, sw_wt_ow, sw_wt_ht, sw_wt_ab, sw_pl_hr, sw_pl_wt, sw_pl_pl, sw_pl_fl, sw_pl_ow, sw_pl_ht, sw_pl_ab, sw_fl_hr, sw_fl_wt, sw_fl_pl, sw_fl_fl, sw_fl_ow, sw_fl_ht, sw_fl_ab, sw_ow_hr, sw_ow_wt, sw_ow_pl, sw_ow_fl, sw_ow_ow, sw_ow_ht, sw_ow_ab, sw_ht_hr, sw_ht_wt, sw_ht_pl, sw_ht_fl, sw_ht_ow, sw_ht_ht, sw_ht_ab, sw_ab_hr, sw_ab_wt, sw_ab_pl, sw_ab_fl, sw_ab_ow, sw_ab_ht, sw_ab_ab]
    rcases up_or (r := s_fl σ) (k := c) (j := j) (x := min 9999 (s_fl σ c + m)) with ⟨e, -⟩ | ⟨e, -⟩ <;> rw [e]
    · omega
    · exact h3 j hj
  · simp only [sw_hr_hr, sw_hr_wt, sw_hr_pl, sw_hr_fl, sw_hr_ow, sw_hr_ht, sw_hr_ab, sw_wt_hr, sw_wt_wt, sw_wt_pl, sw_wt_fl, sw_wt_ow, sw_wt_ht, sw_wt_ab, sw_pl_hr, sw_pl_wt, sw_pl_pl, sw_pl_fl, sw_pl_ow, sw_pl_ht, sw_pl_ab, sw_fl_hr, sw_fl_wt, sw_fl_pl, sw_fl_fl, sw_fl_ow, sw_fl_ht, sw_fl_ab, sw_ow_hr, sw_ow_wt, sw_ow_pl, sw_ow_fl, sw_ow_ow, sw_ow_ht, sw_ow_ab, sw_ht_hr, sw_ht_wt, sw_ht_pl, sw_ht_fl, sw_ht_ow, sw_ht_ht, sw_ht_ab, sw_ab_hr, sw_ab_wt, sw_ab_pl, sw_ab_fl, sw_ab_ow, sw_ab_ht, sw_ab_ab]
    split
    · rcases up_or (r := s_ow σ) (k := c) (j := j) (x := o) with ⟨e, -⟩ | ⟨e, -⟩ <;> rw [e]
      · exact ho
      · exact h4 j hj
    · exact h4 j hj
  · simp only [sw_hr_hr, sw_hr_wt, sw_hr_pl, sw_hr_fl, sw_hr_ow, sw_hr_ht, sw_hr_ab, sw_wt_hr, sw_wt_wt, sw_wt_pl, sw_wt_fl, sw_wt_ow, sw_wt_ht, sw_wt_ab, sw_pl_hr, sw_pl_wt, sw_pl_pl, sw_pl_fl, sw_pl_ow, sw_pl_ht, sw_pl_ab, sw_fl_hr, sw_fl_wt, sw_fl_pl, sw_fl_fl, sw_fl_ow, sw_fl_ht, sw_fl_ab, sw_ow_hr, sw_ow_wt, sw_ow_pl, sw_ow_fl, sw_ow_ow, sw_ow_ht, sw_ow_ab, sw_ht_hr, sw_ht_wt, sw_ht_pl, sw_ht_fl, sw_ht_ow, sw_ht_ht, sw_ht_ab, sw_ab_hr, sw_ab_wt, sw_ab_pl, sw_ab_fl, sw_ab_ow, sw_ab_ht, sw_ab_ab]
    rcases up_or (r := s_fl σ) (k := c) (j := j) (x := min 9999 (s_fl σ c + m)) with ⟨e, -⟩ | ⟨e, hn⟩ <;> rw [e]
    · intro z; omega
    · intro z
      split
      · rw [up_ne hn]; exact h6 j hj z
      · exact h6 j hj z
theorem who_ok {g : CT} {σ : ST} {c : Nat} : OI (whoF g σ c) = m1 ∨ ∃ p, p < gp g ∧ OI (whoF g σ c) = N p := by
  cases h : whoF g σ c with
  | none => exact Or.inl rfl
  | some q => exact Or.inr ⟨q, whoS_lt _ _ h, rfl⟩
theorem ok_fall {g : CT} {σ : ST} {c m : Nat} (h : okS g σ) : okS g (fallF g σ c m) := ok_add h who_ok
theorem hr_add {σ : ST} {c m : Nat} {o : Int32} : s_hr (addF σ c m o) = s_hr σ := by unfold addF; split <;> rfl
theorem fls_hr {g : CT} {σ : ST} : ∀ j, s_hr (flsF g σ j) = s_hr σ := by
  intro j
  induction j with
  | zero => rfl
  | succ j ih =>
    unfold flsF
    split
    · unfold fallF; rw [hr_add]; exact ih
    · exact ih
theorem ok_fls {g : CT} {σ : ST} (h : okS g σ) : ∀ j, okS g (flsF g σ j) := by
  intro j
  induction j with
  | zero => exact h
  | succ j ih =>
    unfold flsF
    split
    · exact ok_fall ih
    · exact ih
theorem ok_hr {g : CT} {σ : ST} (h : okS g σ) (hh : s_hr σ + 1 ≤ 20000) : okS g (hrF g σ) := by
  obtain ⟨-, h2, h3, h4, h5, h6⟩ := ok_fls h (gf g)
  exact ⟨hh, h2, h3, h4, h5, h6⟩
theorem go_hr {g : CT} {σ : ST} : ∀ n, s_hr (goF g σ n) = s_hr σ + n := by
  intro n
  induction n with
  | zero => rfl
  | succ n ih => show s_hr (goF g σ n) + 1 = _; rw [ih]; omega
theorem ok_go {g : CT} {σ : ST} (h : okS g σ) : ∀ n, s_hr σ + n ≤ 20000 → okS g (goF g σ n) := by
  intro n
  induction n with
  | zero => intro _; exact h
  | succ n ih => intro hn; exact ok_hr (ih (by omega)) (by rw [go_hr]; omega)
theorem ok_less {g : CT} {σ : ST} {c m : Nat} (h : okS g σ) : okS g (lessF σ c m) := by
  unfold lessF
  obtain ⟨h1, h2, h3, h4, h5, h6⟩ := h
  refine ⟨h1, h2, fun j hj => ?_, fun j hj => ?_, h5, fun j hj => ?_⟩
  · simp only [sw_hr_hr, sw_hr_wt, sw_hr_pl, sw_hr_fl, sw_hr_ow, sw_hr_ht, sw_hr_ab, sw_wt_hr, sw_wt_wt, sw_wt_pl, sw_wt_fl, sw_wt_ow, sw_wt_ht, sw_wt_ab, sw_pl_hr, sw_pl_wt, sw_pl_pl, sw_pl_fl, sw_pl_ow, sw_pl_ht, sw_pl_ab, sw_fl_hr, sw_fl_wt, sw_fl_pl, sw_fl_fl, sw_fl_ow, sw_fl_ht, sw_fl_ab, sw_ow_hr, sw_ow_wt, sw_ow_pl, sw_ow_fl, sw_ow_ow, sw_ow_ht, sw_ow_ab, sw_ht_hr, sw_ht_wt, sw_ht_pl, sw_ht_fl, sw_ht_ow, sw_ht_ht, sw_ht_ab, sw_ab_hr, sw_ab_wt, sw_ab_pl, sw_ab_fl, sw_ab_ow, sw_ab_ht, sw_ab_ab]
    have := h3 j hj
    rcases up_or (r := s_fl σ) (k := c) (j := j) (x := s_fl σ c - m) with ⟨e, e2⟩ | ⟨e, -⟩ <;> rw [e]
    · subst e2; omega
    · exact this
  · simp only [sw_hr_hr, sw_hr_wt, sw_hr_pl, sw_hr_fl, sw_hr_ow, sw_hr_ht, sw_hr_ab, sw_wt_hr, sw_wt_wt, sw_wt_pl, sw_wt_fl, sw_wt_ow, sw_wt_ht, sw_wt_ab, sw_pl_hr, sw_pl_wt, sw_pl_pl, sw_pl_fl, sw_pl_ow, sw_pl_ht, sw_pl_ab, sw_fl_hr, sw_fl_wt, sw_fl_pl, sw_fl_fl, sw_fl_ow, sw_fl_ht, sw_fl_ab, sw_ow_hr, sw_ow_wt, sw_ow_pl, sw_ow_fl, sw_ow_ow, sw_ow_ht, sw_ow_ab, sw_ht_hr, sw_ht_wt, sw_ht_pl, sw_ht_fl, sw_ht_ow, sw_ht_ht, sw_ht_ab, sw_ab_hr, sw_ab_wt, sw_ab_pl, sw_ab_fl, sw_ab_ow, sw_ab_ht, sw_ab_ab]
    split
    · rcases up_or (r := s_ow σ) (k := c) (j := j) (x := m1) with ⟨e, -⟩ | ⟨e, -⟩ <;> rw [e]
      · exact Or.inl rfl
      · exact h4 j hj
    · exact h4 j hj
  · simp only [sw_hr_hr, sw_hr_wt, sw_hr_pl, sw_hr_fl, sw_hr_ow, sw_hr_ht, sw_hr_ab, sw_wt_hr, sw_wt_wt, sw_wt_pl, sw_wt_fl, sw_wt_ow, sw_wt_ht, sw_wt_ab, sw_pl_hr, sw_pl_wt, sw_pl_pl, sw_pl_fl, sw_pl_ow, sw_pl_ht, sw_pl_ab, sw_fl_hr, sw_fl_wt, sw_fl_pl, sw_fl_fl, sw_fl_ow, sw_fl_ht, sw_fl_ab, sw_ow_hr, sw_ow_wt, sw_ow_pl, sw_ow_fl, sw_ow_ow, sw_ow_ht, sw_ow_ab, sw_ht_hr, sw_ht_wt, sw_ht_pl, sw_ht_fl, sw_ht_ow, sw_ht_ht, sw_ht_ab, sw_ab_hr, sw_ab_wt, sw_ab_pl, sw_ab_fl, sw_ab_ow, sw_ab_ht, sw_ab_ab]
    rcases up_or (r := s_fl σ) (k := c) (j := j) (x := s_fl σ c - m) with ⟨e, e2⟩ | ⟨e, hn⟩ <;> rw [e]
    · intro z; subst e2; rw [if_pos z, up_at]; rfl
    · intro z
      split
      · rw [up_ne hn]; exact h6 j hj z
      · exact h6 j hj z
theorem ok_shift {g : CT} {σ : ST} {c m : Nat} {to : Option Nat} (h : okS g σ) (hc : c < gn g) : okS g (shiftF σ c to m) := by
  unfold shiftF
  split
  · exact h
  · apply ok_less
    split
    · exact h
    · exact ok_add h (h.2.2.2.1 c hc)
theorem blowC_lt {g : CT} {way i : Nat} (hi : i < gn g) : blowC g way i < gn g := by unfold blowC; split <;> omega
theorem ok_blow {g : CT} {σ : ST} {way : Nat} (h : okS g σ) : ∀ i, i ≤ gn g → okS g (blowF g way σ i) := by
  intro i
  induction i with
  | zero => intro _; exact h
  | succ i ih => intro hi; exact ok_shift (ih (by omega)) (blowC_lt (by omega))
theorem ok_wat {g : CT} {σ : ST} {o : Int32} {m : Nat} (h : okS g σ) : okS g (watF σ o m) := h
theorem ok_melt {g : CT} {σ : ST} {much : Nat} (h : okS g σ) : ∀ i, i ≤ gn g → okS g (meltF g much σ i) := by
  intro i
  induction i with
  | zero => intro _; exact h
  | succ i ih =>
    intro hi
    unfold meltF
    have := ih (by omega)
    split
    · exact this
    · apply ok_less
      split
      · exact ok_wat this
      · exact this
theorem ok_put {g : CT} {σ : ST} {p c : Nat} (h : okS g σ) (hc : c < gn g) : okS g (putF σ p c) := by
  obtain ⟨h1, h2, h3, h4, h5, h6⟩ := h
  refine ⟨h1, fun j hj => ?_, h3, h4, h5, h6⟩
  unfold putF
  simp only [sw_hr_hr, sw_hr_wt, sw_hr_pl, sw_hr_fl, sw_hr_ow, sw_hr_ht, sw_hr_ab, sw_wt_hr, sw_wt_wt, sw_wt_pl, sw_wt_fl, sw_wt_ow, sw_wt_ht, sw_wt_ab, sw_pl_hr, sw_pl_wt, sw_pl_pl, sw_pl_fl, sw_pl_ow, sw_pl_ht, sw_pl_ab, sw_fl_hr, sw_fl_wt, sw_fl_pl, sw_fl_fl, sw_fl_ow, sw_fl_ht, sw_fl_ab, sw_ow_hr, sw_ow_wt, sw_ow_pl, sw_ow_fl, sw_ow_ow, sw_ow_ht, sw_ow_ab, sw_ht_hr, sw_ht_wt, sw_ht_pl, sw_ht_fl, sw_ht_ow, sw_ht_ht, sw_ht_ab, sw_ab_hr, sw_ab_wt, sw_ab_pl, sw_ab_fl, sw_ab_ow, sw_ab_ht, sw_ab_ab]
  rcases up_or (r := s_pl σ) (k := p) (j := j) (x := c) with ⟨e, -⟩ | ⟨e, -⟩ <;> rw [e]
  · exact hc
  · exact h2 j hj
theorem ok_hat {g : CT} {σ : ST} {p c : Nat} (h : okS g σ) (hc : c ≤ 3) : okS g (hatF σ p c) := by
  obtain ⟨h1, h2, h3, h4, h5, h6⟩ := h
  refine ⟨h1, h2, h3, h4, fun j hj => ?_, h6⟩
  unfold hatF
  simp only [sw_hr_hr, sw_hr_wt, sw_hr_pl, sw_hr_fl, sw_hr_ow, sw_hr_ht, sw_hr_ab, sw_wt_hr, sw_wt_wt, sw_wt_pl, sw_wt_fl, sw_wt_ow, sw_wt_ht, sw_wt_ab, sw_pl_hr, sw_pl_wt, sw_pl_pl, sw_pl_fl, sw_pl_ow, sw_pl_ht, sw_pl_ab, sw_fl_hr, sw_fl_wt, sw_fl_pl, sw_fl_fl, sw_fl_ow, sw_fl_ht, sw_fl_ab, sw_ow_hr, sw_ow_wt, sw_ow_pl, sw_ow_fl, sw_ow_ow, sw_ow_ht, sw_ow_ab, sw_ht_hr, sw_ht_wt, sw_ht_pl, sw_ht_fl, sw_ht_ow, sw_ht_ht, sw_ht_ab, sw_ab_hr, sw_ab_wt, sw_ab_pl, sw_ab_fl, sw_ab_ow, sw_ab_ht, sw_ab_ab]
  rcases up_or (r := s_ht σ) (k := p) (j := j) (x := c) with ⟨e, -⟩ | ⟨e, -⟩ <;> rw [e]
  · exact hc
  · exact h5 j hj
theorem ok_ab {g : CT} {σ : ST} {x : Int32} (h : okS g σ) : okS g (w_ab σ x) := h
/-! THE CLASS'S ROW OF SNOW, one place of it changed -/
theorem SR.hr {g : CT} {r : Nat → Int32} {σ : ST} {v : Nat} (h : SR g r σ) : SR g (va_up r 0 (N v)) (w_hr σ v) := by
  obtain ⟨h1, h2, h3, h4, h5, h6, h7⟩ := h
  exact ⟨up_at, fun k hk => by rw [up_ne (by omega)]; exact h2 k hk, fun k hk => by rw [up_ne (by omega)]; exact h3 k hk, fun k hk => by rw [up_ne (by omega)]; exact h4 k hk, fun k hk => by rw [up_ne (by omega)]; exact h5 k hk, fun k hk => by rw [up_ne (by omega)]; exact h6 k hk, by rw [up_ne (by omega)]; exact h7⟩
theorem SR.wt {g : CT} {r : Nat → Int32} {σ : ST} {j : Nat} {v : Int32} (h : SR g r σ) (hj : j < 9) : SR g (va_up r (1 + j) v) (w_wt σ (va_up (s_wt σ) j v)) := by
  obtain ⟨h1, h2, h3, h4, h5, h6, h7⟩ := h
  refine ⟨by rw [up_ne (by omega)]; exact h1, fun k hk => ?_, fun k hk => by rw [up_ne (by omega)]; exact h3 k hk, fun k hk => by rw [up_ne (by omega)]; exact h4 k hk, fun k hk => by rw [up_ne (by omega)]; exact h5 k hk, fun k hk => by rw [up_ne (by omega)]; exact h6 k hk, by rw [up_ne (by omega)]; exact h7⟩
  simp only [sw_hr_hr, sw_hr_wt, sw_hr_pl, sw_hr_fl, sw_hr_ow, sw_hr_ht, sw_hr_ab, sw_wt_hr, sw_wt_wt, sw_wt_pl, sw_wt_fl, sw_wt_ow, sw_wt_ht, sw_wt_ab, sw_pl_hr, sw_pl_wt, sw_pl_pl, sw_pl_fl, sw_pl_ow, sw_pl_ht, sw_pl_ab, sw_fl_hr, sw_fl_wt, sw_fl_pl, sw_fl_fl, sw_fl_ow, sw_fl_ht, sw_fl_ab, sw_ow_hr, sw_ow_wt, sw_ow_pl, sw_ow_fl, sw_ow_ow, sw_ow_ht, sw_ow_ab, sw_ht_hr, sw_ht_wt, sw_ht_pl, sw_ht_fl, sw_ht_ow, sw_ht_ht, sw_ht_ab, sw_ab_hr, sw_ab_wt, sw_ab_pl, sw_ab_fl, sw_ab_ow, sw_ab_ht, sw_ab_ab]
  by_cases e : k = j
  · subst e; rw [up_at, up_at]
  · rw [up_ne e, up_ne (by omega)]; exact h2 k hk
theorem SR.pl {g : CT} {r : Nat → Int32} {σ : ST} {j v : Nat} (h : SR g r σ) (h8 : gp g ≤ 8) (hj : j < 8) : SR g (va_up r (10 + j) (N v)) (w_pl σ (va_up (s_pl σ) j v)) := by
  obtain ⟨h1, h2, h3, h4, h5, h6, h7⟩ := h
  refine ⟨by rw [up_ne (by omega)]; exact h1, fun k hk => by rw [up_ne (by omega)]; exact h2 k hk, fun k hk => ?_, fun k hk => by rw [up_ne (by omega)]; exact h4 k hk, fun k hk => by rw [up_ne (by omega)]; exact h5 k hk, fun k hk => by rw [up_ne (by omega)]; exact h6 k hk, by rw [up_ne (by omega)]; exact h7⟩
  simp only [sw_hr_hr, sw_hr_wt, sw_hr_pl, sw_hr_fl, sw_hr_ow, sw_hr_ht, sw_hr_ab, sw_wt_hr, sw_wt_wt, sw_wt_pl, sw_wt_fl, sw_wt_ow, sw_wt_ht, sw_wt_ab, sw_pl_hr, sw_pl_wt, sw_pl_pl, sw_pl_fl, sw_pl_ow, sw_pl_ht, sw_pl_ab, sw_fl_hr, sw_fl_wt, sw_fl_pl, sw_fl_fl, sw_fl_ow, sw_fl_ht, sw_fl_ab, sw_ow_hr, sw_ow_wt, sw_ow_pl, sw_ow_fl, sw_ow_ow, sw_ow_ht, sw_ow_ab, sw_ht_hr, sw_ht_wt, sw_ht_pl, sw_ht_fl, sw_ht_ow, sw_ht_ht, sw_ht_ab, sw_ab_hr, sw_ab_wt, sw_ab_pl, sw_ab_fl, sw_ab_ow, sw_ab_ht, sw_ab_ab]
  by_cases e : k = j
  · subst e; rw [up_at, up_at]
  · rw [up_ne e, up_ne (by omega)]; exact h3 k hk
theorem SR.fl {g : CT} {r : Nat → Int32} {σ : ST} {j v : Nat} (h : SR g r σ) (h8 : gp g ≤ 8) (h25 : gn g ≤ 25) (hj : j < 25) : SR g (va_up r (18 + j) (N v)) (w_fl σ (va_up (s_fl σ) j v)) := by
  obtain ⟨h1, h2, h3, h4, h5, h6, h7⟩ := h
  refine ⟨by rw [up_ne (by omega)]; exact h1, fun k hk => by rw [up_ne (by omega)]; exact h2 k hk, fun k hk => by rw [up_ne (by omega)]; exact h3 k hk, fun k hk => ?_, fun k hk => by rw [up_ne (by omega)]; exact h5 k hk, fun k hk => by rw [up_ne (by omega)]; exact h6 k hk, by rw [up_ne (by omega)]; exact h7⟩
  simp only [sw_hr_hr, sw_hr_wt, sw_hr_pl, sw_hr_fl, sw_hr_ow, sw_hr_ht, sw_hr_ab, sw_wt_hr, sw_wt_wt, sw_wt_pl, sw_wt_fl, sw_wt_ow, sw_wt_ht, sw_wt_ab, sw_pl_hr, sw_pl_wt, sw_pl_pl, sw_pl_fl, sw_pl_ow, sw_pl_ht, sw_pl_ab, sw_fl_hr, sw_fl_wt, sw_fl_pl, sw_fl_fl, sw_fl_ow, sw_fl_ht, sw_fl_ab, sw_ow_hr, sw_ow_wt, sw_ow_pl, sw_ow_fl, sw_ow_ow, sw_ow_ht, sw_ow_ab, sw_ht_hr, sw_ht_wt, sw_ht_pl, sw_ht_fl, sw_ht_ow, sw_ht_ht, sw_ht_ab, sw_ab_hr, sw_ab_wt, sw_ab_pl, sw_ab_fl, sw_ab_ow, sw_ab_ht, sw_ab_ab]
  by_cases e : k = j
  · subst e; rw [up_at, up_at]
  · rw [up_ne e, up_ne (by omega)]; exact h4 k hk
theorem SR.ow {g : CT} {r : Nat → Int32} {σ : ST} {j : Nat} {v : Int32} (h : SR g r σ) (h8 : gp g ≤ 8) (h25 : gn g ≤ 25) (hj : j < 25) : SR g (va_up r (43 + j) v) (w_ow σ (va_up (s_ow σ) j v)) := by
  obtain ⟨h1, h2, h3, h4, h5, h6, h7⟩ := h
  refine ⟨by rw [up_ne (by omega)]; exact h1, fun k hk => by rw [up_ne (by omega)]; exact h2 k hk, fun k hk => by rw [up_ne (by omega)]; exact h3 k hk, fun k hk => by rw [up_ne (by omega)]; exact h4 k hk, fun k hk => ?_, fun k hk => by rw [up_ne (by omega)]; exact h6 k hk, by rw [up_ne (by omega)]; exact h7⟩
  simp only [sw_hr_hr, sw_hr_wt, sw_hr_pl, sw_hr_fl, sw_hr_ow, sw_hr_ht, sw_hr_ab, sw_wt_hr, sw_wt_wt, sw_wt_pl, sw_wt_fl, sw_wt_ow, sw_wt_ht, sw_wt_ab, sw_pl_hr, sw_pl_wt, sw_pl_pl, sw_pl_fl, sw_pl_ow, sw_pl_ht, sw_pl_ab, sw_fl_hr, sw_fl_wt, sw_fl_pl, sw_fl_fl, sw_fl_ow, sw_fl_ht, sw_fl_ab, sw_ow_hr, sw_ow_wt, sw_ow_pl, sw_ow_fl, sw_ow_ow, sw_ow_ht, sw_ow_ab, sw_ht_hr, sw_ht_wt, sw_ht_pl, sw_ht_fl, sw_ht_ow, sw_ht_ht, sw_ht_ab, sw_ab_hr, sw_ab_wt, sw_ab_pl, sw_ab_fl, sw_ab_ow, sw_ab_ht, sw_ab_ab]
  by_cases e : k = j
  · subst e; rw [up_at, up_at]
  · rw [up_ne e, up_ne (by omega)]; exact h5 k hk
theorem SR.ht {g : CT} {r : Nat → Int32} {σ : ST} {j v : Nat} (h : SR g r σ) (h8 : gp g ≤ 8) (h25 : gn g ≤ 25) (hj : j < 8) : SR g (va_up r (68 + j) (N v)) (w_ht σ (va_up (s_ht σ) j v)) := by
  obtain ⟨h1, h2, h3, h4, h5, h6, h7⟩ := h
  refine ⟨by rw [up_ne (by omega)]; exact h1, fun k hk => by rw [up_ne (by omega)]; exact h2 k hk, fun k hk => by rw [up_ne (by omega)]; exact h3 k hk, fun k hk => by rw [up_ne (by omega)]; exact h4 k hk, fun k hk => by rw [up_ne (by omega)]; exact h5 k hk, fun k hk => ?_, by rw [up_ne (by omega)]; exact h7⟩
  simp only [sw_hr_hr, sw_hr_wt, sw_hr_pl, sw_hr_fl, sw_hr_ow, sw_hr_ht, sw_hr_ab, sw_wt_hr, sw_wt_wt, sw_wt_pl, sw_wt_fl, sw_wt_ow, sw_wt_ht, sw_wt_ab, sw_pl_hr, sw_pl_wt, sw_pl_pl, sw_pl_fl, sw_pl_ow, sw_pl_ht, sw_pl_ab, sw_fl_hr, sw_fl_wt, sw_fl_pl, sw_fl_fl, sw_fl_ow, sw_fl_ht, sw_fl_ab, sw_ow_hr, sw_ow_wt, sw_ow_pl, sw_ow_fl, sw_ow_ow, sw_ow_ht, sw_ow_ab, sw_ht_hr, sw_ht_wt, sw_ht_pl, sw_ht_fl, sw_ht_ow, sw_ht_ht, sw_ht_ab, sw_ab_hr, sw_ab_wt, sw_ab_pl, sw_ab_fl, sw_ab_ow, sw_ab_ht, sw_ab_ab]
  by_cases e : k = j
  · subst e; rw [up_at, up_at]
  · rw [up_ne e, up_ne (by omega)]; exact h6 k hk
theorem SR.ab {g : CT} {r : Nat → Int32} {σ : ST} {v : Int32} (h : SR g r σ) (h8 : gp g ≤ 8) (h25 : gn g ≤ 25) : SR g (va_up r 76 v) (w_ab σ v) := by
  obtain ⟨h1, h2, h3, h4, h5, h6, h7⟩ := h
  exact ⟨by rw [up_ne (by omega)]; exact h1, fun k hk => by rw [up_ne (by omega)]; exact h2 k hk, fun k hk => by rw [up_ne (by omega)]; exact h3 k hk, fun k hk => by rw [up_ne (by omega)]; exact h4 k hk, fun k hk => by rw [up_ne (by omega)]; exact h5 k hk, fun k hk => by rw [up_ne (by omega)]; exact h6 k hk, up_at⟩
