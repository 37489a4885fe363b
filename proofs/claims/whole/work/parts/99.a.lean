set_option maxHeartbeats 400000
/-! WHAT A TEXT SAYS: its lines -/
def nuX {α : Type} (t : TX) (lo hi s : Nat) (k : Nat → PX α) : PX α := if nuC t lo hi s = 0 then k (vaN t s) else .inl (nuC t lo hi s, s)
def clX {α : Type} (t : TX) (n s : Nat) (k : Nat → PX α) : PX α := if clC t n s = 0 then k (vaN t s) else .inl (clC t n s, s)
def gSize (g : CT) (w h : Nat) : CT := ((w, h, gp g, gf g), g.2)
def gHt (g : CT) (c v : Nat) : CT := (g.1, va_up (ghg g) c v, g.2.2)
def gPer (g : CT) (k c v : Nat) : CT := ((gw g, gh g, gp g + 1, gf g), ghg g, va_up (gkd g) (gp g) k, va_up (ghm g) (gp g) c, va_up (ght g) (gp g) v, g.2.2.2.2.2)
def gFal (g : CT) (h c v : Nat) : CT := ((gw g, gh g, gp g, gf g + 1), ghg g, gkd g, ghm g, ght g, va_up (gfh g) (gf g) h, va_up (gfc g) (gf g) c, va_up (gfm g) (gf g) v, g.2.2.2.2.2.2.2.2)
def gRul (g : CT) (q : RS) : CT := (g.1, ghg g, gkd g, ghm g, ght g, gfh g, gfc g, gfm g, q)
/-- what is told so far, and of which cells the height is -/
abbrev DS : Type := CT × Nat
def kiN (t : TX) (s : Nat) : Nat := (kiI t s).toNatClampNeg
def htX (t : TX) (s : Nat) (z : DS) : PX DS := clX t (gn z.1) (nxN t s) (fun c => if z.2.testBit c = true then .inl (4, nxN t s) else nuX t 0 9 (nxN t (nxN t s)) (fun v => psX t 59 (nxN t (nxN t (nxN t s))) (gHt z.1 c v, z.2 ||| 2 ^ c)))
def prX (t : TX) (k s : Nat) (z : DS) : PX DS := if gp z.1 = 8 then .inl (2, s) else clX t (gn z.1) (nxN t s) (fun c => nuX t 0 3 (nxN t (nxN t s)) (fun v => psX t 59 (nxN t (nxN t (nxN t s))) (gPer z.1 k c v, z.2)))
def flX (t : TX) (s : Nat) (z : DS) : PX DS := if gf z.1 = 24 then .inl (2, s) else nuX t 0 23 (nxN t s) (fun h => clX t (gn z.1) (nxN t (nxN t s)) (fun c => nuX t 1 99 (nxN t (nxN t (nxN t s))) (fun v => psX t 59 (nxN t (nxN t (nxN t (nxN t s)))) (gFal z.1 h c v, z.2))))
def frX (t : TX) (s : Nat) (z : DS) : PX DS := if 0 < grs z.1 then .inl (5, s) else bdX (exP t 6 (nxN t s) (grs z.1, gst z.1)) (fun s2 q => psX t 59 s2 (gRul z.1 q, z.2))
def szX (t : TX) (s : Nat) (z : DS) : PX DS := nuX t 1 5 (nxN t s) (fun w => nuX t 1 5 (nxN t (nxN t s)) (fun h => psX t 59 (nxN t (nxN t (nxN t s))) (gSize z.1 w h, z.2)))
def lnX (t : TX) (s : Nat) (z : DS) : PX DS := cond (wdB t s w_height) (htX t s z) (if kiI t s = Int32.ofInt (-1) then cond (wdB t s w_fall) (flX t s z) (cond (wdB t s w_first) (frX t s z) (.inl (1, s))) else prX t (kiN t s) s z)
def lsX (t : TX) : Nat → Nat → DS → (Nat × Nat) ⊕ CT
  | 0, _, z => .inr z.1
  | k + 1, s, z => if kdN t s = 0 then .inr z.1 else match lnX t s z with
    | .inl e => .inl e
    | .inr y => lsX t k y.1 y.2
def g00 : CT := ((4, 4, 0, 0), fun _ => 0, fun _ => 0, fun _ => 0, fun _ => 0, fun _ => 0, fun _ => 0, fun _ => 0, (0, fun _ => N 0))
def z00 : DS := (g00, 0)
def hdX (t : TX) : PX DS := cond (wdB t (skN t 0) w_canton) (szX t (skN t 0) z00) (.inr (skN t 0, z00))
def txX (t : TX) : (Nat × Nat) ⊕ CT := match hdX t with
  | .inl e => .inl e
  | .inr y => lsX t 700 y.1 y.2
/-! it is good -/
def okD (z : DS) : Prop := okG z.1 ∧ z.2 < 2 ^ 25 ∧ ∀ c, c < 25 → z.2.testBit c = false → ghg z.1 c = 0
def GL (t : TX) (s0 : Nat) (r : PX DS) : Prop := (∀ c p, r = .inl (c, p) → 1 ≤ c ∧ c ≤ 5 ∧ p ≤ t.1) ∧ ∀ s2 z2, r = .inr (s2, z2) → s0 < s2 ∧ s2 ≤ t.1 ∧ okD z2
theorem nu_0 {t : TX} {lo hi s : Nat} (h : nuC t lo hi s = 0) : kdN t s = 2 ∧ enN t s - s ≤ 4 ∧ lo ≤ vaN t s ∧ vaN t s ≤ hi := by
  unfold nuC at h
  by_cases z : kdN t s = 2
  · rw [if_pos z] at h
    by_cases y : enN t s - s ≤ 4 ∧ lo ≤ vaN t s ∧ vaN t s ≤ hi
    · exact ⟨z, y⟩
    · rw [if_neg y] at h; cases h
  · rw [if_neg z] at h; cases h
theorem nu_5 {t : TX} {lo hi s : Nat} : nuC t lo hi s ≤ 5 := by
  unfold nuC
  split
  · split <;> omega
  · omega
theorem cl_0 {t : TX} {n s : Nat} (h : clC t n s = 0) : kdN t s = 2 ∧ enN t s - s ≤ 4 ∧ vaN t s < n := by
  unfold clC at h
  by_cases z : kdN t s = 2
  · rw [if_pos z] at h
    by_cases y : enN t s - s ≤ 4
    · rw [if_pos y] at h
      by_cases x : vaN t s < n
      · exact ⟨z, y, x⟩
      · rw [if_neg x] at h; cases h
    · rw [if_neg y] at h; cases h
  · rw [if_neg z] at h; cases h
theorem cl_5 {t : TX} {n s : Nat} : clC t n s ≤ 5 := by
  unfold clC
  split
  · split
    · split <;> omega
    · omega
  · omega
section
variable {t : TX} {s s0 : Nat} {z : DS}
theorem gl_in {c p : Nat} (h1 : 1 ≤ c) (h5 : c ≤ 5) (hp : p ≤ t.1) : GL t s0 (.inl (c, p)) := ⟨fun c2 p2 e => by cases e; exact ⟨h1, h5, hp⟩, fun s2 z2 e => by cases e⟩
theorem gl_ps {c : Nat} (h0 : s0 < s) (hs : s ≤ t.1) (ok : okD z) : GL t s0 (psX t c s z) := by
  unfold psX
  cases e : sgB t s c with
  | true =>
    have hn := nx_lt (sg_lt e)
    exact ⟨fun c2 p2 e => (by cases e), fun s2 z2 e => by cases e; exact ⟨by omega, hn.2, ok⟩⟩
  | false => exact gl_in (by omega) (by omega) hs
theorem gl_nu {lo hi : Nat} {k : Nat → PX DS} (hs : s ≤ t.1) (h : nuC t lo hi s = 0 → GL t s0 (k (vaN t s))) : GL t s0 (nuX t lo hi s k) := by
  unfold nuX
  by_cases e : nuC t lo hi s = 0
  · rw [if_pos e]; exact h e
  · rw [if_neg e]; exact gl_in (by omega) nu_5 hs
theorem gl_cl {n : Nat} {k : Nat → PX DS} (hs : s ≤ t.1) (h : clC t n s = 0 → GL t s0 (k (vaN t s))) : GL t s0 (clX t n s k) := by
  unfold clX
  by_cases e : clC t n s = 0
  · rw [if_pos e]; exact h e
  · rw [if_neg e]; exact gl_in (by omega) cl_5 hs
theorem bt_lt {b c : Nat} (hb : b < 2 ^ 25) (hc : c < 25) : b ||| 2 ^ c < 2 ^ 25 := Nat.or_lt_two_pow hb (Nat.pow_lt_pow_right (by omega) hc)
theorem ok_ht {c v : Nat} (ok : okD z) (hc : c < 25) (hv : v ≤ 9) : okD (gHt z.1 c v, z.2 ||| 2 ^ c) := by
  obtain ⟨hg, hb, h0⟩ := ok
  obtain ⟨ow1, ow5, oh1, oh5, onp, onf, ohg, okd, ohm, oht, ofh, ofc, ofm, ofm2, ors, oR⟩ := hg; have on25 := gn_le ow5 oh5; have on1 := gn_pos ow1 oh1
  refine ⟨⟨ow1, ow5, oh1, oh5, onp, onf, fun j hj => ?_, okd, ohm, oht, ofh, ofc, ofm, ofm2, ors, oR⟩, bt_lt hb hc, fun j hj q => ?_⟩
  · show va_up (ghg z.1) c v j ≤ 9
    by_cases e : j = c
    · rw [e, up_at]; exact hv
    · rw [up_ne e]; exact ohg j hj
  · show va_up (ghg z.1) c v j = 0
    have q2 : (z.2 ||| 2 ^ c).testBit j = false := q
    rw [Nat.testBit_or, Bool.or_eq_false_iff] at q2
    by_cases e : j = c
    · rw [e, Nat.testBit_two_pow_self] at q2; cases q2.2
    · rw [up_ne e]; exact h0 j hj q2.1
theorem up_lt {α : Type} {r : Nat → α} {n j : Nat} {x : α} {P : α → Prop} (h : ∀ i, i < n → P (r i)) (hx : P x) (hj : j < n + 1) : P (va_up r n x j) := by
  by_cases e : j = n
  · rw [e, up_at]; exact hx
  · rw [up_ne e]; exact h j (by omega)
theorem ok_per {k c v : Nat} (ok : okD z) (hp : gp z.1 < 8) (hk : k ≤ 3) (hc : c < gn z.1) (hv : v ≤ 3) : okD (gPer z.1 k c v, z.2) := by
  obtain ⟨hg, hb, h0⟩ := ok
  obtain ⟨ow1, ow5, oh1, oh5, onp, onf, ohg, okd, ohm, oht, ofh, ofc, ofm, ofm2, ors, oR⟩ := hg
  exact ⟨⟨ow1, ow5, oh1, oh5, hp, onf, ohg, fun j hj => up_lt (P := fun y => y ≤ 3) okd hk hj, fun j hj => up_lt (P := fun y => y < gn z.1) ohm hc hj, fun j hj => up_lt (P := fun y => y ≤ 3) oht hv hj, ofh, ofc, ofm, ofm2, ors, oR⟩, hb, h0⟩
theorem ok_fal {h c v : Nat} (ok : okD z) (hp : gf z.1 < 24) (hh : h < 24) (hc : c < gn z.1) (hv : 1 ≤ v) (hv2 : v ≤ 99) : okD (gFal z.1 h c v, z.2) := by
  obtain ⟨hg, hb, h0⟩ := ok
  obtain ⟨ow1, ow5, oh1, oh5, onp, onf, ohg, okd, ohm, oht, ofh, ofc, ofm, ofm2, ors, oR⟩ := hg
  exact ⟨⟨ow1, ow5, oh1, oh5, onp, hp, ohg, okd, ohm, oht, fun j hj => up_lt (P := fun y => y < 24) ofh hh hj, fun j hj => up_lt (P := fun y => y < gn z.1) ofc hc hj, fun j hj => up_lt (P := fun y => 1 ≤ y) ofm hv hj, fun j hj => up_lt (P := fun y => y ≤ 99) ofm2 hv2 hj, ors, oR⟩, hb, h0⟩
theorem ok_rul {q : RS} (ok : okD z) (h7 : q.1 ≤ 700) (hx : exR 31 1 (0, gst z.1) q) : okD (gRul z.1 q, z.2) := by
  obtain ⟨hg, hb, h0⟩ := ok
  obtain ⟨ow1, ow5, oh1, oh5, onp, onf, ohg, okd, ohm, oht, ofh, ofc, ofm, ofm2, ors, oR⟩ := hg
  refine ⟨⟨ow1, ow5, oh1, oh5, onp, onf, ohg, okd, ohm, oht, ofh, ofc, ofm, ofm2, h7, ?_⟩, hb, h0⟩
  obtain ⟨a1, a2, a3, a4⟩ := hx
  refine ⟨fun j hj => ?_, fun _ => ?_⟩
  · obtain ⟨c1, c2, c3⟩ := a3 j (Nat.zero_le _) hj
    refine ⟨c1, fun y => Nat.lt_of_lt_of_le (c2 y) ?_, c3⟩
    show 0 + 31 ≤ 40
    omega
  · have a5 : dpF q.2 q.1 = 0 + 1 := a4
    show 1 ≤ dpF q.2 q.1
    omega
theorem ok_size {w h : Nat} (ok : okD z) (hp : gp z.1 = 0) (hf : gf z.1 = 0) (h1 : 1 ≤ w) (h5 : w ≤ 5) (h1' : 1 ≤ h) (h5' : h ≤ 5) : okD (gSize z.1 w h, z.2) := by
  obtain ⟨hg, hb, h0⟩ := ok
  obtain ⟨ow1, ow5, oh1, oh5, onp, onf, ohg, okd, ohm, oht, ofh, ofc, ofm, ofm2, ors, oR⟩ := hg
  have np : ∀ j, ¬ j < gp (gSize z.1 w h) := fun j hj => by have : j < gp z.1 := hj; omega
  have nf : ∀ j, ¬ j < gf (gSize z.1 w h) := fun j hj => by have : j < gf z.1 := hj; omega
  exact ⟨⟨h1, h5, h1', h5', onp, onf, ohg, fun j hj => absurd hj (np j), fun j hj => absurd hj (np j), fun j hj => absurd hj (np j), fun j hj => absurd hj (nf j), fun j hj => absurd hj (nf j), fun j hj => absurd hj (nf j), fun j hj => absurd hj (nf j), ors, oR⟩, hb, h0⟩
theorem ki_or : kiI t s = Int32.ofInt (-1) ∨ (kiI t s = N (kiN t s) ∧ kiN t s ≤ 3) := by
  unfold kiN kiI
  cases wdB t s w_man with
  | true => exact Or.inr ⟨rfl, show (N 0).toNatClampNeg ≤ 3 by decide⟩
  | false =>
  cases wdB t s w_child with
  | true => exact Or.inr ⟨rfl, show (N 1).toNatClampNeg ≤ 3 by decide⟩
  | false =>
  cases wdB t s w_roof with
  | true => exact Or.inr ⟨rfl, show (N 2).toNatClampNeg ≤ 3 by decide⟩
  | false =>
  cases wdB t s w_plough with
  | true => exact Or.inr ⟨rfl, show (N 3).toNatClampNeg ≤ 3 by decide⟩
  | false => exact Or.inl rfl
theorem gl_line (h7 : t.1 ≤ 700) (ok : okD z) (hs : s < t.1) : GL t s (lnX t s z) := by
  have a1 := nx_lt hs
  have a2 := nx_le a1.2
  have a3 := nx_le a2.2
  have a4 := nx_le a3.2
  have on25 : gn z.1 ≤ 25 := gn_le ok.1.2.1 ok.1.2.2.2.1
  unfold lnX
  cases wdB t s w_height with
  | true =>
    show GL t s (htX t s z)
    unfold htX
    refine gl_cl a1.2 (fun e => ?_)
    have e' := cl_0 e
    by_cases q : z.2.testBit (vaN t (nxN t s)) = true
    · rw [if_pos q]; exact gl_in (by omega) (by omega) a1.2
    · rw [if_neg q]
      exact gl_nu a2.2 (fun y => gl_ps (by omega) a3.2 (ok_ht ok (by omega) (nu_0 y).2.2.2))
  | false =>
  rcases ki_or (t := t) (s := s) with k | ⟨k, k3⟩
  · rw [if_pos k]
    cases wdB t s w_fall with
    | true =>
      show GL t s (flX t s z)
      unfold flX
      by_cases q : gf z.1 = 24
      · rw [if_pos q]; exact gl_in (by omega) (by omega) (by omega)
      · rw [if_neg q]
        have := ok.1.2.2.2.2.2.1
        refine gl_nu a1.2 (fun y1 => gl_cl a2.2 (fun y2 => gl_nu a3.2 (fun y3 => gl_ps (by omega) a4.2 (ok_fal ok (by omega) ?_ (cl_0 y2).2.2 (nu_0 y3).2.2.1 (nu_0 y3).2.2.2))))
        have := (nu_0 y1).2.2.2
        omega
    | false =>
    cases wdB t s w_first with
    | true =>
      show GL t s (frX t s z)
      unfold frX
      by_cases q : 0 < grs z.1
      · rw [if_pos q]; exact gl_in (by omega) (by omega) (by omega)
      · rw [if_neg q]
        have q0 : grs z.1 = 0 := by omega
        rw [q0]
        have hg := gd_ex (t := t) 6 (nxN t s) (0, gst z.1) a1.2
        cases e : exP t 6 (nxN t s) (0, gst z.1) with
        | inl y => obtain ⟨c, p⟩ := y; have := hg.1 c p e; exact gl_in this.1 this.2.1 this.2.2
        | inr y =>
          obtain ⟨s2, q2⟩ := y
          obtain ⟨b1, b2', b3, b4⟩ := hg.2 s2 q2 e
          have b3' : q2.1 + nxN t s ≤ 0 + s2 := b3
          exact gl_ps (by omega) b2' (ok_rul ok (show q2.1 ≤ 700 by omega) b4)
    | false => exact gl_in (by omega) (by omega) (by omega)
  · have k1 : kiI t s ≠ Int32.ofInt (-1) := by rw [k]; exact fun y => (N_m1 (by omega)).mp y
    rw [if_neg k1]
    show GL t s (prX t (kiN t s) s z)
    unfold prX
    by_cases q : gp z.1 = 8
    · rw [if_pos q]; exact gl_in (by omega) (by omega) (by omega)
    · rw [if_neg q]
      have := ok.1.2.2.2.2.1
      exact gl_cl a1.2 (fun y1 => gl_nu a2.2 (fun y2 => gl_ps (by omega) a3.2 (ok_per ok (by omega) k3 (cl_0 y1).2.2 (nu_0 y2).2.2.2)))
end
