set_option maxHeartbeats 400000
/-! THROWS; THE WHOLE WORLD; THE CLASS HOLDS IT -/
def zK (K : KK) : KK := (K.1, K.2.1, K.2.2.1 + 1, K.2.2.2)
/-- a method that throws E, and changes nothing -/
def St (K : KK) (d k : Nat) (as : List Value) (f : HF) (E : Nat) : Prop := ∀ (bc bs : Nat) (Q : aQ), Q (.inr E) (hk (zK K) f) → wpM aft anf apr d k as (hk K f) (bc + 1) (bs + 6) Q
theorem St.mk {K : KK} {d k : Nat} {as : List Value} {f : HF} {E : Nat} {M : aMeth} (hM : apr k = some M) (hl : (a_ent as).length ≤ M.2.2.1) (n : Nat) (hw : ∀ bc bs Q, Q (.inr E) (hk (zK K) f) → wpL aft anf (wpM aft anf apr d) M.2.2.2.1 M.2.2.2.2.1 M.2.2.2.2.2.1 n 0 (a_ent as ++ List.replicate (M.2.2.1 - (a_ent as).length) .null) [] (hk K f) (bc + 1) (bs + 6) Q) : St K (d + 1) k as f E := by
  intro bc bs Q hQ
  unfold wpM
  rw [hM]
  exact ⟨hl, n, hw bc bs Q hQ⟩
section
variable {K : KK} {d : Nat} {ret : Option FieldType} {P : List aEnt} {n i : Nat} {L S' : List Value} {bc bs : Nat} {Q : aQ} {k : Nat} {as as' : List Value} {f : HF} {E : Nat}
theorem callt (hst : St K d k as' f E) (e : as = as') (hq : Q (.inr E) (hk (zK K) f)) : ∃ dc ds bc' bs', bc + 1 = bc' + dc ∧ bs + 6 = bs' + ds ∧ wpM aft anf apr d k as (hk K f) dc ds (fun r h' => (a_z h' = 0 → a_z (hk K f) = 0 ∧ a_n (hk K f) + dc ≤ a_n h') ∧ match r with
          | .inl v => wpL aft anf (wpM aft anf apr d) ret P [] n (i + 1) L (v.toList ++ S') h' bc' bs' Q
          | .inr E => true = true ∧ match a_hd [] i E with
            | some (t, x) => a_st L x = true ∧ wpL aft anf (wpM aft anf apr d) ret P [] n t (L.set x .null) [] h' bc' bs' Q
            | none => ([] : List (Nat × Nat × Nat × Nat × Nat)) = [] ∧ Q (.inr E) h') := by
  subst e
  exact ⟨1, 6, bc, bs, rfl, rfl, hst 0 0 _ ⟨fun z => absurd z (Nat.succ_ne_zero _), rfl, rfl, hq⟩⟩
end
theorem st_known {K : KK} {d : Nat} {f : HF} : St K (d + 1) k_SnowCanton_known [.int (N 0)] f 21 := by
  refine St.mk (M := pM_SnowCanton_known) rfl (Nat.le_of_ble_eq_true rfl) 99999 (fun bc bs Q hQ => ?_); show wpL aft anf _ _ pP_SnowCanton_known [] 99999 0 [.int _] [] _ _ _ _
  refine brF (fun q => q rfl) ?_
  exact ⟨⟨bc, bs, rfl, rfl⟩, hQ⟩
theorem st_proper {K : KK} {d : Nat} {f : HF} : St K (d + 1) k_SnowCanton_proper [.int (N 0)] f 20 := by
  refine St.mk (M := pM_SnowCanton_proper) rfl (Nat.le_of_ble_eq_true rfl) 99999 (fun bc bs Q hQ => ?_); show wpL aft anf _ _ pP_SnowCanton_proper [] 99999 0 [.int _] [] _ _ _ _
  refine brF (fun q => q rfl) ?_
  exact ⟨⟨bc, bs, rfl, rfl⟩, hQ⟩
theorem sp_known {K : KK} {d : Nat} {f : HF} : Sp K (d + 1) k_SnowCanton_known [.int (N 1)] f (is0 (fun f' => f' = f)) := by
  refine en_SnowCanton_known 99999 ?_; intro bc bs Q hQ
  refine brT (by decide) ?_
  exact ⟨trivial, hQ _ _ ⟨rfl, rfl⟩⟩
theorem sp_proper {K : KK} {d : Nat} {f : HF} : Sp K (d + 1) k_SnowCanton_proper [.int (N 1)] f (is0 (fun f' => f' = f)) := by
  refine en_SnowCanton_proper 99999 ?_; intro bc bs Q hQ
  refine brT (by decide) ?_
  exact ⟨trivial, hQ _ _ ⟨rfl, rfl⟩⟩
/-- a number below n, or none -/
def ixO (n : Nat) (x : Int32) : Option Nat := if 0 ≤ x ∧ x < N n then some x.toNatClampNeg else none
theorem ix_some {n : Nat} {x : Int32} {k : Nat} (hn : n < 2147483648) (h : ixO n x = some k) : k < n ∧ x = N k := by
  unfold ixO at h
  split at h
  · rename_i q
    cases h
    have e := N_of (Int32.not_lt.mpr q.1)
    refine ⟨?_, e⟩
    have h2 := q.2
    rw [e, N_lt x.toNatClampNeg_lt hn] at h2
    exact h2
  · cases h
theorem ix_none {n : Nat} {x : Int32} (hn : n < 2147483648) (h : ixO n x = none) : ∀ k, k < n → x ≠ N k := by
  intro k hk e
  subst e
  unfold ixO at h
  rw [if_pos ⟨N_pos (by omega), (N_lt (by omega) hn).mpr hk⟩] at h
  cases h
theorem ix_out {n : Nat} {x : Int32} (h : ixO n x = none) : x < 0 ∨ N n ≤ x := by
  unfold ixO at h
  split at h
  · cases h
  · rename_i q
    by_cases z : x < 0
    · exact Or.inl z
    · refine Or.inr (Int32.not_lt.mp (fun w => q ⟨Int32.not_lt.mp z, w⟩))
theorem sp_isOneOf_t {K : KK} {d n k : Nat} {f : HF} (hk9 : k < n) (hn : n < 100) : Sp K (d + 1) k_SnowCanton_isOneOf [.int (N k), .int (N n)] f (is1 f (N 1)) := by
  refine en_SnowCanton_isOneOf 99999 ?_; intro bc bs Q hQ
  repeat (first | (refine And.intro ?_ ?_; focus (first | exact rfl | exact trivial | exact Or.inl rfl | exact Or.inr rfl | exact And.intro rfl (N_in2 (by (try simp (disch := omega) only [cn_c0, cn_c1, cn_c2, cn_c3, cn_c4, cn_c5, cn_c6, cn_bm28, cn_bm27, cn_bm26, cn_bm25, cn_bm24, cn_bm23, cn_bm22, cn_bm21, cn_bm20, cn_bm15, cn_bm14, cn_bm13, cn_bm12, cn_bm11, cn_bm10, cn_bm9, cn_bm8, cn_bm7, cn_bm6, cn_bm5, cn_bm4, cn_bm3, cn_bm2, cn_b6, cn_b7, cn_b8, cn_b9, cn_b10, cn_b12, cn_b13, cn_b15, cn_b16, cn_b18, cn_b20, cn_b23, cn_b24, cn_b25, cn_b31, cn_b32, cn_b40, cn_b41, cn_b42, cn_b43, cn_b45, cn_b47, cn_b48, cn_b50, cn_b57, cn_b59, cn_b60, cn_b61, cn_b63, cn_b64, cn_b68, cn_b76, cn_b77, cn_b97, cn_b99, cn_b100, cn_b101, cn_b122, cn_s255, cn_s272, cn_s680, cn_s700, cn_s1400, cn_s2720, cn_s9999, cn_s12345, cn_s32767, hk_i, hk_p, hk_set, hk_row, u2_at, up_at, u2_ne, up_ne, N_add, Option.toList_some, List.cons_append, List.nil_append, N_nat]); exact rfl) (by (simp only [hk_set, hk_row, shn_1, shn_0, shn_100, shn_101, shn_102, shn_103, shn_104, shn_105, shn_106, shn_107, shn_108, shn_109, shn_110, shn_111, shn_112, shn_113, shn_114, shn_115, shn_116, shn_117, shn_118, shn_119, shn_120, shn_121, shn_122, shn_123, shn_124, shn_125, shn_126, shn_127, shn_128, shn_129, shn_130, shn_131, shn_132, shn_133, shn_134, shn_135, shn_136, shn_137, shn_138, shn_139, shn_140, shn_141, shn_142, shn_143, shn_144, shn_145, shn_146, shn_147, shn_148, shn_149, shn_150, shn_151, shn_152, shn_153, shn_154, shn_155, shn_156, shn_157, shn_158, shn_159, shn_160, shn_161, shn_162, shn_163, shn_164, shn_165, shn_166, shn_167, shn_168, shn_169, shn_170, shn_171, shn_172, shn_173, shn_174, shn_175, shn_176, shn_177, shn_178, shn_179, shn_180, shn_181, shn_182, shn_183, shn_184, shn_185, shn_186, shn_187, shn_188, shn_189, shn_190, shn_191, shn_192, shn_193, shn_194, shn_195, shn_196, shn_197, shn_198, shn_199, shn_200, shn_201, shn_202]) <;> omega) (by (simp only [hk_set, hk_row, shn_1, shn_0, shn_100, shn_101, shn_102, shn_103, shn_104, shn_105, shn_106, shn_107, shn_108, shn_109, shn_110, shn_111, shn_112, shn_113, shn_114, shn_115, shn_116, shn_117, shn_118, shn_119, shn_120, shn_121, shn_122, shn_123, shn_124, shn_125, shn_126, shn_127, shn_128, shn_129, shn_130, shn_131, shn_132, shn_133, shn_134, shn_135, shn_136, shn_137, shn_138, shn_139, shn_140, shn_141, shn_142, shn_143, shn_144, shn_145, shn_146, shn_147, shn_148, shn_149, shn_150, shn_151, shn_152, shn_153, shn_154, shn_155, shn_156, shn_157, shn_158, shn_159, shn_160, shn_161, shn_162, shn_163, shn_164, shn_165, shn_166, shn_167, shn_168, shn_169, shn_170, shn_171, shn_172, shn_173, shn_174, shn_175, shn_176, shn_177, shn_178, shn_179, shn_180, shn_181, shn_182, shn_183, shn_184, shn_185, shn_186, shn_187, shn_188, shn_189, shn_190, shn_191, shn_192, shn_193, shn_194, shn_195, shn_196, shn_197, shn_198, shn_199, shn_200, shn_201, shn_202]) <;> omega)) | (refine ndz ?_; (simp (disch := omega) only [cn_c0, cn_c1, cn_c2, cn_c3, cn_c4, cn_c5, cn_c6, cn_bm28, cn_bm27, cn_bm26, cn_bm25, cn_bm24, cn_bm23, cn_bm22, cn_bm21, cn_bm20, cn_bm15, cn_bm14, cn_bm13, cn_bm12, cn_bm11, cn_bm10, cn_bm9, cn_bm8, cn_bm7, cn_bm6, cn_bm5, cn_bm4, cn_bm3, cn_bm2, cn_b6, cn_b7, cn_b8, cn_b9, cn_b10, cn_b12, cn_b13, cn_b15, cn_b16, cn_b18, cn_b20, cn_b23, cn_b24, cn_b25, cn_b31, cn_b32, cn_b40, cn_b41, cn_b42, cn_b43, cn_b45, cn_b47, cn_b48, cn_b50, cn_b57, cn_b59, cn_b60, cn_b61, cn_b63, cn_b64, cn_b68, cn_b76, cn_b77, cn_b97, cn_b99, cn_b100, cn_b101, cn_b122, cn_s255, cn_s272, cn_s680, cn_s700, cn_s1400, cn_s2720, cn_s9999, cn_s12345, cn_s32767, hk_i, hk_p, hk_set, hk_row, u2_at, up_at, u2_ne, up_ne, N_add, Option.toList_some, List.cons_append, List.nil_append, N_nat, N_zero, N_lt, N_le, N_eq, OI_some, OI_none, N_m1, N_m1', not_false_eq_true, Classical.not_not]) <;> omega))) | (refine brF ?_ ?_; focus ((simp (disch := omega) only [cn_c0, cn_c1, cn_c2, cn_c3, cn_c4, cn_c5, cn_c6, cn_bm28, cn_bm27, cn_bm26, cn_bm25, cn_bm24, cn_bm23, cn_bm22, cn_bm21, cn_bm20, cn_bm15, cn_bm14, cn_bm13, cn_bm12, cn_bm11, cn_bm10, cn_bm9, cn_bm8, cn_bm7, cn_bm6, cn_bm5, cn_bm4, cn_bm3, cn_bm2, cn_b6, cn_b7, cn_b8, cn_b9, cn_b10, cn_b12, cn_b13, cn_b15, cn_b16, cn_b18, cn_b20, cn_b23, cn_b24, cn_b25, cn_b31, cn_b32, cn_b40, cn_b41, cn_b42, cn_b43, cn_b45, cn_b47, cn_b48, cn_b50, cn_b57, cn_b59, cn_b60, cn_b61, cn_b63, cn_b64, cn_b68, cn_b76, cn_b77, cn_b97, cn_b99, cn_b100, cn_b101, cn_b122, cn_s255, cn_s272, cn_s680, cn_s700, cn_s1400, cn_s2720, cn_s9999, cn_s12345, cn_s32767, hk_i, hk_p, hk_set, hk_row, u2_at, up_at, u2_ne, up_ne, N_add, Option.toList_some, List.cons_append, List.nil_append, N_nat, N_zero, N_lt, N_le, N_eq, OI_some, OI_none, N_m1, N_m1', not_false_eq_true, Classical.not_not]) <;> omega)) | (refine brT ?_ ?_; focus ((simp (disch := omega) only [cn_c0, cn_c1, cn_c2, cn_c3, cn_c4, cn_c5, cn_c6, cn_bm28, cn_bm27, cn_bm26, cn_bm25, cn_bm24, cn_bm23, cn_bm22, cn_bm21, cn_bm20, cn_bm15, cn_bm14, cn_bm13, cn_bm12, cn_bm11, cn_bm10, cn_bm9, cn_bm8, cn_bm7, cn_bm6, cn_bm5, cn_bm4, cn_bm3, cn_bm2, cn_b6, cn_b7, cn_b8, cn_b9, cn_b10, cn_b12, cn_b13, cn_b15, cn_b16, cn_b18, cn_b20, cn_b23, cn_b24, cn_b25, cn_b31, cn_b32, cn_b40, cn_b41, cn_b42, cn_b43, cn_b45, cn_b47, cn_b48, cn_b50, cn_b57, cn_b59, cn_b60, cn_b61, cn_b63, cn_b64, cn_b68, cn_b76, cn_b77, cn_b97, cn_b99, cn_b100, cn_b101, cn_b122, cn_s255, cn_s272, cn_s680, cn_s700, cn_s1400, cn_s2720, cn_s9999, cn_s12345, cn_s32767, hk_i, hk_p, hk_set, hk_row, u2_at, up_at, u2_ne, up_ne, N_add, Option.toList_some, List.cons_append, List.nil_append, N_nat, N_zero, N_lt, N_le, N_eq, OI_some, OI_none, N_m1, N_m1', not_false_eq_true, Classical.not_not]) <;> omega)) | fail)
  exact hQ _ _ ⟨rfl, rfl⟩
theorem sp_isOneOf_f {K : KK} {d n : Nat} {x : Int32} {f : HF} (h : ixO n x = none) : Sp K (d + 1) k_SnowCanton_isOneOf [.int x, .int (N n)] f (is1 f (N 0)) := by
  refine en_SnowCanton_isOneOf 99999 ?_; intro bc bs Q hQ
  refine And.intro (fun c1 => ?_) (fun c1 => ?_)
  · exact ⟨Or.inl rfl, hQ _ _ ⟨rfl, rfl⟩⟩
  · rcases ix_out h with q | q
    · exact absurd q c1
    · refine brT q ?_
      exact ⟨Or.inl rfl, hQ _ _ ⟨rfl, rfl⟩⟩
/-- tape, how much of it, the fault's place, what is told, the state, the image -/
abbrev WD : Type := (Nat → Nat) × Nat × Int32 × CT × NT × Option NT
def wq_tp (w : WD) : Nat → Nat := w.1
def wq_tn (w : WD) : Nat := w.2.1
def wq_ft (w : WD) : Int32 := w.2.2.1
def wq_g (w : WD) : CT := w.2.2.2.1
def wq_n (w : WD) : NT := w.2.2.2.2.1
def wq_im (w : WD) : Option NT := w.2.2.2.2.2
def wq_s (w : WD) : ST := (wq_n w).1
def wq_a (w : WD) : AT := (wq_n w).2.1
def wq_e (w : WD) : ET := (wq_n w).2.2.1
def wq_u (w : WD) : Nat → Int32 := (wq_n w).2.2.2
/-- the world with another state -/
def wN (w : WD) (n : NT) : WD := (wq_tp w, wq_tn w, wq_ft w, wq_g w, n, wq_im w)
def hrN (n : NT) : Prop := s_hr n.1 ≤ 9999 ∧ ∀ i, i < n.2.1.1 → s_hr (n.2.1.2 i) ≤ 9999
def okW (w : WD) : Prop := okG (wq_g w) ∧ okN (wq_g w) (wq_n w) ∧ hrN (wq_n w) ∧ wq_tn w ≤ 700 ∧ (∀ i, i < wq_tn w → wq_tp w i < 256) ∧ ∀ m, wq_im w = some m → okN (wq_g w) m ∧ hrN m
def CI (f : HF) (w : WD) : Prop := CR f (wq_g w) ∧ NRn (wq_g w) f (wq_n w) ∧ f 100 1 = N (wq_tn w) ∧ f 100 2 = wq_ft w ∧ (∀ i, i < wq_tn w → f 101 i = (N (wq_tp w i)).toInt8.toInt32) ∧ (∀ i, i < 4 → f 1 i = N (ord4 i)) ∧ (wq_im w = none → f 100 8 = N 0) ∧ ∀ m, wq_im w = some m → f 100 8 = N 1 ∧ NRk (wq_g w) f m
/-- nothing of the reference's changes, nor of what was there ahead of both -/
def Cl (f f' : HF) : Prop := ∀ a, (161 ≤ a ∨ a < 100) → f' a = f a
theorem Fx.cl {D : List Nat} {f f' : HF} (h : Fx D f f') (hD : D.all (fun a => Nat.ble 100 a && Nat.blt a 161) = true) : Cl f f' := fun a ha => h a (fun q => by
  have := List.all_eq_true.mp hD a q
  rw [Bool.and_eq_true, Nat.blt_eq] at this
  have h1 := Nat.le_of_ble_eq_true this.1
  have h2 := this.2
  omega)
theorem Cl.rf {f : HF} : Cl f f := fun _ _ => rfl
theorem Cl.tr {f f' f'' : HF} (h : Cl f f') (h2 : Cl f' f'') : Cl f f'' := fun a ha => by rw [h2 a ha, h a ha]
def ciS : List Nat := [1, 100, 101, 102, 103, 104, 105, 106, 107, 108, 109, 110, 111, 138, 139, 140, 141, 142, 143, 144, 146]
def ciT : List Nat := [128, 129, 130, 131, 132, 133, 134, 136]
theorem fx_at {D L : List Nat} {f f' : HF} (h : Fx D f f') (hD : D.all (fun a => !L.contains a) = true) : ∀ a, L.contains a = true → f' a = f a := by
  intro a ha
  refine h a (fun q => ?_)
  have := List.all_eq_true.mp hD a q
  rw [ha] at this
  exact absurd this (by decide)
theorem CI.now {D : List Nat} {f f' : HF} {w : WD} {n : NT} (ci : CI f w) (h : Fx D f f') (hD : D.all (fun a => !ciS.contains a) = true) (hn : NRn (wq_g w) f' n) : CI f' (wN w n) := by
  have e := fx_at h hD
  obtain ⟨c1, c2, c3, c4, c5, c6, c7, c8⟩ := ci
  have hC : CR f' (wq_g w) := by
    unfold CR
    rw [e 102 (by decide), e 103 (by decide), e 104 (by decide), e 105 (by decide), e 106 (by decide), e 107 (by decide), e 108 (by decide), e 109 (by decide), e 110 (by decide), e 111 (by decide)]
    exact c1
  refine ⟨hC, hn, by rw [e 100 (by decide)]; exact c3, by rw [e 100 (by decide)]; exact c4, by rw [e 101 (by decide)]; exact c5, by rw [e 1 (by decide)]; exact c6, by rw [e 100 (by decide)]; exact c7, fun m hm => ?_⟩
  have := c8 m hm
  refine ⟨by rw [e 100 (by decide)]; exact this.1, ?_⟩
  show NRr (wq_g w) (f' 146) (f' 138) (f' 139) (f' 140) (f' 141) (f' 142) (f' 143) (f' 144) m
  rw [e 146 (by decide), e 138 (by decide), e 139 (by decide), e 140 (by decide), e 141 (by decide), e 142 (by decide), e 143 (by decide), e 144 (by decide)]
  exact this.2
theorem NRn.fx {D : List Nat} {f f' : HF} {g : CT} {n : NT} (h : Fx D f f') (hD : D.all (fun a => !ciT.contains a) = true) (hn : NRn g f n) : NRn g f' n := by
  have e := fx_at h hD
  show NRr g (f' 136) (f' 128) (f' 129) (f' 130) (f' 131) (f' 132) (f' 133) (f' 134) n
  rw [e 136 (by decide), e 128 (by decide), e 129 (by decide), e 130 (by decide), e 131 (by decide), e 132 (by decide), e 133 (by decide), e 134 (by decide)]
  exact hn
theorem wN_self {w : WD} : wN w (wq_n w) = w := rfl
theorem CI.fx {D : List Nat} {f f' : HF} {w : WD} (ci : CI f w) (h : Fx D f f') (hD : D.all (fun a => !ciS.contains a) = true) (hT : D.all (fun a => !ciT.contains a) = true) : CI f' w := by
  have := CI.now ci h hD (NRn.fx h hT ci.2.1)
  rw [wN_self] at this
  exact this
/-- an answer and what is left: of the class -/
def SpE (K : KK) (d k : Nat) (as : List Value) (f : HF) (o : Int32 ⊕ Nat) (w : WD) : Prop := match o with
  | .inl v => Sp K d k as f (isR v (fun f' => CI f' w ∧ Cl f f'))
  | .inr E => St K d k as f E
theorem SpE.mkv {K : KK} {d k : Nat} {as : List Value} {f : HF} {v : Int32} {w : WD} (h : Sp K d k as f (isR v (fun f' => CI f' w ∧ Cl f f'))) : SpE K d k as f (.inl v) w := h
theorem SpE.mkt {K : KK} {d k : Nat} {as : List Value} {f : HF} {E : Nat} {w : WD} (h : St K d k as f E) : SpE K d k as f (.inr E) w := h
