/-! Frames, finer: what reading leaves as it was. -/
def Fz (M M' : Mem) : Prop := Fr [100, 102, 103, 104, 105, 106, 107] M M' ∧ M'.1 103 0 = M.1 103 0
theorem Fz.rf {M : Mem} : Fz M M := ⟨Fr.rf, rfl⟩
theorem Fz.tr {M M1 M2 : Mem} (h : Fz M M1) (g : Fz M1 M2) : Fz M M2 := ⟨h.1.tr g.1, g.2.trans h.2⟩
theorem Fz.w_si {M q M' : Mem} {k i : Nat} {v : Int32} (e : some (si M k i v) = some q) (hk : k ∈ [100, 102, 103, 104, 105, 106, 107]) (hn : ¬ (103 = k ∧ 0 = i)) (g : Fz q M') : Fz M M' := by
  cases e
  refine Fz.tr (M1 := si M k i v) ⟨fun j hj => ⟨?_, rfl⟩, ?_⟩ g
  · show (if j = k then _ else _) = _
    rw [if_neg (fun q : j = k => hj (q ▸ hk))]
  · rw [si_at, if_neg hn]
set_option maxRecDepth 100000 in
theorem fs_r_fail (x1 : Int32) (M : Mem) (M' : Mem) (h : f_r_fail x1 M = some M') : Fz M M' := by
  rw [f_r_fail] at h
  by_cases hc : (gi M 103 1) = (0 : Int32)
  · replace h := (if_pos hc).symm.trans h
    obtain ⟨q1, e_q1, h⟩ := Option.bind_eq_some_iff.mp h
    refine Fz.w_si e_q1 (by first | decide | simp) (by first | decide | simp) ?_
    obtain ⟨g, h⟩ := am_itg h
    obtain ⟨q2, e_q2, h⟩ := Option.bind_eq_some_iff.mp h
    refine Fz.w_si e_q2 (by first | decide | simp) (by first | decide | simp) ?_
    obtain ⟨q3, e_q3, h⟩ := Option.bind_eq_some_iff.mp h
    refine Fz.w_si e_q3 (by first | decide | simp) (by first | decide | simp) ?_
    obtain rfl := Option.some.inj h
    exact Fz.rf
  · replace h := (if_neg hc).symm.trans h
    obtain ⟨q4, e_q4, h⟩ := Option.bind_eq_some_iff.mp h
    refine Fz.w_si e_q4 (by first | decide | simp) (by first | decide | simp) ?_
    obtain rfl := Option.some.inj h
    exact Fz.rf
set_option maxRecDepth 100000 in
theorem fs_r_advance (M : Mem) (M' : Mem) (h : f_r_advance M = some M') : Fz M M' := by
  rw [f_r_advance] at h
  by_cases hc : (gi M 103 1) = (0 : Int32)
  · replace h := (if_pos hc).symm.trans h
    by_cases hc : (300 : Int32) ≤ (gi M 103 6)
    · replace h := (if_pos hc).symm.trans h
      obtain rfl := Option.some.inj h
      exact Fz.rf
    · replace h := (if_neg hc).symm.trans h
      obtain ⟨q1, e_q1, h⟩ := Option.bind_eq_some_iff.mp h
      refine Fz.w_si e_q1 (by first | decide | simp) (by first | decide | simp) ?_
      obtain ⟨g, h⟩ := am_itg h
      obtain ⟨q2, e_q2, h⟩ := Option.bind_eq_some_iff.mp h
      refine Fz.w_si e_q2 (by first | decide | simp) (by first | decide | simp) ?_
      obtain rfl := Option.some.inj h
      exact Fz.rf
  · replace h := (if_neg hc).symm.trans h
    obtain rfl := Option.some.inj h
    exact Fz.rf
set_option maxRecDepth 100000 in
theorem fs_r_expectNumber (x1 : Int32) (x2 : Int32) (M : Mem) (r : Int32) (M' : Mem) (h : f_r_expectNumber x1 x2 M = some (r, M')) : Fz M M' := by
  rw [f_r_expectNumber] at h
  obtain ⟨g, h⟩ := am_itg h
  by_cases hc : (gi M 103 7) = (33 : Int32)
  · replace h := (if_pos hc).symm.trans h
    by_cases hc : ((gi M 102 ((gi M 103 6)).toNatClampNeg) >>> (15 : Int32)) < x1
    · replace h := (if_pos hc).symm.trans h
      obtain ⟨q1, e_q1, h⟩ := Option.bind_eq_some_iff.mp h
      refine Fz.tr (fs_r_fail (2 : Int32) M q1 e_q1) ?_
      obtain ⟨rfl, rfl⟩ := Prod.mk.inj (Option.some.inj h)
      exact Fz.rf
    · replace h := (if_neg hc).symm.trans h
      by_cases hc : ((gi M 102 ((gi M 103 6)).toNatClampNeg) >>> (15 : Int32)) ≤ x2
      · replace h := (if_pos hc).symm.trans h
        obtain ⟨q2, e_q2, h⟩ := Option.bind_eq_some_iff.mp h
        refine Fz.tr (fs_r_advance M q2 e_q2) ?_
        obtain ⟨rfl, rfl⟩ := Prod.mk.inj (Option.some.inj h)
        exact Fz.rf
      · replace h := (if_neg hc).symm.trans h
        obtain ⟨q3, e_q3, h⟩ := Option.bind_eq_some_iff.mp h
        refine Fz.tr (fs_r_fail (2 : Int32) M q3 e_q3) ?_
        obtain ⟨rfl, rfl⟩ := Prod.mk.inj (Option.some.inj h)
        exact Fz.rf
  · replace h := (if_neg hc).symm.trans h
    obtain ⟨q4, e_q4, h⟩ := Option.bind_eq_some_iff.mp h
    refine Fz.tr (fs_r_fail (1 : Int32) M q4 e_q4) ?_
    obtain ⟨rfl, rfl⟩ := Prod.mk.inj (Option.some.inj h)
    exact Fz.rf
set_option maxRecDepth 100000 in
theorem fs_p_put (x1 : Int32) (x2 : Int32) (M : Mem) (M' : Mem) (h : f_p_put x1 x2 M = some M') : Fz M M' := by
  rw [f_p_put] at h
  by_cases hc : (gi M 104 3) < (0 : Int32)
  · replace h := (if_pos hc).symm.trans h
    obtain rfl := Option.some.inj h
    exact Fz.rf
  · replace h := (if_neg hc).symm.trans h
    by_cases hc : (300 : Int32) ≤ (gi M 104 3)
    · replace h := (if_pos hc).symm.trans h
      obtain rfl := Option.some.inj h
      exact Fz.rf
    · replace h := (if_neg hc).symm.trans h
      obtain ⟨g, h⟩ := am_itg h
      obtain ⟨q1, e_q1, h⟩ := Option.bind_eq_some_iff.mp h
      refine Fz.w_si e_q1 (by first | decide | simp) (by first | decide | simp) ?_
      obtain ⟨q2, e_q2, h⟩ := Option.bind_eq_some_iff.mp h
      refine Fz.w_si e_q2 (by first | decide | simp) (by first | decide | simp) ?_
      obtain rfl := Option.some.inj h
      exact Fz.rf
set_option maxRecDepth 100000 in
theorem fs_r_readName (M : Mem) (M' : Mem) (h : f_r_readName M = some M') : Fz M M' := by
  rw [f_r_readName] at h
  by_cases hc : (gi M 103 5) = (14 : Int32)
  · replace h := (if_pos hc).symm.trans h
    by_cases hc : (f_w_within (gi M 103 7) (3 : Int32) (9 : Int32) M) = (0 : Int32)
    · replace h := (if_pos hc).symm.trans h
      obtain ⟨q1, e_q1, h⟩ := Option.bind_eq_some_iff.mp h
      refine Fz.tr (fs_p_put (gi M 103 7) (0 : Int32) M q1 e_q1) ?_
      obtain ⟨q2, e_q2, h⟩ := Option.bind_eq_some_iff.mp h
      refine Fz.tr (fs_r_advance q1 q2 e_q2) ?_
      obtain rfl := Option.some.inj h
      exact Fz.rf
    · replace h := (if_neg hc).symm.trans h
      obtain ⟨q3, e_q3, h⟩ := Option.bind_eq_some_iff.mp h
      refine Fz.tr (fs_r_fail (5 : Int32) M q3 e_q3) ?_
      obtain rfl := Option.some.inj h
      exact Fz.rf
  · replace h := (if_neg hc).symm.trans h
    by_cases hc : (f_w_within (gi M 103 7) (10 : Int32) (11 : Int32) M) = (0 : Int32)
    · replace h := (if_pos hc).symm.trans h
      obtain ⟨q4, e_q4, h⟩ := Option.bind_eq_some_iff.mp h
      refine Fz.tr (fs_p_put (gi M 103 7) (0 : Int32) M q4 e_q4) ?_
      obtain ⟨q5, e_q5, h⟩ := Option.bind_eq_some_iff.mp h
      refine Fz.tr (fs_r_advance q4 q5 e_q5) ?_
      obtain rfl := Option.some.inj h
      exact Fz.rf
    · replace h := (if_neg hc).symm.trans h
      obtain ⟨q6, e_q6, h⟩ := Option.bind_eq_some_iff.mp h
      refine Fz.tr (fs_r_fail (5 : Int32) M q6 e_q6) ?_
      obtain rfl := Option.some.inj h
      exact Fz.rf
set_option maxRecDepth 100000 in
theorem fs_r_readProduct_32 (N : Nat) (RO : Int32 → Mem → Option Mem) (hRO : ∀ (x1 : Int32) (M M2 : Mem), RO x1 M = some M2 → Fz M M2) (K7 : Int32 → Int32 → Mem → Option Mem) (hK7 : ∀ (x1 : Int32) (x2 : Int32) (M : Mem) (M' : Mem), K7 x1 x2 M = some M' → Fz M M') (x1 : Int32) (x2 : Int32) (M : Mem) (M' : Mem) (h : f_r_readProduct_32 N RO K7 x1 x2 M = some M') : Fz M M' := by
  rw [f_r_readProduct_32] at h
  obtain ⟨q2, e_q2, h⟩ := Option.bind_eq_some_iff.mp h
  refine Fz.tr (fs_r_advance M q2 e_q2) ?_
  obtain ⟨q3, e_q3, h⟩ := Option.bind_eq_some_iff.mp h
  refine Fz.tr (hRO x1 q2 q3 e_q3) ?_
  obtain ⟨q4, e_q4, h⟩ := Option.bind_eq_some_iff.mp h
  refine Fz.tr (fs_p_put (gi M 103 7) (0 : Int32) q3 q4 e_q4) ?_
  exact hK7 x1 (x2 + (1 : Int32)) q4 _ h
set_option maxRecDepth 100000 in
theorem fs_r_readProduct_7 (N : Nat) (RO : Int32 → Mem → Option Mem) (hRO : ∀ (x1 : Int32) (M M2 : Mem), RO x1 M = some M2 → Fz M M2) : ∀ (n : Nat) (x1 : Int32) (x2 : Int32) (M : Mem) (M' : Mem), f_r_readProduct_7 N RO n x1 x2 M = some M' → Fz M M' := by
  intro n
  induction n with
  | zero =>
    intro x1 x2 M M' h
    cases h
  | succ n ih =>
    intro x1 x2 M M' h
    rw [f_r_readProduct_7] at h
    by_cases hc : (300 : Int32) ≤ x2
    · replace h := (if_pos hc).symm.trans h
      obtain rfl := Option.some.inj h
      exact Fz.rf
    · replace h := (if_neg hc).symm.trans h
      by_cases hc : (gi M 103 7) = (40 : Int32)
      · replace h := (if_pos hc).symm.trans h
        exact fs_r_readProduct_32 N RO hRO _ ih x1 x2 M _ h
      · replace h := (if_neg hc).symm.trans h
        by_cases hc : (gi M 103 7) = (41 : Int32)
        · replace h := (if_pos hc).symm.trans h
          exact fs_r_readProduct_32 N RO hRO _ ih x1 x2 M _ h
        · replace h := (if_neg hc).symm.trans h
          obtain rfl := Option.some.inj h
          exact Fz.rf
set_option maxRecDepth 100000 in
theorem fs_r_readProduct (N : Nat) (RO : Int32 → Mem → Option Mem) (hRO : ∀ (x1 : Int32) (M M2 : Mem), RO x1 M = some M2 → Fz M M2) (x1 : Int32) (M : Mem) (M' : Mem) (h : f_r_readProduct N RO x1 M = some M') : Fz M M' := by
  rw [f_r_readProduct] at h
  obtain ⟨q1, e_q1, h⟩ := Option.bind_eq_some_iff.mp h
  refine Fz.tr (hRO x1 M q1 e_q1) ?_
  exact fs_r_readProduct_7 N RO hRO N x1 (0 : Int32) q1 _ h
set_option maxRecDepth 100000 in
theorem fs_r_readSum_32 (N : Nat) (RO : Int32 → Mem → Option Mem) (hRO : ∀ (x1 : Int32) (M M2 : Mem), RO x1 M = some M2 → Fz M M2) (K7 : Int32 → Int32 → Mem → Option Mem) (hK7 : ∀ (x1 : Int32) (x2 : Int32) (M : Mem) (M' : Mem), K7 x1 x2 M = some M' → Fz M M') (x1 : Int32) (x2 : Int32) (M : Mem) (M' : Mem) (h : f_r_readSum_32 N RO K7 x1 x2 M = some M') : Fz M M' := by
  rw [f_r_readSum_32] at h
  obtain ⟨q2, e_q2, h⟩ := Option.bind_eq_some_iff.mp h
  refine Fz.tr (fs_r_advance M q2 e_q2) ?_
  obtain ⟨q3, e_q3, h⟩ := Option.bind_eq_some_iff.mp h
  refine Fz.tr (fs_r_readProduct N RO hRO x1 q2 q3 e_q3) ?_
  obtain ⟨q4, e_q4, h⟩ := Option.bind_eq_some_iff.mp h
  refine Fz.tr (fs_p_put (gi M 103 7) (0 : Int32) q3 q4 e_q4) ?_
  exact hK7 x1 (x2 + (1 : Int32)) q4 _ h
set_option maxRecDepth 100000 in
theorem fs_r_readSum_7 (N : Nat) (RO : Int32 → Mem → Option Mem) (hRO : ∀ (x1 : Int32) (M M2 : Mem), RO x1 M = some M2 → Fz M M2) : ∀ (n : Nat) (x1 : Int32) (x2 : Int32) (M : Mem) (M' : Mem), f_r_readSum_7 N RO n x1 x2 M = some M' → Fz M M' := by
  intro n
  induction n with
  | zero =>
    intro x1 x2 M M' h
    cases h
  | succ n ih =>
    intro x1 x2 M M' h
    rw [f_r_readSum_7] at h
    by_cases hc : (300 : Int32) ≤ x2
    · replace h := (if_pos hc).symm.trans h
      obtain rfl := Option.some.inj h
      exact Fz.rf
    · replace h := (if_neg hc).symm.trans h
      by_cases hc : (gi M 103 7) = (38 : Int32)
      · replace h := (if_pos hc).symm.trans h
        exact fs_r_readSum_32 N RO hRO _ ih x1 x2 M _ h
      · replace h := (if_neg hc).symm.trans h
        by_cases hc : (gi M 103 7) = (39 : Int32)
        · replace h := (if_pos hc).symm.trans h
          exact fs_r_readSum_32 N RO hRO _ ih x1 x2 M _ h
        · replace h := (if_neg hc).symm.trans h
          obtain rfl := Option.some.inj h
          exact Fz.rf
set_option maxRecDepth 100000 in
theorem fs_r_readSum (N : Nat) (RO : Int32 → Mem → Option Mem) (hRO : ∀ (x1 : Int32) (M M2 : Mem), RO x1 M = some M2 → Fz M M2) (x1 : Int32) (M : Mem) (M' : Mem) (h : f_r_readSum N RO x1 M = some M') : Fz M M' := by
  rw [f_r_readSum] at h
  obtain ⟨q1, e_q1, h⟩ := Option.bind_eq_some_iff.mp h
  refine Fz.tr (fs_r_readProduct N RO hRO x1 M q1 e_q1) ?_
  exact fs_r_readSum_7 N RO hRO N x1 (0 : Int32) q1 _ h
set_option maxRecDepth 100000 in
theorem fs_r_expect (x1 : Int32) (M : Mem) (M' : Mem) (h : f_r_expect x1 M = some M') : Fz M M' := by
  rw [f_r_expect] at h
  by_cases hc : (gi M 103 7) = x1
  · replace h := (if_pos hc).symm.trans h
    obtain ⟨q1, e_q1, h⟩ := Option.bind_eq_some_iff.mp h
    refine Fz.tr (fs_r_advance M q1 e_q1) ?_
    obtain rfl := Option.some.inj h
    exact Fz.rf
  · replace h := (if_neg hc).symm.trans h
    obtain ⟨q2, e_q2, h⟩ := Option.bind_eq_some_iff.mp h
    refine Fz.tr (fs_r_fail (1 : Int32) M q2 e_q2) ?_
    obtain rfl := Option.some.inj h
    exact Fz.rf
set_option maxRecDepth 100000 in
theorem fs_p_aim (x1 : Int32) (x2 : Int32) (M : Mem) (M' : Mem) (h : f_p_aim x1 x2 M = some M') : Fz M M' := by
  rw [f_p_aim] at h
  by_cases hc : x1 < (0 : Int32)
  · replace h := (if_pos hc).symm.trans h
    obtain rfl := Option.some.inj h
    exact Fz.rf
  · replace h := (if_neg hc).symm.trans h
    by_cases hc : (gi M 104 3) ≤ x1
    · replace h := (if_pos hc).symm.trans h
      obtain rfl := Option.some.inj h
      exact Fz.rf
    · replace h := (if_neg hc).symm.trans h
      by_cases hc : (300 : Int32) ≤ x1
      · replace h := (if_pos hc).symm.trans h
        obtain rfl := Option.some.inj h
        exact Fz.rf
      · replace h := (if_neg hc).symm.trans h
        obtain ⟨g, h⟩ := am_itg h
        obtain ⟨g, h⟩ := am_itg h
        obtain ⟨q1, e_q1, h⟩ := Option.bind_eq_some_iff.mp h
        refine Fz.w_si e_q1 (by first | decide | simp) (by first | decide | simp) ?_
        obtain rfl := Option.some.inj h
        exact Fz.rf
set_option maxRecDepth 100000 in
theorem fs_r_readCase_73 (N : Nat) (RO : Int32 → Mem → Option Mem) (hRO : ∀ (x1 : Int32) (M M2 : Mem), RO x1 M = some M2 → Fz M M2) (x1 : Int32) (x2 : Int32) (x3 : Int32) (x4 : Int32) (M : Mem) (r : Int32) (M' : Mem) (h : f_r_readCase_73 N RO x1 x2 x3 x4 M = some (r, M')) : Fz M M' := by
  rw [f_r_readCase_73] at h
  obtain ⟨q8, e_q8, h⟩ := Option.bind_eq_some_iff.mp h
  refine Fz.tr (fs_r_expect (44 : Int32) M q8 e_q8) ?_
  obtain ⟨q9, e_q9, h⟩ := Option.bind_eq_some_iff.mp h
  refine Fz.tr (fs_p_put (28 : Int32) x3 q8 q9 e_q9) ?_
  obtain ⟨q10, e_q10, h⟩ := Option.bind_eq_some_iff.mp h
  refine Fz.tr (fs_p_put (54 : Int32) x4 q9 q10 e_q10) ?_
  obtain ⟨q11, e_q11, h⟩ := Option.bind_eq_some_iff.mp h
  refine Fz.tr (fs_p_put (55 : Int32) (0 : Int32) q10 q11 e_q11) ?_
  obtain ⟨q12, e_q12, h⟩ := Option.bind_eq_some_iff.mp h
  refine Fz.tr (fs_r_readSum N RO hRO x1 q11 q12 e_q12) ?_
  obtain ⟨q13, e_q13, h⟩ := Option.bind_eq_some_iff.mp h
  refine Fz.tr (fs_p_put (51 : Int32) (x2 + (1 : Int32)) q12 q13 e_q13) ?_
  obtain ⟨q14, e_q14, h⟩ := Option.bind_eq_some_iff.mp h
  refine Fz.tr (fs_p_aim (gi q10 104 3) (gi q13 104 3) q13 q14 e_q14) ?_
  obtain ⟨rfl, rfl⟩ := Prod.mk.inj (Option.some.inj h)
  exact Fz.rf
set_option maxRecDepth 100000 in
theorem fs_r_readCase (N : Nat) (RO : Int32 → Mem → Option Mem) (hRO : ∀ (x1 : Int32) (M M2 : Mem), RO x1 M = some M2 → Fz M M2) (x1 : Int32) (x2 : Int32) (M : Mem) (r : Int32) (M' : Mem) (h : f_r_readCase N RO x1 x2 M = some (r, M')) : Fz M M' := by
  rw [f_r_readCase] at h
  obtain ⟨q1, e_q1, h⟩ := Option.bind_eq_some_iff.mp h
  refine Fz.tr (fs_r_advance M q1 e_q1) ?_
  obtain ⟨q2, e_q2, h⟩ := Option.bind_eq_some_iff.mp h
  refine Fz.tr (fs_r_expectNumber (0 : Int32) (9999 : Int32) q1 q2.1 q2.2 e_q2) ?_
  by_cases hc : (gi q2.2 103 7) = (29 : Int32)
  · replace h := (if_pos hc).symm.trans h
    obtain ⟨q3, e_q3, h⟩ := Option.bind_eq_some_iff.mp h
    refine Fz.tr (fs_r_advance q2.2 q3 e_q3) ?_
    by_cases hc : (gi q3 103 7) = (33 : Int32)
    · replace h := (if_pos hc).symm.trans h
      obtain ⟨g, h⟩ := am_itg h
      by_cases hc : q2.1 ≤ ((gi q3 102 ((gi q3 103 6)).toNatClampNeg) >>> (15 : Int32))
      · replace h := (if_pos hc).symm.trans h
        obtain ⟨q4, e_q4, h⟩ := Option.bind_eq_some_iff.mp h
        refine Fz.tr (fs_r_expectNumber (0 : Int32) (9999 : Int32) q3 q4.1 q4.2 e_q4) ?_
        exact fs_r_readCase_73 N RO hRO x1 x2 q2.1 q4.1 q4.2 _ _ h
      · replace h := (if_neg hc).symm.trans h
        obtain ⟨q5, e_q5, h⟩ := Option.bind_eq_some_iff.mp h
        refine Fz.tr (fs_r_fail (7 : Int32) q3 q5 e_q5) ?_
        obtain ⟨q6, e_q6, h⟩ := Option.bind_eq_some_iff.mp h
        refine Fz.tr (fs_r_expectNumber (0 : Int32) (9999 : Int32) q5 q6.1 q6.2 e_q6) ?_
        exact fs_r_readCase_73 N RO hRO x1 x2 q2.1 q6.1 q6.2 _ _ h
    · replace h := (if_neg hc).symm.trans h
      obtain ⟨q7, e_q7, h⟩ := Option.bind_eq_some_iff.mp h
      refine Fz.tr (fs_r_expectNumber (0 : Int32) (9999 : Int32) q3 q7.1 q7.2 e_q7) ?_
      exact fs_r_readCase_73 N RO hRO x1 x2 q2.1 q7.1 q7.2 _ _ h
  · replace h := (if_neg hc).symm.trans h
    exact fs_r_readCase_73 N RO hRO x1 x2 q2.1 q2.1 q2.2 _ _ h
set_option maxRecDepth 100000 in
theorem fs_r_readChoose_99 (N : Nat) (RO : Int32 → Mem → Option Mem) (hRO : ∀ (x1 : Int32) (M M2 : Mem), RO x1 M = some M2 → Fz M M2) : ∀ (n : Nat) (x2 : Int32) (x3 : Int32) (M : Mem) (M' : Mem), f_r_readChoose_99 N RO n x2 x3 M = some M' → Fz M M' := by
  intro n
  induction n with
  | zero =>
    intro x2 x3 M M' h
    cases h
  | succ n ih =>
    intro x2 x3 M M' h
    rw [f_r_readChoose_99] at h
    by_cases hc : (6 : Int32) ≤ x3
    · replace h := (if_pos hc).symm.trans h
      obtain rfl := Option.some.inj h
      exact Fz.rf
    · replace h := (if_neg hc).symm.trans h
      by_cases hc : x2 = (-1 : Int32)
      · replace h := (if_pos hc).symm.trans h
        obtain rfl := Option.some.inj h
        exact Fz.rf
      · replace h := (if_neg hc).symm.trans h
        obtain ⟨q10, e_q10, h⟩ := Option.bind_eq_some_iff.mp h
        obtain ⟨q11, e_q11, h⟩ := Option.bind_eq_some_iff.mp h
        refine Fz.tr (fs_p_aim x2 (gi M 104 3) M q11 e_q11) ?_
        exact ih (q10 - (1 : Int32)) (x3 + (1 : Int32)) q11 _ h
set_option maxRecDepth 100000 in
theorem fs_r_readChoose_70 (N : Nat) (RO : Int32 → Mem → Option Mem) (hRO : ∀ (x1 : Int32) (M M2 : Mem), RO x1 M = some M2 → Fz M M2) (x1 : Int32) (x2 : Int32) (M : Mem) (M' : Mem) (h : f_r_readChoose_70 N RO x1 x2 M = some M') : Fz M M' := by
  rw [f_r_readChoose_70] at h
  obtain ⟨q6, e_q6, h⟩ := Option.bind_eq_some_iff.mp h
  refine Fz.tr (fs_r_expect (30 : Int32) M q6 e_q6) ?_
  obtain ⟨q7, e_q7, h⟩ := Option.bind_eq_some_iff.mp h
  refine Fz.tr (fs_p_put (52 : Int32) (0 : Int32) q6 q7 e_q7) ?_
  obtain ⟨q8, e_q8, h⟩ := Option.bind_eq_some_iff.mp h
  refine Fz.tr (fs_r_readSum N RO hRO x1 q7 q8 e_q8) ?_
  obtain ⟨q9, e_q9, h⟩ := Option.bind_eq_some_iff.mp h
  refine Fz.tr (fs_r_expect (31 : Int32) q8 q9 e_q9) ?_
  exact fs_r_readChoose_99 N RO hRO N x2 (0 : Int32) q9 _ h
set_option maxRecDepth 100000 in
theorem fs_r_readChoose_27 (N : Nat) (RO : Int32 → Mem → Option Mem) (hRO : ∀ (x1 : Int32) (M M2 : Mem), RO x1 M = some M2 → Fz M M2) : ∀ (n : Nat) (x1 : Int32) (x2 : Int32) (x3 : Int32) (M : Mem) (M' : Mem), f_r_readChoose_27 N RO n x1 x2 x3 M = some M' → Fz M M' := by
  intro n
  induction n with
  | zero =>
    intro x1 x2 x3 M M' h
    cases h
  | succ n ih =>
    intro x1 x2 x3 M M' h
    rw [f_r_readChoose_27] at h
    by_cases hc : (6 : Int32) < x3
    · replace h := (if_pos hc).symm.trans h
      exact fs_r_readChoose_70 N RO hRO x1 x2 M _ h
    · replace h := (if_neg hc).symm.trans h
      by_cases hc : (gi M 103 7) = (28 : Int32)
      · replace h := (if_pos hc).symm.trans h
        by_cases hc : x3 = (6 : Int32)
        · replace h := (if_pos hc).symm.trans h
          obtain ⟨q4, e_q4, h⟩ := Option.bind_eq_some_iff.mp h
          refine Fz.tr (fs_r_fail (7 : Int32) M q4 e_q4) ?_
          exact ih x1 x2 (x3 + (1 : Int32)) q4 _ h
        · replace h := (if_neg hc).symm.trans h
          obtain ⟨q5, e_q5, h⟩ := Option.bind_eq_some_iff.mp h
          refine Fz.tr (fs_r_readCase N RO hRO x1 x2 M q5.1 q5.2 e_q5) ?_
          exact ih x1 q5.1 (x3 + (1 : Int32)) q5.2 _ h
      · replace h := (if_neg hc).symm.trans h
        exact fs_r_readChoose_70 N RO hRO x1 x2 M _ h
set_option maxRecDepth 100000 in
theorem fs_r_readChoose (N : Nat) (RO : Int32 → Mem → Option Mem) (hRO : ∀ (x1 : Int32) (M M2 : Mem), RO x1 M = some M2 → Fz M M2) (x1 : Int32) (M : Mem) (M' : Mem) (h : f_r_readChoose N RO x1 M = some M') : Fz M M' := by
  rw [f_r_readChoose] at h
  obtain ⟨q1, e_q1, h⟩ := Option.bind_eq_some_iff.mp h
  refine Fz.tr (fs_r_advance M q1 e_q1) ?_
  obtain ⟨q2, e_q2, h⟩ := Option.bind_eq_some_iff.mp h
  refine Fz.tr (fs_r_readSum N RO hRO x1 q1 q2 e_q2) ?_
  by_cases hc : (gi q2 103 7) = (28 : Int32)
  · replace h := (if_pos hc).symm.trans h
    exact fs_r_readChoose_27 N RO hRO N x1 (-1 : Int32) (0 : Int32) q2 _ h
  · replace h := (if_neg hc).symm.trans h
    obtain ⟨q3, e_q3, h⟩ := Option.bind_eq_some_iff.mp h
    refine Fz.tr (fs_r_fail (1 : Int32) q2 q3 e_q3) ?_
    exact fs_r_readChoose_27 N RO hRO N x1 (-1 : Int32) (0 : Int32) q3 _ h
set_option maxRecDepth 100000 in
theorem fs_r_readOne_84 (N : Nat) (RO : Int32 → Mem → Option Mem) (hRO : ∀ (x1 : Int32) (M M2 : Mem), RO x1 M = some M2 → Fz M M2) (x1 : Int32) (M : Mem) (M' : Mem) (h : f_r_readOne_84 N RO x1 M = some M') : Fz M M' := by
  rw [f_r_readOne_84] at h
  by_cases hc : x1 < (8 : Int32)
  · replace h := (if_pos hc).symm.trans h
    by_cases hc : (gi M 103 7) = (27 : Int32)
    · replace h := (if_pos hc).symm.trans h
      obtain ⟨q5, e_q5, h⟩ := Option.bind_eq_some_iff.mp h
      refine Fz.tr (fs_r_readChoose N RO hRO (x1 + (1 : Int32)) M q5 e_q5) ?_
      obtain rfl := Option.some.inj h
      exact Fz.rf
    · replace h := (if_neg hc).symm.trans h
      by_cases hc : (gi M 103 7) = (42 : Int32)
      · replace h := (if_pos hc).symm.trans h
        obtain ⟨q6, e_q6, h⟩ := Option.bind_eq_some_iff.mp h
        refine Fz.tr (fs_r_advance M q6 e_q6) ?_
        obtain ⟨q7, e_q7, h⟩ := Option.bind_eq_some_iff.mp h
        refine Fz.tr (fs_r_readSum N RO hRO (x1 + (1 : Int32)) q6 q7 e_q7) ?_
        obtain ⟨q8, e_q8, h⟩ := Option.bind_eq_some_iff.mp h
        refine Fz.tr (fs_r_expect (43 : Int32) q7 q8 e_q8) ?_
        obtain rfl := Option.some.inj h
        exact Fz.rf
      · replace h := (if_neg hc).symm.trans h
        obtain ⟨q9, e_q9, h⟩ := Option.bind_eq_some_iff.mp h
        refine Fz.tr (fs_r_advance M q9 e_q9) ?_
        obtain ⟨q10, e_q10, h⟩ := Option.bind_eq_some_iff.mp h
        refine Fz.tr (hRO (x1 + (1 : Int32)) q9 q10 e_q10) ?_
        obtain ⟨q11, e_q11, h⟩ := Option.bind_eq_some_iff.mp h
        refine Fz.tr (fs_p_put (50 : Int32) (0 : Int32) q10 q11 e_q11) ?_
        obtain rfl := Option.some.inj h
        exact Fz.rf
  · replace h := (if_neg hc).symm.trans h
    obtain ⟨q12, e_q12, h⟩ := Option.bind_eq_some_iff.mp h
    refine Fz.tr (fs_r_fail (3 : Int32) M q12 e_q12) ?_
    obtain rfl := Option.some.inj h
    exact Fz.rf
set_option maxRecDepth 100000 in
theorem fs_r_readOneB (N : Nat) (RO : Int32 → Mem → Option Mem) (hRO : ∀ (x1 : Int32) (M M2 : Mem), RO x1 M = some M2 → Fz M M2) (x1 : Int32) (M : Mem) (M' : Mem) (h : f_r_readOneB N RO x1 M = some M') : Fz M M' := by
  rw [f_r_readOneB] at h
  by_cases hc : (gi M 103 7) = (33 : Int32)
  · replace h := (if_pos hc).symm.trans h
    obtain ⟨q1, e_q1, h⟩ := Option.bind_eq_some_iff.mp h
    refine Fz.tr (fs_r_expectNumber (0 : Int32) (9999 : Int32) M q1.1 q1.2 e_q1) ?_
    obtain ⟨q2, e_q2, h⟩ := Option.bind_eq_some_iff.mp h
    refine Fz.tr (fs_p_put (33 : Int32) q1.1 q1.2 q2 e_q2) ?_
    obtain rfl := Option.some.inj h
    exact Fz.rf
  · replace h := (if_neg hc).symm.trans h
    by_cases hc : (f_w_within (gi M 103 7) (0 : Int32) (11 : Int32) M) = (0 : Int32)
    · replace h := (if_pos hc).symm.trans h
      by_cases hc : (gi M 103 7) = (42 : Int32)
      · replace h := (if_pos hc).symm.trans h
        exact fs_r_readOne_84 N RO hRO x1 M _ h
      · replace h := (if_neg hc).symm.trans h
        by_cases hc : (gi M 103 7) = (39 : Int32)
        · replace h := (if_pos hc).symm.trans h
          exact fs_r_readOne_84 N RO hRO x1 M _ h
        · replace h := (if_neg hc).symm.trans h
          by_cases hc : (gi M 103 7) = (27 : Int32)
          · replace h := (if_pos hc).symm.trans h
            exact fs_r_readOne_84 N RO hRO x1 M _ h
          · replace h := (if_neg hc).symm.trans h
            obtain ⟨q3, e_q3, h⟩ := Option.bind_eq_some_iff.mp h
            refine Fz.tr (fs_r_fail (1 : Int32) M q3 e_q3) ?_
            obtain rfl := Option.some.inj h
            exact Fz.rf
    · replace h := (if_neg hc).symm.trans h
      obtain ⟨q4, e_q4, h⟩ := Option.bind_eq_some_iff.mp h
      refine Fz.tr (fs_r_readName M q4 e_q4) ?_
      obtain rfl := Option.some.inj h
      exact Fz.rf
set_option maxRecDepth 100000 in
theorem fs_r_readOne (N : Nat) : ∀ (k : Nat) (x1 : Int32) (M M2 : Mem), f_r_readOne N k x1 M = some M2 → Fz M M2 := by
  intro k
  induction k with
  | zero => intro x1 M M2 h; cases h
  | succ k ih =>
    intro x1 M M2 h
    rw [f_r_readOne] at h
    exact fs_r_readOneB N (f_r_readOne N k) ih x1 M M2 h
set_option maxRecDepth 100000 in
theorem fs_p_startHere (x1 : Int32) (M : Mem) (M' : Mem) (h : f_p_startHere x1 M = some M') : Fz M M' := by
  rw [f_p_startHere] at h
  by_cases hc : (f_w_within x1 (12 : Int32) (14 : Int32) M) = (0 : Int32)
  · replace h := (if_pos hc).symm.trans h
    obtain rfl := Option.some.inj h
    exact Fz.rf
  · replace h := (if_neg hc).symm.trans h
    obtain ⟨g, h⟩ := am_itg h
    obtain ⟨q1, e_q1, h⟩ := Option.bind_eq_some_iff.mp h
    refine Fz.w_si e_q1 (by first | decide | simp) (by first | decide | simp) ?_
    obtain rfl := Option.some.inj h
    exact Fz.rf
set_option maxRecDepth 100000 in
theorem fs_r_readAsk_107 (N : Nat) (RO : Int32 → Mem → Option Mem) (hRO : ∀ (x1 : Int32) (M M2 : Mem), RO x1 M = some M2 → Fz M M2) : ∀ (n : Nat) (x1 : Int32) (x3 : Int32) (M : Mem) (M' : Mem), f_r_readAsk_107 N RO n x1 x3 M = some M' → Fz M M' := by
  intro n
  induction n with
  | zero =>
    intro x1 x3 M M' h
    cases h
  | succ n ih =>
    intro x1 x3 M M' h
    rw [f_r_readAsk_107] at h
    by_cases hc : x1 ≤ x3
    · replace h := (if_pos hc).symm.trans h
      obtain rfl := Option.some.inj h
      exact Fz.rf
    · replace h := (if_neg hc).symm.trans h
      obtain ⟨q14, e_q14, h⟩ := Option.bind_eq_some_iff.mp h
      refine Fz.tr (fs_p_put (26 : Int32) (0 : Int32) M q14 e_q14) ?_
      exact ih x1 (x3 + (1 : Int32)) q14 _ h
set_option maxRecDepth 100000 in
theorem fs_r_readAsk_46 (N : Nat) (RO : Int32 → Mem → Option Mem) (hRO : ∀ (x1 : Int32) (M M2 : Mem), RO x1 M = some M2 → Fz M M2) (x1 : Int32) (M : Mem) (M' : Mem) (h : f_r_readAsk_46 N RO x1 M = some M') : Fz M M' := by
  rw [f_r_readAsk_46] at h
  obtain ⟨q3, e_q3, h⟩ := Option.bind_eq_some_iff.mp h
  refine Fz.tr (fs_r_readSum N RO hRO x1 M q3 e_q3) ?_
  by_cases hc : (f_w_within (gi q3 103 7) (34 : Int32) (37 : Int32) q3) = (0 : Int32)
  · replace h := (if_pos hc).symm.trans h
    by_cases hc : (gi q3 103 7) = (46 : Int32)
    · replace h := (if_pos hc).symm.trans h
      obtain ⟨q4, e_q4, h⟩ := Option.bind_eq_some_iff.mp h
      refine Fz.tr (fs_r_advance q3 q4 e_q4) ?_
      obtain ⟨q5, e_q5, h⟩ := Option.bind_eq_some_iff.mp h
      refine Fz.tr (fs_r_readSum N RO hRO x1 q4 q5 e_q5) ?_
      obtain ⟨q6, e_q6, h⟩ := Option.bind_eq_some_iff.mp h
      refine Fz.tr (fs_p_put (gi q3 103 7) (0 : Int32) q5 q6 e_q6) ?_
      exact fs_r_readAsk_107 N RO hRO N x1 (0 : Int32) q6 _ h
    · replace h := (if_neg hc).symm.trans h
      by_cases hc : (gi q3 103 7) = (47 : Int32)
      · replace h := (if_pos hc).symm.trans h
        obtain ⟨q7, e_q7, h⟩ := Option.bind_eq_some_iff.mp h
        refine Fz.tr (fs_r_advance q3 q7 e_q7) ?_
        obtain ⟨q8, e_q8, h⟩ := Option.bind_eq_some_iff.mp h
        refine Fz.tr (fs_r_readSum N RO hRO x1 q7 q8 e_q8) ?_
        obtain ⟨q9, e_q9, h⟩ := Option.bind_eq_some_iff.mp h
        refine Fz.tr (fs_p_put (gi q3 103 7) (0 : Int32) q8 q9 e_q9) ?_
        exact fs_r_readAsk_107 N RO hRO N x1 (0 : Int32) q9 _ h
      · replace h := (if_neg hc).symm.trans h
        obtain ⟨q10, e_q10, h⟩ := Option.bind_eq_some_iff.mp h
        refine Fz.tr (fs_r_fail (1 : Int32) q3 q10 e_q10) ?_
        exact fs_r_readAsk_107 N RO hRO N x1 (0 : Int32) q10 _ h
  · replace h := (if_neg hc).symm.trans h
    obtain ⟨q11, e_q11, h⟩ := Option.bind_eq_some_iff.mp h
    refine Fz.tr (fs_r_advance q3 q11 e_q11) ?_
    obtain ⟨q12, e_q12, h⟩ := Option.bind_eq_some_iff.mp h
    refine Fz.tr (fs_r_readSum N RO hRO x1 q11 q12 e_q12) ?_
    obtain ⟨q13, e_q13, h⟩ := Option.bind_eq_some_iff.mp h
    refine Fz.tr (fs_p_put (gi q3 103 7) (0 : Int32) q12 q13 e_q13) ?_
    exact fs_r_readAsk_107 N RO hRO N x1 (0 : Int32) q13 _ h
set_option maxRecDepth 100000 in
theorem fs_r_readAsk_4 (N : Nat) (RO : Int32 → Mem → Option Mem) (hRO : ∀ (x1 : Int32) (M M2 : Mem), RO x1 M = some M2 → Fz M M2) : ∀ (n : Nat) (x1 : Int32) (x2 : Int32) (M : Mem) (M' : Mem), f_r_readAsk_4 N RO n x1 x2 M = some M' → Fz M M' := by
  intro n
  induction n with
  | zero =>
    intro x1 x2 M M' h
    cases h
  | succ n ih =>
    intro x1 x2 M M' h
    rw [f_r_readAsk_4] at h
    by_cases hc : (8 : Int32) < x2
    · replace h := (if_pos hc).symm.trans h
      exact fs_r_readAsk_46 N RO hRO x1 M _ h
    · replace h := (if_neg hc).symm.trans h
      by_cases hc : (gi M 103 7) = (26 : Int32)
      · replace h := (if_pos hc).symm.trans h
        by_cases hc : x1 < (8 : Int32)
        · replace h := (if_pos hc).symm.trans h
          obtain ⟨q1, e_q1, h⟩ := Option.bind_eq_some_iff.mp h
          refine Fz.tr (fs_r_advance M q1 e_q1) ?_
          exact ih (x1 + (1 : Int32)) (x2 + (1 : Int32)) q1 _ h
        · replace h := (if_neg hc).symm.trans h
          obtain ⟨q2, e_q2, h⟩ := Option.bind_eq_some_iff.mp h
          refine Fz.tr (fs_r_fail (3 : Int32) M q2 e_q2) ?_
          exact ih x1 (x2 + (1 : Int32)) q2 _ h
      · replace h := (if_neg hc).symm.trans h
        exact fs_r_readAsk_46 N RO hRO x1 M _ h
set_option maxRecDepth 100000 in
theorem fs_r_readAsk (N : Nat) (RO : Int32 → Mem → Option Mem) (hRO : ∀ (x1 : Int32) (M M2 : Mem), RO x1 M = some M2 → Fz M M2) (M : Mem) (M' : Mem) (h : f_r_readAsk N RO M = some M') : Fz M M' := by
  rw [f_r_readAsk] at h
  exact fs_r_readAsk_4 N RO hRO N (0 : Int32) (0 : Int32) M _ h
set_option maxRecDepth 100000 in
theorem fs_r_readEither_36 (N : Nat) (RO : Int32 → Mem → Option Mem) (hRO : ∀ (x1 : Int32) (M M2 : Mem), RO x1 M = some M2 → Fz M M2) (K2 : Int32 → Mem → Option Mem) (hK2 : ∀ (x1 : Int32) (M : Mem) (M' : Mem), K2 x1 M = some M' → Fz M M') : ∀ (n : Nat) (x1 : Int32) (x2 : Int32) (M : Mem) (M' : Mem), f_r_readEither_36 N RO K2 n x1 x2 M = some M' → Fz M M' := by
  intro n
  induction n with
  | zero =>
    intro x1 x2 M M' h
    cases h
  | succ n ih =>
    intro x1 x2 M M' h
    rw [f_r_readEither_36] at h
    by_cases hc : (300 : Int32) ≤ x2
    · replace h := (if_pos hc).symm.trans h
      by_cases hc : x1 ≤ (0 : Int32)
      · replace h := (if_pos hc).symm.trans h
        exact hK2 (x1 + (1 : Int32)) M _ h
      · replace h := (if_neg hc).symm.trans h
        obtain ⟨q7, e_q7, h⟩ := Option.bind_eq_some_iff.mp h
        refine Fz.tr (fs_p_put (24 : Int32) (0 : Int32) M q7 e_q7) ?_
        exact hK2 (x1 + (1 : Int32)) q7 _ h
    · replace h := (if_neg hc).symm.trans h
      by_cases hc : (gi M 103 7) = (25 : Int32)
      · replace h := (if_pos hc).symm.trans h
        obtain ⟨q8, e_q8, h⟩ := Option.bind_eq_some_iff.mp h
        refine Fz.tr (fs_r_advance M q8 e_q8) ?_
        obtain ⟨q9, e_q9, h⟩ := Option.bind_eq_some_iff.mp h
        refine Fz.tr (fs_r_readAsk N RO hRO q8 q9 e_q9) ?_
        obtain ⟨q10, e_q10, h⟩ := Option.bind_eq_some_iff.mp h
        refine Fz.tr (fs_p_put (25 : Int32) (0 : Int32) q9 q10 e_q10) ?_
        exact ih x1 (x2 + (1 : Int32)) q10 _ h
      · replace h := (if_neg hc).symm.trans h
        by_cases hc : x1 ≤ (0 : Int32)
        · replace h := (if_pos hc).symm.trans h
          exact hK2 (x1 + (1 : Int32)) M _ h
        · replace h := (if_neg hc).symm.trans h
          obtain ⟨q11, e_q11, h⟩ := Option.bind_eq_some_iff.mp h
          refine Fz.tr (fs_p_put (24 : Int32) (0 : Int32) M q11 e_q11) ?_
          exact hK2 (x1 + (1 : Int32)) q11 _ h
set_option maxRecDepth 100000 in
theorem fs_r_readEither_2 (N : Nat) (RO : Int32 → Mem → Option Mem) (hRO : ∀ (x1 : Int32) (M M2 : Mem), RO x1 M = some M2 → Fz M M2) : ∀ (n : Nat) (x1 : Int32) (M : Mem) (M' : Mem), f_r_readEither_2 N RO n x1 M = some M' → Fz M M' := by
  intro n
  induction n with
  | zero =>
    intro x1 M M' h
    cases h
  | succ n ih =>
    intro x1 M M' h
    rw [f_r_readEither_2] at h
    by_cases hc : (300 : Int32) ≤ x1
    · replace h := (if_pos hc).symm.trans h
      obtain rfl := Option.some.inj h
      exact Fz.rf
    · replace h := (if_neg hc).symm.trans h
      by_cases hc : x1 = (0 : Int32)
      · replace h := (if_pos hc).symm.trans h
        by_cases hc : x1 ≤ (0 : Int32)
        · replace h := (if_pos hc).symm.trans h
          obtain ⟨q1, e_q1, h⟩ := Option.bind_eq_some_iff.mp h
          refine Fz.tr (fs_r_readAsk N RO hRO M q1 e_q1) ?_
          exact fs_r_readEither_36 N RO hRO _ ih N x1 (0 : Int32) q1 _ h
        · replace h := (if_neg hc).symm.trans h
          obtain ⟨q2, e_q2, h⟩ := Option.bind_eq_some_iff.mp h
          refine Fz.tr (fs_r_advance M q2 e_q2) ?_
          obtain ⟨q3, e_q3, h⟩ := Option.bind_eq_some_iff.mp h
          refine Fz.tr (fs_r_readAsk N RO hRO q2 q3 e_q3) ?_
          exact fs_r_readEither_36 N RO hRO _ ih N x1 (0 : Int32) q3 _ h
      · replace h := (if_neg hc).symm.trans h
        by_cases hc : (gi M 103 7) = (24 : Int32)
        · replace h := (if_pos hc).symm.trans h
          by_cases hc : x1 ≤ (0 : Int32)
          · replace h := (if_pos hc).symm.trans h
            obtain ⟨q4, e_q4, h⟩ := Option.bind_eq_some_iff.mp h
            refine Fz.tr (fs_r_readAsk N RO hRO M q4 e_q4) ?_
            exact fs_r_readEither_36 N RO hRO _ ih N x1 (0 : Int32) q4 _ h
          · replace h := (if_neg hc).symm.trans h
            obtain ⟨q5, e_q5, h⟩ := Option.bind_eq_some_iff.mp h
            refine Fz.tr (fs_r_advance M q5 e_q5) ?_
            obtain ⟨q6, e_q6, h⟩ := Option.bind_eq_some_iff.mp h
            refine Fz.tr (fs_r_readAsk N RO hRO q5 q6 e_q6) ?_
            exact fs_r_readEither_36 N RO hRO _ ih N x1 (0 : Int32) q6 _ h
        · replace h := (if_neg hc).symm.trans h
          obtain rfl := Option.some.inj h
          exact Fz.rf
set_option maxRecDepth 100000 in
theorem fs_r_readEither (N : Nat) (RO : Int32 → Mem → Option Mem) (hRO : ∀ (x1 : Int32) (M M2 : Mem), RO x1 M = some M2 → Fz M M2) (M : Mem) (M' : Mem) (h : f_r_readEither N RO M = some M') : Fz M M' := by
  rw [f_r_readEither] at h
  exact fs_r_readEither_2 N RO hRO N (0 : Int32) M _ h
set_option maxRecDepth 100000 in
theorem fs_p_addClause (x1 : Int32) (x2 : Int32) (x3 : Int32) (M : Mem) (M' : Mem) (h : f_p_addClause x1 x2 x3 M = some M') : Fz M M' := by
  rw [f_p_addClause] at h
  by_cases hc : (f_w_within (gi M 104 4) (0 : Int32) (23 : Int32) M) = (0 : Int32)
  · replace h := (if_pos hc).symm.trans h
    obtain rfl := Option.some.inj h
    exact Fz.rf
  · replace h := (if_neg hc).symm.trans h
    obtain ⟨g, h⟩ := am_itg h
    obtain ⟨q1, e_q1, h⟩ := Option.bind_eq_some_iff.mp h
    refine Fz.w_si e_q1 (by first | decide | simp) (by first | decide | simp) ?_
    obtain ⟨q2, e_q2, h⟩ := Option.bind_eq_some_iff.mp h
    refine Fz.w_si e_q2 (by first | decide | simp) (by first | decide | simp) ?_
    obtain rfl := Option.some.inj h
    exact Fz.rf
set_option maxRecDepth 100000 in
theorem fs_r_readRest (x1 : Int32) (M : Mem) (M' : Mem) (h : f_r_readRest x1 M = some M') : Fz M M' := by
  rw [f_r_readRest] at h
  by_cases hc : (14 : Int32) < x1
  · replace h := (if_pos hc).symm.trans h
    by_cases hc : x1 = (15 : Int32)
    · replace h := (if_pos hc).symm.trans h
      obtain ⟨q1, e_q1, h⟩ := Option.bind_eq_some_iff.mp h
      refine Fz.tr (fs_r_expectNumber (0 : Int32) (9 : Int32) M q1.1 q1.2 e_q1) ?_
      obtain ⟨q2, e_q2, h⟩ := Option.bind_eq_some_iff.mp h
      refine Fz.tr (fs_r_expect (4 : Int32) q1.2 q2 e_q2) ?_
      obtain ⟨q3, e_q3, h⟩ := Option.bind_eq_some_iff.mp h
      refine Fz.tr (fs_r_expectNumber (0 : Int32) (9 : Int32) q2 q3.1 q3.2 e_q3) ?_
      obtain ⟨q4, e_q4, h⟩ := Option.bind_eq_some_iff.mp h
      refine Fz.tr (fs_p_addClause x1 q1.1 q3.1 q3.2 q4 e_q4) ?_
      obtain rfl := Option.some.inj h
      exact Fz.rf
    · replace h := (if_neg hc).symm.trans h
      by_cases hc : x1 = (21 : Int32)
      · replace h := (if_pos hc).symm.trans h
        obtain ⟨q5, e_q5, h⟩ := Option.bind_eq_some_iff.mp h
        refine Fz.tr (fs_r_expectNumber (1 : Int32) (60 : Int32) M q5.1 q5.2 e_q5) ?_
        obtain ⟨q6, e_q6, h⟩ := Option.bind_eq_some_iff.mp h
        refine Fz.tr (fs_p_addClause x1 q5.1 (0 : Int32) q5.2 q6 e_q6) ?_
        obtain rfl := Option.some.inj h
        exact Fz.rf
      · replace h := (if_neg hc).symm.trans h
        by_cases hc : x1 = (20 : Int32)
        · replace h := (if_pos hc).symm.trans h
          obtain ⟨q7, e_q7, h⟩ := Option.bind_eq_some_iff.mp h
          refine Fz.tr (fs_p_addClause x1 (0 : Int32) (0 : Int32) M q7 e_q7) ?_
          obtain rfl := Option.some.inj h
          exact Fz.rf
        · replace h := (if_neg hc).symm.trans h
          by_cases hc : x1 = (23 : Int32)
          · replace h := (if_pos hc).symm.trans h
            obtain ⟨q8, e_q8, h⟩ := Option.bind_eq_some_iff.mp h
            refine Fz.tr (fs_p_addClause x1 (0 : Int32) (0 : Int32) M q8 e_q8) ?_
            obtain rfl := Option.some.inj h
            exact Fz.rf
          · replace h := (if_neg hc).symm.trans h
            obtain ⟨q9, e_q9, h⟩ := Option.bind_eq_some_iff.mp h
            refine Fz.tr (fs_r_expectNumber (0 : Int32) (7 : Int32) M q9.1 q9.2 e_q9) ?_
            obtain ⟨q10, e_q10, h⟩ := Option.bind_eq_some_iff.mp h
            refine Fz.tr (fs_p_addClause x1 q9.1 (0 : Int32) q9.2 q10 e_q10) ?_
            obtain rfl := Option.some.inj h
            exact Fz.rf
  · replace h := (if_neg hc).symm.trans h
    obtain ⟨q11, e_q11, h⟩ := Option.bind_eq_some_iff.mp h
    refine Fz.tr (fs_p_put (53 : Int32) (0 : Int32) M q11 e_q11) ?_
    obtain ⟨q12, e_q12, h⟩ := Option.bind_eq_some_iff.mp h
    refine Fz.tr (fs_p_addClause x1 (0 : Int32) (0 : Int32) q11 q12 e_q12) ?_
    obtain rfl := Option.some.inj h
    exact Fz.rf
set_option maxRecDepth 100000 in
theorem fs_r_readClause (N : Nat) (M : Mem) (M' : Mem) (h : f_r_readClause N M = some M') : Fz M M' := by
  rw [f_r_readClause] at h
  by_cases hc : (f_w_within (gi M 103 7) (12 : Int32) (23 : Int32) M) = (0 : Int32)
  · replace h := (if_pos hc).symm.trans h
    obtain ⟨q1, e_q1, h⟩ := Option.bind_eq_some_iff.mp h
    refine Fz.tr (fs_r_fail (1 : Int32) M q1 e_q1) ?_
    obtain rfl := Option.some.inj h
    exact Fz.rf
  · replace h := (if_neg hc).symm.trans h
    obtain ⟨q2, e_q2, h⟩ := Option.bind_eq_some_iff.mp h
    by_cases hc : q2 = (-1 : Int32)
    · replace h := (if_pos hc).symm.trans h
      by_cases hc : (gi M 104 4) < (24 : Int32)
      · replace h := (if_pos hc).symm.trans h
        obtain ⟨q3, e_q3, h⟩ := Option.bind_eq_some_iff.mp h
        refine Fz.tr (fs_r_advance M q3 e_q3) ?_
        obtain ⟨q4, e_q4, h⟩ := Option.bind_eq_some_iff.mp h
        refine Fz.w_si e_q4 (by first | decide | simp) (by first | decide | simp) ?_
        obtain ⟨q5, e_q5, h⟩ := Option.bind_eq_some_iff.mp h
        refine Fz.tr (fs_p_startHere (gi M 103 7) q4 q5 e_q5) ?_
        by_cases hc : (gi M 103 7) = (12 : Int32)
        · replace h := (if_pos hc).symm.trans h
          obtain ⟨q6, e_q6, h⟩ := Option.bind_eq_some_iff.mp h
          refine Fz.tr (fs_r_readEither N (f_r_readOne N 12) (fs_r_readOne N 12) q5 q6 e_q6) ?_
          obtain ⟨q7, e_q7, h⟩ := Option.bind_eq_some_iff.mp h
          refine Fz.tr (fs_r_readRest (gi M 103 7) q6 q7 e_q7) ?_
          obtain ⟨q8, e_q8, h⟩ := Option.bind_eq_some_iff.mp h
          refine Fz.tr (fs_r_expect (45 : Int32) q7 q8 e_q8) ?_
          obtain rfl := Option.some.inj h
          exact Fz.rf
        · replace h := (if_neg hc).symm.trans h
          by_cases hc : (14 : Int32) < (gi M 103 7)
          · replace h := (if_pos hc).symm.trans h
            obtain ⟨q9, e_q9, h⟩ := Option.bind_eq_some_iff.mp h
            refine Fz.tr (fs_r_readRest (gi M 103 7) q5 q9 e_q9) ?_
            obtain ⟨q10, e_q10, h⟩ := Option.bind_eq_some_iff.mp h
            refine Fz.tr (fs_r_expect (45 : Int32) q9 q10 e_q10) ?_
            obtain rfl := Option.some.inj h
            exact Fz.rf
          · replace h := (if_neg hc).symm.trans h
            obtain ⟨q11, e_q11, h⟩ := Option.bind_eq_some_iff.mp h
            refine Fz.tr (fs_r_readSum N (f_r_readOne N 12) (fs_r_readOne N 12) (0 : Int32) q5 q11 e_q11) ?_
            obtain ⟨q12, e_q12, h⟩ := Option.bind_eq_some_iff.mp h
            refine Fz.tr (fs_r_readRest (gi M 103 7) q11 q12 e_q12) ?_
            obtain ⟨q13, e_q13, h⟩ := Option.bind_eq_some_iff.mp h
            refine Fz.tr (fs_r_expect (45 : Int32) q12 q13 e_q13) ?_
            obtain rfl := Option.some.inj h
            exact Fz.rf
      · replace h := (if_neg hc).symm.trans h
        obtain ⟨q14, e_q14, h⟩ := Option.bind_eq_some_iff.mp h
        refine Fz.tr (fs_r_fail (6 : Int32) M q14 e_q14) ?_
        obtain rfl := Option.some.inj h
        exact Fz.rf
    · replace h := (if_neg hc).symm.trans h
      obtain ⟨q15, e_q15, h⟩ := Option.bind_eq_some_iff.mp h
      refine Fz.tr (fs_r_fail (4 : Int32) M q15 e_q15) ?_
      obtain rfl := Option.some.inj h
      exact Fz.rf
set_option maxRecDepth 100000 in
theorem fs_r_read_52 (N : Nat) : ∀ (n : Nat) (x1 : Int32) (M : Mem) (M' : Mem), f_r_read_52 N n x1 M = some M' → Fz M M' := by
  intro n
  induction n with
  | zero =>
    intro x1 M M' h
    cases h
  | succ n ih =>
    intro x1 M M' h
    rw [f_r_read_52] at h
    by_cases hc : (24 : Int32) < x1
    · replace h := (if_pos hc).symm.trans h
      obtain rfl := Option.some.inj h
      exact Fz.rf
    · replace h := (if_neg hc).symm.trans h
      by_cases hc : (gi M 103 7) = (48 : Int32)
      · replace h := (if_pos hc).symm.trans h
        obtain rfl := Option.some.inj h
        exact Fz.rf
      · replace h := (if_neg hc).symm.trans h
        by_cases hc : (gi M 103 7) = (49 : Int32)
        · replace h := (if_pos hc).symm.trans h
          obtain rfl := Option.some.inj h
          exact Fz.rf
        · replace h := (if_neg hc).symm.trans h
          obtain ⟨q8, e_q8, h⟩ := Option.bind_eq_some_iff.mp h
          refine Fz.tr (fs_r_readClause N M q8 e_q8) ?_
          exact ih (x1 + (1 : Int32)) q8 _ h
