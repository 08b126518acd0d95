/-! Frames. -/
set_option maxRecDepth 100000 in
theorem fr_m_says (N : Nat) (x1 : Int32) (x2 : Int32) (x3 : Int32) (M : Mem) (r : Int32) (M' : Mem) (h : f_m_says N x1 x2 x3 M = some (r, M')) : Fr [139, 140] M M' := by
  rw [f_m_says] at h
  obtain ⟨q1, e_q1, h⟩ := Option.bind_eq_some_iff.mp h
  by_cases hc : (0 : Int32) ≤ q1
  · replace h := (if_pos hc).symm.trans h
    obtain ⟨q2, e_q2, h⟩ := Option.bind_eq_some_iff.mp h
    refine Fr.tr (Fr.sub (fr_m_work N q1 M q2 e_q2) (by first | decide | simp)) ?_
    by_cases hc : (0 : Int32) ≤ (lg_cmp (gj q2 139 0) (0 : Int64))
    · replace h := (if_pos hc).symm.trans h
      by_cases hc : (lg_cmp (gj q2 139 0) (Int32.toInt64 x3)) ≤ (0 : Int32)
      · replace h := (if_pos hc).symm.trans h
        obtain ⟨rfl, rfl⟩ := Prod.mk.inj (Option.some.inj h)
        exact Fr.rf
      · replace h := (if_neg hc).symm.trans h
        obtain ⟨rfl, rfl⟩ := Prod.mk.inj (Option.some.inj h)
        exact Fr.rf
    · replace h := (if_neg hc).symm.trans h
      obtain ⟨rfl, rfl⟩ := Prod.mk.inj (Option.some.inj h)
      exact Fr.rf
  · replace h := (if_neg hc).symm.trans h
    obtain ⟨rfl, rfl⟩ := Prod.mk.inj (Option.some.inj h)
    exact Fr.rf
set_option maxRecDepth 100000 in
theorem fr_m_wouldFall_180 (N : Nat) (x1 : Int32) (M : Mem) (r : Int32) (M' : Mem) (h : f_m_wouldFall_180 N x1 M = some (r, M')) : Fr [129, 138, 139, 140] M M' := by
  rw [f_m_wouldFall_180] at h
  obtain ⟨q21, e_q21, h⟩ := Option.bind_eq_some_iff.mp h
  by_cases hc : (3 : Int32) ≤ q21
  · replace h := (if_pos hc).symm.trans h
    obtain ⟨q22, e_q22, h⟩ := Option.bind_eq_some_iff.mp h
    refine Fr.tr (Fr.sub (fr_m_says N (1 : Int32) (0 : Int32) (99 : Int32) M q22.1 q22.2 e_q22) (by first | decide | simp)) ?_
    obtain ⟨rfl, rfl⟩ := Prod.mk.inj (Option.some.inj h)
    exact Fr.rf
  · replace h := (if_neg hc).symm.trans h
    obtain ⟨q23, e_q23, h⟩ := Option.bind_eq_some_iff.mp h
    refine Fr.tr (Fr.sub (fr_m_says N (1 : Int32) (3 : Int32) (99 : Int32) M q23.1 q23.2 e_q23) (by first | decide | simp)) ?_
    obtain ⟨rfl, rfl⟩ := Prod.mk.inj (Option.some.inj h)
    exact Fr.rf
set_option maxRecDepth 100000 in
theorem fr_m_wouldFall_153 (N : Nat) (x1 : Int32) (s1 : Int32) (s2 : Int32) (M : Mem) (r : Int32) (M' : Mem) (h : f_m_wouldFall_153 N x1 s1 s2 M = some (r, M')) : Fr [129, 138, 139, 140] M M' := by
  rw [f_m_wouldFall_153] at h
  obtain ⟨g, h⟩ := am_itg h
  obtain ⟨q18, e_q18, h⟩ := Option.bind_eq_some_iff.mp h
  refine Fr.w_si e_q18 (by first | decide | simp) ?_
  obtain ⟨q19, e_q19, h⟩ := Option.bind_eq_some_iff.mp h
  by_cases hc : q19 < (0 : Int32)
  · replace h := (if_pos hc).symm.trans h
    exact fr_m_wouldFall_180 N x1 q18 _ _ h
  · replace h := (if_neg hc).symm.trans h
    obtain ⟨q20, e_q20, h⟩ := Option.bind_eq_some_iff.mp h
    refine Fr.tr (Fr.sub (fr_m_work N q19 q18 q20 e_q20) (by first | decide | simp)) ?_
    by_cases hc : (gi q20 140 0) = (0 : Int32)
    · replace h := (if_pos hc).symm.trans h
      obtain ⟨rfl, rfl⟩ := Prod.mk.inj (Option.some.inj h)
      exact Fr.rf
    · replace h := (if_neg hc).symm.trans h
      exact fr_m_wouldFall_180 N x1 q20 _ _ h
set_option maxRecDepth 100000 in
theorem fr_m_wouldFall_116 (N : Nat) (x1 : Int32) (s1 : Int32) (s2 : Int32) (M : Mem) (r : Int32) (M' : Mem) (h : f_m_wouldFall_116 N x1 s1 s2 M = some (r, M')) : Fr [129, 138, 139, 140] M M' := by
  rw [f_m_wouldFall_116] at h
  obtain ⟨g, h⟩ := am_itg h
  obtain ⟨q13, e_q13, h⟩ := Option.bind_eq_some_iff.mp h
  refine Fr.w_si e_q13 (by first | decide | simp) ?_
  obtain ⟨q14, e_q14, h⟩ := Option.bind_eq_some_iff.mp h
  obtain ⟨q15, e_q15, h⟩ := Option.bind_eq_some_iff.mp h
  obtain ⟨q16, e_q16, h⟩ := Option.bind_eq_some_iff.mp h
  refine Fr.w_si e_q16 (by first | decide | simp) ?_
  obtain ⟨q17, e_q17, h⟩ := Option.bind_eq_some_iff.mp h
  refine Fr.tr (Fr.sub (fr_m_holdNow N q16 q17.1 q17.2 e_q17) (by first | decide | simp)) ?_
  by_cases hc : (f_m_has q17.1 x1 q17.2) = (0 : Int32)
  · replace h := (if_pos hc).symm.trans h
    exact fr_m_wouldFall_153 N x1 (9 : Int32) (0 : Int32) q17.2 _ _ h
  · replace h := (if_neg hc).symm.trans h
    exact fr_m_wouldFall_153 N x1 (9 : Int32) (1 : Int32) q17.2 _ _ h
set_option maxRecDepth 100000 in
theorem fr_m_wouldFall (N : Nat) (x1 : Int32) (x2 : Int32) (M : Mem) (r : Int32) (M' : Mem) (h : f_m_wouldFall N x1 x2 M = some (r, M')) : Fr [129, 138, 139, 140] M M' := by
  rw [f_m_wouldFall] at h
  obtain ⟨q1, e_q1, h⟩ := Option.bind_eq_some_iff.mp h
  refine Fr.w_si e_q1 (by first | decide | simp) ?_
  obtain ⟨q2, e_q2, h⟩ := Option.bind_eq_some_iff.mp h
  refine Fr.w_si e_q2 (by first | decide | simp) ?_
  obtain ⟨q3, e_q3, h⟩ := Option.bind_eq_some_iff.mp h
  refine Fr.w_si e_q3 (by first | decide | simp) ?_
  obtain ⟨q4, e_q4, h⟩ := Option.bind_eq_some_iff.mp h
  obtain ⟨q5, e_q5, h⟩ := Option.bind_eq_some_iff.mp h
  refine Fr.w_si e_q5 (by first | decide | simp) ?_
  obtain ⟨q6, e_q6, h⟩ := Option.bind_eq_some_iff.mp h
  obtain ⟨q7, e_q7, h⟩ := Option.bind_eq_some_iff.mp h
  refine Fr.w_si e_q7 (by first | decide | simp) ?_
  obtain ⟨q8, e_q8, h⟩ := Option.bind_eq_some_iff.mp h
  refine Fr.w_si e_q8 (by first | decide | simp) ?_
  obtain ⟨q9, e_q9, h⟩ := Option.bind_eq_some_iff.mp h
  obtain ⟨q10, e_q10, h⟩ := Option.bind_eq_some_iff.mp h
  refine Fr.w_si e_q10 (by first | decide | simp) ?_
  obtain ⟨q11, e_q11, h⟩ := Option.bind_eq_some_iff.mp h
  by_cases hc : q11 = (-1 : Int32)
  · replace h := (if_pos hc).symm.trans h
    exact fr_m_wouldFall_116 N x1 (7 : Int32) (99 : Int32) q10 _ _ h
  · replace h := (if_neg hc).symm.trans h
    obtain ⟨q12, e_q12, h⟩ := Option.bind_eq_some_iff.mp h
    exact fr_m_wouldFall_116 N x1 (7 : Int32) ((gi q10 130 2) - q12) q10 _ _ h
set_option maxRecDepth 100000 in
theorem fr_m_log1 (x1 : Int32) (x2 : Int32) (x3 : Int32) (M : Mem) (M' : Mem) (h : f_m_log1 x1 x2 x3 M = some M') : Fr [130] M M' := by
  rw [f_m_log1] at h
  obtain ⟨g, h⟩ := am_itg h
  obtain ⟨q1, e_q1, h⟩ := Option.bind_eq_some_iff.mp h
  refine Fr.w_si e_q1 (by first | decide | simp) ?_
  obtain ⟨q2, e_q2, h⟩ := Option.bind_eq_some_iff.mp h
  refine Fr.w_si e_q2 (by first | decide | simp) ?_
  obtain rfl := Option.some.inj h
  exact Fr.rf
set_option maxRecDepth 100000 in
theorem fr_m_sayNow (N : Nat) (x1 : Int32) (x2 : Int32) (M : Mem) (r : Int32) (M' : Mem) (h : f_m_sayNow N x1 x2 M = some (r, M')) : Fr [129, 130, 138, 139, 140] M M' := by
  rw [f_m_sayNow] at h
  obtain ⟨q1, e_q1, h⟩ := Option.bind_eq_some_iff.mp h
  refine Fr.tr (Fr.sub (fr_m_wouldFall N x1 x2 M q1.1 q1.2 e_q1) (by first | decide | simp)) ?_
  obtain ⟨q2, e_q2, h⟩ := Option.bind_eq_some_iff.mp h
  refine Fr.tr (Fr.sub (fr_m_log1 x1 x2 q1.1 q1.2 q2 e_q2) (by first | decide | simp)) ?_
  obtain ⟨q3, e_q3, h⟩ := Option.bind_eq_some_iff.mp h
  obtain ⟨q4, e_q4, h⟩ := Option.bind_eq_some_iff.mp h
  refine Fr.tr (Fr.sub (fr_m_set x1 (4 : Int32) (q3 + (1 : Int32)) q2 q4 e_q4) (by first | decide | simp)) ?_
  obtain ⟨q5, e_q5, h⟩ := Option.bind_eq_some_iff.mp h
  refine Fr.tr (Fr.sub (fr_m_set x1 (6 : Int32) (gi q4 130 2) q4 q5 e_q5) (by first | decide | simp)) ?_
  by_cases hc : x2 = (2 : Int32)
  · replace h := (if_pos hc).symm.trans h
    obtain ⟨q6, e_q6, h⟩ := Option.bind_eq_some_iff.mp h
    refine Fr.w_si e_q6 (by first | decide | simp) ?_
    obtain ⟨q7, e_q7, h⟩ := Option.bind_eq_some_iff.mp h
    obtain ⟨q8, e_q8, h⟩ := Option.bind_eq_some_iff.mp h
    refine Fr.tr (Fr.sub (fr_m_set x1 (5 : Int32) (q7 + (1 : Int32)) q6 q8 e_q8) (by first | decide | simp)) ?_
    by_cases hc : x2 = (3 : Int32)
    · replace h := (if_pos hc).symm.trans h
      obtain ⟨q9, e_q9, h⟩ := Option.bind_eq_some_iff.mp h
      refine Fr.tr (Fr.sub (fr_m_set x1 (3 : Int32) (0 : Int32) q8 q9 e_q9) (by first | decide | simp)) ?_
      obtain ⟨rfl, rfl⟩ := Prod.mk.inj (Option.some.inj h)
      exact Fr.rf
    · replace h := (if_neg hc).symm.trans h
      obtain ⟨rfl, rfl⟩ := Prod.mk.inj (Option.some.inj h)
      exact Fr.rf
  · replace h := (if_neg hc).symm.trans h
    by_cases hc : x2 = (3 : Int32)
    · replace h := (if_pos hc).symm.trans h
      obtain ⟨q10, e_q10, h⟩ := Option.bind_eq_some_iff.mp h
      refine Fr.tr (Fr.sub (fr_m_set x1 (3 : Int32) (0 : Int32) q5 q10 e_q10) (by first | decide | simp)) ?_
      obtain ⟨rfl, rfl⟩ := Prod.mk.inj (Option.some.inj h)
      exact Fr.rf
    · replace h := (if_neg hc).symm.trans h
      obtain ⟨rfl, rfl⟩ := Prod.mk.inj (Option.some.inj h)
      exact Fr.rf
set_option maxRecDepth 100000 in
theorem fr_m_say (N : Nat) (x1 : Int32) (x2 : Int32) (M : Mem) (r : Int32) (M' : Mem) (h : f_m_say N x1 x2 M = some (r, M')) : Fr [129, 130, 138, 139, 140] M M' := by
  rw [f_m_say] at h
  by_cases hc : (f_m_isGuest x1 M) = (0 : Int32)
  · replace h := (if_pos hc).symm.trans h
    obtain ⟨rfl, rfl⟩ := Prod.mk.inj (Option.some.inj h)
    exact Fr.rf
  · replace h := (if_neg hc).symm.trans h
    by_cases hc : (f_m_isIn x2 (0 : Int32) (3 : Int32) M) = (0 : Int32)
    · replace h := (if_pos hc).symm.trans h
      obtain ⟨rfl, rfl⟩ := Prod.mk.inj (Option.some.inj h)
      exact Fr.rf
    · replace h := (if_neg hc).symm.trans h
      obtain ⟨q1, e_q1, h⟩ := Option.bind_eq_some_iff.mp h
      by_cases hc : q1 = (0 : Int32)
      · replace h := (if_pos hc).symm.trans h
        obtain ⟨rfl, rfl⟩ := Prod.mk.inj (Option.some.inj h)
        exact Fr.rf
      · replace h := (if_neg hc).symm.trans h
        obtain ⟨q2, e_q2, h⟩ := Option.bind_eq_some_iff.mp h
        refine Fr.tr (Fr.sub (fr_m_keep N M q2 e_q2) (by first | decide | simp)) ?_
        obtain ⟨q3, e_q3, h⟩ := Option.bind_eq_some_iff.mp h
        refine Fr.tr (Fr.sub (fr_m_sayNow N x1 x2 q2 q3.1 q3.2 e_q3) (by first | decide | simp)) ?_
        obtain ⟨rfl, rfl⟩ := Prod.mk.inj (Option.some.inj h)
        exact Fr.rf
set_option maxRecDepth 100000 in
theorem fr_w_ask (M : Mem) (r : Int32) (M' : Mem) (h : f_w_ask M = some (r, M')) : Fr [12, 14, 16, 17, 18, 19, 20, 21, 22, 23, 24, 25, 26, 27, 28, 29, 30, 31, 32, 33, 34, 35, 36, 37, 38, 39, 40, 41, 42, 43, 44, 45] M M' := by
  rw [f_w_ask] at h
  by_cases hc : (f_e_isFull M) = (0 : Int32)
  · replace h := (if_pos hc).symm.trans h
    obtain ⟨q1, e_q1, h⟩ := Option.bind_eq_some_iff.mp h
    refine Fr.tr (Fr.sub (fr_t_keepStep M q1 e_q1) (by first | decide | simp)) ?_
    obtain ⟨q2, e_q2, h⟩ := Option.bind_eq_some_iff.mp h
    refine Fr.tr (Fr.sub (fr_e_enter (8 : Int32) (4 : Int32) (f_e_moment q1) q1 q2 e_q2) (by first | decide | simp)) ?_
    obtain ⟨rfl, rfl⟩ := Prod.mk.inj (Option.some.inj h)
    exact Fr.rf
  · replace h := (if_neg hc).symm.trans h
    obtain ⟨rfl, rfl⟩ := Prod.mk.inj (Option.some.inj h)
    exact Fr.rf
set_option maxRecDepth 100000 in
theorem fr_m_ask (N : Nat) (M : Mem) (r : Int32) (M' : Mem) (h : f_m_ask N M = some (r, M')) : Fr [130] M M' := by
  rw [f_m_ask] at h
  by_cases hc : (gi M 130 8) = (40 : Int32)
  · replace h := (if_pos hc).symm.trans h
    obtain ⟨rfl, rfl⟩ := Prod.mk.inj (Option.some.inj h)
    exact Fr.rf
  · replace h := (if_neg hc).symm.trans h
    obtain ⟨q1, e_q1, h⟩ := Option.bind_eq_some_iff.mp h
    refine Fr.tr (Fr.sub (fr_m_keep N M q1 e_q1) (by first | decide | simp)) ?_
    obtain ⟨q2, e_q2, h⟩ := Option.bind_eq_some_iff.mp h
    refine Fr.tr (Fr.sub (fr_m_log1 (8 : Int32) (4 : Int32) (gi q1 130 2) q1 q2 e_q2) (by first | decide | simp)) ?_
    obtain ⟨rfl, rfl⟩ := Prod.mk.inj (Option.some.inj h)
    exact Fr.rf
set_option maxRecDepth 100000 in
theorem fr_e_setMoment (x1 : Int32) (M : Mem) (M' : Mem) (h : f_e_setMoment x1 M = some M') : Fr [12] M M' := by
  rw [f_e_setMoment] at h
  obtain ⟨q1, e_q1, h⟩ := Option.bind_eq_some_iff.mp h
  refine Fr.w_si e_q1 (by first | decide | simp) ?_
  obtain rfl := Option.some.inj h
  exact Fr.rf
set_option maxRecDepth 100000 in
theorem fr_w_passOne_13 (N : Nat) : ∀ (n : Nat) (x1 : Int32) (x2 : Int32) (M : Mem) (M' : Mem), f_w_passOne_13 N n x1 x2 M = some M' → Fr [12] M M' := by
  intro n
  induction n with
  | zero =>
    intro x1 x2 M M' h
    cases h
  | succ n ih =>
    intro x1 x2 M M' h
    rw [f_w_passOne_13] at h
    by_cases hc : (gi M 7 3) ≤ x2
    · replace h := (if_pos hc).symm.trans h
      obtain ⟨q1, e_q1, h⟩ := Option.bind_eq_some_iff.mp h
      refine Fr.tr (Fr.sub (fr_e_setMoment (x1 + (1 : Int32)) M q1 e_q1) (by first | decide | simp)) ?_
      obtain rfl := Option.some.inj h
      exact Fr.rf
    · replace h := (if_neg hc).symm.trans h
      obtain ⟨g, h⟩ := am_itg h
      by_cases hc : (gi M 10 (x2).toNatClampNeg) = x1
      · replace h := (if_pos hc).symm.trans h
        obtain ⟨q2, e_q2, h⟩ := Option.bind_eq_some_iff.mp h
        refine Fr.tr (Fr.sub (fr_e_letGo ((1 : Int32) <<< (x2 &&& 31)) M q2 e_q2) (by first | decide | simp)) ?_
        exact ih x1 (x2 + (1 : Int32)) q2 _ h
      · replace h := (if_neg hc).symm.trans h
        exact ih x1 (x2 + (1 : Int32)) M _ h
set_option maxRecDepth 100000 in
theorem fr_w_passOne (N : Nat) (M : Mem) (M' : Mem) (h : f_w_passOne N M = some M') : Fr [12] M M' := by
  rw [f_w_passOne] at h
  exact fr_w_passOne_13 N N (f_e_moment M) (0 : Int32) M _ h
set_option maxRecDepth 100000 in
theorem fr_w_passAsCan_2 (N : Nat) : ∀ (n : Nat) (x1 : Int32) (x2 : Int32) (M : Mem) (r : Int32) (M' : Mem), f_w_passAsCan_2 N n x1 x2 M = some (r, M') → Fr [12, 14, 16, 17, 18, 19, 20, 21, 22, 23, 24, 25, 26, 27, 28, 29, 30, 31, 32, 33, 34, 35, 36, 37, 38, 39, 40, 41, 42, 43, 44, 45] M M' := by
  intro n
  induction n with
  | zero =>
    intro x1 x2 M r M' h
    cases h
  | succ n ih =>
    intro x1 x2 M r M' h
    rw [f_w_passAsCan_2] at h
    by_cases hc : x1 ≤ x2
    · replace h := (if_pos hc).symm.trans h
      obtain ⟨rfl, rfl⟩ := Prod.mk.inj (Option.some.inj h)
      exact Fr.rf
    · replace h := (if_neg hc).symm.trans h
      by_cases hc : (f_e_moment M) < (99 : Int32)
      · replace h := (if_pos hc).symm.trans h
        obtain ⟨q1, e_q1, h⟩ := Option.bind_eq_some_iff.mp h
        refine Fr.tr (Fr.sub (fr_t_keepStep M q1 e_q1) (by first | decide | simp)) ?_
        obtain ⟨q2, e_q2, h⟩ := Option.bind_eq_some_iff.mp h
        refine Fr.tr (Fr.sub (fr_w_passOne N q1 q2 e_q2) (by first | decide | simp)) ?_
        exact ih x1 (x2 + (1 : Int32)) q2 _ _ h
      · replace h := (if_neg hc).symm.trans h
        obtain ⟨rfl, rfl⟩ := Prod.mk.inj (Option.some.inj h)
        exact Fr.rf
set_option maxRecDepth 100000 in
theorem fr_w_passAsCan (N : Nat) (x1 : Int32) (M : Mem) (r : Int32) (M' : Mem) (h : f_w_passAsCan N x1 M = some (r, M')) : Fr [12, 14, 16, 17, 18, 19, 20, 21, 22, 23, 24, 25, 26, 27, 28, 29, 30, 31, 32, 33, 34, 35, 36, 37, 38, 39, 40, 41, 42, 43, 44, 45] M M' := by
  rw [f_w_passAsCan] at h
  exact fr_w_passAsCan_2 N N x1 (0 : Int32) M _ _ h
set_option maxRecDepth 100000 in
theorem fr_w_pass (N : Nat) (x1 : Int32) (M : Mem) (r : Int32) (M' : Mem) (h : f_w_pass N x1 M = some (r, M')) : Fr [12, 14, 16, 17, 18, 19, 20, 21, 22, 23, 24, 25, 26, 27, 28, 29, 30, 31, 32, 33, 34, 35, 36, 37, 38, 39, 40, 41, 42, 43, 44, 45] M M' := by
  rw [f_w_pass] at h
  by_cases hc : (f_w_within x1 (1 : Int32) (60 : Int32) M) = (0 : Int32)
  · replace h := (if_pos hc).symm.trans h
    obtain ⟨rfl, rfl⟩ := Prod.mk.inj (Option.some.inj h)
    exact Fr.rf
  · replace h := (if_neg hc).symm.trans h
    by_cases hc : ((f_e_moment M) + x1) ≤ (99 : Int32)
    · replace h := (if_pos hc).symm.trans h
      obtain ⟨q1, e_q1, h⟩ := Option.bind_eq_some_iff.mp h
      refine Fr.tr (Fr.sub (fr_w_passAsCan N x1 M q1.1 q1.2 e_q1) (by first | decide | simp)) ?_
      obtain ⟨rfl, rfl⟩ := Prod.mk.inj (Option.some.inj h)
      exact Fr.rf
    · replace h := (if_neg hc).symm.trans h
      obtain ⟨rfl, rfl⟩ := Prod.mk.inj (Option.some.inj h)
      exact Fr.rf
set_option maxRecDepth 100000 in
theorem fr_m_passNow_2 (N : Nat) : ∀ (n : Nat) (x1 : Int32) (M : Mem) (M' : Mem), f_m_passNow_2 N n x1 M = some M' → Fr [130] M M' := by
  intro n
  induction n with
  | zero =>
    intro x1 M M' h
    cases h
  | succ n ih =>
    intro x1 M M' h
    rw [f_m_passNow_2] at h
    by_cases hc : (gi M 130 0) ≤ x1
    · replace h := (if_pos hc).symm.trans h
      obtain ⟨q1, e_q1, h⟩ := Option.bind_eq_some_iff.mp h
      refine Fr.w_si e_q1 (by first | decide | simp) ?_
      obtain rfl := Option.some.inj h
      exact Fr.rf
    · replace h := (if_neg hc).symm.trans h
      obtain ⟨q2, e_q2, h⟩ := Option.bind_eq_some_iff.mp h
      by_cases hc : q2 = (gi M 130 2)
      · replace h := (if_pos hc).symm.trans h
        obtain ⟨q3, e_q3, h⟩ := Option.bind_eq_some_iff.mp h
        refine Fr.tr (Fr.sub (fr_m_set x1 (3 : Int32) (0 : Int32) M q3 e_q3) (by first | decide | simp)) ?_
        exact ih (x1 + (1 : Int32)) q3 _ h
      · replace h := (if_neg hc).symm.trans h
        exact ih (x1 + (1 : Int32)) M _ h
set_option maxRecDepth 100000 in
theorem fr_m_passNow (N : Nat) (M : Mem) (M' : Mem) (h : f_m_passNow N M = some M') : Fr [130] M M' := by
  rw [f_m_passNow] at h
  exact fr_m_passNow_2 N N (0 : Int32) M _ h
set_option maxRecDepth 100000 in
theorem fr_m_arePassed_2 (N : Nat) : ∀ (n : Nat) (x1 : Int32) (x2 : Int32) (M : Mem) (r : Int32) (M' : Mem), f_m_arePassed_2 N n x1 x2 M = some (r, M') → Fr [130] M M' := by
  intro n
  induction n with
  | zero =>
    intro x1 x2 M r M' h
    cases h
  | succ n ih =>
    intro x1 x2 M r M' h
    rw [f_m_arePassed_2] at h
    by_cases hc : x1 ≤ x2
    · replace h := (if_pos hc).symm.trans h
      obtain ⟨rfl, rfl⟩ := Prod.mk.inj (Option.some.inj h)
      exact Fr.rf
    · replace h := (if_neg hc).symm.trans h
      by_cases hc : (gi M 130 2) = (99 : Int32)
      · replace h := (if_pos hc).symm.trans h
        obtain ⟨rfl, rfl⟩ := Prod.mk.inj (Option.some.inj h)
        exact Fr.rf
      · replace h := (if_neg hc).symm.trans h
        obtain ⟨q1, e_q1, h⟩ := Option.bind_eq_some_iff.mp h
        refine Fr.tr (Fr.sub (fr_m_keep N M q1 e_q1) (by first | decide | simp)) ?_
        obtain ⟨q2, e_q2, h⟩ := Option.bind_eq_some_iff.mp h
        refine Fr.tr (Fr.sub (fr_m_passNow N q1 q2 e_q2) (by first | decide | simp)) ?_
        exact ih x1 (x2 + (1 : Int32)) q2 _ _ h
set_option maxRecDepth 100000 in
theorem fr_m_arePassed (N : Nat) (x1 : Int32) (M : Mem) (r : Int32) (M' : Mem) (h : f_m_arePassed N x1 M = some (r, M')) : Fr [130] M M' := by
  rw [f_m_arePassed] at h
  exact fr_m_arePassed_2 N N x1 (0 : Int32) M _ _ h
set_option maxRecDepth 100000 in
theorem fr_m_pass (N : Nat) (x1 : Int32) (M : Mem) (r : Int32) (M' : Mem) (h : f_m_pass N x1 M = some (r, M')) : Fr [130] M M' := by
  rw [f_m_pass] at h
  by_cases hc : (f_m_isIn x1 (1 : Int32) (60 : Int32) M) = (0 : Int32)
  · replace h := (if_pos hc).symm.trans h
    obtain ⟨rfl, rfl⟩ := Prod.mk.inj (Option.some.inj h)
    exact Fr.rf
  · replace h := (if_neg hc).symm.trans h
    by_cases hc : (99 : Int32) < ((gi M 130 2) + x1)
    · replace h := (if_pos hc).symm.trans h
      obtain ⟨rfl, rfl⟩ := Prod.mk.inj (Option.some.inj h)
      exact Fr.rf
    · replace h := (if_neg hc).symm.trans h
      obtain ⟨q1, e_q1, h⟩ := Option.bind_eq_some_iff.mp h
      refine Fr.tr (Fr.sub (fr_m_arePassed N x1 M q1.1 q1.2 e_q1) (by first | decide | simp)) ?_
      by_cases hc : q1.1 = (0 : Int32)
      · replace h := (if_pos hc).symm.trans h
        obtain ⟨rfl, rfl⟩ := Prod.mk.inj (Option.some.inj h)
        exact Fr.rf
      · replace h := (if_neg hc).symm.trans h
        obtain ⟨rfl, rfl⟩ := Prod.mk.inj (Option.some.inj h)
        exact Fr.rf
set_option maxRecDepth 100000 in
theorem fr_w_send (x1 : Int32) (M : Mem) (r : Int32) (M' : Mem) (h : f_w_send x1 M = some (r, M')) : Fr [12, 14, 16, 17, 18, 19, 20, 21, 22, 23, 24, 25, 26, 27, 28, 29, 30, 31, 32, 33, 34, 35, 36, 37, 38, 39, 40, 41, 42, 43, 44, 45] M M' := by
  rw [f_w_send] at h
  by_cases hc : (f_t_isThere x1 M) = (0 : Int32)
  · replace h := (if_pos hc).symm.trans h
    obtain ⟨rfl, rfl⟩ := Prod.mk.inj (Option.some.inj h)
    exact Fr.rf
  · replace h := (if_neg hc).symm.trans h
    obtain ⟨q1, e_q1, h⟩ := Option.bind_eq_some_iff.mp h
    refine Fr.tr (Fr.sub (fr_t_keepStep M q1 e_q1) (by first | decide | simp)) ?_
    obtain ⟨q2, e_q2, h⟩ := Option.bind_eq_some_iff.mp h
    refine Fr.tr (Fr.sub (fr_e_letGo ((1 : Int32) <<< (x1 &&& 31)) q1 q2 e_q2) (by first | decide | simp)) ?_
    obtain ⟨rfl, rfl⟩ := Prod.mk.inj (Option.some.inj h)
    exact Fr.rf
set_option maxRecDepth 100000 in
theorem fr_m_send (N : Nat) (x1 : Int32) (M : Mem) (r : Int32) (M' : Mem) (h : f_m_send N x1 M = some (r, M')) : Fr [130] M M' := by
  rw [f_m_send] at h
  by_cases hc : (f_m_isGuest x1 M) = (0 : Int32)
  · replace h := (if_pos hc).symm.trans h
    obtain ⟨rfl, rfl⟩ := Prod.mk.inj (Option.some.inj h)
    exact Fr.rf
  · replace h := (if_neg hc).symm.trans h
    obtain ⟨q1, e_q1, h⟩ := Option.bind_eq_some_iff.mp h
    by_cases hc : q1 = (0 : Int32)
    · replace h := (if_pos hc).symm.trans h
      obtain ⟨rfl, rfl⟩ := Prod.mk.inj (Option.some.inj h)
      exact Fr.rf
    · replace h := (if_neg hc).symm.trans h
      obtain ⟨q2, e_q2, h⟩ := Option.bind_eq_some_iff.mp h
      refine Fr.tr (Fr.sub (fr_m_keep N M q2 e_q2) (by first | decide | simp)) ?_
      obtain ⟨q3, e_q3, h⟩ := Option.bind_eq_some_iff.mp h
      refine Fr.tr (Fr.sub (fr_m_set x1 (3 : Int32) (0 : Int32) q2 q3 e_q3) (by first | decide | simp)) ?_
      obtain ⟨rfl, rfl⟩ := Prod.mk.inj (Option.some.inj h)
      exact Fr.rf
set_option maxRecDepth 100000 in
theorem fr_e_close_81 (M : Mem) (M' : Mem) (h : f_e_close_81 M = some M') : Fr [12] M M' := by
  rw [f_e_close_81] at h
  obtain ⟨q5, e_q5, h⟩ := Option.bind_eq_some_iff.mp h
  refine Fr.w_si e_q5 (by first | decide | simp) ?_
  obtain ⟨q6, e_q6, h⟩ := Option.bind_eq_some_iff.mp h
  refine Fr.w_si e_q6 (by first | decide | simp) ?_
  obtain ⟨q7, e_q7, h⟩ := Option.bind_eq_some_iff.mp h
  refine Fr.w_si e_q7 (by first | decide | simp) ?_
  obtain ⟨q8, e_q8, h⟩ := Option.bind_eq_some_iff.mp h
  refine Fr.w_si e_q8 (by first | decide | simp) ?_
  obtain rfl := Option.some.inj h
  exact Fr.rf
set_option maxRecDepth 100000 in
theorem fr_e_close_34 (x1 : Int32) (x2 : Int32) (M : Mem) (M' : Mem) (h : f_e_close_34 x1 x2 M = some M') : Fr [12] M M' := by
  rw [f_e_close_34] at h
  by_cases hc : (f_w_within (f_e_written M) (0 : Int32) (19 : Int32) M) = (0 : Int32)
  · replace h := (if_pos hc).symm.trans h
    exact fr_e_close_81 M _ h
  · replace h := (if_neg hc).symm.trans h
    obtain ⟨g, h⟩ := am_itg h
    obtain ⟨q3, e_q3, h⟩ := Option.bind_eq_some_iff.mp h
    refine Fr.w_si e_q3 (by first | decide | simp) ?_
    obtain ⟨q4, e_q4, h⟩ := Option.bind_eq_some_iff.mp h
    refine Fr.w_si e_q4 (by first | decide | simp) ?_
    exact fr_e_close_81 q4 _ h
set_option maxRecDepth 100000 in
theorem fr_e_close (x1 : Int32) (x2 : Int32) (M : Mem) (M' : Mem) (h : f_e_close x1 x2 M = some M') : Fr [12] M M' := by
  rw [f_e_close] at h
  by_cases hc : (f_e_written M) < (20 : Int32)
  · replace h := (if_pos hc).symm.trans h
    exact fr_e_close_34 x1 x2 M _ h
  · replace h := (if_neg hc).symm.trans h
    obtain ⟨q1, e_q1, h⟩ := Option.bind_eq_some_iff.mp h
    refine Fr.w_sr e_q1 (by first | decide | simp) ?_
    obtain ⟨q2, e_q2, h⟩ := Option.bind_eq_some_iff.mp h
    refine Fr.w_si e_q2 (by first | decide | simp) ?_
    exact fr_e_close_34 x1 x2 q2 _ h
set_option maxRecDepth 100000 in
theorem fr_l_howLikely_108_6_a (N : Nat) (a : Nat) (x3 : Int32) (M : Mem) (r : Int32) (M' : Mem) (h : f_l_howLikely_108_6_a N a x3 M = some (r, M')) : Fr [108, 109, 110] M M' := by
  rw [f_l_howLikely_108_6_a] at h
  obtain ⟨q1, e_q1, h⟩ := Option.bind_eq_some_iff.mp h
  by_cases hc : q1 = (-1 : Int32)
  · replace h := (if_pos hc).symm.trans h
    obtain ⟨rfl, rfl⟩ := Prod.mk.inj (Option.some.inj h)
    exact Fr.rf
  · replace h := (if_neg hc).symm.trans h
    obtain ⟨q2, e_q2, h⟩ := Option.bind_eq_some_iff.mp h
    refine Fr.tr (Fr.sub (fr_l_nameEvening N M q2 e_q2) (by first | decide | simp)) ?_
    obtain ⟨q3, e_q3, h⟩ := Option.bind_eq_some_iff.mp h
    refine Fr.w_si e_q3 (by first | decide | simp) ?_
    obtain ⟨q4, e_q4, h⟩ := Option.bind_eq_some_iff.mp h
    refine Fr.w_si e_q4 (by first | decide | simp) ?_
    obtain ⟨q5, e_q5, h⟩ := Option.bind_eq_some_iff.mp h
    obtain ⟨q6, e_q6, h⟩ := Option.bind_eq_some_iff.mp h
    refine Fr.tr (Fr.sub (fr_l_run N a q5 q4 q6.1 q6.2 e_q6) (by first | decide | simp)) ?_
    obtain ⟨rfl, rfl⟩ := Prod.mk.inj (Option.some.inj h)
    exact Fr.rf
set_option maxRecDepth 100000 in
theorem fr_w_endDinner (N : Nat) (M : Mem) (r : Int32) (M' : Mem) (h : f_w_endDinner N M = some (r, M')) : Fr [12, 108, 109, 110] M M' := by
  rw [f_w_endDinner] at h
  obtain ⟨q1, e_q1, h⟩ := Option.bind_eq_some_iff.mp h
  cases hs : w_scr (gi M 6 5) with
  | none =>
    rw [hs] at h
    obtain ⟨q2, e_q2, h⟩ := Option.bind_eq_some_iff.mp h
    refine Fr.tr (Fr.sub (fr_e_close q1 (10 : Int32) M q2 e_q2) (by first | decide | simp)) ?_
    obtain ⟨rfl, rfl⟩ := Prod.mk.inj (Option.some.inj h)
    exact Fr.rf
  | some a =>
    rw [hs] at h
    rcases w_scr_cases hs with rfl | rfl | rfl | rfl
    · obtain ⟨q3, e_q3, h⟩ := Option.bind_eq_some_iff.mp h
      refine Fr.tr (Fr.sub (fr_l_howLikely_108_6_a N 113 q1 M q3.1 q3.2 e_q3) (by first | decide | simp)) ?_
      obtain ⟨q4, e_q4, h⟩ := Option.bind_eq_some_iff.mp h
      refine Fr.tr (Fr.sub (fr_e_close q1 q3.1 q3.2 q4 e_q4) (by first | decide | simp)) ?_
      obtain ⟨rfl, rfl⟩ := Prod.mk.inj (Option.some.inj h)
      exact Fr.rf
    · obtain ⟨q3, e_q3, h⟩ := Option.bind_eq_some_iff.mp h
      refine Fr.tr (Fr.sub (fr_l_howLikely_108_6_a N 117 q1 M q3.1 q3.2 e_q3) (by first | decide | simp)) ?_
      obtain ⟨q4, e_q4, h⟩ := Option.bind_eq_some_iff.mp h
      refine Fr.tr (Fr.sub (fr_e_close q1 q3.1 q3.2 q4 e_q4) (by first | decide | simp)) ?_
      obtain ⟨rfl, rfl⟩ := Prod.mk.inj (Option.some.inj h)
      exact Fr.rf
    · obtain ⟨q3, e_q3, h⟩ := Option.bind_eq_some_iff.mp h
      refine Fr.tr (Fr.sub (fr_l_howLikely_108_6_a N 121 q1 M q3.1 q3.2 e_q3) (by first | decide | simp)) ?_
      obtain ⟨q4, e_q4, h⟩ := Option.bind_eq_some_iff.mp h
      refine Fr.tr (Fr.sub (fr_e_close q1 q3.1 q3.2 q4 e_q4) (by first | decide | simp)) ?_
      obtain ⟨rfl, rfl⟩ := Prod.mk.inj (Option.some.inj h)
      exact Fr.rf
    · obtain ⟨q3, e_q3, h⟩ := Option.bind_eq_some_iff.mp h
      refine Fr.tr (Fr.sub (fr_l_howLikely_108_6_a N 125 q1 M q3.1 q3.2 e_q3) (by first | decide | simp)) ?_
      obtain ⟨q4, e_q4, h⟩ := Option.bind_eq_some_iff.mp h
      refine Fr.tr (Fr.sub (fr_e_close q1 q3.1 q3.2 q4 e_q4) (by first | decide | simp)) ?_
      obtain ⟨rfl, rfl⟩ := Prod.mk.inj (Option.some.inj h)
      exact Fr.rf
set_option maxRecDepth 100000 in
theorem fr_w_dinner (N : Nat) (M : Mem) (r : Int32) (M' : Mem) (h : f_w_dinner N M = some (r, M')) : Fr [12, 14, 16, 17, 18, 19, 20, 21, 22, 23, 24, 25, 26, 27, 28, 29, 30, 31, 32, 33, 34, 35, 36, 37, 38, 39, 40, 41, 42, 43, 44, 45, 108, 109, 110] M M' := by
  rw [f_w_dinner] at h
  by_cases hc : (f_e_night M) < (999 : Int32)
  · replace h := (if_pos hc).symm.trans h
    obtain ⟨q1, e_q1, h⟩ := Option.bind_eq_some_iff.mp h
    refine Fr.tr (Fr.sub (fr_t_keepStep M q1 e_q1) (by first | decide | simp)) ?_
    obtain ⟨q2, e_q2, h⟩ := Option.bind_eq_some_iff.mp h
    refine Fr.tr (Fr.sub (fr_w_endDinner N q1 q2.1 q2.2 e_q2) (by first | decide | simp)) ?_
    obtain ⟨rfl, rfl⟩ := Prod.mk.inj (Option.some.inj h)
    exact Fr.rf
  · replace h := (if_neg hc).symm.trans h
    obtain ⟨rfl, rfl⟩ := Prod.mk.inj (Option.some.inj h)
    exact Fr.rf
set_option maxRecDepth 100000 in
theorem fr_m_wouldHold (N : Nat) (M : Mem) (r : Int32) (M' : Mem) (h : f_m_wouldHold N M = some (r, M')) : Fr [129] M M' := by
  rw [f_m_wouldHold] at h
  obtain ⟨q1, e_q1, h⟩ := Option.bind_eq_some_iff.mp h
  refine Fr.tr (Fr.sub (fr_m_holdBy N (5000 : Int32) M q1.1 q1.2 e_q1) (by first | decide | simp)) ?_
  obtain ⟨rfl, rfl⟩ := Prod.mk.inj (Option.some.inj h)
  exact Fr.rf
set_option maxRecDepth 100000 in
theorem fr_m_diesNow (N : Nat) (M : Mem) (r : Int32) (M' : Mem) (h : f_m_diesNow N M = some (r, M')) : Fr [129, 138, 139, 140] M M' := by
  rw [f_m_diesNow] at h
  obtain ⟨q1, e_q1, h⟩ := Option.bind_eq_some_iff.mp h
  refine Fr.w_si e_q1 (by first | decide | simp) ?_
  obtain ⟨q2, e_q2, h⟩ := Option.bind_eq_some_iff.mp h
  refine Fr.w_si e_q2 (by first | decide | simp) ?_
  obtain ⟨q3, e_q3, h⟩ := Option.bind_eq_some_iff.mp h
  refine Fr.w_si e_q3 (by first | decide | simp) ?_
  obtain ⟨q4, e_q4, h⟩ := Option.bind_eq_some_iff.mp h
  refine Fr.w_si e_q4 (by first | decide | simp) ?_
  obtain ⟨q5, e_q5, h⟩ := Option.bind_eq_some_iff.mp h
  refine Fr.tr (Fr.sub (fr_m_wouldHold N q4 q5.1 q5.2 e_q5) (by first | decide | simp)) ?_
  obtain ⟨q6, e_q6, h⟩ := Option.bind_eq_some_iff.mp h
  obtain ⟨q7, e_q7, h⟩ := Option.bind_eq_some_iff.mp h
  refine Fr.w_si e_q7 (by first | decide | simp) ?_
  obtain ⟨q8, e_q8, h⟩ := Option.bind_eq_some_iff.mp h
  refine Fr.tr (Fr.sub (fr_m_says N (2 : Int32) (10 : Int32) (100 : Int32) q7 q8.1 q8.2 e_q8) (by first | decide | simp)) ?_
  obtain ⟨rfl, rfl⟩ := Prod.mk.inj (Option.some.inj h)
  exact Fr.rf
set_option maxRecDepth 100000 in
theorem fr_m_endNow_91 (N : Nat) : ∀ (n : Nat) (x1 : Int32) (x2 : Int32) (M : Mem) (r : Int32) (M' : Mem), f_m_endNow_91 N n x1 x2 M = some (r, M') → Fr [129, 130, 138, 139, 140] M M' := by
  intro n
  induction n with
  | zero =>
    intro x1 x2 M r M' h
    cases h
  | succ n ih =>
    intro x1 x2 M r M' h
    rw [f_m_endNow_91] at h
    by_cases hc : (gi M 130 0) ≤ x2
    · replace h := (if_pos hc).symm.trans h
      obtain ⟨rfl, rfl⟩ := Prod.mk.inj (Option.some.inj h)
      exact Fr.rf
    · replace h := (if_neg hc).symm.trans h
      obtain ⟨q9, e_q9, h⟩ := Option.bind_eq_some_iff.mp h
      refine Fr.tr (Fr.sub (fr_m_sit x2 M q9 e_q9) (by first | decide | simp)) ?_
      exact ih x1 (x2 + (1 : Int32)) q9 _ _ h
set_option maxRecDepth 100000 in
theorem fr_m_endNow (N : Nat) (M : Mem) (r : Int32) (M' : Mem) (h : f_m_endNow N M = some (r, M')) : Fr [129, 130, 138, 139, 140] M M' := by
  rw [f_m_endNow] at h
  obtain ⟨q1, e_q1, h⟩ := Option.bind_eq_some_iff.mp h
  refine Fr.tr (Fr.sub (fr_m_wouldHold N M q1.1 q1.2 e_q1) (by first | decide | simp)) ?_
  obtain ⟨q2, e_q2, h⟩ := Option.bind_eq_some_iff.mp h
  refine Fr.tr (Fr.sub (fr_m_diesNow N q1.2 q2.1 q2.2 e_q2) (by first | decide | simp)) ?_
  obtain ⟨g, h⟩ := am_itg h
  obtain ⟨q3, e_q3, h⟩ := Option.bind_eq_some_iff.mp h
  refine Fr.w_si e_q3 (by first | decide | simp) ?_
  obtain ⟨q4, e_q4, h⟩ := Option.bind_eq_some_iff.mp h
  refine Fr.w_si e_q4 (by first | decide | simp) ?_
  obtain ⟨q5, e_q5, h⟩ := Option.bind_eq_some_iff.mp h
  refine Fr.w_si e_q5 (by first | decide | simp) ?_
  obtain ⟨q6, e_q6, h⟩ := Option.bind_eq_some_iff.mp h
  refine Fr.w_si e_q6 (by first | decide | simp) ?_
  obtain ⟨q7, e_q7, h⟩ := Option.bind_eq_some_iff.mp h
  refine Fr.w_si e_q7 (by first | decide | simp) ?_
  obtain ⟨q8, e_q8, h⟩ := Option.bind_eq_some_iff.mp h
  refine Fr.w_si e_q8 (by first | decide | simp) ?_
  exact fr_m_endNow_91 N N q1.1 (0 : Int32) q8 _ _ h
set_option maxRecDepth 100000 in
theorem fr_m_dinner (N : Nat) (M : Mem) (r : Int32) (M' : Mem) (h : f_m_dinner N M = some (r, M')) : Fr [129, 130, 138, 139, 140] M M' := by
  rw [f_m_dinner] at h
  by_cases hc : (gi M 130 1) = (999 : Int32)
  · replace h := (if_pos hc).symm.trans h
    obtain ⟨rfl, rfl⟩ := Prod.mk.inj (Option.some.inj h)
    exact Fr.rf
  · replace h := (if_neg hc).symm.trans h
    obtain ⟨q1, e_q1, h⟩ := Option.bind_eq_some_iff.mp h
    refine Fr.tr (Fr.sub (fr_m_keep N M q1 e_q1) (by first | decide | simp)) ?_
    obtain ⟨q2, e_q2, h⟩ := Option.bind_eq_some_iff.mp h
    refine Fr.tr (Fr.sub (fr_m_endNow N q1 q2.1 q2.2 e_q2) (by first | decide | simp)) ?_
    obtain ⟨rfl, rfl⟩ := Prod.mk.inj (Option.some.inj h)
    exact Fr.rf
set_option maxRecDepth 100000 in
theorem fr_w_perform (N : Nat) (x1 : Int32) (M : Mem) (r : Int32) (M' : Mem) (h : f_w_perform N x1 M = some (r, M')) : Fr [7, 8, 9, 10, 12, 14, 16, 17, 18, 19, 20, 21, 22, 23, 24, 25, 26, 27, 28, 29, 30, 31, 32, 33, 34, 35, 36, 37, 38, 39, 40, 41, 42, 43, 44, 45, 108, 109, 110] M M' := by
  rw [f_w_perform] at h
  by_cases hc15 : (f_p_headOf x1 M) = (15 : Int32)
  · replace h := (if_pos hc15).symm.trans h
    obtain ⟨q1, e_q1, h⟩ := Option.bind_eq_some_iff.mp h
    refine Fr.tr (Fr.sub (fr_w_guest (f_p_firstOf x1 M) (f_p_secondOf x1 M) (-1 : Int32) M q1.1 q1.2 e_q1) (by first | decide | simp)) ?_
    by_cases hc : q1.1 = (-1 : Int32)
    · replace h := (if_pos hc).symm.trans h
      obtain ⟨rfl, rfl⟩ := Prod.mk.inj (Option.some.inj h)
      exact Fr.rf
    · replace h := (if_neg hc).symm.trans h
      obtain ⟨rfl, rfl⟩ := Prod.mk.inj (Option.some.inj h)
      exact Fr.rf
  replace h := (if_neg hc15).symm.trans h
  by_cases hc16 : (f_p_headOf x1 M) = (16 : Int32)
  · replace h := (if_pos hc16).symm.trans h
    obtain ⟨q2, e_q2, h⟩ := Option.bind_eq_some_iff.mp h
    refine Fr.tr (Fr.sub (fr_w_speak N (f_p_firstOf x1 M) (0 : Int32) (1 : Int32) M q2.1 q2.2 e_q2) (by first | decide | simp)) ?_
    by_cases hc : q2.1 = (-2 : Int32)
    · replace h := (if_pos hc).symm.trans h
      obtain ⟨rfl, rfl⟩ := Prod.mk.inj (Option.some.inj h)
      exact Fr.rf
    · replace h := (if_neg hc).symm.trans h
      obtain ⟨rfl, rfl⟩ := Prod.mk.inj (Option.some.inj h)
      exact Fr.rf
  replace h := (if_neg hc16).symm.trans h
  by_cases hc17 : (f_p_headOf x1 M) = (17 : Int32)
  · replace h := (if_pos hc17).symm.trans h
    obtain ⟨q3, e_q3, h⟩ := Option.bind_eq_some_iff.mp h
    refine Fr.tr (Fr.sub (fr_w_speak N (f_p_firstOf x1 M) (1 : Int32) (1 : Int32) M q3.1 q3.2 e_q3) (by first | decide | simp)) ?_
    by_cases hc : q3.1 = (-2 : Int32)
    · replace h := (if_pos hc).symm.trans h
      obtain ⟨rfl, rfl⟩ := Prod.mk.inj (Option.some.inj h)
      exact Fr.rf
    · replace h := (if_neg hc).symm.trans h
      obtain ⟨rfl, rfl⟩ := Prod.mk.inj (Option.some.inj h)
      exact Fr.rf
  replace h := (if_neg hc17).symm.trans h
  by_cases hc18 : (f_p_headOf x1 M) = (18 : Int32)
  · replace h := (if_pos hc18).symm.trans h
    obtain ⟨q4, e_q4, h⟩ := Option.bind_eq_some_iff.mp h
    refine Fr.tr (Fr.sub (fr_w_speak N (f_p_firstOf x1 M) (2 : Int32) (1 : Int32) M q4.1 q4.2 e_q4) (by first | decide | simp)) ?_
    by_cases hc : q4.1 = (-2 : Int32)
    · replace h := (if_pos hc).symm.trans h
      obtain ⟨rfl, rfl⟩ := Prod.mk.inj (Option.some.inj h)
      exact Fr.rf
    · replace h := (if_neg hc).symm.trans h
      obtain ⟨rfl, rfl⟩ := Prod.mk.inj (Option.some.inj h)
      exact Fr.rf
  replace h := (if_neg hc18).symm.trans h
  by_cases hc19 : (f_p_headOf x1 M) = (19 : Int32)
  · replace h := (if_pos hc19).symm.trans h
    obtain ⟨q5, e_q5, h⟩ := Option.bind_eq_some_iff.mp h
    refine Fr.tr (Fr.sub (fr_w_speak N (f_p_firstOf x1 M) (3 : Int32) (1 : Int32) M q5.1 q5.2 e_q5) (by first | decide | simp)) ?_
    by_cases hc : q5.1 = (-2 : Int32)
    · replace h := (if_pos hc).symm.trans h
      obtain ⟨rfl, rfl⟩ := Prod.mk.inj (Option.some.inj h)
      exact Fr.rf
    · replace h := (if_neg hc).symm.trans h
      obtain ⟨rfl, rfl⟩ := Prod.mk.inj (Option.some.inj h)
      exact Fr.rf
  replace h := (if_neg hc19).symm.trans h
  by_cases hc20 : (f_p_headOf x1 M) = (20 : Int32)
  · replace h := (if_pos hc20).symm.trans h
    obtain ⟨q6, e_q6, h⟩ := Option.bind_eq_some_iff.mp h
    refine Fr.tr (Fr.sub (fr_w_ask M q6.1 q6.2 e_q6) (by first | decide | simp)) ?_
    obtain ⟨g, h⟩ := am_itg h
    obtain ⟨rfl, rfl⟩ := Prod.mk.inj (Option.some.inj h)
    exact Fr.rf
  replace h := (if_neg hc20).symm.trans h
  by_cases hc21 : (f_p_headOf x1 M) = (21 : Int32)
  · replace h := (if_pos hc21).symm.trans h
    obtain ⟨q7, e_q7, h⟩ := Option.bind_eq_some_iff.mp h
    refine Fr.tr (Fr.sub (fr_w_passAsCan N (f_p_firstOf x1 M) M q7.1 q7.2 e_q7) (by first | decide | simp)) ?_
    obtain ⟨g, h⟩ := am_itg h
    obtain ⟨rfl, rfl⟩ := Prod.mk.inj (Option.some.inj h)
    exact Fr.rf
  replace h := (if_neg hc21).symm.trans h
  by_cases hc22 : (f_p_headOf x1 M) = (22 : Int32)
  · replace h := (if_pos hc22).symm.trans h
    obtain ⟨q8, e_q8, h⟩ := Option.bind_eq_some_iff.mp h
    refine Fr.tr (Fr.sub (fr_w_send (f_p_firstOf x1 M) M q8.1 q8.2 e_q8) (by first | decide | simp)) ?_
    obtain ⟨g, h⟩ := am_itg h
    obtain ⟨rfl, rfl⟩ := Prod.mk.inj (Option.some.inj h)
    exact Fr.rf
  replace h := (if_neg hc22).symm.trans h
  by_cases hc23 : (f_p_headOf x1 M) = (23 : Int32)
  · replace h := (if_pos hc23).symm.trans h
    obtain ⟨q9, e_q9, h⟩ := Option.bind_eq_some_iff.mp h
    refine Fr.tr (Fr.sub (fr_w_dinner N M q9.1 q9.2 e_q9) (by first | decide | simp)) ?_
    by_cases hc : q9.1 = (-1 : Int32)
    · replace h := (if_pos hc).symm.trans h
      obtain ⟨rfl, rfl⟩ := Prod.mk.inj (Option.some.inj h)
      exact Fr.rf
    · replace h := (if_neg hc).symm.trans h
      obtain ⟨rfl, rfl⟩ := Prod.mk.inj (Option.some.inj h)
      exact Fr.rf
  replace h := (if_neg hc23).symm.trans h
  obtain ⟨rfl, rfl⟩ := Prod.mk.inj (Option.some.inj h)
  exact Fr.rf
set_option maxRecDepth 100000 in
theorem fr_w_played_35 (N : Nat) (a : Nat) : ∀ (n : Nat) (x3 : Int32) (M : Mem) (r : Int32) (M' : Mem), f_w_played_35 N a n x3 M = some (r, M') → Fr [7, 8, 9, 10, 12, 14, 16, 17, 18, 19, 20, 21, 22, 23, 24, 25, 26, 27, 28, 29, 30, 31, 32, 33, 34, 35, 36, 37, 38, 39, 40, 41, 42, 43, 44, 45, 108, 109, 110] M M' := by
  intro n
  induction n with
  | zero =>
    intro x3 M r M' h
    cases h
  | succ n ih =>
    intro x3 M r M' h
    rw [f_w_played_35] at h
    by_cases hc : (gi M a 4) ≤ x3
    · replace h := (if_pos hc).symm.trans h
      obtain ⟨rfl, rfl⟩ := Prod.mk.inj (Option.some.inj h)
      exact Fr.rf
    · replace h := (if_neg hc).symm.trans h
      obtain ⟨q1, e_q1, h⟩ := Option.bind_eq_some_iff.mp h
      obtain ⟨q2, e_q2, h⟩ := Option.bind_eq_some_iff.mp h
      refine Fr.tr (Fr.sub (fr_w_perform N q1 M q2.1 q2.2 e_q2) (by first | decide | simp)) ?_
      by_cases hc : q2.1 = (0 : Int32)
      · replace h := (if_pos hc).symm.trans h
        obtain ⟨rfl, rfl⟩ := Prod.mk.inj (Option.some.inj h)
        exact Fr.rf
      · replace h := (if_neg hc).symm.trans h
        exact ih (x3 + (1 : Int32)) q2.2 _ _ h
set_option maxRecDepth 100000 in
theorem fr_w_played (N : Nat) (x1 : Int32) (M : Mem) (r : Int32) (M' : Mem) (h : f_w_played N x1 M = some (r, M')) : Fr [7, 8, 9, 10, 12, 14, 16, 17, 18, 19, 20, 21, 22, 23, 24, 25, 26, 27, 28, 29, 30, 31, 32, 33, 34, 35, 36, 37, 38, 39, 40, 41, 42, 43, 44, 45, 108, 109, 110] M M' := by
  rw [f_w_played] at h
  by_cases hc : (f_w_within x1 (0 : Int32) ((gi M 6 4) - (1 : Int32)) M) = (0 : Int32)
  · replace h := (if_pos hc).symm.trans h
    obtain ⟨rfl, rfl⟩ := Prod.mk.inj (Option.some.inj h)
    exact Fr.rf
  · replace h := (if_neg hc).symm.trans h
    cases hs : w_scr x1 with
    | none =>
      rw [hs] at h
      obtain ⟨rfl, rfl⟩ := Prod.mk.inj (Option.some.inj h)
      exact Fr.rf
    | some a =>
      rw [hs] at h
      rcases w_scr_cases hs with rfl | rfl | rfl | rfl
      · exact fr_w_played_35 N 113 N (0 : Int32) M _ _ h
      · exact fr_w_played_35 N 117 N (0 : Int32) M _ _ h
      · exact fr_w_played_35 N 121 N (0 : Int32) M _ _ h
      · exact fr_w_played_35 N 125 N (0 : Int32) M _ _ h
set_option maxRecDepth 100000 in
theorem fr_m_isPlayed (N : Nat) (x1 : Int32) (M : Mem) (r : Int32) (M' : Mem) (h : f_m_isPlayed N x1 M = some (r, M')) : Fr [129, 130, 138, 139, 140] M M' := by
  rw [f_m_isPlayed] at h
  obtain ⟨g, h⟩ := am_itg h
  obtain ⟨g, h⟩ := am_itg h
  by_cases hc3 : (gi M 132 (x1).toNatClampNeg) = (3 : Int32)
  · replace h := (if_pos hc3).symm.trans h
    obtain ⟨g, h⟩ := am_itg h
    obtain ⟨q1, e_q1, h⟩ := Option.bind_eq_some_iff.mp h
    refine Fr.tr (Fr.sub (fr_m_guest (gi M 132 ((x1 + (1 : Int32))).toNatClampNeg) (gi M 132 ((x1 + (2 : Int32))).toNatClampNeg) (-1 : Int32) M q1.1 q1.2 e_q1) (by first | decide | simp)) ?_
    by_cases hc : q1.1 < (0 : Int32)
    · replace h := (if_pos hc).symm.trans h
      obtain ⟨rfl, rfl⟩ := Prod.mk.inj (Option.some.inj h)
      exact Fr.rf
    · replace h := (if_neg hc).symm.trans h
      obtain ⟨rfl, rfl⟩ := Prod.mk.inj (Option.some.inj h)
      exact Fr.rf
  replace h := (if_neg hc3).symm.trans h
  by_cases hc4 : (gi M 132 (x1).toNatClampNeg) = (4 : Int32)
  · replace h := (if_pos hc4).symm.trans h
    obtain ⟨q2, e_q2, h⟩ := Option.bind_eq_some_iff.mp h
    refine Fr.tr (Fr.sub (fr_m_say N (gi M 132 ((x1 + (1 : Int32))).toNatClampNeg) (0 : Int32) M q2.1 q2.2 e_q2) (by first | decide | simp)) ?_
    by_cases hc : q2.1 = (-2 : Int32)
    · replace h := (if_pos hc).symm.trans h
      obtain ⟨rfl, rfl⟩ := Prod.mk.inj (Option.some.inj h)
      exact Fr.rf
    · replace h := (if_neg hc).symm.trans h
      obtain ⟨rfl, rfl⟩ := Prod.mk.inj (Option.some.inj h)
      exact Fr.rf
  replace h := (if_neg hc4).symm.trans h
  by_cases hc5 : (gi M 132 (x1).toNatClampNeg) = (5 : Int32)
  · replace h := (if_pos hc5).symm.trans h
    obtain ⟨q3, e_q3, h⟩ := Option.bind_eq_some_iff.mp h
    refine Fr.tr (Fr.sub (fr_m_say N (gi M 132 ((x1 + (1 : Int32))).toNatClampNeg) (1 : Int32) M q3.1 q3.2 e_q3) (by first | decide | simp)) ?_
    by_cases hc : q3.1 = (-2 : Int32)
    · replace h := (if_pos hc).symm.trans h
      obtain ⟨rfl, rfl⟩ := Prod.mk.inj (Option.some.inj h)
      exact Fr.rf
    · replace h := (if_neg hc).symm.trans h
      obtain ⟨rfl, rfl⟩ := Prod.mk.inj (Option.some.inj h)
      exact Fr.rf
  replace h := (if_neg hc5).symm.trans h
  by_cases hc6 : (gi M 132 (x1).toNatClampNeg) = (6 : Int32)
  · replace h := (if_pos hc6).symm.trans h
    obtain ⟨q4, e_q4, h⟩ := Option.bind_eq_some_iff.mp h
    refine Fr.tr (Fr.sub (fr_m_say N (gi M 132 ((x1 + (1 : Int32))).toNatClampNeg) (2 : Int32) M q4.1 q4.2 e_q4) (by first | decide | simp)) ?_
    by_cases hc : q4.1 = (-2 : Int32)
    · replace h := (if_pos hc).symm.trans h
      obtain ⟨rfl, rfl⟩ := Prod.mk.inj (Option.some.inj h)
      exact Fr.rf
    · replace h := (if_neg hc).symm.trans h
      obtain ⟨rfl, rfl⟩ := Prod.mk.inj (Option.some.inj h)
      exact Fr.rf
  replace h := (if_neg hc6).symm.trans h
  by_cases hc7 : (gi M 132 (x1).toNatClampNeg) = (7 : Int32)
  · replace h := (if_pos hc7).symm.trans h
    obtain ⟨q5, e_q5, h⟩ := Option.bind_eq_some_iff.mp h
    refine Fr.tr (Fr.sub (fr_m_say N (gi M 132 ((x1 + (1 : Int32))).toNatClampNeg) (3 : Int32) M q5.1 q5.2 e_q5) (by first | decide | simp)) ?_
    by_cases hc : q5.1 = (-2 : Int32)
    · replace h := (if_pos hc).symm.trans h
      obtain ⟨rfl, rfl⟩ := Prod.mk.inj (Option.some.inj h)
      exact Fr.rf
    · replace h := (if_neg hc).symm.trans h
      obtain ⟨rfl, rfl⟩ := Prod.mk.inj (Option.some.inj h)
      exact Fr.rf
  replace h := (if_neg hc7).symm.trans h
  by_cases hc8 : (gi M 132 (x1).toNatClampNeg) = (8 : Int32)
  · replace h := (if_pos hc8).symm.trans h
    obtain ⟨q6, e_q6, h⟩ := Option.bind_eq_some_iff.mp h
    refine Fr.tr (Fr.sub (fr_m_ask N M q6.1 q6.2 e_q6) (by first | decide | simp)) ?_
    obtain ⟨g, h⟩ := am_itg h
    obtain ⟨rfl, rfl⟩ := Prod.mk.inj (Option.some.inj h)
    exact Fr.rf
  replace h := (if_neg hc8).symm.trans h
  by_cases hc9 : (gi M 132 (x1).toNatClampNeg) = (9 : Int32)
  · replace h := (if_pos hc9).symm.trans h
    obtain ⟨q7, e_q7, h⟩ := Option.bind_eq_some_iff.mp h
    refine Fr.tr (Fr.sub (fr_m_arePassed N (gi M 132 ((x1 + (1 : Int32))).toNatClampNeg) M q7.1 q7.2 e_q7) (by first | decide | simp)) ?_
    obtain ⟨g, h⟩ := am_itg h
    obtain ⟨rfl, rfl⟩ := Prod.mk.inj (Option.some.inj h)
    exact Fr.rf
  replace h := (if_neg hc9).symm.trans h
  by_cases hc10 : (gi M 132 (x1).toNatClampNeg) = (10 : Int32)
  · replace h := (if_pos hc10).symm.trans h
    obtain ⟨q8, e_q8, h⟩ := Option.bind_eq_some_iff.mp h
    refine Fr.tr (Fr.sub (fr_m_send N (gi M 132 ((x1 + (1 : Int32))).toNatClampNeg) M q8.1 q8.2 e_q8) (by first | decide | simp)) ?_
    obtain ⟨g, h⟩ := am_itg h
    obtain ⟨rfl, rfl⟩ := Prod.mk.inj (Option.some.inj h)
    exact Fr.rf
  replace h := (if_neg hc10).symm.trans h
  by_cases hc11 : (gi M 132 (x1).toNatClampNeg) = (11 : Int32)
  · replace h := (if_pos hc11).symm.trans h
    obtain ⟨q9, e_q9, h⟩ := Option.bind_eq_some_iff.mp h
    refine Fr.tr (Fr.sub (fr_m_dinner N M q9.1 q9.2 e_q9) (by first | decide | simp)) ?_
    by_cases hc : q9.1 < (0 : Int32)
    · replace h := (if_pos hc).symm.trans h
      obtain ⟨rfl, rfl⟩ := Prod.mk.inj (Option.some.inj h)
      exact Fr.rf
    · replace h := (if_neg hc).symm.trans h
      obtain ⟨rfl, rfl⟩ := Prod.mk.inj (Option.some.inj h)
      exact Fr.rf
  replace h := (if_neg hc11).symm.trans h
  obtain ⟨rfl, rfl⟩ := Prod.mk.inj (Option.some.inj h)
  exact Fr.rf
set_option maxRecDepth 100000 in
theorem fr_m_played_21 (N : Nat) : ∀ (n : Nat) (x1 : Int32) (x2 : Int32) (M : Mem) (r : Int32) (M' : Mem), f_m_played_21 N n x1 x2 M = some (r, M') → Fr [129, 130, 138, 139, 140] M M' := by
  intro n
  induction n with
  | zero =>
    intro x1 x2 M r M' h
    cases h
  | succ n ih =>
    intro x1 x2 M r M' h
    rw [f_m_played_21] at h
    obtain ⟨g, h⟩ := am_itg h
    by_cases hc : (gi M 132 (((705 : Int32) * x1)).toNatClampNeg) ≤ x2
    · replace h := (if_pos hc).symm.trans h
      obtain ⟨rfl, rfl⟩ := Prod.mk.inj (Option.some.inj h)
      exact Fr.rf
    · replace h := (if_neg hc).symm.trans h
      obtain ⟨q1, e_q1, h⟩ := Option.bind_eq_some_iff.mp h
      refine Fr.tr (Fr.sub (fr_m_isPlayed N ((((705 : Int32) * x1) + (1 : Int32)) + ((4 : Int32) * x2)) M q1.1 q1.2 e_q1) (by first | decide | simp)) ?_
      by_cases hc : q1.1 = (0 : Int32)
      · replace h := (if_pos hc).symm.trans h
        obtain ⟨rfl, rfl⟩ := Prod.mk.inj (Option.some.inj h)
        exact Fr.rf
      · replace h := (if_neg hc).symm.trans h
        exact ih x1 (x2 + (1 : Int32)) q1.2 _ _ h
set_option maxRecDepth 100000 in
theorem fr_m_played (N : Nat) (x1 : Int32) (M : Mem) (r : Int32) (M' : Mem) (h : f_m_played N x1 M = some (r, M')) : Fr [129, 130, 138, 139, 140] M M' := by
  rw [f_m_played] at h
  by_cases hc : (f_m_isIn x1 (0 : Int32) ((gi M 130 5) - (1 : Int32)) M) = (0 : Int32)
  · replace h := (if_pos hc).symm.trans h
    obtain ⟨rfl, rfl⟩ := Prod.mk.inj (Option.some.inj h)
    exact Fr.rf
  · replace h := (if_neg hc).symm.trans h
    exact fr_m_played_21 N N x1 (0 : Int32) M _ _ h
set_option maxRecDepth 100000 in
theorem fr_e_setDraw (x1 : Int32) (M : Mem) (M' : Mem) (h : f_e_setDraw x1 M = some M') : Fr [12] M M' := by
  rw [f_e_setDraw] at h
  obtain ⟨q1, e_q1, h⟩ := Option.bind_eq_some_iff.mp h
  refine Fr.w_si e_q1 (by first | decide | simp) ?_
  obtain rfl := Option.some.inj h
  exact Fr.rf
set_option maxRecDepth 100000 in
theorem fr_w_drawOne (N : Nat) (x1 : Int32) (M : Mem) (r : Int32) (M' : Mem) (h : f_w_drawOne N x1 M = some (r, M')) : Fr [12, 14, 16, 17, 18, 19, 20, 21, 22, 23, 24, 25, 26, 27, 28, 29, 30, 31, 32, 33, 34, 35, 36, 37, 38, 39, 40, 41, 42, 43, 44, 45, 108, 109, 110] M M' := by
  rw [f_w_drawOne] at h
  by_cases hc : (3 : Int32) < (x1 - x1 / (7 : Int32) * (7 : Int32))
  · replace h := (if_pos hc).symm.trans h
    by_cases hc : (x1 - x1 / (7 : Int32) * (7 : Int32)) = (4 : Int32)
    · replace h := (if_pos hc).symm.trans h
      by_cases hc : (f_e_isFull M) = (0 : Int32)
      · replace h := (if_pos hc).symm.trans h
        obtain ⟨q1, e_q1, h⟩ := Option.bind_eq_some_iff.mp h
        refine Fr.tr (Fr.sub (fr_e_enter (8 : Int32) (4 : Int32) (f_e_moment M) M q1 e_q1) (by first | decide | simp)) ?_
        obtain ⟨rfl, rfl⟩ := Prod.mk.inj (Option.some.inj h)
        exact Fr.rf
      · replace h := (if_neg hc).symm.trans h
        obtain ⟨rfl, rfl⟩ := Prod.mk.inj (Option.some.inj h)
        exact Fr.rf
    · replace h := (if_neg hc).symm.trans h
      by_cases hc : (x1 - x1 / (7 : Int32) * (7 : Int32)) = (5 : Int32)
      · replace h := (if_pos hc).symm.trans h
        by_cases hc : (99 : Int32) ≤ (f_e_moment M)
        · replace h := (if_pos hc).symm.trans h
          obtain ⟨rfl, rfl⟩ := Prod.mk.inj (Option.some.inj h)
          exact Fr.rf
        · replace h := (if_neg hc).symm.trans h
          obtain ⟨q2, e_q2, h⟩ := Option.bind_eq_some_iff.mp h
          refine Fr.tr (Fr.sub (fr_w_passOne N M q2 e_q2) (by first | decide | simp)) ?_
          obtain ⟨rfl, rfl⟩ := Prod.mk.inj (Option.some.inj h)
          exact Fr.rf
      · replace h := (if_neg hc).symm.trans h
        by_cases hc : (999 : Int32) ≤ (f_e_night M)
        · replace h := (if_pos hc).symm.trans h
          obtain ⟨rfl, rfl⟩ := Prod.mk.inj (Option.some.inj h)
          exact Fr.rf
        · replace h := (if_neg hc).symm.trans h
          obtain ⟨q3, e_q3, h⟩ := Option.bind_eq_some_iff.mp h
          refine Fr.tr (Fr.sub (fr_w_endDinner N M q3.1 q3.2 e_q3) (by first | decide | simp)) ?_
          obtain ⟨rfl, rfl⟩ := Prod.mk.inj (Option.some.inj h)
          exact Fr.rf
  · replace h := (if_neg hc).symm.trans h
    by_cases hc : (gi M 7 3) ≤ (0 : Int32)
    · replace h := (if_pos hc).symm.trans h
      obtain ⟨q4, e_q4, h⟩ := Option.bind_eq_some_iff.mp h
      refine Fr.tr (Fr.sub (fr_w_speak N (-1 : Int32) (x1 - x1 / (7 : Int32) * (7 : Int32)) (0 : Int32) M q4.1 q4.2 e_q4) (by first | decide | simp)) ?_
      obtain ⟨rfl, rfl⟩ := Prod.mk.inj (Option.some.inj h)
      exact Fr.rf
    · replace h := (if_neg hc).symm.trans h
      obtain ⟨g, h⟩ := am_itn h
      obtain ⟨q5, e_q5, h⟩ := Option.bind_eq_some_iff.mp h
      refine Fr.tr (Fr.sub (fr_w_speak N (x1 - x1 / (gi M 7 3) * (gi M 7 3)) (x1 - x1 / (7 : Int32) * (7 : Int32)) (0 : Int32) M q5.1 q5.2 e_q5) (by first | decide | simp)) ?_
      obtain ⟨rfl, rfl⟩ := Prod.mk.inj (Option.some.inj h)
      exact Fr.rf
set_option maxRecDepth 100000 in
theorem fr_w_years_90 (N : Nat) (K64 : Int32 → Int32 → Int32 → Mem → Option (Int32 × Mem)) (hK64 : ∀ (x2 : Int32) (x3 : Int32) (x4 : Int32) (M : Mem) (r : Int32) (M' : Mem), K64 x2 x3 x4 M = some (r, M') → Fr [12, 14, 16, 17, 18, 19, 20, 21, 22, 23, 24, 25, 26, 27, 28, 29, 30, 31, 32, 33, 34, 35, 36, 37, 38, 39, 40, 41, 42, 43, 44, 45, 108, 109, 110] M M') (x2 : Int32) (x3 : Int32) (x4 : Int32) (M : Mem) (r : Int32) (M' : Mem) (h : f_w_years_90 N K64 x2 x3 x4 M = some (r, M')) : Fr [12, 14, 16, 17, 18, 19, 20, 21, 22, 23, 24, 25, 26, 27, 28, 29, 30, 31, 32, 33, 34, 35, 36, 37, 38, 39, 40, 41, 42, 43, 44, 45, 108, 109, 110] M M' := by
  rw [f_w_years_90] at h
  obtain ⟨q4, e_q4, h⟩ := Option.bind_eq_some_iff.mp h
  refine Fr.tr (Fr.sub (fr_e_setDraw ((((f_e_draw M) * (269 : Int32)) + (163 : Int32)) - (((f_e_draw M) * (269 : Int32)) + (163 : Int32)) / (30259 : Int32) * (30259 : Int32)) M q4 e_q4) (by first | decide | simp)) ?_
  exact hK64 x2 x3 (x4 + (1 : Int32)) q4 _ _ h
set_option maxRecDepth 100000 in
theorem fr_w_years_64 (N : Nat) : ∀ (n : Nat) (x2 : Int32) (x3 : Int32) (x4 : Int32) (M : Mem) (r : Int32) (M' : Mem), f_w_years_64 N n x2 x3 x4 M = some (r, M') → Fr [12, 14, 16, 17, 18, 19, 20, 21, 22, 23, 24, 25, 26, 27, 28, 29, 30, 31, 32, 33, 34, 35, 36, 37, 38, 39, 40, 41, 42, 43, 44, 45, 108, 109, 110] M M' := by
  intro n
  induction n with
  | zero =>
    intro x2 x3 x4 M r M' h
    cases h
  | succ n ih =>
    intro x2 x3 x4 M r M' h
    rw [f_w_years_64] at h
    by_cases hc : x2 ≤ x4
    · replace h := (if_pos hc).symm.trans h
      obtain ⟨rfl, rfl⟩ := Prod.mk.inj (Option.some.inj h)
      exact Fr.rf
    · replace h := (if_neg hc).symm.trans h
      obtain ⟨q3, e_q3, h⟩ := Option.bind_eq_some_iff.mp h
      refine Fr.tr (Fr.sub (fr_w_drawOne N (f_e_draw M) M q3.1 q3.2 e_q3) (by first | decide | simp)) ?_
      by_cases hc : q3.1 = (0 : Int32)
      · replace h := (if_pos hc).symm.trans h
        exact fr_w_years_90 N _ ih x2 x3 x4 q3.2 _ _ h
      · replace h := (if_neg hc).symm.trans h
        exact fr_w_years_90 N _ ih x2 (x3 + (1 : Int32)) x4 q3.2 _ _ h
set_option maxRecDepth 100000 in
theorem fr_w_years (N : Nat) (x1 : Int32) (x2 : Int32) (M : Mem) (r : Int32) (M' : Mem) (h : f_w_years N x1 x2 M = some (r, M')) : Fr [12, 14, 16, 17, 18, 19, 20, 21, 22, 23, 24, 25, 26, 27, 28, 29, 30, 31, 32, 33, 34, 35, 36, 37, 38, 39, 40, 41, 42, 43, 44, 45, 108, 109, 110] M M' := by
  rw [f_w_years] at h
  by_cases hc : (f_w_within x1 (0 : Int32) (9999 : Int32) M) = (0 : Int32)
  · replace h := (if_pos hc).symm.trans h
    obtain ⟨rfl, rfl⟩ := Prod.mk.inj (Option.some.inj h)
    exact Fr.rf
  · replace h := (if_neg hc).symm.trans h
    by_cases hc : (f_w_within x2 (1 : Int32) (40 : Int32) M) = (0 : Int32)
    · replace h := (if_pos hc).symm.trans h
      obtain ⟨rfl, rfl⟩ := Prod.mk.inj (Option.some.inj h)
      exact Fr.rf
    · replace h := (if_neg hc).symm.trans h
      by_cases hc : (0 : Int32) < (gi M 7 3)
      · replace h := (if_pos hc).symm.trans h
        obtain ⟨q1, e_q1, h⟩ := Option.bind_eq_some_iff.mp h
        refine Fr.tr (Fr.sub (fr_t_keepStep M q1 e_q1) (by first | decide | simp)) ?_
        obtain ⟨q2, e_q2, h⟩ := Option.bind_eq_some_iff.mp h
        refine Fr.tr (Fr.sub (fr_e_setDraw ((x1 * (3 : Int32)) + (61 : Int32)) q1 q2 e_q2) (by first | decide | simp)) ?_
        exact fr_w_years_64 N N x2 (0 : Int32) (0 : Int32) q2 _ _ h
      · replace h := (if_neg hc).symm.trans h
        obtain ⟨rfl, rfl⟩ := Prod.mk.inj (Option.some.inj h)
        exact Fr.rf
set_option maxRecDepth 100000 in
theorem fr_m_happens (N : Nat) (x1 : Int32) (M : Mem) (r : Int32) (M' : Mem) (h : f_m_happens N x1 M = some (r, M')) : Fr [129, 130, 138, 139, 140] M M' := by
  rw [f_m_happens] at h
  obtain ⟨g, h⟩ := am_itn h
  by_cases hc4 : (x1 - x1 / (7 : Int32) * (7 : Int32)) = (4 : Int32)
  · replace h := (if_pos hc4).symm.trans h
    by_cases hc : (40 : Int32) ≤ (gi M 130 8)
    · replace h := (if_pos hc).symm.trans h
      obtain ⟨rfl, rfl⟩ := Prod.mk.inj (Option.some.inj h)
      exact Fr.rf
    · replace h := (if_neg hc).symm.trans h
      obtain ⟨q1, e_q1, h⟩ := Option.bind_eq_some_iff.mp h
      refine Fr.tr (Fr.sub (fr_m_log1 (8 : Int32) (4 : Int32) (gi M 130 2) M q1 e_q1) (by first | decide | simp)) ?_
      obtain ⟨rfl, rfl⟩ := Prod.mk.inj (Option.some.inj h)
      exact Fr.rf
  replace h := (if_neg hc4).symm.trans h
  by_cases hc5 : (x1 - x1 / (7 : Int32) * (7 : Int32)) = (5 : Int32)
  · replace h := (if_pos hc5).symm.trans h
    by_cases hc : (99 : Int32) ≤ (gi M 130 2)
    · replace h := (if_pos hc).symm.trans h
      obtain ⟨rfl, rfl⟩ := Prod.mk.inj (Option.some.inj h)
      exact Fr.rf
    · replace h := (if_neg hc).symm.trans h
      obtain ⟨q2, e_q2, h⟩ := Option.bind_eq_some_iff.mp h
      refine Fr.tr (Fr.sub (fr_m_passNow N M q2 e_q2) (by first | decide | simp)) ?_
      obtain ⟨rfl, rfl⟩ := Prod.mk.inj (Option.some.inj h)
      exact Fr.rf
  replace h := (if_neg hc5).symm.trans h
  by_cases hc6 : (x1 - x1 / (7 : Int32) * (7 : Int32)) = (6 : Int32)
  · replace h := (if_pos hc6).symm.trans h
    by_cases hc : (gi M 130 1) = (999 : Int32)
    · replace h := (if_pos hc).symm.trans h
      obtain ⟨rfl, rfl⟩ := Prod.mk.inj (Option.some.inj h)
      exact Fr.rf
    · replace h := (if_neg hc).symm.trans h
      obtain ⟨q3, e_q3, h⟩ := Option.bind_eq_some_iff.mp h
      refine Fr.tr (Fr.sub (fr_m_endNow N M q3.1 q3.2 e_q3) (by first | decide | simp)) ?_
      by_cases hc : q3.1 < (0 : Int32)
      · replace h := (if_pos hc).symm.trans h
        obtain ⟨rfl, rfl⟩ := Prod.mk.inj (Option.some.inj h)
        exact Fr.rf
      · replace h := (if_neg hc).symm.trans h
        obtain ⟨rfl, rfl⟩ := Prod.mk.inj (Option.some.inj h)
        exact Fr.rf
  replace h := (if_neg hc6).symm.trans h
  obtain ⟨q4, e_q4, h⟩ := Option.bind_eq_some_iff.mp h
  by_cases hc : q4 = (0 : Int32)
  · replace h := (if_pos hc).symm.trans h
    obtain ⟨rfl, rfl⟩ := Prod.mk.inj (Option.some.inj h)
    exact Fr.rf
  · replace h := (if_neg hc).symm.trans h
    obtain ⟨q5, e_q5, h⟩ := Option.bind_eq_some_iff.mp h
    refine Fr.tr (Fr.sub (fr_m_sayNow N (x1 - x1 / (gi M 130 0) * (gi M 130 0)) (x1 - x1 / (7 : Int32) * (7 : Int32)) M q5.1 q5.2 e_q5) (by first | decide | simp)) ?_
    obtain ⟨rfl, rfl⟩ := Prod.mk.inj (Option.some.inj h)
    exact Fr.rf
set_option maxRecDepth 100000 in
theorem fr_m_years_53 (N : Nat) : ∀ (n : Nat) (x2 : Int32) (x3 : Int32) (x4 : Int32) (M : Mem) (r : Int32) (M' : Mem), f_m_years_53 N n x2 x3 x4 M = some (r, M') → Fr [129, 130, 138, 139, 140] M M' := by
  intro n
  induction n with
  | zero =>
    intro x2 x3 x4 M r M' h
    cases h
  | succ n ih =>
    intro x2 x3 x4 M r M' h
    rw [f_m_years_53] at h
    by_cases hc : x2 ≤ x4
    · replace h := (if_pos hc).symm.trans h
      obtain ⟨rfl, rfl⟩ := Prod.mk.inj (Option.some.inj h)
      exact Fr.rf
    · replace h := (if_neg hc).symm.trans h
      obtain ⟨q3, e_q3, h⟩ := Option.bind_eq_some_iff.mp h
      refine Fr.tr (Fr.sub (fr_m_happens N (gi M 130 4) M q3.1 q3.2 e_q3) (by first | decide | simp)) ?_
      obtain ⟨q4, e_q4, h⟩ := Option.bind_eq_some_iff.mp h
      refine Fr.w_si e_q4 (by first | decide | simp) ?_
      exact ih x2 (x3 + q3.1) (x4 + (1 : Int32)) q4 _ _ h
set_option maxRecDepth 100000 in
theorem fr_m_years (N : Nat) (x1 : Int32) (x2 : Int32) (M : Mem) (r : Int32) (M' : Mem) (h : f_m_years N x1 x2 M = some (r, M')) : Fr [129, 130, 138, 139, 140] M M' := by
  rw [f_m_years] at h
  by_cases hc : (f_m_isIn x1 (0 : Int32) (9999 : Int32) M) = (0 : Int32)
  · replace h := (if_pos hc).symm.trans h
    obtain ⟨rfl, rfl⟩ := Prod.mk.inj (Option.some.inj h)
    exact Fr.rf
  · replace h := (if_neg hc).symm.trans h
    by_cases hc : (f_m_isIn x2 (1 : Int32) (40 : Int32) M) = (0 : Int32)
    · replace h := (if_pos hc).symm.trans h
      obtain ⟨rfl, rfl⟩ := Prod.mk.inj (Option.some.inj h)
      exact Fr.rf
    · replace h := (if_neg hc).symm.trans h
      by_cases hc : (gi M 130 0) = (0 : Int32)
      · replace h := (if_pos hc).symm.trans h
        obtain ⟨rfl, rfl⟩ := Prod.mk.inj (Option.some.inj h)
        exact Fr.rf
      · replace h := (if_neg hc).symm.trans h
        obtain ⟨q1, e_q1, h⟩ := Option.bind_eq_some_iff.mp h
        refine Fr.tr (Fr.sub (fr_m_keep N M q1 e_q1) (by first | decide | simp)) ?_
        obtain ⟨q2, e_q2, h⟩ := Option.bind_eq_some_iff.mp h
        refine Fr.w_si e_q2 (by first | decide | simp) ?_
        exact fr_m_years_53 N N x2 (0 : Int32) (0 : Int32) q2 _ _ h
set_option maxRecDepth 100000 in
theorem fr_w_undo (M : Mem) (r : Int32) (M' : Mem) (h : f_w_undo M = some (r, M')) : Fr [12, 14] M M' := by
  rw [f_w_undo] at h
  obtain ⟨q1, e_q1, h⟩ := Option.bind_eq_some_iff.mp h
  refine Fr.tr (Fr.sub (fr_s_takeBack M q1.1 q1.2 e_q1) (by first | decide | simp)) ?_
  by_cases hc : q1.1 = (0 : Int32)
  · replace h := (if_pos hc).symm.trans h
    obtain ⟨rfl, rfl⟩ := Prod.mk.inj (Option.some.inj h)
    exact Fr.rf
  · replace h := (if_neg hc).symm.trans h
    obtain ⟨rfl, rfl⟩ := Prod.mk.inj (Option.some.inj h)
    exact Fr.rf
set_option maxRecDepth 100000 in
theorem fr_m_undo_118 (N : Nat) (K101 : Int32 → Int32 → Mem → Option (Int32 × Mem)) (hK101 : ∀ (x1 : Int32) (x2 : Int32) (M : Mem) (r : Int32) (M' : Mem), K101 x1 x2 M = some (r, M') → Fr [130] M M') : ∀ (n : Nat) (x1 : Int32) (x2 : Int32) (x3 : Int32) (M : Mem) (r : Int32) (M' : Mem), f_m_undo_118 N K101 n x1 x2 x3 M = some (r, M') → Fr [130] M M' := by
  intro n
  induction n with
  | zero =>
    intro x1 x2 x3 M r M' h
    cases h
  | succ n ih =>
    intro x1 x2 x3 M r M' h
    rw [f_m_undo_118] at h
    by_cases hc : (4 : Int32) ≤ x3
    · replace h := (if_pos hc).symm.trans h
      exact hK101 x1 (x2 + (1 : Int32)) M _ _ h
    · replace h := (if_neg hc).symm.trans h
      obtain ⟨g, h⟩ := am_itg h
      by_cases hc : (gi M 130 (x1).toNatClampNeg) ≤ x2
      · replace h := (if_pos hc).symm.trans h
        exact hK101 x1 (x2 + (1 : Int32)) M _ _ h
      · replace h := (if_neg hc).symm.trans h
        obtain ⟨g, h⟩ := am_itg h
        obtain ⟨q6, e_q6, h⟩ := Option.bind_eq_some_iff.mp h
        refine Fr.tr (Fr.sub (fr_m_set x2 ((3 : Int32) + x3) (gi M 130 ((((x1 + (7 : Int32)) + ((4 : Int32) * x2)) + x3)).toNatClampNeg) M q6 e_q6) (by first | decide | simp)) ?_
        exact ih x1 x2 (x3 + (1 : Int32)) q6 _ _ h
set_option maxRecDepth 100000 in
theorem fr_m_undo_170 (N : Nat) : ∀ (n : Nat) (x1 : Int32) (x2 : Int32) (M : Mem) (r : Int32) (M' : Mem), f_m_undo_170 N n x1 x2 M = some (r, M') → Fr [130] M M' := by
  intro n
  induction n with
  | zero =>
    intro x1 x2 M r M' h
    cases h
  | succ n ih =>
    intro x1 x2 M r M' h
    rw [f_m_undo_170] at h
    by_cases hc : (40 : Int32) ≤ x2
    · replace h := (if_pos hc).symm.trans h
      obtain ⟨rfl, rfl⟩ := Prod.mk.inj (Option.some.inj h)
      exact Fr.rf
    · replace h := (if_neg hc).symm.trans h
      obtain ⟨g, h⟩ := am_itg h
      obtain ⟨g, h⟩ := am_itg h
      obtain ⟨q7, e_q7, h⟩ := Option.bind_eq_some_iff.mp h
      refine Fr.w_si e_q7 (by first | decide | simp) ?_
      exact ih x1 (x2 + (1 : Int32)) q7 _ _ h
set_option maxRecDepth 100000 in
theorem fr_m_undo_101 (N : Nat) : ∀ (n : Nat) (x1 : Int32) (x2 : Int32) (M : Mem) (r : Int32) (M' : Mem), f_m_undo_101 N n x1 x2 M = some (r, M') → Fr [130] M M' := by
  intro n
  induction n with
  | zero =>
    intro x1 x2 M r M' h
    cases h
  | succ n ih =>
    intro x1 x2 M r M' h
    rw [f_m_undo_101] at h
    by_cases hc : (gi M 130 0) ≤ x2
    · replace h := (if_pos hc).symm.trans h
      exact fr_m_undo_170 N N x1 (0 : Int32) M _ _ h
    · replace h := (if_neg hc).symm.trans h
      obtain ⟨q5, e_q5, h⟩ := Option.bind_eq_some_iff.mp h
      refine Fr.tr (Fr.sub (fr_m_sit x2 M q5 e_q5) (by first | decide | simp)) ?_
      exact fr_m_undo_118 N _ ih N x1 x2 (0 : Int32) q5 _ _ h
set_option maxRecDepth 100000 in
theorem fr_m_undo_39 (N : Nat) : ∀ (n : Nat) (x1 : Int32) (x2 : Int32) (M : Mem) (r : Int32) (M' : Mem), f_m_undo_39 N n x1 x2 M = some (r, M') → Fr [130] M M' := by
  intro n
  induction n with
  | zero =>
    intro x1 x2 M r M' h
    cases h
  | succ n ih =>
    intro x1 x2 M r M' h
    rw [f_m_undo_39] at h
    by_cases hc : (4 : Int32) ≤ x2
    · replace h := (if_pos hc).symm.trans h
      obtain ⟨g, h⟩ := am_itg h
      obtain ⟨q2, e_q2, h⟩ := Option.bind_eq_some_iff.mp h
      refine Fr.w_si e_q2 (by first | decide | simp) ?_
      obtain ⟨g, h⟩ := am_itg h
      obtain ⟨q3, e_q3, h⟩ := Option.bind_eq_some_iff.mp h
      refine Fr.w_si e_q3 (by first | decide | simp) ?_
      exact fr_m_undo_101 N N x1 (0 : Int32) q3 _ _ h
    · replace h := (if_neg hc).symm.trans h
      obtain ⟨g, h⟩ := am_itg h
      obtain ⟨g, h⟩ := am_itg h
      obtain ⟨q4, e_q4, h⟩ := Option.bind_eq_some_iff.mp h
      refine Fr.w_si e_q4 (by first | decide | simp) ?_
      exact ih x1 (x2 + (1 : Int32)) q4 _ _ h
set_option maxRecDepth 100000 in
theorem fr_m_undo (N : Nat) (M : Mem) (r : Int32) (M' : Mem) (h : f_m_undo N M = some (r, M')) : Fr [130] M M' := by
  rw [f_m_undo] at h
  by_cases hc : (gi M 130 7) = (0 : Int32)
  · replace h := (if_pos hc).symm.trans h
    obtain ⟨rfl, rfl⟩ := Prod.mk.inj (Option.some.inj h)
    exact Fr.rf
  · replace h := (if_neg hc).symm.trans h
    obtain ⟨q1, e_q1, h⟩ := Option.bind_eq_some_iff.mp h
    refine Fr.w_si e_q1 (by first | decide | simp) ?_
    exact fr_m_undo_39 N N ((126 : Int32) + ((80 : Int32) * (gi q1 130 7))) (0 : Int32) q1 _ _ h
set_option maxRecDepth 100000 in
theorem fr_w_of (N : Nat) (x1 : Int32) (x2 : Int32) (M : Mem) (r : Int32) (M' : Mem) (h : f_w_of N x1 x2 M = some (r, M')) : Fr [108, 109, 110] M M' := by
  rw [f_w_of] at h
  by_cases hc : (f_g_knows x1 M) = (0 : Int32)
  · replace h := (if_pos hc).symm.trans h
    obtain ⟨rfl, rfl⟩ := Prod.mk.inj (Option.some.inj h)
    exact Fr.rf
  · replace h := (if_neg hc).symm.trans h
    by_cases hc0 : x2 = (0 : Int32)
    · replace h := (if_pos hc0).symm.trans h
      obtain ⟨g, h⟩ := am_itg h
      obtain ⟨rfl, rfl⟩ := Prod.mk.inj (Option.some.inj h)
      exact Fr.rf
    replace h := (if_neg hc0).symm.trans h
    by_cases hc1 : x2 = (1 : Int32)
    · replace h := (if_pos hc1).symm.trans h
      obtain ⟨g, h⟩ := am_itg h
      obtain ⟨rfl, rfl⟩ := Prod.mk.inj (Option.some.inj h)
      exact Fr.rf
    replace h := (if_neg hc1).symm.trans h
    by_cases hc2 : x2 = (2 : Int32)
    · replace h := (if_pos hc2).symm.trans h
      obtain ⟨g, h⟩ := am_itg h
      obtain ⟨rfl, rfl⟩ := Prod.mk.inj (Option.some.inj h)
      exact Fr.rf
    replace h := (if_neg hc2).symm.trans h
    by_cases hc3 : x2 = (3 : Int32)
    · replace h := (if_pos hc3).symm.trans h
      by_cases hc : (f_t_isThere x1 M) = (0 : Int32)
      · replace h := (if_pos hc).symm.trans h
        obtain ⟨rfl, rfl⟩ := Prod.mk.inj (Option.some.inj h)
        exact Fr.rf
      · replace h := (if_neg hc).symm.trans h
        obtain ⟨rfl, rfl⟩ := Prod.mk.inj (Option.some.inj h)
        exact Fr.rf
    replace h := (if_neg hc3).symm.trans h
    by_cases hc4 : x2 = (4 : Int32)
    · replace h := (if_pos hc4).symm.trans h
      obtain ⟨q1, e_q1, h⟩ := Option.bind_eq_some_iff.mp h
      obtain ⟨rfl, rfl⟩ := Prod.mk.inj (Option.some.inj h)
      exact Fr.rf
    replace h := (if_neg hc4).symm.trans h
    by_cases hc5 : x2 = (5 : Int32)
    · replace h := (if_pos hc5).symm.trans h
      obtain ⟨q2, e_q2, h⟩ := Option.bind_eq_some_iff.mp h
      obtain ⟨rfl, rfl⟩ := Prod.mk.inj (Option.some.inj h)
      exact Fr.rf
    replace h := (if_neg hc5).symm.trans h
    by_cases hc6 : x2 = (6 : Int32)
    · replace h := (if_pos hc6).symm.trans h
      obtain ⟨q3, e_q3, h⟩ := Option.bind_eq_some_iff.mp h
      obtain ⟨rfl, rfl⟩ := Prod.mk.inj (Option.some.inj h)
      exact Fr.rf
    replace h := (if_neg hc6).symm.trans h
    by_cases hc7 : x2 = (7 : Int32)
    · replace h := (if_pos hc7).symm.trans h
      cases hs : w_scr (gi M 6 5) with
      | none =>
        rw [hs] at h
        obtain ⟨q4, e_q4, h⟩ := Option.bind_eq_some_iff.mp h
        obtain ⟨rfl, rfl⟩ := Prod.mk.inj (Option.some.inj h)
        exact Fr.rf
      | some a =>
        rw [hs] at h
        rcases w_scr_cases hs with rfl | rfl | rfl | rfl
        · obtain ⟨q5, e_q5, h⟩ := Option.bind_eq_some_iff.mp h
          refine Fr.tr (Fr.sub (fr_l_whenFalls_108_6_a N 113 x1 (0 : Int32) M q5.1 q5.2 e_q5) (by first | decide | simp)) ?_
          obtain ⟨rfl, rfl⟩ := Prod.mk.inj (Option.some.inj h)
          exact Fr.rf
        · obtain ⟨q5, e_q5, h⟩ := Option.bind_eq_some_iff.mp h
          refine Fr.tr (Fr.sub (fr_l_whenFalls_108_6_a N 117 x1 (0 : Int32) M q5.1 q5.2 e_q5) (by first | decide | simp)) ?_
          obtain ⟨rfl, rfl⟩ := Prod.mk.inj (Option.some.inj h)
          exact Fr.rf
        · obtain ⟨q5, e_q5, h⟩ := Option.bind_eq_some_iff.mp h
          refine Fr.tr (Fr.sub (fr_l_whenFalls_108_6_a N 121 x1 (0 : Int32) M q5.1 q5.2 e_q5) (by first | decide | simp)) ?_
          obtain ⟨rfl, rfl⟩ := Prod.mk.inj (Option.some.inj h)
          exact Fr.rf
        · obtain ⟨q5, e_q5, h⟩ := Option.bind_eq_some_iff.mp h
          refine Fr.tr (Fr.sub (fr_l_whenFalls_108_6_a N 125 x1 (0 : Int32) M q5.1 q5.2 e_q5) (by first | decide | simp)) ?_
          obtain ⟨rfl, rfl⟩ := Prod.mk.inj (Option.some.inj h)
          exact Fr.rf
    replace h := (if_neg hc7).symm.trans h
    obtain ⟨rfl, rfl⟩ := Prod.mk.inj (Option.some.inj h)
    exact Fr.rf
set_option maxRecDepth 100000 in
theorem fr_m_of (N : Nat) (x1 : Int32) (x2 : Int32) (M : Mem) (r : Int32) (M' : Mem) (h : f_m_of N x1 x2 M = some (r, M')) : Fr [129, 138, 139, 140] M M' := by
  rw [f_m_of] at h
  by_cases hc : (f_m_isGuest x1 M) = (0 : Int32)
  · replace h := (if_pos hc).symm.trans h
    obtain ⟨rfl, rfl⟩ := Prod.mk.inj (Option.some.inj h)
    exact Fr.rf
  · replace h := (if_neg hc).symm.trans h
    by_cases hc : (f_m_isIn x2 (0 : Int32) (7 : Int32) M) = (0 : Int32)
    · replace h := (if_pos hc).symm.trans h
      obtain ⟨rfl, rfl⟩ := Prod.mk.inj (Option.some.inj h)
      exact Fr.rf
    · replace h := (if_neg hc).symm.trans h
      by_cases hc : x2 = (7 : Int32)
      · replace h := (if_pos hc).symm.trans h
        obtain ⟨q1, e_q1, h⟩ := Option.bind_eq_some_iff.mp h
        refine Fr.tr (Fr.sub (fr_m_wouldFall N x1 (0 : Int32) M q1.1 q1.2 e_q1) (by first | decide | simp)) ?_
        obtain ⟨rfl, rfl⟩ := Prod.mk.inj (Option.some.inj h)
        exact Fr.rf
      · replace h := (if_neg hc).symm.trans h
        obtain ⟨q2, e_q2, h⟩ := Option.bind_eq_some_iff.mp h
        obtain ⟨rfl, rfl⟩ := Prod.mk.inj (Option.some.inj h)
        exact Fr.rf
set_option maxRecDepth 100000 in
theorem fr_m_holds (N : Nat) (x1 : Int32) (M : Mem) (r : Int32) (M' : Mem) (h : f_m_holds N x1 M = some (r, M')) : Fr [129] M M' := by
  rw [f_m_holds] at h
  by_cases hc : x1 = (0 : Int32)
  · replace h := (if_pos hc).symm.trans h
    obtain ⟨q1, e_q1, h⟩ := Option.bind_eq_some_iff.mp h
    refine Fr.tr (Fr.sub (fr_m_holdNow N M q1.1 q1.2 e_q1) (by first | decide | simp)) ?_
    obtain ⟨rfl, rfl⟩ := Prod.mk.inj (Option.some.inj h)
    exact Fr.rf
  · replace h := (if_neg hc).symm.trans h
    obtain ⟨q2, e_q2, h⟩ := Option.bind_eq_some_iff.mp h
    refine Fr.tr (Fr.sub (fr_m_wouldHold N M q2.1 q2.2 e_q2) (by first | decide | simp)) ?_
    obtain ⟨rfl, rfl⟩ := Prod.mk.inj (Option.some.inj h)
    exact Fr.rf
set_option maxRecDepth 100000 in
theorem fr_m_holdWith (N : Nat) (x1 : Int32) (x2 : Int32) (M : Mem) (r : Int32) (M' : Mem) (h : f_m_holdWith N x1 x2 M = some (r, M')) : Fr [129] M M' := by
  rw [f_m_holdWith] at h
  obtain ⟨q1, e_q1, h⟩ := Option.bind_eq_some_iff.mp h
  refine Fr.tr (Fr.sub (fr_m_wouldHold N M q1.1 q1.2 e_q1) (by first | decide | simp)) ?_
  by_cases hc : (0 : Int32) ≤ q1.1
  · replace h := (if_pos hc).symm.trans h
    obtain ⟨q2, e_q2, h⟩ := Option.bind_eq_some_iff.mp h
    refine Fr.tr (Fr.sub (fr_m_consider x1 x2 q1.2 q2 e_q2) (by first | decide | simp)) ?_
    obtain ⟨rfl, rfl⟩ := Prod.mk.inj (Option.some.inj h)
    exact Fr.rf
  · replace h := (if_neg hc).symm.trans h
    obtain ⟨rfl, rfl⟩ := Prod.mk.inj (Option.some.inj h)
    exact Fr.rf
set_option maxRecDepth 100000 in
theorem fr_m_whispered_26 (N : Nat) : ∀ (n : Nat) (x1 : Int32) (x2 : Int32) (x3 : Int32) (x4 : Int32) (M : Mem) (r : Int32) (M' : Mem), f_m_whispered_26 N n x1 x2 x3 x4 M = some (r, M') → Fr [129] M M' := by
  intro n
  induction n with
  | zero =>
    intro x1 x2 x3 x4 M r M' h
    cases h
  | succ n ih =>
    intro x1 x2 x3 x4 M r M' h
    rw [f_m_whispered_26] at h
    by_cases hc : (gi M 130 0) ≤ x4
    · replace h := (if_pos hc).symm.trans h
      obtain ⟨rfl, rfl⟩ := Prod.mk.inj (Option.some.inj h)
      exact Fr.rf
    · replace h := (if_neg hc).symm.trans h
      obtain ⟨q1, e_q1, h⟩ := Option.bind_eq_some_iff.mp h
      refine Fr.tr (Fr.sub (fr_m_holdWith N x4 x1 M q1.1 q1.2 e_q1) (by first | decide | simp)) ?_
      by_cases hc : q1.1 = x2
      · replace h := (if_pos hc).symm.trans h
        exact ih x1 x2 (x3 ||| ((1 : Int32) <<< (x4 &&& 31))) (x4 + (1 : Int32)) q1.2 _ _ h
      · replace h := (if_neg hc).symm.trans h
        exact ih x1 x2 (x3 ||| (0 : Int32)) (x4 + (1 : Int32)) q1.2 _ _ h
set_option maxRecDepth 100000 in
theorem fr_m_whispered (N : Nat) (x1 : Int32) (x2 : Int32) (M : Mem) (r : Int32) (M' : Mem) (h : f_m_whispered N x1 x2 M = some (r, M')) : Fr [129] M M' := by
  rw [f_m_whispered] at h
  by_cases hc : (f_m_isIn x1 (0 : Int32) (999 : Int32) M) = (0 : Int32)
  · replace h := (if_pos hc).symm.trans h
    obtain ⟨rfl, rfl⟩ := Prod.mk.inj (Option.some.inj h)
    exact Fr.rf
  · replace h := (if_neg hc).symm.trans h
    by_cases hc : (f_m_isSet x2 M) = (0 : Int32)
    · replace h := (if_pos hc).symm.trans h
      obtain ⟨rfl, rfl⟩ := Prod.mk.inj (Option.some.inj h)
      exact Fr.rf
    · replace h := (if_neg hc).symm.trans h
      exact fr_m_whispered_26 N N x1 x2 (0 : Int32) (0 : Int32) M _ _ h
set_option maxRecDepth 100000 in
theorem fr_m_holdWithTwo (N : Nat) (x1 : Int32) (x2 : Int32) (x3 : Int32) (x4 : Int32) (M : Mem) (r : Int32) (M' : Mem) (h : f_m_holdWithTwo N x1 x2 x3 x4 M = some (r, M')) : Fr [129] M M' := by
  rw [f_m_holdWithTwo] at h
  obtain ⟨q1, e_q1, h⟩ := Option.bind_eq_some_iff.mp h
  refine Fr.tr (Fr.sub (fr_m_wouldHold N M q1.1 q1.2 e_q1) (by first | decide | simp)) ?_
  by_cases hc : (0 : Int32) ≤ q1.1
  · replace h := (if_pos hc).symm.trans h
    obtain ⟨q2, e_q2, h⟩ := Option.bind_eq_some_iff.mp h
    refine Fr.tr (Fr.sub (fr_m_consider x1 x2 q1.2 q2 e_q2) (by first | decide | simp)) ?_
    obtain ⟨q3, e_q3, h⟩ := Option.bind_eq_some_iff.mp h
    refine Fr.tr (Fr.sub (fr_m_consider x3 x4 q2 q3 e_q3) (by first | decide | simp)) ?_
    obtain ⟨rfl, rfl⟩ := Prod.mk.inj (Option.some.inj h)
    exact Fr.rf
  · replace h := (if_neg hc).symm.trans h
    obtain ⟨rfl, rfl⟩ := Prod.mk.inj (Option.some.inj h)
    exact Fr.rf
set_option maxRecDepth 100000 in
theorem fr_m_twoWhispered_61 (N : Nat) (K44 : Int32 → Int32 → Int32 → Int32 → Int32 → Int32 → Mem → Option (Int32 × Mem)) (hK44 : ∀ (x1 : Int32) (x2 : Int32) (x3 : Int32) (x4 : Int32) (x5 : Int32) (x6 : Int32) (M : Mem) (r : Int32) (M' : Mem), K44 x1 x2 x3 x4 x5 x6 M = some (r, M') → Fr [129] M M') : ∀ (n : Nat) (x1 : Int32) (x2 : Int32) (x3 : Int32) (x4 : Int32) (x5 : Int32) (x6 : Int32) (x7 : Int32) (M : Mem) (r : Int32) (M' : Mem), f_m_twoWhispered_61 N K44 n x1 x2 x3 x4 x5 x6 x7 M = some (r, M') → Fr [129] M M' := by
  intro n
  induction n with
  | zero =>
    intro x1 x2 x3 x4 x5 x6 x7 M r M' h
    cases h
  | succ n ih =>
    intro x1 x2 x3 x4 x5 x6 x7 M r M' h
    rw [f_m_twoWhispered_61] at h
    by_cases hc : (gi M 130 0) ≤ x7
    · replace h := (if_pos hc).symm.trans h
      exact hK44 x1 x2 x3 x4 x5 (x6 + (1 : Int32)) M _ _ h
    · replace h := (if_neg hc).symm.trans h
      obtain ⟨q1, e_q1, h⟩ := Option.bind_eq_some_iff.mp h
      refine Fr.tr (Fr.sub (fr_m_holdWithTwo N x6 x1 x7 x2 M q1.1 q1.2 e_q1) (by first | decide | simp)) ?_
      by_cases hc : q1.1 = x3
      · replace h := (if_pos hc).symm.trans h
        by_cases hc : x5 = x4
        · replace h := (if_pos hc).symm.trans h
          obtain ⟨rfl, rfl⟩ := Prod.mk.inj (Option.some.inj h)
          exact Fr.rf
        · replace h := (if_neg hc).symm.trans h
          exact ih x1 x2 x3 x4 (x5 + (1 : Int32)) x6 (x7 + (1 : Int32)) q1.2 _ _ h
      · replace h := (if_neg hc).symm.trans h
        obtain ⟨q2, e_q2, h⟩ := Option.bind_eq_some_iff.mp h
        refine Fr.tr (Fr.sub (fr_m_holdWithTwo N x7 x1 x6 x2 q1.2 q2.1 q2.2 e_q2) (by first | decide | simp)) ?_
        by_cases hc : q2.1 = x3
        · replace h := (if_pos hc).symm.trans h
          by_cases hc : x5 = x4
          · replace h := (if_pos hc).symm.trans h
            obtain ⟨rfl, rfl⟩ := Prod.mk.inj (Option.some.inj h)
            exact Fr.rf
          · replace h := (if_neg hc).symm.trans h
            exact ih x1 x2 x3 x4 (x5 + (1 : Int32)) x6 (x7 + (1 : Int32)) q2.2 _ _ h
        · replace h := (if_neg hc).symm.trans h
          exact ih x1 x2 x3 x4 x5 x6 (x7 + (1 : Int32)) q2.2 _ _ h
set_option maxRecDepth 100000 in
theorem fr_m_twoWhispered_44 (N : Nat) : ∀ (n : Nat) (x1 : Int32) (x2 : Int32) (x3 : Int32) (x4 : Int32) (x5 : Int32) (x6 : Int32) (M : Mem) (r : Int32) (M' : Mem), f_m_twoWhispered_44 N n x1 x2 x3 x4 x5 x6 M = some (r, M') → Fr [129] M M' := by
  intro n
  induction n with
  | zero =>
    intro x1 x2 x3 x4 x5 x6 M r M' h
    cases h
  | succ n ih =>
    intro x1 x2 x3 x4 x5 x6 M r M' h
    rw [f_m_twoWhispered_44] at h
    by_cases hc : (gi M 130 0) ≤ x6
    · replace h := (if_pos hc).symm.trans h
      by_cases hc : x4 = (-1 : Int32)
      · replace h := (if_pos hc).symm.trans h
        obtain ⟨rfl, rfl⟩ := Prod.mk.inj (Option.some.inj h)
        exact Fr.rf
      · replace h := (if_neg hc).symm.trans h
        obtain ⟨rfl, rfl⟩ := Prod.mk.inj (Option.some.inj h)
        exact Fr.rf
    · replace h := (if_neg hc).symm.trans h
      exact fr_m_twoWhispered_61 N _ ih N x1 x2 x3 x4 x5 x6 (x6 + (1 : Int32)) M _ _ h
set_option maxRecDepth 100000 in
theorem fr_m_twoWhispered (N : Nat) (x1 : Int32) (x2 : Int32) (x3 : Int32) (x4 : Int32) (M : Mem) (r : Int32) (M' : Mem) (h : f_m_twoWhispered N x1 x2 x3 x4 M = some (r, M')) : Fr [129] M M' := by
  rw [f_m_twoWhispered] at h
  by_cases hc : (f_m_isIn x1 (0 : Int32) (999 : Int32) M) = (0 : Int32)
  · replace h := (if_pos hc).symm.trans h
    obtain ⟨rfl, rfl⟩ := Prod.mk.inj (Option.some.inj h)
    exact Fr.rf
  · replace h := (if_neg hc).symm.trans h
    by_cases hc : (f_m_isIn x2 (0 : Int32) (999 : Int32) M) = (0 : Int32)
    · replace h := (if_pos hc).symm.trans h
      obtain ⟨rfl, rfl⟩ := Prod.mk.inj (Option.some.inj h)
      exact Fr.rf
    · replace h := (if_neg hc).symm.trans h
      by_cases hc : (f_m_isSet x3 M) = (0 : Int32)
      · replace h := (if_pos hc).symm.trans h
        obtain ⟨rfl, rfl⟩ := Prod.mk.inj (Option.some.inj h)
        exact Fr.rf
      · replace h := (if_neg hc).symm.trans h
        by_cases hc : (-1 : Int32) ≤ x4
        · replace h := (if_pos hc).symm.trans h
          exact fr_m_twoWhispered_44 N N x1 x2 x3 x4 (0 : Int32) (0 : Int32) M _ _ h
        · replace h := (if_neg hc).symm.trans h
          obtain ⟨rfl, rfl⟩ := Prod.mk.inj (Option.some.inj h)
          exact Fr.rf
set_option maxRecDepth 100000 in
theorem fr_m_ifAsked (N : Nat) (x1 : Int32) (M : Mem) (r : Int32) (M' : Mem) (h : f_m_ifAsked N x1 M = some (r, M')) : Fr [129] M M' := by
  rw [f_m_ifAsked] at h
  by_cases hc : (f_m_isIn x1 (0 : Int32) (999 : Int32) M) = (0 : Int32)
  · replace h := (if_pos hc).symm.trans h
    obtain ⟨rfl, rfl⟩ := Prod.mk.inj (Option.some.inj h)
    exact Fr.rf
  · replace h := (if_neg hc).symm.trans h
    obtain ⟨q1, e_q1, h⟩ := Option.bind_eq_some_iff.mp h
    refine Fr.tr (Fr.sub (fr_m_holdWith N (8 : Int32) x1 M q1.1 q1.2 e_q1) (by first | decide | simp)) ?_
    obtain ⟨rfl, rfl⟩ := Prod.mk.inj (Option.some.inj h)
    exact Fr.rf
set_option maxRecDepth 100000 in
theorem fr_m_silence (N : Nat) (M : Mem) (r : Int32) (M' : Mem) (h : f_m_silence N M = some (r, M')) : Fr [129] M M' := by
  rw [f_m_silence] at h
  obtain ⟨q1, e_q1, h⟩ := Option.bind_eq_some_iff.mp h
  refine Fr.tr (Fr.sub (fr_m_holdNow N M q1.1 q1.2 e_q1) (by first | decide | simp)) ?_
  by_cases hc : (0 : Int32) ≤ q1.1
  · replace h := (if_pos hc).symm.trans h
    obtain ⟨rfl, rfl⟩ := Prod.mk.inj (Option.some.inj h)
    exact Fr.rf
  · replace h := (if_neg hc).symm.trans h
    obtain ⟨rfl, rfl⟩ := Prod.mk.inj (Option.some.inj h)
    exact Fr.rf
set_option maxRecDepth 100000 in
theorem fr_k_fill0_13_5 (N : Nat) : ∀ (n : Nat) (x1 : Int32) (x2 : Int32) (x3 : Int32) (M : Mem) (M' : Mem), f_k_fill0_13_5 N n x1 x2 x3 M = some M' → Fr [13] M M' := by
  intro n
  induction n with
  | zero =>
    intro x1 x2 x3 M M' h
    cases h
  | succ n ih =>
    intro x1 x2 x3 M M' h
    rw [f_k_fill0_13_5] at h
    by_cases hc : x3 ≤ x2
    · replace h := (if_pos hc).symm.trans h
      obtain rfl := Option.some.inj h
      exact Fr.rf
    · replace h := (if_neg hc).symm.trans h
      obtain ⟨g, h⟩ := am_itg h
      obtain ⟨q1, e_q1, h⟩ := Option.bind_eq_some_iff.mp h
      refine Fr.w_si e_q1 (by first | decide | simp) ?_
      exact ih x1 (x2 + (1 : Int32)) x3 q1 _ h
set_option maxRecDepth 100000 in
theorem fr_k_fill0_13 (N : Nat) (x1 : Int32) (M : Mem) (M' : Mem) (h : f_k_fill0_13 N x1 M = some M') : Fr [13] M M' := by
  rw [f_k_fill0_13] at h
  exact fr_k_fill0_13_5 N N x1 (0 : Int32) (100 : Int32) M _ h
