/-! Frames. -/
set_option maxRecDepth 100000 in
theorem fr_m_opened (N : Nat) (x1 : Int32) (M : Mem) (r : Int32) (M' : Mem) (h : f_m_opened N x1 M = some (r, M')) : Fr [129, 134, 135] M M' := by
  rw [f_m_opened] at h
  by_cases hc : (gi M 129 20) = (8 : Int32)
  · replace h := (if_pos hc).symm.trans h
    obtain ⟨rfl, rfl⟩ := Prod.mk.inj (Option.some.inj h)
    exact Fr.rf
  · replace h := (if_neg hc).symm.trans h
    obtain ⟨q1, e_q1, h⟩ := Option.bind_eq_some_iff.mp h
    refine Fr.w_si e_q1 (by first | decide | simp) ?_
    obtain ⟨g, h⟩ := am_itg h
    obtain ⟨q2, e_q2, h⟩ := Option.bind_eq_some_iff.mp h
    refine Fr.w_si e_q2 (by first | decide | simp) ?_
    obtain ⟨q3, e_q3, h⟩ := Option.bind_eq_some_iff.mp h
    refine Fr.w_si e_q3 (by first | decide | simp) ?_
    by_cases hc : x1 = (41 : Int32)
    · replace h := (if_pos hc).symm.trans h
      obtain ⟨g, h⟩ := am_itg h
      obtain ⟨q4, e_q4, h⟩ := Option.bind_eq_some_iff.mp h
      refine Fr.w_si e_q4 (by first | decide | simp) ?_
      obtain ⟨q5, e_q5, h⟩ := Option.bind_eq_some_iff.mp h
      refine Fr.w_si e_q5 (by first | decide | simp) ?_
      obtain ⟨q6, e_q6, h⟩ := Option.bind_eq_some_iff.mp h
      refine Fr.tr (Fr.sub (fr_m_nextToken N q5 q6 e_q6) (by first | decide | simp)) ?_
      obtain ⟨rfl, rfl⟩ := Prod.mk.inj (Option.some.inj h)
      exact Fr.rf
    · replace h := (if_neg hc).symm.trans h
      obtain ⟨q7, e_q7, h⟩ := Option.bind_eq_some_iff.mp h
      refine Fr.tr (Fr.sub (fr_m_nextToken N q3 q7 e_q7) (by first | decide | simp)) ?_
      obtain ⟨rfl, rfl⟩ := Prod.mk.inj (Option.some.inj h)
      exact Fr.rf
set_option maxRecDepth 100000 in
theorem fr_m_emit (x1 : Int32) (x2 : Int32) (M : Mem) (M' : Mem) (h : f_m_emit x1 x2 M = some M') : Fr [129, 132] M M' := by
  rw [f_m_emit] at h
  obtain ⟨g, h⟩ := am_itg h
  obtain ⟨q1, e_q1, h⟩ := Option.bind_eq_some_iff.mp h
  refine Fr.w_si e_q1 (by first | decide | simp) ?_
  obtain ⟨g, h⟩ := am_itg h
  obtain ⟨q2, e_q2, h⟩ := Option.bind_eq_some_iff.mp h
  refine Fr.w_si e_q2 (by first | decide | simp) ?_
  obtain ⟨q3, e_q3, h⟩ := Option.bind_eq_some_iff.mp h
  refine Fr.w_si e_q3 (by first | decide | simp) ?_
  obtain rfl := Option.some.inj h
  exact Fr.rf
set_option maxRecDepth 100000 in
theorem fr_m_settle_0 (N : Nat) : ∀ (n : Nat) (x1 : Int32) (M : Mem) (M' : Mem), f_m_settle_0 N n x1 M = some M' → Fr [129, 132] M M' := by
  intro n
  induction n with
  | zero =>
    intro x1 M M' h
    cases h
  | succ n ih =>
    intro x1 M M' h
    rw [f_m_settle_0] at h
    by_cases hc : (gi M 129 19) ≤ (0 : Int32)
    · replace h := (if_pos hc).symm.trans h
      obtain rfl := Option.some.inj h
      exact Fr.rf
    · replace h := (if_neg hc).symm.trans h
      obtain ⟨g, h⟩ := am_itg h
      by_cases hc : (f_m_rank (gi M 134 (((gi M 129 19) - (1 : Int32))).toNatClampNeg) M) < x1
      · replace h := (if_pos hc).symm.trans h
        obtain rfl := Option.some.inj h
        exact Fr.rf
      · replace h := (if_neg hc).symm.trans h
        obtain ⟨q1, e_q1, h⟩ := Option.bind_eq_some_iff.mp h
        refine Fr.w_si e_q1 (by first | decide | simp) ?_
        obtain ⟨g, h⟩ := am_itg h
        obtain ⟨q2, e_q2, h⟩ := Option.bind_eq_some_iff.mp h
        refine Fr.tr (Fr.sub (fr_m_emit (gi q1 134 ((gi q1 129 19)).toNatClampNeg) (0 : Int32) q1 q2 e_q2) (by first | decide | simp)) ?_
        obtain ⟨g, h⟩ := am_itg h
        by_cases hc : (gi q2 134 ((gi q2 129 19)).toNatClampNeg) = (3 : Int32)
        · replace h := (if_pos hc).symm.trans h
          obtain ⟨q3, e_q3, h⟩ := Option.bind_eq_some_iff.mp h
          refine Fr.w_si e_q3 (by first | decide | simp) ?_
          exact ih x1 q3 _ h
        · replace h := (if_neg hc).symm.trans h
          obtain ⟨g, h⟩ := am_itg h
          by_cases hc : (gi q2 134 ((gi q2 129 19)).toNatClampNeg) = (20 : Int32)
          · replace h := (if_pos hc).symm.trans h
            obtain ⟨q4, e_q4, h⟩ := Option.bind_eq_some_iff.mp h
            refine Fr.w_si e_q4 (by first | decide | simp) ?_
            exact ih x1 q4 _ h
          · replace h := (if_neg hc).symm.trans h
            exact ih x1 q2 _ h
set_option maxRecDepth 100000 in
theorem fr_m_settle (N : Nat) (x1 : Int32) (M : Mem) (M' : Mem) (h : f_m_settle N x1 M = some M') : Fr [129, 132] M M' := by
  rw [f_m_settle] at h
  exact fr_m_settle_0 N N x1 M _ h
set_option maxRecDepth 100000 in
theorem fr_m_beginOne_65 (N : Nat) (x1 : Int32) (s1 : Int32) (M : Mem) (r : Int32) (M' : Mem) (h : f_m_beginOne_65 N x1 s1 M = some (r, M')) : Fr [129, 132, 134, 135] M M' := by
  rw [f_m_beginOne_65] at h
  by_cases hc : (gi M 129 9) = (1 : Int32)
  · replace h := (if_pos hc).symm.trans h
    obtain ⟨q6, e_q6, h⟩ := Option.bind_eq_some_iff.mp h
    refine Fr.tr (Fr.sub (fr_m_emit s1 (gi M 129 10) M q6 e_q6) (by first | decide | simp)) ?_
    obtain ⟨q7, e_q7, h⟩ := Option.bind_eq_some_iff.mp h
    refine Fr.tr (Fr.sub (fr_m_nextToken N q6 q7 e_q7) (by first | decide | simp)) ?_
    obtain ⟨q8, e_q8, h⟩ := Option.bind_eq_some_iff.mp h
    refine Fr.w_si e_q8 (by first | decide | simp) ?_
    obtain ⟨q9, e_q9, h⟩ := Option.bind_eq_some_iff.mp h
    refine Fr.tr (Fr.sub (fr_m_settle N (7 : Int32) q8 q9 e_q9) (by first | decide | simp)) ?_
    obtain ⟨rfl, rfl⟩ := Prod.mk.inj (Option.some.inj h)
    exact Fr.rf
  · replace h := (if_neg hc).symm.trans h
    obtain ⟨q10, e_q10, h⟩ := Option.bind_eq_some_iff.mp h
    refine Fr.tr (Fr.sub (fr_m_emit s1 x1 M q10 e_q10) (by first | decide | simp)) ?_
    obtain ⟨q11, e_q11, h⟩ := Option.bind_eq_some_iff.mp h
    refine Fr.tr (Fr.sub (fr_m_nextToken N q10 q11 e_q11) (by first | decide | simp)) ?_
    obtain ⟨q12, e_q12, h⟩ := Option.bind_eq_some_iff.mp h
    refine Fr.w_si e_q12 (by first | decide | simp) ?_
    obtain ⟨q13, e_q13, h⟩ := Option.bind_eq_some_iff.mp h
    refine Fr.tr (Fr.sub (fr_m_settle N (7 : Int32) q12 q13 e_q13) (by first | decide | simp)) ?_
    obtain ⟨rfl, rfl⟩ := Prod.mk.inj (Option.some.inj h)
    exact Fr.rf
set_option maxRecDepth 100000 in
theorem fr_m_beginOne_39 (N : Nat) (x1 : Int32) (M : Mem) (r : Int32) (M' : Mem) (h : f_m_beginOne_39 N x1 M = some (r, M')) : Fr [129, 132, 134, 135] M M' := by
  rw [f_m_beginOne_39] at h
  by_cases hc : (gi M 129 9) = (1 : Int32)
  · replace h := (if_pos hc).symm.trans h
    by_cases hc : (gi M 129 9) = (1 : Int32)
    · replace h := (if_pos hc).symm.trans h
      exact fr_m_beginOne_65 N x1 (0 : Int32) M _ _ h
    · replace h := (if_neg hc).symm.trans h
      exact fr_m_beginOne_65 N x1 (1 : Int32) M _ _ h
  · replace h := (if_neg hc).symm.trans h
    by_cases hc : x1 < (0 : Int32)
    · replace h := (if_pos hc).symm.trans h
      by_cases hc : (gi M 129 9) = (40 : Int32)
      · replace h := (if_pos hc).symm.trans h
        obtain ⟨q1, e_q1, h⟩ := Option.bind_eq_some_iff.mp h
        refine Fr.tr (Fr.sub (fr_m_opened N (40 : Int32) M q1.1 q1.2 e_q1) (by first | decide | simp)) ?_
        obtain ⟨rfl, rfl⟩ := Prod.mk.inj (Option.some.inj h)
        exact Fr.rf
      · replace h := (if_neg hc).symm.trans h
        by_cases hc : (gi M 129 9) = (45 : Int32)
        · replace h := (if_pos hc).symm.trans h
          obtain ⟨q2, e_q2, h⟩ := Option.bind_eq_some_iff.mp h
          refine Fr.tr (Fr.sub (fr_m_opened N (3 : Int32) M q2.1 q2.2 e_q2) (by first | decide | simp)) ?_
          obtain ⟨rfl, rfl⟩ := Prod.mk.inj (Option.some.inj h)
          exact Fr.rf
        · replace h := (if_neg hc).symm.trans h
          by_cases hc : (f_m_isWord (109300197323621 : Int64) M) = (0 : Int32)
          · replace h := (if_pos hc).symm.trans h
            by_cases hc : (f_m_isWord (7237492 : Int64) M) = (0 : Int32)
            · replace h := (if_pos hc).symm.trans h
              obtain ⟨rfl, rfl⟩ := Prod.mk.inj (Option.some.inj h)
              exact Fr.rf
            · replace h := (if_neg hc).symm.trans h
              obtain ⟨q3, e_q3, h⟩ := Option.bind_eq_some_iff.mp h
              by_cases hc : q3 = (0 : Int32)
              · replace h := (if_pos hc).symm.trans h
                obtain ⟨rfl, rfl⟩ := Prod.mk.inj (Option.some.inj h)
                exact Fr.rf
              · replace h := (if_neg hc).symm.trans h
                obtain ⟨q4, e_q4, h⟩ := Option.bind_eq_some_iff.mp h
                refine Fr.tr (Fr.sub (fr_m_opened N (20 : Int32) M q4.1 q4.2 e_q4) (by first | decide | simp)) ?_
                obtain ⟨rfl, rfl⟩ := Prod.mk.inj (Option.some.inj h)
                exact Fr.rf
          · replace h := (if_neg hc).symm.trans h
            obtain ⟨q5, e_q5, h⟩ := Option.bind_eq_some_iff.mp h
            refine Fr.tr (Fr.sub (fr_m_opened N (41 : Int32) M q5.1 q5.2 e_q5) (by first | decide | simp)) ?_
            obtain ⟨rfl, rfl⟩ := Prod.mk.inj (Option.some.inj h)
            exact Fr.rf
    · replace h := (if_neg hc).symm.trans h
      by_cases hc : (gi M 129 9) = (1 : Int32)
      · replace h := (if_pos hc).symm.trans h
        exact fr_m_beginOne_65 N x1 (0 : Int32) M _ _ h
      · replace h := (if_neg hc).symm.trans h
        exact fr_m_beginOne_65 N x1 (1 : Int32) M _ _ h
set_option maxRecDepth 100000 in
theorem fr_m_beginOne (N : Nat) (M : Mem) (r : Int32) (M' : Mem) (h : f_m_beginOne N M = some (r, M')) : Fr [129, 132, 134, 135] M M' := by
  rw [f_m_beginOne] at h
  by_cases hc : (gi M 129 9) = (1 : Int32)
  · replace h := (if_pos hc).symm.trans h
    by_cases hc : (gi M 129 10) ≤ (9999 : Int32)
    · replace h := (if_pos hc).symm.trans h
      by_cases hc : (f_m_nameOf M) < (0 : Int32)
      · replace h := (if_pos hc).symm.trans h
        exact fr_m_beginOne_39 N (f_m_nameOf M) M _ _ h
      · replace h := (if_neg hc).symm.trans h
        by_cases hc : (f_m_isOf (f_m_nameOf M) M) = (0 : Int32)
        · replace h := (if_pos hc).symm.trans h
          obtain ⟨rfl, rfl⟩ := Prod.mk.inj (Option.some.inj h)
          exact Fr.rf
        · replace h := (if_neg hc).symm.trans h
          exact fr_m_beginOne_39 N (f_m_nameOf M) M _ _ h
    · replace h := (if_neg hc).symm.trans h
      obtain ⟨rfl, rfl⟩ := Prod.mk.inj (Option.some.inj h)
      exact Fr.rf
  · replace h := (if_neg hc).symm.trans h
    by_cases hc : (f_m_nameOf M) < (0 : Int32)
    · replace h := (if_pos hc).symm.trans h
      exact fr_m_beginOne_39 N (f_m_nameOf M) M _ _ h
    · replace h := (if_neg hc).symm.trans h
      by_cases hc : (f_m_isOf (f_m_nameOf M) M) = (0 : Int32)
      · replace h := (if_pos hc).symm.trans h
        obtain ⟨rfl, rfl⟩ := Prod.mk.inj (Option.some.inj h)
        exact Fr.rf
      · replace h := (if_neg hc).symm.trans h
        exact fr_m_beginOne_39 N (f_m_nameOf M) M _ _ h
set_option maxRecDepth 100000 in
theorem fr_m_shut_52 (N : Nat) : ∀ (n : Nat) (x2 : Int32) (M : Mem) (M' : Mem), f_m_shut_52 N n x2 M = some M' → Fr [129, 132] M M' := by
  intro n
  induction n with
  | zero =>
    intro x2 M M' h
    cases h
  | succ n ih =>
    intro x2 M M' h
    rw [f_m_shut_52] at h
    obtain ⟨g, h⟩ := am_itg h
    by_cases hc : (gi M 135 ((gi M 129 21)).toNatClampNeg) ≤ x2
    · replace h := (if_pos hc).symm.trans h
      obtain ⟨q7, e_q7, h⟩ := Option.bind_eq_some_iff.mp h
      refine Fr.tr (Fr.sub (fr_m_nextToken N M q7 e_q7) (by first | decide | simp)) ?_
      obtain ⟨q8, e_q8, h⟩ := Option.bind_eq_some_iff.mp h
      refine Fr.tr (Fr.sub (fr_m_settle N (7 : Int32) q7 q8 e_q8) (by first | decide | simp)) ?_
      obtain rfl := Option.some.inj h
      exact Fr.rf
    · replace h := (if_neg hc).symm.trans h
      obtain ⟨g, h⟩ := am_itg h
      obtain ⟨g, h⟩ := am_itg h
      obtain ⟨q9, e_q9, h⟩ := Option.bind_eq_some_iff.mp h
      refine Fr.tr (Fr.sub (fr_m_emit (gi M 136 ((((6 : Int32) * (gi M 129 21)) + x2)).toNatClampNeg) (gi M 137 ((((6 : Int32) * (gi M 129 21)) + x2)).toNatClampNeg) M q9 e_q9) (by first | decide | simp)) ?_
      exact ih (x2 + (1 : Int32)) q9 _ h
set_option maxRecDepth 100000 in
theorem fr_m_shut (N : Nat) (x1 : Int32) (M : Mem) (M' : Mem) (h : f_m_shut N x1 M = some M') : Fr [129, 132] M M' := by
  rw [f_m_shut] at h
  obtain ⟨q1, e_q1, h⟩ := Option.bind_eq_some_iff.mp h
  refine Fr.w_si e_q1 (by first | decide | simp) ?_
  obtain ⟨q2, e_q2, h⟩ := Option.bind_eq_some_iff.mp h
  refine Fr.w_si e_q2 (by first | decide | simp) ?_
  by_cases hc : x1 = (43 : Int32)
  · replace h := (if_pos hc).symm.trans h
    obtain ⟨q3, e_q3, h⟩ := Option.bind_eq_some_iff.mp h
    refine Fr.w_si e_q3 (by first | decide | simp) ?_
    obtain ⟨g, h⟩ := am_itg h
    obtain ⟨q4, e_q4, h⟩ := Option.bind_eq_some_iff.mp h
    refine Fr.tr (Fr.sub (fr_m_emit (2 : Int32) (gi q3 135 ((gi q3 129 21)).toNatClampNeg) q3 q4 e_q4) (by first | decide | simp)) ?_
    exact fr_m_shut_52 N N (0 : Int32) q4 _ h
  · replace h := (if_neg hc).symm.trans h
    obtain ⟨q5, e_q5, h⟩ := Option.bind_eq_some_iff.mp h
    refine Fr.tr (Fr.sub (fr_m_nextToken N q2 q5 e_q5) (by first | decide | simp)) ?_
    obtain ⟨q6, e_q6, h⟩ := Option.bind_eq_some_iff.mp h
    refine Fr.tr (Fr.sub (fr_m_settle N (7 : Int32) q5 q6 e_q6) (by first | decide | simp)) ?_
    obtain rfl := Option.some.inj h
    exact Fr.rf
set_option maxRecDepth 100000 in
theorem fr_m_oneCase_131 (N : Nat) (x1 : Int32) (M : Mem) (r : Int32) (M' : Mem) (h : f_m_oneCase_131 N x1 M = some (r, M')) : Fr [129, 135, 136, 137] M M' := by
  rw [f_m_oneCase_131] at h
  by_cases hc : (gi M 129 9) = (58 : Int32)
  · replace h := (if_pos hc).symm.trans h
    obtain ⟨g, h⟩ := am_itg h
    obtain ⟨g, h⟩ := am_itg h
    obtain ⟨q8, e_q8, h⟩ := Option.bind_eq_some_iff.mp h
    refine Fr.w_si e_q8 (by first | decide | simp) ?_
    obtain ⟨q9, e_q9, h⟩ := Option.bind_eq_some_iff.mp h
    refine Fr.tr (Fr.sub (fr_m_nextToken N q8 q9 e_q9) (by first | decide | simp)) ?_
    obtain ⟨rfl, rfl⟩ := Prod.mk.inj (Option.some.inj h)
    exact Fr.rf
  · replace h := (if_neg hc).symm.trans h
    obtain ⟨rfl, rfl⟩ := Prod.mk.inj (Option.some.inj h)
    exact Fr.rf
set_option maxRecDepth 100000 in
theorem fr_m_oneCase (N : Nat) (M : Mem) (r : Int32) (M' : Mem) (h : f_m_oneCase N M = some (r, M')) : Fr [129, 135, 136, 137] M M' := by
  rw [f_m_oneCase] at h
  obtain ⟨g, h⟩ := am_itg h
  by_cases hc : (gi M 135 (((gi M 129 21) - (1 : Int32))).toNatClampNeg) = (6 : Int32)
  · replace h := (if_pos hc).symm.trans h
    obtain ⟨rfl, rfl⟩ := Prod.mk.inj (Option.some.inj h)
    exact Fr.rf
  · replace h := (if_neg hc).symm.trans h
    obtain ⟨q1, e_q1, h⟩ := Option.bind_eq_some_iff.mp h
    refine Fr.tr (Fr.sub (fr_m_nextToken N M q1 e_q1) (by first | decide | simp)) ?_
    by_cases hc : (f_m_anyNumber q1) = (0 : Int32)
    · replace h := (if_pos hc).symm.trans h
      obtain ⟨g, h⟩ := am_itg h
      obtain ⟨g, h⟩ := am_itg h
      obtain ⟨q2, e_q2, h⟩ := Option.bind_eq_some_iff.mp h
      refine Fr.w_si e_q2 (by first | decide | simp) ?_
      obtain ⟨g, h⟩ := am_itg h
      obtain ⟨q3, e_q3, h⟩ := Option.bind_eq_some_iff.mp h
      refine Fr.w_si e_q3 (by first | decide | simp) ?_
      obtain ⟨q4, e_q4, h⟩ := Option.bind_eq_some_iff.mp h
      refine Fr.tr (Fr.sub (fr_m_nextToken N q3 q4 e_q4) (by first | decide | simp)) ?_
      by_cases hc : (f_m_isWord (29807 : Int64) q4) = (0 : Int32)
      · replace h := (if_pos hc).symm.trans h
        exact fr_m_oneCase_131 N ((gi M 129 21) - (1 : Int32)) q4 _ _ h
      · replace h := (if_neg hc).symm.trans h
        obtain ⟨q5, e_q5, h⟩ := Option.bind_eq_some_iff.mp h
        refine Fr.tr (Fr.sub (fr_m_nextToken N q4 q5 e_q5) (by first | decide | simp)) ?_
        by_cases hc : (f_m_anyNumber q5) = (0 : Int32)
        · replace h := (if_pos hc).symm.trans h
          obtain ⟨g, h⟩ := am_itg h
          by_cases hc : (gi q5 136 ((((6 : Int32) * ((gi M 129 21) - (1 : Int32))) + (gi q1 135 (((gi M 129 21) - (1 : Int32))).toNatClampNeg))).toNatClampNeg) ≤ (gi q5 129 10)
          · replace h := (if_pos hc).symm.trans h
            obtain ⟨g, h⟩ := am_itg h
            obtain ⟨q6, e_q6, h⟩ := Option.bind_eq_some_iff.mp h
            refine Fr.w_si e_q6 (by first | decide | simp) ?_
            obtain ⟨q7, e_q7, h⟩ := Option.bind_eq_some_iff.mp h
            refine Fr.tr (Fr.sub (fr_m_nextToken N q6 q7 e_q7) (by first | decide | simp)) ?_
            exact fr_m_oneCase_131 N ((gi M 129 21) - (1 : Int32)) q7 _ _ h
          · replace h := (if_neg hc).symm.trans h
            obtain ⟨rfl, rfl⟩ := Prod.mk.inj (Option.some.inj h)
            exact Fr.rf
        · replace h := (if_neg hc).symm.trans h
          obtain ⟨rfl, rfl⟩ := Prod.mk.inj (Option.some.inj h)
          exact Fr.rf
    · replace h := (if_neg hc).symm.trans h
      obtain ⟨rfl, rfl⟩ := Prod.mk.inj (Option.some.inj h)
      exact Fr.rf
set_option maxRecDepth 100000 in
theorem fr_m_behindOne_168 (N : Nat) (x3 : Int32) (M : Mem) (r : Int32) (M' : Mem) (h : f_m_behindOne_168 N x3 M = some (r, M')) : Fr [129, 132, 134, 135, 136, 137] M M' := by
  rw [f_m_behindOne_168] at h
  obtain ⟨q12, e_q12, h⟩ := Option.bind_eq_some_iff.mp h
  refine Fr.tr (Fr.sub (fr_m_settle N (1 : Int32) M q12 e_q12) (by first | decide | simp)) ?_
  by_cases hc : x3 = (0 : Int32)
  · replace h := (if_pos hc).symm.trans h
    obtain ⟨g, h⟩ := am_itg h
    obtain ⟨q13, e_q13, h⟩ := Option.bind_eq_some_iff.mp h
    refine Fr.w_si e_q13 (by first | decide | simp) ?_
    obtain ⟨q14, e_q14, h⟩ := Option.bind_eq_some_iff.mp h
    refine Fr.w_si e_q14 (by first | decide | simp) ?_
    by_cases hc : x3 = (0 : Int32)
    · replace h := (if_pos hc).symm.trans h
      obtain ⟨q15, e_q15, h⟩ := Option.bind_eq_some_iff.mp h
      refine Fr.tr (Fr.sub (fr_m_nextToken N q14 q15 e_q15) (by first | decide | simp)) ?_
      obtain ⟨rfl, rfl⟩ := Prod.mk.inj (Option.some.inj h)
      exact Fr.rf
    · replace h := (if_neg hc).symm.trans h
      obtain ⟨q16, e_q16, h⟩ := Option.bind_eq_some_iff.mp h
      refine Fr.tr (Fr.sub (fr_m_oneCase N q14 q16.1 q16.2 e_q16) (by first | decide | simp)) ?_
      obtain ⟨rfl, rfl⟩ := Prod.mk.inj (Option.some.inj h)
      exact Fr.rf
  · replace h := (if_neg hc).symm.trans h
    obtain ⟨g, h⟩ := am_itg h
    obtain ⟨q17, e_q17, h⟩ := Option.bind_eq_some_iff.mp h
    refine Fr.w_si e_q17 (by first | decide | simp) ?_
    obtain ⟨q18, e_q18, h⟩ := Option.bind_eq_some_iff.mp h
    refine Fr.w_si e_q18 (by first | decide | simp) ?_
    by_cases hc : x3 = (0 : Int32)
    · replace h := (if_pos hc).symm.trans h
      obtain ⟨q19, e_q19, h⟩ := Option.bind_eq_some_iff.mp h
      refine Fr.tr (Fr.sub (fr_m_nextToken N q18 q19 e_q19) (by first | decide | simp)) ?_
      obtain ⟨rfl, rfl⟩ := Prod.mk.inj (Option.some.inj h)
      exact Fr.rf
    · replace h := (if_neg hc).symm.trans h
      obtain ⟨q20, e_q20, h⟩ := Option.bind_eq_some_iff.mp h
      refine Fr.tr (Fr.sub (fr_m_oneCase N q18 q20.1 q20.2 e_q20) (by first | decide | simp)) ?_
      obtain ⟨rfl, rfl⟩ := Prod.mk.inj (Option.some.inj h)
      exact Fr.rf
set_option maxRecDepth 100000 in
theorem fr_m_behindOne_137 (N : Nat) (x2 : Int32) (s0 : Int32) (M : Mem) (r : Int32) (M' : Mem) (h : f_m_behindOne_137 N x2 s0 M = some (r, M')) : Fr [129, 132, 134, 135, 136, 137] M M' := by
  rw [f_m_behindOne_137] at h
  by_cases hc : s0 = (0 : Int32)
  · replace h := (if_pos hc).symm.trans h
    by_cases hc : x2 = (42 : Int32)
    · replace h := (if_pos hc).symm.trans h
      by_cases hc : (f_m_isWord (1701606245 : Int64) M) = (0 : Int32)
      · replace h := (if_pos hc).symm.trans h
        obtain ⟨rfl, rfl⟩ := Prod.mk.inj (Option.some.inj h)
        exact Fr.rf
      · replace h := (if_neg hc).symm.trans h
        exact fr_m_behindOne_168 N s0 M _ _ h
    · replace h := (if_neg hc).symm.trans h
      obtain ⟨rfl, rfl⟩ := Prod.mk.inj (Option.some.inj h)
      exact Fr.rf
  · replace h := (if_neg hc).symm.trans h
    exact fr_m_behindOne_168 N s0 M _ _ h
set_option maxRecDepth 100000 in
theorem fr_m_behindOne_102 (N : Nat) (x2 : Int32) (M : Mem) (r : Int32) (M' : Mem) (h : f_m_behindOne_102 N x2 M = some (r, M')) : Fr [129, 132, 134, 135, 136, 137] M M' := by
  rw [f_m_behindOne_102] at h
  by_cases hc : x2 = (41 : Int32)
  · replace h := (if_pos hc).symm.trans h
    by_cases hc : (f_m_isWord (1667330917 : Int64) M) = (0 : Int32)
    · replace h := (if_pos hc).symm.trans h
      exact fr_m_behindOne_137 N x2 (0 : Int32) M _ _ h
    · replace h := (if_neg hc).symm.trans h
      exact fr_m_behindOne_137 N x2 (1 : Int32) M _ _ h
  · replace h := (if_neg hc).symm.trans h
    by_cases hc : x2 = (42 : Int32)
    · replace h := (if_pos hc).symm.trans h
      by_cases hc : (f_m_isWord (1667330917 : Int64) M) = (0 : Int32)
      · replace h := (if_pos hc).symm.trans h
        exact fr_m_behindOne_137 N x2 (0 : Int32) M _ _ h
      · replace h := (if_neg hc).symm.trans h
        exact fr_m_behindOne_137 N x2 (1 : Int32) M _ _ h
    · replace h := (if_neg hc).symm.trans h
      exact fr_m_behindOne_137 N x2 (0 : Int32) M _ _ h
set_option maxRecDepth 100000 in
theorem fr_m_behindOne_68 (N : Nat) (x2 : Int32) (M : Mem) (r : Int32) (M' : Mem) (h : f_m_behindOne_68 N x2 M = some (r, M')) : Fr [129, 132, 134, 135, 136, 137] M M' := by
  rw [f_m_behindOne_68] at h
  by_cases hc : x2 = (43 : Int32)
  · replace h := (if_pos hc).symm.trans h
    by_cases hc : (f_m_isWord (6647396 : Int64) M) = (0 : Int32)
    · replace h := (if_pos hc).symm.trans h
      exact fr_m_behindOne_102 N x2 M _ _ h
    · replace h := (if_neg hc).symm.trans h
      obtain ⟨q10, e_q10, h⟩ := Option.bind_eq_some_iff.mp h
      refine Fr.tr (Fr.sub (fr_m_settle N (1 : Int32) M q10 e_q10) (by first | decide | simp)) ?_
      obtain ⟨q11, e_q11, h⟩ := Option.bind_eq_some_iff.mp h
      refine Fr.tr (Fr.sub (fr_m_shut N x2 q10 q11 e_q11) (by first | decide | simp)) ?_
      obtain ⟨rfl, rfl⟩ := Prod.mk.inj (Option.some.inj h)
      exact Fr.rf
  · replace h := (if_neg hc).symm.trans h
    exact fr_m_behindOne_102 N x2 M _ _ h
set_option maxRecDepth 100000 in
theorem fr_m_behindOne (N : Nat) (M : Mem) (r : Int32) (M' : Mem) (h : f_m_behindOne N M = some (r, M')) : Fr [129, 132, 134, 135, 136, 137] M M' := by
  rw [f_m_behindOne] at h
  obtain ⟨q1, e_q1, h⟩ := Option.bind_eq_some_iff.mp h
  by_cases hc : q1 < (0 : Int32)
  · replace h := (if_pos hc).symm.trans h
    obtain ⟨q2, e_q2, h⟩ := Option.bind_eq_some_iff.mp h
    by_cases hc : q2 = (40 : Int32)
    · replace h := (if_pos hc).symm.trans h
      by_cases hc : (gi M 129 9) = (41 : Int32)
      · replace h := (if_pos hc).symm.trans h
        obtain ⟨q3, e_q3, h⟩ := Option.bind_eq_some_iff.mp h
        refine Fr.tr (Fr.sub (fr_m_settle N (1 : Int32) M q3 e_q3) (by first | decide | simp)) ?_
        obtain ⟨q4, e_q4, h⟩ := Option.bind_eq_some_iff.mp h
        refine Fr.tr (Fr.sub (fr_m_shut N q2 q3 q4 e_q4) (by first | decide | simp)) ?_
        obtain ⟨rfl, rfl⟩ := Prod.mk.inj (Option.some.inj h)
        exact Fr.rf
      · replace h := (if_neg hc).symm.trans h
        exact fr_m_behindOne_68 N q2 M _ _ h
    · replace h := (if_neg hc).symm.trans h
      exact fr_m_behindOne_68 N q2 M _ _ h
  · replace h := (if_neg hc).symm.trans h
    obtain ⟨q5, e_q5, h⟩ := Option.bind_eq_some_iff.mp h
    refine Fr.tr (Fr.sub (fr_m_settle N (f_m_rank q1 M) M q5 e_q5) (by first | decide | simp)) ?_
    obtain ⟨g, h⟩ := am_itg h
    obtain ⟨q6, e_q6, h⟩ := Option.bind_eq_some_iff.mp h
    refine Fr.w_si e_q6 (by first | decide | simp) ?_
    obtain ⟨q7, e_q7, h⟩ := Option.bind_eq_some_iff.mp h
    refine Fr.w_si e_q7 (by first | decide | simp) ?_
    obtain ⟨q8, e_q8, h⟩ := Option.bind_eq_some_iff.mp h
    refine Fr.w_si e_q8 (by first | decide | simp) ?_
    obtain ⟨q9, e_q9, h⟩ := Option.bind_eq_some_iff.mp h
    refine Fr.tr (Fr.sub (fr_m_nextToken N q8 q9 e_q9) (by first | decide | simp)) ?_
    obtain ⟨rfl, rfl⟩ := Prod.mk.inj (Option.some.inj h)
    exact Fr.rf
set_option maxRecDepth 100000 in
theorem fr_m_parsed_43 (N : Nat) (K25 : Int32 → Mem → Option (Int32 × Mem)) (hK25 : ∀ (x1 : Int32) (M : Mem) (r : Int32) (M' : Mem), K25 x1 M = some (r, M') → Fr [129, 132, 134, 135, 136, 137] M M') (x1 : Int32) (s0 : Int32) (M : Mem) (r : Int32) (M' : Mem) (h : f_m_parsed_43 N K25 x1 s0 M = some (r, M')) : Fr [129, 132, 134, 135, 136, 137] M M' := by
  rw [f_m_parsed_43] at h
  by_cases hc : s0 ≤ (0 : Int32)
  · replace h := (if_pos hc).symm.trans h
    by_cases hc : s0 = (0 : Int32)
    · replace h := (if_pos hc).symm.trans h
      exact hK25 x1 M _ _ h
    · replace h := (if_neg hc).symm.trans h
      obtain ⟨q8, e_q8, h⟩ := Option.bind_eq_some_iff.mp h
      by_cases hc : (0 : Int32) ≤ q8
      · replace h := (if_pos hc).symm.trans h
        obtain ⟨rfl, rfl⟩ := Prod.mk.inj (Option.some.inj h)
        exact Fr.rf
      · replace h := (if_neg hc).symm.trans h
        by_cases hc : x1 = (0 : Int32)
        · replace h := (if_pos hc).symm.trans h
          obtain ⟨q9, e_q9, h⟩ := Option.bind_eq_some_iff.mp h
          refine Fr.tr (Fr.sub (fr_m_settle N (1 : Int32) M q9 e_q9) (by first | decide | simp)) ?_
          obtain ⟨rfl, rfl⟩ := Prod.mk.inj (Option.some.inj h)
          exact Fr.rf
        · replace h := (if_neg hc).symm.trans h
          obtain ⟨q10, e_q10, h⟩ := Option.bind_eq_some_iff.mp h
          by_cases hc : q10 = (0 : Int32)
          · replace h := (if_pos hc).symm.trans h
            obtain ⟨rfl, rfl⟩ := Prod.mk.inj (Option.some.inj h)
            exact Fr.rf
          · replace h := (if_neg hc).symm.trans h
            obtain ⟨q11, e_q11, h⟩ := Option.bind_eq_some_iff.mp h
            refine Fr.tr (Fr.sub (fr_m_settle N (1 : Int32) M q11 e_q11) (by first | decide | simp)) ?_
            obtain ⟨rfl, rfl⟩ := Prod.mk.inj (Option.some.inj h)
            exact Fr.rf
  · replace h := (if_neg hc).symm.trans h
    obtain ⟨rfl, rfl⟩ := Prod.mk.inj (Option.some.inj h)
    exact Fr.rf
set_option maxRecDepth 100000 in
theorem fr_m_parsed_25 (N : Nat) : ∀ (n : Nat) (x1 : Int32) (M : Mem) (r : Int32) (M' : Mem), f_m_parsed_25 N n x1 M = some (r, M') → Fr [129, 132, 134, 135, 136, 137] M M' := by
  intro n
  induction n with
  | zero =>
    intro x1 M r M' h
    cases h
  | succ n ih =>
    intro x1 M r M' h
    rw [f_m_parsed_25] at h
    by_cases hc : (gi M 129 22) = (0 : Int32)
    · replace h := (if_pos hc).symm.trans h
      obtain ⟨q6, e_q6, h⟩ := Option.bind_eq_some_iff.mp h
      refine Fr.tr (Fr.sub (fr_m_beginOne N M q6.1 q6.2 e_q6) (by first | decide | simp)) ?_
      exact fr_m_parsed_43 N _ ih x1 q6.1 q6.2 _ _ h
    · replace h := (if_neg hc).symm.trans h
      obtain ⟨q7, e_q7, h⟩ := Option.bind_eq_some_iff.mp h
      refine Fr.tr (Fr.sub (fr_m_behindOne N M q7.1 q7.2 e_q7) (by first | decide | simp)) ?_
      exact fr_m_parsed_43 N _ ih x1 q7.1 q7.2 _ _ h
set_option maxRecDepth 100000 in
theorem fr_m_parsed (N : Nat) (x1 : Int32) (M : Mem) (r : Int32) (M' : Mem) (h : f_m_parsed N x1 M = some (r, M')) : Fr [129, 132, 134, 135, 136, 137] M M' := by
  rw [f_m_parsed] at h
  obtain ⟨q1, e_q1, h⟩ := Option.bind_eq_some_iff.mp h
  refine Fr.w_si e_q1 (by first | decide | simp) ?_
  obtain ⟨q2, e_q2, h⟩ := Option.bind_eq_some_iff.mp h
  refine Fr.w_si e_q2 (by first | decide | simp) ?_
  obtain ⟨q3, e_q3, h⟩ := Option.bind_eq_some_iff.mp h
  refine Fr.w_si e_q3 (by first | decide | simp) ?_
  obtain ⟨q4, e_q4, h⟩ := Option.bind_eq_some_iff.mp h
  refine Fr.w_si e_q4 (by first | decide | simp) ?_
  obtain ⟨g, h⟩ := am_itg h
  obtain ⟨q5, e_q5, h⟩ := Option.bind_eq_some_iff.mp h
  refine Fr.w_si e_q5 (by first | decide | simp) ?_
  exact fr_m_parsed_25 N N x1 q5 _ _ h
set_option maxRecDepth 100000 in
theorem fr_m_lawClause (N : Nat) (x1 : Int32) (x2 : Int32) (M : Mem) (r : Int32) (M' : Mem) (h : f_m_lawClause N x1 x2 M = some (r, M')) : Fr [129, 132, 134, 135, 136, 137] M M' := by
  rw [f_m_lawClause] at h
  obtain ⟨g, h⟩ := am_itg h
  obtain ⟨q1, e_q1, h⟩ := Option.bind_eq_some_iff.mp h
  refine Fr.w_si e_q1 (by first | decide | simp) ?_
  obtain ⟨q2, e_q2, h⟩ := Option.bind_eq_some_iff.mp h
  refine Fr.tr (Fr.sub (fr_m_parsed N x2 q1 q2.1 q2.2 e_q2) (by first | decide | simp)) ?_
  obtain ⟨g, h⟩ := am_itg h
  obtain ⟨q3, e_q3, h⟩ := Option.bind_eq_some_iff.mp h
  refine Fr.w_si e_q3 (by first | decide | simp) ?_
  obtain ⟨rfl, rfl⟩ := Prod.mk.inj (Option.some.inj h)
  exact Fr.rf
set_option maxRecDepth 100000 in
theorem fr_m_figure (N : Nat) (x1 : Int32) (x2 : Int32) (x3 : Int32) (M : Mem) (r : Int32) (M' : Mem) (h : f_m_figure N x1 x2 x3 M = some (r, M')) : Fr [129, 132] M M' := by
  rw [f_m_figure] at h
  by_cases hc : (gi M 129 9) = (1 : Int32)
  · replace h := (if_pos hc).symm.trans h
    by_cases hc : (f_m_isIn (gi M 129 10) x2 x3 M) = (0 : Int32)
    · replace h := (if_pos hc).symm.trans h
      obtain ⟨rfl, rfl⟩ := Prod.mk.inj (Option.some.inj h)
      exact Fr.rf
    · replace h := (if_neg hc).symm.trans h
      obtain ⟨g, h⟩ := am_itg h
      obtain ⟨q1, e_q1, h⟩ := Option.bind_eq_some_iff.mp h
      refine Fr.w_si e_q1 (by first | decide | simp) ?_
      obtain ⟨q2, e_q2, h⟩ := Option.bind_eq_some_iff.mp h
      refine Fr.tr (Fr.sub (fr_m_nextToken N q1 q2 e_q2) (by first | decide | simp)) ?_
      obtain ⟨rfl, rfl⟩ := Prod.mk.inj (Option.some.inj h)
      exact Fr.rf
  · replace h := (if_neg hc).symm.trans h
    obtain ⟨rfl, rfl⟩ := Prod.mk.inj (Option.some.inj h)
    exact Fr.rf
set_option maxRecDepth 100000 in
theorem fr_m_guestClause (N : Nat) (x1 : Int32) (M : Mem) (r : Int32) (M' : Mem) (h : f_m_guestClause N x1 M = some (r, M')) : Fr [129, 132] M M' := by
  rw [f_m_guestClause] at h
  obtain ⟨q1, e_q1, h⟩ := Option.bind_eq_some_iff.mp h
  refine Fr.tr (Fr.sub (fr_m_figure N (x1 + (1 : Int32)) (0 : Int32) (9 : Int32) M q1.1 q1.2 e_q1) (by first | decide | simp)) ?_
  by_cases hc : q1.1 = (0 : Int32)
  · replace h := (if_pos hc).symm.trans h
    by_cases hc : (f_m_isWord (448377483891 : Int64) q1.2) = (0 : Int32)
    · replace h := (if_pos hc).symm.trans h
      obtain ⟨rfl, rfl⟩ := Prod.mk.inj (Option.some.inj h)
      exact Fr.rf
    · replace h := (if_neg hc).symm.trans h
      obtain ⟨q2, e_q2, h⟩ := Option.bind_eq_some_iff.mp h
      refine Fr.tr (Fr.sub (fr_m_nextToken N q1.2 q2 e_q2) (by first | decide | simp)) ?_
      obtain ⟨q3, e_q3, h⟩ := Option.bind_eq_some_iff.mp h
      refine Fr.tr (Fr.sub (fr_m_figure N (x1 + (2 : Int32)) (0 : Int32) (9 : Int32) q2 q3.1 q3.2 e_q3) (by first | decide | simp)) ?_
      obtain ⟨rfl, rfl⟩ := Prod.mk.inj (Option.some.inj h)
      exact Fr.rf
  · replace h := (if_neg hc).symm.trans h
    obtain ⟨rfl, rfl⟩ := Prod.mk.inj (Option.some.inj h)
    exact Fr.rf
set_option maxRecDepth 100000 in
theorem fr_m_body (N : Nat) (x1 : Int32) (x2 : Int32) (M : Mem) (r : Int32) (M' : Mem) (h : f_m_body N x1 x2 M = some (r, M')) : Fr [129, 132, 134, 135, 136, 137] M M' := by
  rw [f_m_body] at h
  by_cases hc0 : x1 = (0 : Int32)
  · replace h := (if_pos hc0).symm.trans h
    obtain ⟨q1, e_q1, h⟩ := Option.bind_eq_some_iff.mp h
    refine Fr.tr (Fr.sub (fr_m_lawClause N x2 (1 : Int32) M q1.1 q1.2 e_q1) (by first | decide | simp)) ?_
    obtain ⟨rfl, rfl⟩ := Prod.mk.inj (Option.some.inj h)
    exact Fr.rf
  replace h := (if_neg hc0).symm.trans h
  by_cases hc1 : x1 = (1 : Int32)
  · replace h := (if_pos hc1).symm.trans h
    obtain ⟨q2, e_q2, h⟩ := Option.bind_eq_some_iff.mp h
    refine Fr.tr (Fr.sub (fr_m_lawClause N x2 (0 : Int32) M q2.1 q2.2 e_q2) (by first | decide | simp)) ?_
    obtain ⟨rfl, rfl⟩ := Prod.mk.inj (Option.some.inj h)
    exact Fr.rf
  replace h := (if_neg hc1).symm.trans h
  by_cases hc2 : x1 = (2 : Int32)
  · replace h := (if_pos hc2).symm.trans h
    obtain ⟨q3, e_q3, h⟩ := Option.bind_eq_some_iff.mp h
    refine Fr.tr (Fr.sub (fr_m_lawClause N x2 (0 : Int32) M q3.1 q3.2 e_q3) (by first | decide | simp)) ?_
    obtain ⟨rfl, rfl⟩ := Prod.mk.inj (Option.some.inj h)
    exact Fr.rf
  replace h := (if_neg hc2).symm.trans h
  by_cases hc3 : x1 = (3 : Int32)
  · replace h := (if_pos hc3).symm.trans h
    obtain ⟨q4, e_q4, h⟩ := Option.bind_eq_some_iff.mp h
    refine Fr.tr (Fr.sub (fr_m_guestClause N x2 M q4.1 q4.2 e_q4) (by first | decide | simp)) ?_
    obtain ⟨rfl, rfl⟩ := Prod.mk.inj (Option.some.inj h)
    exact Fr.rf
  replace h := (if_neg hc3).symm.trans h
  by_cases hc8 : x1 = (8 : Int32)
  · replace h := (if_pos hc8).symm.trans h
    obtain ⟨rfl, rfl⟩ := Prod.mk.inj (Option.some.inj h)
    exact Fr.rf
  replace h := (if_neg hc8).symm.trans h
  by_cases hc9 : x1 = (9 : Int32)
  · replace h := (if_pos hc9).symm.trans h
    obtain ⟨q5, e_q5, h⟩ := Option.bind_eq_some_iff.mp h
    refine Fr.tr (Fr.sub (fr_m_figure N (x2 + (1 : Int32)) (1 : Int32) (60 : Int32) M q5.1 q5.2 e_q5) (by first | decide | simp)) ?_
    obtain ⟨rfl, rfl⟩ := Prod.mk.inj (Option.some.inj h)
    exact Fr.rf
  replace h := (if_neg hc9).symm.trans h
  by_cases hc11 : x1 = (11 : Int32)
  · replace h := (if_pos hc11).symm.trans h
    obtain ⟨rfl, rfl⟩ := Prod.mk.inj (Option.some.inj h)
    exact Fr.rf
  replace h := (if_neg hc11).symm.trans h
  obtain ⟨q6, e_q6, h⟩ := Option.bind_eq_some_iff.mp h
  refine Fr.tr (Fr.sub (fr_m_figure N (x2 + (1 : Int32)) (0 : Int32) (7 : Int32) M q6.1 q6.2 e_q6) (by first | decide | simp)) ?_
  obtain ⟨rfl, rfl⟩ := Prod.mk.inj (Option.some.inj h)
  exact Fr.rf
set_option maxRecDepth 100000 in
theorem fr_m_clause_65 (N : Nat) (x1 : Int32) (x2 : Int32) (M : Mem) (r : Int32) (M' : Mem) (h : f_m_clause_65 N x1 x2 M = some (r, M')) : Fr [129, 132, 134, 135, 136, 137] M M' := by
  rw [f_m_clause_65] at h
  obtain ⟨q2, e_q2, h⟩ := Option.bind_eq_some_iff.mp h
  refine Fr.w_si e_q2 (by first | decide | simp) ?_
  obtain ⟨q3, e_q3, h⟩ := Option.bind_eq_some_iff.mp h
  refine Fr.tr (Fr.sub (fr_m_nextToken N q2 q3 e_q3) (by first | decide | simp)) ?_
  obtain ⟨g, h⟩ := am_itg h
  obtain ⟨q4, e_q4, h⟩ := Option.bind_eq_some_iff.mp h
  refine Fr.w_si e_q4 (by first | decide | simp) ?_
  obtain ⟨q5, e_q5, h⟩ := Option.bind_eq_some_iff.mp h
  refine Fr.tr (Fr.sub (fr_m_body N x1 (((gi q3 129 12) + (1 : Int32)) + ((4 : Int32) * x2)) q4 q5.1 q5.2 e_q5) (by first | decide | simp)) ?_
  by_cases hc : q5.1 = (0 : Int32)
  · replace h := (if_pos hc).symm.trans h
    obtain ⟨g, h⟩ := am_itg h
    obtain ⟨g, h⟩ := am_itg h
    obtain ⟨q6, e_q6, h⟩ := Option.bind_eq_some_iff.mp h
    refine Fr.w_si e_q6 (by first | decide | simp) ?_
    by_cases hc : (gi q6 129 9) = (59 : Int32)
    · replace h := (if_pos hc).symm.trans h
      obtain ⟨q7, e_q7, h⟩ := Option.bind_eq_some_iff.mp h
      refine Fr.tr (Fr.sub (fr_m_nextToken N q6 q7 e_q7) (by first | decide | simp)) ?_
      obtain ⟨rfl, rfl⟩ := Prod.mk.inj (Option.some.inj h)
      exact Fr.rf
    · replace h := (if_neg hc).symm.trans h
      obtain ⟨rfl, rfl⟩ := Prod.mk.inj (Option.some.inj h)
      exact Fr.rf
  · replace h := (if_neg hc).symm.trans h
    obtain ⟨rfl, rfl⟩ := Prod.mk.inj (Option.some.inj h)
    exact Fr.rf
set_option maxRecDepth 100000 in
theorem fr_m_clause_29 (N : Nat) (x1 : Int32) (M : Mem) (r : Int32) (M' : Mem) (h : f_m_clause_29 N x1 M = some (r, M')) : Fr [129, 132, 134, 135, 136, 137] M M' := by
  rw [f_m_clause_29] at h
  obtain ⟨g, h⟩ := am_itg h
  by_cases hc : (gi M 132 ((gi M 129 12)).toNatClampNeg) = (24 : Int32)
  · replace h := (if_pos hc).symm.trans h
    obtain ⟨rfl, rfl⟩ := Prod.mk.inj (Option.some.inj h)
    exact Fr.rf
  · replace h := (if_neg hc).symm.trans h
    by_cases hc : (2 : Int32) < x1
    · replace h := (if_pos hc).symm.trans h
      exact fr_m_clause_65 N x1 (gi M 132 ((gi M 129 12)).toNatClampNeg) M _ _ h
    · replace h := (if_neg hc).symm.trans h
      obtain ⟨q1, e_q1, h⟩ := Option.bind_eq_some_iff.mp h
      refine Fr.w_si e_q1 (by first | decide | simp) ?_
      exact fr_m_clause_65 N x1 (gi M 132 ((gi M 129 12)).toNatClampNeg) q1 _ _ h
set_option maxRecDepth 100000 in
theorem fr_m_clause (N : Nat) (M : Mem) (r : Int32) (M' : Mem) (h : f_m_clause N M = some (r, M')) : Fr [129, 132, 134, 135, 136, 137] M M' := by
  rw [f_m_clause] at h
  by_cases hc : (0 : Int32) ≤ (f_m_sortOf M)
  · replace h := (if_pos hc).symm.trans h
    by_cases hc : (2 : Int32) < (f_m_sortOf M)
    · replace h := (if_pos hc).symm.trans h
      exact fr_m_clause_29 N (f_m_sortOf M) M _ _ h
    · replace h := (if_neg hc).symm.trans h
      by_cases hc : (f_m_has (gi M 129 24) (f_m_sortOf M) M) = (0 : Int32)
      · replace h := (if_pos hc).symm.trans h
        exact fr_m_clause_29 N (f_m_sortOf M) M _ _ h
      · replace h := (if_neg hc).symm.trans h
        obtain ⟨rfl, rfl⟩ := Prod.mk.inj (Option.some.inj h)
        exact Fr.rf
  · replace h := (if_neg hc).symm.trans h
    obtain ⟨rfl, rfl⟩ := Prod.mk.inj (Option.some.inj h)
    exact Fr.rf
set_option maxRecDepth 100000 in
theorem fr_m_readText_43 (N : Nat) : ∀ (n : Nat) (M : Mem) (r : Int32) (M' : Mem), f_m_readText_43 N n M = some (r, M') → Fr [129, 132, 134, 135, 136, 137] M M' := by
  intro n
  induction n with
  | zero =>
    intro M r M' h
    cases h
  | succ n ih =>
    intro M r M' h
    rw [f_m_readText_43] at h
    by_cases hc : (gi M 129 9) = (0 : Int32)
    · replace h := (if_pos hc).symm.trans h
      obtain ⟨rfl, rfl⟩ := Prod.mk.inj (Option.some.inj h)
      exact Fr.rf
    · replace h := (if_neg hc).symm.trans h
      obtain ⟨q7, e_q7, h⟩ := Option.bind_eq_some_iff.mp h
      refine Fr.tr (Fr.sub (fr_m_clause N M q7.1 q7.2 e_q7) (by first | decide | simp)) ?_
      by_cases hc : q7.1 = (0 : Int32)
      · replace h := (if_pos hc).symm.trans h
        exact ih q7.2 _ _ h
      · replace h := (if_neg hc).symm.trans h
        obtain ⟨rfl, rfl⟩ := Prod.mk.inj (Option.some.inj h)
        exact Fr.rf
set_option maxRecDepth 100000 in
theorem fr_m_readText (N : Nat) (M : Mem) (r : Int32) (M' : Mem) (h : f_m_readText N M = some (r, M')) : Fr [129, 132, 134, 135, 136, 137] M M' := by
  rw [f_m_readText] at h
  obtain ⟨q1, e_q1, h⟩ := Option.bind_eq_some_iff.mp h
  refine Fr.w_si e_q1 (by first | decide | simp) ?_
  obtain ⟨g, h⟩ := am_itg h
  obtain ⟨q2, e_q2, h⟩ := Option.bind_eq_some_iff.mp h
  refine Fr.w_si e_q2 (by first | decide | simp) ?_
  obtain ⟨q3, e_q3, h⟩ := Option.bind_eq_some_iff.mp h
  refine Fr.w_si e_q3 (by first | decide | simp) ?_
  obtain ⟨q4, e_q4, h⟩ := Option.bind_eq_some_iff.mp h
  refine Fr.w_si e_q4 (by first | decide | simp) ?_
  obtain ⟨q5, e_q5, h⟩ := Option.bind_eq_some_iff.mp h
  refine Fr.w_si e_q5 (by first | decide | simp) ?_
  obtain ⟨q6, e_q6, h⟩ := Option.bind_eq_some_iff.mp h
  refine Fr.tr (Fr.sub (fr_m_nextToken N q5 q6 e_q6) (by first | decide | simp)) ?_
  exact fr_m_readText_43 N N q6 _ _ h
set_option maxRecDepth 100000 in
theorem fr_m_text_36 (N : Nat) (s1 : Int32) (M : Mem) (r : Int32) (M' : Mem) (h : f_m_text_36 N s1 M = some (r, M')) : Fr [129, 130, 132, 134, 135, 136, 137] M M' := by
  rw [f_m_text_36] at h
  obtain ⟨q3, e_q3, h⟩ := Option.bind_eq_some_iff.mp h
  refine Fr.w_si e_q3 (by first | decide | simp) ?_
  obtain ⟨q4, e_q4, h⟩ := Option.bind_eq_some_iff.mp h
  refine Fr.w_si e_q4 (by first | decide | simp) ?_
  by_cases hc : (gi q4 129 5) = (0 : Int32)
  · replace h := (if_pos hc).symm.trans h
    obtain ⟨q5, e_q5, h⟩ := Option.bind_eq_some_iff.mp h
    refine Fr.w_si e_q5 (by first | decide | simp) ?_
    obtain ⟨rfl, rfl⟩ := Prod.mk.inj (Option.some.inj h)
    exact Fr.rf
  · replace h := (if_neg hc).symm.trans h
    obtain ⟨rfl, rfl⟩ := Prod.mk.inj (Option.some.inj h)
    exact Fr.rf
set_option maxRecDepth 100000 in
theorem fr_m_text (N : Nat) (M : Mem) (r : Int32) (M' : Mem) (h : f_m_text N M = some (r, M')) : Fr [129, 130, 132, 134, 135, 136, 137] M M' := by
  rw [f_m_text] at h
  by_cases hc : (gi M 130 5) = (4 : Int32)
  · replace h := (if_pos hc).symm.trans h
    obtain ⟨rfl, rfl⟩ := Prod.mk.inj (Option.some.inj h)
    exact Fr.rf
  · replace h := (if_neg hc).symm.trans h
    obtain ⟨q1, e_q1, h⟩ := Option.bind_eq_some_iff.mp h
    refine Fr.tr (Fr.sub (fr_m_readText N M q1.1 q1.2 e_q1) (by first | decide | simp)) ?_
    obtain ⟨q2, e_q2, h⟩ := Option.bind_eq_some_iff.mp h
    refine Fr.w_si e_q2 (by first | decide | simp) ?_
    by_cases hc : (gi q2 129 5) = (0 : Int32)
    · replace h := (if_pos hc).symm.trans h
      exact fr_m_text_36 N (-1 : Int32) q2 _ _ h
    · replace h := (if_neg hc).symm.trans h
      exact fr_m_text_36 N (gi q2 129 8) q2 _ _ h
set_option maxRecDepth 100000 in
theorem fr_w_by (x1 : Int32) (M : Mem) (r : Int32) (M' : Mem) (h : f_w_by x1 M = some (r, M')) : Fr [6] M M' := by
  rw [f_w_by] at h
  by_cases hc : (f_w_within x1 (-1 : Int32) ((gi M 6 4) - (1 : Int32)) M) = (0 : Int32)
  · replace h := (if_pos hc).symm.trans h
    obtain ⟨rfl, rfl⟩ := Prod.mk.inj (Option.some.inj h)
    exact Fr.rf
  · replace h := (if_neg hc).symm.trans h
    obtain ⟨q1, e_q1, h⟩ := Option.bind_eq_some_iff.mp h
    refine Fr.w_si e_q1 (by first | decide | simp) ?_
    obtain ⟨rfl, rfl⟩ := Prod.mk.inj (Option.some.inj h)
    exact Fr.rf
set_option maxRecDepth 100000 in
theorem fr_m_by (x1 : Int32) (M : Mem) (r : Int32) (M' : Mem) (h : f_m_by x1 M = some (r, M')) : Fr [130] M M' := by
  rw [f_m_by] at h
  by_cases hc : (f_m_isIn x1 (-1 : Int32) ((gi M 130 5) - (1 : Int32)) M) = (0 : Int32)
  · replace h := (if_pos hc).symm.trans h
    obtain ⟨rfl, rfl⟩ := Prod.mk.inj (Option.some.inj h)
    exact Fr.rf
  · replace h := (if_neg hc).symm.trans h
    obtain ⟨q1, e_q1, h⟩ := Option.bind_eq_some_iff.mp h
    refine Fr.w_si e_q1 (by first | decide | simp) ?_
    obtain ⟨rfl, rfl⟩ := Prod.mk.inj (Option.some.inj h)
    exact Fr.rf
set_option maxRecDepth 100000 in
theorem fr_t_keepStep (M : Mem) (M' : Mem) (h : f_t_keepStep M = some M') : Fr [14, 16, 17, 18, 19, 20, 21, 22, 23, 24, 25, 26, 27, 28, 29, 30, 31, 32, 33, 34, 35, 36, 37, 38, 39, 40, 41, 42, 43, 44, 45] M M' := by
  rw [f_t_keepStep] at h
  obtain ⟨q1, e_q1, h⟩ := Option.bind_eq_some_iff.mp h
  refine Fr.tr (Fr.sub (fr_s_keep M q1 e_q1) (by first | decide | simp)) ?_
  obtain rfl := Option.some.inj h
  exact Fr.rf
set_option maxRecDepth 100000 in
theorem fr_e_enter (x1 : Int32) (x2 : Int32) (x3 : Int32) (M : Mem) (M' : Mem) (h : f_e_enter x1 x2 x3 M = some M') : Fr [12] M M' := by
  rw [f_e_enter] at h
  by_cases hc : (f_w_within (f_e_spoken M) (0 : Int32) (39 : Int32) M) = (0 : Int32)
  · replace h := (if_pos hc).symm.trans h
    obtain rfl := Option.some.inj h
    exact Fr.rf
  · replace h := (if_neg hc).symm.trans h
    obtain ⟨g, h⟩ := am_itg h
    obtain ⟨q1, e_q1, h⟩ := Option.bind_eq_some_iff.mp h
    refine Fr.w_si e_q1 (by first | decide | simp) ?_
    obtain ⟨q2, e_q2, h⟩ := Option.bind_eq_some_iff.mp h
    refine Fr.w_si e_q2 (by first | decide | simp) ?_
    obtain rfl := Option.some.inj h
    exact Fr.rf
set_option maxRecDepth 100000 in
theorem fr_e_letGo (x1 : Int32) (M : Mem) (M' : Mem) (h : f_e_letGo x1 M = some M') : Fr [12] M M' := by
  rw [f_e_letGo] at h
  obtain ⟨q1, e_q1, h⟩ := Option.bind_eq_some_iff.mp h
  refine Fr.w_si e_q1 (by first | decide | simp) ?_
  obtain rfl := Option.some.inj h
  exact Fr.rf
set_option maxRecDepth 100000 in
theorem fr_l_nameEvening (N : Nat) (M : Mem) (M' : Mem) (h : f_l_nameEvening N M = some M') : Fr [109] M M' := by
  rw [f_l_nameEvening] at h
  obtain ⟨q1, e_q1, h⟩ := Option.bind_eq_some_iff.mp h
  refine Fr.w_si e_q1 (by first | decide | simp) ?_
  obtain ⟨q2, e_q2, h⟩ := Option.bind_eq_some_iff.mp h
  refine Fr.w_si e_q2 (by first | decide | simp) ?_
  obtain ⟨q3, e_q3, h⟩ := Option.bind_eq_some_iff.mp h
  obtain ⟨q4, e_q4, h⟩ := Option.bind_eq_some_iff.mp h
  refine Fr.w_si e_q4 (by first | decide | simp) ?_
  obtain rfl := Option.some.inj h
  exact Fr.rf
set_option maxRecDepth 100000 in
theorem fr_l_nameSpeaker_107 (N : Nat) (x2 : Int32) (s1 : Int32) (s2 : Int32) (M : Mem) (M' : Mem) (h : f_l_nameSpeaker_107 N x2 s1 s2 M = some M') : Fr [109] M M' := by
  rw [f_l_nameSpeaker_107] at h
  obtain ⟨g, h⟩ := am_itg h
  obtain ⟨q8, e_q8, h⟩ := Option.bind_eq_some_iff.mp h
  refine Fr.w_si e_q8 (by first | decide | simp) ?_
  obtain ⟨q9, e_q9, h⟩ := Option.bind_eq_some_iff.mp h
  refine Fr.w_si e_q9 (by first | decide | simp) ?_
  obtain ⟨q10, e_q10, h⟩ := Option.bind_eq_some_iff.mp h
  obtain ⟨q11, e_q11, h⟩ := Option.bind_eq_some_iff.mp h
  refine Fr.w_si e_q11 (by first | decide | simp) ?_
  obtain rfl := Option.some.inj h
  exact Fr.rf
set_option maxRecDepth 100000 in
theorem fr_l_nameSpeaker (N : Nat) (x2 : Int32) (x3 : Int32) (M : Mem) (M' : Mem) (h : f_l_nameSpeaker N x2 x3 M = some M') : Fr [109] M M' := by
  rw [f_l_nameSpeaker] at h
  by_cases hc : (f_g_knows x2 M) = (0 : Int32)
  · replace h := (if_pos hc).symm.trans h
    obtain rfl := Option.some.inj h
    exact Fr.rf
  · replace h := (if_neg hc).symm.trans h
    obtain ⟨q1, e_q1, h⟩ := Option.bind_eq_some_iff.mp h
    refine Fr.tr (Fr.sub (fr_l_nameEvening N M q1 e_q1) (by first | decide | simp)) ?_
    obtain ⟨q2, e_q2, h⟩ := Option.bind_eq_some_iff.mp h
    obtain ⟨g, h⟩ := am_itg h
    obtain ⟨q3, e_q3, h⟩ := Option.bind_eq_some_iff.mp h
    refine Fr.w_si e_q3 (by first | decide | simp) ?_
    obtain ⟨g, h⟩ := am_itg h
    obtain ⟨q4, e_q4, h⟩ := Option.bind_eq_some_iff.mp h
    refine Fr.w_si e_q4 (by first | decide | simp) ?_
    obtain ⟨q5, e_q5, h⟩ := Option.bind_eq_some_iff.mp h
    refine Fr.w_si e_q5 (by first | decide | simp) ?_
    obtain ⟨q6, e_q6, h⟩ := Option.bind_eq_some_iff.mp h
    obtain ⟨q7, e_q7, h⟩ := Option.bind_eq_some_iff.mp h
    refine Fr.w_si e_q7 (by first | decide | simp) ?_
    by_cases hc : q2 = (-1 : Int32)
    · replace h := (if_pos hc).symm.trans h
      exact fr_l_nameSpeaker_107 N x2 (7 : Int32) (99 : Int32) q7 _ h
    · replace h := (if_neg hc).symm.trans h
      exact fr_l_nameSpeaker_107 N x2 (7 : Int32) ((f_e_moment q7) - q2) q7 _ h
set_option maxRecDepth 100000 in
theorem fr_l_pop (M : Mem) (r : Int32) (M' : Mem) (h : f_l_pop M = some (r, M')) : Fr [108] M M' := by
  rw [f_l_pop] at h
  by_cases hc : (gi M 108 2) < (1 : Int32)
  · replace h := (if_pos hc).symm.trans h
    obtain ⟨rfl, rfl⟩ := Prod.mk.inj (Option.some.inj h)
    exact Fr.rf
  · replace h := (if_neg hc).symm.trans h
    by_cases hc : (gi M 108 2) ≤ (64 : Int32)
    · replace h := (if_pos hc).symm.trans h
      obtain ⟨q1, e_q1, h⟩ := Option.bind_eq_some_iff.mp h
      refine Fr.w_si e_q1 (by first | decide | simp) ?_
      obtain ⟨g, h⟩ := am_itg h
      obtain ⟨rfl, rfl⟩ := Prod.mk.inj (Option.some.inj h)
      exact Fr.rf
    · replace h := (if_neg hc).symm.trans h
      obtain ⟨rfl, rfl⟩ := Prod.mk.inj (Option.some.inj h)
      exact Fr.rf
set_option maxRecDepth 100000 in
theorem fr_l_push (x1 : Int32) (M : Mem) (M' : Mem) (h : f_l_push x1 M = some M') : Fr [108, 110] M M' := by
  rw [f_l_push] at h
  by_cases hc : (gi M 108 2) < (0 : Int32)
  · replace h := (if_pos hc).symm.trans h
    obtain rfl := Option.some.inj h
    exact Fr.rf
  · replace h := (if_neg hc).symm.trans h
    by_cases hc : (64 : Int32) ≤ (gi M 108 2)
    · replace h := (if_pos hc).symm.trans h
      obtain rfl := Option.some.inj h
      exact Fr.rf
    · replace h := (if_neg hc).symm.trans h
      obtain ⟨g, h⟩ := am_itg h
      obtain ⟨q1, e_q1, h⟩ := Option.bind_eq_some_iff.mp h
      refine Fr.w_si e_q1 (by first | decide | simp) ?_
      obtain ⟨q2, e_q2, h⟩ := Option.bind_eq_some_iff.mp h
      refine Fr.w_si e_q2 (by first | decide | simp) ?_
      obtain rfl := Option.some.inj h
      exact Fr.rf
set_option maxRecDepth 100000 in
theorem fr_l_behindCase (a : Nat) (x2 : Int32) (M : Mem) (r : Int32) (M' : Mem) (h : f_l_behindCase a x2 M = some (r, M')) : Fr [108, 110] M M' := by
  rw [f_l_behindCase] at h
  obtain ⟨q1, e_q1, h⟩ := Option.bind_eq_some_iff.mp h
  refine Fr.tr (Fr.sub (fr_l_pop M q1.1 q1.2 e_q1) (by first | decide | simp)) ?_
  obtain ⟨q2, e_q2, h⟩ := Option.bind_eq_some_iff.mp h
  obtain ⟨q3, e_q3, h⟩ := Option.bind_eq_some_iff.mp h
  by_cases hc : (f_w_within q1.1 q2 q3 q1.2) = (0 : Int32)
  · replace h := (if_pos hc).symm.trans h
    obtain ⟨q4, e_q4, h⟩ := Option.bind_eq_some_iff.mp h
    refine Fr.tr (Fr.sub (fr_l_push q1.1 q1.2 q4 e_q4) (by first | decide | simp)) ?_
    obtain ⟨q5, e_q5, h⟩ := Option.bind_eq_some_iff.mp h
    obtain ⟨rfl, rfl⟩ := Prod.mk.inj (Option.some.inj h)
    exact Fr.rf
  · replace h := (if_neg hc).symm.trans h
    obtain ⟨rfl, rfl⟩ := Prod.mk.inj (Option.some.inj h)
    exact Fr.rf
set_option maxRecDepth 100000 in
theorem fr_l_work (x1 : Int32) (x2 : Int32) (M : Mem) (M' : Mem) (h : f_l_work x1 x2 M = some M') : Fr [108, 110] M M' := by
  rw [f_l_work] at h
  by_cases hc : (f_w_within x1 (0 : Int32) (11 : Int32) M) = (0 : Int32)
  · replace h := (if_pos hc).symm.trans h
    by_cases hc : x1 = (33 : Int32)
    · replace h := (if_pos hc).symm.trans h
      obtain ⟨q1, e_q1, h⟩ := Option.bind_eq_some_iff.mp h
      refine Fr.tr (Fr.sub (fr_l_push x2 M q1 e_q1) (by first | decide | simp)) ?_
      obtain rfl := Option.some.inj h
      exact Fr.rf
    · replace h := (if_neg hc).symm.trans h
      by_cases hc : x1 = (50 : Int32)
      · replace h := (if_pos hc).symm.trans h
        obtain ⟨q2, e_q2, h⟩ := Option.bind_eq_some_iff.mp h
        refine Fr.tr (Fr.sub (fr_l_pop M q2.1 q2.2 e_q2) (by first | decide | simp)) ?_
        obtain ⟨q3, e_q3, h⟩ := Option.bind_eq_some_iff.mp h
        refine Fr.tr (Fr.sub (fr_l_push (-q2.1) q2.2 q3 e_q3) (by first | decide | simp)) ?_
        obtain rfl := Option.some.inj h
        exact Fr.rf
      · replace h := (if_neg hc).symm.trans h
        by_cases hc : x1 = (26 : Int32)
        · replace h := (if_pos hc).symm.trans h
          obtain ⟨q4, e_q4, h⟩ := Option.bind_eq_some_iff.mp h
          refine Fr.tr (Fr.sub (fr_l_pop M q4.1 q4.2 e_q4) (by first | decide | simp)) ?_
          obtain ⟨q5, e_q5, h⟩ := Option.bind_eq_some_iff.mp h
          refine Fr.tr (Fr.sub (fr_l_push ((1 : Int32) - q4.1) q4.2 q5 e_q5) (by first | decide | simp)) ?_
          obtain rfl := Option.some.inj h
          exact Fr.rf
        · replace h := (if_neg hc).symm.trans h
          by_cases hc : x1 = (52 : Int32)
          · replace h := (if_pos hc).symm.trans h
            obtain ⟨q6, e_q6, h⟩ := Option.bind_eq_some_iff.mp h
            refine Fr.tr (Fr.sub (fr_l_pop M q6.1 q6.2 e_q6) (by first | decide | simp)) ?_
            obtain rfl := Option.some.inj h
            exact Fr.rf
          · replace h := (if_neg hc).symm.trans h
            obtain ⟨q7, e_q7, h⟩ := Option.bind_eq_some_iff.mp h
            refine Fr.tr (Fr.sub (fr_l_pop M q7.1 q7.2 e_q7) (by first | decide | simp)) ?_
            obtain ⟨q8, e_q8, h⟩ := Option.bind_eq_some_iff.mp h
            refine Fr.tr (Fr.sub (fr_l_pop q7.2 q8.1 q8.2 e_q8) (by first | decide | simp)) ?_
            by_cases hc : x1 ≤ (37 : Int32)
            · replace h := (if_pos hc).symm.trans h
              obtain ⟨q9, e_q9, h⟩ := Option.bind_eq_some_iff.mp h
              refine Fr.tr (Fr.sub (fr_l_push (f_l_compared x1 q8.1 q7.1 q8.2) q8.2 q9 e_q9) (by first | decide | simp)) ?_
              obtain rfl := Option.some.inj h
              exact Fr.rf
            · replace h := (if_neg hc).symm.trans h
              by_cases hc : x1 < (46 : Int32)
              · replace h := (if_pos hc).symm.trans h
                obtain ⟨q10, e_q10, h⟩ := Option.bind_eq_some_iff.mp h
                obtain ⟨q11, e_q11, h⟩ := Option.bind_eq_some_iff.mp h
                refine Fr.tr (Fr.sub (fr_l_push q10 q8.2 q11 e_q11) (by first | decide | simp)) ?_
                obtain rfl := Option.some.inj h
                exact Fr.rf
              · replace h := (if_neg hc).symm.trans h
                obtain ⟨q12, e_q12, h⟩ := Option.bind_eq_some_iff.mp h
                refine Fr.tr (Fr.sub (fr_l_push (f_l_compared x1 q8.1 q7.1 q8.2) q8.2 q12 e_q12) (by first | decide | simp)) ?_
                obtain rfl := Option.some.inj h
                exact Fr.rf
  · replace h := (if_neg hc).symm.trans h
    obtain ⟨g, h⟩ := am_itg h
    obtain ⟨q13, e_q13, h⟩ := Option.bind_eq_some_iff.mp h
    refine Fr.tr (Fr.sub (fr_l_push (gi M 109 (x1).toNatClampNeg) M q13 e_q13) (by first | decide | simp)) ?_
    obtain rfl := Option.some.inj h
    exact Fr.rf
set_option maxRecDepth 100000 in
theorem fr_l_run_10 (N : Nat) (a : Nat) : ∀ (n : Nat) (x3 : Int32) (x4 : Int32) (M : Mem) (r : Int32) (M' : Mem), f_l_run_10 N a n x3 x4 M = some (r, M') → Fr [108, 110] M M' := by
  intro n
  induction n with
  | zero =>
    intro x3 x4 M r M' h
    cases h
  | succ n ih =>
    intro x3 x4 M r M' h
    rw [f_l_run_10] at h
    by_cases hc : (300 : Int32) ≤ x4
    · replace h := (if_pos hc).symm.trans h
      obtain ⟨q2, e_q2, h⟩ := Option.bind_eq_some_iff.mp h
      refine Fr.tr (Fr.sub (fr_l_pop M q2.1 q2.2 e_q2) (by first | decide | simp)) ?_
      obtain ⟨rfl, rfl⟩ := Prod.mk.inj (Option.some.inj h)
      exact Fr.rf
    · replace h := (if_neg hc).symm.trans h
      obtain ⟨q3, e_q3, h⟩ := Option.bind_eq_some_iff.mp h
      by_cases hc : q3 = (53 : Int32)
      · replace h := (if_pos hc).symm.trans h
        obtain ⟨q4, e_q4, h⟩ := Option.bind_eq_some_iff.mp h
        refine Fr.tr (Fr.sub (fr_l_pop M q4.1 q4.2 e_q4) (by first | decide | simp)) ?_
        obtain ⟨rfl, rfl⟩ := Prod.mk.inj (Option.some.inj h)
        exact Fr.rf
      · replace h := (if_neg hc).symm.trans h
        obtain ⟨q5, e_q5, h⟩ := Option.bind_eq_some_iff.mp h
        by_cases hc : q5 = (51 : Int32)
        · replace h := (if_pos hc).symm.trans h
          obtain ⟨q6, e_q6, h⟩ := Option.bind_eq_some_iff.mp h
          exact ih q6 (x4 + (1 : Int32)) M _ _ h
        · replace h := (if_neg hc).symm.trans h
          by_cases hc : q5 = (28 : Int32)
          · replace h := (if_pos hc).symm.trans h
            obtain ⟨q7, e_q7, h⟩ := Option.bind_eq_some_iff.mp h
            refine Fr.tr (Fr.sub (fr_l_behindCase a x3 M q7.1 q7.2 e_q7) (by first | decide | simp)) ?_
            exact ih q7.1 (x4 + (1 : Int32)) q7.2 _ _ h
          · replace h := (if_neg hc).symm.trans h
            obtain ⟨q8, e_q8, h⟩ := Option.bind_eq_some_iff.mp h
            obtain ⟨q9, e_q9, h⟩ := Option.bind_eq_some_iff.mp h
            refine Fr.tr (Fr.sub (fr_l_work q5 q8 M q9 e_q9) (by first | decide | simp)) ?_
            exact ih (x3 + (1 : Int32)) (x4 + (1 : Int32)) q9 _ _ h
set_option maxRecDepth 100000 in
theorem fr_l_run (N : Nat) (a : Nat) (x2 : Int32) (M : Mem) (r : Int32) (M' : Mem) (h : f_l_run N a x2 M = some (r, M')) : Fr [108, 110] M M' := by
  rw [f_l_run] at h
  obtain ⟨q1, e_q1, h⟩ := Option.bind_eq_some_iff.mp h
  refine Fr.w_si e_q1 (by first | decide | simp) ?_
  exact fr_l_run_10 N a N x2 (0 : Int32) q1 _ _ h
set_option maxRecDepth 100000 in
theorem fr_l_whenFalls_108_6_a_86 (N : Nat) (a : Nat) (x5 : Int32) (x6 : Int32) (M : Mem) (r : Int32) (M' : Mem) (h : f_l_whenFalls_108_6_a_86 N a x5 x6 M = some (r, M')) : Fr [108, 109, 110] M M' := by
  rw [f_l_whenFalls_108_6_a_86] at h
  obtain ⟨q5, e_q5, h⟩ := Option.bind_eq_some_iff.mp h
  by_cases hc : q5 = (-1 : Int32)
  · replace h := (if_pos hc).symm.trans h
    obtain ⟨rfl, rfl⟩ := Prod.mk.inj (Option.some.inj h)
    exact Fr.rf
  · replace h := (if_neg hc).symm.trans h
    obtain ⟨q6, e_q6, h⟩ := Option.bind_eq_some_iff.mp h
    obtain ⟨q7, e_q7, h⟩ := Option.bind_eq_some_iff.mp h
    refine Fr.tr (Fr.sub (fr_l_run N a q6 M q7.1 q7.2 e_q7) (by first | decide | simp)) ?_
    obtain ⟨rfl, rfl⟩ := Prod.mk.inj (Option.some.inj h)
    exact Fr.rf
set_option maxRecDepth 100000 in
theorem fr_l_whenFalls_108_6_a_31 (N : Nat) (a : Nat) (x3 : Int32) (x4 : Int32) (s0 : Int32) (M : Mem) (r : Int32) (M' : Mem) (h : f_l_whenFalls_108_6_a_31 N a x3 x4 s0 M = some (r, M')) : Fr [108, 109, 110] M M' := by
  rw [f_l_whenFalls_108_6_a_31] at h
  obtain ⟨q1, e_q1, h⟩ := Option.bind_eq_some_iff.mp h
  refine Fr.tr (Fr.sub (fr_l_nameSpeaker N x3 x4 M q1 e_q1) (by first | decide | simp)) ?_
  obtain ⟨q2, e_q2, h⟩ := Option.bind_eq_some_iff.mp h
  by_cases hc : q2 = (-1 : Int32)
  · replace h := (if_pos hc).symm.trans h
    exact fr_l_whenFalls_108_6_a_86 N a s0 (f_e_moment M) q1 _ _ h
  · replace h := (if_neg hc).symm.trans h
    obtain ⟨q3, e_q3, h⟩ := Option.bind_eq_some_iff.mp h
    obtain ⟨q4, e_q4, h⟩ := Option.bind_eq_some_iff.mp h
    refine Fr.tr (Fr.sub (fr_l_run N a q3 q1 q4.1 q4.2 e_q4) (by first | decide | simp)) ?_
    by_cases hc : q4.1 = (0 : Int32)
    · replace h := (if_pos hc).symm.trans h
      obtain ⟨rfl, rfl⟩ := Prod.mk.inj (Option.some.inj h)
      exact Fr.rf
    · replace h := (if_neg hc).symm.trans h
      exact fr_l_whenFalls_108_6_a_86 N a s0 (f_e_moment M) q4.2 _ _ h
set_option maxRecDepth 100000 in
theorem fr_l_whenFalls_108_6_a (N : Nat) (a : Nat) (x3 : Int32) (x4 : Int32) (M : Mem) (r : Int32) (M' : Mem) (h : f_l_whenFalls_108_6_a N a x3 x4 M = some (r, M')) : Fr [108, 109, 110] M M' := by
  rw [f_l_whenFalls_108_6_a] at h
  by_cases hc : (f_g_knows x3 M) = (0 : Int32)
  · replace h := (if_pos hc).symm.trans h
    obtain ⟨rfl, rfl⟩ := Prod.mk.inj (Option.some.inj h)
    exact Fr.rf
  · replace h := (if_neg hc).symm.trans h
    obtain ⟨g, h⟩ := am_itg h
    by_cases hc : (3 : Int32) ≤ (gi M 9 (x3).toNatClampNeg)
    · replace h := (if_pos hc).symm.trans h
      exact fr_l_whenFalls_108_6_a_31 N a x3 x4 (0 : Int32) M _ _ h
    · replace h := (if_neg hc).symm.trans h
      exact fr_l_whenFalls_108_6_a_31 N a x3 x4 (3 : Int32) M _ _ h
set_option maxRecDepth 100000 in
theorem fr_w_speak_38 (N : Nat) (x1 : Int32) (x2 : Int32) (M : Mem) (r : Int32) (M' : Mem) (h : f_w_speak_38 N x1 x2 M = some (r, M')) : Fr [12, 14, 16, 17, 18, 19, 20, 21, 22, 23, 24, 25, 26, 27, 28, 29, 30, 31, 32, 33, 34, 35, 36, 37, 38, 39, 40, 41, 42, 43, 44, 45, 108, 109, 110] M M' := by
  rw [f_w_speak_38] at h
  cases hs : w_scr (gi M 6 5) with
  | none =>
    rw [hs] at h
    obtain ⟨q2, e_q2, h⟩ := Option.bind_eq_some_iff.mp h
    obtain ⟨q3, e_q3, h⟩ := Option.bind_eq_some_iff.mp h
    refine Fr.tr (Fr.sub (fr_e_enter x1 x2 q2 M q3 e_q3) (by first | decide | simp)) ?_
    by_cases hc : x2 = (3 : Int32)
    · replace h := (if_pos hc).symm.trans h
      obtain ⟨q4, e_q4, h⟩ := Option.bind_eq_some_iff.mp h
      refine Fr.tr (Fr.sub (fr_e_letGo ((1 : Int32) <<< (x1 &&& 31)) q3 q4 e_q4) (by first | decide | simp)) ?_
      obtain ⟨rfl, rfl⟩ := Prod.mk.inj (Option.some.inj h)
      exact Fr.rf
    · replace h := (if_neg hc).symm.trans h
      obtain ⟨rfl, rfl⟩ := Prod.mk.inj (Option.some.inj h)
      exact Fr.rf
  | some a =>
    rw [hs] at h
    rcases w_scr_cases hs with rfl | rfl | rfl | rfl
    · obtain ⟨q5, e_q5, h⟩ := Option.bind_eq_some_iff.mp h
      refine Fr.tr (Fr.sub (fr_l_whenFalls_108_6_a N 113 x1 x2 M q5.1 q5.2 e_q5) (by first | decide | simp)) ?_
      obtain ⟨q6, e_q6, h⟩ := Option.bind_eq_some_iff.mp h
      refine Fr.tr (Fr.sub (fr_e_enter x1 x2 q5.1 q5.2 q6 e_q6) (by first | decide | simp)) ?_
      by_cases hc : x2 = (3 : Int32)
      · replace h := (if_pos hc).symm.trans h
        obtain ⟨q7, e_q7, h⟩ := Option.bind_eq_some_iff.mp h
        refine Fr.tr (Fr.sub (fr_e_letGo ((1 : Int32) <<< (x1 &&& 31)) q6 q7 e_q7) (by first | decide | simp)) ?_
        obtain ⟨rfl, rfl⟩ := Prod.mk.inj (Option.some.inj h)
        exact Fr.rf
      · replace h := (if_neg hc).symm.trans h
        obtain ⟨rfl, rfl⟩ := Prod.mk.inj (Option.some.inj h)
        exact Fr.rf
    · obtain ⟨q5, e_q5, h⟩ := Option.bind_eq_some_iff.mp h
      refine Fr.tr (Fr.sub (fr_l_whenFalls_108_6_a N 117 x1 x2 M q5.1 q5.2 e_q5) (by first | decide | simp)) ?_
      obtain ⟨q6, e_q6, h⟩ := Option.bind_eq_some_iff.mp h
      refine Fr.tr (Fr.sub (fr_e_enter x1 x2 q5.1 q5.2 q6 e_q6) (by first | decide | simp)) ?_
      by_cases hc : x2 = (3 : Int32)
      · replace h := (if_pos hc).symm.trans h
        obtain ⟨q7, e_q7, h⟩ := Option.bind_eq_some_iff.mp h
        refine Fr.tr (Fr.sub (fr_e_letGo ((1 : Int32) <<< (x1 &&& 31)) q6 q7 e_q7) (by first | decide | simp)) ?_
        obtain ⟨rfl, rfl⟩ := Prod.mk.inj (Option.some.inj h)
        exact Fr.rf
      · replace h := (if_neg hc).symm.trans h
        obtain ⟨rfl, rfl⟩ := Prod.mk.inj (Option.some.inj h)
        exact Fr.rf
    · obtain ⟨q5, e_q5, h⟩ := Option.bind_eq_some_iff.mp h
      refine Fr.tr (Fr.sub (fr_l_whenFalls_108_6_a N 121 x1 x2 M q5.1 q5.2 e_q5) (by first | decide | simp)) ?_
      obtain ⟨q6, e_q6, h⟩ := Option.bind_eq_some_iff.mp h
      refine Fr.tr (Fr.sub (fr_e_enter x1 x2 q5.1 q5.2 q6 e_q6) (by first | decide | simp)) ?_
      by_cases hc : x2 = (3 : Int32)
      · replace h := (if_pos hc).symm.trans h
        obtain ⟨q7, e_q7, h⟩ := Option.bind_eq_some_iff.mp h
        refine Fr.tr (Fr.sub (fr_e_letGo ((1 : Int32) <<< (x1 &&& 31)) q6 q7 e_q7) (by first | decide | simp)) ?_
        obtain ⟨rfl, rfl⟩ := Prod.mk.inj (Option.some.inj h)
        exact Fr.rf
      · replace h := (if_neg hc).symm.trans h
        obtain ⟨rfl, rfl⟩ := Prod.mk.inj (Option.some.inj h)
        exact Fr.rf
    · obtain ⟨q5, e_q5, h⟩ := Option.bind_eq_some_iff.mp h
      refine Fr.tr (Fr.sub (fr_l_whenFalls_108_6_a N 125 x1 x2 M q5.1 q5.2 e_q5) (by first | decide | simp)) ?_
      obtain ⟨q6, e_q6, h⟩ := Option.bind_eq_some_iff.mp h
      refine Fr.tr (Fr.sub (fr_e_enter x1 x2 q5.1 q5.2 q6 e_q6) (by first | decide | simp)) ?_
      by_cases hc : x2 = (3 : Int32)
      · replace h := (if_pos hc).symm.trans h
        obtain ⟨q7, e_q7, h⟩ := Option.bind_eq_some_iff.mp h
        refine Fr.tr (Fr.sub (fr_e_letGo ((1 : Int32) <<< (x1 &&& 31)) q6 q7 e_q7) (by first | decide | simp)) ?_
        obtain ⟨rfl, rfl⟩ := Prod.mk.inj (Option.some.inj h)
        exact Fr.rf
      · replace h := (if_neg hc).symm.trans h
        obtain ⟨rfl, rfl⟩ := Prod.mk.inj (Option.some.inj h)
        exact Fr.rf
set_option maxRecDepth 100000 in
theorem fr_w_speak (N : Nat) (x1 : Int32) (x2 : Int32) (x3 : Int32) (M : Mem) (r : Int32) (M' : Mem) (h : f_w_speak N x1 x2 x3 M = some (r, M')) : Fr [12, 14, 16, 17, 18, 19, 20, 21, 22, 23, 24, 25, 26, 27, 28, 29, 30, 31, 32, 33, 34, 35, 36, 37, 38, 39, 40, 41, 42, 43, 44, 45, 108, 109, 110] M M' := by
  rw [f_w_speak] at h
  by_cases hc : (f_t_isThere x1 M) = (0 : Int32)
  · replace h := (if_pos hc).symm.trans h
    obtain ⟨rfl, rfl⟩ := Prod.mk.inj (Option.some.inj h)
    exact Fr.rf
  · replace h := (if_neg hc).symm.trans h
    by_cases hc : (f_e_isFull M) = (0 : Int32)
    · replace h := (if_pos hc).symm.trans h
      by_cases hc : x3 = (0 : Int32)
      · replace h := (if_pos hc).symm.trans h
        exact fr_w_speak_38 N x1 x2 M _ _ h
      · replace h := (if_neg hc).symm.trans h
        obtain ⟨q1, e_q1, h⟩ := Option.bind_eq_some_iff.mp h
        refine Fr.tr (Fr.sub (fr_t_keepStep M q1 e_q1) (by first | decide | simp)) ?_
        exact fr_w_speak_38 N x1 x2 q1 _ _ h
    · replace h := (if_neg hc).symm.trans h
      obtain ⟨rfl, rfl⟩ := Prod.mk.inj (Option.some.inj h)
      exact Fr.rf
set_option maxRecDepth 100000 in
theorem fr_w_say (N : Nat) (x1 : Int32) (x2 : Int32) (M : Mem) (r : Int32) (M' : Mem) (h : f_w_say N x1 x2 M = some (r, M')) : Fr [12, 14, 16, 17, 18, 19, 20, 21, 22, 23, 24, 25, 26, 27, 28, 29, 30, 31, 32, 33, 34, 35, 36, 37, 38, 39, 40, 41, 42, 43, 44, 45, 108, 109, 110] M M' := by
  rw [f_w_say] at h
  by_cases hc : (f_w_within x2 (0 : Int32) (3 : Int32) M) = (0 : Int32)
  · replace h := (if_pos hc).symm.trans h
    obtain ⟨rfl, rfl⟩ := Prod.mk.inj (Option.some.inj h)
    exact Fr.rf
  · replace h := (if_neg hc).symm.trans h
    obtain ⟨q1, e_q1, h⟩ := Option.bind_eq_some_iff.mp h
    refine Fr.tr (Fr.sub (fr_w_speak N x1 x2 (1 : Int32) M q1.1 q1.2 e_q1) (by first | decide | simp)) ?_
    obtain ⟨rfl, rfl⟩ := Prod.mk.inj (Option.some.inj h)
    exact Fr.rf
set_option maxRecDepth 100000 in
theorem fr_m_keep_155 (N : Nat) (K147 : Int32 → Int32 → Mem → Option Mem) (hK147 : ∀ (x1 : Int32) (x2 : Int32) (M : Mem) (M' : Mem), K147 x1 x2 M = some M' → Fr [130] M M') : ∀ (n : Nat) (x1 : Int32) (x2 : Int32) (x3 : Int32) (M : Mem) (M' : Mem), f_m_keep_155 N K147 n x1 x2 x3 M = some M' → Fr [130] M M' := by
  intro n
  induction n with
  | zero =>
    intro x1 x2 x3 M M' h
    cases h
  | succ n ih =>
    intro x1 x2 x3 M M' h
    rw [f_m_keep_155] at h
    by_cases hc : (4 : Int32) ≤ x3
    · replace h := (if_pos hc).symm.trans h
      exact hK147 x1 (x2 + (1 : Int32)) M _ h
    · replace h := (if_neg hc).symm.trans h
      obtain ⟨q5, e_q5, h⟩ := Option.bind_eq_some_iff.mp h
      obtain ⟨g, h⟩ := am_itg h
      obtain ⟨q6, e_q6, h⟩ := Option.bind_eq_some_iff.mp h
      refine Fr.w_si e_q6 (by first | decide | simp) ?_
      exact ih x1 x2 (x3 + (1 : Int32)) q6 _ h
set_option maxRecDepth 100000 in
theorem fr_m_keep_197 (N : Nat) : ∀ (n : Nat) (x1 : Int32) (x2 : Int32) (M : Mem) (M' : Mem), f_m_keep_197 N n x1 x2 M = some M' → Fr [130] M M' := by
  intro n
  induction n with
  | zero =>
    intro x1 x2 M M' h
    cases h
  | succ n ih =>
    intro x1 x2 M M' h
    rw [f_m_keep_197] at h
    by_cases hc : (40 : Int32) ≤ x2
    · replace h := (if_pos hc).symm.trans h
      obtain ⟨q7, e_q7, h⟩ := Option.bind_eq_some_iff.mp h
      refine Fr.w_si e_q7 (by first | decide | simp) ?_
      obtain rfl := Option.some.inj h
      exact Fr.rf
    · replace h := (if_neg hc).symm.trans h
      obtain ⟨g, h⟩ := am_itg h
      obtain ⟨g, h⟩ := am_itg h
      obtain ⟨q8, e_q8, h⟩ := Option.bind_eq_some_iff.mp h
      refine Fr.w_si e_q8 (by first | decide | simp) ?_
      exact ih x1 (x2 + (1 : Int32)) q8 _ h
set_option maxRecDepth 100000 in
theorem fr_m_keep_147 (N : Nat) : ∀ (n : Nat) (x1 : Int32) (x2 : Int32) (M : Mem) (M' : Mem), f_m_keep_147 N n x1 x2 M = some M' → Fr [130] M M' := by
  intro n
  induction n with
  | zero =>
    intro x1 x2 M M' h
    cases h
  | succ n ih =>
    intro x1 x2 M M' h
    rw [f_m_keep_147] at h
    by_cases hc : (8 : Int32) ≤ x2
    · replace h := (if_pos hc).symm.trans h
      exact fr_m_keep_197 N N x1 (0 : Int32) M _ h
    · replace h := (if_neg hc).symm.trans h
      exact fr_m_keep_155 N _ ih N x1 x2 (0 : Int32) M _ h
set_option maxRecDepth 100000 in
theorem fr_m_keep_85 (N : Nat) : ∀ (n : Nat) (x1 : Int32) (x2 : Int32) (M : Mem) (M' : Mem), f_m_keep_85 N n x1 x2 M = some M' → Fr [130] M M' := by
  intro n
  induction n with
  | zero =>
    intro x1 x2 M M' h
    cases h
  | succ n ih =>
    intro x1 x2 M M' h
    rw [f_m_keep_85] at h
    by_cases hc : (4 : Int32) ≤ x2
    · replace h := (if_pos hc).symm.trans h
      obtain ⟨g, h⟩ := am_itg h
      obtain ⟨q2, e_q2, h⟩ := Option.bind_eq_some_iff.mp h
      refine Fr.w_si e_q2 (by first | decide | simp) ?_
      obtain ⟨g, h⟩ := am_itg h
      obtain ⟨q3, e_q3, h⟩ := Option.bind_eq_some_iff.mp h
      refine Fr.w_si e_q3 (by first | decide | simp) ?_
      exact fr_m_keep_147 N N x1 (0 : Int32) q3 _ h
    · replace h := (if_neg hc).symm.trans h
      obtain ⟨g, h⟩ := am_itg h
      obtain ⟨g, h⟩ := am_itg h
      obtain ⟨q4, e_q4, h⟩ := Option.bind_eq_some_iff.mp h
      refine Fr.w_si e_q4 (by first | decide | simp) ?_
      exact ih x1 (x2 + (1 : Int32)) q4 _ h
set_option maxRecDepth 100000 in
theorem fr_m_keep_57 (N : Nat) (M : Mem) (M' : Mem) (h : f_m_keep_57 N M = some M') : Fr [130] M M' := by
  rw [f_m_keep_57] at h
  obtain ⟨g, h⟩ := am_itg h
  obtain ⟨q1, e_q1, h⟩ := Option.bind_eq_some_iff.mp h
  refine Fr.w_si e_q1 (by first | decide | simp) ?_
  exact fr_m_keep_85 N N ((126 : Int32) + ((80 : Int32) * (gi M 130 7))) (0 : Int32) q1 _ h
set_option maxRecDepth 100000 in
theorem fr_m_keep_14 (N : Nat) : ∀ (n : Nat) (x1 : Int32) (M : Mem) (M' : Mem), f_m_keep_14 N n x1 M = some M' → Fr [130] M M' := by
  intro n
  induction n with
  | zero =>
    intro x1 M M' h
    cases h
  | succ n ih =>
    intro x1 M M' h
    rw [f_m_keep_14] at h
    by_cases hc : (2320 : Int32) ≤ x1
    · replace h := (if_pos hc).symm.trans h
      obtain ⟨q9, e_q9, h⟩ := Option.bind_eq_some_iff.mp h
      refine Fr.w_si e_q9 (by first | decide | simp) ?_
      exact fr_m_keep_57 N q9 _ h
    · replace h := (if_neg hc).symm.trans h
      obtain ⟨g, h⟩ := am_itg h
      obtain ⟨g, h⟩ := am_itg h
      obtain ⟨q10, e_q10, h⟩ := Option.bind_eq_some_iff.mp h
      refine Fr.w_si e_q10 (by first | decide | simp) ?_
      exact ih (x1 + (1 : Int32)) q10 _ h
set_option maxRecDepth 100000 in
theorem fr_m_keep (N : Nat) (M : Mem) (M' : Mem) (h : f_m_keep N M = some M') : Fr [130] M M' := by
  rw [f_m_keep] at h
  by_cases hc : (gi M 130 7) = (30 : Int32)
  · replace h := (if_pos hc).symm.trans h
    exact fr_m_keep_14 N N (0 : Int32) M _ h
  · replace h := (if_neg hc).symm.trans h
    exact fr_m_keep_57 N M _ h
set_option maxRecDepth 100000 in
theorem fr_m_startHolding (M : Mem) (M' : Mem) (h : f_m_startHolding M = some M') : Fr [129] M M' := by
  rw [f_m_startHolding] at h
  obtain ⟨q1, e_q1, h⟩ := Option.bind_eq_some_iff.mp h
  refine Fr.w_si e_q1 (by first | decide | simp) ?_
  obtain ⟨q2, e_q2, h⟩ := Option.bind_eq_some_iff.mp h
  refine Fr.w_si e_q2 (by first | decide | simp) ?_
  obtain rfl := Option.some.inj h
  exact Fr.rf
set_option maxRecDepth 100000 in
theorem fr_m_consider_26 (x1 : Int32) (x2 : Int32) (M : Mem) (M' : Mem) (h : f_m_consider_26 x1 x2 M = some M') : Fr [129] M M' := by
  rw [f_m_consider_26] at h
  obtain ⟨q2, e_q2, h⟩ := Option.bind_eq_some_iff.mp h
  refine Fr.w_si e_q2 (by first | decide | simp) ?_
  by_cases hc : x1 = (8 : Int32)
  · replace h := (if_pos hc).symm.trans h
    obtain rfl := Option.some.inj h
    exact Fr.rf
  · replace h := (if_neg hc).symm.trans h
    obtain ⟨q3, e_q3, h⟩ := Option.bind_eq_some_iff.mp h
    refine Fr.w_si e_q3 (by first | decide | simp) ?_
    obtain rfl := Option.some.inj h
    exact Fr.rf
set_option maxRecDepth 100000 in
theorem fr_m_consider (x1 : Int32) (x2 : Int32) (M : Mem) (M' : Mem) (h : f_m_consider x1 x2 M = some M') : Fr [129] M M' := by
  rw [f_m_consider] at h
  by_cases hc : x2 < (0 : Int32)
  · replace h := (if_pos hc).symm.trans h
    obtain rfl := Option.some.inj h
    exact Fr.rf
  · replace h := (if_neg hc).symm.trans h
    by_cases hc : (gi M 129 28) ≤ x2
    · replace h := (if_pos hc).symm.trans h
      by_cases hc : x2 ≤ (gi M 129 28)
      · replace h := (if_pos hc).symm.trans h
        exact fr_m_consider_26 x1 x2 M _ h
      · replace h := (if_neg hc).symm.trans h
        obtain ⟨q1, e_q1, h⟩ := Option.bind_eq_some_iff.mp h
        refine Fr.w_si e_q1 (by first | decide | simp) ?_
        exact fr_m_consider_26 x1 x2 q1 _ h
    · replace h := (if_neg hc).symm.trans h
      obtain rfl := Option.some.inj h
      exact Fr.rf
set_option maxRecDepth 100000 in
theorem fr_m_holdBy_6 (N : Nat) : ∀ (n : Nat) (x1 : Int32) (x2 : Int32) (M : Mem) (r : Int32) (M' : Mem), f_m_holdBy_6 N n x1 x2 M = some (r, M') → Fr [129] M M' := by
  intro n
  induction n with
  | zero =>
    intro x1 x2 M r M' h
    cases h
  | succ n ih =>
    intro x1 x2 M r M' h
    rw [f_m_holdBy_6] at h
    by_cases hc : (gi M 130 8) ≤ x2
    · replace h := (if_pos hc).symm.trans h
      obtain ⟨rfl, rfl⟩ := Prod.mk.inj (Option.some.inj h)
      exact Fr.rf
    · replace h := (if_neg hc).symm.trans h
      obtain ⟨q2, e_q2, h⟩ := Option.bind_eq_some_iff.mp h
      by_cases hc : x1 < q2
      · replace h := (if_pos hc).symm.trans h
        exact ih x1 (x2 + (1 : Int32)) M _ _ h
      · replace h := (if_neg hc).symm.trans h
        obtain ⟨q3, e_q3, h⟩ := Option.bind_eq_some_iff.mp h
        obtain ⟨q4, e_q4, h⟩ := Option.bind_eq_some_iff.mp h
        obtain ⟨q5, e_q5, h⟩ := Option.bind_eq_some_iff.mp h
        refine Fr.tr (Fr.sub (fr_m_consider q3 q4 M q5 e_q5) (by first | decide | simp)) ?_
        exact ih x1 (x2 + (1 : Int32)) q5 _ _ h
set_option maxRecDepth 100000 in
theorem fr_m_holdBy (N : Nat) (x1 : Int32) (M : Mem) (r : Int32) (M' : Mem) (h : f_m_holdBy N x1 M = some (r, M')) : Fr [129] M M' := by
  rw [f_m_holdBy] at h
  obtain ⟨q1, e_q1, h⟩ := Option.bind_eq_some_iff.mp h
  refine Fr.tr (Fr.sub (fr_m_startHolding M q1 e_q1) (by first | decide | simp)) ?_
  exact fr_m_holdBy_6 N N x1 (0 : Int32) q1 _ _ h
set_option maxRecDepth 100000 in
theorem fr_m_holdNow (N : Nat) (M : Mem) (r : Int32) (M' : Mem) (h : f_m_holdNow N M = some (r, M')) : Fr [129] M M' := by
  rw [f_m_holdNow] at h
  obtain ⟨q1, e_q1, h⟩ := Option.bind_eq_some_iff.mp h
  refine Fr.tr (Fr.sub (fr_m_holdBy N ((gi M 130 2) - (1 : Int32)) M q1.1 q1.2 e_q1) (by first | decide | simp)) ?_
  obtain ⟨rfl, rfl⟩ := Prod.mk.inj (Option.some.inj h)
  exact Fr.rf
set_option maxRecDepth 100000 in
theorem fr_m_choose_15 (N : Nat) : ∀ (n : Nat) (x3 : Int32) (x4 : Int32) (x5 : Int32) (x6 : Int32) (M : Mem) (r : Int32) (M' : Mem), f_m_choose_15 N n x3 x4 x5 x6 M = some (r, M') → Fr [139] M M' := by
  intro n
  induction n with
  | zero =>
    intro x3 x4 x5 x6 M r M' h
    cases h
  | succ n ih =>
    intro x3 x4 x5 x6 M r M' h
    rw [f_m_choose_15] at h
    by_cases hc : x6 < (0 : Int32)
    · replace h := (if_pos hc).symm.trans h
      obtain ⟨g, h⟩ := am_itg h
      obtain ⟨g, h⟩ := am_itg h
      obtain ⟨q1, e_q1, h⟩ := Option.bind_eq_some_iff.mp h
      refine Fr.w_sj e_q1 (by first | decide | simp) ?_
      obtain ⟨rfl, rfl⟩ := Prod.mk.inj (Option.some.inj h)
      exact Fr.rf
    · replace h := (if_neg hc).symm.trans h
      obtain ⟨g, h⟩ := am_itg h
      obtain ⟨g, h⟩ := am_itg h
      by_cases hc : (lg_cmp (gj M 139 (x4).toNatClampNeg) (Int32.toInt64 (gi M 132 ((x3 + ((2 : Int32) * x6))).toNatClampNeg))) < (0 : Int32)
      · replace h := (if_pos hc).symm.trans h
        exact ih x3 x4 x5 (x6 + (-1 : Int32)) M _ _ h
      · replace h := (if_neg hc).symm.trans h
        obtain ⟨g, h⟩ := am_itg h
        obtain ⟨g, h⟩ := am_itg h
        by_cases hc : (0 : Int32) < (lg_cmp (gj M 139 (x4).toNatClampNeg) (Int32.toInt64 (gi M 132 (((x3 + ((2 : Int32) * x6)) + (1 : Int32))).toNatClampNeg)))
        · replace h := (if_pos hc).symm.trans h
          exact ih x3 x4 x5 (x6 + (-1 : Int32)) M _ _ h
        · replace h := (if_neg hc).symm.trans h
          exact ih x3 x4 x6 (x6 + (-1 : Int32)) M _ _ h
set_option maxRecDepth 100000 in
theorem fr_m_choose (N : Nat) (x1 : Int32) (x2 : Int32) (x3 : Int32) (M : Mem) (r : Int32) (M' : Mem) (h : f_m_choose N x1 x2 x3 M = some (r, M')) : Fr [139] M M' := by
  rw [f_m_choose] at h
  exact fr_m_choose_15 N N x3 ((x1 - x2) - (2 : Int32)) x2 (x2 - (1 : Int32)) M _ _ h
set_option maxRecDepth 100000 in
theorem fr_m_work_49 (N : Nat) : ∀ (n : Nat) (x2 : Int32) (x3 : Int32) (x4 : Int32) (x5 : Int32) (x6 : Int32) (M : Mem) (M' : Mem), f_m_work_49 N n x2 x3 x4 x5 x6 M = some M' → Fr [139, 140] M M' := by
  intro n
  induction n with
  | zero =>
    intro x2 x3 x4 x5 x6 M M' h
    cases h
  | succ n ih =>
    intro x2 x3 x4 x5 x6 M M' h
    rw [f_m_work_49] at h
    obtain ⟨g, h⟩ := am_itg h
    by_cases hc : (gi M 132 ((x2 + (2 : Int32))).toNatClampNeg) ≤ x6
    · replace h := (if_pos hc).symm.trans h
      obtain rfl := Option.some.inj h
      exact Fr.rf
    · replace h := (if_neg hc).symm.trans h
      obtain ⟨g, h⟩ := am_itg h
      obtain ⟨g, h⟩ := am_itg h
      by_cases hc : (1 : Int32) < (gi M 132 ((x3 + ((2 : Int32) * x6))).toNatClampNeg)
      · replace h := (if_pos hc).symm.trans h
        by_cases hc : (gi M 132 ((x3 + ((2 : Int32) * x6))).toNatClampNeg) = (2 : Int32)
        · replace h := (if_pos hc).symm.trans h
          obtain ⟨q1, e_q1, h⟩ := Option.bind_eq_some_iff.mp h
          refine Fr.tr (Fr.sub (fr_m_choose N x4 (gi M 132 (((x3 + ((2 : Int32) * x6)) + (1 : Int32))).toNatClampNeg) ((x3 + ((2 : Int32) * x6)) + (2 : Int32)) M q1.1 q1.2 e_q1) (by first | decide | simp)) ?_
          exact ih x2 x3 q1.1 x5 ((x6 + (gi M 132 (((x3 + ((2 : Int32) * x6)) + (1 : Int32))).toNatClampNeg)) + (1 : Int32)) q1.2 _ h
        · replace h := (if_neg hc).symm.trans h
          by_cases hc : (gi M 132 ((x3 + ((2 : Int32) * x6))).toNatClampNeg) = (3 : Int32)
          · replace h := (if_pos hc).symm.trans h
            obtain ⟨g, h⟩ := am_itg h
            obtain ⟨g, h⟩ := am_itg h
            obtain ⟨q2, e_q2, h⟩ := Option.bind_eq_some_iff.mp h
            refine Fr.w_sj e_q2 (by first | decide | simp) ?_
            exact ih x2 x3 x4 x5 (x6 + (1 : Int32)) q2 _ h
          · replace h := (if_neg hc).symm.trans h
            by_cases hc : (10 : Int32) ≤ (gi M 132 ((x3 + ((2 : Int32) * x6))).toNatClampNeg)
            · replace h := (if_pos hc).symm.trans h
              by_cases hc : (20 : Int32) ≤ (gi M 132 ((x3 + ((2 : Int32) * x6))).toNatClampNeg)
              · replace h := (if_pos hc).symm.trans h
                by_cases hc : (gi M 132 ((x3 + ((2 : Int32) * x6))).toNatClampNeg) = (20 : Int32)
                · replace h := (if_pos hc).symm.trans h
                  obtain ⟨g, h⟩ := am_itg h
                  by_cases hc : (gi M 140 ((x5 - (1 : Int32))).toNatClampNeg) = (0 : Int32)
                  · replace h := (if_pos hc).symm.trans h
                    obtain ⟨g, h⟩ := am_itg h
                    obtain ⟨q3, e_q3, h⟩ := Option.bind_eq_some_iff.mp h
                    refine Fr.w_si e_q3 (by first | decide | simp) ?_
                    exact ih x2 x3 x4 x5 (x6 + (1 : Int32)) q3 _ h
                  · replace h := (if_neg hc).symm.trans h
                    obtain ⟨g, h⟩ := am_itg h
                    obtain ⟨q4, e_q4, h⟩ := Option.bind_eq_some_iff.mp h
                    refine Fr.w_si e_q4 (by first | decide | simp) ?_
                    exact ih x2 x3 x4 x5 (x6 + (1 : Int32)) q4 _ h
                · replace h := (if_neg hc).symm.trans h
                  by_cases hc : (gi M 132 ((x3 + ((2 : Int32) * x6))).toNatClampNeg) = (21 : Int32)
                  · replace h := (if_pos hc).symm.trans h
                    obtain ⟨g, h⟩ := am_itg h
                    by_cases hc : (gi M 140 (((x5 + (-1 : Int32)) - (1 : Int32))).toNatClampNeg) = (0 : Int32)
                    · replace h := (if_pos hc).symm.trans h
                      obtain ⟨g, h⟩ := am_itg h
                      obtain ⟨q5, e_q5, h⟩ := Option.bind_eq_some_iff.mp h
                      refine Fr.w_si e_q5 (by first | decide | simp) ?_
                      exact ih x2 x3 x4 (x5 + (-1 : Int32)) (x6 + (1 : Int32)) q5 _ h
                    · replace h := (if_neg hc).symm.trans h
                      obtain ⟨g, h⟩ := am_itg h
                      by_cases hc : (gi M 140 ((x5 + (-1 : Int32))).toNatClampNeg) = (0 : Int32)
                      · replace h := (if_pos hc).symm.trans h
                        obtain ⟨g, h⟩ := am_itg h
                        obtain ⟨q6, e_q6, h⟩ := Option.bind_eq_some_iff.mp h
                        refine Fr.w_si e_q6 (by first | decide | simp) ?_
                        exact ih x2 x3 x4 (x5 + (-1 : Int32)) (x6 + (1 : Int32)) q6 _ h
                      · replace h := (if_neg hc).symm.trans h
                        obtain ⟨g, h⟩ := am_itg h
                        obtain ⟨q7, e_q7, h⟩ := Option.bind_eq_some_iff.mp h
                        refine Fr.w_si e_q7 (by first | decide | simp) ?_
                        exact ih x2 x3 x4 (x5 + (-1 : Int32)) (x6 + (1 : Int32)) q7 _ h
                  · replace h := (if_neg hc).symm.trans h
                    obtain ⟨g, h⟩ := am_itg h
                    by_cases hc : (gi M 140 (((x5 + (-1 : Int32)) - (1 : Int32))).toNatClampNeg) = (0 : Int32)
                    · replace h := (if_pos hc).symm.trans h
                      obtain ⟨g, h⟩ := am_itg h
                      by_cases hc : (gi M 140 ((x5 + (-1 : Int32))).toNatClampNeg) = (0 : Int32)
                      · replace h := (if_pos hc).symm.trans h
                        obtain ⟨g, h⟩ := am_itg h
                        obtain ⟨q8, e_q8, h⟩ := Option.bind_eq_some_iff.mp h
                        refine Fr.w_si e_q8 (by first | decide | simp) ?_
                        exact ih x2 x3 x4 (x5 + (-1 : Int32)) (x6 + (1 : Int32)) q8 _ h
                      · replace h := (if_neg hc).symm.trans h
                        obtain ⟨g, h⟩ := am_itg h
                        obtain ⟨q9, e_q9, h⟩ := Option.bind_eq_some_iff.mp h
                        refine Fr.w_si e_q9 (by first | decide | simp) ?_
                        exact ih x2 x3 x4 (x5 + (-1 : Int32)) (x6 + (1 : Int32)) q9 _ h
                    · replace h := (if_neg hc).symm.trans h
                      obtain ⟨g, h⟩ := am_itg h
                      obtain ⟨q10, e_q10, h⟩ := Option.bind_eq_some_iff.mp h
                      refine Fr.w_si e_q10 (by first | decide | simp) ?_
                      exact ih x2 x3 x4 (x5 + (-1 : Int32)) (x6 + (1 : Int32)) q10 _ h
              · replace h := (if_neg hc).symm.trans h
                obtain ⟨g, h⟩ := am_itg h
                obtain ⟨g, h⟩ := am_itg h
                obtain ⟨g, h⟩ := am_itg h
                obtain ⟨q11, e_q11, h⟩ := Option.bind_eq_some_iff.mp h
                refine Fr.w_si e_q11 (by first | decide | simp) ?_
                exact ih x2 x3 (x4 + (-2 : Int32)) (x5 + (1 : Int32)) (x6 + (1 : Int32)) q11 _ h
            · replace h := (if_neg hc).symm.trans h
              obtain ⟨g, h⟩ := am_itg h
              obtain ⟨g, h⟩ := am_itg h
              obtain ⟨q12, e_q12, h⟩ := Option.bind_eq_some_iff.mp h
              obtain ⟨g, h⟩ := am_itg h
              obtain ⟨q13, e_q13, h⟩ := Option.bind_eq_some_iff.mp h
              refine Fr.w_sj e_q13 (by first | decide | simp) ?_
              exact ih x2 x3 (x4 + (-1 : Int32)) x5 (x6 + (1 : Int32)) q13 _ h
      · replace h := (if_neg hc).symm.trans h
        by_cases hc : (gi M 132 ((x3 + ((2 : Int32) * x6))).toNatClampNeg) = (0 : Int32)
        · replace h := (if_pos hc).symm.trans h
          obtain ⟨g, h⟩ := am_itg h
          obtain ⟨q14, e_q14, h⟩ := Option.bind_eq_some_iff.mp h
          refine Fr.w_sj e_q14 (by first | decide | simp) ?_
          exact ih x2 x3 (x4 + (1 : Int32)) x5 (x6 + (1 : Int32)) q14 _ h
        · replace h := (if_neg hc).symm.trans h
          obtain ⟨g, h⟩ := am_itg h
          obtain ⟨g, h⟩ := am_itg h
          obtain ⟨q15, e_q15, h⟩ := Option.bind_eq_some_iff.mp h
          refine Fr.w_sj e_q15 (by first | decide | simp) ?_
          exact ih x2 x3 (x4 + (1 : Int32)) x5 (x6 + (1 : Int32)) q15 _ h
set_option maxRecDepth 100000 in
theorem fr_m_work (N : Nat) (x1 : Int32) (M : Mem) (M' : Mem) (h : f_m_work N x1 M = some M') : Fr [139, 140] M M' := by
  rw [f_m_work] at h
  obtain ⟨g, h⟩ := am_itg h
  exact fr_m_work_49 N N ((((705 : Int32) * (gi M 130 6)) + (1 : Int32)) + ((4 : Int32) * x1)) (((705 : Int32) * (gi M 130 6)) + (97 : Int32)) (0 : Int32) (0 : Int32) (gi M 132 ((((((705 : Int32) * (gi M 130 6)) + (1 : Int32)) + ((4 : Int32) * x1)) + (1 : Int32))).toNatClampNeg) M _ h
