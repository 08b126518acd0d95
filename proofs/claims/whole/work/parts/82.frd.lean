/-! Frames. -/
set_option maxRecDepth 100000 in
theorem fr_e_momentsHeld_118 (N : Nat) (K80 : Int32 → Int32 → Int32 → Int32 → Mem → Option (Int32 × Mem)) (hK80 : ∀ (x1 : Int32) (x2 : Int32) (x3 : Int32) (x4 : Int32) (M : Mem) (r : Int32) (M' : Mem), K80 x1 x2 x3 x4 M = some (r, M') → Fr [13] M M') (x1 : Int32) (x3 : Int32) (x4 : Int32) (s0 : Int32) (M : Mem) (r : Int32) (M' : Mem) (h : f_e_momentsHeld_118 N K80 x1 x3 x4 s0 M = some (r, M')) : Fr [13] M M' := by
  rw [f_e_momentsHeld_118] at h
  by_cases hc : (s0 &&& x1) = (0 : Int32)
  · replace h := (if_pos hc).symm.trans h
    exact hK80 x1 s0 (x3 + (0 : Int32)) (x4 + (1 : Int32)) M _ _ h
  · replace h := (if_neg hc).symm.trans h
    exact hK80 x1 s0 (x3 + (1 : Int32)) (x4 + (1 : Int32)) M _ _ h
set_option maxRecDepth 100000 in
theorem fr_e_momentsHeld_80 (N : Nat) : ∀ (n : Nat) (x1 : Int32) (x2 : Int32) (x3 : Int32) (x4 : Int32) (M : Mem) (r : Int32) (M' : Mem), f_e_momentsHeld_80 N n x1 x2 x3 x4 M = some (r, M') → Fr [13] M M' := by
  intro n
  induction n with
  | zero =>
    intro x1 x2 x3 x4 M r M' h
    cases h
  | succ n ih =>
    intro x1 x2 x3 x4 M r M' h
    rw [f_e_momentsHeld_80] at h
    by_cases hc : (f_e_moment M) ≤ x4
    · replace h := (if_pos hc).symm.trans h
      obtain ⟨rfl, rfl⟩ := Prod.mk.inj (Option.some.inj h)
      exact Fr.rf
    · replace h := (if_neg hc).symm.trans h
      by_cases hc : (99 : Int32) < x4
      · replace h := (if_pos hc).symm.trans h
        obtain ⟨rfl, rfl⟩ := Prod.mk.inj (Option.some.inj h)
        exact Fr.rf
      · replace h := (if_neg hc).symm.trans h
        obtain ⟨g, h⟩ := am_itg h
        by_cases hc : (gi M 13 (x4).toNatClampNeg) = (-1 : Int32)
        · replace h := (if_pos hc).symm.trans h
          exact fr_e_momentsHeld_118 N _ ih x1 x3 x4 x2 M _ _ h
        · replace h := (if_neg hc).symm.trans h
          obtain ⟨g, h⟩ := am_itg h
          exact fr_e_momentsHeld_118 N _ ih x1 x3 x4 (gi M 13 (x4).toNatClampNeg) M _ _ h
set_option maxRecDepth 100000 in
theorem fr_e_momentsHeld_10 (N : Nat) : ∀ (n : Nat) (x1 : Int32) (x2 : Int32) (M : Mem) (r : Int32) (M' : Mem), f_e_momentsHeld_10 N n x1 x2 M = some (r, M') → Fr [13] M M' := by
  intro n
  induction n with
  | zero =>
    intro x1 x2 M r M' h
    cases h
  | succ n ih =>
    intro x1 x2 M r M' h
    rw [f_e_momentsHeld_10] at h
    by_cases hc : (f_e_spoken M) ≤ x2
    · replace h := (if_pos hc).symm.trans h
      exact fr_e_momentsHeld_80 N N x1 (0 : Int32) (0 : Int32) (0 : Int32) M _ _ h
    · replace h := (if_neg hc).symm.trans h
      obtain ⟨q2, e_q2, h⟩ := Option.bind_eq_some_iff.mp h
      by_cases hc : (f_w_within (f_e_fallsOf q2 M) (0 : Int32) (99 : Int32) M) = (0 : Int32)
      · replace h := (if_pos hc).symm.trans h
        exact ih x1 (x2 + (1 : Int32)) M _ _ h
      · replace h := (if_neg hc).symm.trans h
        obtain ⟨g, h⟩ := am_itg h
        obtain ⟨g, h⟩ := am_itg h
        obtain ⟨q3, e_q3, h⟩ := Option.bind_eq_some_iff.mp h
        refine Fr.w_si e_q3 (by first | decide | simp) ?_
        exact ih x1 (x2 + (1 : Int32)) q3 _ _ h
set_option maxRecDepth 100000 in
theorem fr_e_momentsHeld (N : Nat) (x1 : Int32) (M : Mem) (r : Int32) (M' : Mem) (h : f_e_momentsHeld N x1 M = some (r, M')) : Fr [13] M M' := by
  rw [f_e_momentsHeld] at h
  obtain ⟨q1, e_q1, h⟩ := Option.bind_eq_some_iff.mp h
  refine Fr.tr (Fr.sub (fr_k_fill0_13 N (-1 : Int32) M q1 e_q1) (by first | decide | simp)) ?_
  exact fr_e_momentsHeld_10 N N x1 (0 : Int32) q1 _ _ h
set_option maxRecDepth 100000 in
theorem fr_w_held (N : Nat) (x1 : Int32) (M : Mem) (r : Int32) (M' : Mem) (h : f_w_held N x1 M = some (r, M')) : Fr [13] M M' := by
  rw [f_w_held] at h
  by_cases hc : (f_g_knows x1 M) = (0 : Int32)
  · replace h := (if_pos hc).symm.trans h
    obtain ⟨rfl, rfl⟩ := Prod.mk.inj (Option.some.inj h)
    exact Fr.rf
  · replace h := (if_neg hc).symm.trans h
    obtain ⟨q1, e_q1, h⟩ := Option.bind_eq_some_iff.mp h
    refine Fr.tr (Fr.sub (fr_e_momentsHeld N ((1 : Int32) <<< (x1 &&& 31)) M q1.1 q1.2 e_q1) (by first | decide | simp)) ?_
    obtain ⟨rfl, rfl⟩ := Prod.mk.inj (Option.some.inj h)
    exact Fr.rf
set_option maxRecDepth 100000 in
theorem fr_m_held_14 (N : Nat) : ∀ (n : Nat) (x1 : Int32) (x2 : Int32) (x3 : Int32) (M : Mem) (r : Int32) (M' : Mem), f_m_held_14 N n x1 x2 x3 M = some (r, M') → Fr [129] M M' := by
  intro n
  induction n with
  | zero =>
    intro x1 x2 x3 M r M' h
    cases h
  | succ n ih =>
    intro x1 x2 x3 M r M' h
    rw [f_m_held_14] at h
    by_cases hc : (gi M 130 2) ≤ x3
    · replace h := (if_pos hc).symm.trans h
      obtain ⟨rfl, rfl⟩ := Prod.mk.inj (Option.some.inj h)
      exact Fr.rf
    · replace h := (if_neg hc).symm.trans h
      obtain ⟨q1, e_q1, h⟩ := Option.bind_eq_some_iff.mp h
      refine Fr.tr (Fr.sub (fr_m_holdBy N x3 M q1.1 q1.2 e_q1) (by first | decide | simp)) ?_
      exact ih x1 (x2 + ((q1.1 >>> (x1 &&& 31)) &&& (1 : Int32))) (x3 + (1 : Int32)) q1.2 _ _ h
set_option maxRecDepth 100000 in
theorem fr_m_held (N : Nat) (x1 : Int32) (M : Mem) (r : Int32) (M' : Mem) (h : f_m_held N x1 M = some (r, M')) : Fr [129] M M' := by
  rw [f_m_held] at h
  by_cases hc : (f_m_isGuest x1 M) = (0 : Int32)
  · replace h := (if_pos hc).symm.trans h
    obtain ⟨rfl, rfl⟩ := Prod.mk.inj (Option.some.inj h)
    exact Fr.rf
  · replace h := (if_neg hc).symm.trans h
    exact fr_m_held_14 N N x1 (0 : Int32) (0 : Int32) M _ _ h
set_option maxRecDepth 100000 in
theorem fr_w_countToasts_2 (N : Nat) : ∀ (n : Nat) (x1 : Int32) (M : Mem) (M' : Mem), f_w_countToasts_2 N n x1 M = some M' → Fr [112] M M' := by
  intro n
  induction n with
  | zero =>
    intro x1 M M' h
    cases h
  | succ n ih =>
    intro x1 M M' h
    rw [f_w_countToasts_2] at h
    by_cases hc : (8 : Int32) ≤ x1
    · replace h := (if_pos hc).symm.trans h
      obtain rfl := Option.some.inj h
      exact Fr.rf
    · replace h := (if_neg hc).symm.trans h
      obtain ⟨q1, e_q1, h⟩ := Option.bind_eq_some_iff.mp h
      obtain ⟨g, h⟩ := am_itg h
      obtain ⟨q2, e_q2, h⟩ := Option.bind_eq_some_iff.mp h
      refine Fr.w_si e_q2 (by first | decide | simp) ?_
      exact ih (x1 + (1 : Int32)) q2 _ h
set_option maxRecDepth 100000 in
theorem fr_w_countToasts (N : Nat) (M : Mem) (M' : Mem) (h : f_w_countToasts N M = some M') : Fr [112] M M' := by
  rw [f_w_countToasts] at h
  exact fr_w_countToasts_2 N N (0 : Int32) M _ h
set_option maxRecDepth 100000 in
theorem fr_w_round_29 (N : Nat) : ∀ (n : Nat) (x2 : Int32) (x3 : Int32) (M : Mem) (r : Int32) (M' : Mem), f_w_round_29 N n x2 x3 M = some (r, M') → Fr [112] M M' := by
  intro n
  induction n with
  | zero =>
    intro x2 x3 M r M' h
    cases h
  | succ n ih =>
    intro x2 x3 M r M' h
    rw [f_w_round_29] at h
    by_cases hc : x2 ≤ x3
    · replace h := (if_pos hc).symm.trans h
      obtain ⟨q2, e_q2, h⟩ := Option.bind_eq_some_iff.mp h
      obtain ⟨rfl, rfl⟩ := Prod.mk.inj (Option.some.inj h)
      exact Fr.rf
    · replace h := (if_neg hc).symm.trans h
      obtain ⟨q3, e_q3, h⟩ := Option.bind_eq_some_iff.mp h
      by_cases hc : (f_g_knows q3 M) = (0 : Int32)
      · replace h := (if_pos hc).symm.trans h
        obtain ⟨rfl, rfl⟩ := Prod.mk.inj (Option.some.inj h)
        exact Fr.rf
      · replace h := (if_neg hc).symm.trans h
        obtain ⟨g, h⟩ := am_itg h
        obtain ⟨g, h⟩ := am_itg h
        obtain ⟨q4, e_q4, h⟩ := Option.bind_eq_some_iff.mp h
        refine Fr.w_si e_q4 (by first | decide | simp) ?_
        exact ih x2 (x3 + (1 : Int32)) q4 _ _ h
set_option maxRecDepth 100000 in
theorem fr_w_round (N : Nat) (x1 : Int32) (x2 : Int32) (M : Mem) (r : Int32) (M' : Mem) (h : f_w_round N x1 x2 M = some (r, M')) : Fr [112] M M' := by
  rw [f_w_round] at h
  by_cases hc : (f_w_within x1 (1 : Int32) (20 : Int32) M) = (0 : Int32)
  · replace h := (if_pos hc).symm.trans h
    obtain ⟨rfl, rfl⟩ := Prod.mk.inj (Option.some.inj h)
    exact Fr.rf
  · replace h := (if_neg hc).symm.trans h
    by_cases hc : (f_w_within x2 (0 : Int32) (x1 - (1 : Int32)) M) = (0 : Int32)
    · replace h := (if_pos hc).symm.trans h
      obtain ⟨rfl, rfl⟩ := Prod.mk.inj (Option.some.inj h)
      exact Fr.rf
    · replace h := (if_neg hc).symm.trans h
      obtain ⟨q1, e_q1, h⟩ := Option.bind_eq_some_iff.mp h
      refine Fr.tr (Fr.sub (fr_w_countToasts N M q1 e_q1) (by first | decide | simp)) ?_
      exact fr_w_round_29 N N x2 (0 : Int32) q1 _ _ h
set_option maxRecDepth 100000 in
theorem fr_m_layToasts_2 (N : Nat) : ∀ (n : Nat) (x1 : Int32) (M : Mem) (M' : Mem), f_m_layToasts_2 N n x1 M = some M' → Fr [141] M M' := by
  intro n
  induction n with
  | zero =>
    intro x1 M M' h
    cases h
  | succ n ih =>
    intro x1 M M' h
    rw [f_m_layToasts_2] at h
    by_cases hc : (8 : Int32) ≤ x1
    · replace h := (if_pos hc).symm.trans h
      obtain rfl := Option.some.inj h
      exact Fr.rf
    · replace h := (if_neg hc).symm.trans h
      obtain ⟨q1, e_q1, h⟩ := Option.bind_eq_some_iff.mp h
      obtain ⟨g, h⟩ := am_itg h
      obtain ⟨q2, e_q2, h⟩ := Option.bind_eq_some_iff.mp h
      refine Fr.w_si e_q2 (by first | decide | simp) ?_
      exact ih (x1 + (1 : Int32)) q2 _ h
set_option maxRecDepth 100000 in
theorem fr_m_layToasts (N : Nat) (M : Mem) (M' : Mem) (h : f_m_layToasts N M = some M') : Fr [141] M M' := by
  rw [f_m_layToasts] at h
  exact fr_m_layToasts_2 N N (0 : Int32) M _ h
set_option maxRecDepth 100000 in
theorem fr_m_round_42 (N : Nat) : ∀ (n : Nat) (x2 : Int32) (x3 : Int32) (x4 : Int32) (M : Mem) (r : Int32) (M' : Mem), f_m_round_42 N n x2 x3 x4 M = some (r, M') → Fr [141] M M' := by
  intro n
  induction n with
  | zero =>
    intro x2 x3 x4 M r M' h
    cases h
  | succ n ih =>
    intro x2 x3 x4 M r M' h
    rw [f_m_round_42] at h
    by_cases hc : x2 ≤ x4
    · replace h := (if_pos hc).symm.trans h
      obtain ⟨rfl, rfl⟩ := Prod.mk.inj (Option.some.inj h)
      exact Fr.rf
    · replace h := (if_neg hc).symm.trans h
      obtain ⟨g, h⟩ := am_itg h
      obtain ⟨g, h⟩ := am_itg h
      obtain ⟨q4, e_q4, h⟩ := Option.bind_eq_some_iff.mp h
      refine Fr.w_si e_q4 (by first | decide | simp) ?_
      obtain ⟨q5, e_q5, h⟩ := Option.bind_eq_some_iff.mp h
      exact ih x2 q5 (x4 + (1 : Int32)) q4 _ _ h
set_option maxRecDepth 100000 in
theorem fr_m_round (N : Nat) (x1 : Int32) (x2 : Int32) (M : Mem) (r : Int32) (M' : Mem) (h : f_m_round N x1 x2 M = some (r, M')) : Fr [141] M M' := by
  rw [f_m_round] at h
  by_cases hc : (f_m_isIn x1 (1 : Int32) (20 : Int32) M) = (0 : Int32)
  · replace h := (if_pos hc).symm.trans h
    obtain ⟨rfl, rfl⟩ := Prod.mk.inj (Option.some.inj h)
    exact Fr.rf
  · replace h := (if_neg hc).symm.trans h
    by_cases hc : (f_m_isIn x2 (0 : Int32) (x1 - (1 : Int32)) M) = (0 : Int32)
    · replace h := (if_pos hc).symm.trans h
      obtain ⟨rfl, rfl⟩ := Prod.mk.inj (Option.some.inj h)
      exact Fr.rf
    · replace h := (if_neg hc).symm.trans h
      obtain ⟨q1, e_q1, h⟩ := Option.bind_eq_some_iff.mp h
      by_cases hc : q1 = (0 : Int32)
      · replace h := (if_pos hc).symm.trans h
        obtain ⟨rfl, rfl⟩ := Prod.mk.inj (Option.some.inj h)
        exact Fr.rf
      · replace h := (if_neg hc).symm.trans h
        obtain ⟨q2, e_q2, h⟩ := Option.bind_eq_some_iff.mp h
        refine Fr.tr (Fr.sub (fr_m_layToasts N M q2 e_q2) (by first | decide | simp)) ?_
        obtain ⟨q3, e_q3, h⟩ := Option.bind_eq_some_iff.mp h
        exact fr_m_round_42 N N x2 q3 (0 : Int32) q2 _ _ h
set_option maxRecDepth 100000 in
theorem fr_m_provoked_47 (N : Nat) (K22 : Int32 → Int32 → Int32 → Mem → Option (Int32 × Mem)) (hK22 : ∀ (x1 : Int32) (x2 : Int32) (x3 : Int32) (M : Mem) (r : Int32) (M' : Mem), K22 x1 x2 x3 M = some (r, M') → Fr [129] M M') : ∀ (n : Nat) (x1 : Int32) (x2 : Int32) (x3 : Int32) (x4 : Int32) (M : Mem) (r : Int32) (M' : Mem), f_m_provoked_47 N K22 n x1 x2 x3 x4 M = some (r, M') → Fr [129] M M' := by
  intro n
  induction n with
  | zero =>
    intro x1 x2 x3 x4 M r M' h
    cases h
  | succ n ih =>
    intro x1 x2 x3 x4 M r M' h
    rw [f_m_provoked_47] at h
    by_cases hc : (gi M 130 8) ≤ x4
    · replace h := (if_pos hc).symm.trans h
      by_cases hc : (gi M 129 29) = ((1 : Int32) <<< (x1 &&& 31))
      · replace h := (if_pos hc).symm.trans h
        obtain ⟨rfl, rfl⟩ := Prod.mk.inj (Option.some.inj h)
        exact Fr.rf
      · replace h := (if_neg hc).symm.trans h
        exact hK22 x1 x2 (x3 + (1 : Int32)) M _ _ h
    · replace h := (if_neg hc).symm.trans h
      obtain ⟨q2, e_q2, h⟩ := Option.bind_eq_some_iff.mp h
      by_cases hc : q2 = x3
      · replace h := (if_pos hc).symm.trans h
        obtain ⟨q3, e_q3, h⟩ := Option.bind_eq_some_iff.mp h
        by_cases hc : x2 ≤ q3
        · replace h := (if_pos hc).symm.trans h
          exact ih x1 x2 x3 (x4 + (1 : Int32)) M _ _ h
        · replace h := (if_neg hc).symm.trans h
          obtain ⟨q4, e_q4, h⟩ := Option.bind_eq_some_iff.mp h
          obtain ⟨q5, e_q5, h⟩ := Option.bind_eq_some_iff.mp h
          obtain ⟨q6, e_q6, h⟩ := Option.bind_eq_some_iff.mp h
          refine Fr.tr (Fr.sub (fr_m_consider q4 q5 M q6 e_q6) (by first | decide | simp)) ?_
          exact ih x1 x2 x3 (x4 + (1 : Int32)) q6 _ _ h
      · replace h := (if_neg hc).symm.trans h
        obtain ⟨q7, e_q7, h⟩ := Option.bind_eq_some_iff.mp h
        obtain ⟨q8, e_q8, h⟩ := Option.bind_eq_some_iff.mp h
        obtain ⟨q9, e_q9, h⟩ := Option.bind_eq_some_iff.mp h
        refine Fr.tr (Fr.sub (fr_m_consider q7 q8 M q9 e_q9) (by first | decide | simp)) ?_
        exact ih x1 x2 x3 (x4 + (1 : Int32)) q9 _ _ h
set_option maxRecDepth 100000 in
theorem fr_m_provoked_22 (N : Nat) : ∀ (n : Nat) (x1 : Int32) (x2 : Int32) (x3 : Int32) (M : Mem) (r : Int32) (M' : Mem), f_m_provoked_22 N n x1 x2 x3 M = some (r, M') → Fr [129] M M' := by
  intro n
  induction n with
  | zero =>
    intro x1 x2 x3 M r M' h
    cases h
  | succ n ih =>
    intro x1 x2 x3 M r M' h
    rw [f_m_provoked_22] at h
    by_cases hc : (gi M 130 0) ≤ x3
    · replace h := (if_pos hc).symm.trans h
      obtain ⟨rfl, rfl⟩ := Prod.mk.inj (Option.some.inj h)
      exact Fr.rf
    · replace h := (if_neg hc).symm.trans h
      by_cases hc : x3 = x1
      · replace h := (if_pos hc).symm.trans h
        exact ih x1 x2 (x3 + (1 : Int32)) M _ _ h
      · replace h := (if_neg hc).symm.trans h
        obtain ⟨q1, e_q1, h⟩ := Option.bind_eq_some_iff.mp h
        refine Fr.tr (Fr.sub (fr_m_startHolding M q1 e_q1) (by first | decide | simp)) ?_
        exact fr_m_provoked_47 N _ ih N x1 x2 x3 (0 : Int32) q1 _ _ h
set_option maxRecDepth 100000 in
theorem fr_m_provoked (N : Nat) (x1 : Int32) (x2 : Int32) (M : Mem) (r : Int32) (M' : Mem) (h : f_m_provoked N x1 x2 M = some (r, M')) : Fr [129] M M' := by
  rw [f_m_provoked] at h
  by_cases hc : (f_m_isGuest x1 M) = (0 : Int32)
  · replace h := (if_pos hc).symm.trans h
    obtain ⟨rfl, rfl⟩ := Prod.mk.inj (Option.some.inj h)
    exact Fr.rf
  · replace h := (if_neg hc).symm.trans h
    by_cases hc : (f_m_isIn x2 (0 : Int32) (99 : Int32) M) = (0 : Int32)
    · replace h := (if_pos hc).symm.trans h
      obtain ⟨rfl, rfl⟩ := Prod.mk.inj (Option.some.inj h)
      exact Fr.rf
    · replace h := (if_neg hc).symm.trans h
      exact fr_m_provoked_22 N N x1 x2 (0 : Int32) M _ _ h
set_option maxRecDepth 100000 in
theorem fr_w_nextToast (N : Nat) (M : Mem) (r : Int32) (M' : Mem) (h : f_w_nextToast N M = some (r, M')) : Fr [112] M M' := by
  rw [f_w_nextToast] at h
  obtain ⟨q1, e_q1, h⟩ := Option.bind_eq_some_iff.mp h
  refine Fr.tr (Fr.sub (fr_w_countToasts N M q1 e_q1) (by first | decide | simp)) ?_
  obtain ⟨q2, e_q2, h⟩ := Option.bind_eq_some_iff.mp h
  obtain ⟨rfl, rfl⟩ := Prod.mk.inj (Option.some.inj h)
  exact Fr.rf
set_option maxRecDepth 100000 in
theorem fr_m_nextToast (N : Nat) (M : Mem) (r : Int32) (M' : Mem) (h : f_m_nextToast N M = some (r, M')) : Fr [141] M M' := by
  rw [f_m_nextToast] at h
  obtain ⟨q1, e_q1, h⟩ := Option.bind_eq_some_iff.mp h
  refine Fr.tr (Fr.sub (fr_m_layToasts N M q1 e_q1) (by first | decide | simp)) ?_
  obtain ⟨q2, e_q2, h⟩ := Option.bind_eq_some_iff.mp h
  obtain ⟨rfl, rfl⟩ := Prod.mk.inj (Option.some.inj h)
  exact Fr.rf
set_option maxRecDepth 100000 in
theorem fr_w_odds (x1 : Int32) (x2 : Int32) (x3 : Int32) (M : Mem) (r : Int32) (M' : Mem) (h : f_w_odds x1 x2 x3 M = some (r, M')) : Fr [48, 49] M M' := by
  rw [f_w_odds] at h
  by_cases hc : (f_w_within x1 (0 : Int32) (1 : Int32) M) = (0 : Int32)
  · replace h := (if_pos hc).symm.trans h
    obtain ⟨rfl, rfl⟩ := Prod.mk.inj (Option.some.inj h)
    exact Fr.rf
  · replace h := (if_neg hc).symm.trans h
    by_cases hc : (f_w_within x2 (0 : Int32) (5 : Int32) M) = (0 : Int32)
    · replace h := (if_pos hc).symm.trans h
      obtain ⟨rfl, rfl⟩ := Prod.mk.inj (Option.some.inj h)
      exact Fr.rf
    · replace h := (if_neg hc).symm.trans h
      by_cases hc : (f_w_within x3 (0 : Int32) (100 : Int32) M) = (0 : Int32)
      · replace h := (if_pos hc).symm.trans h
        obtain ⟨rfl, rfl⟩ := Prod.mk.inj (Option.some.inj h)
        exact Fr.rf
      · replace h := (if_neg hc).symm.trans h
        by_cases ha0 : x1 = (0 : Int32)
        · replace h := (if_pos ha0).symm.trans h
          obtain ⟨g, h⟩ := am_itg h
          obtain ⟨q1, e_q1, h⟩ := Option.bind_eq_some_iff.mp h
          refine Fr.w_si e_q1 (by first | decide | simp) ?_
          obtain ⟨rfl, rfl⟩ := Prod.mk.inj (Option.some.inj h)
          exact Fr.rf
        replace h := (if_neg ha0).symm.trans h
        by_cases ha1 : x1 = (1 : Int32)
        · replace h := (if_pos ha1).symm.trans h
          obtain ⟨g, h⟩ := am_itg h
          obtain ⟨q2, e_q2, h⟩ := Option.bind_eq_some_iff.mp h
          refine Fr.w_si e_q2 (by first | decide | simp) ?_
          obtain ⟨rfl, rfl⟩ := Prod.mk.inj (Option.some.inj h)
          exact Fr.rf
        replace h := (if_neg ha1).symm.trans h
        cases h
set_option maxRecDepth 100000 in
theorem fr_m_odds (x1 : Int32) (x2 : Int32) (x3 : Int32) (M : Mem) (r : Int32) (M' : Mem) (h : f_m_odds x1 x2 x3 M = some (r, M')) : Fr [130] M M' := by
  rw [f_m_odds] at h
  by_cases hc : (f_m_isIn x1 (0 : Int32) (1 : Int32) M) = (0 : Int32)
  · replace h := (if_pos hc).symm.trans h
    obtain ⟨rfl, rfl⟩ := Prod.mk.inj (Option.some.inj h)
    exact Fr.rf
  · replace h := (if_neg hc).symm.trans h
    by_cases hc : (f_m_isIn x2 (0 : Int32) (5 : Int32) M) = (0 : Int32)
    · replace h := (if_pos hc).symm.trans h
      obtain ⟨rfl, rfl⟩ := Prod.mk.inj (Option.some.inj h)
      exact Fr.rf
    · replace h := (if_neg hc).symm.trans h
      by_cases hc : (f_m_isIn x3 (0 : Int32) (100 : Int32) M) = (0 : Int32)
      · replace h := (if_pos hc).symm.trans h
        obtain ⟨rfl, rfl⟩ := Prod.mk.inj (Option.some.inj h)
        exact Fr.rf
      · replace h := (if_neg hc).symm.trans h
        obtain ⟨g, h⟩ := am_itg h
        obtain ⟨q1, e_q1, h⟩ := Option.bind_eq_some_iff.mp h
        refine Fr.w_si e_q1 (by first | decide | simp) ?_
        obtain ⟨rfl, rfl⟩ := Prod.mk.inj (Option.some.inj h)
        exact Fr.rf
set_option maxRecDepth 100000 in
theorem fr_w_falls (x1 : Int32) (x2 : Int32) (M : Mem) (r : Int32) (M' : Mem) (h : f_w_falls x1 x2 M = some (r, M')) : Fr [50] M M' := by
  rw [f_w_falls] at h
  by_cases hc : (f_w_within x1 (0 : Int32) (5 : Int32) M) = (0 : Int32)
  · replace h := (if_pos hc).symm.trans h
    obtain ⟨rfl, rfl⟩ := Prod.mk.inj (Option.some.inj h)
    exact Fr.rf
  · replace h := (if_neg hc).symm.trans h
    by_cases hc : (f_g_knowsAll x2 M) = (0 : Int32)
    · replace h := (if_pos hc).symm.trans h
      obtain ⟨rfl, rfl⟩ := Prod.mk.inj (Option.some.inj h)
      exact Fr.rf
    · replace h := (if_neg hc).symm.trans h
      obtain ⟨g, h⟩ := am_itg h
      obtain ⟨q1, e_q1, h⟩ := Option.bind_eq_some_iff.mp h
      refine Fr.w_si e_q1 (by first | decide | simp) ?_
      obtain ⟨rfl, rfl⟩ := Prod.mk.inj (Option.some.inj h)
      exact Fr.rf
set_option maxRecDepth 100000 in
theorem fr_m_falls (x1 : Int32) (x2 : Int32) (M : Mem) (r : Int32) (M' : Mem) (h : f_m_falls x1 x2 M = some (r, M')) : Fr [130] M M' := by
  rw [f_m_falls] at h
  by_cases hc : (f_m_isIn x1 (0 : Int32) (5 : Int32) M) = (0 : Int32)
  · replace h := (if_pos hc).symm.trans h
    obtain ⟨rfl, rfl⟩ := Prod.mk.inj (Option.some.inj h)
    exact Fr.rf
  · replace h := (if_neg hc).symm.trans h
    by_cases hc : (f_m_isSet x2 M) = (0 : Int32)
    · replace h := (if_pos hc).symm.trans h
      obtain ⟨rfl, rfl⟩ := Prod.mk.inj (Option.some.inj h)
      exact Fr.rf
    · replace h := (if_neg hc).symm.trans h
      obtain ⟨g, h⟩ := am_itg h
      obtain ⟨q1, e_q1, h⟩ := Option.bind_eq_some_iff.mp h
      refine Fr.w_si e_q1 (by first | decide | simp) ?_
      obtain ⟨rfl, rfl⟩ := Prod.mk.inj (Option.some.inj h)
      exact Fr.rf
set_option maxRecDepth 100000 in
theorem fr_c_startWith (x1 : Int32) (M : Mem) (M' : Mem) (h : f_c_startWith x1 M = some M') : Fr [46] M M' := by
  rw [f_c_startWith] at h
  obtain ⟨q1, e_q1, h⟩ := Option.bind_eq_some_iff.mp h
  refine Fr.w_si e_q1 (by first | decide | simp) ?_
  obtain rfl := Option.some.inj h
  exact Fr.rf
set_option maxRecDepth 100000 in
theorem fr_w_when (N : Nat) (x1 : Int32) (x2 : Int32) (x3 : Int32) (x4 : Int32) (M : Mem) (r : Int64) (M' : Mem) (h : f_w_when N x1 x2 x3 x4 M = some (r, M')) : Fr [46] M M' := by
  rw [f_w_when] at h
  by_cases hc : (f_w_isToCome x1 x2 x3 M) = (0 : Int32)
  · replace h := (if_pos hc).symm.trans h
    obtain ⟨rfl, rfl⟩ := Prod.mk.inj (Option.some.inj h)
    exact Fr.rf
  · replace h := (if_neg hc).symm.trans h
    by_cases hc : (f_w_within x4 (0 : Int32) (2 : Int32) M) = (0 : Int32)
    · replace h := (if_pos hc).symm.trans h
      obtain ⟨rfl, rfl⟩ := Prod.mk.inj (Option.some.inj h)
      exact Fr.rf
    · replace h := (if_neg hc).symm.trans h
      obtain ⟨q1, e_q1, h⟩ := Option.bind_eq_some_iff.mp h
      obtain ⟨q2, e_q2, h⟩ := Option.bind_eq_some_iff.mp h
      refine Fr.tr (Fr.sub (fr_c_startWith q1 M q2 e_q2) (by first | decide | simp)) ?_
      obtain ⟨q3, e_q3, h⟩ := Option.bind_eq_some_iff.mp h
      by_cases hc : x4 = (0 : Int32)
      · replace h := (if_pos hc).symm.trans h
        obtain ⟨rfl, rfl⟩ := Prod.mk.inj (Option.some.inj h)
        exact Fr.rf
      · replace h := (if_neg hc).symm.trans h
        obtain ⟨q4, e_q4, h⟩ := Option.bind_eq_some_iff.mp h
        obtain ⟨q5, e_q5, h⟩ := Option.bind_eq_some_iff.mp h
        by_cases hc : x4 = (2 : Int32)
        · replace h := (if_pos hc).symm.trans h
          obtain ⟨q6, e_q6, h⟩ := Option.bind_eq_some_iff.mp h
          obtain ⟨rfl, rfl⟩ := Prod.mk.inj (Option.some.inj h)
          exact Fr.rf
        · replace h := (if_neg hc).symm.trans h
          obtain ⟨q7, e_q7, h⟩ := Option.bind_eq_some_iff.mp h
          obtain ⟨rfl, rfl⟩ := Prod.mk.inj (Option.some.inj h)
          exact Fr.rf
set_option maxRecDepth 100000 in
theorem fr_m_oddsBy_60 (N : Nat) (K15 : Int32 → Int32 → Int32 → Int32 → Int32 → Int64 → Int64 → Int32 → Mem → Option (Int64 × Mem)) (hK15 : ∀ (x1 : Int32) (x2 : Int32) (x3 : Int32) (x4 : Int32) (x5 : Int32) (x6 : Int64) (x8 : Int64) (x10 : Int32) (M : Mem) (r : Int64) (M' : Mem), K15 x1 x2 x3 x4 x5 x6 x8 x10 M = some (r, M') → Fr [129] M M') (x1 : Int32) (x2 : Int32) (x3 : Int32) (x4 : Int32) (x5 : Int32) (x6 : Int64) (x8 : Int64) (x10 : Int32) (M : Mem) (r : Int64) (M' : Mem) (h : f_m_oddsBy_60 N K15 x1 x2 x3 x4 x5 x6 x8 x10 M = some (r, M')) : Fr [129] M M' := by
  rw [f_m_oddsBy_60] at h
  obtain ⟨g, h⟩ := am_itg h
  by_cases hc : (f_m_has x5 x1 M) = (0 : Int32)
  · replace h := (if_pos hc).symm.trans h
    exact hK15 x1 x2 x3 x4 x5 x6 (x8 * (Int32.toInt64 ((100 : Int32) - (gi M 130 ((((108 : Int32) + ((6 : Int32) * x3)) + x10)).toNatClampNeg)))) (x10 + (1 : Int32)) M _ _ h
  · replace h := (if_neg hc).symm.trans h
    obtain ⟨q2, e_q2, h⟩ := Option.bind_eq_some_iff.mp h
    obtain ⟨q3, e_q3, h⟩ := Option.bind_eq_some_iff.mp h
    obtain ⟨g, h⟩ := am_itn h
    exact hK15 x1 x2 x3 x4 x5 (x6 + (((x8 * (Int32.toInt64 (gi M 130 ((((108 : Int32) + ((6 : Int32) * x3)) + x10)).toNatClampNeg))) * q2) * ((840 : Int64) / (Int32.toInt64 q3)))) (x8 * (Int32.toInt64 ((100 : Int32) - (gi M 130 ((((108 : Int32) + ((6 : Int32) * x3)) + x10)).toNatClampNeg)))) (x10 + (1 : Int32)) M _ _ h
set_option maxRecDepth 100000 in
theorem fr_m_oddsBy_15 (N : Nat) : ∀ (n : Nat) (x1 : Int32) (x2 : Int32) (x3 : Int32) (x4 : Int32) (x5 : Int32) (x6 : Int64) (x8 : Int64) (x10 : Int32) (M : Mem) (r : Int64) (M' : Mem), f_m_oddsBy_15 N n x1 x2 x3 x4 x5 x6 x8 x10 M = some (r, M') → Fr [129] M M' := by
  intro n
  induction n with
  | zero =>
    intro x1 x2 x3 x4 x5 x6 x8 x10 M r M' h
    cases h
  | succ n ih =>
    intro x1 x2 x3 x4 x5 x6 x8 x10 M r M' h
    rw [f_m_oddsBy_15] at h
    by_cases hc : x2 ≤ x10
    · replace h := (if_pos hc).symm.trans h
      obtain ⟨rfl, rfl⟩ := Prod.mk.inj (Option.some.inj h)
      exact Fr.rf
    · replace h := (if_neg hc).symm.trans h
      obtain ⟨g, h⟩ := am_itg h
      by_cases hc : (f_m_has x4 x10 M) = (0 : Int32)
      · replace h := (if_pos hc).symm.trans h
        by_cases hc : ((gi M 130 (((120 : Int32) + x10)).toNatClampNeg) ||| (0 : Int32)) = (0 : Int32)
        · replace h := (if_pos hc).symm.trans h
          exact fr_m_oddsBy_60 N _ ih x1 x2 x3 x4 x5 x6 x8 x10 M _ _ h
        · replace h := (if_neg hc).symm.trans h
          exact fr_m_oddsBy_60 N _ ih x1 x2 x3 x4 ((gi M 130 (((120 : Int32) + x10)).toNatClampNeg) ||| (0 : Int32)) x6 x8 x10 M _ _ h
      · replace h := (if_neg hc).symm.trans h
        by_cases hc : ((gi M 130 (((120 : Int32) + x10)).toNatClampNeg) ||| ((1 : Int32) <<< (x1 &&& 31))) = (0 : Int32)
        · replace h := (if_pos hc).symm.trans h
          exact fr_m_oddsBy_60 N _ ih x1 x2 x3 x4 x5 x6 x8 x10 M _ _ h
        · replace h := (if_neg hc).symm.trans h
          exact fr_m_oddsBy_60 N _ ih x1 x2 x3 x4 ((gi M 130 (((120 : Int32) + x10)).toNatClampNeg) ||| ((1 : Int32) <<< (x1 &&& 31))) x6 x8 x10 M _ _ h
set_option maxRecDepth 100000 in
theorem fr_m_oddsBy (N : Nat) (x1 : Int32) (x2 : Int32) (x3 : Int32) (x4 : Int32) (M : Mem) (r : Int64) (M' : Mem) (h : f_m_oddsBy N x1 x2 x3 x4 M = some (r, M')) : Fr [129] M M' := by
  rw [f_m_oddsBy] at h
  obtain ⟨q1, e_q1, h⟩ := Option.bind_eq_some_iff.mp h
  refine Fr.tr (Fr.sub (fr_m_holdNow N M q1.1 q1.2 e_q1) (by first | decide | simp)) ?_
  exact fr_m_oddsBy_15 N N x1 x2 x3 x4 q1.1 (0 : Int64) (1 : Int64) (0 : Int32) q1.2 _ _ h
set_option maxRecDepth 100000 in
theorem fr_m_when_30 (N : Nat) : ∀ (n : Nat) (x1 : Int32) (x2 : Int32) (x3 : Int32) (x4 : Int32) (x5 : Int32) (x6 : Int32) (M : Mem) (r : Int64) (M' : Mem), f_m_when_30 N n x1 x2 x3 x4 x5 x6 M = some (r, M') → Fr [129] M M' := by
  intro n
  induction n with
  | zero =>
    intro x1 x2 x3 x4 x5 x6 M r M' h
    cases h
  | succ n ih =>
    intro x1 x2 x3 x4 x5 x6 M r M' h
    rw [f_m_when_30] at h
    by_cases hc : x2 ≤ x6
    · replace h := (if_pos hc).symm.trans h
      by_cases hc : x4 = (0 : Int32)
      · replace h := (if_pos hc).symm.trans h
        obtain ⟨rfl, rfl⟩ := Prod.mk.inj (Option.some.inj h)
        exact Fr.rf
      · replace h := (if_neg hc).symm.trans h
        obtain ⟨q1, e_q1, h⟩ := Option.bind_eq_some_iff.mp h
        refine Fr.tr (Fr.sub (fr_m_oddsBy N x1 x2 x3 ((1 : Int32) <<< (x5 &&& 31)) M q1.1 q1.2 e_q1) (by first | decide | simp)) ?_
        obtain ⟨q2, e_q2, h⟩ := Option.bind_eq_some_iff.mp h
        by_cases hc : x4 = (2 : Int32)
        · replace h := (if_pos hc).symm.trans h
          obtain ⟨q3, e_q3, h⟩ := Option.bind_eq_some_iff.mp h
          obtain ⟨rfl, rfl⟩ := Prod.mk.inj (Option.some.inj h)
          exact Fr.rf
        · replace h := (if_neg hc).symm.trans h
          obtain ⟨q4, e_q4, h⟩ := Option.bind_eq_some_iff.mp h
          obtain ⟨rfl, rfl⟩ := Prod.mk.inj (Option.some.inj h)
          exact Fr.rf
    · replace h := (if_neg hc).symm.trans h
      obtain ⟨q5, e_q5, h⟩ := Option.bind_eq_some_iff.mp h
      refine Fr.tr (Fr.sub (fr_m_oddsBy N x1 x2 x3 ((1 : Int32) <<< (x6 &&& 31)) M q5.1 q5.2 e_q5) (by first | decide | simp)) ?_
      obtain ⟨q6, e_q6, h⟩ := Option.bind_eq_some_iff.mp h
      refine Fr.tr (Fr.sub (fr_m_oddsBy N x1 x2 x3 ((1 : Int32) <<< (x5 &&& 31)) q5.2 q6.1 q6.2 e_q6) (by first | decide | simp)) ?_
      by_cases hc : (lg_cmp q5.1 q6.1) ≤ (0 : Int32)
      · replace h := (if_pos hc).symm.trans h
        exact ih x1 x2 x3 x4 x5 (x6 + (1 : Int32)) q6.2 _ _ h
      · replace h := (if_neg hc).symm.trans h
        exact ih x1 x2 x3 x4 x6 (x6 + (1 : Int32)) q6.2 _ _ h
set_option maxRecDepth 100000 in
theorem fr_m_when (N : Nat) (x1 : Int32) (x2 : Int32) (x3 : Int32) (x4 : Int32) (M : Mem) (r : Int64) (M' : Mem) (h : f_m_when N x1 x2 x3 x4 M = some (r, M')) : Fr [129] M M' := by
  rw [f_m_when] at h
  by_cases hc : (f_m_isToCome x1 x2 x3 M) = (0 : Int32)
  · replace h := (if_pos hc).symm.trans h
    obtain ⟨rfl, rfl⟩ := Prod.mk.inj (Option.some.inj h)
    exact Fr.rf
  · replace h := (if_neg hc).symm.trans h
    by_cases hc : (f_m_isIn x4 (0 : Int32) (2 : Int32) M) = (0 : Int32)
    · replace h := (if_pos hc).symm.trans h
      obtain ⟨rfl, rfl⟩ := Prod.mk.inj (Option.some.inj h)
      exact Fr.rf
    · replace h := (if_neg hc).symm.trans h
      exact fr_m_when_30 N N x1 x2 x3 x4 (0 : Int32) (1 : Int32) M _ _ h
set_option maxRecDepth 100000 in
theorem fr_w_words (N : Nat) (x1 : Int32) (x2 : Int32) (x3 : Int32) (x4 : Int32) (x5 : Int32) (M : Mem) (r : Int64) (M' : Mem) (h : f_w_words N x1 x2 x3 x4 x5 M = some (r, M')) : Fr [46] M M' := by
  rw [f_w_words] at h
  by_cases hc : (f_w_isToCome x1 x2 x4 M) = (0 : Int32)
  · replace h := (if_pos hc).symm.trans h
    obtain ⟨rfl, rfl⟩ := Prod.mk.inj (Option.some.inj h)
    exact Fr.rf
  · replace h := (if_neg hc).symm.trans h
    by_cases hc : (f_w_within x3 (0 : Int32) (6 : Int32) M) = (0 : Int32)
    · replace h := (if_pos hc).symm.trans h
      obtain ⟨rfl, rfl⟩ := Prod.mk.inj (Option.some.inj h)
      exact Fr.rf
    · replace h := (if_neg hc).symm.trans h
      by_cases hc : (f_w_within x5 (0 : Int32) (2 : Int32) M) = (0 : Int32)
      · replace h := (if_pos hc).symm.trans h
        obtain ⟨rfl, rfl⟩ := Prod.mk.inj (Option.some.inj h)
        exact Fr.rf
      · replace h := (if_neg hc).symm.trans h
        obtain ⟨q1, e_q1, h⟩ := Option.bind_eq_some_iff.mp h
        obtain ⟨q2, e_q2, h⟩ := Option.bind_eq_some_iff.mp h
        refine Fr.tr (Fr.sub (fr_c_startWith q1 M q2 e_q2) (by first | decide | simp)) ?_
        obtain ⟨q3, e_q3, h⟩ := Option.bind_eq_some_iff.mp h
        by_cases hc : x5 = (0 : Int32)
        · replace h := (if_pos hc).symm.trans h
          obtain ⟨rfl, rfl⟩ := Prod.mk.inj (Option.some.inj h)
          exact Fr.rf
        · replace h := (if_neg hc).symm.trans h
          obtain ⟨q4, e_q4, h⟩ := Option.bind_eq_some_iff.mp h
          obtain ⟨q5, e_q5, h⟩ := Option.bind_eq_some_iff.mp h
          by_cases hc : x5 = (2 : Int32)
          · replace h := (if_pos hc).symm.trans h
            obtain ⟨q6, e_q6, h⟩ := Option.bind_eq_some_iff.mp h
            obtain ⟨rfl, rfl⟩ := Prod.mk.inj (Option.some.inj h)
            exact Fr.rf
          · replace h := (if_neg hc).symm.trans h
            obtain ⟨q7, e_q7, h⟩ := Option.bind_eq_some_iff.mp h
            obtain ⟨rfl, rfl⟩ := Prod.mk.inj (Option.some.inj h)
            exact Fr.rf
set_option maxRecDepth 100000 in
theorem fr_m_bestWords_6 (N : Nat) : ∀ (n : Nat) (x1 : Int32) (x2 : Int32) (x3 : Int32) (x4 : Int32) (x5 : Int32) (x6 : Int32) (M : Mem) (r : Int32) (M' : Mem), f_m_bestWords_6 N n x1 x2 x3 x4 x5 x6 M = some (r, M') → Fr [129] M M' := by
  intro n
  induction n with
  | zero =>
    intro x1 x2 x3 x4 x5 x6 M r M' h
    cases h
  | succ n ih =>
    intro x1 x2 x3 x4 x5 x6 M r M' h
    rw [f_m_bestWords_6] at h
    by_cases hc : ((1 : Int32) <<< (x2 &&& 31)) ≤ x6
    · replace h := (if_pos hc).symm.trans h
      obtain ⟨rfl, rfl⟩ := Prod.mk.inj (Option.some.inj h)
      exact Fr.rf
    · replace h := (if_neg hc).symm.trans h
      obtain ⟨q1, e_q1, h⟩ := Option.bind_eq_some_iff.mp h
      by_cases hc : q1 ≤ x4
      · replace h := (if_pos hc).symm.trans h
        obtain ⟨q2, e_q2, h⟩ := Option.bind_eq_some_iff.mp h
        refine Fr.tr (Fr.sub (fr_m_oddsBy N x1 x2 x3 x6 M q2.1 q2.2 e_q2) (by first | decide | simp)) ?_
        obtain ⟨q3, e_q3, h⟩ := Option.bind_eq_some_iff.mp h
        refine Fr.tr (Fr.sub (fr_m_oddsBy N x1 x2 x3 x5 q2.2 q3.1 q3.2 e_q3) (by first | decide | simp)) ?_
        by_cases hc : (0 : Int32) < (lg_cmp (q2.1 - q3.1) (0 : Int64))
        · replace h := (if_pos hc).symm.trans h
          exact ih x1 x2 x3 x4 x6 (x6 + (1 : Int32)) q3.2 _ _ h
        · replace h := (if_neg hc).symm.trans h
          by_cases hc : (lg_cmp (q2.1 - q3.1) (0 : Int64)) = (0 : Int32)
          · replace h := (if_pos hc).symm.trans h
            obtain ⟨q4, e_q4, h⟩ := Option.bind_eq_some_iff.mp h
            obtain ⟨q5, e_q5, h⟩ := Option.bind_eq_some_iff.mp h
            by_cases hc : q5 ≤ q4
            · replace h := (if_pos hc).symm.trans h
              exact ih x1 x2 x3 x4 x5 (x6 + (1 : Int32)) q3.2 _ _ h
            · replace h := (if_neg hc).symm.trans h
              exact ih x1 x2 x3 x4 x6 (x6 + (1 : Int32)) q3.2 _ _ h
          · replace h := (if_neg hc).symm.trans h
            exact ih x1 x2 x3 x4 x5 (x6 + (1 : Int32)) q3.2 _ _ h
      · replace h := (if_neg hc).symm.trans h
        exact ih x1 x2 x3 x4 x5 (x6 + (1 : Int32)) M _ _ h
set_option maxRecDepth 100000 in
theorem fr_m_bestWords (N : Nat) (x1 : Int32) (x2 : Int32) (x3 : Int32) (x4 : Int32) (M : Mem) (r : Int32) (M' : Mem) (h : f_m_bestWords N x1 x2 x3 x4 M = some (r, M')) : Fr [129] M M' := by
  rw [f_m_bestWords] at h
  exact fr_m_bestWords_6 N N x1 x2 x3 x4 (0 : Int32) (1 : Int32) M _ _ h
set_option maxRecDepth 100000 in
theorem fr_m_words (N : Nat) (x1 : Int32) (x2 : Int32) (x3 : Int32) (x4 : Int32) (x5 : Int32) (M : Mem) (r : Int64) (M' : Mem) (h : f_m_words N x1 x2 x3 x4 x5 M = some (r, M')) : Fr [129] M M' := by
  rw [f_m_words] at h
  by_cases hc : (f_m_isToCome x1 x2 x4 M) = (0 : Int32)
  · replace h := (if_pos hc).symm.trans h
    obtain ⟨rfl, rfl⟩ := Prod.mk.inj (Option.some.inj h)
    exact Fr.rf
  · replace h := (if_neg hc).symm.trans h
    by_cases hc : (f_m_isIn x3 (0 : Int32) (6 : Int32) M) = (0 : Int32)
    · replace h := (if_pos hc).symm.trans h
      obtain ⟨rfl, rfl⟩ := Prod.mk.inj (Option.some.inj h)
      exact Fr.rf
    · replace h := (if_neg hc).symm.trans h
      by_cases hc : (f_m_isIn x5 (0 : Int32) (2 : Int32) M) = (0 : Int32)
      · replace h := (if_pos hc).symm.trans h
        obtain ⟨rfl, rfl⟩ := Prod.mk.inj (Option.some.inj h)
        exact Fr.rf
      · replace h := (if_neg hc).symm.trans h
        obtain ⟨q1, e_q1, h⟩ := Option.bind_eq_some_iff.mp h
        refine Fr.tr (Fr.sub (fr_m_bestWords N x1 x2 x4 x3 M q1.1 q1.2 e_q1) (by first | decide | simp)) ?_
        by_cases hc : x5 = (0 : Int32)
        · replace h := (if_pos hc).symm.trans h
          obtain ⟨rfl, rfl⟩ := Prod.mk.inj (Option.some.inj h)
          exact Fr.rf
        · replace h := (if_neg hc).symm.trans h
          obtain ⟨q2, e_q2, h⟩ := Option.bind_eq_some_iff.mp h
          refine Fr.tr (Fr.sub (fr_m_oddsBy N x1 x2 x4 q1.1 q1.2 q2.1 q2.2 e_q2) (by first | decide | simp)) ?_
          obtain ⟨q3, e_q3, h⟩ := Option.bind_eq_some_iff.mp h
          by_cases hc : x5 = (2 : Int32)
          · replace h := (if_pos hc).symm.trans h
            obtain ⟨q4, e_q4, h⟩ := Option.bind_eq_some_iff.mp h
            obtain ⟨rfl, rfl⟩ := Prod.mk.inj (Option.some.inj h)
            exact Fr.rf
          · replace h := (if_neg hc).symm.trans h
            obtain ⟨q5, e_q5, h⟩ := Option.bind_eq_some_iff.mp h
            obtain ⟨rfl, rfl⟩ := Prod.mk.inj (Option.some.inj h)
            exact Fr.rf
set_option maxRecDepth 100000 in
theorem fr_w_fewest (N : Nat) (x1 : Int32) (x2 : Int32) (x3 : Int32) (x4 : Int32) (M : Mem) (r : Int32) (M' : Mem) (h : f_w_fewest N x1 x2 x3 x4 M = some (r, M')) : Fr [46] M M' := by
  rw [f_w_fewest] at h
  by_cases hc : (f_w_isToCome x1 x2 x3 M) = (0 : Int32)
  · replace h := (if_pos hc).symm.trans h
    obtain ⟨rfl, rfl⟩ := Prod.mk.inj (Option.some.inj h)
    exact Fr.rf
  · replace h := (if_neg hc).symm.trans h
    by_cases hc : (f_w_within x4 (1 : Int32) (100 : Int32) M) = (0 : Int32)
    · replace h := (if_pos hc).symm.trans h
      obtain ⟨rfl, rfl⟩ := Prod.mk.inj (Option.some.inj h)
      exact Fr.rf
    · replace h := (if_neg hc).symm.trans h
      obtain ⟨q1, e_q1, h⟩ := Option.bind_eq_some_iff.mp h
      obtain ⟨q2, e_q2, h⟩ := Option.bind_eq_some_iff.mp h
      refine Fr.tr (Fr.sub (fr_c_startWith q1 M q2 e_q2) (by first | decide | simp)) ?_
      obtain ⟨q3, e_q3, h⟩ := Option.bind_eq_some_iff.mp h
      obtain ⟨q4, e_q4, h⟩ := Option.bind_eq_some_iff.mp h
      obtain ⟨rfl, rfl⟩ := Prod.mk.inj (Option.some.inj h)
      exact Fr.rf
set_option maxRecDepth 100000 in
theorem fr_m_fewest_26 (N : Nat) : ∀ (n : Nat) (x1 : Int32) (x2 : Int32) (x3 : Int32) (x4 : Int32) (x5 : Int32) (M : Mem) (r : Int32) (M' : Mem), f_m_fewest_26 N n x1 x2 x3 x4 x5 M = some (r, M') → Fr [129] M M' := by
  intro n
  induction n with
  | zero =>
    intro x1 x2 x3 x4 x5 M r M' h
    cases h
  | succ n ih =>
    intro x1 x2 x3 x4 x5 M r M' h
    rw [f_m_fewest_26] at h
    by_cases hc : (7 : Int32) ≤ x5
    · replace h := (if_pos hc).symm.trans h
      obtain ⟨rfl, rfl⟩ := Prod.mk.inj (Option.some.inj h)
      exact Fr.rf
    · replace h := (if_neg hc).symm.trans h
      obtain ⟨q1, e_q1, h⟩ := Option.bind_eq_some_iff.mp h
      refine Fr.tr (Fr.sub (fr_m_bestWords N x1 x2 x3 x5 M q1.1 q1.2 e_q1) (by first | decide | simp)) ?_
      obtain ⟨q2, e_q2, h⟩ := Option.bind_eq_some_iff.mp h
      refine Fr.tr (Fr.sub (fr_m_oddsBy N x1 x2 x3 q1.1 q1.2 q2.1 q2.2 e_q2) (by first | decide | simp)) ?_
      obtain ⟨q3, e_q3, h⟩ := Option.bind_eq_some_iff.mp h
      by_cases hc : (lg_cmp ((100 : Int64) * q2.1) (((Int32.toInt64 x4) * (840 : Int64)) * q3)) < (0 : Int32)
      · replace h := (if_pos hc).symm.trans h
        exact ih x1 x2 x3 x4 (x5 + (1 : Int32)) q2.2 _ _ h
      · replace h := (if_neg hc).symm.trans h
        obtain ⟨rfl, rfl⟩ := Prod.mk.inj (Option.some.inj h)
        exact Fr.rf
set_option maxRecDepth 100000 in
theorem fr_m_fewest (N : Nat) (x1 : Int32) (x2 : Int32) (x3 : Int32) (x4 : Int32) (M : Mem) (r : Int32) (M' : Mem) (h : f_m_fewest N x1 x2 x3 x4 M = some (r, M')) : Fr [129] M M' := by
  rw [f_m_fewest] at h
  by_cases hc : (f_m_isToCome x1 x2 x3 M) = (0 : Int32)
  · replace h := (if_pos hc).symm.trans h
    obtain ⟨rfl, rfl⟩ := Prod.mk.inj (Option.some.inj h)
    exact Fr.rf
  · replace h := (if_neg hc).symm.trans h
    by_cases hc : (f_m_isIn x4 (1 : Int32) (100 : Int32) M) = (0 : Int32)
    · replace h := (if_pos hc).symm.trans h
      obtain ⟨rfl, rfl⟩ := Prod.mk.inj (Option.some.inj h)
      exact Fr.rf
    · replace h := (if_neg hc).symm.trans h
      exact fr_m_fewest_26 N N x1 x2 x3 x4 (0 : Int32) M _ _ h
set_option maxRecDepth 100000 in
theorem fr_k_fill1_52_6 (N : Nat) : ∀ (n : Nat) (x1 : Int64) (x3 : Int32) (x4 : Int32) (M : Mem) (M' : Mem), f_k_fill1_52_6 N n x1 x3 x4 M = some M' → Fr [52] M M' := by
  intro n
  induction n with
  | zero =>
    intro x1 x3 x4 M M' h
    cases h
  | succ n ih =>
    intro x1 x3 x4 M M' h
    rw [f_k_fill1_52_6] at h
    by_cases hc : x4 ≤ x3
    · replace h := (if_pos hc).symm.trans h
      obtain rfl := Option.some.inj h
      exact Fr.rf
    · replace h := (if_neg hc).symm.trans h
      obtain ⟨g, h⟩ := am_itg h
      obtain ⟨q1, e_q1, h⟩ := Option.bind_eq_some_iff.mp h
      refine Fr.w_sj e_q1 (by first | decide | simp) ?_
      exact ih x1 (x3 + (1 : Int32)) x4 q1 _ h
set_option maxRecDepth 100000 in
theorem fr_k_fill1_52 (N : Nat) (x1 : Int64) (M : Mem) (M' : Mem) (h : f_k_fill1_52 N x1 M = some M') : Fr [52] M M' := by
  rw [f_k_fill1_52] at h
  exact fr_k_fill1_52_6 N N x1 (0 : Int32) (16 : Int32) M _ h
set_option maxRecDepth 100000 in
theorem fr_c_play_23 (N : Nat) (K17 : Int32 → Mem → Option Mem) (hK17 : ∀ (x2 : Int32) (M : Mem) (M' : Mem), K17 x2 M = some M' → Fr [46, 51, 52] M M') : ∀ (n : Nat) (x2 : Int32) (x3 : Int32) (M : Mem) (M' : Mem), f_c_play_23 N K17 n x2 x3 M = some M' → Fr [46, 51, 52] M M' := by
  intro n
  induction n with
  | zero =>
    intro x2 x3 M M' h
    cases h
  | succ n ih =>
    intro x2 x3 M M' h
    rw [f_c_play_23] at h
    by_cases hc : (16 : Int32) ≤ x3
    · replace h := (if_pos hc).symm.trans h
      obtain ⟨q9, e_q9, h⟩ := Option.bind_eq_some_iff.mp h
      refine Fr.w_sl e_q9 (by first | decide | simp) ?_
      obtain ⟨q10, e_q10, h⟩ := Option.bind_eq_some_iff.mp h
      refine Fr.w_sj e_q10 (by first | decide | simp) ?_
      exact hK17 (x2 + (-1 : Int32)) q10 _ h
    · replace h := (if_neg hc).symm.trans h
      obtain ⟨q11, e_q11, h⟩ := Option.bind_eq_some_iff.mp h
      obtain ⟨g, h⟩ := am_itg h
      obtain ⟨q12, e_q12, h⟩ := Option.bind_eq_some_iff.mp h
      refine Fr.w_sj e_q12 (by first | decide | simp) ?_
      exact ih x2 (x3 + (1 : Int32)) q12 _ h
set_option maxRecDepth 100000 in
theorem fr_c_play_17 (N : Nat) : ∀ (n : Nat) (x2 : Int32) (M : Mem) (M' : Mem), f_c_play_17 N n x2 M = some M' → Fr [46, 51, 52] M M' := by
  intro n
  induction n with
  | zero =>
    intro x2 M M' h
    cases h
  | succ n ih =>
    intro x2 M M' h
    rw [f_c_play_17] at h
    by_cases hc : x2 ≤ (0 : Int32)
    · replace h := (if_pos hc).symm.trans h
      obtain ⟨q3, e_q3, h⟩ := Option.bind_eq_some_iff.mp h
      obtain ⟨q4, e_q4, h⟩ := Option.bind_eq_some_iff.mp h
      by_cases hc : (lg_cmp q4 q3) ≤ (0 : Int32)
      · replace h := (if_pos hc).symm.trans h
        obtain ⟨q5, e_q5, h⟩ := Option.bind_eq_some_iff.mp h
        refine Fr.w_si e_q5 (by first | decide | simp) ?_
        obtain ⟨q6, e_q6, h⟩ := Option.bind_eq_some_iff.mp h
        refine Fr.w_sj e_q6 (by first | decide | simp) ?_
        obtain rfl := Option.some.inj h
        exact Fr.rf
      · replace h := (if_neg hc).symm.trans h
        obtain ⟨q7, e_q7, h⟩ := Option.bind_eq_some_iff.mp h
        refine Fr.w_si e_q7 (by first | decide | simp) ?_
        obtain ⟨q8, e_q8, h⟩ := Option.bind_eq_some_iff.mp h
        refine Fr.w_sj e_q8 (by first | decide | simp) ?_
        obtain rfl := Option.some.inj h
        exact Fr.rf
    · replace h := (if_neg hc).symm.trans h
      exact fr_c_play_23 N _ ih N x2 (0 : Int32) M _ h
set_option maxRecDepth 100000 in
theorem fr_c_play (N : Nat) (x1 : Int32) (M : Mem) (M' : Mem) (h : f_c_play N x1 M = some M') : Fr [46, 51, 52] M M' := by
  rw [f_c_play] at h
  obtain ⟨q1, e_q1, h⟩ := Option.bind_eq_some_iff.mp h
  refine Fr.tr (Fr.sub (fr_k_fill1_52 N (0 : Int64) M q1 e_q1) (by first | decide | simp)) ?_
  obtain ⟨q2, e_q2, h⟩ := Option.bind_eq_some_iff.mp h
  refine Fr.w_sj e_q2 (by first | decide | simp) ?_
  exact fr_c_play_17 N N (x1 - (1 : Int32)) q2 _ h
set_option maxRecDepth 100000 in
theorem fr_w_game (N : Nat) (x1 : Int32) (x2 : Int32) (M : Mem) (r : Int64) (M' : Mem) (h : f_w_game N x1 x2 M = some (r, M')) : Fr [46, 51, 52] M M' := by
  rw [f_w_game] at h
  by_cases hc : (f_w_within x1 (1 : Int32) (5 : Int32) M) = (0 : Int32)
  · replace h := (if_pos hc).symm.trans h
    obtain ⟨rfl, rfl⟩ := Prod.mk.inj (Option.some.inj h)
    exact Fr.rf
  · replace h := (if_neg hc).symm.trans h
    by_cases hc : (f_w_within x2 (0 : Int32) (2 : Int32) M) = (0 : Int32)
    · replace h := (if_pos hc).symm.trans h
      obtain ⟨rfl, rfl⟩ := Prod.mk.inj (Option.some.inj h)
      exact Fr.rf
    · replace h := (if_neg hc).symm.trans h
      obtain ⟨q1, e_q1, h⟩ := Option.bind_eq_some_iff.mp h
      refine Fr.tr (Fr.sub (fr_c_play N x1 M q1 e_q1) (by first | decide | simp)) ?_
      by_cases hc : x2 = (2 : Int32)
      · replace h := (if_pos hc).symm.trans h
        by_cases hc : (gi q1 46 7) = (0 : Int32)
        · replace h := (if_pos hc).symm.trans h
          obtain ⟨rfl, rfl⟩ := Prod.mk.inj (Option.some.inj h)
          exact Fr.rf
        · replace h := (if_neg hc).symm.trans h
          obtain ⟨rfl, rfl⟩ := Prod.mk.inj (Option.some.inj h)
          exact Fr.rf
      · replace h := (if_neg hc).symm.trans h
        obtain ⟨q2, e_q2, h⟩ := Option.bind_eq_some_iff.mp h
        by_cases hc : x2 = (1 : Int32)
        · replace h := (if_pos hc).symm.trans h
          obtain ⟨q3, e_q3, h⟩ := Option.bind_eq_some_iff.mp h
          obtain ⟨rfl, rfl⟩ := Prod.mk.inj (Option.some.inj h)
          exact Fr.rf
        · replace h := (if_neg hc).symm.trans h
          obtain ⟨q4, e_q4, h⟩ := Option.bind_eq_some_iff.mp h
          obtain ⟨rfl, rfl⟩ := Prod.mk.inj (Option.some.inj h)
          exact Fr.rf
set_option maxRecDepth 100000 in
theorem fr_m_game_138 (N : Nat) (K53 : Int32 → Int64 → Int32 → Int32 → Mem → Option (Int64 × Mem)) (hK53 : ∀ (x2 : Int32) (x3 : Int64) (x5 : Int32) (x6 : Int32) (M : Mem) (r : Int64) (M' : Mem), K53 x2 x3 x5 x6 M = some (r, M') → Fr [142, 143] M M') (K61 : Int32 → Int64 → Int32 → Int32 → Int32 → Mem → Option (Int64 × Mem)) (hK61 : ∀ (x2 : Int32) (x3 : Int64) (x5 : Int32) (x6 : Int32) (x7 : Int32) (M : Mem) (r : Int64) (M' : Mem), K61 x2 x3 x5 x6 x7 M = some (r, M') → Fr [142, 143] M M') (x2 : Int32) (x3 : Int64) (x5 : Int32) (x6 : Int32) (x7 : Int32) (x8 : Int64) (x10 : Int64) (s1 : Int32) (s2 : Int64) (M : Mem) (r : Int64) (M' : Mem) (h : f_m_game_138 N K53 K61 x2 x3 x5 x6 x7 x8 x10 s1 s2 M = some (r, M')) : Fr [142, 143] M M' := by
  rw [f_m_game_138] at h
  obtain ⟨g, h⟩ := am_itg h
  obtain ⟨q6, e_q6, h⟩ := Option.bind_eq_some_iff.mp h
  refine Fr.w_sj e_q6 (by first | decide | simp) ?_
  by_cases hc : x7 = (3 : Int32)
  · replace h := (if_pos hc).symm.trans h
    by_cases hc : (lg_cmp x10 x8) ≤ (0 : Int32)
    · replace h := (if_pos hc).symm.trans h
      exact hK61 x2 x3 (0 : Int32) x6 (x7 + (1 : Int32)) q6 _ _ h
    · replace h := (if_neg hc).symm.trans h
      exact hK61 x2 x3 (1 : Int32) x6 (x7 + (1 : Int32)) q6 _ _ h
  · replace h := (if_neg hc).symm.trans h
    exact hK61 x2 x3 x5 x6 (x7 + (1 : Int32)) q6 _ _ h
set_option maxRecDepth 100000 in
theorem fr_m_game_169 (N : Nat) (K53 : Int32 → Int64 → Int32 → Int32 → Mem → Option (Int64 × Mem)) (hK53 : ∀ (x2 : Int32) (x3 : Int64) (x5 : Int32) (x6 : Int32) (M : Mem) (r : Int64) (M' : Mem), K53 x2 x3 x5 x6 M = some (r, M') → Fr [142, 143] M M') : ∀ (n : Nat) (x2 : Int32) (x3 : Int64) (x5 : Int32) (x6 : Int32) (x7 : Int32) (M : Mem) (r : Int64) (M' : Mem), f_m_game_169 N K53 n x2 x3 x5 x6 x7 M = some (r, M') → Fr [142, 143] M M' := by
  intro n
  induction n with
  | zero =>
    intro x2 x3 x5 x6 x7 M r M' h
    cases h
  | succ n ih =>
    intro x2 x3 x5 x6 x7 M r M' h
    rw [f_m_game_169] at h
    by_cases hc : (16 : Int32) ≤ x7
    · replace h := (if_pos hc).symm.trans h
      exact hK53 x2 (x3 * (100 : Int64)) x5 (x6 + (-1 : Int32)) M _ _ h
    · replace h := (if_neg hc).symm.trans h
      obtain ⟨g, h⟩ := am_itg h
      obtain ⟨g, h⟩ := am_itg h
      obtain ⟨q7, e_q7, h⟩ := Option.bind_eq_some_iff.mp h
      refine Fr.w_sj e_q7 (by first | decide | simp) ?_
      exact ih x2 x3 x5 x6 (x7 + (1 : Int32)) q7 _ _ h
set_option maxRecDepth 100000 in
theorem fr_m_game_61 (N : Nat) (K53 : Int32 → Int64 → Int32 → Int32 → Mem → Option (Int64 × Mem)) (hK53 : ∀ (x2 : Int32) (x3 : Int64) (x5 : Int32) (x6 : Int32) (M : Mem) (r : Int64) (M' : Mem), K53 x2 x3 x5 x6 M = some (r, M') → Fr [142, 143] M M') : ∀ (n : Nat) (x2 : Int32) (x3 : Int64) (x5 : Int32) (x6 : Int32) (x7 : Int32) (M : Mem) (r : Int64) (M' : Mem), f_m_game_61 N K53 n x2 x3 x5 x6 x7 M = some (r, M') → Fr [142, 143] M M' := by
  intro n
  induction n with
  | zero =>
    intro x2 x3 x5 x6 x7 M r M' h
    cases h
  | succ n ih =>
    intro x2 x3 x5 x6 x7 M r M' h
    rw [f_m_game_61] at h
    by_cases hc : (16 : Int32) ≤ x7
    · replace h := (if_pos hc).symm.trans h
      exact fr_m_game_169 N K53 hK53 N x2 x3 x5 x6 (0 : Int32) M _ _ h
    · replace h := (if_neg hc).symm.trans h
      obtain ⟨q4, e_q4, h⟩ := Option.bind_eq_some_iff.mp h
      by_cases hc : (x7 &&& (1 : Int32)) = (1 : Int32)
      · replace h := (if_pos hc).symm.trans h
        obtain ⟨q5, e_q5, h⟩ := Option.bind_eq_some_iff.mp h
        by_cases hc : (lg_cmp q5 q4) ≤ (0 : Int32)
        · replace h := (if_pos hc).symm.trans h
          exact fr_m_game_138 N K53 hK53 _ ih x2 x3 x5 x6 x7 q4 q5 x7 q4 M _ _ h
        · replace h := (if_neg hc).symm.trans h
          exact fr_m_game_138 N K53 hK53 _ ih x2 x3 x5 x6 x7 q4 q5 x7 q5 M _ _ h
      · replace h := (if_neg hc).symm.trans h
        by_cases hc : (lg_cmp q4 q4) ≤ (0 : Int32)
        · replace h := (if_pos hc).symm.trans h
          exact fr_m_game_138 N K53 hK53 _ ih x2 x3 x5 x6 x7 q4 q4 x7 q4 M _ _ h
        · replace h := (if_neg hc).symm.trans h
          exact fr_m_game_138 N K53 hK53 _ ih x2 x3 x5 x6 x7 q4 q4 x7 q4 M _ _ h
set_option maxRecDepth 100000 in
theorem fr_m_game_53 (N : Nat) : ∀ (n : Nat) (x2 : Int32) (x3 : Int64) (x5 : Int32) (x6 : Int32) (M : Mem) (r : Int64) (M' : Mem), f_m_game_53 N n x2 x3 x5 x6 M = some (r, M') → Fr [142, 143] M M' := by
  intro n
  induction n with
  | zero =>
    intro x2 x3 x5 x6 M r M' h
    cases h
  | succ n ih =>
    intro x2 x3 x5 x6 M r M' h
    rw [f_m_game_53] at h
    by_cases hc : x6 < (0 : Int32)
    · replace h := (if_pos hc).symm.trans h
      by_cases hc : x2 = (2 : Int32)
      · replace h := (if_pos hc).symm.trans h
        by_cases hc : x5 = (0 : Int32)
        · replace h := (if_pos hc).symm.trans h
          obtain ⟨rfl, rfl⟩ := Prod.mk.inj (Option.some.inj h)
          exact Fr.rf
        · replace h := (if_neg hc).symm.trans h
          obtain ⟨rfl, rfl⟩ := Prod.mk.inj (Option.some.inj h)
          exact Fr.rf
      · replace h := (if_neg hc).symm.trans h
        by_cases hc : x2 = (1 : Int32)
        · replace h := (if_pos hc).symm.trans h
          obtain ⟨q2, e_q2, h⟩ := Option.bind_eq_some_iff.mp h
          obtain ⟨rfl, rfl⟩ := Prod.mk.inj (Option.some.inj h)
          exact Fr.rf
        · replace h := (if_neg hc).symm.trans h
          obtain ⟨q3, e_q3, h⟩ := Option.bind_eq_some_iff.mp h
          obtain ⟨rfl, rfl⟩ := Prod.mk.inj (Option.some.inj h)
          exact Fr.rf
    · replace h := (if_neg hc).symm.trans h
      exact fr_m_game_61 N _ ih N x2 x3 x5 x6 (0 : Int32) M _ _ h
set_option maxRecDepth 100000 in
theorem fr_m_game_24 (N : Nat) : ∀ (n : Nat) (x1 : Int32) (x2 : Int32) (x3 : Int32) (M : Mem) (r : Int64) (M' : Mem), f_m_game_24 N n x1 x2 x3 M = some (r, M') → Fr [142, 143] M M' := by
  intro n
  induction n with
  | zero =>
    intro x1 x2 x3 M r M' h
    cases h
  | succ n ih =>
    intro x1 x2 x3 M r M' h
    rw [f_m_game_24] at h
    by_cases hc : (16 : Int32) ≤ x3
    · replace h := (if_pos hc).symm.trans h
      exact fr_m_game_53 N N x2 (1 : Int64) (0 : Int32) (x1 - (1 : Int32)) M _ _ h
    · replace h := (if_neg hc).symm.trans h
      obtain ⟨g, h⟩ := am_itg h
      obtain ⟨q1, e_q1, h⟩ := Option.bind_eq_some_iff.mp h
      refine Fr.w_sj e_q1 (by first | decide | simp) ?_
      exact ih x1 x2 (x3 + (1 : Int32)) q1 _ _ h
set_option maxRecDepth 100000 in
theorem fr_m_game (N : Nat) (x1 : Int32) (x2 : Int32) (M : Mem) (r : Int64) (M' : Mem) (h : f_m_game N x1 x2 M = some (r, M')) : Fr [142, 143] M M' := by
  rw [f_m_game] at h
  by_cases hc : (f_m_isIn x1 (1 : Int32) (5 : Int32) M) = (0 : Int32)
  · replace h := (if_pos hc).symm.trans h
    obtain ⟨rfl, rfl⟩ := Prod.mk.inj (Option.some.inj h)
    exact Fr.rf
  · replace h := (if_neg hc).symm.trans h
    by_cases hc : (f_m_isIn x2 (0 : Int32) (2 : Int32) M) = (0 : Int32)
    · replace h := (if_pos hc).symm.trans h
      obtain ⟨rfl, rfl⟩ := Prod.mk.inj (Option.some.inj h)
      exact Fr.rf
    · replace h := (if_neg hc).symm.trans h
      exact fr_m_game_24 N N x1 x2 (0 : Int32) M _ _ h
set_option maxRecDepth 100000 in
theorem fr_w_cough (N : Nat) (x1 : Int32) (x2 : Int32) (x3 : Int32) (x4 : Int32) (M : Mem) (r : Int64) (M' : Mem) (h : f_w_cough N x1 x2 x3 x4 M = some (r, M')) : Fr [46] M M' := by
  rw [f_w_cough] at h
  by_cases hc : (f_w_isToCome x1 x2 (0 : Int32) M) = (0 : Int32)
  · replace h := (if_pos hc).symm.trans h
    obtain ⟨rfl, rfl⟩ := Prod.mk.inj (Option.some.inj h)
    exact Fr.rf
  · replace h := (if_neg hc).symm.trans h
    by_cases hc : (f_w_within x3 (0 : Int32) (10 : Int32) M) = (0 : Int32)
    · replace h := (if_pos hc).symm.trans h
      obtain ⟨rfl, rfl⟩ := Prod.mk.inj (Option.some.inj h)
      exact Fr.rf
    · replace h := (if_neg hc).symm.trans h
      obtain ⟨q1, e_q1, h⟩ := Option.bind_eq_some_iff.mp h
      obtain ⟨q2, e_q2, h⟩ := Option.bind_eq_some_iff.mp h
      refine Fr.tr (Fr.sub (fr_c_startWith q1 M q2 e_q2) (by first | decide | simp)) ?_
      obtain ⟨q3, e_q3, h⟩ := Option.bind_eq_some_iff.mp h
      obtain ⟨q4, e_q4, h⟩ := Option.bind_eq_some_iff.mp h
      obtain ⟨q5, e_q5, h⟩ := Option.bind_eq_some_iff.mp h
      obtain ⟨rfl, rfl⟩ := Prod.mk.inj (Option.some.inj h)
      exact Fr.rf
set_option maxRecDepth 100000 in
theorem fr_m_cough_100 (N : Nat) (K36 : Int32 → Int32 → Int32 → Int32 → Int64 → Int64 → Int64 → Int32 → Mem → Option (Int64 × Mem)) (hK36 : ∀ (x1 : Int32) (x2 : Int32) (x3 : Int32) (x4 : Int32) (x5 : Int64) (x7 : Int64) (x9 : Int64) (x11 : Int32) (M : Mem) (r : Int64) (M' : Mem), K36 x1 x2 x3 x4 x5 x7 x9 x11 M = some (r, M') → Fr [129] M M') (x1 : Int32) (x2 : Int32) (x3 : Int32) (x4 : Int32) (x5 : Int64) (x7 : Int64) (x11 : Int32) (x12 : Int64) (x14 : Int64) (s0 : Int64) (M : Mem) (r : Int64) (M' : Mem) (h : f_m_cough_100 N K36 x1 x2 x3 x4 x5 x7 x11 x12 x14 s0 M = some (r, M')) : Fr [129] M M' := by
  rw [f_m_cough_100] at h
  by_cases hc : (lg_cmp (((Int32.toInt64 x3) * x12) + ((Int32.toInt64 ((10 : Int32) - x3)) * x14)) x5) ≤ (0 : Int32)
  · replace h := (if_pos hc).symm.trans h
    exact hK36 x1 x2 x3 x4 x5 x7 s0 (x11 + (1 : Int32)) M _ _ h
  · replace h := (if_neg hc).symm.trans h
    exact hK36 x1 x2 x3 x4 (((Int32.toInt64 x3) * x12) + ((Int32.toInt64 ((10 : Int32) - x3)) * x14)) x7 s0 (x11 + (1 : Int32)) M _ _ h
set_option maxRecDepth 100000 in
theorem fr_m_cough_36 (N : Nat) : ∀ (n : Nat) (x1 : Int32) (x2 : Int32) (x3 : Int32) (x4 : Int32) (x5 : Int64) (x7 : Int64) (x9 : Int64) (x11 : Int32) (M : Mem) (r : Int64) (M' : Mem), f_m_cough_36 N n x1 x2 x3 x4 x5 x7 x9 x11 M = some (r, M') → Fr [129] M M' := by
  intro n
  induction n with
  | zero =>
    intro x1 x2 x3 x4 x5 x7 x9 x11 M r M' h
    cases h
  | succ n ih =>
    intro x1 x2 x3 x4 x5 x7 x9 x11 M r M' h
    rw [f_m_cough_36] at h
    by_cases hc : x2 ≤ x11
    · replace h := (if_pos hc).symm.trans h
      obtain ⟨q1, e_q1, h⟩ := Option.bind_eq_some_iff.mp h
      obtain ⟨q2, e_q2, h⟩ := Option.bind_eq_some_iff.mp h
      obtain ⟨rfl, rfl⟩ := Prod.mk.inj (Option.some.inj h)
      exact Fr.rf
    · replace h := (if_neg hc).symm.trans h
      obtain ⟨q3, e_q3, h⟩ := Option.bind_eq_some_iff.mp h
      refine Fr.tr (Fr.sub (fr_m_oddsBy N x1 x2 (0 : Int32) ((1 : Int32) <<< (x11 &&& 31)) M q3.1 q3.2 e_q3) (by first | decide | simp)) ?_
      obtain ⟨q4, e_q4, h⟩ := Option.bind_eq_some_iff.mp h
      refine Fr.tr (Fr.sub (fr_m_oddsBy N x1 x2 (1 : Int32) ((1 : Int32) <<< (x11 &&& 31)) q3.2 q4.1 q4.2 e_q4) (by first | decide | simp)) ?_
      by_cases hc : (lg_cmp q3.1 x7) ≤ (0 : Int32)
      · replace h := (if_pos hc).symm.trans h
        by_cases hc : (lg_cmp q4.1 x9) ≤ (0 : Int32)
        · replace h := (if_pos hc).symm.trans h
          exact fr_m_cough_100 N _ ih x1 x2 x3 x4 x5 x7 x11 q3.1 q4.1 x9 q4.2 _ _ h
        · replace h := (if_neg hc).symm.trans h
          exact fr_m_cough_100 N _ ih x1 x2 x3 x4 x5 x7 x11 q3.1 q4.1 q4.1 q4.2 _ _ h
      · replace h := (if_neg hc).symm.trans h
        by_cases hc : (lg_cmp q4.1 x9) ≤ (0 : Int32)
        · replace h := (if_pos hc).symm.trans h
          exact fr_m_cough_100 N _ ih x1 x2 x3 x4 x5 q3.1 x11 q3.1 q4.1 x9 q4.2 _ _ h
        · replace h := (if_neg hc).symm.trans h
          exact fr_m_cough_100 N _ ih x1 x2 x3 x4 x5 q3.1 x11 q3.1 q4.1 q4.1 q4.2 _ _ h
set_option maxRecDepth 100000 in
theorem fr_m_cough (N : Nat) (x1 : Int32) (x2 : Int32) (x3 : Int32) (x4 : Int32) (M : Mem) (r : Int64) (M' : Mem) (h : f_m_cough N x1 x2 x3 x4 M = some (r, M')) : Fr [129] M M' := by
  rw [f_m_cough] at h
  by_cases hc : (f_m_isToCome x1 x2 (0 : Int32) M) = (0 : Int32)
  · replace h := (if_pos hc).symm.trans h
    obtain ⟨rfl, rfl⟩ := Prod.mk.inj (Option.some.inj h)
    exact Fr.rf
  · replace h := (if_neg hc).symm.trans h
    by_cases hc : (f_m_isIn x3 (0 : Int32) (10 : Int32) M) = (0 : Int32)
    · replace h := (if_pos hc).symm.trans h
      obtain ⟨rfl, rfl⟩ := Prod.mk.inj (Option.some.inj h)
      exact Fr.rf
    · replace h := (if_neg hc).symm.trans h
      exact fr_m_cough_36 N N x1 x2 x3 x4 (0 : Int64) (0 : Int64) (0 : Int64) (0 : Int32) M _ _ h
set_option maxRecDepth 100000 in
theorem fr_g_copyFrom_54_7 (M : Mem) (M' : Mem) (h : f_g_copyFrom_54_7 M = some M') : Fr [54, 55, 56, 57] M M' := by
  rw [f_g_copyFrom_54_7] at h
  obtain ⟨q1, e_q1, h⟩ := Option.bind_eq_some_iff.mp h
  refine Fr.w_sr e_q1 (by first | decide | simp) ?_
  obtain ⟨q2, e_q2, h⟩ := Option.bind_eq_some_iff.mp h
  refine Fr.w_sr e_q2 (by first | decide | simp) ?_
  obtain ⟨q3, e_q3, h⟩ := Option.bind_eq_some_iff.mp h
  refine Fr.w_sr e_q3 (by first | decide | simp) ?_
  obtain ⟨q4, e_q4, h⟩ := Option.bind_eq_some_iff.mp h
  refine Fr.w_si e_q4 (by first | decide | simp) ?_
  obtain rfl := Option.some.inj h
  exact Fr.rf
set_option maxRecDepth 100000 in
theorem fr_e_copyFrom_58_12 (M : Mem) (M' : Mem) (h : f_e_copyFrom_58_12 M = some M') : Fr [59] M M' := by
  rw [f_e_copyFrom_58_12] at h
  obtain ⟨q1, e_q1, h⟩ := Option.bind_eq_some_iff.mp h
  refine Fr.w_sr e_q1 (by first | decide | simp) ?_
  obtain rfl := Option.some.inj h
  exact Fr.rf
set_option maxRecDepth 100000 in
theorem fr_c_copyFrom_93_46 (M : Mem) (M' : Mem) (h : f_c_copyFrom_93_46 M = some M') : Fr [95, 96, 97] M M' := by
  rw [f_c_copyFrom_93_46] at h
  obtain ⟨q1, e_q1, h⟩ := Option.bind_eq_some_iff.mp h
  refine Fr.w_sr e_q1 (by first | decide | simp) ?_
  obtain ⟨q2, e_q2, h⟩ := Option.bind_eq_some_iff.mp h
  refine Fr.w_sr e_q2 (by first | decide | simp) ?_
  obtain ⟨q3, e_q3, h⟩ := Option.bind_eq_some_iff.mp h
  refine Fr.w_sr e_q3 (by first | decide | simp) ?_
  obtain rfl := Option.some.inj h
  exact Fr.rf
set_option maxRecDepth 100000 in
theorem fr_t_copyFrom_53_6 (N : Nat) (M : Mem) (M' : Mem) (h : f_t_copyFrom_53_6 N M = some M') : Fr [53, 54, 55, 56, 57, 59, 61, 63, 64, 65, 66, 67, 68, 69, 70, 71, 72, 73, 74, 75, 76, 77, 78, 79, 80, 81, 82, 83, 84, 85, 86, 87, 88, 89, 90, 91, 92, 95, 96, 97] M M' := by
  rw [f_t_copyFrom_53_6] at h
  obtain ⟨q1, e_q1, h⟩ := Option.bind_eq_some_iff.mp h
  refine Fr.tr (Fr.sub (fr_g_copyFrom_54_7 M q1 e_q1) (by first | decide | simp)) ?_
  obtain ⟨q2, e_q2, h⟩ := Option.bind_eq_some_iff.mp h
  refine Fr.tr (Fr.sub (fr_e_copyFrom_58_12 q1 q2 e_q2) (by first | decide | simp)) ?_
  obtain ⟨q3, e_q3, h⟩ := Option.bind_eq_some_iff.mp h
  refine Fr.tr (Fr.sub (fr_s_copyFrom_61_14 N q2 q3 e_q3) (by first | decide | simp)) ?_
  obtain ⟨q4, e_q4, h⟩ := Option.bind_eq_some_iff.mp h
  refine Fr.tr (Fr.sub (fr_c_copyFrom_93_46 q3 q4 e_q4) (by first | decide | simp)) ?_
  obtain ⟨q5, e_q5, h⟩ := Option.bind_eq_some_iff.mp h
  refine Fr.w_si e_q5 (by first | decide | simp) ?_
  obtain ⟨q6, e_q6, h⟩ := Option.bind_eq_some_iff.mp h
  refine Fr.w_si e_q6 (by first | decide | simp) ?_
  obtain rfl := Option.some.inj h
  exact Fr.rf
set_option maxRecDepth 100000 in
theorem fr_w_image (N : Nat) (M : Mem) (r : Int32) (M' : Mem) (h : f_w_image N M = some (r, M')) : Fr [53, 54, 55, 56, 57, 59, 61, 63, 64, 65, 66, 67, 68, 69, 70, 71, 72, 73, 74, 75, 76, 77, 78, 79, 80, 81, 82, 83, 84, 85, 86, 87, 88, 89, 90, 91, 92, 95, 96, 97] M M' := by
  rw [f_w_image] at h
  obtain ⟨q1, e_q1, h⟩ := Option.bind_eq_some_iff.mp h
  refine Fr.tr (Fr.sub (fr_t_copyFrom_53_6 N M q1 e_q1) (by first | decide | simp)) ?_
  obtain ⟨rfl, rfl⟩ := Prod.mk.inj (Option.some.inj h)
  exact Fr.rf
set_option maxRecDepth 100000 in
theorem fr_m_copy_130_131_2 (N : Nat) : ∀ (n : Nat) (x2 : Int32) (M : Mem) (M' : Mem), f_m_copy_130_131_2 N n x2 M = some M' → Fr [131] M M' := by
  intro n
  induction n with
  | zero =>
    intro x2 M M' h
    cases h
  | succ n ih =>
    intro x2 M M' h
    rw [f_m_copy_130_131_2] at h
    by_cases hc : (3826 : Int32) ≤ x2
    · replace h := (if_pos hc).symm.trans h
      obtain rfl := Option.some.inj h
      exact Fr.rf
    · replace h := (if_neg hc).symm.trans h
      obtain ⟨g, h⟩ := am_itg h
      obtain ⟨g, h⟩ := am_itg h
      obtain ⟨q1, e_q1, h⟩ := Option.bind_eq_some_iff.mp h
      refine Fr.w_si e_q1 (by first | decide | simp) ?_
      exact ih (x2 + (1 : Int32)) q1 _ h
set_option maxRecDepth 100000 in
theorem fr_m_copy_130_131 (N : Nat) (M : Mem) (M' : Mem) (h : f_m_copy_130_131 N M = some M') : Fr [131] M M' := by
  rw [f_m_copy_130_131] at h
  exact fr_m_copy_130_131_2 N N (0 : Int32) M _ h
set_option maxRecDepth 100000 in
theorem fr_m_image (N : Nat) (M : Mem) (r : Int32) (M' : Mem) (h : f_m_image N M = some (r, M')) : Fr [131] M M' := by
  rw [f_m_image] at h
  obtain ⟨q1, e_q1, h⟩ := Option.bind_eq_some_iff.mp h
  refine Fr.tr (Fr.sub (fr_m_copy_130_131 N M q1 e_q1) (by first | decide | simp)) ?_
  obtain ⟨rfl, rfl⟩ := Prod.mk.inj (Option.some.inj h)
  exact Fr.rf
set_option maxRecDepth 100000 in
theorem fr_g_copyFrom_7_54 (M : Mem) (M' : Mem) (h : f_g_copyFrom_7_54 M = some M') : Fr [7, 8, 9, 10] M M' := by
  rw [f_g_copyFrom_7_54] at h
  obtain ⟨q1, e_q1, h⟩ := Option.bind_eq_some_iff.mp h
  refine Fr.w_sr e_q1 (by first | decide | simp) ?_
  obtain ⟨q2, e_q2, h⟩ := Option.bind_eq_some_iff.mp h
  refine Fr.w_sr e_q2 (by first | decide | simp) ?_
  obtain ⟨q3, e_q3, h⟩ := Option.bind_eq_some_iff.mp h
  refine Fr.w_sr e_q3 (by first | decide | simp) ?_
  obtain ⟨q4, e_q4, h⟩ := Option.bind_eq_some_iff.mp h
  refine Fr.w_si e_q4 (by first | decide | simp) ?_
  obtain rfl := Option.some.inj h
  exact Fr.rf
set_option maxRecDepth 100000 in
theorem fr_e_copyFrom_11_59 (M : Mem) (M' : Mem) (h : f_e_copyFrom_11_59 M = some M') : Fr [12] M M' := by
  rw [f_e_copyFrom_11_59] at h
  obtain ⟨q1, e_q1, h⟩ := Option.bind_eq_some_iff.mp h
  refine Fr.w_sr e_q1 (by first | decide | simp) ?_
  obtain rfl := Option.some.inj h
  exact Fr.rf
set_option maxRecDepth 100000 in
theorem fr_c_copyFrom_46_93 (M : Mem) (M' : Mem) (h : f_c_copyFrom_46_93 M = some M') : Fr [48, 49, 50] M M' := by
  rw [f_c_copyFrom_46_93] at h
  obtain ⟨q1, e_q1, h⟩ := Option.bind_eq_some_iff.mp h
  refine Fr.w_sr e_q1 (by first | decide | simp) ?_
  obtain ⟨q2, e_q2, h⟩ := Option.bind_eq_some_iff.mp h
  refine Fr.w_sr e_q2 (by first | decide | simp) ?_
  obtain ⟨q3, e_q3, h⟩ := Option.bind_eq_some_iff.mp h
  refine Fr.w_sr e_q3 (by first | decide | simp) ?_
  obtain rfl := Option.some.inj h
  exact Fr.rf
set_option maxRecDepth 100000 in
theorem fr_t_copyFrom_6_53 (N : Nat) (M : Mem) (M' : Mem) (h : f_t_copyFrom_6_53 N M = some M') : Fr [6, 7, 8, 9, 10, 12, 14, 16, 17, 18, 19, 20, 21, 22, 23, 24, 25, 26, 27, 28, 29, 30, 31, 32, 33, 34, 35, 36, 37, 38, 39, 40, 41, 42, 43, 44, 45, 48, 49, 50] M M' := by
  rw [f_t_copyFrom_6_53] at h
  obtain ⟨q1, e_q1, h⟩ := Option.bind_eq_some_iff.mp h
  refine Fr.tr (Fr.sub (fr_g_copyFrom_7_54 M q1 e_q1) (by first | decide | simp)) ?_
  obtain ⟨q2, e_q2, h⟩ := Option.bind_eq_some_iff.mp h
  refine Fr.tr (Fr.sub (fr_e_copyFrom_11_59 q1 q2 e_q2) (by first | decide | simp)) ?_
  obtain ⟨q3, e_q3, h⟩ := Option.bind_eq_some_iff.mp h
  refine Fr.tr (Fr.sub (fr_s_copyFrom_14_61 N q2 q3 e_q3) (by first | decide | simp)) ?_
  obtain ⟨q4, e_q4, h⟩ := Option.bind_eq_some_iff.mp h
  refine Fr.tr (Fr.sub (fr_c_copyFrom_46_93 q3 q4 e_q4) (by first | decide | simp)) ?_
  obtain ⟨q5, e_q5, h⟩ := Option.bind_eq_some_iff.mp h
  refine Fr.w_si e_q5 (by first | decide | simp) ?_
  obtain ⟨q6, e_q6, h⟩ := Option.bind_eq_some_iff.mp h
  refine Fr.w_si e_q6 (by first | decide | simp) ?_
  obtain rfl := Option.some.inj h
  exact Fr.rf
set_option maxRecDepth 100000 in
theorem fr_w_back (N : Nat) (M : Mem) (r : Int32) (M' : Mem) (h : f_w_back N M = some (r, M')) : Fr [6, 7, 8, 9, 10, 12, 14, 16, 17, 18, 19, 20, 21, 22, 23, 24, 25, 26, 27, 28, 29, 30, 31, 32, 33, 34, 35, 36, 37, 38, 39, 40, 41, 42, 43, 44, 45, 48, 49, 50] M M' := by
  rw [f_w_back] at h
  obtain ⟨q1, e_q1, h⟩ := Option.bind_eq_some_iff.mp h
  refine Fr.tr (Fr.sub (fr_t_copyFrom_6_53 N M q1 e_q1) (by first | decide | simp)) ?_
  obtain ⟨rfl, rfl⟩ := Prod.mk.inj (Option.some.inj h)
  exact Fr.rf
set_option maxRecDepth 100000 in
theorem fr_m_copy_131_130_2 (N : Nat) : ∀ (n : Nat) (x2 : Int32) (M : Mem) (M' : Mem), f_m_copy_131_130_2 N n x2 M = some M' → Fr [130] M M' := by
  intro n
  induction n with
  | zero =>
    intro x2 M M' h
    cases h
  | succ n ih =>
    intro x2 M M' h
    rw [f_m_copy_131_130_2] at h
    by_cases hc : (3826 : Int32) ≤ x2
    · replace h := (if_pos hc).symm.trans h
      obtain rfl := Option.some.inj h
      exact Fr.rf
    · replace h := (if_neg hc).symm.trans h
      obtain ⟨g, h⟩ := am_itg h
      obtain ⟨g, h⟩ := am_itg h
      obtain ⟨q1, e_q1, h⟩ := Option.bind_eq_some_iff.mp h
      refine Fr.w_si e_q1 (by first | decide | simp) ?_
      exact ih (x2 + (1 : Int32)) q1 _ h
set_option maxRecDepth 100000 in
theorem fr_m_copy_131_130 (N : Nat) (M : Mem) (M' : Mem) (h : f_m_copy_131_130 N M = some M') : Fr [130] M M' := by
  rw [f_m_copy_131_130] at h
  exact fr_m_copy_131_130_2 N N (0 : Int32) M _ h
set_option maxRecDepth 100000 in
theorem fr_m_back (N : Nat) (M : Mem) (r : Int32) (M' : Mem) (h : f_m_back N M = some (r, M')) : Fr [130] M M' := by
  rw [f_m_back] at h
  obtain ⟨q1, e_q1, h⟩ := Option.bind_eq_some_iff.mp h
  refine Fr.tr (Fr.sub (fr_m_copy_131_130 N M q1 e_q1) (by first | decide | simp)) ?_
  obtain ⟨rfl, rfl⟩ := Prod.mk.inj (Option.some.inj h)
  exact Fr.rf
