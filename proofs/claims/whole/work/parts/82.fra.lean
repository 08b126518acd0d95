/-! Frames: which cells a function may change. -/
def Fr (W : List Nat) (M M' : Mem) : Prop := ∀ k, k ∉ W → M'.1 k = M.1 k ∧ M'.2 k = M.2 k
theorem Fr.rf {W : List Nat} {M : Mem} : Fr W M M := fun _ _ => ⟨rfl, rfl⟩
theorem Fr.tr {W : List Nat} {M M1 M2 : Mem} (h : Fr W M M1) (g : Fr W M1 M2) : Fr W M M2 := fun k hk => ⟨(g k hk).1.trans (h k hk).1, (g k hk).2.trans (h k hk).2⟩
theorem Fr.sub {V W : List Nat} {M M' : Mem} (h : Fr V M M') (s : ∀ k ∈ V, k ∈ W) : Fr W M M' := fun k hk => h k (fun q => hk (s k q))
theorem Fr.w_si {W : List Nat} {M q M' : Mem} {k i : Nat} {v : Int32} (e : some (si M k i v) = some q) (hk : k ∈ W) (g : Fr W q M') : Fr W M M' := by
  cases e
  refine Fr.tr (M1 := si M k i v) (fun j hj => ⟨?_, rfl⟩) g
  show (if j = k then _ else _) = _
  rw [if_neg (fun q : j = k => hj (q ▸ hk))]
theorem Fr.w_sj {W : List Nat} {M q M' : Mem} {k i : Nat} {v : Int64} (e : some (sj M k i v) = some q) (hk : k ∈ W) (g : Fr W q M') : Fr W M M' := by
  cases e
  refine Fr.tr (M1 := sj M k i v) (fun j hj => ⟨rfl, ?_⟩) g
  show (if j = k then _ else _) = _
  rw [if_neg (fun q : j = k => hj (q ▸ hk))]
theorem Fr.w_sr {W : List Nat} {M q M' : Mem} {k : Nat} {f : Nat → Int32} (e : some (sr M k f) = some q) (hk : k ∈ W) (g : Fr W q M') : Fr W M M' := by
  cases e
  refine Fr.tr (M1 := sr M k f) (fun j hj => ⟨?_, rfl⟩) g
  show (if j = k then _ else _) = _
  rw [if_neg (fun q : j = k => hj (q ▸ hk))]
theorem Fr.w_sl {W : List Nat} {M q M' : Mem} {k : Nat} {f : Nat → Int64} (e : some (sl M k f) = some q) (hk : k ∈ W) (g : Fr W q M') : Fr W M M' := by
  cases e
  refine Fr.tr (M1 := sl M k f) (fun j hj => ⟨rfl, ?_⟩) g
  show (if j = k then _ else _) = _
  rw [if_neg (fun q : j = k => hj (q ▸ hk))]
theorem fr_s_keep (M M' : Mem) (h : f_s_keep M = some M') : Fr [14, 16, 17, 18, 19, 20, 21, 22, 23, 24, 25, 26, 27, 28, 29, 30, 31, 32, 33, 34, 35, 36, 37, 38, 39, 40, 41, 42, 43, 44, 45] M M' := by
  unfold f_s_keep at h
  obtain ⟨q1, e1, h⟩ := Option.bind_eq_some_iff.mp h
  obtain ⟨g, h⟩ := am_itg h
  obtain ⟨q2, e2, h⟩ := Option.bind_eq_some_iff.mp h
  obtain rfl := Option.some.inj h
  intro k hk
  have hq : q1.toNatClampNeg < 30 := am_in_lt g
  have n1 : k ≠ 14 := fun e => hk (by rw [e]; decide)
  have n2 : k ≠ 16 + q1.toNatClampNeg := fun e => hk (by rw [e]; exact (by decide : ∀ c, c < 30 → 16 + c ∈ [14, 16, 17, 18, 19, 20, 21, 22, 23, 24, 25, 26, 27, 28, 29, 30, 31, 32, 33, 34, 35, 36, 37, 38, 39, 40, 41, 42, 43, 44, 45]) _ hq)
  refine ⟨?_, rfl⟩
  show (if k = 14 then _ else if k = 14 then _ else if k = 16 + _ then _ else M.1 k) = M.1 k
  rw [if_neg n1, if_neg n1, if_neg n2]
theorem fr_s_takeBack (M : Mem) (r : Int32) (M' : Mem) (h : f_s_takeBack M = some (r, M')) : Fr [12, 14] M M' := by
  unfold f_s_takeBack at h
  by_cases hc : (0 : Int32) < gi M 14 2
  · rw [if_pos hc] at h
    obtain ⟨q1, e1, h⟩ := Option.bind_eq_some_iff.mp h
    obtain ⟨g, h⟩ := am_itg h
    obtain ⟨rfl, rfl⟩ := Prod.mk.inj (Option.some.inj h)
    intro k hk
    have n1 : k ≠ 14 := fun e => hk (by rw [e]; decide)
    have n2 : k ≠ 12 := fun e => hk (by rw [e]; decide)
    refine ⟨?_, rfl⟩
    show (if k = 14 then _ else if k = 12 then _ else if k = 14 then _ else M.1 k) = M.1 k
    rw [if_neg n1, if_neg n2, if_neg n1]
  · rw [if_neg hc] at h
    obtain ⟨rfl, rfl⟩ := Prod.mk.inj (Option.some.inj h)
    exact Fr.rf
theorem f_s_rows_out (M : Mem) (src dst : Nat) : ∀ (n k : Nat), (∀ j, j < n → k ≠ dst + j) → (f_s_rows M src dst n).1 k = M.1 k
  | 0, _, _ => rfl
  | n + 1, k, h => by
    show (if k = dst + n then _ else _) = _
    rw [if_neg (h n (by omega))]
    exact f_s_rows_out M src dst n k (fun j hj => h j (by omega))
theorem f_s_rows_2 (M : Mem) (src dst : Nat) : ∀ n : Nat, (f_s_rows M src dst n).2 = M.2
  | 0 => rfl
  | n + 1 => f_s_rows_2 M src dst n
theorem fr_s_copyFrom_14_61 (N : Nat) (M M' : Mem) (h : f_s_copyFrom_14_61 N M = some M') : Fr [14, 16, 17, 18, 19, 20, 21, 22, 23, 24, 25, 26, 27, 28, 29, 30, 31, 32, 33, 34, 35, 36, 37, 38, 39, 40, 41, 42, 43, 44, 45] M M' := by
  unfold f_s_copyFrom_14_61 at h
  obtain rfl := Option.some.inj h
  intro k hk
  have n1 : k ≠ 14 := fun e => hk (by rw [e]; decide)
  have n2 : ∀ j, j < 30 → k ≠ 16 + j := fun j hj e => hk (by rw [e]; exact (by decide : ∀ c, c < 30 → 16 + c ∈ [14, 16, 17, 18, 19, 20, 21, 22, 23, 24, 25, 26, 27, 28, 29, 30, 31, 32, 33, 34, 35, 36, 37, 38, 39, 40, 41, 42, 43, 44, 45]) _ hj)
  refine ⟨?_, congrFun (f_s_rows_2 M 63 16 30) k⟩
  show (if k = 14 then _ else if k = 14 then _ else (f_s_rows M 63 16 30).1 k) = M.1 k
  rw [if_neg n1, if_neg n1, f_s_rows_out M 63 16 30 k n2]
theorem fr_s_copyFrom_61_14 (N : Nat) (M M' : Mem) (h : f_s_copyFrom_61_14 N M = some M') : Fr [61, 63, 64, 65, 66, 67, 68, 69, 70, 71, 72, 73, 74, 75, 76, 77, 78, 79, 80, 81, 82, 83, 84, 85, 86, 87, 88, 89, 90, 91, 92] M M' := by
  unfold f_s_copyFrom_61_14 at h
  obtain rfl := Option.some.inj h
  intro k hk
  have n1 : k ≠ 61 := fun e => hk (by rw [e]; decide)
  have n2 : ∀ j, j < 30 → k ≠ 63 + j := fun j hj e => hk (by rw [e]; exact (by decide : ∀ c, c < 30 → 63 + c ∈ [61, 63, 64, 65, 66, 67, 68, 69, 70, 71, 72, 73, 74, 75, 76, 77, 78, 79, 80, 81, 82, 83, 84, 85, 86, 87, 88, 89, 90, 91, 92]) _ hj)
  refine ⟨?_, congrFun (f_s_rows_2 M 16 63 30) k⟩
  show (if k = 61 then _ else if k = 61 then _ else (f_s_rows M 16 63 30).1 k) = M.1 k
  rw [if_neg n1, if_neg n1, f_s_rows_out M 16 63 30 k n2]
set_option maxRecDepth 100000 in
theorem fr_g_add (x1 : Int32) (x2 : Int32) (x3 : Int32) (M : Mem) (r : Int32) (M' : Mem) (h : f_g_add x1 x2 x3 M = some (r, M')) : Fr [7, 8, 9, 10] M M' := by
  rw [f_g_add] at h
  by_cases hc : (f_w_within (gi M 7 3) (0 : Int32) (7 : Int32) M) = (0 : Int32)
  · replace h := (if_pos hc).symm.trans h
    obtain ⟨rfl, rfl⟩ := Prod.mk.inj (Option.some.inj h)
    exact Fr.rf
  · replace h := (if_neg hc).symm.trans h
    obtain ⟨g, h⟩ := am_itg h
    obtain ⟨q1, e_q1, h⟩ := Option.bind_eq_some_iff.mp h
    refine Fr.w_si e_q1 (by first | decide | simp) ?_
    obtain ⟨g, h⟩ := am_itg h
    obtain ⟨q2, e_q2, h⟩ := Option.bind_eq_some_iff.mp h
    refine Fr.w_si e_q2 (by first | decide | simp) ?_
    obtain ⟨g, h⟩ := am_itg h
    obtain ⟨q3, e_q3, h⟩ := Option.bind_eq_some_iff.mp h
    refine Fr.w_si e_q3 (by first | decide | simp) ?_
    obtain ⟨q4, e_q4, h⟩ := Option.bind_eq_some_iff.mp h
    refine Fr.w_si e_q4 (by first | decide | simp) ?_
    obtain ⟨rfl, rfl⟩ := Prod.mk.inj (Option.some.inj h)
    exact Fr.rf
set_option maxRecDepth 100000 in
theorem fr_w_guest (x1 : Int32) (x2 : Int32) (x3 : Int32) (M : Mem) (r : Int32) (M' : Mem) (h : f_w_guest x1 x2 x3 M = some (r, M')) : Fr [7, 8, 9, 10] M M' := by
  rw [f_w_guest] at h
  by_cases hc : (f_w_within x1 (0 : Int32) (9 : Int32) M) = (0 : Int32)
  · replace h := (if_pos hc).symm.trans h
    obtain ⟨rfl, rfl⟩ := Prod.mk.inj (Option.some.inj h)
    exact Fr.rf
  · replace h := (if_neg hc).symm.trans h
    by_cases hc : (f_w_within x2 (0 : Int32) (9 : Int32) M) = (0 : Int32)
    · replace h := (if_pos hc).symm.trans h
      obtain ⟨rfl, rfl⟩ := Prod.mk.inj (Option.some.inj h)
      exact Fr.rf
    · replace h := (if_neg hc).symm.trans h
      by_cases hc : (f_w_within x3 (-1 : Int32) (99 : Int32) M) = (0 : Int32)
      · replace h := (if_pos hc).symm.trans h
        obtain ⟨rfl, rfl⟩ := Prod.mk.inj (Option.some.inj h)
        exact Fr.rf
      · replace h := (if_neg hc).symm.trans h
        obtain ⟨q1, e_q1, h⟩ := Option.bind_eq_some_iff.mp h
        refine Fr.tr (Fr.sub (fr_g_add x1 x2 x3 M q1.1 q1.2 e_q1) (by first | decide | simp)) ?_
        obtain ⟨rfl, rfl⟩ := Prod.mk.inj (Option.some.inj h)
        exact Fr.rf
set_option maxRecDepth 100000 in
theorem fr_m_set (x1 : Int32) (x2 : Int32) (x3 : Int32) (M : Mem) (M' : Mem) (h : f_m_set x1 x2 x3 M = some M') : Fr [130] M M' := by
  rw [f_m_set] at h
  obtain ⟨g, h⟩ := am_itg h
  obtain ⟨q1, e_q1, h⟩ := Option.bind_eq_some_iff.mp h
  refine Fr.w_si e_q1 (by first | decide | simp) ?_
  obtain rfl := Option.some.inj h
  exact Fr.rf
set_option maxRecDepth 100000 in
theorem fr_m_sit (x1 : Int32) (M : Mem) (M' : Mem) (h : f_m_sit x1 M = some M') : Fr [130] M M' := by
  rw [f_m_sit] at h
  obtain ⟨q1, e_q1, h⟩ := Option.bind_eq_some_iff.mp h
  refine Fr.tr (Fr.sub (fr_m_set x1 (3 : Int32) (1 : Int32) M q1 e_q1) (by first | decide | simp)) ?_
  obtain ⟨q2, e_q2, h⟩ := Option.bind_eq_some_iff.mp h
  refine Fr.tr (Fr.sub (fr_m_set x1 (4 : Int32) (0 : Int32) q1 q2 e_q2) (by first | decide | simp)) ?_
  obtain ⟨q3, e_q3, h⟩ := Option.bind_eq_some_iff.mp h
  refine Fr.tr (Fr.sub (fr_m_set x1 (5 : Int32) (0 : Int32) q2 q3 e_q3) (by first | decide | simp)) ?_
  obtain ⟨q4, e_q4, h⟩ := Option.bind_eq_some_iff.mp h
  refine Fr.tr (Fr.sub (fr_m_set x1 (6 : Int32) (-1 : Int32) q3 q4 e_q4) (by first | decide | simp)) ?_
  obtain rfl := Option.some.inj h
  exact Fr.rf
set_option maxRecDepth 100000 in
theorem fr_m_guest (x1 : Int32) (x2 : Int32) (x3 : Int32) (M : Mem) (r : Int32) (M' : Mem) (h : f_m_guest x1 x2 x3 M = some (r, M')) : Fr [130] M M' := by
  rw [f_m_guest] at h
  by_cases hc : (f_m_isIn x1 (0 : Int32) (9 : Int32) M) = (0 : Int32)
  · replace h := (if_pos hc).symm.trans h
    obtain ⟨rfl, rfl⟩ := Prod.mk.inj (Option.some.inj h)
    exact Fr.rf
  · replace h := (if_neg hc).symm.trans h
    by_cases hc : (f_m_isIn x2 (0 : Int32) (9 : Int32) M) = (0 : Int32)
    · replace h := (if_pos hc).symm.trans h
      obtain ⟨rfl, rfl⟩ := Prod.mk.inj (Option.some.inj h)
      exact Fr.rf
    · replace h := (if_neg hc).symm.trans h
      by_cases hc : (f_m_isIn x3 (-1 : Int32) (99 : Int32) M) = (0 : Int32)
      · replace h := (if_pos hc).symm.trans h
        obtain ⟨rfl, rfl⟩ := Prod.mk.inj (Option.some.inj h)
        exact Fr.rf
      · replace h := (if_neg hc).symm.trans h
        by_cases hc : (gi M 130 0) = (8 : Int32)
        · replace h := (if_pos hc).symm.trans h
          obtain ⟨rfl, rfl⟩ := Prod.mk.inj (Option.some.inj h)
          exact Fr.rf
        · replace h := (if_neg hc).symm.trans h
          obtain ⟨q1, e_q1, h⟩ := Option.bind_eq_some_iff.mp h
          refine Fr.tr (Fr.sub (fr_m_set (gi M 130 0) (0 : Int32) x1 M q1 e_q1) (by first | decide | simp)) ?_
          obtain ⟨q2, e_q2, h⟩ := Option.bind_eq_some_iff.mp h
          refine Fr.tr (Fr.sub (fr_m_set (gi M 130 0) (1 : Int32) x2 q1 q2 e_q2) (by first | decide | simp)) ?_
          obtain ⟨q3, e_q3, h⟩ := Option.bind_eq_some_iff.mp h
          refine Fr.tr (Fr.sub (fr_m_set (gi M 130 0) (2 : Int32) x3 q2 q3 e_q3) (by first | decide | simp)) ?_
          obtain ⟨q4, e_q4, h⟩ := Option.bind_eq_some_iff.mp h
          refine Fr.tr (Fr.sub (fr_m_sit (gi M 130 0) q3 q4 e_q4) (by first | decide | simp)) ?_
          obtain ⟨q5, e_q5, h⟩ := Option.bind_eq_some_iff.mp h
          refine Fr.w_si e_q5 (by first | decide | simp) ?_
          obtain ⟨rfl, rfl⟩ := Prod.mk.inj (Option.some.inj h)
          exact Fr.rf
set_option maxRecDepth 100000 in
theorem fr_a_take_3 (N : Nat) : ∀ (n : Nat) (x1 : Int32) (x2 : Int32) (M : Mem) (M' : Mem), f_a_take_3 N n x1 x2 M = some M' → Fr [100, 101] M M' := by
  intro n
  induction n with
  | zero =>
    intro x1 x2 M M' h
    cases h
  | succ n ih =>
    intro x1 x2 M M' h
    rw [f_a_take_3] at h
    by_cases hc : x2 < (0 : Int32)
    · replace h := (if_pos hc).symm.trans h
      obtain rfl := Option.some.inj h
      exact Fr.rf
    · replace h := (if_neg hc).symm.trans h
      by_cases hc : (f_w_within (gi M 100 3) (0 : Int32) (299 : Int32) M) = (0 : Int32)
      · replace h := (if_pos hc).symm.trans h
        exact ih x1 (x2 + (-8 : Int32)) M _ h
      · replace h := (if_neg hc).symm.trans h
        obtain ⟨g, h⟩ := am_itg h
        obtain ⟨q1, e_q1, h⟩ := Option.bind_eq_some_iff.mp h
        refine Fr.w_si e_q1 (by first | decide | simp) ?_
        obtain ⟨q2, e_q2, h⟩ := Option.bind_eq_some_iff.mp h
        refine Fr.w_si e_q2 (by first | decide | simp) ?_
        exact ih x1 (x2 + (-8 : Int32)) q2 _ h
set_option maxRecDepth 100000 in
theorem fr_a_take (N : Nat) (x1 : Int32) (M : Mem) (M' : Mem) (h : f_a_take N x1 M = some M') : Fr [100, 101] M M' := by
  rw [f_a_take] at h
  exact fr_a_take_3 N N x1 (24 : Int32) M _ h
set_option maxRecDepth 100000 in
theorem fr_w_feed (N : Nat) (x1 : Int32) (x2 : Int32) (x3 : Int32) (x4 : Int32) (x5 : Int32) (M : Mem) (r : Int32) (M' : Mem) (h : f_w_feed N x1 x2 x3 x4 x5 M = some (r, M')) : Fr [100, 101] M M' := by
  rw [f_w_feed] at h
  by_cases hc : (f_a_hasRoom M) = (0 : Int32)
  · replace h := (if_pos hc).symm.trans h
    obtain ⟨rfl, rfl⟩ := Prod.mk.inj (Option.some.inj h)
    exact Fr.rf
  · replace h := (if_neg hc).symm.trans h
    obtain ⟨q1, e_q1, h⟩ := Option.bind_eq_some_iff.mp h
    refine Fr.tr (Fr.sub (fr_a_take N x1 M q1 e_q1) (by first | decide | simp)) ?_
    obtain ⟨q2, e_q2, h⟩ := Option.bind_eq_some_iff.mp h
    refine Fr.tr (Fr.sub (fr_a_take N x2 q1 q2 e_q2) (by first | decide | simp)) ?_
    obtain ⟨q3, e_q3, h⟩ := Option.bind_eq_some_iff.mp h
    refine Fr.tr (Fr.sub (fr_a_take N x3 q2 q3 e_q3) (by first | decide | simp)) ?_
    obtain ⟨q4, e_q4, h⟩ := Option.bind_eq_some_iff.mp h
    refine Fr.tr (Fr.sub (fr_a_take N x4 q3 q4 e_q4) (by first | decide | simp)) ?_
    obtain ⟨q5, e_q5, h⟩ := Option.bind_eq_some_iff.mp h
    refine Fr.tr (Fr.sub (fr_a_take N x5 q4 q5 e_q5) (by first | decide | simp)) ?_
    obtain ⟨rfl, rfl⟩ := Prod.mk.inj (Option.some.inj h)
    exact Fr.rf
set_option maxRecDepth 100000 in
theorem fr_m_four_3 (N : Nat) : ∀ (n : Nat) (x1 : Int32) (x2 : Int32) (M : Mem) (M' : Mem), f_m_four_3 N n x1 x2 M = some M' → Fr [129, 133] M M' := by
  intro n
  induction n with
  | zero =>
    intro x1 x2 M M' h
    cases h
  | succ n ih =>
    intro x1 x2 M M' h
    rw [f_m_four_3] at h
    by_cases hc : x2 < (0 : Int32)
    · replace h := (if_pos hc).symm.trans h
      obtain rfl := Option.some.inj h
      exact Fr.rf
    · replace h := (if_neg hc).symm.trans h
      obtain ⟨g, h⟩ := am_itg h
      obtain ⟨q1, e_q1, h⟩ := Option.bind_eq_some_iff.mp h
      refine Fr.w_si e_q1 (by first | decide | simp) ?_
      obtain ⟨q2, e_q2, h⟩ := Option.bind_eq_some_iff.mp h
      refine Fr.w_si e_q2 (by first | decide | simp) ?_
      exact ih x1 (x2 + (-8 : Int32)) q2 _ h
set_option maxRecDepth 100000 in
theorem fr_m_four (N : Nat) (x1 : Int32) (M : Mem) (M' : Mem) (h : f_m_four N x1 M = some M') : Fr [129, 133] M M' := by
  rw [f_m_four] at h
  exact fr_m_four_3 N N x1 (24 : Int32) M _ h
set_option maxRecDepth 100000 in
theorem fr_m_feed (N : Nat) (x1 : Int32) (x2 : Int32) (x3 : Int32) (x4 : Int32) (x5 : Int32) (M : Mem) (r : Int32) (M' : Mem) (h : f_m_feed N x1 x2 x3 x4 x5 M = some (r, M')) : Fr [129, 133] M M' := by
  rw [f_m_feed] at h
  by_cases hc : ((gi M 129 4) + (20 : Int32)) ≤ (300 : Int32)
  · replace h := (if_pos hc).symm.trans h
    obtain ⟨q1, e_q1, h⟩ := Option.bind_eq_some_iff.mp h
    refine Fr.tr (Fr.sub (fr_m_four N x1 M q1 e_q1) (by first | decide | simp)) ?_
    obtain ⟨q2, e_q2, h⟩ := Option.bind_eq_some_iff.mp h
    refine Fr.tr (Fr.sub (fr_m_four N x2 q1 q2 e_q2) (by first | decide | simp)) ?_
    obtain ⟨q3, e_q3, h⟩ := Option.bind_eq_some_iff.mp h
    refine Fr.tr (Fr.sub (fr_m_four N x3 q2 q3 e_q3) (by first | decide | simp)) ?_
    obtain ⟨q4, e_q4, h⟩ := Option.bind_eq_some_iff.mp h
    refine Fr.tr (Fr.sub (fr_m_four N x4 q3 q4 e_q4) (by first | decide | simp)) ?_
    obtain ⟨q5, e_q5, h⟩ := Option.bind_eq_some_iff.mp h
    refine Fr.tr (Fr.sub (fr_m_four N x5 q4 q5 e_q5) (by first | decide | simp)) ?_
    obtain ⟨rfl, rfl⟩ := Prod.mk.inj (Option.some.inj h)
    exact Fr.rf
  · replace h := (if_neg hc).symm.trans h
    obtain ⟨rfl, rfl⟩ := Prod.mk.inj (Option.some.inj h)
    exact Fr.rf
set_option maxRecDepth 100000 in
theorem fr_w_end (x1 : Int32) (M : Mem) (r : Int32) (M' : Mem) (h : f_w_end x1 M = some (r, M')) : Fr [100] M M' := by
  rw [f_w_end] at h
  by_cases hc : (f_w_within x1 (0 : Int32) (gi M 100 3) M) = (0 : Int32)
  · replace h := (if_pos hc).symm.trans h
    obtain ⟨rfl, rfl⟩ := Prod.mk.inj (Option.some.inj h)
    exact Fr.rf
  · replace h := (if_neg hc).symm.trans h
    obtain ⟨q1, e_q1, h⟩ := Option.bind_eq_some_iff.mp h
    refine Fr.w_si e_q1 (by first | decide | simp) ?_
    obtain ⟨rfl, rfl⟩ := Prod.mk.inj (Option.some.inj h)
    exact Fr.rf
set_option maxRecDepth 100000 in
theorem fr_m_end (x1 : Int32) (M : Mem) (r : Int32) (M' : Mem) (h : f_m_end x1 M = some (r, M')) : Fr [129] M M' := by
  rw [f_m_end] at h
  by_cases hc : (f_m_isIn x1 (0 : Int32) (gi M 129 4) M) = (0 : Int32)
  · replace h := (if_pos hc).symm.trans h
    obtain ⟨rfl, rfl⟩ := Prod.mk.inj (Option.some.inj h)
    exact Fr.rf
  · replace h := (if_neg hc).symm.trans h
    obtain ⟨q1, e_q1, h⟩ := Option.bind_eq_some_iff.mp h
    refine Fr.w_si e_q1 (by first | decide | simp) ?_
    obtain ⟨rfl, rfl⟩ := Prod.mk.inj (Option.some.inj h)
    exact Fr.rf
set_option maxRecDepth 100000 in
theorem fr_k_fill0_107_5 (N : Nat) : ∀ (n : Nat) (x1 : Int32) (x2 : Int32) (x3 : Int32) (M : Mem) (M' : Mem), f_k_fill0_107_5 N n x1 x2 x3 M = some M' → Fr [107] M M' := by
  intro n
  induction n with
  | zero =>
    intro x1 x2 x3 M M' h
    cases h
  | succ n ih =>
    intro x1 x2 x3 M M' h
    rw [f_k_fill0_107_5] at h
    by_cases hc : x3 ≤ x2
    · replace h := (if_pos hc).symm.trans h
      obtain rfl := Option.some.inj h
      exact Fr.rf
    · replace h := (if_neg hc).symm.trans h
      obtain ⟨g, h⟩ := am_itg h
      obtain ⟨q1, e_q1, h⟩ := Option.bind_eq_some_iff.mp h
      refine Fr.w_si e_q1 (by first | decide | simp) ?_
      exact ih x1 (x2 + (1 : Int32)) x3 q1 _ h
set_option maxRecDepth 100000 in
theorem fr_k_fill0_107 (N : Nat) (x1 : Int32) (M : Mem) (M' : Mem) (h : f_k_fill0_107 N x1 M = some M') : Fr [107] M M' := by
  rw [f_k_fill0_107] at h
  exact fr_k_fill0_107_5 N N x1 (0 : Int32) (3 : Int32) M _ h
set_option maxRecDepth 100000 in
theorem fr_p_clear (N : Nat) (M : Mem) (M' : Mem) (h : f_p_clear N M = some M') : Fr [104, 107] M M' := by
  rw [f_p_clear] at h
  obtain ⟨q1, e_q1, h⟩ := Option.bind_eq_some_iff.mp h
  refine Fr.w_si e_q1 (by first | decide | simp) ?_
  obtain ⟨q2, e_q2, h⟩ := Option.bind_eq_some_iff.mp h
  refine Fr.w_si e_q2 (by first | decide | simp) ?_
  obtain ⟨q3, e_q3, h⟩ := Option.bind_eq_some_iff.mp h
  refine Fr.tr (Fr.sub (fr_k_fill0_107 N (-1 : Int32) q2 q3 e_q3) (by first | decide | simp)) ?_
  obtain rfl := Option.some.inj h
  exact Fr.rf
set_option maxRecDepth 100000 in
theorem fr_a_add (x1 : Int32) (x2 : Int32) (x3 : Int32) (M : Mem) (M' : Mem) (h : f_a_add x1 x2 x3 M = some M') : Fr [100, 102] M M' := by
  rw [f_a_add] at h
  by_cases hc : (gi M 100 2) < (0 : Int32)
  · replace h := (if_pos hc).symm.trans h
    obtain rfl := Option.some.inj h
    exact Fr.rf
  · replace h := (if_neg hc).symm.trans h
    by_cases hc : (300 : Int32) < (gi M 100 2)
    · replace h := (if_pos hc).symm.trans h
      obtain rfl := Option.some.inj h
      exact Fr.rf
    · replace h := (if_neg hc).symm.trans h
      obtain ⟨g, h⟩ := am_itg h
      obtain ⟨q1, e_q1, h⟩ := Option.bind_eq_some_iff.mp h
      refine Fr.w_si e_q1 (by first | decide | simp) ?_
      obtain ⟨q2, e_q2, h⟩ := Option.bind_eq_some_iff.mp h
      refine Fr.w_si e_q2 (by first | decide | simp) ?_
      obtain rfl := Option.some.inj h
      exact Fr.rf
set_option maxRecDepth 100000 in
theorem fr_a_cutSign_38 (N : Nat) (x1 : Int32) (x3 : Int32) (M : Mem) (r : Int32) (M' : Mem) (h : f_a_cutSign_38 N x1 x3 M = some (r, M')) : Fr [100, 102] M M' := by
  rw [f_a_cutSign_38] at h
  obtain ⟨q4, e_q4, h⟩ := Option.bind_eq_some_iff.mp h
  by_cases hc : q4 = (61 : Int32)
  · replace h := (if_pos hc).symm.trans h
    by_cases hc : x3 = (34 : Int32)
    · replace h := (if_pos hc).symm.trans h
      obtain ⟨q5, e_q5, h⟩ := Option.bind_eq_some_iff.mp h
      refine Fr.tr (Fr.sub (fr_a_add (46 : Int32) x1 (0 : Int32) M q5 e_q5) (by first | decide | simp)) ?_
      obtain ⟨rfl, rfl⟩ := Prod.mk.inj (Option.some.inj h)
      exact Fr.rf
    · replace h := (if_neg hc).symm.trans h
      obtain ⟨q6, e_q6, h⟩ := Option.bind_eq_some_iff.mp h
      refine Fr.tr (Fr.sub (fr_a_add (47 : Int32) x1 (0 : Int32) M q6 e_q6) (by first | decide | simp)) ?_
      obtain ⟨rfl, rfl⟩ := Prod.mk.inj (Option.some.inj h)
      exact Fr.rf
  · replace h := (if_neg hc).symm.trans h
    obtain ⟨q7, e_q7, h⟩ := Option.bind_eq_some_iff.mp h
    refine Fr.tr (Fr.sub (fr_a_add x3 x1 (0 : Int32) M q7 e_q7) (by first | decide | simp)) ?_
    obtain ⟨rfl, rfl⟩ := Prod.mk.inj (Option.some.inj h)
    exact Fr.rf
set_option maxRecDepth 100000 in
theorem fr_a_cutSign_25 (N : Nat) (x1 : Int32) (s0 : Int32) (M : Mem) (r : Int32) (M' : Mem) (h : f_a_cutSign_25 N x1 s0 M = some (r, M')) : Fr [100, 102] M M' := by
  rw [f_a_cutSign_25] at h
  by_cases hc : s0 = (34 : Int32)
  · replace h := (if_pos hc).symm.trans h
    exact fr_a_cutSign_38 N x1 s0 M _ _ h
  · replace h := (if_neg hc).symm.trans h
    by_cases hc : s0 = (35 : Int32)
    · replace h := (if_pos hc).symm.trans h
      exact fr_a_cutSign_38 N x1 s0 M _ _ h
    · replace h := (if_neg hc).symm.trans h
      obtain ⟨q3, e_q3, h⟩ := Option.bind_eq_some_iff.mp h
      refine Fr.tr (Fr.sub (fr_a_add s0 x1 (0 : Int32) M q3 e_q3) (by first | decide | simp)) ?_
      obtain ⟨rfl, rfl⟩ := Prod.mk.inj (Option.some.inj h)
      exact Fr.rf
set_option maxRecDepth 100000 in
theorem fr_a_cutSign (N : Nat) (x1 : Int32) (M : Mem) (r : Int32) (M' : Mem) (h : f_a_cutSign N x1 M = some (r, M')) : Fr [100, 102] M M' := by
  rw [f_a_cutSign] at h
  obtain ⟨q1, e_q1, h⟩ := Option.bind_eq_some_iff.mp h
  obtain ⟨q2, e_q2, h⟩ := Option.bind_eq_some_iff.mp h
  by_cases hc : (0 : Int32) ≤ q2
  · replace h := (if_pos hc).symm.trans h
    exact fr_a_cutSign_25 N x1 ((34 : Int32) + q2) M _ _ h
  · replace h := (if_neg hc).symm.trans h
    exact fr_a_cutSign_25 N x1 (32 : Int32) M _ _ h
set_option maxRecDepth 100000 in
theorem fr_a_cutNumber_7 (N : Nat) : ∀ (n : Nat) (x1 : Int32) (x2 : Int32) (x3 : Int32) (x4 : Int32) (M : Mem) (r : Int32) (M' : Mem), f_a_cutNumber_7 N n x1 x2 x3 x4 M = some (r, M') → Fr [100, 102] M M' := by
  intro n
  induction n with
  | zero =>
    intro x1 x2 x3 x4 M r M' h
    cases h
  | succ n ih =>
    intro x1 x2 x3 x4 M r M' h
    rw [f_a_cutNumber_7] at h
    by_cases hc : (300 : Int32) ≤ x4
    · replace h := (if_pos hc).symm.trans h
      obtain ⟨q1, e_q1, h⟩ := Option.bind_eq_some_iff.mp h
      refine Fr.tr (Fr.sub (fr_a_add (33 : Int32) x1 x3 M q1 e_q1) (by first | decide | simp)) ?_
      obtain ⟨rfl, rfl⟩ := Prod.mk.inj (Option.some.inj h)
      exact Fr.rf
    · replace h := (if_neg hc).symm.trans h
      obtain ⟨q2, e_q2, h⟩ := Option.bind_eq_some_iff.mp h
      by_cases hc : (f_a_isDigit q2 M) = (0 : Int32)
      · replace h := (if_pos hc).symm.trans h
        obtain ⟨q3, e_q3, h⟩ := Option.bind_eq_some_iff.mp h
        refine Fr.tr (Fr.sub (fr_a_add (33 : Int32) x1 x3 M q3 e_q3) (by first | decide | simp)) ?_
        obtain ⟨rfl, rfl⟩ := Prod.mk.inj (Option.some.inj h)
        exact Fr.rf
      · replace h := (if_neg hc).symm.trans h
        obtain ⟨q4, e_q4, h⟩ := Option.bind_eq_some_iff.mp h
        exact ih x1 (x2 + (1 : Int32)) (f_k_min0 (((x3 * (10 : Int32)) + q4) - (48 : Int32)) (10000 : Int32) M) (x4 + (1 : Int32)) M _ _ h
set_option maxRecDepth 100000 in
theorem fr_a_cutNumber (N : Nat) (x1 : Int32) (M : Mem) (r : Int32) (M' : Mem) (h : f_a_cutNumber N x1 M = some (r, M')) : Fr [100, 102] M M' := by
  rw [f_a_cutNumber] at h
  exact fr_a_cutNumber_7 N N x1 x1 (0 : Int32) (0 : Int32) M _ _ h
set_option maxRecDepth 100000 in
theorem fr_j_checkIndex0 (x0 : Int32) (x1 : Int32) (M : Mem) (M' : Mem) (h : f_j_checkIndex0 x0 x1 M = some M') : Fr [] M M' := by
  rw [f_j_checkIndex0] at h
  obtain ⟨q1, e_q1, h⟩ := Option.bind_eq_some_iff.mp h
  obtain rfl := Option.some.inj h
  exact Fr.rf
set_option maxRecDepth 100000 in
theorem fr_j_charAt1_3 (x1 : Int32) (M : Mem) (r : Int32) (M' : Mem) (h : f_j_charAt1_3 x1 M = some (r, M')) : Fr [] M M' := by
  rw [f_j_charAt1_3] at h
  obtain ⟨q1, e_q1, h⟩ := Option.bind_eq_some_iff.mp h
  refine Fr.tr (Fr.sub (fr_j_checkIndex0 x1 (163 : Int32) M q1 e_q1) (by first | decide | simp)) ?_
  obtain ⟨g, h⟩ := am_itg h
  obtain ⟨g, h⟩ := am_itg h
  obtain ⟨rfl, rfl⟩ := Prod.mk.inj (Option.some.inj h)
  exact Fr.rf
set_option maxRecDepth 100000 in
theorem fr_j_charAt0_1 (x1 : Int32) (M : Mem) (r : Int32) (M' : Mem) (h : f_j_charAt0_1 x1 M = some (r, M')) : Fr [] M M' := by
  rw [f_j_charAt0_1] at h
  obtain ⟨q1, e_q1, h⟩ := Option.bind_eq_some_iff.mp h
  refine Fr.tr (Fr.sub (fr_j_charAt1_3 x1 M q1.1 q1.2 e_q1) (by first | decide | simp)) ?_
  obtain ⟨g, h⟩ := am_itg h
  obtain ⟨rfl, rfl⟩ := Prod.mk.inj (Option.some.inj h)
  exact Fr.rf
set_option maxRecDepth 100000 in
theorem fr_a_isWordAt_3 (N : Nat) : ∀ (n : Nat) (x1 : Int32) (x2 : Int32) (x3 : Int32) (x4 : Int32) (M : Mem) (r : Int32) (M' : Mem), f_a_isWordAt_3 N n x1 x2 x3 x4 M = some (r, M') → Fr [] M M' := by
  intro n
  induction n with
  | zero =>
    intro x1 x2 x3 x4 M r M' h
    cases h
  | succ n ih =>
    intro x1 x2 x3 x4 M r M' h
    rw [f_a_isWordAt_3] at h
    by_cases hc : x2 ≤ x4
    · replace h := (if_pos hc).symm.trans h
      obtain ⟨rfl, rfl⟩ := Prod.mk.inj (Option.some.inj h)
      exact Fr.rf
    · replace h := (if_neg hc).symm.trans h
      by_cases hc : (f_j_length_1 M) ≤ x4
      · replace h := (if_pos hc).symm.trans h
        obtain ⟨rfl, rfl⟩ := Prod.mk.inj (Option.some.inj h)
        exact Fr.rf
      · replace h := (if_neg hc).symm.trans h
        obtain ⟨q1, e_q1, h⟩ := Option.bind_eq_some_iff.mp h
        refine Fr.tr (Fr.sub (fr_j_charAt0_1 x4 M q1.1 q1.2 e_q1) (by first | decide | simp)) ?_
        obtain ⟨q2, e_q2, h⟩ := Option.bind_eq_some_iff.mp h
        by_cases hc : q1.1 = q2
        · replace h := (if_pos hc).symm.trans h
          exact ih x1 x2 x3 (x4 + (1 : Int32)) q1.2 _ _ h
        · replace h := (if_neg hc).symm.trans h
          obtain ⟨rfl, rfl⟩ := Prod.mk.inj (Option.some.inj h)
          exact Fr.rf
set_option maxRecDepth 100000 in
theorem fr_a_isWordAt (N : Nat) (x1 : Int32) (x2 : Int32) (x3 : Int32) (M : Mem) (r : Int32) (M' : Mem) (h : f_a_isWordAt N x1 x2 x3 M = some (r, M')) : Fr [] M M' := by
  rw [f_a_isWordAt] at h
  exact fr_a_isWordAt_3 N N x1 x2 x3 x1 M _ _ h
set_option maxRecDepth 100000 in
theorem fr_a_wordOf_8 (N : Nat) : ∀ (n : Nat) (x1 : Int32) (x2 : Int32) (x3 : Int32) (x4 : Int32) (x5 : Int32) (M : Mem) (r : Int32) (M' : Mem), f_a_wordOf_8 N n x1 x2 x3 x4 x5 M = some (r, M') → Fr [] M M' := by
  intro n
  induction n with
  | zero =>
    intro x1 x2 x3 x4 x5 M r M' h
    cases h
  | succ n ih =>
    intro x1 x2 x3 x4 x5 M r M' h
    rw [f_a_wordOf_8] at h
    by_cases hc : (f_j_length_1 M) ≤ x5
    · replace h := (if_pos hc).symm.trans h
      obtain ⟨rfl, rfl⟩ := Prod.mk.inj (Option.some.inj h)
      exact Fr.rf
    · replace h := (if_neg hc).symm.trans h
      obtain ⟨q1, e_q1, h⟩ := Option.bind_eq_some_iff.mp h
      refine Fr.tr (Fr.sub (fr_j_charAt0_1 x5 M q1.1 q1.2 e_q1) (by first | decide | simp)) ?_
      by_cases hc : q1.1 = (32 : Int32)
      · replace h := (if_pos hc).symm.trans h
        by_cases hc : (x5 - x4) = (x2 - x1)
        · replace h := (if_pos hc).symm.trans h
          obtain ⟨q2, e_q2, h⟩ := Option.bind_eq_some_iff.mp h
          refine Fr.tr (Fr.sub (fr_a_isWordAt N x4 x5 x1 q1.2 q2.1 q2.2 e_q2) (by first | decide | simp)) ?_
          by_cases hc : q2.1 = (0 : Int32)
          · replace h := (if_pos hc).symm.trans h
            exact ih x1 x2 (x3 + (1 : Int32)) (x5 + (1 : Int32)) (x5 + (1 : Int32)) q2.2 _ _ h
          · replace h := (if_neg hc).symm.trans h
            obtain ⟨rfl, rfl⟩ := Prod.mk.inj (Option.some.inj h)
            exact Fr.rf
        · replace h := (if_neg hc).symm.trans h
          exact ih x1 x2 (x3 + (1 : Int32)) (x5 + (1 : Int32)) (x5 + (1 : Int32)) q1.2 _ _ h
      · replace h := (if_neg hc).symm.trans h
        exact ih x1 x2 x3 x4 (x5 + (1 : Int32)) q1.2 _ _ h
set_option maxRecDepth 100000 in
theorem fr_a_wordOf (N : Nat) (x1 : Int32) (x2 : Int32) (M : Mem) (r : Int32) (M' : Mem) (h : f_a_wordOf N x1 x2 M = some (r, M')) : Fr [] M M' := by
  rw [f_a_wordOf] at h
  exact fr_a_wordOf_8 N N x1 x2 (0 : Int32) (0 : Int32) (0 : Int32) M _ _ h
set_option maxRecDepth 100000 in
theorem fr_a_cutWord_4 (N : Nat) : ∀ (n : Nat) (x1 : Int32) (x2 : Int32) (x3 : Int32) (M : Mem) (r : Int32) (M' : Mem), f_a_cutWord_4 N n x1 x2 x3 M = some (r, M') → Fr [100, 102] M M' := by
  intro n
  induction n with
  | zero =>
    intro x1 x2 x3 M r M' h
    cases h
  | succ n ih =>
    intro x1 x2 x3 M r M' h
    rw [f_a_cutWord_4] at h
    by_cases hc : (300 : Int32) ≤ x3
    · replace h := (if_pos hc).symm.trans h
      obtain ⟨q1, e_q1, h⟩ := Option.bind_eq_some_iff.mp h
      refine Fr.tr (Fr.sub (fr_a_wordOf N x1 x2 M q1.1 q1.2 e_q1) (by first | decide | simp)) ?_
      obtain ⟨q2, e_q2, h⟩ := Option.bind_eq_some_iff.mp h
      refine Fr.tr (Fr.sub (fr_a_add q1.1 x1 (0 : Int32) q1.2 q2 e_q2) (by first | decide | simp)) ?_
      obtain ⟨rfl, rfl⟩ := Prod.mk.inj (Option.some.inj h)
      exact Fr.rf
    · replace h := (if_neg hc).symm.trans h
      obtain ⟨q3, e_q3, h⟩ := Option.bind_eq_some_iff.mp h
      by_cases hc : (f_a_isLetter q3 M) = (0 : Int32)
      · replace h := (if_pos hc).symm.trans h
        obtain ⟨q4, e_q4, h⟩ := Option.bind_eq_some_iff.mp h
        refine Fr.tr (Fr.sub (fr_a_wordOf N x1 x2 M q4.1 q4.2 e_q4) (by first | decide | simp)) ?_
        obtain ⟨q5, e_q5, h⟩ := Option.bind_eq_some_iff.mp h
        refine Fr.tr (Fr.sub (fr_a_add q4.1 x1 (0 : Int32) q4.2 q5 e_q5) (by first | decide | simp)) ?_
        obtain ⟨rfl, rfl⟩ := Prod.mk.inj (Option.some.inj h)
        exact Fr.rf
      · replace h := (if_neg hc).symm.trans h
        exact ih x1 (x2 + (1 : Int32)) (x3 + (1 : Int32)) M _ _ h
set_option maxRecDepth 100000 in
theorem fr_a_cutWord (N : Nat) (x1 : Int32) (M : Mem) (r : Int32) (M' : Mem) (h : f_a_cutWord N x1 M = some (r, M')) : Fr [100, 102] M M' := by
  rw [f_a_cutWord] at h
  exact fr_a_cutWord_4 N N x1 x1 (0 : Int32) M _ _ h
set_option maxRecDepth 100000 in
theorem fr_a_cut_9 (N : Nat) : ∀ (n : Nat) (x1 : Int32) (x2 : Int32) (M : Mem) (M' : Mem), f_a_cut_9 N n x1 x2 M = some M' → Fr [100, 102] M M' := by
  intro n
  induction n with
  | zero =>
    intro x1 x2 M M' h
    cases h
  | succ n ih =>
    intro x1 x2 M M' h
    rw [f_a_cut_9] at h
    by_cases hc : (300 : Int32) ≤ x2
    · replace h := (if_pos hc).symm.trans h
      obtain ⟨q2, e_q2, h⟩ := Option.bind_eq_some_iff.mp h
      refine Fr.tr (Fr.sub (fr_a_add (48 : Int32) (gi M 100 3) (0 : Int32) M q2 e_q2) (by first | decide | simp)) ?_
      obtain rfl := Option.some.inj h
      exact Fr.rf
    · replace h := (if_neg hc).symm.trans h
      by_cases hc : (gi M 100 3) ≤ x1
      · replace h := (if_pos hc).symm.trans h
        obtain ⟨q3, e_q3, h⟩ := Option.bind_eq_some_iff.mp h
        refine Fr.tr (Fr.sub (fr_a_add (48 : Int32) (gi M 100 3) (0 : Int32) M q3 e_q3) (by first | decide | simp)) ?_
        obtain rfl := Option.some.inj h
        exact Fr.rf
      · replace h := (if_neg hc).symm.trans h
        obtain ⟨q4, e_q4, h⟩ := Option.bind_eq_some_iff.mp h
        by_cases hc : q4 = (32 : Int32)
        · replace h := (if_pos hc).symm.trans h
          exact ih (x1 + (1 : Int32)) (x2 + (1 : Int32)) M _ h
        · replace h := (if_neg hc).symm.trans h
          by_cases hc : q4 = (10 : Int32)
          · replace h := (if_pos hc).symm.trans h
            exact ih (x1 + (1 : Int32)) (x2 + (1 : Int32)) M _ h
          · replace h := (if_neg hc).symm.trans h
            by_cases hc : (f_a_isLetter q4 M) = (0 : Int32)
            · replace h := (if_pos hc).symm.trans h
              by_cases hc : (f_a_isDigit q4 M) = (0 : Int32)
              · replace h := (if_pos hc).symm.trans h
                obtain ⟨q5, e_q5, h⟩ := Option.bind_eq_some_iff.mp h
                refine Fr.tr (Fr.sub (fr_a_cutSign N x1 M q5.1 q5.2 e_q5) (by first | decide | simp)) ?_
                exact ih q5.1 (x2 + (1 : Int32)) q5.2 _ h
              · replace h := (if_neg hc).symm.trans h
                obtain ⟨q6, e_q6, h⟩ := Option.bind_eq_some_iff.mp h
                refine Fr.tr (Fr.sub (fr_a_cutNumber N x1 M q6.1 q6.2 e_q6) (by first | decide | simp)) ?_
                exact ih q6.1 (x2 + (1 : Int32)) q6.2 _ h
            · replace h := (if_neg hc).symm.trans h
              obtain ⟨q7, e_q7, h⟩ := Option.bind_eq_some_iff.mp h
              refine Fr.tr (Fr.sub (fr_a_cutWord N x1 M q7.1 q7.2 e_q7) (by first | decide | simp)) ?_
              exact ih q7.1 (x2 + (1 : Int32)) q7.2 _ h
set_option maxRecDepth 100000 in
theorem fr_a_cut (N : Nat) (M : Mem) (M' : Mem) (h : f_a_cut N M = some M') : Fr [100, 102] M M' := by
  rw [f_a_cut] at h
  obtain ⟨q1, e_q1, h⟩ := Option.bind_eq_some_iff.mp h
  refine Fr.w_si e_q1 (by first | decide | simp) ?_
  exact fr_a_cut_9 N N (0 : Int32) (0 : Int32) q1 _ h
set_option maxRecDepth 100000 in
theorem fr_r_fail (x1 : Int32) (M : Mem) (M' : Mem) (h : f_r_fail x1 M = some M') : Fr [103] M M' := by
  rw [f_r_fail] at h
  by_cases hc : (gi M 103 1) = (0 : Int32)
  · replace h := (if_pos hc).symm.trans h
    obtain ⟨q1, e_q1, h⟩ := Option.bind_eq_some_iff.mp h
    refine Fr.w_si e_q1 (by first | decide | simp) ?_
    obtain ⟨g, h⟩ := am_itg h
    obtain ⟨q2, e_q2, h⟩ := Option.bind_eq_some_iff.mp h
    refine Fr.w_si e_q2 (by first | decide | simp) ?_
    obtain ⟨q3, e_q3, h⟩ := Option.bind_eq_some_iff.mp h
    refine Fr.w_si e_q3 (by first | decide | simp) ?_
    obtain rfl := Option.some.inj h
    exact Fr.rf
  · replace h := (if_neg hc).symm.trans h
    obtain ⟨q4, e_q4, h⟩ := Option.bind_eq_some_iff.mp h
    refine Fr.w_si e_q4 (by first | decide | simp) ?_
    obtain rfl := Option.some.inj h
    exact Fr.rf
set_option maxRecDepth 100000 in
theorem fr_r_advance (M : Mem) (M' : Mem) (h : f_r_advance M = some M') : Fr [103] M M' := by
  rw [f_r_advance] at h
  by_cases hc : (gi M 103 1) = (0 : Int32)
  · replace h := (if_pos hc).symm.trans h
    by_cases hc : (300 : Int32) ≤ (gi M 103 6)
    · replace h := (if_pos hc).symm.trans h
      obtain rfl := Option.some.inj h
      exact Fr.rf
    · replace h := (if_neg hc).symm.trans h
      obtain ⟨q1, e_q1, h⟩ := Option.bind_eq_some_iff.mp h
      refine Fr.w_si e_q1 (by first | decide | simp) ?_
      obtain ⟨g, h⟩ := am_itg h
      obtain ⟨q2, e_q2, h⟩ := Option.bind_eq_some_iff.mp h
      refine Fr.w_si e_q2 (by first | decide | simp) ?_
      obtain rfl := Option.some.inj h
      exact Fr.rf
  · replace h := (if_neg hc).symm.trans h
    obtain rfl := Option.some.inj h
    exact Fr.rf
set_option maxRecDepth 100000 in
theorem fr_r_expectNumber (x1 : Int32) (x2 : Int32) (M : Mem) (r : Int32) (M' : Mem) (h : f_r_expectNumber x1 x2 M = some (r, M')) : Fr [103] M M' := by
  rw [f_r_expectNumber] at h
  obtain ⟨g, h⟩ := am_itg h
  by_cases hc : (gi M 103 7) = (33 : Int32)
  · replace h := (if_pos hc).symm.trans h
    by_cases hc : ((gi M 102 ((gi M 103 6)).toNatClampNeg) >>> (15 : Int32)) < x1
    · replace h := (if_pos hc).symm.trans h
      obtain ⟨q1, e_q1, h⟩ := Option.bind_eq_some_iff.mp h
      refine Fr.tr (Fr.sub (fr_r_fail (2 : Int32) M q1 e_q1) (by first | decide | simp)) ?_
      obtain ⟨rfl, rfl⟩ := Prod.mk.inj (Option.some.inj h)
      exact Fr.rf
    · replace h := (if_neg hc).symm.trans h
      by_cases hc : ((gi M 102 ((gi M 103 6)).toNatClampNeg) >>> (15 : Int32)) ≤ x2
      · replace h := (if_pos hc).symm.trans h
        obtain ⟨q2, e_q2, h⟩ := Option.bind_eq_some_iff.mp h
        refine Fr.tr (Fr.sub (fr_r_advance M q2 e_q2) (by first | decide | simp)) ?_
        obtain ⟨rfl, rfl⟩ := Prod.mk.inj (Option.some.inj h)
        exact Fr.rf
      · replace h := (if_neg hc).symm.trans h
        obtain ⟨q3, e_q3, h⟩ := Option.bind_eq_some_iff.mp h
        refine Fr.tr (Fr.sub (fr_r_fail (2 : Int32) M q3 e_q3) (by first | decide | simp)) ?_
        obtain ⟨rfl, rfl⟩ := Prod.mk.inj (Option.some.inj h)
        exact Fr.rf
  · replace h := (if_neg hc).symm.trans h
    obtain ⟨q4, e_q4, h⟩ := Option.bind_eq_some_iff.mp h
    refine Fr.tr (Fr.sub (fr_r_fail (1 : Int32) M q4 e_q4) (by first | decide | simp)) ?_
    obtain ⟨rfl, rfl⟩ := Prod.mk.inj (Option.some.inj h)
    exact Fr.rf
set_option maxRecDepth 100000 in
theorem fr_p_put (x1 : Int32) (x2 : Int32) (M : Mem) (M' : Mem) (h : f_p_put x1 x2 M = some M') : Fr [104, 105] M M' := by
  rw [f_p_put] at h
  by_cases hc : (gi M 104 3) < (0 : Int32)
  · replace h := (if_pos hc).symm.trans h
    obtain rfl := Option.some.inj h
    exact Fr.rf
  · replace h := (if_neg hc).symm.trans h
    by_cases hc : (300 : Int32) ≤ (gi M 104 3)
    · replace h := (if_pos hc).symm.trans h
      obtain rfl := Option.some.inj h
      exact Fr.rf
    · replace h := (if_neg hc).symm.trans h
      obtain ⟨g, h⟩ := am_itg h
      obtain ⟨q1, e_q1, h⟩ := Option.bind_eq_some_iff.mp h
      refine Fr.w_si e_q1 (by first | decide | simp) ?_
      obtain ⟨q2, e_q2, h⟩ := Option.bind_eq_some_iff.mp h
      refine Fr.w_si e_q2 (by first | decide | simp) ?_
      obtain rfl := Option.some.inj h
      exact Fr.rf
set_option maxRecDepth 100000 in
theorem fr_r_readName (M : Mem) (M' : Mem) (h : f_r_readName M = some M') : Fr [103, 104, 105] M M' := by
  rw [f_r_readName] at h
  by_cases hc : (gi M 103 5) = (14 : Int32)
  · replace h := (if_pos hc).symm.trans h
    by_cases hc : (f_w_within (gi M 103 7) (3 : Int32) (9 : Int32) M) = (0 : Int32)
    · replace h := (if_pos hc).symm.trans h
      obtain ⟨q1, e_q1, h⟩ := Option.bind_eq_some_iff.mp h
      refine Fr.tr (Fr.sub (fr_p_put (gi M 103 7) (0 : Int32) M q1 e_q1) (by first | decide | simp)) ?_
      obtain ⟨q2, e_q2, h⟩ := Option.bind_eq_some_iff.mp h
      refine Fr.tr (Fr.sub (fr_r_advance q1 q2 e_q2) (by first | decide | simp)) ?_
      obtain rfl := Option.some.inj h
      exact Fr.rf
    · replace h := (if_neg hc).symm.trans h
      obtain ⟨q3, e_q3, h⟩ := Option.bind_eq_some_iff.mp h
      refine Fr.tr (Fr.sub (fr_r_fail (5 : Int32) M q3 e_q3) (by first | decide | simp)) ?_
      obtain rfl := Option.some.inj h
      exact Fr.rf
  · replace h := (if_neg hc).symm.trans h
    by_cases hc : (f_w_within (gi M 103 7) (10 : Int32) (11 : Int32) M) = (0 : Int32)
    · replace h := (if_pos hc).symm.trans h
      obtain ⟨q4, e_q4, h⟩ := Option.bind_eq_some_iff.mp h
      refine Fr.tr (Fr.sub (fr_p_put (gi M 103 7) (0 : Int32) M q4 e_q4) (by first | decide | simp)) ?_
      obtain ⟨q5, e_q5, h⟩ := Option.bind_eq_some_iff.mp h
      refine Fr.tr (Fr.sub (fr_r_advance q4 q5 e_q5) (by first | decide | simp)) ?_
      obtain rfl := Option.some.inj h
      exact Fr.rf
    · replace h := (if_neg hc).symm.trans h
      obtain ⟨q6, e_q6, h⟩ := Option.bind_eq_some_iff.mp h
      refine Fr.tr (Fr.sub (fr_r_fail (5 : Int32) M q6 e_q6) (by first | decide | simp)) ?_
      obtain rfl := Option.some.inj h
      exact Fr.rf
set_option maxRecDepth 100000 in
theorem fr_r_readProduct_32 (N : Nat) (RO : Int32 → Mem → Option Mem) (hRO : ∀ (x1 : Int32) (M M2 : Mem), RO x1 M = some M2 → Fr [6, 100, 102, 103, 104, 105, 106, 107, 113, 114, 115, 116, 117, 118, 119, 120, 121, 122, 123, 124, 125, 126, 127, 128] M M2) (K7 : Int32 → Int32 → Mem → Option Mem) (hK7 : ∀ (x1 : Int32) (x2 : Int32) (M : Mem) (M' : Mem), K7 x1 x2 M = some M' → Fr [6, 100, 102, 103, 104, 105, 106, 107, 113, 114, 115, 116, 117, 118, 119, 120, 121, 122, 123, 124, 125, 126, 127, 128] M M') (x1 : Int32) (x2 : Int32) (M : Mem) (M' : Mem) (h : f_r_readProduct_32 N RO K7 x1 x2 M = some M') : Fr [6, 100, 102, 103, 104, 105, 106, 107, 113, 114, 115, 116, 117, 118, 119, 120, 121, 122, 123, 124, 125, 126, 127, 128] M M' := by
  rw [f_r_readProduct_32] at h
  obtain ⟨q2, e_q2, h⟩ := Option.bind_eq_some_iff.mp h
  refine Fr.tr (Fr.sub (fr_r_advance M q2 e_q2) (by first | decide | simp)) ?_
  obtain ⟨q3, e_q3, h⟩ := Option.bind_eq_some_iff.mp h
  refine Fr.tr (hRO x1 q2 q3 e_q3) ?_
  obtain ⟨q4, e_q4, h⟩ := Option.bind_eq_some_iff.mp h
  refine Fr.tr (Fr.sub (fr_p_put (gi M 103 7) (0 : Int32) q3 q4 e_q4) (by first | decide | simp)) ?_
  exact hK7 x1 (x2 + (1 : Int32)) q4 _ h
set_option maxRecDepth 100000 in
theorem fr_r_readProduct_7 (N : Nat) (RO : Int32 → Mem → Option Mem) (hRO : ∀ (x1 : Int32) (M M2 : Mem), RO x1 M = some M2 → Fr [6, 100, 102, 103, 104, 105, 106, 107, 113, 114, 115, 116, 117, 118, 119, 120, 121, 122, 123, 124, 125, 126, 127, 128] M M2) : ∀ (n : Nat) (x1 : Int32) (x2 : Int32) (M : Mem) (M' : Mem), f_r_readProduct_7 N RO n x1 x2 M = some M' → Fr [6, 100, 102, 103, 104, 105, 106, 107, 113, 114, 115, 116, 117, 118, 119, 120, 121, 122, 123, 124, 125, 126, 127, 128] M M' := by
  intro n
  induction n with
  | zero =>
    intro x1 x2 M M' h
    cases h
  | succ n ih =>
    intro x1 x2 M M' h
    rw [f_r_readProduct_7] at h
    by_cases hc : (300 : Int32) ≤ x2
    · replace h := (if_pos hc).symm.trans h
      obtain rfl := Option.some.inj h
      exact Fr.rf
    · replace h := (if_neg hc).symm.trans h
      by_cases hc : (gi M 103 7) = (40 : Int32)
      · replace h := (if_pos hc).symm.trans h
        exact fr_r_readProduct_32 N RO hRO _ ih x1 x2 M _ h
      · replace h := (if_neg hc).symm.trans h
        by_cases hc : (gi M 103 7) = (41 : Int32)
        · replace h := (if_pos hc).symm.trans h
          exact fr_r_readProduct_32 N RO hRO _ ih x1 x2 M _ h
        · replace h := (if_neg hc).symm.trans h
          obtain rfl := Option.some.inj h
          exact Fr.rf
set_option maxRecDepth 100000 in
theorem fr_r_readProduct (N : Nat) (RO : Int32 → Mem → Option Mem) (hRO : ∀ (x1 : Int32) (M M2 : Mem), RO x1 M = some M2 → Fr [6, 100, 102, 103, 104, 105, 106, 107, 113, 114, 115, 116, 117, 118, 119, 120, 121, 122, 123, 124, 125, 126, 127, 128] M M2) (x1 : Int32) (M : Mem) (M' : Mem) (h : f_r_readProduct N RO x1 M = some M') : Fr [6, 100, 102, 103, 104, 105, 106, 107, 113, 114, 115, 116, 117, 118, 119, 120, 121, 122, 123, 124, 125, 126, 127, 128] M M' := by
  rw [f_r_readProduct] at h
  obtain ⟨q1, e_q1, h⟩ := Option.bind_eq_some_iff.mp h
  refine Fr.tr (hRO x1 M q1 e_q1) ?_
  exact fr_r_readProduct_7 N RO hRO N x1 (0 : Int32) q1 _ h
set_option maxRecDepth 100000 in
theorem fr_r_readSum_32 (N : Nat) (RO : Int32 → Mem → Option Mem) (hRO : ∀ (x1 : Int32) (M M2 : Mem), RO x1 M = some M2 → Fr [6, 100, 102, 103, 104, 105, 106, 107, 113, 114, 115, 116, 117, 118, 119, 120, 121, 122, 123, 124, 125, 126, 127, 128] M M2) (K7 : Int32 → Int32 → Mem → Option Mem) (hK7 : ∀ (x1 : Int32) (x2 : Int32) (M : Mem) (M' : Mem), K7 x1 x2 M = some M' → Fr [6, 100, 102, 103, 104, 105, 106, 107, 113, 114, 115, 116, 117, 118, 119, 120, 121, 122, 123, 124, 125, 126, 127, 128] M M') (x1 : Int32) (x2 : Int32) (M : Mem) (M' : Mem) (h : f_r_readSum_32 N RO K7 x1 x2 M = some M') : Fr [6, 100, 102, 103, 104, 105, 106, 107, 113, 114, 115, 116, 117, 118, 119, 120, 121, 122, 123, 124, 125, 126, 127, 128] M M' := by
  rw [f_r_readSum_32] at h
  obtain ⟨q2, e_q2, h⟩ := Option.bind_eq_some_iff.mp h
  refine Fr.tr (Fr.sub (fr_r_advance M q2 e_q2) (by first | decide | simp)) ?_
  obtain ⟨q3, e_q3, h⟩ := Option.bind_eq_some_iff.mp h
  refine Fr.tr (Fr.sub (fr_r_readProduct N RO hRO x1 q2 q3 e_q3) (by first | decide | simp)) ?_
  obtain ⟨q4, e_q4, h⟩ := Option.bind_eq_some_iff.mp h
  refine Fr.tr (Fr.sub (fr_p_put (gi M 103 7) (0 : Int32) q3 q4 e_q4) (by first | decide | simp)) ?_
  exact hK7 x1 (x2 + (1 : Int32)) q4 _ h
set_option maxRecDepth 100000 in
theorem fr_r_readSum_7 (N : Nat) (RO : Int32 → Mem → Option Mem) (hRO : ∀ (x1 : Int32) (M M2 : Mem), RO x1 M = some M2 → Fr [6, 100, 102, 103, 104, 105, 106, 107, 113, 114, 115, 116, 117, 118, 119, 120, 121, 122, 123, 124, 125, 126, 127, 128] M M2) : ∀ (n : Nat) (x1 : Int32) (x2 : Int32) (M : Mem) (M' : Mem), f_r_readSum_7 N RO n x1 x2 M = some M' → Fr [6, 100, 102, 103, 104, 105, 106, 107, 113, 114, 115, 116, 117, 118, 119, 120, 121, 122, 123, 124, 125, 126, 127, 128] M M' := by
  intro n
  induction n with
  | zero =>
    intro x1 x2 M M' h
    cases h
  | succ n ih =>
    intro x1 x2 M M' h
    rw [f_r_readSum_7] at h
    by_cases hc : (300 : Int32) ≤ x2
    · replace h := (if_pos hc).symm.trans h
      obtain rfl := Option.some.inj h
      exact Fr.rf
    · replace h := (if_neg hc).symm.trans h
      by_cases hc : (gi M 103 7) = (38 : Int32)
      · replace h := (if_pos hc).symm.trans h
        exact fr_r_readSum_32 N RO hRO _ ih x1 x2 M _ h
      · replace h := (if_neg hc).symm.trans h
        by_cases hc : (gi M 103 7) = (39 : Int32)
        · replace h := (if_pos hc).symm.trans h
          exact fr_r_readSum_32 N RO hRO _ ih x1 x2 M _ h
        · replace h := (if_neg hc).symm.trans h
          obtain rfl := Option.some.inj h
          exact Fr.rf
set_option maxRecDepth 100000 in
theorem fr_r_readSum (N : Nat) (RO : Int32 → Mem → Option Mem) (hRO : ∀ (x1 : Int32) (M M2 : Mem), RO x1 M = some M2 → Fr [6, 100, 102, 103, 104, 105, 106, 107, 113, 114, 115, 116, 117, 118, 119, 120, 121, 122, 123, 124, 125, 126, 127, 128] M M2) (x1 : Int32) (M : Mem) (M' : Mem) (h : f_r_readSum N RO x1 M = some M') : Fr [6, 100, 102, 103, 104, 105, 106, 107, 113, 114, 115, 116, 117, 118, 119, 120, 121, 122, 123, 124, 125, 126, 127, 128] M M' := by
  rw [f_r_readSum] at h
  obtain ⟨q1, e_q1, h⟩ := Option.bind_eq_some_iff.mp h
  refine Fr.tr (Fr.sub (fr_r_readProduct N RO hRO x1 M q1 e_q1) (by first | decide | simp)) ?_
  exact fr_r_readSum_7 N RO hRO N x1 (0 : Int32) q1 _ h
set_option maxRecDepth 100000 in
theorem fr_r_expect (x1 : Int32) (M : Mem) (M' : Mem) (h : f_r_expect x1 M = some M') : Fr [103] M M' := by
  rw [f_r_expect] at h
  by_cases hc : (gi M 103 7) = x1
  · replace h := (if_pos hc).symm.trans h
    obtain ⟨q1, e_q1, h⟩ := Option.bind_eq_some_iff.mp h
    refine Fr.tr (Fr.sub (fr_r_advance M q1 e_q1) (by first | decide | simp)) ?_
    obtain rfl := Option.some.inj h
    exact Fr.rf
  · replace h := (if_neg hc).symm.trans h
    obtain ⟨q2, e_q2, h⟩ := Option.bind_eq_some_iff.mp h
    refine Fr.tr (Fr.sub (fr_r_fail (1 : Int32) M q2 e_q2) (by first | decide | simp)) ?_
    obtain rfl := Option.some.inj h
    exact Fr.rf
set_option maxRecDepth 100000 in
theorem fr_p_aim (x1 : Int32) (x2 : Int32) (M : Mem) (M' : Mem) (h : f_p_aim x1 x2 M = some M') : Fr [105] M M' := by
  rw [f_p_aim] at h
  by_cases hc : x1 < (0 : Int32)
  · replace h := (if_pos hc).symm.trans h
    obtain rfl := Option.some.inj h
    exact Fr.rf
  · replace h := (if_neg hc).symm.trans h
    by_cases hc : (gi M 104 3) ≤ x1
    · replace h := (if_pos hc).symm.trans h
      obtain rfl := Option.some.inj h
      exact Fr.rf
    · replace h := (if_neg hc).symm.trans h
      by_cases hc : (300 : Int32) ≤ x1
      · replace h := (if_pos hc).symm.trans h
        obtain rfl := Option.some.inj h
        exact Fr.rf
      · replace h := (if_neg hc).symm.trans h
        obtain ⟨g, h⟩ := am_itg h
        obtain ⟨g, h⟩ := am_itg h
        obtain ⟨q1, e_q1, h⟩ := Option.bind_eq_some_iff.mp h
        refine Fr.w_si e_q1 (by first | decide | simp) ?_
        obtain rfl := Option.some.inj h
        exact Fr.rf
set_option maxRecDepth 100000 in
theorem fr_r_readCase_73 (N : Nat) (RO : Int32 → Mem → Option Mem) (hRO : ∀ (x1 : Int32) (M M2 : Mem), RO x1 M = some M2 → Fr [6, 100, 102, 103, 104, 105, 106, 107, 113, 114, 115, 116, 117, 118, 119, 120, 121, 122, 123, 124, 125, 126, 127, 128] M M2) (x1 : Int32) (x2 : Int32) (x3 : Int32) (x4 : Int32) (M : Mem) (r : Int32) (M' : Mem) (h : f_r_readCase_73 N RO x1 x2 x3 x4 M = some (r, M')) : Fr [6, 100, 102, 103, 104, 105, 106, 107, 113, 114, 115, 116, 117, 118, 119, 120, 121, 122, 123, 124, 125, 126, 127, 128] M M' := by
  rw [f_r_readCase_73] at h
  obtain ⟨q8, e_q8, h⟩ := Option.bind_eq_some_iff.mp h
  refine Fr.tr (Fr.sub (fr_r_expect (44 : Int32) M q8 e_q8) (by first | decide | simp)) ?_
  obtain ⟨q9, e_q9, h⟩ := Option.bind_eq_some_iff.mp h
  refine Fr.tr (Fr.sub (fr_p_put (28 : Int32) x3 q8 q9 e_q9) (by first | decide | simp)) ?_
  obtain ⟨q10, e_q10, h⟩ := Option.bind_eq_some_iff.mp h
  refine Fr.tr (Fr.sub (fr_p_put (54 : Int32) x4 q9 q10 e_q10) (by first | decide | simp)) ?_
  obtain ⟨q11, e_q11, h⟩ := Option.bind_eq_some_iff.mp h
  refine Fr.tr (Fr.sub (fr_p_put (55 : Int32) (0 : Int32) q10 q11 e_q11) (by first | decide | simp)) ?_
  obtain ⟨q12, e_q12, h⟩ := Option.bind_eq_some_iff.mp h
  refine Fr.tr (Fr.sub (fr_r_readSum N RO hRO x1 q11 q12 e_q12) (by first | decide | simp)) ?_
  obtain ⟨q13, e_q13, h⟩ := Option.bind_eq_some_iff.mp h
  refine Fr.tr (Fr.sub (fr_p_put (51 : Int32) (x2 + (1 : Int32)) q12 q13 e_q13) (by first | decide | simp)) ?_
  obtain ⟨q14, e_q14, h⟩ := Option.bind_eq_some_iff.mp h
  refine Fr.tr (Fr.sub (fr_p_aim (gi q10 104 3) (gi q13 104 3) q13 q14 e_q14) (by first | decide | simp)) ?_
  obtain ⟨rfl, rfl⟩ := Prod.mk.inj (Option.some.inj h)
  exact Fr.rf
set_option maxRecDepth 100000 in
theorem fr_r_readCase (N : Nat) (RO : Int32 → Mem → Option Mem) (hRO : ∀ (x1 : Int32) (M M2 : Mem), RO x1 M = some M2 → Fr [6, 100, 102, 103, 104, 105, 106, 107, 113, 114, 115, 116, 117, 118, 119, 120, 121, 122, 123, 124, 125, 126, 127, 128] M M2) (x1 : Int32) (x2 : Int32) (M : Mem) (r : Int32) (M' : Mem) (h : f_r_readCase N RO x1 x2 M = some (r, M')) : Fr [6, 100, 102, 103, 104, 105, 106, 107, 113, 114, 115, 116, 117, 118, 119, 120, 121, 122, 123, 124, 125, 126, 127, 128] M M' := by
  rw [f_r_readCase] at h
  obtain ⟨q1, e_q1, h⟩ := Option.bind_eq_some_iff.mp h
  refine Fr.tr (Fr.sub (fr_r_advance M q1 e_q1) (by first | decide | simp)) ?_
  obtain ⟨q2, e_q2, h⟩ := Option.bind_eq_some_iff.mp h
  refine Fr.tr (Fr.sub (fr_r_expectNumber (0 : Int32) (9999 : Int32) q1 q2.1 q2.2 e_q2) (by first | decide | simp)) ?_
  by_cases hc : (gi q2.2 103 7) = (29 : Int32)
  · replace h := (if_pos hc).symm.trans h
    obtain ⟨q3, e_q3, h⟩ := Option.bind_eq_some_iff.mp h
    refine Fr.tr (Fr.sub (fr_r_advance q2.2 q3 e_q3) (by first | decide | simp)) ?_
    by_cases hc : (gi q3 103 7) = (33 : Int32)
    · replace h := (if_pos hc).symm.trans h
      obtain ⟨g, h⟩ := am_itg h
      by_cases hc : q2.1 ≤ ((gi q3 102 ((gi q3 103 6)).toNatClampNeg) >>> (15 : Int32))
      · replace h := (if_pos hc).symm.trans h
        obtain ⟨q4, e_q4, h⟩ := Option.bind_eq_some_iff.mp h
        refine Fr.tr (Fr.sub (fr_r_expectNumber (0 : Int32) (9999 : Int32) q3 q4.1 q4.2 e_q4) (by first | decide | simp)) ?_
        exact fr_r_readCase_73 N RO hRO x1 x2 q2.1 q4.1 q4.2 _ _ h
      · replace h := (if_neg hc).symm.trans h
        obtain ⟨q5, e_q5, h⟩ := Option.bind_eq_some_iff.mp h
        refine Fr.tr (Fr.sub (fr_r_fail (7 : Int32) q3 q5 e_q5) (by first | decide | simp)) ?_
        obtain ⟨q6, e_q6, h⟩ := Option.bind_eq_some_iff.mp h
        refine Fr.tr (Fr.sub (fr_r_expectNumber (0 : Int32) (9999 : Int32) q5 q6.1 q6.2 e_q6) (by first | decide | simp)) ?_
        exact fr_r_readCase_73 N RO hRO x1 x2 q2.1 q6.1 q6.2 _ _ h
    · replace h := (if_neg hc).symm.trans h
      obtain ⟨q7, e_q7, h⟩ := Option.bind_eq_some_iff.mp h
      refine Fr.tr (Fr.sub (fr_r_expectNumber (0 : Int32) (9999 : Int32) q3 q7.1 q7.2 e_q7) (by first | decide | simp)) ?_
      exact fr_r_readCase_73 N RO hRO x1 x2 q2.1 q7.1 q7.2 _ _ h
  · replace h := (if_neg hc).symm.trans h
    exact fr_r_readCase_73 N RO hRO x1 x2 q2.1 q2.1 q2.2 _ _ h
set_option maxRecDepth 100000 in
theorem fr_r_readChoose_99 (N : Nat) (RO : Int32 → Mem → Option Mem) (hRO : ∀ (x1 : Int32) (M M2 : Mem), RO x1 M = some M2 → Fr [6, 100, 102, 103, 104, 105, 106, 107, 113, 114, 115, 116, 117, 118, 119, 120, 121, 122, 123, 124, 125, 126, 127, 128] M M2) : ∀ (n : Nat) (x2 : Int32) (x3 : Int32) (M : Mem) (M' : Mem), f_r_readChoose_99 N RO n x2 x3 M = some M' → Fr [6, 100, 102, 103, 104, 105, 106, 107, 113, 114, 115, 116, 117, 118, 119, 120, 121, 122, 123, 124, 125, 126, 127, 128] M M' := by
  intro n
  induction n with
  | zero =>
    intro x2 x3 M M' h
    cases h
  | succ n ih =>
    intro x2 x3 M M' h
    rw [f_r_readChoose_99] at h
    by_cases hc : (6 : Int32) ≤ x3
    · replace h := (if_pos hc).symm.trans h
      obtain rfl := Option.some.inj h
      exact Fr.rf
    · replace h := (if_neg hc).symm.trans h
      by_cases hc : x2 = (-1 : Int32)
      · replace h := (if_pos hc).symm.trans h
        obtain rfl := Option.some.inj h
        exact Fr.rf
      · replace h := (if_neg hc).symm.trans h
        obtain ⟨q10, e_q10, h⟩ := Option.bind_eq_some_iff.mp h
        obtain ⟨q11, e_q11, h⟩ := Option.bind_eq_some_iff.mp h
        refine Fr.tr (Fr.sub (fr_p_aim x2 (gi M 104 3) M q11 e_q11) (by first | decide | simp)) ?_
        exact ih (q10 - (1 : Int32)) (x3 + (1 : Int32)) q11 _ h
set_option maxRecDepth 100000 in
theorem fr_r_readChoose_70 (N : Nat) (RO : Int32 → Mem → Option Mem) (hRO : ∀ (x1 : Int32) (M M2 : Mem), RO x1 M = some M2 → Fr [6, 100, 102, 103, 104, 105, 106, 107, 113, 114, 115, 116, 117, 118, 119, 120, 121, 122, 123, 124, 125, 126, 127, 128] M M2) (x1 : Int32) (x2 : Int32) (M : Mem) (M' : Mem) (h : f_r_readChoose_70 N RO x1 x2 M = some M') : Fr [6, 100, 102, 103, 104, 105, 106, 107, 113, 114, 115, 116, 117, 118, 119, 120, 121, 122, 123, 124, 125, 126, 127, 128] M M' := by
  rw [f_r_readChoose_70] at h
  obtain ⟨q6, e_q6, h⟩ := Option.bind_eq_some_iff.mp h
  refine Fr.tr (Fr.sub (fr_r_expect (30 : Int32) M q6 e_q6) (by first | decide | simp)) ?_
  obtain ⟨q7, e_q7, h⟩ := Option.bind_eq_some_iff.mp h
  refine Fr.tr (Fr.sub (fr_p_put (52 : Int32) (0 : Int32) q6 q7 e_q7) (by first | decide | simp)) ?_
  obtain ⟨q8, e_q8, h⟩ := Option.bind_eq_some_iff.mp h
  refine Fr.tr (Fr.sub (fr_r_readSum N RO hRO x1 q7 q8 e_q8) (by first | decide | simp)) ?_
  obtain ⟨q9, e_q9, h⟩ := Option.bind_eq_some_iff.mp h
  refine Fr.tr (Fr.sub (fr_r_expect (31 : Int32) q8 q9 e_q9) (by first | decide | simp)) ?_
  exact fr_r_readChoose_99 N RO hRO N x2 (0 : Int32) q9 _ h
set_option maxRecDepth 100000 in
theorem fr_r_readChoose_27 (N : Nat) (RO : Int32 → Mem → Option Mem) (hRO : ∀ (x1 : Int32) (M M2 : Mem), RO x1 M = some M2 → Fr [6, 100, 102, 103, 104, 105, 106, 107, 113, 114, 115, 116, 117, 118, 119, 120, 121, 122, 123, 124, 125, 126, 127, 128] M M2) : ∀ (n : Nat) (x1 : Int32) (x2 : Int32) (x3 : Int32) (M : Mem) (M' : Mem), f_r_readChoose_27 N RO n x1 x2 x3 M = some M' → Fr [6, 100, 102, 103, 104, 105, 106, 107, 113, 114, 115, 116, 117, 118, 119, 120, 121, 122, 123, 124, 125, 126, 127, 128] M M' := by
  intro n
  induction n with
  | zero =>
    intro x1 x2 x3 M M' h
    cases h
  | succ n ih =>
    intro x1 x2 x3 M M' h
    rw [f_r_readChoose_27] at h
    by_cases hc : (6 : Int32) < x3
    · replace h := (if_pos hc).symm.trans h
      exact fr_r_readChoose_70 N RO hRO x1 x2 M _ h
    · replace h := (if_neg hc).symm.trans h
      by_cases hc : (gi M 103 7) = (28 : Int32)
      · replace h := (if_pos hc).symm.trans h
        by_cases hc : x3 = (6 : Int32)
        · replace h := (if_pos hc).symm.trans h
          obtain ⟨q4, e_q4, h⟩ := Option.bind_eq_some_iff.mp h
          refine Fr.tr (Fr.sub (fr_r_fail (7 : Int32) M q4 e_q4) (by first | decide | simp)) ?_
          exact ih x1 x2 (x3 + (1 : Int32)) q4 _ h
        · replace h := (if_neg hc).symm.trans h
          obtain ⟨q5, e_q5, h⟩ := Option.bind_eq_some_iff.mp h
          refine Fr.tr (Fr.sub (fr_r_readCase N RO hRO x1 x2 M q5.1 q5.2 e_q5) (by first | decide | simp)) ?_
          exact ih x1 q5.1 (x3 + (1 : Int32)) q5.2 _ h
      · replace h := (if_neg hc).symm.trans h
        exact fr_r_readChoose_70 N RO hRO x1 x2 M _ h
set_option maxRecDepth 100000 in
theorem fr_r_readChoose (N : Nat) (RO : Int32 → Mem → Option Mem) (hRO : ∀ (x1 : Int32) (M M2 : Mem), RO x1 M = some M2 → Fr [6, 100, 102, 103, 104, 105, 106, 107, 113, 114, 115, 116, 117, 118, 119, 120, 121, 122, 123, 124, 125, 126, 127, 128] M M2) (x1 : Int32) (M : Mem) (M' : Mem) (h : f_r_readChoose N RO x1 M = some M') : Fr [6, 100, 102, 103, 104, 105, 106, 107, 113, 114, 115, 116, 117, 118, 119, 120, 121, 122, 123, 124, 125, 126, 127, 128] M M' := by
  rw [f_r_readChoose] at h
  obtain ⟨q1, e_q1, h⟩ := Option.bind_eq_some_iff.mp h
  refine Fr.tr (Fr.sub (fr_r_advance M q1 e_q1) (by first | decide | simp)) ?_
  obtain ⟨q2, e_q2, h⟩ := Option.bind_eq_some_iff.mp h
  refine Fr.tr (Fr.sub (fr_r_readSum N RO hRO x1 q1 q2 e_q2) (by first | decide | simp)) ?_
  by_cases hc : (gi q2 103 7) = (28 : Int32)
  · replace h := (if_pos hc).symm.trans h
    exact fr_r_readChoose_27 N RO hRO N x1 (-1 : Int32) (0 : Int32) q2 _ h
  · replace h := (if_neg hc).symm.trans h
    obtain ⟨q3, e_q3, h⟩ := Option.bind_eq_some_iff.mp h
    refine Fr.tr (Fr.sub (fr_r_fail (1 : Int32) q2 q3 e_q3) (by first | decide | simp)) ?_
    exact fr_r_readChoose_27 N RO hRO N x1 (-1 : Int32) (0 : Int32) q3 _ h
set_option maxRecDepth 100000 in
theorem fr_r_readOne_84 (N : Nat) (RO : Int32 → Mem → Option Mem) (hRO : ∀ (x1 : Int32) (M M2 : Mem), RO x1 M = some M2 → Fr [6, 100, 102, 103, 104, 105, 106, 107, 113, 114, 115, 116, 117, 118, 119, 120, 121, 122, 123, 124, 125, 126, 127, 128] M M2) (x1 : Int32) (M : Mem) (M' : Mem) (h : f_r_readOne_84 N RO x1 M = some M') : Fr [6, 100, 102, 103, 104, 105, 106, 107, 113, 114, 115, 116, 117, 118, 119, 120, 121, 122, 123, 124, 125, 126, 127, 128] M M' := by
  rw [f_r_readOne_84] at h
  by_cases hc : x1 < (8 : Int32)
  · replace h := (if_pos hc).symm.trans h
    by_cases hc : (gi M 103 7) = (27 : Int32)
    · replace h := (if_pos hc).symm.trans h
      obtain ⟨q5, e_q5, h⟩ := Option.bind_eq_some_iff.mp h
      refine Fr.tr (Fr.sub (fr_r_readChoose N RO hRO (x1 + (1 : Int32)) M q5 e_q5) (by first | decide | simp)) ?_
      obtain rfl := Option.some.inj h
      exact Fr.rf
    · replace h := (if_neg hc).symm.trans h
      by_cases hc : (gi M 103 7) = (42 : Int32)
      · replace h := (if_pos hc).symm.trans h
        obtain ⟨q6, e_q6, h⟩ := Option.bind_eq_some_iff.mp h
        refine Fr.tr (Fr.sub (fr_r_advance M q6 e_q6) (by first | decide | simp)) ?_
        obtain ⟨q7, e_q7, h⟩ := Option.bind_eq_some_iff.mp h
        refine Fr.tr (Fr.sub (fr_r_readSum N RO hRO (x1 + (1 : Int32)) q6 q7 e_q7) (by first | decide | simp)) ?_
        obtain ⟨q8, e_q8, h⟩ := Option.bind_eq_some_iff.mp h
        refine Fr.tr (Fr.sub (fr_r_expect (43 : Int32) q7 q8 e_q8) (by first | decide | simp)) ?_
        obtain rfl := Option.some.inj h
        exact Fr.rf
      · replace h := (if_neg hc).symm.trans h
        obtain ⟨q9, e_q9, h⟩ := Option.bind_eq_some_iff.mp h
        refine Fr.tr (Fr.sub (fr_r_advance M q9 e_q9) (by first | decide | simp)) ?_
        obtain ⟨q10, e_q10, h⟩ := Option.bind_eq_some_iff.mp h
        refine Fr.tr (hRO (x1 + (1 : Int32)) q9 q10 e_q10) ?_
        obtain ⟨q11, e_q11, h⟩ := Option.bind_eq_some_iff.mp h
        refine Fr.tr (Fr.sub (fr_p_put (50 : Int32) (0 : Int32) q10 q11 e_q11) (by first | decide | simp)) ?_
        obtain rfl := Option.some.inj h
        exact Fr.rf
  · replace h := (if_neg hc).symm.trans h
    obtain ⟨q12, e_q12, h⟩ := Option.bind_eq_some_iff.mp h
    refine Fr.tr (Fr.sub (fr_r_fail (3 : Int32) M q12 e_q12) (by first | decide | simp)) ?_
    obtain rfl := Option.some.inj h
    exact Fr.rf
set_option maxRecDepth 100000 in
theorem fr_r_readOneB (N : Nat) (RO : Int32 → Mem → Option Mem) (hRO : ∀ (x1 : Int32) (M M2 : Mem), RO x1 M = some M2 → Fr [6, 100, 102, 103, 104, 105, 106, 107, 113, 114, 115, 116, 117, 118, 119, 120, 121, 122, 123, 124, 125, 126, 127, 128] M M2) (x1 : Int32) (M : Mem) (M' : Mem) (h : f_r_readOneB N RO x1 M = some M') : Fr [6, 100, 102, 103, 104, 105, 106, 107, 113, 114, 115, 116, 117, 118, 119, 120, 121, 122, 123, 124, 125, 126, 127, 128] M M' := by
  rw [f_r_readOneB] at h
  by_cases hc : (gi M 103 7) = (33 : Int32)
  · replace h := (if_pos hc).symm.trans h
    obtain ⟨q1, e_q1, h⟩ := Option.bind_eq_some_iff.mp h
    refine Fr.tr (Fr.sub (fr_r_expectNumber (0 : Int32) (9999 : Int32) M q1.1 q1.2 e_q1) (by first | decide | simp)) ?_
    obtain ⟨q2, e_q2, h⟩ := Option.bind_eq_some_iff.mp h
    refine Fr.tr (Fr.sub (fr_p_put (33 : Int32) q1.1 q1.2 q2 e_q2) (by first | decide | simp)) ?_
    obtain rfl := Option.some.inj h
    exact Fr.rf
  · replace h := (if_neg hc).symm.trans h
    by_cases hc : (f_w_within (gi M 103 7) (0 : Int32) (11 : Int32) M) = (0 : Int32)
    · replace h := (if_pos hc).symm.trans h
      by_cases hc : (gi M 103 7) = (42 : Int32)
      · replace h := (if_pos hc).symm.trans h
        exact fr_r_readOne_84 N RO hRO x1 M _ h
      · replace h := (if_neg hc).symm.trans h
        by_cases hc : (gi M 103 7) = (39 : Int32)
        · replace h := (if_pos hc).symm.trans h
          exact fr_r_readOne_84 N RO hRO x1 M _ h
        · replace h := (if_neg hc).symm.trans h
          by_cases hc : (gi M 103 7) = (27 : Int32)
          · replace h := (if_pos hc).symm.trans h
            exact fr_r_readOne_84 N RO hRO x1 M _ h
          · replace h := (if_neg hc).symm.trans h
            obtain ⟨q3, e_q3, h⟩ := Option.bind_eq_some_iff.mp h
            refine Fr.tr (Fr.sub (fr_r_fail (1 : Int32) M q3 e_q3) (by first | decide | simp)) ?_
            obtain rfl := Option.some.inj h
            exact Fr.rf
    · replace h := (if_neg hc).symm.trans h
      obtain ⟨q4, e_q4, h⟩ := Option.bind_eq_some_iff.mp h
      refine Fr.tr (Fr.sub (fr_r_readName M q4 e_q4) (by first | decide | simp)) ?_
      obtain rfl := Option.some.inj h
      exact Fr.rf
set_option maxRecDepth 100000 in
theorem fr_r_readOne (N : Nat) : ∀ (k : Nat) (x1 : Int32) (M M2 : Mem), f_r_readOne N k x1 M = some M2 → Fr [6, 100, 102, 103, 104, 105, 106, 107, 113, 114, 115, 116, 117, 118, 119, 120, 121, 122, 123, 124, 125, 126, 127, 128] M M2 := by
  intro k
  induction k with
  | zero => intro x1 M M2 h; cases h
  | succ k ih =>
    intro x1 M M2 h
    rw [f_r_readOne] at h
    exact fr_r_readOneB N (f_r_readOne N k) ih x1 M M2 h
set_option maxRecDepth 100000 in
theorem fr_p_startHere (x1 : Int32) (M : Mem) (M' : Mem) (h : f_p_startHere x1 M = some M') : Fr [107] M M' := by
  rw [f_p_startHere] at h
  by_cases hc : (f_w_within x1 (12 : Int32) (14 : Int32) M) = (0 : Int32)
  · replace h := (if_pos hc).symm.trans h
    obtain rfl := Option.some.inj h
    exact Fr.rf
  · replace h := (if_neg hc).symm.trans h
    obtain ⟨g, h⟩ := am_itg h
    obtain ⟨q1, e_q1, h⟩ := Option.bind_eq_some_iff.mp h
    refine Fr.w_si e_q1 (by first | decide | simp) ?_
    obtain rfl := Option.some.inj h
    exact Fr.rf
set_option maxRecDepth 100000 in
theorem fr_r_readAsk_107 (N : Nat) (RO : Int32 → Mem → Option Mem) (hRO : ∀ (x1 : Int32) (M M2 : Mem), RO x1 M = some M2 → Fr [6, 100, 102, 103, 104, 105, 106, 107, 113, 114, 115, 116, 117, 118, 119, 120, 121, 122, 123, 124, 125, 126, 127, 128] M M2) : ∀ (n : Nat) (x1 : Int32) (x3 : Int32) (M : Mem) (M' : Mem), f_r_readAsk_107 N RO n x1 x3 M = some M' → Fr [6, 100, 102, 103, 104, 105, 106, 107, 113, 114, 115, 116, 117, 118, 119, 120, 121, 122, 123, 124, 125, 126, 127, 128] M M' := by
  intro n
  induction n with
  | zero =>
    intro x1 x3 M M' h
    cases h
  | succ n ih =>
    intro x1 x3 M M' h
    rw [f_r_readAsk_107] at h
    by_cases hc : x1 ≤ x3
    · replace h := (if_pos hc).symm.trans h
      obtain rfl := Option.some.inj h
      exact Fr.rf
    · replace h := (if_neg hc).symm.trans h
      obtain ⟨q14, e_q14, h⟩ := Option.bind_eq_some_iff.mp h
      refine Fr.tr (Fr.sub (fr_p_put (26 : Int32) (0 : Int32) M q14 e_q14) (by first | decide | simp)) ?_
      exact ih x1 (x3 + (1 : Int32)) q14 _ h
set_option maxRecDepth 100000 in
theorem fr_r_readAsk_46 (N : Nat) (RO : Int32 → Mem → Option Mem) (hRO : ∀ (x1 : Int32) (M M2 : Mem), RO x1 M = some M2 → Fr [6, 100, 102, 103, 104, 105, 106, 107, 113, 114, 115, 116, 117, 118, 119, 120, 121, 122, 123, 124, 125, 126, 127, 128] M M2) (x1 : Int32) (M : Mem) (M' : Mem) (h : f_r_readAsk_46 N RO x1 M = some M') : Fr [6, 100, 102, 103, 104, 105, 106, 107, 113, 114, 115, 116, 117, 118, 119, 120, 121, 122, 123, 124, 125, 126, 127, 128] M M' := by
  rw [f_r_readAsk_46] at h
  obtain ⟨q3, e_q3, h⟩ := Option.bind_eq_some_iff.mp h
  refine Fr.tr (Fr.sub (fr_r_readSum N RO hRO x1 M q3 e_q3) (by first | decide | simp)) ?_
  by_cases hc : (f_w_within (gi q3 103 7) (34 : Int32) (37 : Int32) q3) = (0 : Int32)
  · replace h := (if_pos hc).symm.trans h
    by_cases hc : (gi q3 103 7) = (46 : Int32)
    · replace h := (if_pos hc).symm.trans h
      obtain ⟨q4, e_q4, h⟩ := Option.bind_eq_some_iff.mp h
      refine Fr.tr (Fr.sub (fr_r_advance q3 q4 e_q4) (by first | decide | simp)) ?_
      obtain ⟨q5, e_q5, h⟩ := Option.bind_eq_some_iff.mp h
      refine Fr.tr (Fr.sub (fr_r_readSum N RO hRO x1 q4 q5 e_q5) (by first | decide | simp)) ?_
      obtain ⟨q6, e_q6, h⟩ := Option.bind_eq_some_iff.mp h
      refine Fr.tr (Fr.sub (fr_p_put (gi q3 103 7) (0 : Int32) q5 q6 e_q6) (by first | decide | simp)) ?_
      exact fr_r_readAsk_107 N RO hRO N x1 (0 : Int32) q6 _ h
    · replace h := (if_neg hc).symm.trans h
      by_cases hc : (gi q3 103 7) = (47 : Int32)
      · replace h := (if_pos hc).symm.trans h
        obtain ⟨q7, e_q7, h⟩ := Option.bind_eq_some_iff.mp h
        refine Fr.tr (Fr.sub (fr_r_advance q3 q7 e_q7) (by first | decide | simp)) ?_
        obtain ⟨q8, e_q8, h⟩ := Option.bind_eq_some_iff.mp h
        refine Fr.tr (Fr.sub (fr_r_readSum N RO hRO x1 q7 q8 e_q8) (by first | decide | simp)) ?_
        obtain ⟨q9, e_q9, h⟩ := Option.bind_eq_some_iff.mp h
        refine Fr.tr (Fr.sub (fr_p_put (gi q3 103 7) (0 : Int32) q8 q9 e_q9) (by first | decide | simp)) ?_
        exact fr_r_readAsk_107 N RO hRO N x1 (0 : Int32) q9 _ h
      · replace h := (if_neg hc).symm.trans h
        obtain ⟨q10, e_q10, h⟩ := Option.bind_eq_some_iff.mp h
        refine Fr.tr (Fr.sub (fr_r_fail (1 : Int32) q3 q10 e_q10) (by first | decide | simp)) ?_
        exact fr_r_readAsk_107 N RO hRO N x1 (0 : Int32) q10 _ h
  · replace h := (if_neg hc).symm.trans h
    obtain ⟨q11, e_q11, h⟩ := Option.bind_eq_some_iff.mp h
    refine Fr.tr (Fr.sub (fr_r_advance q3 q11 e_q11) (by first | decide | simp)) ?_
    obtain ⟨q12, e_q12, h⟩ := Option.bind_eq_some_iff.mp h
    refine Fr.tr (Fr.sub (fr_r_readSum N RO hRO x1 q11 q12 e_q12) (by first | decide | simp)) ?_
    obtain ⟨q13, e_q13, h⟩ := Option.bind_eq_some_iff.mp h
    refine Fr.tr (Fr.sub (fr_p_put (gi q3 103 7) (0 : Int32) q12 q13 e_q13) (by first | decide | simp)) ?_
    exact fr_r_readAsk_107 N RO hRO N x1 (0 : Int32) q13 _ h
set_option maxRecDepth 100000 in
theorem fr_r_readAsk_4 (N : Nat) (RO : Int32 → Mem → Option Mem) (hRO : ∀ (x1 : Int32) (M M2 : Mem), RO x1 M = some M2 → Fr [6, 100, 102, 103, 104, 105, 106, 107, 113, 114, 115, 116, 117, 118, 119, 120, 121, 122, 123, 124, 125, 126, 127, 128] M M2) : ∀ (n : Nat) (x1 : Int32) (x2 : Int32) (M : Mem) (M' : Mem), f_r_readAsk_4 N RO n x1 x2 M = some M' → Fr [6, 100, 102, 103, 104, 105, 106, 107, 113, 114, 115, 116, 117, 118, 119, 120, 121, 122, 123, 124, 125, 126, 127, 128] M M' := by
  intro n
  induction n with
  | zero =>
    intro x1 x2 M M' h
    cases h
  | succ n ih =>
    intro x1 x2 M M' h
    rw [f_r_readAsk_4] at h
    by_cases hc : (8 : Int32) < x2
    · replace h := (if_pos hc).symm.trans h
      exact fr_r_readAsk_46 N RO hRO x1 M _ h
    · replace h := (if_neg hc).symm.trans h
      by_cases hc : (gi M 103 7) = (26 : Int32)
      · replace h := (if_pos hc).symm.trans h
        by_cases hc : x1 < (8 : Int32)
        · replace h := (if_pos hc).symm.trans h
          obtain ⟨q1, e_q1, h⟩ := Option.bind_eq_some_iff.mp h
          refine Fr.tr (Fr.sub (fr_r_advance M q1 e_q1) (by first | decide | simp)) ?_
          exact ih (x1 + (1 : Int32)) (x2 + (1 : Int32)) q1 _ h
        · replace h := (if_neg hc).symm.trans h
          obtain ⟨q2, e_q2, h⟩ := Option.bind_eq_some_iff.mp h
          refine Fr.tr (Fr.sub (fr_r_fail (3 : Int32) M q2 e_q2) (by first | decide | simp)) ?_
          exact ih x1 (x2 + (1 : Int32)) q2 _ h
      · replace h := (if_neg hc).symm.trans h
        exact fr_r_readAsk_46 N RO hRO x1 M _ h
set_option maxRecDepth 100000 in
theorem fr_r_readAsk (N : Nat) (RO : Int32 → Mem → Option Mem) (hRO : ∀ (x1 : Int32) (M M2 : Mem), RO x1 M = some M2 → Fr [6, 100, 102, 103, 104, 105, 106, 107, 113, 114, 115, 116, 117, 118, 119, 120, 121, 122, 123, 124, 125, 126, 127, 128] M M2) (M : Mem) (M' : Mem) (h : f_r_readAsk N RO M = some M') : Fr [6, 100, 102, 103, 104, 105, 106, 107, 113, 114, 115, 116, 117, 118, 119, 120, 121, 122, 123, 124, 125, 126, 127, 128] M M' := by
  rw [f_r_readAsk] at h
  exact fr_r_readAsk_4 N RO hRO N (0 : Int32) (0 : Int32) M _ h
set_option maxRecDepth 100000 in
theorem fr_r_readEither_36 (N : Nat) (RO : Int32 → Mem → Option Mem) (hRO : ∀ (x1 : Int32) (M M2 : Mem), RO x1 M = some M2 → Fr [6, 100, 102, 103, 104, 105, 106, 107, 113, 114, 115, 116, 117, 118, 119, 120, 121, 122, 123, 124, 125, 126, 127, 128] M M2) (K2 : Int32 → Mem → Option Mem) (hK2 : ∀ (x1 : Int32) (M : Mem) (M' : Mem), K2 x1 M = some M' → Fr [6, 100, 102, 103, 104, 105, 106, 107, 113, 114, 115, 116, 117, 118, 119, 120, 121, 122, 123, 124, 125, 126, 127, 128] M M') : ∀ (n : Nat) (x1 : Int32) (x2 : Int32) (M : Mem) (M' : Mem), f_r_readEither_36 N RO K2 n x1 x2 M = some M' → Fr [6, 100, 102, 103, 104, 105, 106, 107, 113, 114, 115, 116, 117, 118, 119, 120, 121, 122, 123, 124, 125, 126, 127, 128] M M' := by
  intro n
  induction n with
  | zero =>
    intro x1 x2 M M' h
    cases h
  | succ n ih =>
    intro x1 x2 M M' h
    rw [f_r_readEither_36] at h
    by_cases hc : (300 : Int32) ≤ x2
    · replace h := (if_pos hc).symm.trans h
      by_cases hc : x1 ≤ (0 : Int32)
      · replace h := (if_pos hc).symm.trans h
        exact hK2 (x1 + (1 : Int32)) M _ h
      · replace h := (if_neg hc).symm.trans h
        obtain ⟨q7, e_q7, h⟩ := Option.bind_eq_some_iff.mp h
        refine Fr.tr (Fr.sub (fr_p_put (24 : Int32) (0 : Int32) M q7 e_q7) (by first | decide | simp)) ?_
        exact hK2 (x1 + (1 : Int32)) q7 _ h
    · replace h := (if_neg hc).symm.trans h
      by_cases hc : (gi M 103 7) = (25 : Int32)
      · replace h := (if_pos hc).symm.trans h
        obtain ⟨q8, e_q8, h⟩ := Option.bind_eq_some_iff.mp h
        refine Fr.tr (Fr.sub (fr_r_advance M q8 e_q8) (by first | decide | simp)) ?_
        obtain ⟨q9, e_q9, h⟩ := Option.bind_eq_some_iff.mp h
        refine Fr.tr (Fr.sub (fr_r_readAsk N RO hRO q8 q9 e_q9) (by first | decide | simp)) ?_
        obtain ⟨q10, e_q10, h⟩ := Option.bind_eq_some_iff.mp h
        refine Fr.tr (Fr.sub (fr_p_put (25 : Int32) (0 : Int32) q9 q10 e_q10) (by first | decide | simp)) ?_
        exact ih x1 (x2 + (1 : Int32)) q10 _ h
      · replace h := (if_neg hc).symm.trans h
        by_cases hc : x1 ≤ (0 : Int32)
        · replace h := (if_pos hc).symm.trans h
          exact hK2 (x1 + (1 : Int32)) M _ h
        · replace h := (if_neg hc).symm.trans h
          obtain ⟨q11, e_q11, h⟩ := Option.bind_eq_some_iff.mp h
          refine Fr.tr (Fr.sub (fr_p_put (24 : Int32) (0 : Int32) M q11 e_q11) (by first | decide | simp)) ?_
          exact hK2 (x1 + (1 : Int32)) q11 _ h
set_option maxRecDepth 100000 in
theorem fr_r_readEither_2 (N : Nat) (RO : Int32 → Mem → Option Mem) (hRO : ∀ (x1 : Int32) (M M2 : Mem), RO x1 M = some M2 → Fr [6, 100, 102, 103, 104, 105, 106, 107, 113, 114, 115, 116, 117, 118, 119, 120, 121, 122, 123, 124, 125, 126, 127, 128] M M2) : ∀ (n : Nat) (x1 : Int32) (M : Mem) (M' : Mem), f_r_readEither_2 N RO n x1 M = some M' → Fr [6, 100, 102, 103, 104, 105, 106, 107, 113, 114, 115, 116, 117, 118, 119, 120, 121, 122, 123, 124, 125, 126, 127, 128] M M' := by
  intro n
  induction n with
  | zero =>
    intro x1 M M' h
    cases h
  | succ n ih =>
    intro x1 M M' h
    rw [f_r_readEither_2] at h
    by_cases hc : (300 : Int32) ≤ x1
    · replace h := (if_pos hc).symm.trans h
      obtain rfl := Option.some.inj h
      exact Fr.rf
    · replace h := (if_neg hc).symm.trans h
      by_cases hc : x1 = (0 : Int32)
      · replace h := (if_pos hc).symm.trans h
        by_cases hc : x1 ≤ (0 : Int32)
        · replace h := (if_pos hc).symm.trans h
          obtain ⟨q1, e_q1, h⟩ := Option.bind_eq_some_iff.mp h
          refine Fr.tr (Fr.sub (fr_r_readAsk N RO hRO M q1 e_q1) (by first | decide | simp)) ?_
          exact fr_r_readEither_36 N RO hRO _ ih N x1 (0 : Int32) q1 _ h
        · replace h := (if_neg hc).symm.trans h
          obtain ⟨q2, e_q2, h⟩ := Option.bind_eq_some_iff.mp h
          refine Fr.tr (Fr.sub (fr_r_advance M q2 e_q2) (by first | decide | simp)) ?_
          obtain ⟨q3, e_q3, h⟩ := Option.bind_eq_some_iff.mp h
          refine Fr.tr (Fr.sub (fr_r_readAsk N RO hRO q2 q3 e_q3) (by first | decide | simp)) ?_
          exact fr_r_readEither_36 N RO hRO _ ih N x1 (0 : Int32) q3 _ h
      · replace h := (if_neg hc).symm.trans h
        by_cases hc : (gi M 103 7) = (24 : Int32)
        · replace h := (if_pos hc).symm.trans h
          by_cases hc : x1 ≤ (0 : Int32)
          · replace h := (if_pos hc).symm.trans h
            obtain ⟨q4, e_q4, h⟩ := Option.bind_eq_some_iff.mp h
            refine Fr.tr (Fr.sub (fr_r_readAsk N RO hRO M q4 e_q4) (by first | decide | simp)) ?_
            exact fr_r_readEither_36 N RO hRO _ ih N x1 (0 : Int32) q4 _ h
          · replace h := (if_neg hc).symm.trans h
            obtain ⟨q5, e_q5, h⟩ := Option.bind_eq_some_iff.mp h
            refine Fr.tr (Fr.sub (fr_r_advance M q5 e_q5) (by first | decide | simp)) ?_
            obtain ⟨q6, e_q6, h⟩ := Option.bind_eq_some_iff.mp h
            refine Fr.tr (Fr.sub (fr_r_readAsk N RO hRO q5 q6 e_q6) (by first | decide | simp)) ?_
            exact fr_r_readEither_36 N RO hRO _ ih N x1 (0 : Int32) q6 _ h
        · replace h := (if_neg hc).symm.trans h
          obtain rfl := Option.some.inj h
          exact Fr.rf
set_option maxRecDepth 100000 in
theorem fr_r_readEither (N : Nat) (RO : Int32 → Mem → Option Mem) (hRO : ∀ (x1 : Int32) (M M2 : Mem), RO x1 M = some M2 → Fr [6, 100, 102, 103, 104, 105, 106, 107, 113, 114, 115, 116, 117, 118, 119, 120, 121, 122, 123, 124, 125, 126, 127, 128] M M2) (M : Mem) (M' : Mem) (h : f_r_readEither N RO M = some M') : Fr [6, 100, 102, 103, 104, 105, 106, 107, 113, 114, 115, 116, 117, 118, 119, 120, 121, 122, 123, 124, 125, 126, 127, 128] M M' := by
  rw [f_r_readEither] at h
  exact fr_r_readEither_2 N RO hRO N (0 : Int32) M _ h
set_option maxRecDepth 100000 in
theorem fr_p_addClause (x1 : Int32) (x2 : Int32) (x3 : Int32) (M : Mem) (M' : Mem) (h : f_p_addClause x1 x2 x3 M = some M') : Fr [104, 106] M M' := by
  rw [f_p_addClause] at h
  by_cases hc : (f_w_within (gi M 104 4) (0 : Int32) (23 : Int32) M) = (0 : Int32)
  · replace h := (if_pos hc).symm.trans h
    obtain rfl := Option.some.inj h
    exact Fr.rf
  · replace h := (if_neg hc).symm.trans h
    obtain ⟨g, h⟩ := am_itg h
    obtain ⟨q1, e_q1, h⟩ := Option.bind_eq_some_iff.mp h
    refine Fr.w_si e_q1 (by first | decide | simp) ?_
    obtain ⟨q2, e_q2, h⟩ := Option.bind_eq_some_iff.mp h
    refine Fr.w_si e_q2 (by first | decide | simp) ?_
    obtain rfl := Option.some.inj h
    exact Fr.rf
set_option maxRecDepth 100000 in
theorem fr_r_readRest (x1 : Int32) (M : Mem) (M' : Mem) (h : f_r_readRest x1 M = some M') : Fr [103, 104, 105, 106] M M' := by
  rw [f_r_readRest] at h
  by_cases hc : (14 : Int32) < x1
  · replace h := (if_pos hc).symm.trans h
    by_cases hc : x1 = (15 : Int32)
    · replace h := (if_pos hc).symm.trans h
      obtain ⟨q1, e_q1, h⟩ := Option.bind_eq_some_iff.mp h
      refine Fr.tr (Fr.sub (fr_r_expectNumber (0 : Int32) (9 : Int32) M q1.1 q1.2 e_q1) (by first | decide | simp)) ?_
      obtain ⟨q2, e_q2, h⟩ := Option.bind_eq_some_iff.mp h
      refine Fr.tr (Fr.sub (fr_r_expect (4 : Int32) q1.2 q2 e_q2) (by first | decide | simp)) ?_
      obtain ⟨q3, e_q3, h⟩ := Option.bind_eq_some_iff.mp h
      refine Fr.tr (Fr.sub (fr_r_expectNumber (0 : Int32) (9 : Int32) q2 q3.1 q3.2 e_q3) (by first | decide | simp)) ?_
      obtain ⟨q4, e_q4, h⟩ := Option.bind_eq_some_iff.mp h
      refine Fr.tr (Fr.sub (fr_p_addClause x1 q1.1 q3.1 q3.2 q4 e_q4) (by first | decide | simp)) ?_
      obtain rfl := Option.some.inj h
      exact Fr.rf
    · replace h := (if_neg hc).symm.trans h
      by_cases hc : x1 = (21 : Int32)
      · replace h := (if_pos hc).symm.trans h
        obtain ⟨q5, e_q5, h⟩ := Option.bind_eq_some_iff.mp h
        refine Fr.tr (Fr.sub (fr_r_expectNumber (1 : Int32) (60 : Int32) M q5.1 q5.2 e_q5) (by first | decide | simp)) ?_
        obtain ⟨q6, e_q6, h⟩ := Option.bind_eq_some_iff.mp h
        refine Fr.tr (Fr.sub (fr_p_addClause x1 q5.1 (0 : Int32) q5.2 q6 e_q6) (by first | decide | simp)) ?_
        obtain rfl := Option.some.inj h
        exact Fr.rf
      · replace h := (if_neg hc).symm.trans h
        by_cases hc : x1 = (20 : Int32)
        · replace h := (if_pos hc).symm.trans h
          obtain ⟨q7, e_q7, h⟩ := Option.bind_eq_some_iff.mp h
          refine Fr.tr (Fr.sub (fr_p_addClause x1 (0 : Int32) (0 : Int32) M q7 e_q7) (by first | decide | simp)) ?_
          obtain rfl := Option.some.inj h
          exact Fr.rf
        · replace h := (if_neg hc).symm.trans h
          by_cases hc : x1 = (23 : Int32)
          · replace h := (if_pos hc).symm.trans h
            obtain ⟨q8, e_q8, h⟩ := Option.bind_eq_some_iff.mp h
            refine Fr.tr (Fr.sub (fr_p_addClause x1 (0 : Int32) (0 : Int32) M q8 e_q8) (by first | decide | simp)) ?_
            obtain rfl := Option.some.inj h
            exact Fr.rf
          · replace h := (if_neg hc).symm.trans h
            obtain ⟨q9, e_q9, h⟩ := Option.bind_eq_some_iff.mp h
            refine Fr.tr (Fr.sub (fr_r_expectNumber (0 : Int32) (7 : Int32) M q9.1 q9.2 e_q9) (by first | decide | simp)) ?_
            obtain ⟨q10, e_q10, h⟩ := Option.bind_eq_some_iff.mp h
            refine Fr.tr (Fr.sub (fr_p_addClause x1 q9.1 (0 : Int32) q9.2 q10 e_q10) (by first | decide | simp)) ?_
            obtain rfl := Option.some.inj h
            exact Fr.rf
  · replace h := (if_neg hc).symm.trans h
    obtain ⟨q11, e_q11, h⟩ := Option.bind_eq_some_iff.mp h
    refine Fr.tr (Fr.sub (fr_p_put (53 : Int32) (0 : Int32) M q11 e_q11) (by first | decide | simp)) ?_
    obtain ⟨q12, e_q12, h⟩ := Option.bind_eq_some_iff.mp h
    refine Fr.tr (Fr.sub (fr_p_addClause x1 (0 : Int32) (0 : Int32) q11 q12 e_q12) (by first | decide | simp)) ?_
    obtain rfl := Option.some.inj h
    exact Fr.rf
set_option maxRecDepth 100000 in
theorem fr_r_readClause (N : Nat) (M : Mem) (M' : Mem) (h : f_r_readClause N M = some M') : Fr [6, 100, 102, 103, 104, 105, 106, 107, 113, 114, 115, 116, 117, 118, 119, 120, 121, 122, 123, 124, 125, 126, 127, 128] M M' := by
  rw [f_r_readClause] at h
  by_cases hc : (f_w_within (gi M 103 7) (12 : Int32) (23 : Int32) M) = (0 : Int32)
  · replace h := (if_pos hc).symm.trans h
    obtain ⟨q1, e_q1, h⟩ := Option.bind_eq_some_iff.mp h
    refine Fr.tr (Fr.sub (fr_r_fail (1 : Int32) M q1 e_q1) (by first | decide | simp)) ?_
    obtain rfl := Option.some.inj h
    exact Fr.rf
  · replace h := (if_neg hc).symm.trans h
    obtain ⟨q2, e_q2, h⟩ := Option.bind_eq_some_iff.mp h
    by_cases hc : q2 = (-1 : Int32)
    · replace h := (if_pos hc).symm.trans h
      by_cases hc : (gi M 104 4) < (24 : Int32)
      · replace h := (if_pos hc).symm.trans h
        obtain ⟨q3, e_q3, h⟩ := Option.bind_eq_some_iff.mp h
        refine Fr.tr (Fr.sub (fr_r_advance M q3 e_q3) (by first | decide | simp)) ?_
        obtain ⟨q4, e_q4, h⟩ := Option.bind_eq_some_iff.mp h
        refine Fr.w_si e_q4 (by first | decide | simp) ?_
        obtain ⟨q5, e_q5, h⟩ := Option.bind_eq_some_iff.mp h
        refine Fr.tr (Fr.sub (fr_p_startHere (gi M 103 7) q4 q5 e_q5) (by first | decide | simp)) ?_
        by_cases hc : (gi M 103 7) = (12 : Int32)
        · replace h := (if_pos hc).symm.trans h
          obtain ⟨q6, e_q6, h⟩ := Option.bind_eq_some_iff.mp h
          refine Fr.tr (Fr.sub (fr_r_readEither N (f_r_readOne N 12) (fr_r_readOne N 12) q5 q6 e_q6) (by first | decide | simp)) ?_
          obtain ⟨q7, e_q7, h⟩ := Option.bind_eq_some_iff.mp h
          refine Fr.tr (Fr.sub (fr_r_readRest (gi M 103 7) q6 q7 e_q7) (by first | decide | simp)) ?_
          obtain ⟨q8, e_q8, h⟩ := Option.bind_eq_some_iff.mp h
          refine Fr.tr (Fr.sub (fr_r_expect (45 : Int32) q7 q8 e_q8) (by first | decide | simp)) ?_
          obtain rfl := Option.some.inj h
          exact Fr.rf
        · replace h := (if_neg hc).symm.trans h
          by_cases hc : (14 : Int32) < (gi M 103 7)
          · replace h := (if_pos hc).symm.trans h
            obtain ⟨q9, e_q9, h⟩ := Option.bind_eq_some_iff.mp h
            refine Fr.tr (Fr.sub (fr_r_readRest (gi M 103 7) q5 q9 e_q9) (by first | decide | simp)) ?_
            obtain ⟨q10, e_q10, h⟩ := Option.bind_eq_some_iff.mp h
            refine Fr.tr (Fr.sub (fr_r_expect (45 : Int32) q9 q10 e_q10) (by first | decide | simp)) ?_
            obtain rfl := Option.some.inj h
            exact Fr.rf
          · replace h := (if_neg hc).symm.trans h
            obtain ⟨q11, e_q11, h⟩ := Option.bind_eq_some_iff.mp h
            refine Fr.tr (Fr.sub (fr_r_readSum N (f_r_readOne N 12) (fr_r_readOne N 12) (0 : Int32) q5 q11 e_q11) (by first | decide | simp)) ?_
            obtain ⟨q12, e_q12, h⟩ := Option.bind_eq_some_iff.mp h
            refine Fr.tr (Fr.sub (fr_r_readRest (gi M 103 7) q11 q12 e_q12) (by first | decide | simp)) ?_
            obtain ⟨q13, e_q13, h⟩ := Option.bind_eq_some_iff.mp h
            refine Fr.tr (Fr.sub (fr_r_expect (45 : Int32) q12 q13 e_q13) (by first | decide | simp)) ?_
            obtain rfl := Option.some.inj h
            exact Fr.rf
      · replace h := (if_neg hc).symm.trans h
        obtain ⟨q14, e_q14, h⟩ := Option.bind_eq_some_iff.mp h
        refine Fr.tr (Fr.sub (fr_r_fail (6 : Int32) M q14 e_q14) (by first | decide | simp)) ?_
        obtain rfl := Option.some.inj h
        exact Fr.rf
    · replace h := (if_neg hc).symm.trans h
      obtain ⟨q15, e_q15, h⟩ := Option.bind_eq_some_iff.mp h
      refine Fr.tr (Fr.sub (fr_r_fail (4 : Int32) M q15 e_q15) (by first | decide | simp)) ?_
      obtain rfl := Option.some.inj h
      exact Fr.rf
set_option maxRecDepth 100000 in
theorem fr_r_read_52 (N : Nat) : ∀ (n : Nat) (x1 : Int32) (M : Mem) (M' : Mem), f_r_read_52 N n x1 M = some M' → Fr [6, 100, 102, 103, 104, 105, 106, 107, 113, 114, 115, 116, 117, 118, 119, 120, 121, 122, 123, 124, 125, 126, 127, 128] M M' := by
  intro n
  induction n with
  | zero =>
    intro x1 M M' h
    cases h
  | succ n ih =>
    intro x1 M M' h
    rw [f_r_read_52] at h
    by_cases hc : (24 : Int32) < x1
    · replace h := (if_pos hc).symm.trans h
      obtain rfl := Option.some.inj h
      exact Fr.rf
    · replace h := (if_neg hc).symm.trans h
      by_cases hc : (gi M 103 7) = (48 : Int32)
      · replace h := (if_pos hc).symm.trans h
        obtain rfl := Option.some.inj h
        exact Fr.rf
      · replace h := (if_neg hc).symm.trans h
        by_cases hc : (gi M 103 7) = (49 : Int32)
        · replace h := (if_pos hc).symm.trans h
          obtain rfl := Option.some.inj h
          exact Fr.rf
        · replace h := (if_neg hc).symm.trans h
          obtain ⟨q8, e_q8, h⟩ := Option.bind_eq_some_iff.mp h
          refine Fr.tr (Fr.sub (fr_r_readClause N M q8 e_q8) (by first | decide | simp)) ?_
          exact ih (x1 + (1 : Int32)) q8 _ h
set_option maxRecDepth 100000 in
theorem fr_r_read (N : Nat) (M : Mem) (M' : Mem) (h : f_r_read N M = some M') : Fr [6, 100, 102, 103, 104, 105, 106, 107, 113, 114, 115, 116, 117, 118, 119, 120, 121, 122, 123, 124, 125, 126, 127, 128] M M' := by
  rw [f_r_read] at h
  obtain ⟨q1, e_q1, h⟩ := Option.bind_eq_some_iff.mp h
  refine Fr.tr (Fr.sub (fr_p_clear N M q1 e_q1) (by first | decide | simp)) ?_
  obtain ⟨q2, e_q2, h⟩ := Option.bind_eq_some_iff.mp h
  refine Fr.w_si e_q2 (by first | decide | simp) ?_
  obtain ⟨q3, e_q3, h⟩ := Option.bind_eq_some_iff.mp h
  refine Fr.w_si e_q3 (by first | decide | simp) ?_
  obtain ⟨q4, e_q4, h⟩ := Option.bind_eq_some_iff.mp h
  refine Fr.w_si e_q4 (by first | decide | simp) ?_
  obtain ⟨q5, e_q5, h⟩ := Option.bind_eq_some_iff.mp h
  refine Fr.tr (Fr.sub (fr_a_cut N q4 q5 e_q5) (by first | decide | simp)) ?_
  obtain ⟨q6, e_q6, h⟩ := Option.bind_eq_some_iff.mp h
  refine Fr.w_si e_q6 (by first | decide | simp) ?_
  obtain ⟨q7, e_q7, h⟩ := Option.bind_eq_some_iff.mp h
  refine Fr.w_si e_q7 (by first | decide | simp) ?_
  exact fr_r_read_52 N N (0 : Int32) q7 _ h
set_option maxRecDepth 100000 in
theorem fr_p_copyFrom_a_104 (a : Nat) (M : Mem) (M' : Mem) (h : f_p_copyFrom_a_104 a M = some M') : Fr [a, (a + 1), (a + 2), (a + 3)] M M' := by
  rw [f_p_copyFrom_a_104] at h
  obtain ⟨q1, e_q1, h⟩ := Option.bind_eq_some_iff.mp h
  refine Fr.w_sr e_q1 (by first | decide | simp) ?_
  obtain ⟨q2, e_q2, h⟩ := Option.bind_eq_some_iff.mp h
  refine Fr.w_sr e_q2 (by first | decide | simp) ?_
  obtain ⟨q3, e_q3, h⟩ := Option.bind_eq_some_iff.mp h
  refine Fr.w_sr e_q3 (by first | decide | simp) ?_
  obtain ⟨q4, e_q4, h⟩ := Option.bind_eq_some_iff.mp h
  refine Fr.w_si e_q4 (by first | decide | simp) ?_
  obtain ⟨q5, e_q5, h⟩ := Option.bind_eq_some_iff.mp h
  refine Fr.w_si e_q5 (by first | decide | simp) ?_
  obtain rfl := Option.some.inj h
  exact Fr.rf
set_option maxRecDepth 100000 in
theorem fr_w_text (N : Nat) (M : Mem) (r : Int32) (M' : Mem) (h : f_w_text N M = some (r, M')) : Fr [6, 100, 102, 103, 104, 105, 106, 107, 113, 114, 115, 116, 117, 118, 119, 120, 121, 122, 123, 124, 125, 126, 127, 128] M M' := by
  rw [f_w_text] at h
  cases hs : w_scr (gi M 6 4) with
  | none =>
    rw [hs] at h
    obtain ⟨rfl, rfl⟩ := Prod.mk.inj (Option.some.inj h)
    exact Fr.rf
  | some a =>
    rw [hs] at h
    rcases w_scr_cases hs with rfl | rfl | rfl | rfl
    · obtain ⟨q1, e_q1, h⟩ := Option.bind_eq_some_iff.mp h
      refine Fr.tr (Fr.sub (fr_r_read N M q1 e_q1) (by first | decide | simp)) ?_
      obtain ⟨q2, e_q2, h⟩ := Option.bind_eq_some_iff.mp h
      refine Fr.w_si e_q2 (by first | decide | simp) ?_
      by_cases hc : (gi q2 103 1) = (0 : Int32)
      · replace h := (if_pos hc).symm.trans h
        obtain ⟨q3, e_q3, h⟩ := Option.bind_eq_some_iff.mp h
        refine Fr.tr (Fr.sub (fr_p_copyFrom_a_104 113 q2 q3 e_q3) (by first | decide | simp)) ?_
        obtain ⟨q4, e_q4, h⟩ := Option.bind_eq_some_iff.mp h
        refine Fr.w_si e_q4 (by first | decide | simp) ?_
        obtain ⟨rfl, rfl⟩ := Prod.mk.inj (Option.some.inj h)
        exact Fr.rf
      · replace h := (if_neg hc).symm.trans h
        obtain ⟨rfl, rfl⟩ := Prod.mk.inj (Option.some.inj h)
        exact Fr.rf
    · obtain ⟨q1, e_q1, h⟩ := Option.bind_eq_some_iff.mp h
      refine Fr.tr (Fr.sub (fr_r_read N M q1 e_q1) (by first | decide | simp)) ?_
      obtain ⟨q2, e_q2, h⟩ := Option.bind_eq_some_iff.mp h
      refine Fr.w_si e_q2 (by first | decide | simp) ?_
      by_cases hc : (gi q2 103 1) = (0 : Int32)
      · replace h := (if_pos hc).symm.trans h
        obtain ⟨q3, e_q3, h⟩ := Option.bind_eq_some_iff.mp h
        refine Fr.tr (Fr.sub (fr_p_copyFrom_a_104 117 q2 q3 e_q3) (by first | decide | simp)) ?_
        obtain ⟨q4, e_q4, h⟩ := Option.bind_eq_some_iff.mp h
        refine Fr.w_si e_q4 (by first | decide | simp) ?_
        obtain ⟨rfl, rfl⟩ := Prod.mk.inj (Option.some.inj h)
        exact Fr.rf
      · replace h := (if_neg hc).symm.trans h
        obtain ⟨rfl, rfl⟩ := Prod.mk.inj (Option.some.inj h)
        exact Fr.rf
    · obtain ⟨q1, e_q1, h⟩ := Option.bind_eq_some_iff.mp h
      refine Fr.tr (Fr.sub (fr_r_read N M q1 e_q1) (by first | decide | simp)) ?_
      obtain ⟨q2, e_q2, h⟩ := Option.bind_eq_some_iff.mp h
      refine Fr.w_si e_q2 (by first | decide | simp) ?_
      by_cases hc : (gi q2 103 1) = (0 : Int32)
      · replace h := (if_pos hc).symm.trans h
        obtain ⟨q3, e_q3, h⟩ := Option.bind_eq_some_iff.mp h
        refine Fr.tr (Fr.sub (fr_p_copyFrom_a_104 121 q2 q3 e_q3) (by first | decide | simp)) ?_
        obtain ⟨q4, e_q4, h⟩ := Option.bind_eq_some_iff.mp h
        refine Fr.w_si e_q4 (by first | decide | simp) ?_
        obtain ⟨rfl, rfl⟩ := Prod.mk.inj (Option.some.inj h)
        exact Fr.rf
      · replace h := (if_neg hc).symm.trans h
        obtain ⟨rfl, rfl⟩ := Prod.mk.inj (Option.some.inj h)
        exact Fr.rf
    · obtain ⟨q1, e_q1, h⟩ := Option.bind_eq_some_iff.mp h
      refine Fr.tr (Fr.sub (fr_r_read N M q1 e_q1) (by first | decide | simp)) ?_
      obtain ⟨q2, e_q2, h⟩ := Option.bind_eq_some_iff.mp h
      refine Fr.w_si e_q2 (by first | decide | simp) ?_
      by_cases hc : (gi q2 103 1) = (0 : Int32)
      · replace h := (if_pos hc).symm.trans h
        obtain ⟨q3, e_q3, h⟩ := Option.bind_eq_some_iff.mp h
        refine Fr.tr (Fr.sub (fr_p_copyFrom_a_104 125 q2 q3 e_q3) (by first | decide | simp)) ?_
        obtain ⟨q4, e_q4, h⟩ := Option.bind_eq_some_iff.mp h
        refine Fr.w_si e_q4 (by first | decide | simp) ?_
        obtain ⟨rfl, rfl⟩ := Prod.mk.inj (Option.some.inj h)
        exact Fr.rf
      · replace h := (if_neg hc).symm.trans h
        obtain ⟨rfl, rfl⟩ := Prod.mk.inj (Option.some.inj h)
        exact Fr.rf
set_option maxRecDepth 100000 in
theorem fr_m_nextToken_85 (N : Nat) : ∀ (n : Nat) (M : Mem) (M' : Mem), f_m_nextToken_85 N n M = some M' → Fr [129] M M' := by
  intro n
  induction n with
  | zero =>
    intro M M' h
    cases h
  | succ n ih =>
    intro M M' h
    rw [f_m_nextToken_85] at h
    obtain ⟨q16, e_q16, h⟩ := Option.bind_eq_some_iff.mp h
    by_cases hc : (f_m_isFigure q16 M) = (0 : Int32)
    · replace h := (if_pos hc).symm.trans h
      obtain rfl := Option.some.inj h
      exact Fr.rf
    · replace h := (if_neg hc).symm.trans h
      by_cases hc : (gi M 129 10) ≤ (99999 : Int32)
      · replace h := (if_pos hc).symm.trans h
        obtain ⟨q17, e_q17, h⟩ := Option.bind_eq_some_iff.mp h
        obtain ⟨q18, e_q18, h⟩ := Option.bind_eq_some_iff.mp h
        refine Fr.w_si e_q18 (by first | decide | simp) ?_
        obtain ⟨q19, e_q19, h⟩ := Option.bind_eq_some_iff.mp h
        refine Fr.w_si e_q19 (by first | decide | simp) ?_
        exact ih q19 _ h
      · replace h := (if_neg hc).symm.trans h
        obtain ⟨q20, e_q20, h⟩ := Option.bind_eq_some_iff.mp h
        refine Fr.w_si e_q20 (by first | decide | simp) ?_
        obtain ⟨q21, e_q21, h⟩ := Option.bind_eq_some_iff.mp h
        refine Fr.w_si e_q21 (by first | decide | simp) ?_
        exact ih q21 _ h
set_option maxRecDepth 100000 in
theorem fr_m_nextToken_168 (N : Nat) : ∀ (n : Nat) (M : Mem) (M' : Mem), f_m_nextToken_168 N n M = some M' → Fr [129] M M' := by
  intro n
  induction n with
  | zero =>
    intro M M' h
    cases h
  | succ n ih =>
    intro M M' h
    rw [f_m_nextToken_168] at h
    obtain ⟨q22, e_q22, h⟩ := Option.bind_eq_some_iff.mp h
    by_cases hc : (f_m_isLetterByte q22 M) = (0 : Int32)
    · replace h := (if_pos hc).symm.trans h
      obtain rfl := Option.some.inj h
      exact Fr.rf
    · replace h := (if_neg hc).symm.trans h
      by_cases hc : (lg_cmp ((gj M 129 11) >>> (Int32.toInt64 (48 : Int32) &&& 63)) (0 : Int64)) = (0 : Int32)
      · replace h := (if_pos hc).symm.trans h
        obtain ⟨q23, e_q23, h⟩ := Option.bind_eq_some_iff.mp h
        obtain ⟨q24, e_q24, h⟩ := Option.bind_eq_some_iff.mp h
        refine Fr.w_sj e_q24 (by first | decide | simp) ?_
        obtain ⟨q25, e_q25, h⟩ := Option.bind_eq_some_iff.mp h
        refine Fr.w_si e_q25 (by first | decide | simp) ?_
        exact ih q25 _ h
      · replace h := (if_neg hc).symm.trans h
        obtain ⟨q26, e_q26, h⟩ := Option.bind_eq_some_iff.mp h
        refine Fr.w_sj e_q26 (by first | decide | simp) ?_
        obtain ⟨q27, e_q27, h⟩ := Option.bind_eq_some_iff.mp h
        refine Fr.w_si e_q27 (by first | decide | simp) ?_
        exact ih q27 _ h
set_option maxRecDepth 100000 in
theorem fr_m_nextToken_272 (N : Nat) (x1 : Int32) (M : Mem) (M' : Mem) (h : f_m_nextToken_272 N x1 M = some M') : Fr [129] M M' := by
  rw [f_m_nextToken_272] at h
  obtain ⟨q28, e_q28, h⟩ := Option.bind_eq_some_iff.mp h
  by_cases hc : q28 = (61 : Int32)
  · replace h := (if_pos hc).symm.trans h
    by_cases hc : x1 = (60 : Int32)
    · replace h := (if_pos hc).symm.trans h
      obtain ⟨q29, e_q29, h⟩ := Option.bind_eq_some_iff.mp h
      refine Fr.w_si e_q29 (by first | decide | simp) ?_
      obtain ⟨q30, e_q30, h⟩ := Option.bind_eq_some_iff.mp h
      refine Fr.w_si e_q30 (by first | decide | simp) ?_
      obtain rfl := Option.some.inj h
      exact Fr.rf
    · replace h := (if_neg hc).symm.trans h
      obtain ⟨q31, e_q31, h⟩ := Option.bind_eq_some_iff.mp h
      refine Fr.w_si e_q31 (by first | decide | simp) ?_
      obtain ⟨q32, e_q32, h⟩ := Option.bind_eq_some_iff.mp h
      refine Fr.w_si e_q32 (by first | decide | simp) ?_
      obtain rfl := Option.some.inj h
      exact Fr.rf
  · replace h := (if_neg hc).symm.trans h
    obtain rfl := Option.some.inj h
    exact Fr.rf
set_option maxRecDepth 100000 in
theorem fr_m_nextToken_0 (N : Nat) : ∀ (n : Nat) (M : Mem) (M' : Mem), f_m_nextToken_0 N n M = some M' → Fr [129] M M' := by
  intro n
  induction n with
  | zero =>
    intro M M' h
    cases h
  | succ n ih =>
    intro M M' h
    rw [f_m_nextToken_0] at h
    obtain ⟨q1, e_q1, h⟩ := Option.bind_eq_some_iff.mp h
    by_cases hc : q1 = (32 : Int32)
    · replace h := (if_pos hc).symm.trans h
      obtain ⟨q2, e_q2, h⟩ := Option.bind_eq_some_iff.mp h
      refine Fr.w_si e_q2 (by first | decide | simp) ?_
      exact ih q2 _ h
    · replace h := (if_neg hc).symm.trans h
      obtain ⟨q3, e_q3, h⟩ := Option.bind_eq_some_iff.mp h
      by_cases hc : q3 = (10 : Int32)
      · replace h := (if_pos hc).symm.trans h
        obtain ⟨q4, e_q4, h⟩ := Option.bind_eq_some_iff.mp h
        refine Fr.w_si e_q4 (by first | decide | simp) ?_
        exact ih q4 _ h
      · replace h := (if_neg hc).symm.trans h
        obtain ⟨q5, e_q5, h⟩ := Option.bind_eq_some_iff.mp h
        refine Fr.w_si e_q5 (by first | decide | simp) ?_
        obtain ⟨q6, e_q6, h⟩ := Option.bind_eq_some_iff.mp h
        by_cases hc : (0 : Int32) ≤ q6
        · replace h := (if_pos hc).symm.trans h
          by_cases hc : (f_m_isFigure q6 q5) = (0 : Int32)
          · replace h := (if_pos hc).symm.trans h
            by_cases hc : (f_m_isLetterByte q6 q5) = (0 : Int32)
            · replace h := (if_pos hc).symm.trans h
              by_cases hc : (f_m_isSign q6 q5) = (0 : Int32)
              · replace h := (if_pos hc).symm.trans h
                obtain ⟨q7, e_q7, h⟩ := Option.bind_eq_some_iff.mp h
                refine Fr.w_si e_q7 (by first | decide | simp) ?_
                obtain ⟨q8, e_q8, h⟩ := Option.bind_eq_some_iff.mp h
                refine Fr.w_si e_q8 (by first | decide | simp) ?_
                by_cases hc : q6 = (60 : Int32)
                · replace h := (if_pos hc).symm.trans h
                  exact fr_m_nextToken_272 N q6 q8 _ h
                · replace h := (if_neg hc).symm.trans h
                  by_cases hc : q6 = (62 : Int32)
                  · replace h := (if_pos hc).symm.trans h
                    exact fr_m_nextToken_272 N q6 q8 _ h
                  · replace h := (if_neg hc).symm.trans h
                    obtain rfl := Option.some.inj h
                    exact Fr.rf
              · replace h := (if_neg hc).symm.trans h
                obtain ⟨q9, e_q9, h⟩ := Option.bind_eq_some_iff.mp h
                refine Fr.w_si e_q9 (by first | decide | simp) ?_
                obtain ⟨q10, e_q10, h⟩ := Option.bind_eq_some_iff.mp h
                refine Fr.w_si e_q10 (by first | decide | simp) ?_
                by_cases hc : q6 = (60 : Int32)
                · replace h := (if_pos hc).symm.trans h
                  exact fr_m_nextToken_272 N q6 q10 _ h
                · replace h := (if_neg hc).symm.trans h
                  by_cases hc : q6 = (62 : Int32)
                  · replace h := (if_pos hc).symm.trans h
                    exact fr_m_nextToken_272 N q6 q10 _ h
                  · replace h := (if_neg hc).symm.trans h
                    obtain rfl := Option.some.inj h
                    exact Fr.rf
            · replace h := (if_neg hc).symm.trans h
              obtain ⟨q11, e_q11, h⟩ := Option.bind_eq_some_iff.mp h
              refine Fr.w_si e_q11 (by first | decide | simp) ?_
              obtain ⟨q12, e_q12, h⟩ := Option.bind_eq_some_iff.mp h
              refine Fr.w_sj e_q12 (by first | decide | simp) ?_
              exact fr_m_nextToken_168 N N q12 _ h
          · replace h := (if_neg hc).symm.trans h
            obtain ⟨q13, e_q13, h⟩ := Option.bind_eq_some_iff.mp h
            refine Fr.w_si e_q13 (by first | decide | simp) ?_
            obtain ⟨q14, e_q14, h⟩ := Option.bind_eq_some_iff.mp h
            refine Fr.w_si e_q14 (by first | decide | simp) ?_
            exact fr_m_nextToken_85 N N q14 _ h
        · replace h := (if_neg hc).symm.trans h
          obtain ⟨q15, e_q15, h⟩ := Option.bind_eq_some_iff.mp h
          refine Fr.w_si e_q15 (by first | decide | simp) ?_
          obtain rfl := Option.some.inj h
          exact Fr.rf
set_option maxRecDepth 100000 in
theorem fr_m_nextToken (N : Nat) (M : Mem) (M' : Mem) (h : f_m_nextToken N M = some M') : Fr [129] M M' := by
  rw [f_m_nextToken] at h
  exact fr_m_nextToken_0 N N M _ h
