/-! AM does what the functions say. -/
set_option maxRecDepth 100000 in
theorem t_w_fewest {S : Nat × (Nat → Int32)} (N : Nat) (x1 : Int32) (x2 : Int32) (x3 : Int32) (x4 : Int32) (M : Mem) (r : Int32) (M' : Mem) (h : f_w_fewest N x1 x2 x3 x4 M = some (r, M')) : am_Y S 4 0 0 am_M84 0 [(0, .ref 5), (1, .int x1), (2, .int x2), (3, .int x3), (4, .int x4)] [] (hp M) (some (.int r)) (hp M') := by
  rw [f_w_fewest] at h
  refine am_Y.run (k := 4) (pc' := 4) (lv' := [(0, .ref 5), (1, .int x1), (2, .int x2), (3, .int x3), (4, .int x4)]) (st' := [.int x3, .int x2, .int x1, .ref 5]) (h' := hp M) rfl ?_
  refine am_Y.call0 (M' := am_M207) (as := [.ref 5, .int x1, .int x2, .int x3]) (rest := []) (d' := 2) rfl (by omega) rfl rfl (t_w_isToCome x1 x2 x3 M _ rfl) ?_
  refine am_Y.br (c := (f_w_isToCome x1 x2 x3 M) = (0 : Int32)) _ (t := 21) (u := 10) (lv' := [(0, .ref 5), (1, .int x1), (2, .int x2), (3, .int x3), (4, .int x4)]) (st' := []) (h' := hp M) rfl (fun hc => ?_) (fun hc => ?_)
  · replace h := (if_pos hc).symm.trans h
    refine am_Y.run (k := 1) (pc' := 22) (lv' := [(0, .ref 5), (1, .int x1), (2, .int x2), (3, .int x3), (4, .int x4)]) (st' := [.int (-1 : Int32)]) (h' := hp M) rfl ?_
    obtain ⟨rfl, rfl⟩ := Prod.mk.inj (Option.some.inj h)
    exact am_Y.ret rfl
  · replace h := (if_neg hc).symm.trans h
    refine am_Y.run (k := 3) (pc' := 15) (lv' := [(0, .ref 5), (1, .int x1), (2, .int x2), (3, .int x3), (4, .int x4)]) (st' := [.int (100 : Int32), .int (1 : Int32), .int x4]) (h' := hp M) rfl ?_
    refine am_Y.call0 (M' := am_M102) (as := [.int x4, .int (1 : Int32), .int (100 : Int32)]) (rest := []) (d' := 0) rfl (by omega) rfl rfl (t_w_within x4 (1 : Int32) (100 : Int32) M _ rfl) ?_
    refine am_Y.br (c := (f_w_within x4 (1 : Int32) (100 : Int32) M) = (0 : Int32)) _ (t := 21) (u := 23) (lv' := [(0, .ref 5), (1, .int x1), (2, .int x2), (3, .int x3), (4, .int x4)]) (st' := []) (h' := hp M) rfl (fun hc => ?_) (fun hc => ?_)
    · replace h := (if_pos hc).symm.trans h
      refine am_Y.run (k := 1) (pc' := 22) (lv' := [(0, .ref 5), (1, .int x1), (2, .int x2), (3, .int x3), (4, .int x4)]) (st' := [.int (-1 : Int32)]) (h' := hp M) rfl ?_
      obtain ⟨rfl, rfl⟩ := Prod.mk.inj (Option.some.inj h)
      exact am_Y.ret rfl
    · replace h := (if_neg hc).symm.trans h
      refine am_Y.run (k := 8) (pc' := 41) (lv' := [(5, .ref 46), (0, .ref 5), (1, .int x1), (2, .int x2), (3, .int x3), (4, .int x4)]) (st' := [.ref 11, .ref 46]) (h' := hp M) rfl ?_
      obtain ⟨q1, e_q1, h⟩ := Option.bind_eq_some_iff.mp h
      refine am_Y.call0 (M' := am_M148) (as := [.ref 11]) (rest := [.ref 46]) (d' := 2) rfl (by omega) rfl rfl (t_e_holdNow N M q1 e_q1) ?_
      obtain ⟨q2, e_q2, h⟩ := Option.bind_eq_some_iff.mp h
      refine am_Y.call0 (M' := am_M208) (as := [.ref 46, .int q1]) (rest := []) (d' := 0) rfl (by omega) rfl rfl (t_c_startWith q1 M q2 e_q2) ?_
      refine am_Y.run (k := 6) (pc' := 56) (lv' := [(5, .ref 46), (0, .ref 5), (1, .int x1), (2, .int x2), (3, .int x3), (4, .int x4)]) (st' := [.int x2, .long (840 : Int64), .int x3, .int x2, .int x1, .ref 46]) (h' := hp q2) rfl ?_
      obtain ⟨q3, e_q3, h⟩ := Option.bind_eq_some_iff.mp h
      refine am_Y.call0 (M' := am_M172) (as := [.int x2]) (rest := [.long (840 : Int64), .int x3, .int x2, .int x1, .ref 46]) (d' := 0) rfl (by omega) rfl rfl (t_w_hundreds N x2 q2 q3 e_q3) ?_
      refine am_Y.run (k := 6) (pc' := 68) (lv' := [(5, .ref 46), (0, .ref 5), (1, .int x1), (2, .int x2), (3, .int x3), (4, .int x4)]) (st' := [.long ((((840 : Int64) * q3) / (100 : Int64)) * (Int32.toInt64 x4)), .int x3, .int x2, .int x1, .ref 46]) (h' := hp q2) rfl ?_
      obtain ⟨q4, e_q4, h⟩ := Option.bind_eq_some_iff.mp h
      refine am_Y.call0 (M' := am_M215) (as := [.ref 46, .int x1, .int x2, .int x3, .long ((((840 : Int64) * q3) / (100 : Int64)) * (Int32.toInt64 x4))]) (rest := []) (d' := 3) rfl (by omega) rfl rfl (t_c_fewestFor N x1 x2 x3 ((((840 : Int64) * q3) / (100 : Int64)) * (Int32.toInt64 x4)) q2 q4 e_q4) ?_
      obtain ⟨rfl, rfl⟩ := Prod.mk.inj (Option.some.inj h)
      exact am_Y.ret rfl
set_option maxRecDepth 100000 in
theorem t_m_fewest_26 {S : Nat × (Nat → Int32)} (N : Nat) : ∀ (n : Nat) (x1 : Int32) (x2 : Int32) (x3 : Int32) (x4 : Int32) (x5 : Int32) (M : Mem) (r : Int32) (M' : Mem), f_m_fewest_26 N n x1 x2 x3 x4 x5 M = some (r, M') → am_Y S 5 0 0 am_M85 26 [(0, .ref 129), (1, .int x1), (2, .int x2), (3, .int x3), (4, .int x4), (5, .int x5)] [] (hp M) (some (.int r)) (hp M') := by
  intro n
  induction n with
  | zero =>
    intro x1 x2 x3 x4 x5 M r M' h
    cases h
  | succ n ih =>
    intro x1 x2 x3 x4 x5 M r M' h
    rw [f_m_fewest_26] at h
    refine am_Y.run (k := 2) (pc' := 30) (lv' := [(0, .ref 129), (1, .int x1), (2, .int x2), (3, .int x3), (4, .int x4), (5, .int x5)]) (st' := [.int (7 : Int32), .int x5]) (h' := hp M) rfl ?_
    refine am_Y.br (c := (7 : Int32) ≤ x5) _ (t := 78) (u := 33) (lv' := [(0, .ref 129), (1, .int x1), (2, .int x2), (3, .int x3), (4, .int x4), (5, .int x5)]) (st' := []) (h' := hp M) rfl (fun hc => ?_) (fun hc => ?_)
    · replace h := (if_pos hc).symm.trans h
      refine am_Y.run (k := 1) (pc' := 79) (lv' := [(0, .ref 129), (1, .int x1), (2, .int x2), (3, .int x3), (4, .int x4), (5, .int x5)]) (st' := [.int (-1 : Int32)]) (h' := hp M) rfl ?_
      obtain ⟨rfl, rfl⟩ := Prod.mk.inj (Option.some.inj h)
      exact am_Y.ret rfl
    · replace h := (if_neg hc).symm.trans h
      refine am_Y.run (k := 10) (pc' := 46) (lv' := [(0, .ref 129), (1, .int x1), (2, .int x2), (3, .int x3), (4, .int x4), (5, .int x5)]) (st' := [.int x5, .int x3, .int x2, .int x1, .ref 129, .int x3, .int x2, .int x1, .ref 129, .long (100 : Int64)]) (h' := hp M) rfl ?_
      obtain ⟨q1, e_q1, h⟩ := Option.bind_eq_some_iff.mp h
      refine am_Y.call0 (M' := am_M214) (as := [.ref 129, .int x1, .int x2, .int x3, .int x5]) (rest := [.int x3, .int x2, .int x1, .ref 129, .long (100 : Int64)]) (d' := 4) rfl (by omega) rfl rfl (t_m_bestWords N x1 x2 x3 x5 M q1.1 q1.2 e_q1) ?_
      obtain ⟨q2, e_q2, h⟩ := Option.bind_eq_some_iff.mp h
      refine am_Y.call0 (M' := am_M212) (as := [.ref 129, .int x1, .int x2, .int x3, .int q1.1]) (rest := [.long (100 : Int64)]) (d' := 3) rfl (by omega) rfl rfl (t_m_oddsBy N x1 x2 x3 q1.1 q1.2 q2.1 q2.2 e_q2) ?_
      refine am_Y.run (k := 6) (pc' := 61) (lv' := [(0, .ref 129), (1, .int x1), (2, .int x2), (3, .int x3), (4, .int x4), (5, .int x5)]) (st' := [.int x2, .long ((Int32.toInt64 x4) * (840 : Int64)), .long ((100 : Int64) * q2.1)]) (h' := hp q2.2) rfl ?_
      obtain ⟨q3, e_q3, h⟩ := Option.bind_eq_some_iff.mp h
      refine am_Y.call0 (M' := am_M178) (as := [.int x2]) (rest := [.long ((Int32.toInt64 x4) * (840 : Int64)), .long ((100 : Int64) * q2.1)]) (d' := 0) rfl (by omega) rfl rfl (t_m_power N x2 q2.2 q3 e_q3) ?_
      refine am_Y.run (k := 2) (pc' := 66) (lv' := [(0, .ref 129), (1, .int x1), (2, .int x2), (3, .int x3), (4, .int x4), (5, .int x5)]) (st' := [.int (lg_cmp ((100 : Int64) * q2.1) (((Int32.toInt64 x4) * (840 : Int64)) * q3))]) (h' := hp q2.2) rfl ?_
      refine am_Y.br (c := (lg_cmp ((100 : Int64) * q2.1) (((Int32.toInt64 x4) * (840 : Int64)) * q3)) < (0 : Int32)) _ (t := 72) (u := 69) (lv' := [(0, .ref 129), (1, .int x1), (2, .int x2), (3, .int x3), (4, .int x4), (5, .int x5)]) (st' := []) (h' := hp q2.2) rfl (fun hc => ?_) (fun hc => ?_)
      · replace h := (if_pos hc).symm.trans h
        refine am_Y.run (k := 2) (pc' := 26) (lv' := [(5, .int (x5 + (1 : Int32))), (0, .ref 129), (1, .int x1), (2, .int x2), (3, .int x3), (4, .int x4)]) (st' := []) (h' := hp q2.2) rfl ?_
        refine am_Y.weak (lv2 := [(0, .ref 129), (1, .int x1), (2, .int x2), (3, .int x3), (4, .int x4), (5, .int (x5 + (1 : Int32)))]) rfl rfl ⟨rfl, rfl, rfl, rfl, rfl, rfl, trivial⟩ ?_
        exact ih x1 x2 x3 x4 (x5 + (1 : Int32)) q2.2 _ _ h
      · replace h := (if_neg hc).symm.trans h
        refine am_Y.run (k := 1) (pc' := 71) (lv' := [(0, .ref 129), (1, .int x1), (2, .int x2), (3, .int x3), (4, .int x4), (5, .int x5)]) (st' := [.int x5]) (h' := hp q2.2) rfl ?_
        obtain ⟨rfl, rfl⟩ := Prod.mk.inj (Option.some.inj h)
        exact am_Y.ret rfl
set_option maxRecDepth 100000 in
theorem t_m_fewest {S : Nat × (Nat → Int32)} (N : Nat) (x1 : Int32) (x2 : Int32) (x3 : Int32) (x4 : Int32) (M : Mem) (r : Int32) (M' : Mem) (h : f_m_fewest N x1 x2 x3 x4 M = some (r, M')) : am_Y S 5 0 0 am_M85 0 [(0, .ref 129), (1, .int x1), (2, .int x2), (3, .int x3), (4, .int x4)] [] (hp M) (some (.int r)) (hp M') := by
  rw [f_m_fewest] at h
  refine am_Y.run (k := 4) (pc' := 4) (lv' := [(0, .ref 129), (1, .int x1), (2, .int x2), (3, .int x3), (4, .int x4)]) (st' := [.int x3, .int x2, .int x1, .ref 129]) (h' := hp M) rfl ?_
  refine am_Y.call0 (M' := am_M211) (as := [.ref 129, .int x1, .int x2, .int x3]) (rest := []) (d' := 2) rfl (by omega) rfl rfl (t_m_isToCome x1 x2 x3 M _ rfl) ?_
  refine am_Y.br (c := (f_m_isToCome x1 x2 x3 M) = (0 : Int32)) _ (t := 21) (u := 10) (lv' := [(0, .ref 129), (1, .int x1), (2, .int x2), (3, .int x3), (4, .int x4)]) (st' := []) (h' := hp M) rfl (fun hc => ?_) (fun hc => ?_)
  · replace h := (if_pos hc).symm.trans h
    refine am_Y.run (k := 1) (pc' := 22) (lv' := [(0, .ref 129), (1, .int x1), (2, .int x2), (3, .int x3), (4, .int x4)]) (st' := [.int (-1 : Int32)]) (h' := hp M) rfl ?_
    obtain ⟨rfl, rfl⟩ := Prod.mk.inj (Option.some.inj h)
    exact am_Y.ret rfl
  · replace h := (if_neg hc).symm.trans h
    refine am_Y.run (k := 3) (pc' := 15) (lv' := [(0, .ref 129), (1, .int x1), (2, .int x2), (3, .int x3), (4, .int x4)]) (st' := [.int (100 : Int32), .int (1 : Int32), .int x4]) (h' := hp M) rfl ?_
    refine am_Y.call0 (M' := am_M104) (as := [.int x4, .int (1 : Int32), .int (100 : Int32)]) (rest := []) (d' := 0) rfl (by omega) rfl rfl (t_m_isIn x4 (1 : Int32) (100 : Int32) M _ rfl) ?_
    refine am_Y.br (c := (f_m_isIn x4 (1 : Int32) (100 : Int32) M) = (0 : Int32)) _ (t := 21) (u := 23) (lv' := [(0, .ref 129), (1, .int x1), (2, .int x2), (3, .int x3), (4, .int x4)]) (st' := []) (h' := hp M) rfl (fun hc => ?_) (fun hc => ?_)
    · replace h := (if_pos hc).symm.trans h
      refine am_Y.run (k := 1) (pc' := 22) (lv' := [(0, .ref 129), (1, .int x1), (2, .int x2), (3, .int x3), (4, .int x4)]) (st' := [.int (-1 : Int32)]) (h' := hp M) rfl ?_
      obtain ⟨rfl, rfl⟩ := Prod.mk.inj (Option.some.inj h)
      exact am_Y.ret rfl
    · replace h := (if_neg hc).symm.trans h
      refine am_Y.run (k := 2) (pc' := 26) (lv' := [(5, .int (0 : Int32)), (0, .ref 129), (1, .int x1), (2, .int x2), (3, .int x3), (4, .int x4)]) (st' := []) (h' := hp M) rfl ?_
      refine am_Y.weak (lv2 := [(0, .ref 129), (1, .int x1), (2, .int x2), (3, .int x3), (4, .int x4), (5, .int (0 : Int32))]) rfl rfl ⟨rfl, rfl, rfl, rfl, rfl, rfl, trivial⟩ ?_
      exact t_m_fewest_26 N N x1 x2 x3 x4 (0 : Int32) M _ _ h
set_option maxRecDepth 100000 in
theorem t_k_fill1_52_6 {S : Nat × (Nat → Int32)} (N : Nat) : ∀ (n : Nat) (x1 : Int64) (x3 : Int32) (x4 : Int32) (M : Mem) (M' : Mem), f_k_fill1_52_6 N n x1 x3 x4 M = some M' → am_Y S 0 0 0 am_M260 6 [(0, .ref 52), (1, .long x1), (3, .int x3), (4, .int x4)] [] (hp M) none (hp M') := by
  intro n
  induction n with
  | zero =>
    intro x1 x3 x4 M M' h
    cases h
  | succ n ih =>
    intro x1 x3 x4 M M' h
    rw [f_k_fill1_52_6] at h
    refine am_Y.run (k := 2) (pc' := 9) (lv' := [(0, .ref 52), (1, .long x1), (3, .int x3), (4, .int x4)]) (st' := [.int x4, .int x3]) (h' := hp M) rfl ?_
    refine am_Y.br (c := x4 ≤ x3) _ (t := 22) (u := 12) (lv' := [(0, .ref 52), (1, .long x1), (3, .int x3), (4, .int x4)]) (st' := []) (h' := hp M) rfl (fun hc => ?_) (fun hc => ?_)
    · replace h := (if_pos hc).symm.trans h
      obtain rfl := Option.some.inj h
      exact am_Y.ret rfl
    · replace h := (if_neg hc).symm.trans h
      refine am_Y.run (k := 3) (pc' := 15) (lv' := [(0, .ref 52), (1, .long x1), (3, .int x3), (4, .int x4)]) (st' := [.long x1, .int x3, .ref 52]) (h' := hp M) rfl ?_
      obtain ⟨g, h⟩ := am_itg h
      refine am_Y.last (a := 47) (n := 16) rfl rfl g ?_
      refine am_Y.run (k := 0) (pc' := _) (lv' := [(0, .ref 52), (1, .long x1), (3, .int x3), (4, .int x4)]) (st' := []) (h' := hp (sj M 52 (x3).toNatClampNeg x1)) rfl ?_
      obtain ⟨q1, e_q1, h⟩ := Option.bind_eq_some_iff.mp h
      rw [Option.some.inj e_q1]
      refine am_Y.run (k := 2) (pc' := 6) (lv' := [(3, .int (x3 + (1 : Int32))), (0, .ref 52), (1, .long x1), (4, .int x4)]) (st' := []) (h' := hp q1) rfl ?_
      refine am_Y.weak (lv2 := [(0, .ref 52), (1, .long x1), (3, .int (x3 + (1 : Int32))), (4, .int x4)]) rfl rfl ⟨rfl, rfl, rfl, rfl, trivial⟩ ?_
      exact ih x1 (x3 + (1 : Int32)) x4 q1 _ h
set_option maxRecDepth 100000 in
theorem t_k_fill1_52 {S : Nat × (Nat → Int32)} (N : Nat) (x1 : Int64) (M : Mem) (M' : Mem) (h : f_k_fill1_52 N x1 M = some M') : am_Y S 0 0 0 am_M260 0 [(0, .ref 52), (1, .long x1)] [] (hp M) none (hp M') := by
  rw [f_k_fill1_52] at h
  refine am_Y.run (k := 5) (pc' := 6) (lv' := [(4, .int (16 : Int32)), (3, .int (0 : Int32)), (0, .ref 52), (1, .long x1)]) (st' := []) (h' := hp M) rfl ?_
  refine am_Y.weak (lv2 := [(0, .ref 52), (1, .long x1), (3, .int (0 : Int32)), (4, .int (16 : Int32))]) rfl rfl ⟨rfl, rfl, rfl, rfl, trivial⟩ ?_
  exact t_k_fill1_52_6 N N x1 (0 : Int32) (16 : Int32) M _ h
set_option maxRecDepth 100000 in
theorem t_c_outcome_42 {S : Nat × (Nat → Int32)} (x2 : Int32) (x3 : Int32) (x4 : Int32) (s0 : Int32) (M : Mem) (r : Int64) (h : f_c_outcome_42 x2 x3 x4 s0 M = some r) : am_Y S 1 0 0 am_M298 42 [(0, .ref 46), (2, .int x2), (3, .int x3), (4, .int x4)] [.int s0] (hp M) (some (.long r)) (hp M) := by
  rw [f_c_outcome_42] at h
  refine am_Y.run (k := 12) (pc' := 57) (lv' := [(5, .int s0), (0, .ref 46), (2, .int x2), (3, .int x3), (4, .int x4)]) (st' := [.int (((x2 &&& (3 : Int32)) <<< (2 : Int32)) ||| (x3 &&& (3 : Int32))), .ref 52]) (h' := hp M) rfl ?_
  obtain ⟨g, h⟩ := am_itg h
  refine am_Y.lald (a := 47) (n := 16) rfl rfl g ?_
  refine am_Y.run (k := 15) (pc' := 81) (lv' := [(6, .long (gj M 52 ((((x2 &&& (3 : Int32)) <<< (2 : Int32)) ||| (x3 &&& (3 : Int32)))).toNatClampNeg)), (5, .int s0), (0, .ref 46), (2, .int x2), (3, .int x3), (4, .int x4)]) (st' := [.long (((Int32.toInt64 (x4 * s0)) * (gj M 46 5)) + ((Int32.toInt64 ((100 : Int32) - x4)) * (gj M 52 ((((x2 &&& (3 : Int32)) <<< (2 : Int32)) ||| (x3 &&& (3 : Int32)))).toNatClampNeg)))]) (h' := hp M) rfl ?_
  obtain rfl := Option.some.inj h
  exact am_Y.ret rfl
set_option maxRecDepth 100000 in
theorem t_c_outcome {S : Nat × (Nat → Int32)} (x1 : Int32) (x2 : Int32) (x3 : Int32) (M : Mem) (r : Int64) (h : f_c_outcome x1 x2 x3 M = some r) : am_Y S 1 0 0 am_M298 0 [(0, .ref 46), (1, .int x1), (2, .int x2), (3, .int x3)] [] (hp M) (some (.long r)) (hp M) := by
  rw [f_c_outcome] at h
  refine am_Y.run (k := 3) (pc' := 3) (lv' := [(0, .ref 46), (1, .int x1), (2, .int x2), (3, .int x3)]) (st' := [.int (5 : Int32), .int (0 : Int32), .int x1]) (h' := hp M) rfl ?_
  refine am_Y.call0 (M' := am_M102) (as := [.int x1, .int (0 : Int32), .int (5 : Int32)]) (rest := []) (d' := 0) rfl (by omega) rfl rfl (t_w_within x1 (0 : Int32) (5 : Int32) M _ rfl) ?_
  refine am_Y.br (c := (f_w_within x1 (0 : Int32) (5 : Int32) M) = (0 : Int32)) _ (t := 20) (u := 9) (lv' := [(0, .ref 46), (1, .int x1), (2, .int x2), (3, .int x3)]) (st' := []) (h' := hp M) rfl (fun hc => ?_) (fun hc => ?_)
  · replace h := (if_pos hc).symm.trans h
    refine am_Y.run (k := 4) (pc' := 25) (lv' := [(4, .int (0 : Int32)), (0, .ref 46), (1, .int x1), (2, .int x2), (3, .int x3)]) (st' := [.int (1 : Int32), .int x2]) (h' := hp M) rfl ?_
    refine am_Y.br (c := x2 = (1 : Int32)) _ (t := 28) (u := 32) (lv' := [(4, .int (0 : Int32)), (0, .ref 46), (1, .int x1), (2, .int x2), (3, .int x3)]) (st' := []) (h' := hp M) rfl (fun hc => ?_) (fun hc => ?_)
    · replace h := (if_pos hc).symm.trans h
      refine am_Y.run (k := 2) (pc' := 42) (lv' := [(4, .int (0 : Int32)), (0, .ref 46), (1, .int x1), (2, .int x2), (3, .int x3)]) (st' := [.int (1 : Int32)]) (h' := hp M) rfl ?_
      refine am_Y.weak (lv2 := [(0, .ref 46), (2, .int x2), (3, .int x3), (4, .int (0 : Int32))]) rfl rfl ⟨rfl, rfl, rfl, rfl, trivial⟩ ?_
      exact t_c_outcome_42 x2 x3 (0 : Int32) (1 : Int32) M _ h
    · replace h := (if_neg hc).symm.trans h
      refine am_Y.run (k := 2) (pc' := 34) (lv' := [(4, .int (0 : Int32)), (0, .ref 46), (1, .int x1), (2, .int x2), (3, .int x3)]) (st' := [.int (2 : Int32), .int x2]) (h' := hp M) rfl ?_
      refine am_Y.br (c := x2 = (2 : Int32)) _ (t := 37) (u := 41) (lv' := [(4, .int (0 : Int32)), (0, .ref 46), (1, .int x1), (2, .int x2), (3, .int x3)]) (st' := []) (h' := hp M) rfl (fun hc => ?_) (fun hc => ?_)
      · replace h := (if_pos hc).symm.trans h
        refine am_Y.run (k := 2) (pc' := 42) (lv' := [(4, .int (0 : Int32)), (0, .ref 46), (1, .int x1), (2, .int x2), (3, .int x3)]) (st' := [.int (-1 : Int32)]) (h' := hp M) rfl ?_
        refine am_Y.weak (lv2 := [(0, .ref 46), (2, .int x2), (3, .int x3), (4, .int (0 : Int32))]) rfl rfl ⟨rfl, rfl, rfl, rfl, trivial⟩ ?_
        exact t_c_outcome_42 x2 x3 (0 : Int32) (-1 : Int32) M _ h
      · replace h := (if_neg hc).symm.trans h
        refine am_Y.run (k := 1) (pc' := 42) (lv' := [(4, .int (0 : Int32)), (0, .ref 46), (1, .int x1), (2, .int x2), (3, .int x3)]) (st' := [.int (0 : Int32)]) (h' := hp M) rfl ?_
        refine am_Y.weak (lv2 := [(0, .ref 46), (2, .int x2), (3, .int x3), (4, .int (0 : Int32))]) rfl rfl ⟨rfl, rfl, rfl, rfl, trivial⟩ ?_
        exact t_c_outcome_42 x2 x3 (0 : Int32) (0 : Int32) M _ h
  · replace h := (if_neg hc).symm.trans h
    refine am_Y.run (k := 5) (pc' := 16) (lv' := [(0, .ref 46), (1, .int x1), (2, .int x2), (3, .int x3)]) (st' := [.int x1, .ref 48]) (h' := hp M) rfl ?_
    obtain ⟨g, h⟩ := am_itg h
    refine am_Y.iald (a := 43) (n := 6) rfl rfl g ?_
    refine am_Y.run (k := 4) (pc' := 25) (lv' := [(4, .int (gi M 48 (x1).toNatClampNeg)), (0, .ref 46), (1, .int x1), (2, .int x2), (3, .int x3)]) (st' := [.int (1 : Int32), .int x2]) (h' := hp M) rfl ?_
    refine am_Y.br (c := x2 = (1 : Int32)) _ (t := 28) (u := 32) (lv' := [(4, .int (gi M 48 (x1).toNatClampNeg)), (0, .ref 46), (1, .int x1), (2, .int x2), (3, .int x3)]) (st' := []) (h' := hp M) rfl (fun hc => ?_) (fun hc => ?_)
    · replace h := (if_pos hc).symm.trans h
      refine am_Y.run (k := 2) (pc' := 42) (lv' := [(4, .int (gi M 48 (x1).toNatClampNeg)), (0, .ref 46), (1, .int x1), (2, .int x2), (3, .int x3)]) (st' := [.int (1 : Int32)]) (h' := hp M) rfl ?_
      refine am_Y.weak (lv2 := [(0, .ref 46), (2, .int x2), (3, .int x3), (4, .int (gi M 48 (x1).toNatClampNeg))]) rfl rfl ⟨rfl, rfl, rfl, rfl, trivial⟩ ?_
      exact t_c_outcome_42 x2 x3 (gi M 48 (x1).toNatClampNeg) (1 : Int32) M _ h
    · replace h := (if_neg hc).symm.trans h
      refine am_Y.run (k := 2) (pc' := 34) (lv' := [(4, .int (gi M 48 (x1).toNatClampNeg)), (0, .ref 46), (1, .int x1), (2, .int x2), (3, .int x3)]) (st' := [.int (2 : Int32), .int x2]) (h' := hp M) rfl ?_
      refine am_Y.br (c := x2 = (2 : Int32)) _ (t := 37) (u := 41) (lv' := [(4, .int (gi M 48 (x1).toNatClampNeg)), (0, .ref 46), (1, .int x1), (2, .int x2), (3, .int x3)]) (st' := []) (h' := hp M) rfl (fun hc => ?_) (fun hc => ?_)
      · replace h := (if_pos hc).symm.trans h
        refine am_Y.run (k := 2) (pc' := 42) (lv' := [(4, .int (gi M 48 (x1).toNatClampNeg)), (0, .ref 46), (1, .int x1), (2, .int x2), (3, .int x3)]) (st' := [.int (-1 : Int32)]) (h' := hp M) rfl ?_
        refine am_Y.weak (lv2 := [(0, .ref 46), (2, .int x2), (3, .int x3), (4, .int (gi M 48 (x1).toNatClampNeg))]) rfl rfl ⟨rfl, rfl, rfl, rfl, trivial⟩ ?_
        exact t_c_outcome_42 x2 x3 (gi M 48 (x1).toNatClampNeg) (-1 : Int32) M _ h
      · replace h := (if_neg hc).symm.trans h
        refine am_Y.run (k := 1) (pc' := 42) (lv' := [(4, .int (gi M 48 (x1).toNatClampNeg)), (0, .ref 46), (1, .int x1), (2, .int x2), (3, .int x3)]) (st' := [.int (0 : Int32)]) (h' := hp M) rfl ?_
        refine am_Y.weak (lv2 := [(0, .ref 46), (2, .int x2), (3, .int x3), (4, .int (gi M 48 (x1).toNatClampNeg))]) rfl rfl ⟨rfl, rfl, rfl, rfl, trivial⟩ ?_
        exact t_c_outcome_42 x2 x3 (gi M 48 (x1).toNatClampNeg) (0 : Int32) M _ h
set_option maxRecDepth 100000 in
theorem t_c_bestOfSecond_13 {S : Nat × (Nat → Int32)} (x1 : Int32) (x3 : Int32) (x4 : Int32) (s1 : Int32) (s2 : Int32) (M : Mem) (r : Int64) (h : f_c_bestOfSecond_13 x1 x3 x4 s1 s2 M = some r) : am_Y S 2 0 0 am_M262 13 [(0, .ref 46), (1, .int x1), (3, .int x3), (4, .int x4)] [.int s2, .int s1, .ref 46] (hp M) (some (.long r)) (hp M) := by
  rw [f_c_bestOfSecond_13] at h
  refine am_Y.run (k := 1) (pc' := 14) (lv' := [(0, .ref 46), (1, .int x1), (3, .int x3), (4, .int x4)]) (st' := [.int x3, .int s2, .int s1, .ref 46]) (h' := hp M) rfl ?_
  obtain ⟨q1, e_q1, h⟩ := Option.bind_eq_some_iff.mp h
  refine am_Y.call0 (M' := am_M298) (as := [.ref 46, .int s1, .int s2, .int x3]) (rest := []) (d' := 1) rfl (by omega) rfl rfl (t_c_outcome s1 s2 x3 M q1 e_q1) ?_
  refine am_Y.run (k := 4) (pc' := 22) (lv' := [(5, .long q1), (0, .ref 46), (1, .int x1), (3, .int x3), (4, .int x4)]) (st' := [.int (x3 &&& (2 : Int32))]) (h' := hp M) rfl ?_
  refine am_Y.br (c := (x3 &&& (2 : Int32)) = (0 : Int32)) _ (t := 25) (u := 28) (lv' := [(5, .long q1), (0, .ref 46), (1, .int x1), (3, .int x3), (4, .int x4)]) (st' := []) (h' := hp M) rfl (fun hc => ?_) (fun hc => ?_)
  · replace h := (if_pos hc).symm.trans h
    refine am_Y.run (k := 1) (pc' := 27) (lv' := [(5, .long q1), (0, .ref 46), (1, .int x1), (3, .int x3), (4, .int x4)]) (st' := [.long q1]) (h' := hp M) rfl ?_
    obtain rfl := Option.some.inj h
    exact am_Y.ret rfl
  · replace h := (if_neg hc).symm.trans h
    refine am_Y.run (k := 9) (pc' := 39) (lv' := [(5, .long q1), (0, .ref 46), (1, .int x1), (3, .int x3), (4, .int x4)]) (st' := [.int (x3 &&& (1 : Int32)), .int (x4 ||| (2 : Int32)), .int x1, .ref 46, .long q1]) (h' := hp M) rfl ?_
    obtain ⟨q2, e_q2, h⟩ := Option.bind_eq_some_iff.mp h
    refine am_Y.call0 (M' := am_M298) (as := [.ref 46, .int x1, .int (x4 ||| (2 : Int32)), .int (x3 &&& (1 : Int32))]) (rest := [.long q1]) (d' := 1) rfl (by omega) rfl rfl (t_c_outcome x1 (x4 ||| (2 : Int32)) (x3 &&& (1 : Int32)) M q2 e_q2) ?_
    refine am_Y.call0 (M' := am_M299) (as := [.long q1, .long q2]) (rest := []) (d' := 0) rfl (by omega) rfl rfl (t_k_min1 q1 q2 M _ rfl) ?_
    obtain rfl := Option.some.inj h
    exact am_Y.ret rfl
set_option maxRecDepth 100000 in
theorem t_c_bestOfSecond {S : Nat × (Nat → Int32)} (x1 : Int32) (x2 : Int32) (x3 : Int32) (x4 : Int32) (M : Mem) (r : Int64) (h : f_c_bestOfSecond x1 x2 x3 x4 M = some r) : am_Y S 2 0 0 am_M262 0 [(0, .ref 46), (1, .int x1), (2, .int x2), (3, .int x3), (4, .int x4)] [] (hp M) (some (.long r)) (hp M) := by
  rw [f_c_bestOfSecond] at h
  refine am_Y.run (k := 3) (pc' := 4) (lv' := [(0, .ref 46), (1, .int x1), (2, .int x2), (3, .int x3), (4, .int x4)]) (st' := [.int x4, .int x1, .ref 46]) (h' := hp M) rfl ?_
  refine am_Y.br (c := x4 = (0 : Int32)) _ (t := 7) (u := 11) (lv' := [(0, .ref 46), (1, .int x1), (2, .int x2), (3, .int x3), (4, .int x4)]) (st' := [.int x1, .ref 46]) (h' := hp M) rfl (fun hc => ?_) (fun hc => ?_)
  · replace h := (if_pos hc).symm.trans h
    refine am_Y.run (k := 2) (pc' := 13) (lv' := [(0, .ref 46), (1, .int x1), (2, .int x2), (3, .int x3), (4, .int x4)]) (st' := [.int x2, .int x1, .ref 46]) (h' := hp M) rfl ?_
    refine am_Y.weak (lv2 := [(0, .ref 46), (1, .int x1), (3, .int x3), (4, .int x4)]) rfl rfl ⟨rfl, rfl, rfl, rfl, trivial⟩ ?_
    exact t_c_bestOfSecond_13 x1 x3 x4 x1 x2 M _ h
  · replace h := (if_neg hc).symm.trans h
    refine am_Y.run (k := 1) (pc' := 13) (lv' := [(0, .ref 46), (1, .int x1), (2, .int x2), (3, .int x3), (4, .int x4)]) (st' := [.int x4, .int x1, .ref 46]) (h' := hp M) rfl ?_
    refine am_Y.weak (lv2 := [(0, .ref 46), (1, .int x1), (3, .int x3), (4, .int x4)]) rfl rfl ⟨rfl, rfl, rfl, rfl, trivial⟩ ?_
    exact t_c_bestOfSecond_13 x1 x3 x4 x1 x4 M _ h
set_option maxRecDepth 100000 in
theorem t_c_bestOfFirst {S : Nat × (Nat → Int32)} (x1 : Int32) (x2 : Int32) (x3 : Int32) (M : Mem) (r : Int64) (h : f_c_bestOfFirst x1 x2 x3 M = some r) : am_Y S 3 0 0 am_M261 0 [(0, .ref 46), (1, .int x1), (2, .int x2), (3, .int x3)] [] (hp M) (some (.long r)) (hp M) := by
  rw [f_c_bestOfFirst] at h
  refine am_Y.run (k := 5) (pc' := 5) (lv' := [(0, .ref 46), (1, .int x1), (2, .int x2), (3, .int x3)]) (st' := [.int (0 : Int32), .int x3, .int x2, .int x1, .ref 46]) (h' := hp M) rfl ?_
  obtain ⟨q1, e_q1, h⟩ := Option.bind_eq_some_iff.mp h
  refine am_Y.call0 (M' := am_M262) (as := [.ref 46, .int x1, .int x2, .int x3, .int (0 : Int32)]) (rest := []) (d' := 2) rfl (by omega) rfl rfl (t_c_bestOfSecond x1 x2 x3 (0 : Int32) M q1 e_q1) ?_
  refine am_Y.run (k := 4) (pc' := 13) (lv' := [(4, .long q1), (0, .ref 46), (1, .int x1), (2, .int x2), (3, .int x3)]) (st' := [.int (x3 &&& (1 : Int32))]) (h' := hp M) rfl ?_
  refine am_Y.br (c := (x3 &&& (1 : Int32)) = (0 : Int32)) _ (t := 16) (u := 21) (lv' := [(4, .long q1), (0, .ref 46), (1, .int x1), (2, .int x2), (3, .int x3)]) (st' := []) (h' := hp M) rfl (fun hc => ?_) (fun hc => ?_)
  · replace h := (if_pos hc).symm.trans h
    refine am_Y.run (k := 2) (pc' := 36) (lv' := [(4, .long q1), (0, .ref 46), (1, .int x1), (2, .int x2), (3, .int x3)]) (st' := [.long q1]) (h' := hp M) rfl ?_
    obtain rfl := Option.some.inj h
    exact am_Y.ret rfl
  · replace h := (if_neg hc).symm.trans h
    refine am_Y.run (k := 8) (pc' := 30) (lv' := [(4, .long q1), (0, .ref 46), (1, .int x1), (2, .int x2), (3, .int x3)]) (st' := [.int (1 : Int32), .int (x3 &&& (2 : Int32)), .int x2, .int x1, .ref 46, .long q1]) (h' := hp M) rfl ?_
    obtain ⟨q2, e_q2, h⟩ := Option.bind_eq_some_iff.mp h
    refine am_Y.call0 (M' := am_M262) (as := [.ref 46, .int x1, .int x2, .int (x3 &&& (2 : Int32)), .int (1 : Int32)]) (rest := [.long q1]) (d' := 2) rfl (by omega) rfl rfl (t_c_bestOfSecond x1 x2 (x3 &&& (2 : Int32)) (1 : Int32) M q2 e_q2) ?_
    refine am_Y.call0 (M' := am_M263) (as := [.long q1, .long q2]) (rest := []) (d' := 0) rfl (by omega) rfl rfl (t_k_max1 q1 q2 M _ rfl) ?_
    obtain rfl := Option.some.inj h
    exact am_Y.ret rfl
set_option maxRecDepth 100000 in
theorem t_c_play_23 {S : Nat × (Nat → Int32)} (N : Nat) (K17 : Int32 → Mem → Option Mem) (hK17 : ∀ (x2 : Int32) (M : Mem) (M' : Mem), K17 x2 M = some M' → am_Y S 4 0 0 am_M216 17 [(0, .ref 46), (2, .int x2)] [] (hp M) none (hp M')) : ∀ (n : Nat) (x2 : Int32) (x3 : Int32) (M : Mem) (M' : Mem), f_c_play_23 N K17 n x2 x3 M = some M' → am_Y S 4 0 0 am_M216 23 [(0, .ref 46), (2, .int x2), (3, .int x3)] [] (hp M) none (hp M') := by
  intro n
  induction n with
  | zero =>
    intro x2 x3 M M' h
    cases h
  | succ n ih =>
    intro x2 x3 M M' h
    rw [f_c_play_23] at h
    refine am_Y.run (k := 2) (pc' := 26) (lv' := [(0, .ref 46), (2, .int x2), (3, .int x3)]) (st' := [.int (16 : Int32), .int x3]) (h' := hp M) rfl ?_
    refine am_Y.br (c := (16 : Int32) ≤ x3) _ (t := 52) (u := 29) (lv' := [(0, .ref 46), (2, .int x2), (3, .int x3)]) (st' := []) (h' := hp M) rfl (fun hc => ?_) (fun hc => ?_)
    · replace h := (if_pos hc).symm.trans h
      refine am_Y.run (k := 8) (pc' := 67) (lv' := [(0, .ref 46), (2, .int x2), (3, .int x3)]) (st' := []) (h' := hp (sl M 52 (va_cpy (M.2 51) (M.2 52) 0 0 16))) rfl ?_
      obtain ⟨q9, e_q9, h⟩ := Option.bind_eq_some_iff.mp h
      rw [Option.some.inj e_q9]
      refine am_Y.run (k := 6) (pc' := 79) (lv' := [(0, .ref 46), (2, .int x2), (3, .int x3)]) (st' := []) (h' := hp (sj q9 46 5 ((gj q9 46 5) * (100 : Int64)))) rfl ?_
      obtain ⟨q10, e_q10, h⟩ := Option.bind_eq_some_iff.mp h
      rw [Option.some.inj e_q10]
      refine am_Y.run (k := 2) (pc' := 17) (lv' := [(2, .int (x2 + (-1 : Int32))), (0, .ref 46), (3, .int x3)]) (st' := []) (h' := hp q10) rfl ?_
      refine am_Y.weak (lv2 := [(0, .ref 46), (2, .int (x2 + (-1 : Int32)))]) rfl rfl ⟨rfl, rfl, trivial⟩ ?_
      exact hK17 (x2 + (-1 : Int32)) q10 _ h
    · replace h := (if_neg hc).symm.trans h
      refine am_Y.run (k := 11) (pc' := 42) (lv' := [(0, .ref 46), (2, .int x2), (3, .int x3)]) (st' := [.int (x3 &&& (3 : Int32)), .int (x3 >>> (2 : Int32)), .int x2, .ref 46, .int x3, .ref 51]) (h' := hp M) rfl ?_
      obtain ⟨q11, e_q11, h⟩ := Option.bind_eq_some_iff.mp h
      refine am_Y.call0 (M' := am_M261) (as := [.ref 46, .int x2, .int (x3 >>> (2 : Int32)), .int (x3 &&& (3 : Int32))]) (rest := [.int x3, .ref 51]) (d' := 3) rfl (by omega) rfl rfl (t_c_bestOfFirst x2 (x3 >>> (2 : Int32)) (x3 &&& (3 : Int32)) M q11 e_q11) ?_
      obtain ⟨g, h⟩ := am_itg h
      refine am_Y.last (a := 46) (n := 16) rfl rfl g ?_
      refine am_Y.run (k := 0) (pc' := _) (lv' := [(0, .ref 46), (2, .int x2), (3, .int x3)]) (st' := []) (h' := hp (sj M 51 (x3).toNatClampNeg q11)) rfl ?_
      obtain ⟨q12, e_q12, h⟩ := Option.bind_eq_some_iff.mp h
      rw [Option.some.inj e_q12]
      refine am_Y.run (k := 2) (pc' := 23) (lv' := [(3, .int (x3 + (1 : Int32))), (0, .ref 46), (2, .int x2)]) (st' := []) (h' := hp q12) rfl ?_
      refine am_Y.weak (lv2 := [(0, .ref 46), (2, .int x2), (3, .int (x3 + (1 : Int32)))]) rfl rfl ⟨rfl, rfl, rfl, trivial⟩ ?_
      exact ih x2 (x3 + (1 : Int32)) q12 _ h
set_option maxRecDepth 100000 in
theorem t_c_play_17 {S : Nat × (Nat → Int32)} (N : Nat) : ∀ (n : Nat) (x2 : Int32) (M : Mem) (M' : Mem), f_c_play_17 N n x2 M = some M' → am_Y S 4 0 0 am_M216 17 [(0, .ref 46), (2, .int x2)] [] (hp M) none (hp M') := by
  intro n
  induction n with
  | zero =>
    intro x2 M M' h
    cases h
  | succ n ih =>
    intro x2 M M' h
    rw [f_c_play_17] at h
    refine am_Y.run (k := 1) (pc' := 18) (lv' := [(0, .ref 46), (2, .int x2)]) (st' := [.int x2]) (h' := hp M) rfl ?_
    refine am_Y.br (c := x2 ≤ (0 : Int32)) _ (t := 85) (u := 21) (lv' := [(0, .ref 46), (2, .int x2)]) (st' := []) (h' := hp M) rfl (fun hc => ?_) (fun hc => ?_)
    · replace h := (if_pos hc).symm.trans h
      refine am_Y.run (k := 5) (pc' := 90) (lv' := [(0, .ref 46), (2, .int x2)]) (st' := [.int (0 : Int32), .int (3 : Int32), .int (0 : Int32), .int (0 : Int32), .ref 46]) (h' := hp M) rfl ?_
      obtain ⟨q3, e_q3, h⟩ := Option.bind_eq_some_iff.mp h
      refine am_Y.call0 (M' := am_M262) (as := [.ref 46, .int (0 : Int32), .int (0 : Int32), .int (3 : Int32), .int (0 : Int32)]) (rest := []) (d' := 2) rfl (by omega) rfl rfl (t_c_bestOfSecond (0 : Int32) (0 : Int32) (3 : Int32) (0 : Int32) M q3 e_q3) ?_
      refine am_Y.run (k := 6) (pc' := 99) (lv' := [(2, .long q3), (0, .ref 46)]) (st' := [.int (1 : Int32), .int (2 : Int32), .int (0 : Int32), .int (0 : Int32), .ref 46]) (h' := hp M) rfl ?_
      obtain ⟨q4, e_q4, h⟩ := Option.bind_eq_some_iff.mp h
      refine am_Y.call0 (M' := am_M262) (as := [.ref 46, .int (0 : Int32), .int (0 : Int32), .int (2 : Int32), .int (1 : Int32)]) (rest := []) (d' := 2) rfl (by omega) rfl rfl (t_c_bestOfSecond (0 : Int32) (0 : Int32) (2 : Int32) (1 : Int32) M q4 e_q4) ?_
      refine am_Y.run (k := 5) (pc' := 109) (lv' := [(4, .long q4), (2, .long q3), (0, .ref 46)]) (st' := [.int (lg_cmp q4 q3), .ref 46]) (h' := hp M) rfl ?_
      refine am_Y.br (c := (lg_cmp q4 q3) ≤ (0 : Int32)) _ (t := 116) (u := 112) (lv' := [(4, .long q4), (2, .long q3), (0, .ref 46)]) (st' := [.ref 46]) (h' := hp M) rfl (fun hc => ?_) (fun hc => ?_)
      · replace h := (if_pos hc).symm.trans h
        refine am_Y.run (k := 2) (pc' := 120) (lv' := [(4, .long q4), (2, .long q3), (0, .ref 46)]) (st' := []) (h' := hp (si M 46 7 (0 : Int32))) rfl ?_
        obtain ⟨q5, e_q5, h⟩ := Option.bind_eq_some_iff.mp h
        rw [Option.some.inj e_q5]
        refine am_Y.run (k := 3) (pc' := 124) (lv' := [(4, .long q4), (2, .long q3), (0, .ref 46)]) (st' := [.long q3, .long q4, .ref 46]) (h' := hp q5) rfl ?_
        refine am_Y.call0 (M' := am_M263) (as := [.long q4, .long q3]) (rest := [.ref 46]) (d' := 0) rfl (by omega) rfl rfl (t_k_max1 q4 q3 q5 _ rfl) ?_
        refine am_Y.run (k := 1) (pc' := 130) (lv' := [(4, .long q4), (2, .long q3), (0, .ref 46)]) (st' := []) (h' := hp (sj q5 46 6 (f_k_max1 q4 q3 q5))) rfl ?_
        obtain ⟨q6, e_q6, h⟩ := Option.bind_eq_some_iff.mp h
        rw [Option.some.inj e_q6]
        obtain rfl := Option.some.inj h
        exact am_Y.ret rfl
      · replace h := (if_neg hc).symm.trans h
        refine am_Y.run (k := 3) (pc' := 120) (lv' := [(4, .long q4), (2, .long q3), (0, .ref 46)]) (st' := []) (h' := hp (si M 46 7 (1 : Int32))) rfl ?_
        obtain ⟨q7, e_q7, h⟩ := Option.bind_eq_some_iff.mp h
        rw [Option.some.inj e_q7]
        refine am_Y.run (k := 3) (pc' := 124) (lv' := [(4, .long q4), (2, .long q3), (0, .ref 46)]) (st' := [.long q3, .long q4, .ref 46]) (h' := hp q7) rfl ?_
        refine am_Y.call0 (M' := am_M263) (as := [.long q4, .long q3]) (rest := [.ref 46]) (d' := 0) rfl (by omega) rfl rfl (t_k_max1 q4 q3 q7 _ rfl) ?_
        refine am_Y.run (k := 1) (pc' := 130) (lv' := [(4, .long q4), (2, .long q3), (0, .ref 46)]) (st' := []) (h' := hp (sj q7 46 6 (f_k_max1 q4 q3 q7))) rfl ?_
        obtain ⟨q8, e_q8, h⟩ := Option.bind_eq_some_iff.mp h
        rw [Option.some.inj e_q8]
        obtain rfl := Option.some.inj h
        exact am_Y.ret rfl
    · replace h := (if_neg hc).symm.trans h
      refine am_Y.run (k := 2) (pc' := 23) (lv' := [(3, .int (0 : Int32)), (0, .ref 46), (2, .int x2)]) (st' := []) (h' := hp M) rfl ?_
      refine am_Y.weak (lv2 := [(0, .ref 46), (2, .int x2), (3, .int (0 : Int32))]) rfl rfl ⟨rfl, rfl, rfl, trivial⟩ ?_
      exact t_c_play_23 N _ ih N x2 (0 : Int32) M _ h
set_option maxRecDepth 100000 in
theorem t_c_play {S : Nat × (Nat → Int32)} (N : Nat) (x1 : Int32) (M : Mem) (M' : Mem) (h : f_c_play N x1 M = some M') : am_Y S 4 0 0 am_M216 0 [(0, .ref 46), (1, .int x1)] [] (hp M) none (hp M') := by
  rw [f_c_play] at h
  refine am_Y.run (k := 3) (pc' := 5) (lv' := [(0, .ref 46), (1, .int x1)]) (st' := [.long (0 : Int64), .ref 52]) (h' := hp M) rfl ?_
  obtain ⟨q1, e_q1, h⟩ := Option.bind_eq_some_iff.mp h
  refine am_Y.call0 (M' := am_M260) (as := [.ref 52, .long (0 : Int64)]) (rest := []) (d' := 0) rfl (by omega) rfl rfl (t_k_fill1_52 N (0 : Int64) M q1 e_q1) ?_
  refine am_Y.run (k := 3) (pc' := 13) (lv' := [(0, .ref 46), (1, .int x1)]) (st' := []) (h' := hp (sj q1 46 5 (1 : Int64))) rfl ?_
  obtain ⟨q2, e_q2, h⟩ := Option.bind_eq_some_iff.mp h
  rw [Option.some.inj e_q2]
  refine am_Y.run (k := 4) (pc' := 17) (lv' := [(2, .int (x1 - (1 : Int32))), (0, .ref 46), (1, .int x1)]) (st' := []) (h' := hp q2) rfl ?_
  refine am_Y.weak (lv2 := [(0, .ref 46), (2, .int (x1 - (1 : Int32)))]) rfl rfl ⟨rfl, rfl, trivial⟩ ?_
  exact t_c_play_17 N N (x1 - (1 : Int32)) q2 _ h
set_option maxRecDepth 100000 in
theorem t_w_game {S : Nat × (Nat → Int32)} (N : Nat) (x1 : Int32) (x2 : Int32) (M : Mem) (r : Int64) (M' : Mem) (h : f_w_game N x1 x2 M = some (r, M')) : am_Y S 5 0 0 am_M86 0 [(0, .ref 5), (1, .int x1), (2, .int x2)] [] (hp M) (some (.long r)) (hp M') := by
  rw [f_w_game] at h
  refine am_Y.run (k := 3) (pc' := 3) (lv' := [(0, .ref 5), (1, .int x1), (2, .int x2)]) (st' := [.int (5 : Int32), .int (1 : Int32), .int x1]) (h' := hp M) rfl ?_
  refine am_Y.call0 (M' := am_M102) (as := [.int x1, .int (1 : Int32), .int (5 : Int32)]) (rest := []) (d' := 0) rfl (by omega) rfl rfl (t_w_within x1 (1 : Int32) (5 : Int32) M _ rfl) ?_
  refine am_Y.br (c := (f_w_within x1 (1 : Int32) (5 : Int32) M) = (0 : Int32)) _ (t := 18) (u := 9) (lv' := [(0, .ref 5), (1, .int x1), (2, .int x2)]) (st' := []) (h' := hp M) rfl (fun hc => ?_) (fun hc => ?_)
  · replace h := (if_pos hc).symm.trans h
    refine am_Y.run (k := 1) (pc' := 21) (lv' := [(0, .ref 5), (1, .int x1), (2, .int x2)]) (st' := [.long (-2 : Int64)]) (h' := hp M) rfl ?_
    obtain ⟨rfl, rfl⟩ := Prod.mk.inj (Option.some.inj h)
    exact am_Y.ret rfl
  · replace h := (if_neg hc).symm.trans h
    refine am_Y.run (k := 3) (pc' := 12) (lv' := [(0, .ref 5), (1, .int x1), (2, .int x2)]) (st' := [.int (2 : Int32), .int (0 : Int32), .int x2]) (h' := hp M) rfl ?_
    refine am_Y.call0 (M' := am_M102) (as := [.int x2, .int (0 : Int32), .int (2 : Int32)]) (rest := []) (d' := 0) rfl (by omega) rfl rfl (t_w_within x2 (0 : Int32) (2 : Int32) M _ rfl) ?_
    refine am_Y.br (c := (f_w_within x2 (0 : Int32) (2 : Int32) M) = (0 : Int32)) _ (t := 18) (u := 22) (lv' := [(0, .ref 5), (1, .int x1), (2, .int x2)]) (st' := []) (h' := hp M) rfl (fun hc => ?_) (fun hc => ?_)
    · replace h := (if_pos hc).symm.trans h
      refine am_Y.run (k := 1) (pc' := 21) (lv' := [(0, .ref 5), (1, .int x1), (2, .int x2)]) (st' := [.long (-2 : Int64)]) (h' := hp M) rfl ?_
      obtain ⟨rfl, rfl⟩ := Prod.mk.inj (Option.some.inj h)
      exact am_Y.ret rfl
    · replace h := (if_neg hc).symm.trans h
      refine am_Y.run (k := 4) (pc' := 30) (lv' := [(0, .ref 5), (1, .int x1), (2, .int x2)]) (st' := [.int x1, .ref 46]) (h' := hp M) rfl ?_
      obtain ⟨q1, e_q1, h⟩ := Option.bind_eq_some_iff.mp h
      refine am_Y.call0 (M' := am_M216) (as := [.ref 46, .int x1]) (rest := []) (d' := 4) rfl (by omega) rfl rfl (t_c_play N x1 M q1 e_q1) ?_
      refine am_Y.run (k := 2) (pc' := 35) (lv' := [(0, .ref 5), (1, .int x1), (2, .int x2)]) (st' := [.int (2 : Int32), .int x2]) (h' := hp q1) rfl ?_
      refine am_Y.br (c := x2 = (2 : Int32)) _ (t := 38) (u := 57) (lv' := [(0, .ref 5), (1, .int x1), (2, .int x2)]) (st' := []) (h' := hp q1) rfl (fun hc => ?_) (fun hc => ?_)
      · replace h := (if_pos hc).symm.trans h
        refine am_Y.run (k := 4) (pc' := 48) (lv' := [(0, .ref 5), (1, .int x1), (2, .int x2)]) (st' := [.int (gi q1 46 7)]) (h' := hp q1) rfl ?_
        refine am_Y.br (c := (gi q1 46 7) = (0 : Int32)) _ (t := 55) (u := 51) (lv' := [(0, .ref 5), (1, .int x1), (2, .int x2)]) (st' := []) (h' := hp q1) rfl (fun hc => ?_) (fun hc => ?_)
        · replace h := (if_pos hc).symm.trans h
          refine am_Y.run (k := 1) (pc' := 56) (lv' := [(0, .ref 5), (1, .int x1), (2, .int x2)]) (st' := [.long (0 : Int64)]) (h' := hp q1) rfl ?_
          obtain ⟨rfl, rfl⟩ := Prod.mk.inj (Option.some.inj h)
          exact am_Y.ret rfl
        · replace h := (if_neg hc).symm.trans h
          refine am_Y.run (k := 2) (pc' := 56) (lv' := [(0, .ref 5), (1, .int x1), (2, .int x2)]) (st' := [.long (1 : Int64)]) (h' := hp q1) rfl ?_
          obtain ⟨rfl, rfl⟩ := Prod.mk.inj (Option.some.inj h)
          exact am_Y.ret rfl
      · replace h := (if_neg hc).symm.trans h
        refine am_Y.run (k := 5) (pc' := 68) (lv' := [(0, .ref 5), (1, .int x1), (2, .int x2)]) (st' := [.int x1, .long (gj q1 46 6)]) (h' := hp q1) rfl ?_
        obtain ⟨q2, e_q2, h⟩ := Option.bind_eq_some_iff.mp h
        refine am_Y.call0 (M' := am_M172) (as := [.int x1]) (rest := [.long (gj q1 46 6)]) (d' := 0) rfl (by omega) rfl rfl (t_w_hundreds N x1 q1 q2 e_q2) ?_
        refine am_Y.run (k := 2) (pc' := 73) (lv' := [(0, .ref 5), (1, .int x1), (2, .int x2)]) (st' := [.int (1 : Int32), .int x2, .long q2, .long (gj q1 46 6)]) (h' := hp q1) rfl ?_
        refine am_Y.br (c := x2 = (1 : Int32)) _ (t := 76) (u := 80) (lv' := [(0, .ref 5), (1, .int x1), (2, .int x2)]) (st' := [.long q2, .long (gj q1 46 6)]) (h' := hp q1) rfl (fun hc => ?_) (fun hc => ?_)
        · replace h := (if_pos hc).symm.trans h
          refine am_Y.run (k := 2) (pc' := 81) (lv' := [(0, .ref 5), (1, .int x1), (2, .int x2)]) (st' := [.int (1 : Int32), .long q2, .long (gj q1 46 6)]) (h' := hp q1) rfl ?_
          obtain ⟨q3, e_q3, h⟩ := Option.bind_eq_some_iff.mp h
          refine am_Y.call0 (M' := am_M173) (as := [.long (gj q1 46 6), .long q2, .int (1 : Int32)]) (rest := []) (d' := 1) rfl (by omega) rfl rfl (t_w_lowest N (gj q1 46 6) q2 (1 : Int32) q1 q3 e_q3) ?_
          obtain ⟨rfl, rfl⟩ := Prod.mk.inj (Option.some.inj h)
          exact am_Y.ret rfl
        · replace h := (if_neg hc).symm.trans h
          refine am_Y.run (k := 1) (pc' := 81) (lv' := [(0, .ref 5), (1, .int x1), (2, .int x2)]) (st' := [.int (0 : Int32), .long q2, .long (gj q1 46 6)]) (h' := hp q1) rfl ?_
          obtain ⟨q4, e_q4, h⟩ := Option.bind_eq_some_iff.mp h
          refine am_Y.call0 (M' := am_M173) (as := [.long (gj q1 46 6), .long q2, .int (0 : Int32)]) (rest := []) (d' := 1) rfl (by omega) rfl rfl (t_w_lowest N (gj q1 46 6) q2 (0 : Int32) q1 q4 e_q4) ?_
          obtain ⟨rfl, rfl⟩ := Prod.mk.inj (Option.some.inj h)
          exact am_Y.ret rfl
set_option maxRecDepth 100000 in
theorem t_m_spoken_50 {S : Nat × (Nat → Int32)} (x3 : Int32) (x4 : Int32) (x5 : Int64) (x7 : Int32) (x8 : Int32) (s0 : Int64) (M : Mem) (r : Int64) (h : f_m_spoken_50 x3 x4 x5 x7 x8 s0 M = some r) : am_Y S 0 0 0 am_M264 50 [(0, .ref 129), (3, .int x3), (4, .int x4), (5, .long x5), (7, .int x7), (8, .int x8)] [.long s0] (hp M) (some (.long r)) (hp M) := by
  rw [f_m_spoken_50] at h
  refine am_Y.run (k := 19) (pc' := 78) (lv' := [(9, .long s0), (0, .ref 129), (3, .int x3), (4, .int x4), (5, .long x5), (7, .int x7), (8, .int x8)]) (st' := [.int (((4 : Int32) * x7) + (x3 &&& (x4 ^^^ (-1 : Int32)))), .ref 142, .long (Int32.toInt64 ((100 : Int32) - x8)), .long (s0 * x5)]) (h' := hp M) rfl ?_
  obtain ⟨g, h⟩ := am_itg h
  refine am_Y.lald (a := 137) (n := 16) rfl rfl g ?_
  refine am_Y.run (k := 2) (pc' := 81) (lv' := [(9, .long s0), (0, .ref 129), (3, .int x3), (4, .int x4), (5, .long x5), (7, .int x7), (8, .int x8)]) (st' := [.long ((s0 * x5) + ((Int32.toInt64 ((100 : Int32) - x8)) * (gj M 142 ((((4 : Int32) * x7) + (x3 &&& (x4 ^^^ (-1 : Int32))))).toNatClampNeg)))]) (h' := hp M) rfl ?_
  obtain rfl := Option.some.inj h
  exact am_Y.ret rfl
set_option maxRecDepth 100000 in
theorem t_m_spoken_11 {S : Nat × (Nat → Int32)} (x1 : Int32) (x3 : Int32) (x4 : Int32) (x5 : Int64) (s0 : Int32) (M : Mem) (r : Int64) (h : f_m_spoken_11 x1 x3 x4 x5 s0 M = some r) : am_Y S 0 0 0 am_M264 11 [(0, .ref 129), (1, .int x1), (3, .int x3), (4, .int x4), (5, .long x5)] [.int s0] (hp M) (some (.long r)) (hp M) := by
  rw [f_m_spoken_11] at h
  refine am_Y.run (k := 6) (pc' := 21) (lv' := [(7, .int s0), (0, .ref 129), (1, .int x1), (3, .int x3), (4, .int x4), (5, .long x5)]) (st' := [.int ((108 : Int32) + x1), .ref 130]) (h' := hp M) rfl ?_
  obtain ⟨g, h⟩ := am_itg h
  refine am_Y.iald (a := 125) (n := 3826) rfl rfl g ?_
  refine am_Y.run (k := 3) (pc' := 27) (lv' := [(8, .int (gi M 130 (((108 : Int32) + x1)).toNatClampNeg)), (7, .int s0), (0, .ref 129), (1, .int x1), (3, .int x3), (4, .int x4), (5, .long x5)]) (st' := [.int (1 : Int32), .int s0]) (h' := hp M) rfl ?_
  refine am_Y.br (c := s0 = (1 : Int32)) _ (t := 30) (u := 36) (lv' := [(8, .int (gi M 130 (((108 : Int32) + x1)).toNatClampNeg)), (7, .int s0), (0, .ref 129), (1, .int x1), (3, .int x3), (4, .int x4), (5, .long x5)]) (st' := []) (h' := hp M) rfl (fun hc => ?_) (fun hc => ?_)
  · replace h := (if_pos hc).symm.trans h
    refine am_Y.run (k := 3) (pc' := 50) (lv' := [(8, .int (gi M 130 (((108 : Int32) + x1)).toNatClampNeg)), (7, .int s0), (0, .ref 129), (1, .int x1), (3, .int x3), (4, .int x4), (5, .long x5)]) (st' := [.long (Int32.toInt64 (gi M 130 (((108 : Int32) + x1)).toNatClampNeg))]) (h' := hp M) rfl ?_
    refine am_Y.weak (lv2 := [(0, .ref 129), (3, .int x3), (4, .int x4), (5, .long x5), (7, .int s0), (8, .int (gi M 130 (((108 : Int32) + x1)).toNatClampNeg))]) rfl rfl ⟨rfl, rfl, rfl, rfl, rfl, rfl, trivial⟩ ?_
    exact t_m_spoken_50 x3 x4 x5 s0 (gi M 130 (((108 : Int32) + x1)).toNatClampNeg) (Int32.toInt64 (gi M 130 (((108 : Int32) + x1)).toNatClampNeg)) M _ h
  · replace h := (if_neg hc).symm.trans h
    refine am_Y.run (k := 2) (pc' := 39) (lv' := [(8, .int (gi M 130 (((108 : Int32) + x1)).toNatClampNeg)), (7, .int s0), (0, .ref 129), (1, .int x1), (3, .int x3), (4, .int x4), (5, .long x5)]) (st' := [.int (2 : Int32), .int s0]) (h' := hp M) rfl ?_
    refine am_Y.br (c := s0 = (2 : Int32)) _ (t := 42) (u := 49) (lv' := [(8, .int (gi M 130 (((108 : Int32) + x1)).toNatClampNeg)), (7, .int s0), (0, .ref 129), (1, .int x1), (3, .int x3), (4, .int x4), (5, .long x5)]) (st' := []) (h' := hp M) rfl (fun hc => ?_) (fun hc => ?_)
    · replace h := (if_pos hc).symm.trans h
      refine am_Y.run (k := 4) (pc' := 50) (lv' := [(8, .int (gi M 130 (((108 : Int32) + x1)).toNatClampNeg)), (7, .int s0), (0, .ref 129), (1, .int x1), (3, .int x3), (4, .int x4), (5, .long x5)]) (st' := [.long (Int32.toInt64 (-(gi M 130 (((108 : Int32) + x1)).toNatClampNeg)))]) (h' := hp M) rfl ?_
      refine am_Y.weak (lv2 := [(0, .ref 129), (3, .int x3), (4, .int x4), (5, .long x5), (7, .int s0), (8, .int (gi M 130 (((108 : Int32) + x1)).toNatClampNeg))]) rfl rfl ⟨rfl, rfl, rfl, rfl, rfl, rfl, trivial⟩ ?_
      exact t_m_spoken_50 x3 x4 x5 s0 (gi M 130 (((108 : Int32) + x1)).toNatClampNeg) (Int32.toInt64 (-(gi M 130 (((108 : Int32) + x1)).toNatClampNeg))) M _ h
    · replace h := (if_neg hc).symm.trans h
      refine am_Y.run (k := 1) (pc' := 50) (lv' := [(8, .int (gi M 130 (((108 : Int32) + x1)).toNatClampNeg)), (7, .int s0), (0, .ref 129), (1, .int x1), (3, .int x3), (4, .int x4), (5, .long x5)]) (st' := [.long (0 : Int64)]) (h' := hp M) rfl ?_
      refine am_Y.weak (lv2 := [(0, .ref 129), (3, .int x3), (4, .int x4), (5, .long x5), (7, .int s0), (8, .int (gi M 130 (((108 : Int32) + x1)).toNatClampNeg))]) rfl rfl ⟨rfl, rfl, rfl, rfl, rfl, rfl, trivial⟩ ?_
      exact t_m_spoken_50 x3 x4 x5 s0 (gi M 130 (((108 : Int32) + x1)).toNatClampNeg) (0 : Int64) M _ h
set_option maxRecDepth 100000 in
theorem t_m_spoken {S : Nat × (Nat → Int32)} (x1 : Int32) (x2 : Int32) (x3 : Int32) (x4 : Int32) (x5 : Int64) (M : Mem) (r : Int64) (h : f_m_spoken x1 x2 x3 x4 x5 M = some r) : am_Y S 0 0 0 am_M264 0 [(0, .ref 129), (1, .int x1), (2, .int x2), (3, .int x3), (4, .int x4), (5, .long x5)] [] (hp M) (some (.long r)) (hp M) := by
  rw [f_m_spoken] at h
  refine am_Y.run (k := 1) (pc' := 2) (lv' := [(0, .ref 129), (1, .int x1), (2, .int x2), (3, .int x3), (4, .int x4), (5, .long x5)]) (st' := [.int x4]) (h' := hp M) rfl ?_
  refine am_Y.br (c := x4 = (0 : Int32)) _ (t := 5) (u := 9) (lv' := [(0, .ref 129), (1, .int x1), (2, .int x2), (3, .int x3), (4, .int x4), (5, .long x5)]) (st' := []) (h' := hp M) rfl (fun hc => ?_) (fun hc => ?_)
  · replace h := (if_pos hc).symm.trans h
    refine am_Y.run (k := 2) (pc' := 11) (lv' := [(0, .ref 129), (1, .int x1), (2, .int x2), (3, .int x3), (4, .int x4), (5, .long x5)]) (st' := [.int x2]) (h' := hp M) rfl ?_
    refine am_Y.weak (lv2 := [(0, .ref 129), (1, .int x1), (3, .int x3), (4, .int x4), (5, .long x5)]) rfl rfl ⟨rfl, rfl, rfl, rfl, rfl, trivial⟩ ?_
    exact t_m_spoken_11 x1 x3 x4 x5 x2 M _ h
  · replace h := (if_neg hc).symm.trans h
    refine am_Y.run (k := 1) (pc' := 11) (lv' := [(0, .ref 129), (1, .int x1), (2, .int x2), (3, .int x3), (4, .int x4), (5, .long x5)]) (st' := [.int x4]) (h' := hp M) rfl ?_
    refine am_Y.weak (lv2 := [(0, .ref 129), (1, .int x1), (3, .int x3), (4, .int x4), (5, .long x5)]) rfl rfl ⟨rfl, rfl, rfl, rfl, rfl, trivial⟩ ?_
    exact t_m_spoken_11 x1 x3 x4 x5 x4 M _ h
set_option maxRecDepth 100000 in
theorem t_m_answered {S : Nat × (Nat → Int32)} (x1 : Int32) (x2 : Int32) (x3 : Int32) (x4 : Int32) (x5 : Int64) (M : Mem) (r : Int64) (h : f_m_answered x1 x2 x3 x4 x5 M = some r) : am_Y S 1 0 0 am_M217 0 [(0, .ref 129), (1, .int x1), (2, .int x2), (3, .int x3), (4, .int x4), (5, .long x5)] [] (hp M) (some (.long r)) (hp M) := by
  rw [f_m_answered] at h
  refine am_Y.run (k := 6) (pc' := 8) (lv' := [(0, .ref 129), (1, .int x1), (2, .int x2), (3, .int x3), (4, .int x4), (5, .long x5)]) (st' := [.long x5, .int x4, .int x3, .int x2, .int x1, .ref 129]) (h' := hp M) rfl ?_
  obtain ⟨q1, e_q1, h⟩ := Option.bind_eq_some_iff.mp h
  refine am_Y.call0 (M' := am_M264) (as := [.ref 129, .int x1, .int x2, .int x3, .int x4, .long x5]) (rest := []) (d' := 0) rfl (by omega) rfl rfl (t_m_spoken x1 x2 x3 x4 x5 M q1 e_q1) ?_
  refine am_Y.run (k := 4) (pc' := 16) (lv' := [(7, .long q1), (0, .ref 129), (1, .int x1), (2, .int x2), (3, .int x3), (4, .int x4), (5, .long x5)]) (st' := [.int (x3 &&& (2 : Int32))]) (h' := hp M) rfl ?_
  refine am_Y.br (c := (x3 &&& (2 : Int32)) = (0 : Int32)) _ (t := 19) (u := 22) (lv' := [(7, .long q1), (0, .ref 129), (1, .int x1), (2, .int x2), (3, .int x3), (4, .int x4), (5, .long x5)]) (st' := []) (h' := hp M) rfl (fun hc => ?_) (fun hc => ?_)
  · replace h := (if_pos hc).symm.trans h
    refine am_Y.run (k := 1) (pc' := 21) (lv' := [(7, .long q1), (0, .ref 129), (1, .int x1), (2, .int x2), (3, .int x3), (4, .int x4), (5, .long x5)]) (st' := [.long q1]) (h' := hp M) rfl ?_
    obtain rfl := Option.some.inj h
    exact am_Y.ret rfl
  · replace h := (if_neg hc).symm.trans h
    refine am_Y.run (k := 8) (pc' := 32) (lv' := [(7, .long q1), (0, .ref 129), (1, .int x1), (2, .int x2), (3, .int x3), (4, .int x4), (5, .long x5)]) (st' := [.long x5, .int (x4 ||| (2 : Int32)), .int x3, .int x2, .int x1, .ref 129]) (h' := hp M) rfl ?_
    obtain ⟨q2, e_q2, h⟩ := Option.bind_eq_some_iff.mp h
    refine am_Y.call0 (M' := am_M264) (as := [.ref 129, .int x1, .int x2, .int x3, .int (x4 ||| (2 : Int32)), .long x5]) (rest := []) (d' := 0) rfl (by omega) rfl rfl (t_m_spoken x1 x2 x3 (x4 ||| (2 : Int32)) x5 M q2 e_q2) ?_
    refine am_Y.run (k := 4) (pc' := 42) (lv' := [(9, .long q2), (7, .long q1), (0, .ref 129), (1, .int x1), (2, .int x2), (3, .int x3), (4, .int x4), (5, .long x5)]) (st' := [.int (lg_cmp q2 q1)]) (h' := hp M) rfl ?_
    refine am_Y.br (c := (0 : Int32) ≤ (lg_cmp q2 q1)) _ (t := 50) (u := 45) (lv' := [(9, .long q2), (7, .long q1), (0, .ref 129), (1, .int x1), (2, .int x2), (3, .int x3), (4, .int x4), (5, .long x5)]) (st' := []) (h' := hp M) rfl (fun hc => ?_) (fun hc => ?_)
    · replace h := (if_pos hc).symm.trans h
      refine am_Y.run (k := 1) (pc' := 52) (lv' := [(9, .long q2), (7, .long q1), (0, .ref 129), (1, .int x1), (2, .int x2), (3, .int x3), (4, .int x4), (5, .long x5)]) (st' := [.long q1]) (h' := hp M) rfl ?_
      obtain rfl := Option.some.inj h
      exact am_Y.ret rfl
    · replace h := (if_neg hc).symm.trans h
      refine am_Y.run (k := 2) (pc' := 52) (lv' := [(9, .long q2), (7, .long q1), (0, .ref 129), (1, .int x1), (2, .int x2), (3, .int x3), (4, .int x4), (5, .long x5)]) (st' := [.long q2]) (h' := hp M) rfl ?_
      obtain rfl := Option.some.inj h
      exact am_Y.ret rfl
set_option maxRecDepth 100000 in
theorem t_m_game_138 {S : Nat × (Nat → Int32)} (N : Nat) (K53 : Int32 → Int64 → Int32 → Int32 → Mem → Option (Int64 × Mem)) (hK53 : ∀ (x2 : Int32) (x3 : Int64) (x5 : Int32) (x6 : Int32) (M : Mem) (r : Int64) (M' : Mem), K53 x2 x3 x5 x6 M = some (r, M') → am_Y S 2 0 0 am_M87 53 [(0, .ref 129), (2, .int x2), (3, .long x3), (5, .int x5), (6, .int x6)] [] (hp M) (some (.long r)) (hp M')) (K61 : Int32 → Int64 → Int32 → Int32 → Int32 → Mem → Option (Int64 × Mem)) (hK61 : ∀ (x2 : Int32) (x3 : Int64) (x5 : Int32) (x6 : Int32) (x7 : Int32) (M : Mem) (r : Int64) (M' : Mem), K61 x2 x3 x5 x6 x7 M = some (r, M') → am_Y S 2 0 0 am_M87 61 [(0, .ref 129), (2, .int x2), (3, .long x3), (5, .int x5), (6, .int x6), (7, .int x7)] [] (hp M) (some (.long r)) (hp M')) (x2 : Int32) (x3 : Int64) (x5 : Int32) (x6 : Int32) (x7 : Int32) (x8 : Int64) (x10 : Int64) (s1 : Int32) (s2 : Int64) (M : Mem) (r : Int64) (M' : Mem) (h : f_m_game_138 N K53 K61 x2 x3 x5 x6 x7 x8 x10 s1 s2 M = some (r, M')) : am_Y S 2 0 0 am_M87 138 [(0, .ref 129), (2, .int x2), (3, .long x3), (5, .int x5), (6, .int x6), (7, .int x7), (8, .long x8), (10, .long x10)] [.long s2, .int s1, .ref 143] (hp M) (some (.long r)) (hp M') := by
  rw [f_m_game_138] at h
  obtain ⟨g, h⟩ := am_itg h
  refine am_Y.last (a := 138) (n := 16) rfl rfl g ?_
  refine am_Y.run (k := 0) (pc' := _) (lv' := [(0, .ref 129), (2, .int x2), (3, .long x3), (5, .int x5), (6, .int x6), (7, .int x7), (8, .long x8), (10, .long x10)]) (st' := []) (h' := hp (sj M 143 (s1).toNatClampNeg s2)) rfl ?_
  obtain ⟨q6, e_q6, h⟩ := Option.bind_eq_some_iff.mp h
  rw [Option.some.inj e_q6]
  refine am_Y.run (k := 2) (pc' := 142) (lv' := [(0, .ref 129), (2, .int x2), (3, .long x3), (5, .int x5), (6, .int x6), (7, .int x7), (8, .long x8), (10, .long x10)]) (st' := [.int (3 : Int32), .int x7]) (h' := hp q6) rfl ?_
  refine am_Y.br (c := x7 = (3 : Int32)) _ (t := 145) (u := 160) (lv' := [(0, .ref 129), (2, .int x2), (3, .long x3), (5, .int x5), (6, .int x6), (7, .int x7), (8, .long x8), (10, .long x10)]) (st' := []) (h' := hp q6) rfl (fun hc => ?_) (fun hc => ?_)
  · replace h := (if_pos hc).symm.trans h
    refine am_Y.run (k := 3) (pc' := 150) (lv' := [(0, .ref 129), (2, .int x2), (3, .long x3), (5, .int x5), (6, .int x6), (7, .int x7), (8, .long x8), (10, .long x10)]) (st' := [.int (lg_cmp x10 x8)]) (h' := hp q6) rfl ?_
    refine am_Y.br (c := (lg_cmp x10 x8) ≤ (0 : Int32)) _ (t := 157) (u := 153) (lv' := [(0, .ref 129), (2, .int x2), (3, .long x3), (5, .int x5), (6, .int x6), (7, .int x7), (8, .long x8), (10, .long x10)]) (st' := []) (h' := hp q6) rfl (fun hc => ?_) (fun hc => ?_)
    · replace h := (if_pos hc).symm.trans h
      refine am_Y.run (k := 4) (pc' := 61) (lv' := [(7, .int (x7 + (1 : Int32))), (5, .int (0 : Int32)), (0, .ref 129), (2, .int x2), (3, .long x3), (6, .int x6), (8, .long x8), (10, .long x10)]) (st' := []) (h' := hp q6) rfl ?_
      refine am_Y.weak (lv2 := [(0, .ref 129), (2, .int x2), (3, .long x3), (5, .int (0 : Int32)), (6, .int x6), (7, .int (x7 + (1 : Int32)))]) rfl rfl ⟨rfl, rfl, rfl, rfl, rfl, rfl, trivial⟩ ?_
      exact hK61 x2 x3 (0 : Int32) x6 (x7 + (1 : Int32)) q6 _ _ h
    · replace h := (if_neg hc).symm.trans h
      refine am_Y.run (k := 5) (pc' := 61) (lv' := [(7, .int (x7 + (1 : Int32))), (5, .int (1 : Int32)), (0, .ref 129), (2, .int x2), (3, .long x3), (6, .int x6), (8, .long x8), (10, .long x10)]) (st' := []) (h' := hp q6) rfl ?_
      refine am_Y.weak (lv2 := [(0, .ref 129), (2, .int x2), (3, .long x3), (5, .int (1 : Int32)), (6, .int x6), (7, .int (x7 + (1 : Int32)))]) rfl rfl ⟨rfl, rfl, rfl, rfl, rfl, rfl, trivial⟩ ?_
      exact hK61 x2 x3 (1 : Int32) x6 (x7 + (1 : Int32)) q6 _ _ h
  · replace h := (if_neg hc).symm.trans h
    refine am_Y.run (k := 2) (pc' := 61) (lv' := [(7, .int (x7 + (1 : Int32))), (0, .ref 129), (2, .int x2), (3, .long x3), (5, .int x5), (6, .int x6), (8, .long x8), (10, .long x10)]) (st' := []) (h' := hp q6) rfl ?_
    refine am_Y.weak (lv2 := [(0, .ref 129), (2, .int x2), (3, .long x3), (5, .int x5), (6, .int x6), (7, .int (x7 + (1 : Int32)))]) rfl rfl ⟨rfl, rfl, rfl, rfl, rfl, rfl, trivial⟩ ?_
    exact hK61 x2 x3 x5 x6 (x7 + (1 : Int32)) q6 _ _ h
set_option maxRecDepth 100000 in
theorem t_m_game_169 {S : Nat × (Nat → Int32)} (N : Nat) (K53 : Int32 → Int64 → Int32 → Int32 → Mem → Option (Int64 × Mem)) (hK53 : ∀ (x2 : Int32) (x3 : Int64) (x5 : Int32) (x6 : Int32) (M : Mem) (r : Int64) (M' : Mem), K53 x2 x3 x5 x6 M = some (r, M') → am_Y S 2 0 0 am_M87 53 [(0, .ref 129), (2, .int x2), (3, .long x3), (5, .int x5), (6, .int x6)] [] (hp M) (some (.long r)) (hp M')) : ∀ (n : Nat) (x2 : Int32) (x3 : Int64) (x5 : Int32) (x6 : Int32) (x7 : Int32) (M : Mem) (r : Int64) (M' : Mem), f_m_game_169 N K53 n x2 x3 x5 x6 x7 M = some (r, M') → am_Y S 2 0 0 am_M87 169 [(0, .ref 129), (2, .int x2), (3, .long x3), (5, .int x5), (6, .int x6), (7, .int x7)] [] (hp M) (some (.long r)) (hp M') := by
  intro n
  induction n with
  | zero =>
    intro x2 x3 x5 x6 x7 M r M' h
    cases h
  | succ n ih =>
    intro x2 x3 x5 x6 x7 M r M' h
    rw [f_m_game_169] at h
    refine am_Y.run (k := 2) (pc' := 173) (lv' := [(0, .ref 129), (2, .int x2), (3, .long x3), (5, .int x5), (6, .int x6), (7, .int x7)]) (st' := [.int (16 : Int32), .int x7]) (h' := hp M) rfl ?_
    refine am_Y.br (c := (16 : Int32) ≤ x7) _ (t := 196) (u := 176) (lv' := [(0, .ref 129), (2, .int x2), (3, .long x3), (5, .int x5), (6, .int x6), (7, .int x7)]) (st' := []) (h' := hp M) rfl (fun hc => ?_) (fun hc => ?_)
    · replace h := (if_pos hc).symm.trans h
      refine am_Y.run (k := 6) (pc' := 53) (lv' := [(6, .int (x6 + (-1 : Int32))), (3, .long (x3 * (100 : Int64))), (0, .ref 129), (2, .int x2), (5, .int x5), (7, .int x7)]) (st' := []) (h' := hp M) rfl ?_
      refine am_Y.weak (lv2 := [(0, .ref 129), (2, .int x2), (3, .long (x3 * (100 : Int64))), (5, .int x5), (6, .int (x6 + (-1 : Int32)))]) rfl rfl ⟨rfl, rfl, rfl, rfl, rfl, trivial⟩ ?_
      exact hK53 x2 (x3 * (100 : Int64)) x5 (x6 + (-1 : Int32)) M _ _ h
    · replace h := (if_neg hc).symm.trans h
      refine am_Y.run (k := 6) (pc' := 188) (lv' := [(0, .ref 129), (2, .int x2), (3, .long x3), (5, .int x5), (6, .int x6), (7, .int x7)]) (st' := [.int x7, .ref 143, .int x7, .ref 142]) (h' := hp M) rfl ?_
      obtain ⟨g, h⟩ := am_itg h
      refine am_Y.lald (a := 138) (n := 16) rfl rfl g ?_
      obtain ⟨g, h⟩ := am_itg h
      refine am_Y.last (a := 137) (n := 16) rfl rfl g ?_
      refine am_Y.run (k := 0) (pc' := _) (lv' := [(0, .ref 129), (2, .int x2), (3, .long x3), (5, .int x5), (6, .int x6), (7, .int x7)]) (st' := []) (h' := hp (sj M 142 (x7).toNatClampNeg (gj M 143 (x7).toNatClampNeg))) rfl ?_
      obtain ⟨q7, e_q7, h⟩ := Option.bind_eq_some_iff.mp h
      rw [Option.some.inj e_q7]
      refine am_Y.run (k := 2) (pc' := 169) (lv' := [(7, .int (x7 + (1 : Int32))), (0, .ref 129), (2, .int x2), (3, .long x3), (5, .int x5), (6, .int x6)]) (st' := []) (h' := hp q7) rfl ?_
      refine am_Y.weak (lv2 := [(0, .ref 129), (2, .int x2), (3, .long x3), (5, .int x5), (6, .int x6), (7, .int (x7 + (1 : Int32)))]) rfl rfl ⟨rfl, rfl, rfl, rfl, rfl, rfl, trivial⟩ ?_
      exact ih x2 x3 x5 x6 (x7 + (1 : Int32)) q7 _ _ h
set_option maxRecDepth 100000 in
theorem t_m_game_61 {S : Nat × (Nat → Int32)} (N : Nat) (K53 : Int32 → Int64 → Int32 → Int32 → Mem → Option (Int64 × Mem)) (hK53 : ∀ (x2 : Int32) (x3 : Int64) (x5 : Int32) (x6 : Int32) (M : Mem) (r : Int64) (M' : Mem), K53 x2 x3 x5 x6 M = some (r, M') → am_Y S 2 0 0 am_M87 53 [(0, .ref 129), (2, .int x2), (3, .long x3), (5, .int x5), (6, .int x6)] [] (hp M) (some (.long r)) (hp M')) : ∀ (n : Nat) (x2 : Int32) (x3 : Int64) (x5 : Int32) (x6 : Int32) (x7 : Int32) (M : Mem) (r : Int64) (M' : Mem), f_m_game_61 N K53 n x2 x3 x5 x6 x7 M = some (r, M') → am_Y S 2 0 0 am_M87 61 [(0, .ref 129), (2, .int x2), (3, .long x3), (5, .int x5), (6, .int x6), (7, .int x7)] [] (hp M) (some (.long r)) (hp M') := by
  intro n
  induction n with
  | zero =>
    intro x2 x3 x5 x6 x7 M r M' h
    cases h
  | succ n ih =>
    intro x2 x3 x5 x6 x7 M r M' h
    rw [f_m_game_61] at h
    refine am_Y.run (k := 2) (pc' := 65) (lv' := [(0, .ref 129), (2, .int x2), (3, .long x3), (5, .int x5), (6, .int x6), (7, .int x7)]) (st' := [.int (16 : Int32), .int x7]) (h' := hp M) rfl ?_
    refine am_Y.br (c := (16 : Int32) ≤ x7) _ (t := 166) (u := 68) (lv' := [(0, .ref 129), (2, .int x2), (3, .long x3), (5, .int x5), (6, .int x6), (7, .int x7)]) (st' := []) (h' := hp M) rfl (fun hc => ?_) (fun hc => ?_)
    · replace h := (if_pos hc).symm.trans h
      refine am_Y.run (k := 2) (pc' := 169) (lv' := [(7, .int (0 : Int32)), (0, .ref 129), (2, .int x2), (3, .long x3), (5, .int x5), (6, .int x6)]) (st' := []) (h' := hp M) rfl ?_
      refine am_Y.weak (lv2 := [(0, .ref 129), (2, .int x2), (3, .long x3), (5, .int x5), (6, .int x6), (7, .int (0 : Int32))]) rfl rfl ⟨rfl, rfl, rfl, rfl, rfl, rfl, trivial⟩ ?_
      exact t_m_game_169 N K53 hK53 N x2 x3 x5 x6 (0 : Int32) M _ _ h
    · replace h := (if_neg hc).symm.trans h
      refine am_Y.run (k := 10) (pc' := 81) (lv' := [(0, .ref 129), (2, .int x2), (3, .long x3), (5, .int x5), (6, .int x6), (7, .int x7)]) (st' := [.long x3, .int (0 : Int32), .int (x7 - x7 / (4 : Int32) * (4 : Int32)), .int (x7 / (4 : Int32)), .int x6, .ref 129]) (h' := hp M) rfl ?_
      obtain ⟨q4, e_q4, h⟩ := Option.bind_eq_some_iff.mp h
      refine am_Y.call0 (M' := am_M217) (as := [.ref 129, .int x6, .int (x7 / (4 : Int32)), .int (x7 - x7 / (4 : Int32) * (4 : Int32)), .int (0 : Int32), .long x3]) (rest := []) (d' := 1) rfl (by omega) rfl rfl (t_m_answered x6 (x7 / (4 : Int32)) (x7 - x7 / (4 : Int32) * (4 : Int32)) (0 : Int32) x3 M q4 e_q4) ?_
      refine am_Y.run (k := 5) (pc' := 91) (lv' := [(8, .long q4), (0, .ref 129), (2, .int x2), (3, .long x3), (5, .int x5), (6, .int x6), (7, .int x7)]) (st' := [.int (1 : Int32), .int (x7 &&& (1 : Int32))]) (h' := hp M) rfl ?_
      refine am_Y.br (c := (x7 &&& (1 : Int32)) = (1 : Int32)) _ (t := 94) (u := 113) (lv' := [(8, .long q4), (0, .ref 129), (2, .int x2), (3, .long x3), (5, .int x5), (6, .int x6), (7, .int x7)]) (st' := []) (h' := hp M) rfl (fun hc => ?_) (fun hc => ?_)
      · replace h := (if_pos hc).symm.trans h
        refine am_Y.run (k := 10) (pc' := 107) (lv' := [(8, .long q4), (0, .ref 129), (2, .int x2), (3, .long x3), (5, .int x5), (6, .int x6), (7, .int x7)]) (st' := [.long x3, .int (1 : Int32), .int (x7 - x7 / (4 : Int32) * (4 : Int32)), .int (x7 / (4 : Int32)), .int x6, .ref 129]) (h' := hp M) rfl ?_
        obtain ⟨q5, e_q5, h⟩ := Option.bind_eq_some_iff.mp h
        refine am_Y.call0 (M' := am_M217) (as := [.ref 129, .int x6, .int (x7 / (4 : Int32)), .int (x7 - x7 / (4 : Int32) * (4 : Int32)), .int (1 : Int32), .long x3]) (rest := []) (d' := 1) rfl (by omega) rfl rfl (t_m_answered x6 (x7 / (4 : Int32)) (x7 - x7 / (4 : Int32) * (4 : Int32)) (1 : Int32) x3 M q5 e_q5) ?_
        refine am_Y.run (k := 8) (pc' := 128) (lv' := [(10, .long q5), (8, .long q4), (0, .ref 129), (2, .int x2), (3, .long x3), (5, .int x5), (6, .int x6), (7, .int x7)]) (st' := [.int (lg_cmp q5 q4), .int x7, .ref 143]) (h' := hp M) rfl ?_
        refine am_Y.br (c := (lg_cmp q5 q4) ≤ (0 : Int32)) _ (t := 136) (u := 131) (lv' := [(10, .long q5), (8, .long q4), (0, .ref 129), (2, .int x2), (3, .long x3), (5, .int x5), (6, .int x6), (7, .int x7)]) (st' := [.int x7, .ref 143]) (h' := hp M) rfl (fun hc => ?_) (fun hc => ?_)
        · replace h := (if_pos hc).symm.trans h
          refine am_Y.run (k := 1) (pc' := 138) (lv' := [(10, .long q5), (8, .long q4), (0, .ref 129), (2, .int x2), (3, .long x3), (5, .int x5), (6, .int x6), (7, .int x7)]) (st' := [.long q4, .int x7, .ref 143]) (h' := hp M) rfl ?_
          refine am_Y.weak (lv2 := [(0, .ref 129), (2, .int x2), (3, .long x3), (5, .int x5), (6, .int x6), (7, .int x7), (8, .long q4), (10, .long q5)]) rfl rfl ⟨rfl, rfl, rfl, rfl, rfl, rfl, rfl, rfl, trivial⟩ ?_
          exact t_m_game_138 N K53 hK53 _ ih x2 x3 x5 x6 x7 q4 q5 x7 q4 M _ _ h
        · replace h := (if_neg hc).symm.trans h
          refine am_Y.run (k := 2) (pc' := 138) (lv' := [(10, .long q5), (8, .long q4), (0, .ref 129), (2, .int x2), (3, .long x3), (5, .int x5), (6, .int x6), (7, .int x7)]) (st' := [.long q5, .int x7, .ref 143]) (h' := hp M) rfl ?_
          refine am_Y.weak (lv2 := [(0, .ref 129), (2, .int x2), (3, .long x3), (5, .int x5), (6, .int x6), (7, .int x7), (8, .long q4), (10, .long q5)]) rfl rfl ⟨rfl, rfl, rfl, rfl, rfl, rfl, rfl, rfl, trivial⟩ ?_
          exact t_m_game_138 N K53 hK53 _ ih x2 x3 x5 x6 x7 q4 q5 x7 q5 M _ _ h
      · replace h := (if_neg hc).symm.trans h
        refine am_Y.run (k := 8) (pc' := 128) (lv' := [(10, .long q4), (8, .long q4), (0, .ref 129), (2, .int x2), (3, .long x3), (5, .int x5), (6, .int x6), (7, .int x7)]) (st' := [.int (lg_cmp q4 q4), .int x7, .ref 143]) (h' := hp M) rfl ?_
        refine am_Y.br (c := (lg_cmp q4 q4) ≤ (0 : Int32)) _ (t := 136) (u := 131) (lv' := [(10, .long q4), (8, .long q4), (0, .ref 129), (2, .int x2), (3, .long x3), (5, .int x5), (6, .int x6), (7, .int x7)]) (st' := [.int x7, .ref 143]) (h' := hp M) rfl (fun hc => ?_) (fun hc => ?_)
        · replace h := (if_pos hc).symm.trans h
          refine am_Y.run (k := 1) (pc' := 138) (lv' := [(10, .long q4), (8, .long q4), (0, .ref 129), (2, .int x2), (3, .long x3), (5, .int x5), (6, .int x6), (7, .int x7)]) (st' := [.long q4, .int x7, .ref 143]) (h' := hp M) rfl ?_
          refine am_Y.weak (lv2 := [(0, .ref 129), (2, .int x2), (3, .long x3), (5, .int x5), (6, .int x6), (7, .int x7), (8, .long q4), (10, .long q4)]) rfl rfl ⟨rfl, rfl, rfl, rfl, rfl, rfl, rfl, rfl, trivial⟩ ?_
          exact t_m_game_138 N K53 hK53 _ ih x2 x3 x5 x6 x7 q4 q4 x7 q4 M _ _ h
        · replace h := (if_neg hc).symm.trans h
          refine am_Y.run (k := 2) (pc' := 138) (lv' := [(10, .long q4), (8, .long q4), (0, .ref 129), (2, .int x2), (3, .long x3), (5, .int x5), (6, .int x6), (7, .int x7)]) (st' := [.long q4, .int x7, .ref 143]) (h' := hp M) rfl ?_
          refine am_Y.weak (lv2 := [(0, .ref 129), (2, .int x2), (3, .long x3), (5, .int x5), (6, .int x6), (7, .int x7), (8, .long q4), (10, .long q4)]) rfl rfl ⟨rfl, rfl, rfl, rfl, rfl, rfl, rfl, rfl, trivial⟩ ?_
          exact t_m_game_138 N K53 hK53 _ ih x2 x3 x5 x6 x7 q4 q4 x7 q4 M _ _ h
set_option maxRecDepth 100000 in
theorem t_m_game_53 {S : Nat × (Nat → Int32)} (N : Nat) : ∀ (n : Nat) (x2 : Int32) (x3 : Int64) (x5 : Int32) (x6 : Int32) (M : Mem) (r : Int64) (M' : Mem), f_m_game_53 N n x2 x3 x5 x6 M = some (r, M') → am_Y S 2 0 0 am_M87 53 [(0, .ref 129), (2, .int x2), (3, .long x3), (5, .int x5), (6, .int x6)] [] (hp M) (some (.long r)) (hp M') := by
  intro n
  induction n with
  | zero =>
    intro x2 x3 x5 x6 M r M' h
    cases h
  | succ n ih =>
    intro x2 x3 x5 x6 M r M' h
    rw [f_m_game_53] at h
    refine am_Y.run (k := 1) (pc' := 55) (lv' := [(0, .ref 129), (2, .int x2), (3, .long x3), (5, .int x5), (6, .int x6)]) (st' := [.int x6]) (h' := hp M) rfl ?_
    refine am_Y.br (c := x6 < (0 : Int32)) _ (t := 208) (u := 58) (lv' := [(0, .ref 129), (2, .int x2), (3, .long x3), (5, .int x5), (6, .int x6)]) (st' := []) (h' := hp M) rfl (fun hc => ?_) (fun hc => ?_)
    · replace h := (if_pos hc).symm.trans h
      refine am_Y.run (k := 2) (pc' := 210) (lv' := [(0, .ref 129), (2, .int x2), (3, .long x3), (5, .int x5), (6, .int x6)]) (st' := [.int (2 : Int32), .int x2]) (h' := hp M) rfl ?_
      refine am_Y.br (c := x2 = (2 : Int32)) _ (t := 213) (u := 226) (lv' := [(0, .ref 129), (2, .int x2), (3, .long x3), (5, .int x5), (6, .int x6)]) (st' := []) (h' := hp M) rfl (fun hc => ?_) (fun hc => ?_)
      · replace h := (if_pos hc).symm.trans h
        refine am_Y.run (k := 1) (pc' := 215) (lv' := [(0, .ref 129), (2, .int x2), (3, .long x3), (5, .int x5), (6, .int x6)]) (st' := [.int x5]) (h' := hp M) rfl ?_
        refine am_Y.br (c := x5 = (0 : Int32)) _ (t := 222) (u := 218) (lv' := [(0, .ref 129), (2, .int x2), (3, .long x3), (5, .int x5), (6, .int x6)]) (st' := []) (h' := hp M) rfl (fun hc => ?_) (fun hc => ?_)
        · replace h := (if_pos hc).symm.trans h
          refine am_Y.run (k := 2) (pc' := 246) (lv' := [(0, .ref 129), (2, .int x2), (3, .long x3), (5, .int x5), (6, .int x6)]) (st' := [.long (0 : Int64)]) (h' := hp M) rfl ?_
          obtain ⟨rfl, rfl⟩ := Prod.mk.inj (Option.some.inj h)
          exact am_Y.ret rfl
        · replace h := (if_neg hc).symm.trans h
          refine am_Y.run (k := 2) (pc' := 246) (lv' := [(0, .ref 129), (2, .int x2), (3, .long x3), (5, .int x5), (6, .int x6)]) (st' := [.long (1 : Int64)]) (h' := hp M) rfl ?_
          obtain ⟨rfl, rfl⟩ := Prod.mk.inj (Option.some.inj h)
          exact am_Y.ret rfl
      · replace h := (if_neg hc).symm.trans h
        refine am_Y.run (k := 7) (pc' := 235) (lv' := [(0, .ref 129), (2, .int x2), (3, .long x3), (5, .int x5), (6, .int x6)]) (st' := [.int (1 : Int32), .int x2, .long x3, .long (gj M 142 3)]) (h' := hp M) rfl ?_
        refine am_Y.br (c := x2 = (1 : Int32)) _ (t := 238) (u := 242) (lv' := [(0, .ref 129), (2, .int x2), (3, .long x3), (5, .int x5), (6, .int x6)]) (st' := [.long x3, .long (gj M 142 3)]) (h' := hp M) rfl (fun hc => ?_) (fun hc => ?_)
        · replace h := (if_pos hc).symm.trans h
          refine am_Y.run (k := 2) (pc' := 243) (lv' := [(0, .ref 129), (2, .int x2), (3, .long x3), (5, .int x5), (6, .int x6)]) (st' := [.int (1 : Int32), .long x3, .long (gj M 142 3)]) (h' := hp M) rfl ?_
          obtain ⟨q2, e_q2, h⟩ := Option.bind_eq_some_iff.mp h
          refine am_Y.call0 (M' := am_M179) (as := [.long (gj M 142 3), .long x3, .int (1 : Int32)]) (rest := []) (d' := 1) rfl (by omega) rfl rfl (t_m_part N (gj M 142 3) x3 (1 : Int32) M q2 e_q2) ?_
          obtain ⟨rfl, rfl⟩ := Prod.mk.inj (Option.some.inj h)
          exact am_Y.ret rfl
        · replace h := (if_neg hc).symm.trans h
          refine am_Y.run (k := 1) (pc' := 243) (lv' := [(0, .ref 129), (2, .int x2), (3, .long x3), (5, .int x5), (6, .int x6)]) (st' := [.int (0 : Int32), .long x3, .long (gj M 142 3)]) (h' := hp M) rfl ?_
          obtain ⟨q3, e_q3, h⟩ := Option.bind_eq_some_iff.mp h
          refine am_Y.call0 (M' := am_M179) (as := [.long (gj M 142 3), .long x3, .int (0 : Int32)]) (rest := []) (d' := 1) rfl (by omega) rfl rfl (t_m_part N (gj M 142 3) x3 (0 : Int32) M q3 e_q3) ?_
          obtain ⟨rfl, rfl⟩ := Prod.mk.inj (Option.some.inj h)
          exact am_Y.ret rfl
    · replace h := (if_neg hc).symm.trans h
      refine am_Y.run (k := 2) (pc' := 61) (lv' := [(7, .int (0 : Int32)), (0, .ref 129), (2, .int x2), (3, .long x3), (5, .int x5), (6, .int x6)]) (st' := []) (h' := hp M) rfl ?_
      refine am_Y.weak (lv2 := [(0, .ref 129), (2, .int x2), (3, .long x3), (5, .int x5), (6, .int x6), (7, .int (0 : Int32))]) rfl rfl ⟨rfl, rfl, rfl, rfl, rfl, rfl, trivial⟩ ?_
      exact t_m_game_61 N _ ih N x2 x3 x5 x6 (0 : Int32) M _ _ h
set_option maxRecDepth 100000 in
theorem t_m_game_24 {S : Nat × (Nat → Int32)} (N : Nat) : ∀ (n : Nat) (x1 : Int32) (x2 : Int32) (x3 : Int32) (M : Mem) (r : Int64) (M' : Mem), f_m_game_24 N n x1 x2 x3 M = some (r, M') → am_Y S 2 0 0 am_M87 24 [(0, .ref 129), (1, .int x1), (2, .int x2), (3, .int x3)] [] (hp M) (some (.long r)) (hp M') := by
  intro n
  induction n with
  | zero =>
    intro x1 x2 x3 M r M' h
    cases h
  | succ n ih =>
    intro x1 x2 x3 M r M' h
    rw [f_m_game_24] at h
    refine am_Y.run (k := 2) (pc' := 27) (lv' := [(0, .ref 129), (1, .int x1), (2, .int x2), (3, .int x3)]) (st' := [.int (16 : Int32), .int x3]) (h' := hp M) rfl ?_
    refine am_Y.br (c := (16 : Int32) ≤ x3) _ (t := 43) (u := 30) (lv' := [(0, .ref 129), (1, .int x1), (2, .int x2), (3, .int x3)]) (st' := []) (h' := hp M) rfl (fun hc => ?_) (fun hc => ?_)
    · replace h := (if_pos hc).symm.trans h
      refine am_Y.run (k := 8) (pc' := 53) (lv' := [(6, .int (x1 - (1 : Int32))), (5, .int (0 : Int32)), (3, .long (1 : Int64)), (0, .ref 129), (1, .int x1), (2, .int x2)]) (st' := []) (h' := hp M) rfl ?_
      refine am_Y.weak (lv2 := [(0, .ref 129), (2, .int x2), (3, .long (1 : Int64)), (5, .int (0 : Int32)), (6, .int (x1 - (1 : Int32)))]) rfl rfl ⟨rfl, rfl, rfl, rfl, rfl, trivial⟩ ?_
      exact t_m_game_53 N N x2 (1 : Int64) (0 : Int32) (x1 - (1 : Int32)) M _ _ h
    · replace h := (if_neg hc).symm.trans h
      refine am_Y.run (k := 4) (pc' := 36) (lv' := [(0, .ref 129), (1, .int x1), (2, .int x2), (3, .int x3)]) (st' := [.long (0 : Int64), .int x3, .ref 142]) (h' := hp M) rfl ?_
      obtain ⟨g, h⟩ := am_itg h
      refine am_Y.last (a := 137) (n := 16) rfl rfl g ?_
      refine am_Y.run (k := 0) (pc' := _) (lv' := [(0, .ref 129), (1, .int x1), (2, .int x2), (3, .int x3)]) (st' := []) (h' := hp (sj M 142 (x3).toNatClampNeg (0 : Int64))) rfl ?_
      obtain ⟨q1, e_q1, h⟩ := Option.bind_eq_some_iff.mp h
      rw [Option.some.inj e_q1]
      refine am_Y.run (k := 2) (pc' := 24) (lv' := [(3, .int (x3 + (1 : Int32))), (0, .ref 129), (1, .int x1), (2, .int x2)]) (st' := []) (h' := hp q1) rfl ?_
      refine am_Y.weak (lv2 := [(0, .ref 129), (1, .int x1), (2, .int x2), (3, .int (x3 + (1 : Int32)))]) rfl rfl ⟨rfl, rfl, rfl, rfl, trivial⟩ ?_
      exact ih x1 x2 (x3 + (1 : Int32)) q1 _ _ h
set_option maxRecDepth 100000 in
theorem t_m_game {S : Nat × (Nat → Int32)} (N : Nat) (x1 : Int32) (x2 : Int32) (M : Mem) (r : Int64) (M' : Mem) (h : f_m_game N x1 x2 M = some (r, M')) : am_Y S 2 0 0 am_M87 0 [(0, .ref 129), (1, .int x1), (2, .int x2)] [] (hp M) (some (.long r)) (hp M') := by
  rw [f_m_game] at h
  refine am_Y.run (k := 3) (pc' := 3) (lv' := [(0, .ref 129), (1, .int x1), (2, .int x2)]) (st' := [.int (5 : Int32), .int (1 : Int32), .int x1]) (h' := hp M) rfl ?_
  refine am_Y.call0 (M' := am_M104) (as := [.int x1, .int (1 : Int32), .int (5 : Int32)]) (rest := []) (d' := 0) rfl (by omega) rfl rfl (t_m_isIn x1 (1 : Int32) (5 : Int32) M _ rfl) ?_
  refine am_Y.br (c := (f_m_isIn x1 (1 : Int32) (5 : Int32) M) = (0 : Int32)) _ (t := 18) (u := 9) (lv' := [(0, .ref 129), (1, .int x1), (2, .int x2)]) (st' := []) (h' := hp M) rfl (fun hc => ?_) (fun hc => ?_)
  · replace h := (if_pos hc).symm.trans h
    refine am_Y.run (k := 1) (pc' := 21) (lv' := [(0, .ref 129), (1, .int x1), (2, .int x2)]) (st' := [.long (-2 : Int64)]) (h' := hp M) rfl ?_
    obtain ⟨rfl, rfl⟩ := Prod.mk.inj (Option.some.inj h)
    exact am_Y.ret rfl
  · replace h := (if_neg hc).symm.trans h
    refine am_Y.run (k := 3) (pc' := 12) (lv' := [(0, .ref 129), (1, .int x1), (2, .int x2)]) (st' := [.int (2 : Int32), .int (0 : Int32), .int x2]) (h' := hp M) rfl ?_
    refine am_Y.call0 (M' := am_M104) (as := [.int x2, .int (0 : Int32), .int (2 : Int32)]) (rest := []) (d' := 0) rfl (by omega) rfl rfl (t_m_isIn x2 (0 : Int32) (2 : Int32) M _ rfl) ?_
    refine am_Y.br (c := (f_m_isIn x2 (0 : Int32) (2 : Int32) M) = (0 : Int32)) _ (t := 18) (u := 22) (lv' := [(0, .ref 129), (1, .int x1), (2, .int x2)]) (st' := []) (h' := hp M) rfl (fun hc => ?_) (fun hc => ?_)
    · replace h := (if_pos hc).symm.trans h
      refine am_Y.run (k := 1) (pc' := 21) (lv' := [(0, .ref 129), (1, .int x1), (2, .int x2)]) (st' := [.long (-2 : Int64)]) (h' := hp M) rfl ?_
      obtain ⟨rfl, rfl⟩ := Prod.mk.inj (Option.some.inj h)
      exact am_Y.ret rfl
    · replace h := (if_neg hc).symm.trans h
      refine am_Y.run (k := 2) (pc' := 24) (lv' := [(3, .int (0 : Int32)), (0, .ref 129), (1, .int x1), (2, .int x2)]) (st' := []) (h' := hp M) rfl ?_
      refine am_Y.weak (lv2 := [(0, .ref 129), (1, .int x1), (2, .int x2), (3, .int (0 : Int32))]) rfl rfl ⟨rfl, rfl, rfl, rfl, trivial⟩ ?_
      exact t_m_game_24 N N x1 x2 (0 : Int32) M _ _ h
set_option maxRecDepth 100000 in
theorem t_c_worthOfKnowing_6 {S : Nat × (Nat → Int32)} (N : Nat) : ∀ (n : Nat) (x1 : Int32) (x2 : Int32) (x3 : Int32) (x4 : Int64) (x6 : Int32) (M : Mem) (r : Int64), f_c_worthOfKnowing_6 N n x1 x2 x3 x4 x6 M = some r → am_Y S 4 0 0 am_M218 6 [(0, .ref 46), (1, .int x1), (2, .int x2), (3, .int x3), (4, .long x4), (6, .int x6)] [] (hp M) (some (.long r)) (hp M) := by
  intro n
  induction n with
  | zero =>
    intro x1 x2 x3 x4 x6 M r h
    cases h
  | succ n ih =>
    intro x1 x2 x3 x4 x6 M r h
    rw [f_c_worthOfKnowing_6] at h
    refine am_Y.run (k := 2) (pc' := 9) (lv' := [(0, .ref 46), (1, .int x1), (2, .int x2), (3, .int x3), (4, .long x4), (6, .int x6)]) (st' := [.int x2, .int x6]) (h' := hp M) rfl ?_
    refine am_Y.br (c := x2 ≤ x6) _ (t := 61) (u := 12) (lv' := [(0, .ref 46), (1, .int x1), (2, .int x2), (3, .int x3), (4, .long x4), (6, .int x6)]) (st' := []) (h' := hp M) rfl (fun hc => ?_) (fun hc => ?_)
    · replace h := (if_pos hc).symm.trans h
      refine am_Y.run (k := 11) (pc' := 72) (lv' := [(0, .ref 46), (1, .int x1), (2, .int x2), (3, .int x3), (4, .long x4), (6, .int x6)]) (st' := [.int (0 : Int32), .int x2, .int x1, .ref 46, .int (1 : Int32), .int (0 : Int32), .int x2, .int x1, .ref 46, .long (Int32.toInt64 x3)]) (h' := hp M) rfl ?_
      obtain ⟨q1, e_q1, h⟩ := Option.bind_eq_some_iff.mp h
      refine am_Y.call0 (M' := am_M209) (as := [.ref 46, .int x1, .int x2, .int (0 : Int32)]) (rest := [.int (1 : Int32), .int (0 : Int32), .int x2, .int x1, .ref 46, .long (Int32.toInt64 x3)]) (d' := 3) rfl (by omega) rfl rfl (t_c_bestMoment N x1 x2 (0 : Int32) M q1 e_q1) ?_
      refine am_Y.run (k := 1) (pc' := 76) (lv' := [(0, .ref 46), (1, .int x1), (2, .int x2), (3, .int x3), (4, .long x4), (6, .int x6)]) (st' := [.int ((1 : Int32) <<< (q1 &&& 31)), .int (0 : Int32), .int x2, .int x1, .ref 46, .long (Int32.toInt64 x3)]) (h' := hp M) rfl ?_
      obtain ⟨q2, e_q2, h⟩ := Option.bind_eq_some_iff.mp h
      refine am_Y.call0 (M' := am_M210) (as := [.ref 46, .int x1, .int x2, .int (0 : Int32), .int ((1 : Int32) <<< (q1 &&& 31))]) (rest := [.long (Int32.toInt64 x3)]) (d' := 2) rfl (by omega) rfl rfl (t_c_part N x1 x2 (0 : Int32) ((1 : Int32) <<< (q1 &&& 31)) M q2 e_q2) ?_
      refine am_Y.run (k := 14) (pc' := 94) (lv' := [(0, .ref 46), (1, .int x1), (2, .int x2), (3, .int x3), (4, .long x4), (6, .int x6)]) (st' := [.int (1 : Int32), .int x2, .int x1, .ref 46, .int (1 : Int32), .int (1 : Int32), .int x2, .int x1, .ref 46, .long (Int32.toInt64 ((10 : Int32) - x3)), .long ((Int32.toInt64 x3) * q2)]) (h' := hp M) rfl ?_
      obtain ⟨q3, e_q3, h⟩ := Option.bind_eq_some_iff.mp h
      refine am_Y.call0 (M' := am_M209) (as := [.ref 46, .int x1, .int x2, .int (1 : Int32)]) (rest := [.int (1 : Int32), .int (1 : Int32), .int x2, .int x1, .ref 46, .long (Int32.toInt64 ((10 : Int32) - x3)), .long ((Int32.toInt64 x3) * q2)]) (d' := 3) rfl (by omega) rfl rfl (t_c_bestMoment N x1 x2 (1 : Int32) M q3 e_q3) ?_
      refine am_Y.run (k := 1) (pc' := 98) (lv' := [(0, .ref 46), (1, .int x1), (2, .int x2), (3, .int x3), (4, .long x4), (6, .int x6)]) (st' := [.int ((1 : Int32) <<< (q3 &&& 31)), .int (1 : Int32), .int x2, .int x1, .ref 46, .long (Int32.toInt64 ((10 : Int32) - x3)), .long ((Int32.toInt64 x3) * q2)]) (h' := hp M) rfl ?_
      obtain ⟨q4, e_q4, h⟩ := Option.bind_eq_some_iff.mp h
      refine am_Y.call0 (M' := am_M210) (as := [.ref 46, .int x1, .int x2, .int (1 : Int32), .int ((1 : Int32) <<< (q3 &&& 31))]) (rest := [.long (Int32.toInt64 ((10 : Int32) - x3)), .long ((Int32.toInt64 x3) * q2)]) (d' := 2) rfl (by omega) rfl rfl (t_c_part N x1 x2 (1 : Int32) ((1 : Int32) <<< (q3 &&& 31)) M q4 e_q4) ?_
      refine am_Y.run (k := 6) (pc' := 110) (lv' := [(6, .long (((Int32.toInt64 x3) * q2) + ((Int32.toInt64 ((10 : Int32) - x3)) * q4))), (0, .ref 46), (1, .int x1), (2, .int x2), (3, .int x3), (4, .long x4)]) (st' := [.long ((((Int32.toInt64 x3) * q2) + ((Int32.toInt64 ((10 : Int32) - x3)) * q4)) - x4)]) (h' := hp M) rfl ?_
      obtain rfl := Option.some.inj h
      exact am_Y.ret rfl
    · replace h := (if_neg hc).symm.trans h
      refine am_Y.run (k := 9) (pc' := 22) (lv' := [(0, .ref 46), (1, .int x1), (2, .int x2), (3, .int x3), (4, .long x4), (6, .int x6)]) (st' := [.int ((1 : Int32) <<< (x6 &&& 31)), .int (0 : Int32), .int x2, .int x1, .ref 46, .long (Int32.toInt64 x3)]) (h' := hp M) rfl ?_
      obtain ⟨q5, e_q5, h⟩ := Option.bind_eq_some_iff.mp h
      refine am_Y.call0 (M' := am_M210) (as := [.ref 46, .int x1, .int x2, .int (0 : Int32), .int ((1 : Int32) <<< (x6 &&& 31))]) (rest := [.long (Int32.toInt64 x3)]) (d' := 2) rfl (by omega) rfl rfl (t_c_part N x1 x2 (0 : Int32) ((1 : Int32) <<< (x6 &&& 31)) M q5 e_q5) ?_
      refine am_Y.run (k := 12) (pc' := 39) (lv' := [(0, .ref 46), (1, .int x1), (2, .int x2), (3, .int x3), (4, .long x4), (6, .int x6)]) (st' := [.int ((1 : Int32) <<< (x6 &&& 31)), .int (1 : Int32), .int x2, .int x1, .ref 46, .long (Int32.toInt64 ((10 : Int32) - x3)), .long ((Int32.toInt64 x3) * q5)]) (h' := hp M) rfl ?_
      obtain ⟨q6, e_q6, h⟩ := Option.bind_eq_some_iff.mp h
      refine am_Y.call0 (M' := am_M210) (as := [.ref 46, .int x1, .int x2, .int (1 : Int32), .int ((1 : Int32) <<< (x6 &&& 31))]) (rest := [.long (Int32.toInt64 ((10 : Int32) - x3)), .long ((Int32.toInt64 x3) * q5)]) (d' := 2) rfl (by omega) rfl rfl (t_c_part N x1 x2 (1 : Int32) ((1 : Int32) <<< (x6 &&& 31)) M q6 e_q6) ?_
      refine am_Y.run (k := 5) (pc' := 50) (lv' := [(7, .long (((Int32.toInt64 x3) * q5) + ((Int32.toInt64 ((10 : Int32) - x3)) * q6))), (0, .ref 46), (1, .int x1), (2, .int x2), (3, .int x3), (4, .long x4), (6, .int x6)]) (st' := [.long (((Int32.toInt64 x3) * q5) + ((Int32.toInt64 ((10 : Int32) - x3)) * q6)), .long x4]) (h' := hp M) rfl ?_
      refine am_Y.call0 (M' := am_M263) (as := [.long x4, .long (((Int32.toInt64 x3) * q5) + ((Int32.toInt64 ((10 : Int32) - x3)) * q6))]) (rest := []) (d' := 0) rfl (by omega) rfl rfl (t_k_max1 x4 (((Int32.toInt64 x3) * q5) + ((Int32.toInt64 ((10 : Int32) - x3)) * q6)) M _ rfl) ?_
      refine am_Y.run (k := 3) (pc' := 6) (lv' := [(6, .int (x6 + (1 : Int32))), (4, .long (f_k_max1 x4 (((Int32.toInt64 x3) * q5) + ((Int32.toInt64 ((10 : Int32) - x3)) * q6)) M)), (7, .long (((Int32.toInt64 x3) * q5) + ((Int32.toInt64 ((10 : Int32) - x3)) * q6))), (0, .ref 46), (1, .int x1), (2, .int x2), (3, .int x3)]) (st' := []) (h' := hp M) rfl ?_
      refine am_Y.weak (lv2 := [(0, .ref 46), (1, .int x1), (2, .int x2), (3, .int x3), (4, .long (f_k_max1 x4 (((Int32.toInt64 x3) * q5) + ((Int32.toInt64 ((10 : Int32) - x3)) * q6)) M)), (6, .int (x6 + (1 : Int32)))]) rfl rfl ⟨rfl, rfl, rfl, rfl, rfl, rfl, trivial⟩ ?_
      exact ih x1 x2 x3 (f_k_max1 x4 (((Int32.toInt64 x3) * q5) + ((Int32.toInt64 ((10 : Int32) - x3)) * q6)) M) (x6 + (1 : Int32)) M _ h
set_option maxRecDepth 100000 in
theorem t_c_worthOfKnowing {S : Nat × (Nat → Int32)} (N : Nat) (x1 : Int32) (x2 : Int32) (x3 : Int32) (M : Mem) (r : Int64) (h : f_c_worthOfKnowing N x1 x2 x3 M = some r) : am_Y S 4 0 0 am_M218 0 [(0, .ref 46), (1, .int x1), (2, .int x2), (3, .int x3)] [] (hp M) (some (.long r)) (hp M) := by
  rw [f_c_worthOfKnowing] at h
  refine am_Y.run (k := 4) (pc' := 6) (lv' := [(6, .int (0 : Int32)), (4, .long (0 : Int64)), (0, .ref 46), (1, .int x1), (2, .int x2), (3, .int x3)]) (st' := []) (h' := hp M) rfl ?_
  refine am_Y.weak (lv2 := [(0, .ref 46), (1, .int x1), (2, .int x2), (3, .int x3), (4, .long (0 : Int64)), (6, .int (0 : Int32))]) rfl rfl ⟨rfl, rfl, rfl, rfl, rfl, rfl, trivial⟩ ?_
  exact t_c_worthOfKnowing_6 N N x1 x2 x3 (0 : Int64) (0 : Int32) M _ h
set_option maxRecDepth 100000 in
theorem t_w_cough {S : Nat × (Nat → Int32)} (N : Nat) (x1 : Int32) (x2 : Int32) (x3 : Int32) (x4 : Int32) (M : Mem) (r : Int64) (M' : Mem) (h : f_w_cough N x1 x2 x3 x4 M = some (r, M')) : am_Y S 5 0 0 am_M88 0 [(0, .ref 5), (1, .int x1), (2, .int x2), (3, .int x3), (4, .int x4)] [] (hp M) (some (.long r)) (hp M') := by
  rw [f_w_cough] at h
  refine am_Y.run (k := 4) (pc' := 4) (lv' := [(0, .ref 5), (1, .int x1), (2, .int x2), (3, .int x3), (4, .int x4)]) (st' := [.int (0 : Int32), .int x2, .int x1, .ref 5]) (h' := hp M) rfl ?_
  refine am_Y.call0 (M' := am_M207) (as := [.ref 5, .int x1, .int x2, .int (0 : Int32)]) (rest := []) (d' := 2) rfl (by omega) rfl rfl (t_w_isToCome x1 x2 (0 : Int32) M _ rfl) ?_
  refine am_Y.br (c := (f_w_isToCome x1 x2 (0 : Int32) M) = (0 : Int32)) _ (t := 20) (u := 10) (lv' := [(0, .ref 5), (1, .int x1), (2, .int x2), (3, .int x3), (4, .int x4)]) (st' := []) (h' := hp M) rfl (fun hc => ?_) (fun hc => ?_)
  · replace h := (if_pos hc).symm.trans h
    refine am_Y.run (k := 1) (pc' := 23) (lv' := [(0, .ref 5), (1, .int x1), (2, .int x2), (3, .int x3), (4, .int x4)]) (st' := [.long (-1 : Int64)]) (h' := hp M) rfl ?_
    obtain ⟨rfl, rfl⟩ := Prod.mk.inj (Option.some.inj h)
    exact am_Y.ret rfl
  · replace h := (if_neg hc).symm.trans h
    refine am_Y.run (k := 3) (pc' := 14) (lv' := [(0, .ref 5), (1, .int x1), (2, .int x2), (3, .int x3), (4, .int x4)]) (st' := [.int (10 : Int32), .int (0 : Int32), .int x3]) (h' := hp M) rfl ?_
    refine am_Y.call0 (M' := am_M102) (as := [.int x3, .int (0 : Int32), .int (10 : Int32)]) (rest := []) (d' := 0) rfl (by omega) rfl rfl (t_w_within x3 (0 : Int32) (10 : Int32) M _ rfl) ?_
    refine am_Y.br (c := (f_w_within x3 (0 : Int32) (10 : Int32) M) = (0 : Int32)) _ (t := 20) (u := 24) (lv' := [(0, .ref 5), (1, .int x1), (2, .int x2), (3, .int x3), (4, .int x4)]) (st' := []) (h' := hp M) rfl (fun hc => ?_) (fun hc => ?_)
    · replace h := (if_pos hc).symm.trans h
      refine am_Y.run (k := 1) (pc' := 23) (lv' := [(0, .ref 5), (1, .int x1), (2, .int x2), (3, .int x3), (4, .int x4)]) (st' := [.long (-1 : Int64)]) (h' := hp M) rfl ?_
      obtain ⟨rfl, rfl⟩ := Prod.mk.inj (Option.some.inj h)
      exact am_Y.ret rfl
    · replace h := (if_neg hc).symm.trans h
      refine am_Y.run (k := 8) (pc' := 42) (lv' := [(5, .ref 46), (0, .ref 5), (1, .int x1), (2, .int x2), (3, .int x3), (4, .int x4)]) (st' := [.ref 11, .ref 46]) (h' := hp M) rfl ?_
      obtain ⟨q1, e_q1, h⟩ := Option.bind_eq_some_iff.mp h
      refine am_Y.call0 (M' := am_M148) (as := [.ref 11]) (rest := [.ref 46]) (d' := 2) rfl (by omega) rfl rfl (t_e_holdNow N M q1 e_q1) ?_
      obtain ⟨q2, e_q2, h⟩ := Option.bind_eq_some_iff.mp h
      refine am_Y.call0 (M' := am_M208) (as := [.ref 46, .int q1]) (rest := []) (d' := 0) rfl (by omega) rfl rfl (t_c_startWith q1 M q2 e_q2) ?_
      refine am_Y.run (k := 4) (pc' := 53) (lv' := [(5, .ref 46), (0, .ref 5), (1, .int x1), (2, .int x2), (3, .int x3), (4, .int x4)]) (st' := [.int x3, .int x2, .int x1, .ref 46]) (h' := hp q2) rfl ?_
      obtain ⟨q3, e_q3, h⟩ := Option.bind_eq_some_iff.mp h
      refine am_Y.call0 (M' := am_M218) (as := [.ref 46, .int x1, .int x2, .int x3]) (rest := []) (d' := 4) rfl (by omega) rfl rfl (t_c_worthOfKnowing N x1 x2 x3 q2 q3 e_q3) ?_
      refine am_Y.run (k := 2) (pc' := 60) (lv' := [(5, .ref 46), (0, .ref 5), (1, .int x1), (2, .int x2), (3, .int x3), (4, .int x4)]) (st' := [.int x2, .long (8400 : Int64), .long q3]) (h' := hp q2) rfl ?_
      obtain ⟨q4, e_q4, h⟩ := Option.bind_eq_some_iff.mp h
      refine am_Y.call0 (M' := am_M172) (as := [.int x2]) (rest := [.long (8400 : Int64), .long q3]) (d' := 0) rfl (by omega) rfl rfl (t_w_hundreds N x2 q2 q4 e_q4) ?_
      refine am_Y.run (k := 2) (pc' := 66) (lv' := [(5, .ref 46), (0, .ref 5), (1, .int x1), (2, .int x2), (3, .int x3), (4, .int x4)]) (st' := [.int x4, .long ((8400 : Int64) * q4), .long q3]) (h' := hp q2) rfl ?_
      obtain ⟨q5, e_q5, h⟩ := Option.bind_eq_some_iff.mp h
      refine am_Y.call0 (M' := am_M173) (as := [.long q3, .long ((8400 : Int64) * q4), .int x4]) (rest := []) (d' := 1) rfl (by omega) rfl rfl (t_w_lowest N q3 ((8400 : Int64) * q4) x4 q2 q5 e_q5) ?_
      obtain ⟨rfl, rfl⟩ := Prod.mk.inj (Option.some.inj h)
      exact am_Y.ret rfl
set_option maxRecDepth 100000 in
theorem t_m_cough_100 {S : Nat × (Nat → Int32)} (N : Nat) (K36 : Int32 → Int32 → Int32 → Int32 → Int64 → Int64 → Int64 → Int32 → Mem → Option (Int64 × Mem)) (hK36 : ∀ (x1 : Int32) (x2 : Int32) (x3 : Int32) (x4 : Int32) (x5 : Int64) (x7 : Int64) (x9 : Int64) (x11 : Int32) (M : Mem) (r : Int64) (M' : Mem), K36 x1 x2 x3 x4 x5 x7 x9 x11 M = some (r, M') → am_Y S 4 0 0 am_M89 36 [(0, .ref 129), (1, .int x1), (2, .int x2), (3, .int x3), (4, .int x4), (5, .long x5), (7, .long x7), (9, .long x9), (11, .int x11)] [] (hp M) (some (.long r)) (hp M')) (x1 : Int32) (x2 : Int32) (x3 : Int32) (x4 : Int32) (x5 : Int64) (x7 : Int64) (x11 : Int32) (x12 : Int64) (x14 : Int64) (s0 : Int64) (M : Mem) (r : Int64) (M' : Mem) (h : f_m_cough_100 N K36 x1 x2 x3 x4 x5 x7 x11 x12 x14 s0 M = some (r, M')) : am_Y S 4 0 0 am_M89 100 [(0, .ref 129), (1, .int x1), (2, .int x2), (3, .int x3), (4, .int x4), (5, .long x5), (7, .long x7), (11, .int x11), (12, .long x12), (14, .long x14)] [.long s0] (hp M) (some (.long r)) (hp M') := by
  rw [f_m_cough_100] at h
  refine am_Y.run (k := 14) (pc' := 119) (lv' := [(9, .long s0), (0, .ref 129), (1, .int x1), (2, .int x2), (3, .int x3), (4, .int x4), (5, .long x5), (7, .long x7), (11, .int x11), (12, .long x12), (14, .long x14)]) (st' := [.int (lg_cmp (((Int32.toInt64 x3) * x12) + ((Int32.toInt64 ((10 : Int32) - x3)) * x14)) x5)]) (h' := hp M) rfl ?_
  refine am_Y.br (c := (lg_cmp (((Int32.toInt64 x3) * x12) + ((Int32.toInt64 ((10 : Int32) - x3)) * x14)) x5) ≤ (0 : Int32)) _ (t := 139) (u := 122) (lv' := [(9, .long s0), (0, .ref 129), (1, .int x1), (2, .int x2), (3, .int x3), (4, .int x4), (5, .long x5), (7, .long x7), (11, .int x11), (12, .long x12), (14, .long x14)]) (st' := []) (h' := hp M) rfl (fun hc => ?_) (fun hc => ?_)
  · replace h := (if_pos hc).symm.trans h
    refine am_Y.run (k := 4) (pc' := 36) (lv' := [(11, .int (x11 + (1 : Int32))), (5, .long x5), (9, .long s0), (0, .ref 129), (1, .int x1), (2, .int x2), (3, .int x3), (4, .int x4), (7, .long x7), (12, .long x12), (14, .long x14)]) (st' := []) (h' := hp M) rfl ?_
    refine am_Y.weak (lv2 := [(0, .ref 129), (1, .int x1), (2, .int x2), (3, .int x3), (4, .int x4), (5, .long x5), (7, .long x7), (9, .long s0), (11, .int (x11 + (1 : Int32)))]) rfl rfl ⟨rfl, rfl, rfl, rfl, rfl, rfl, rfl, rfl, rfl, trivial⟩ ?_
    exact hK36 x1 x2 x3 x4 x5 x7 s0 (x11 + (1 : Int32)) M _ _ h
  · replace h := (if_neg hc).symm.trans h
    refine am_Y.run (k := 15) (pc' := 36) (lv' := [(11, .int (x11 + (1 : Int32))), (5, .long (((Int32.toInt64 x3) * x12) + ((Int32.toInt64 ((10 : Int32) - x3)) * x14))), (9, .long s0), (0, .ref 129), (1, .int x1), (2, .int x2), (3, .int x3), (4, .int x4), (7, .long x7), (12, .long x12), (14, .long x14)]) (st' := []) (h' := hp M) rfl ?_
    refine am_Y.weak (lv2 := [(0, .ref 129), (1, .int x1), (2, .int x2), (3, .int x3), (4, .int x4), (5, .long (((Int32.toInt64 x3) * x12) + ((Int32.toInt64 ((10 : Int32) - x3)) * x14))), (7, .long x7), (9, .long s0), (11, .int (x11 + (1 : Int32)))]) rfl rfl ⟨rfl, rfl, rfl, rfl, rfl, rfl, rfl, rfl, rfl, trivial⟩ ?_
    exact hK36 x1 x2 x3 x4 (((Int32.toInt64 x3) * x12) + ((Int32.toInt64 ((10 : Int32) - x3)) * x14)) x7 s0 (x11 + (1 : Int32)) M _ _ h
set_option maxRecDepth 100000 in
theorem t_m_cough_36 {S : Nat × (Nat → Int32)} (N : Nat) : ∀ (n : Nat) (x1 : Int32) (x2 : Int32) (x3 : Int32) (x4 : Int32) (x5 : Int64) (x7 : Int64) (x9 : Int64) (x11 : Int32) (M : Mem) (r : Int64) (M' : Mem), f_m_cough_36 N n x1 x2 x3 x4 x5 x7 x9 x11 M = some (r, M') → am_Y S 4 0 0 am_M89 36 [(0, .ref 129), (1, .int x1), (2, .int x2), (3, .int x3), (4, .int x4), (5, .long x5), (7, .long x7), (9, .long x9), (11, .int x11)] [] (hp M) (some (.long r)) (hp M') := by
  intro n
  induction n with
  | zero =>
    intro x1 x2 x3 x4 x5 x7 x9 x11 M r M' h
    cases h
  | succ n ih =>
    intro x1 x2 x3 x4 x5 x7 x9 x11 M r M' h
    rw [f_m_cough_36] at h
    refine am_Y.run (k := 2) (pc' := 39) (lv' := [(0, .ref 129), (1, .int x1), (2, .int x2), (3, .int x3), (4, .int x4), (5, .long x5), (7, .long x7), (9, .long x9), (11, .int x11)]) (st' := [.int x2, .int x11]) (h' := hp M) rfl ?_
    refine am_Y.br (c := x2 ≤ x11) _ (t := 149) (u := 42) (lv' := [(0, .ref 129), (1, .int x1), (2, .int x2), (3, .int x3), (4, .int x4), (5, .long x5), (7, .long x7), (9, .long x9), (11, .int x11)]) (st' := []) (h' := hp M) rfl (fun hc => ?_) (fun hc => ?_)
    · replace h := (if_pos hc).symm.trans h
      refine am_Y.run (k := 15) (pc' := 170) (lv' := [(0, .ref 129), (1, .int x1), (2, .int x2), (3, .int x3), (4, .int x4), (5, .long x5), (7, .long x7), (9, .long x9), (11, .int x11)]) (st' := [.int x2, .long (8400 : Int64), .long ((((Int32.toInt64 x3) * x7) + ((Int32.toInt64 ((10 : Int32) - x3)) * x9)) - x5)]) (h' := hp M) rfl ?_
      obtain ⟨q1, e_q1, h⟩ := Option.bind_eq_some_iff.mp h
      refine am_Y.call0 (M' := am_M178) (as := [.int x2]) (rest := [.long (8400 : Int64), .long ((((Int32.toInt64 x3) * x7) + ((Int32.toInt64 ((10 : Int32) - x3)) * x9)) - x5)]) (d' := 0) rfl (by omega) rfl rfl (t_m_power N x2 M q1 e_q1) ?_
      refine am_Y.run (k := 2) (pc' := 176) (lv' := [(0, .ref 129), (1, .int x1), (2, .int x2), (3, .int x3), (4, .int x4), (5, .long x5), (7, .long x7), (9, .long x9), (11, .int x11)]) (st' := [.int x4, .long ((8400 : Int64) * q1), .long ((((Int32.toInt64 x3) * x7) + ((Int32.toInt64 ((10 : Int32) - x3)) * x9)) - x5)]) (h' := hp M) rfl ?_
      obtain ⟨q2, e_q2, h⟩ := Option.bind_eq_some_iff.mp h
      refine am_Y.call0 (M' := am_M179) (as := [.long ((((Int32.toInt64 x3) * x7) + ((Int32.toInt64 ((10 : Int32) - x3)) * x9)) - x5), .long ((8400 : Int64) * q1), .int x4]) (rest := []) (d' := 1) rfl (by omega) rfl rfl (t_m_part N ((((Int32.toInt64 x3) * x7) + ((Int32.toInt64 ((10 : Int32) - x3)) * x9)) - x5) ((8400 : Int64) * q1) x4 M q2 e_q2) ?_
      obtain ⟨rfl, rfl⟩ := Prod.mk.inj (Option.some.inj h)
      exact am_Y.ret rfl
    · replace h := (if_neg hc).symm.trans h
      refine am_Y.run (k := 7) (pc' := 50) (lv' := [(0, .ref 129), (1, .int x1), (2, .int x2), (3, .int x3), (4, .int x4), (5, .long x5), (7, .long x7), (9, .long x9), (11, .int x11)]) (st' := [.int ((1 : Int32) <<< (x11 &&& 31)), .int (0 : Int32), .int x2, .int x1, .ref 129]) (h' := hp M) rfl ?_
      obtain ⟨q3, e_q3, h⟩ := Option.bind_eq_some_iff.mp h
      refine am_Y.call0 (M' := am_M212) (as := [.ref 129, .int x1, .int x2, .int (0 : Int32), .int ((1 : Int32) <<< (x11 &&& 31))]) (rest := []) (d' := 3) rfl (by omega) rfl rfl (t_m_oddsBy N x1 x2 (0 : Int32) ((1 : Int32) <<< (x11 &&& 31)) M q3.1 q3.2 e_q3) ?_
      refine am_Y.run (k := 8) (pc' := 63) (lv' := [(12, .long q3.1), (0, .ref 129), (1, .int x1), (2, .int x2), (3, .int x3), (4, .int x4), (5, .long x5), (7, .long x7), (9, .long x9), (11, .int x11)]) (st' := [.int ((1 : Int32) <<< (x11 &&& 31)), .int (1 : Int32), .int x2, .int x1, .ref 129]) (h' := hp q3.2) rfl ?_
      obtain ⟨q4, e_q4, h⟩ := Option.bind_eq_some_iff.mp h
      refine am_Y.call0 (M' := am_M212) (as := [.ref 129, .int x1, .int x2, .int (1 : Int32), .int ((1 : Int32) <<< (x11 &&& 31))]) (rest := []) (d' := 3) rfl (by omega) rfl rfl (t_m_oddsBy N x1 x2 (1 : Int32) ((1 : Int32) <<< (x11 &&& 31)) q3.2 q4.1 q4.2 e_q4) ?_
      refine am_Y.run (k := 4) (pc' := 73) (lv' := [(14, .long q4.1), (12, .long q3.1), (0, .ref 129), (1, .int x1), (2, .int x2), (3, .int x3), (4, .int x4), (5, .long x5), (7, .long x7), (9, .long x9), (11, .int x11)]) (st' := [.int (lg_cmp q3.1 x7)]) (h' := hp q4.2) rfl ?_
      refine am_Y.br (c := (lg_cmp q3.1 x7) ≤ (0 : Int32)) _ (t := 81) (u := 76) (lv' := [(14, .long q4.1), (12, .long q3.1), (0, .ref 129), (1, .int x1), (2, .int x2), (3, .int x3), (4, .int x4), (5, .long x5), (7, .long x7), (9, .long x9), (11, .int x11)]) (st' := []) (h' := hp q4.2) rfl (fun hc => ?_) (fun hc => ?_)
      · replace h := (if_pos hc).symm.trans h
        refine am_Y.run (k := 5) (pc' := 90) (lv' := [(7, .long x7), (14, .long q4.1), (12, .long q3.1), (0, .ref 129), (1, .int x1), (2, .int x2), (3, .int x3), (4, .int x4), (5, .long x5), (9, .long x9), (11, .int x11)]) (st' := [.int (lg_cmp q4.1 x9)]) (h' := hp q4.2) rfl ?_
        refine am_Y.br (c := (lg_cmp q4.1 x9) ≤ (0 : Int32)) _ (t := 98) (u := 93) (lv' := [(7, .long x7), (14, .long q4.1), (12, .long q3.1), (0, .ref 129), (1, .int x1), (2, .int x2), (3, .int x3), (4, .int x4), (5, .long x5), (9, .long x9), (11, .int x11)]) (st' := []) (h' := hp q4.2) rfl (fun hc => ?_) (fun hc => ?_)
        · replace h := (if_pos hc).symm.trans h
          refine am_Y.run (k := 1) (pc' := 100) (lv' := [(7, .long x7), (14, .long q4.1), (12, .long q3.1), (0, .ref 129), (1, .int x1), (2, .int x2), (3, .int x3), (4, .int x4), (5, .long x5), (9, .long x9), (11, .int x11)]) (st' := [.long x9]) (h' := hp q4.2) rfl ?_
          refine am_Y.weak (lv2 := [(0, .ref 129), (1, .int x1), (2, .int x2), (3, .int x3), (4, .int x4), (5, .long x5), (7, .long x7), (11, .int x11), (12, .long q3.1), (14, .long q4.1)]) rfl rfl ⟨rfl, rfl, rfl, rfl, rfl, rfl, rfl, rfl, rfl, rfl, trivial⟩ ?_
          exact t_m_cough_100 N _ ih x1 x2 x3 x4 x5 x7 x11 q3.1 q4.1 x9 q4.2 _ _ h
        · replace h := (if_neg hc).symm.trans h
          refine am_Y.run (k := 2) (pc' := 100) (lv' := [(7, .long x7), (14, .long q4.1), (12, .long q3.1), (0, .ref 129), (1, .int x1), (2, .int x2), (3, .int x3), (4, .int x4), (5, .long x5), (9, .long x9), (11, .int x11)]) (st' := [.long q4.1]) (h' := hp q4.2) rfl ?_
          refine am_Y.weak (lv2 := [(0, .ref 129), (1, .int x1), (2, .int x2), (3, .int x3), (4, .int x4), (5, .long x5), (7, .long x7), (11, .int x11), (12, .long q3.1), (14, .long q4.1)]) rfl rfl ⟨rfl, rfl, rfl, rfl, rfl, rfl, rfl, rfl, rfl, rfl, trivial⟩ ?_
          exact t_m_cough_100 N _ ih x1 x2 x3 x4 x5 x7 x11 q3.1 q4.1 q4.1 q4.2 _ _ h
      · replace h := (if_neg hc).symm.trans h
        refine am_Y.run (k := 6) (pc' := 90) (lv' := [(7, .long q3.1), (14, .long q4.1), (12, .long q3.1), (0, .ref 129), (1, .int x1), (2, .int x2), (3, .int x3), (4, .int x4), (5, .long x5), (9, .long x9), (11, .int x11)]) (st' := [.int (lg_cmp q4.1 x9)]) (h' := hp q4.2) rfl ?_
        refine am_Y.br (c := (lg_cmp q4.1 x9) ≤ (0 : Int32)) _ (t := 98) (u := 93) (lv' := [(7, .long q3.1), (14, .long q4.1), (12, .long q3.1), (0, .ref 129), (1, .int x1), (2, .int x2), (3, .int x3), (4, .int x4), (5, .long x5), (9, .long x9), (11, .int x11)]) (st' := []) (h' := hp q4.2) rfl (fun hc => ?_) (fun hc => ?_)
        · replace h := (if_pos hc).symm.trans h
          refine am_Y.run (k := 1) (pc' := 100) (lv' := [(7, .long q3.1), (14, .long q4.1), (12, .long q3.1), (0, .ref 129), (1, .int x1), (2, .int x2), (3, .int x3), (4, .int x4), (5, .long x5), (9, .long x9), (11, .int x11)]) (st' := [.long x9]) (h' := hp q4.2) rfl ?_
          refine am_Y.weak (lv2 := [(0, .ref 129), (1, .int x1), (2, .int x2), (3, .int x3), (4, .int x4), (5, .long x5), (7, .long q3.1), (11, .int x11), (12, .long q3.1), (14, .long q4.1)]) rfl rfl ⟨rfl, rfl, rfl, rfl, rfl, rfl, rfl, rfl, rfl, rfl, trivial⟩ ?_
          exact t_m_cough_100 N _ ih x1 x2 x3 x4 x5 q3.1 x11 q3.1 q4.1 x9 q4.2 _ _ h
        · replace h := (if_neg hc).symm.trans h
          refine am_Y.run (k := 2) (pc' := 100) (lv' := [(7, .long q3.1), (14, .long q4.1), (12, .long q3.1), (0, .ref 129), (1, .int x1), (2, .int x2), (3, .int x3), (4, .int x4), (5, .long x5), (9, .long x9), (11, .int x11)]) (st' := [.long q4.1]) (h' := hp q4.2) rfl ?_
          refine am_Y.weak (lv2 := [(0, .ref 129), (1, .int x1), (2, .int x2), (3, .int x3), (4, .int x4), (5, .long x5), (7, .long q3.1), (11, .int x11), (12, .long q3.1), (14, .long q4.1)]) rfl rfl ⟨rfl, rfl, rfl, rfl, rfl, rfl, rfl, rfl, rfl, rfl, trivial⟩ ?_
          exact t_m_cough_100 N _ ih x1 x2 x3 x4 x5 q3.1 x11 q3.1 q4.1 q4.1 q4.2 _ _ h
set_option maxRecDepth 100000 in
theorem t_m_cough {S : Nat × (Nat → Int32)} (N : Nat) (x1 : Int32) (x2 : Int32) (x3 : Int32) (x4 : Int32) (M : Mem) (r : Int64) (M' : Mem) (h : f_m_cough N x1 x2 x3 x4 M = some (r, M')) : am_Y S 4 0 0 am_M89 0 [(0, .ref 129), (1, .int x1), (2, .int x2), (3, .int x3), (4, .int x4)] [] (hp M) (some (.long r)) (hp M') := by
  rw [f_m_cough] at h
  refine am_Y.run (k := 4) (pc' := 4) (lv' := [(0, .ref 129), (1, .int x1), (2, .int x2), (3, .int x3), (4, .int x4)]) (st' := [.int (0 : Int32), .int x2, .int x1, .ref 129]) (h' := hp M) rfl ?_
  refine am_Y.call0 (M' := am_M211) (as := [.ref 129, .int x1, .int x2, .int (0 : Int32)]) (rest := []) (d' := 2) rfl (by omega) rfl rfl (t_m_isToCome x1 x2 (0 : Int32) M _ rfl) ?_
  refine am_Y.br (c := (f_m_isToCome x1 x2 (0 : Int32) M) = (0 : Int32)) _ (t := 20) (u := 10) (lv' := [(0, .ref 129), (1, .int x1), (2, .int x2), (3, .int x3), (4, .int x4)]) (st' := []) (h' := hp M) rfl (fun hc => ?_) (fun hc => ?_)
  · replace h := (if_pos hc).symm.trans h
    refine am_Y.run (k := 1) (pc' := 23) (lv' := [(0, .ref 129), (1, .int x1), (2, .int x2), (3, .int x3), (4, .int x4)]) (st' := [.long (-1 : Int64)]) (h' := hp M) rfl ?_
    obtain ⟨rfl, rfl⟩ := Prod.mk.inj (Option.some.inj h)
    exact am_Y.ret rfl
  · replace h := (if_neg hc).symm.trans h
    refine am_Y.run (k := 3) (pc' := 14) (lv' := [(0, .ref 129), (1, .int x1), (2, .int x2), (3, .int x3), (4, .int x4)]) (st' := [.int (10 : Int32), .int (0 : Int32), .int x3]) (h' := hp M) rfl ?_
    refine am_Y.call0 (M' := am_M104) (as := [.int x3, .int (0 : Int32), .int (10 : Int32)]) (rest := []) (d' := 0) rfl (by omega) rfl rfl (t_m_isIn x3 (0 : Int32) (10 : Int32) M _ rfl) ?_
    refine am_Y.br (c := (f_m_isIn x3 (0 : Int32) (10 : Int32) M) = (0 : Int32)) _ (t := 20) (u := 24) (lv' := [(0, .ref 129), (1, .int x1), (2, .int x2), (3, .int x3), (4, .int x4)]) (st' := []) (h' := hp M) rfl (fun hc => ?_) (fun hc => ?_)
    · replace h := (if_pos hc).symm.trans h
      refine am_Y.run (k := 1) (pc' := 23) (lv' := [(0, .ref 129), (1, .int x1), (2, .int x2), (3, .int x3), (4, .int x4)]) (st' := [.long (-1 : Int64)]) (h' := hp M) rfl ?_
      obtain ⟨rfl, rfl⟩ := Prod.mk.inj (Option.some.inj h)
      exact am_Y.ret rfl
    · replace h := (if_neg hc).symm.trans h
      refine am_Y.run (k := 8) (pc' := 36) (lv' := [(11, .int (0 : Int32)), (9, .long (0 : Int64)), (7, .long (0 : Int64)), (5, .long (0 : Int64)), (0, .ref 129), (1, .int x1), (2, .int x2), (3, .int x3), (4, .int x4)]) (st' := []) (h' := hp M) rfl ?_
      refine am_Y.weak (lv2 := [(0, .ref 129), (1, .int x1), (2, .int x2), (3, .int x3), (4, .int x4), (5, .long (0 : Int64)), (7, .long (0 : Int64)), (9, .long (0 : Int64)), (11, .int (0 : Int32))]) rfl rfl ⟨rfl, rfl, rfl, rfl, rfl, rfl, rfl, rfl, rfl, trivial⟩ ?_
      exact t_m_cough_36 N N x1 x2 x3 x4 (0 : Int64) (0 : Int64) (0 : Int64) (0 : Int32) M _ _ h
set_option maxRecDepth 100000 in
theorem t_g_copyFrom_54_7 {S : Nat × (Nat → Int32)} (M : Mem) (M' : Mem) (h : f_g_copyFrom_54_7 M = some M') : am_Y S 0 0 0 am_M265 0 [(0, .ref 54), (1, .ref 7)] [] (hp M) none (hp M') := by
  rw [f_g_copyFrom_54_7] at h
  refine am_Y.run (k := 8) (pc' := 15) (lv' := [(0, .ref 54), (1, .ref 7)]) (st' := []) (h' := hp (sr M 55 (va_cpy (M.1 8) (M.1 55) 0 0 8))) rfl ?_
  obtain ⟨q1, e_q1, h⟩ := Option.bind_eq_some_iff.mp h
  rw [Option.some.inj e_q1]
  refine am_Y.run (k := 8) (pc' := 30) (lv' := [(0, .ref 54), (1, .ref 7)]) (st' := []) (h' := hp (sr q1 56 (va_cpy (q1.1 9) (q1.1 56) 0 0 8))) rfl ?_
  obtain ⟨q2, e_q2, h⟩ := Option.bind_eq_some_iff.mp h
  rw [Option.some.inj e_q2]
  refine am_Y.run (k := 8) (pc' := 45) (lv' := [(0, .ref 54), (1, .ref 7)]) (st' := []) (h' := hp (sr q2 57 (va_cpy (q2.1 10) (q2.1 57) 0 0 8))) rfl ?_
  obtain ⟨q3, e_q3, h⟩ := Option.bind_eq_some_iff.mp h
  rw [Option.some.inj e_q3]
  refine am_Y.run (k := 4) (pc' := 53) (lv' := [(0, .ref 54), (1, .ref 7)]) (st' := []) (h' := hp (si q3 54 3 (gi q3 7 3))) rfl ?_
  obtain ⟨q4, e_q4, h⟩ := Option.bind_eq_some_iff.mp h
  rw [Option.some.inj e_q4]
  obtain rfl := Option.some.inj h
  exact am_Y.ret rfl
set_option maxRecDepth 100000 in
theorem t_e_copyFrom_58_12 {S : Nat × (Nat → Int32)} (M : Mem) (M' : Mem) (h : f_e_copyFrom_58_12 M = some M') : am_Y S 1 0 0 am_M241 0 [(0, .ref 58), (1, .ref 12)] [] (hp M) none (hp M') := by
  rw [f_e_copyFrom_58_12] at h
  refine am_Y.run (k := 8) (pc' := 11) (lv' := [(0, .ref 58), (1, .ref 12)]) (st' := [.int (66 : Int32), .int (66 : Int32), .int (0 : Int32), .ref 59, .int (0 : Int32), .ref 12]) (h' := hp M) rfl ?_
  refine am_Y.call0 (M' := am_M242) (as := [.int (66 : Int32), .int (66 : Int32)]) (rest := [.int (0 : Int32), .ref 59, .int (0 : Int32), .ref 12]) (d' := 0) rfl (by omega) rfl rfl (t_k_min0 (66 : Int32) (66 : Int32) M (66 : Int32) rfl) ?_
  refine am_Y.run (k := 1) (pc' := 17) (lv' := [(0, .ref 58), (1, .ref 12)]) (st' := []) (h' := hp (sr M 59 (va_cpy (M.1 12) (M.1 59) 0 0 66))) rfl ?_
  obtain ⟨q1, e_q1, h⟩ := Option.bind_eq_some_iff.mp h
  rw [Option.some.inj e_q1]
  obtain rfl := Option.some.inj h
  exact am_Y.ret rfl
set_option maxRecDepth 100000 in
theorem t_c_copyFrom_93_46 {S : Nat × (Nat → Int32)} (M : Mem) (M' : Mem) (h : f_c_copyFrom_93_46 M = some M') : am_Y S 0 0 0 am_M267 0 [(0, .ref 93), (1, .ref 46)] [] (hp M) none (hp M') := by
  rw [f_c_copyFrom_93_46] at h
  refine am_Y.run (k := 12) (pc' := 19) (lv' := [(0, .ref 93), (1, .ref 46)]) (st' := []) (h' := hp (sr M 95 (va_cpy (M.1 48) (M.1 95) 0 0 6))) rfl ?_
  obtain ⟨q1, e_q1, h⟩ := Option.bind_eq_some_iff.mp h
  rw [Option.some.inj e_q1]
  refine am_Y.run (k := 12) (pc' := 38) (lv' := [(0, .ref 93), (1, .ref 46)]) (st' := []) (h' := hp (sr q1 96 (va_cpy (q1.1 49) (q1.1 96) 0 0 6))) rfl ?_
  obtain ⟨q2, e_q2, h⟩ := Option.bind_eq_some_iff.mp h
  rw [Option.some.inj e_q2]
  refine am_Y.run (k := 8) (pc' := 53) (lv' := [(0, .ref 93), (1, .ref 46)]) (st' := []) (h' := hp (sr q2 97 (va_cpy (q2.1 50) (q2.1 97) 0 0 6))) rfl ?_
  obtain ⟨q3, e_q3, h⟩ := Option.bind_eq_some_iff.mp h
  rw [Option.some.inj e_q3]
  obtain rfl := Option.some.inj h
  exact am_Y.ret rfl
set_option maxRecDepth 100000 in
theorem t_t_copyFrom_53_6 {S : Nat × (Nat → Int32)} (N : Nat) (M : Mem) (M' : Mem) (h : f_t_copyFrom_53_6 N M = some M') : am_Y S 2 0 0 am_M219 0 [(0, .ref 53), (1, .ref 6)] [] (hp M) none (hp M') := by
  rw [f_t_copyFrom_53_6] at h
  refine am_Y.run (k := 4) (pc' := 8) (lv' := [(0, .ref 53), (1, .ref 6)]) (st' := [.ref 7, .ref 54]) (h' := hp M) rfl ?_
  obtain ⟨q1, e_q1, h⟩ := Option.bind_eq_some_iff.mp h
  refine am_Y.call0 (M' := am_M265) (as := [.ref 54, .ref 7]) (rest := []) (d' := 0) rfl (by omega) rfl rfl (t_g_copyFrom_54_7 M q1 e_q1) ?_
  refine am_Y.run (k := 5) (pc' := 22) (lv' := [(0, .ref 53), (1, .ref 6)]) (st' := [.ref 12, .ref 58]) (h' := hp q1) rfl ?_
  obtain ⟨q2, e_q2, h⟩ := Option.bind_eq_some_iff.mp h
  refine am_Y.call0 (M' := am_M241) (as := [.ref 58, .ref 12]) (rest := []) (d' := 1) rfl (by omega) rfl rfl (t_e_copyFrom_58_12 q1 q2 e_q2) ?_
  refine am_Y.run (k := 4) (pc' := 33) (lv' := [(0, .ref 53), (1, .ref 6)]) (st' := [.ref 14, .ref 61]) (h' := hp q2) rfl ?_
  obtain ⟨q3, e_q3, h⟩ := Option.bind_eq_some_iff.mp h
  refine am_Y.call0 (M' := am_M266) (as := [.ref 61, .ref 14]) (rest := []) (d' := 0) rfl (by omega) rfl rfl (t_s_copyFrom_61_14 N q2 q3 e_q3) ?_
  refine am_Y.run (k := 4) (pc' := 44) (lv' := [(0, .ref 53), (1, .ref 6)]) (st' := [.ref 46, .ref 93]) (h' := hp q3) rfl ?_
  obtain ⟨q4, e_q4, h⟩ := Option.bind_eq_some_iff.mp h
  refine am_Y.call0 (M' := am_M267) (as := [.ref 93, .ref 46]) (rest := []) (d' := 0) rfl (by omega) rfl rfl (t_c_copyFrom_93_46 q3 q4 e_q4) ?_
  refine am_Y.run (k := 4) (pc' := 55) (lv' := [(0, .ref 53), (1, .ref 6)]) (st' := []) (h' := hp (si q4 53 4 (gi q4 6 4))) rfl ?_
  obtain ⟨q5, e_q5, h⟩ := Option.bind_eq_some_iff.mp h
  rw [Option.some.inj e_q5]
  refine am_Y.run (k := 4) (pc' := 63) (lv' := [(0, .ref 53), (1, .ref 6)]) (st' := []) (h' := hp (si q5 53 5 (gi q5 6 5))) rfl ?_
  obtain ⟨q6, e_q6, h⟩ := Option.bind_eq_some_iff.mp h
  rw [Option.some.inj e_q6]
  obtain rfl := Option.some.inj h
  exact am_Y.ret rfl
set_option maxRecDepth 100000 in
theorem t_w_image {S : Nat × (Nat → Int32)} (N : Nat) (M : Mem) (r : Int32) (M' : Mem) (h : f_w_image N M = some (r, M')) : am_Y S 3 0 0 am_M90 0 [(0, .ref 5)] [] (hp M) (some (.int r)) (hp M') := by
  rw [f_w_image] at h
  refine am_Y.run (k := 4) (pc' := 8) (lv' := [(0, .ref 5)]) (st' := [.ref 6, .ref 53]) (h' := hp M) rfl ?_
  obtain ⟨q1, e_q1, h⟩ := Option.bind_eq_some_iff.mp h
  refine am_Y.call0 (M' := am_M219) (as := [.ref 53, .ref 6]) (rest := []) (d' := 2) rfl (by omega) rfl rfl (t_t_copyFrom_53_6 N M q1 e_q1) ?_
  refine am_Y.run (k := 3) (pc' := 18) (lv' := [(0, .ref 5)]) (st' := [.ref 11]) (h' := hp q1) rfl ?_
  refine am_Y.call0 (M' := am_M129) (as := [.ref 11]) (rest := []) (d' := 0) rfl (by omega) rfl rfl (t_e_night q1 _ rfl) ?_
  obtain ⟨rfl, rfl⟩ := Prod.mk.inj (Option.some.inj h)
  exact am_Y.ret rfl
set_option maxRecDepth 100000 in
theorem t_m_copy_130_131_2 {S : Nat × (Nat → Int32)} (N : Nat) : ∀ (n : Nat) (x2 : Int32) (M : Mem) (M' : Mem), f_m_copy_130_131_2 N n x2 M = some M' → am_Y S 0 0 0 am_M101 2 [(0, .ref 130), (1, .ref 131), (2, .int x2)] [] (hp M) none (hp M') := by
  intro n
  induction n with
  | zero =>
    intro x2 M M' h
    cases h
  | succ n ih =>
    intro x2 M M' h
    rw [f_m_copy_130_131_2] at h
    refine am_Y.run (k := 2) (pc' := 6) (lv' := [(0, .ref 130), (1, .ref 131), (2, .int x2)]) (st' := [.int (3826 : Int32), .int x2]) (h' := hp M) rfl ?_
    refine am_Y.br (c := (3826 : Int32) ≤ x2) _ (t := 21) (u := 9) (lv' := [(0, .ref 130), (1, .ref 131), (2, .int x2)]) (st' := []) (h' := hp M) rfl (fun hc => ?_) (fun hc => ?_)
    · replace h := (if_pos hc).symm.trans h
      obtain rfl := Option.some.inj h
      exact am_Y.ret rfl
    · replace h := (if_neg hc).symm.trans h
      refine am_Y.run (k := 4) (pc' := 13) (lv' := [(0, .ref 130), (1, .ref 131), (2, .int x2)]) (st' := [.int x2, .ref 130, .int x2, .ref 131]) (h' := hp M) rfl ?_
      obtain ⟨g, h⟩ := am_itg h
      refine am_Y.iald (a := 125) (n := 3826) rfl rfl g ?_
      obtain ⟨g, h⟩ := am_itg h
      refine am_Y.iast (a := 126) (n := 3826) rfl rfl g ?_
      refine am_Y.run (k := 0) (pc' := _) (lv' := [(0, .ref 130), (1, .ref 131), (2, .int x2)]) (st' := []) (h' := hp (si M 131 (x2).toNatClampNeg (gi M 130 (x2).toNatClampNeg))) rfl ?_
      obtain ⟨q1, e_q1, h⟩ := Option.bind_eq_some_iff.mp h
      rw [Option.some.inj e_q1]
      refine am_Y.run (k := 2) (pc' := 2) (lv' := [(2, .int (x2 + (1 : Int32))), (0, .ref 130), (1, .ref 131)]) (st' := []) (h' := hp q1) rfl ?_
      refine am_Y.weak (lv2 := [(0, .ref 130), (1, .ref 131), (2, .int (x2 + (1 : Int32)))]) rfl rfl ⟨rfl, rfl, rfl, trivial⟩ ?_
      exact ih (x2 + (1 : Int32)) q1 _ h
set_option maxRecDepth 100000 in
theorem t_m_copy_130_131 {S : Nat × (Nat → Int32)} (N : Nat) (M : Mem) (M' : Mem) (h : f_m_copy_130_131 N M = some M') : am_Y S 0 0 0 am_M101 0 [(0, .ref 130), (1, .ref 131)] [] (hp M) none (hp M') := by
  rw [f_m_copy_130_131] at h
  refine am_Y.run (k := 2) (pc' := 2) (lv' := [(2, .int (0 : Int32)), (0, .ref 130), (1, .ref 131)]) (st' := []) (h' := hp M) rfl ?_
  refine am_Y.weak (lv2 := [(0, .ref 130), (1, .ref 131), (2, .int (0 : Int32))]) rfl rfl ⟨rfl, rfl, rfl, trivial⟩ ?_
  exact t_m_copy_130_131_2 N N (0 : Int32) M _ h
set_option maxRecDepth 100000 in
theorem t_m_image {S : Nat × (Nat → Int32)} (N : Nat) (M : Mem) (r : Int32) (M' : Mem) (h : f_m_image N M = some (r, M')) : am_Y S 1 0 0 am_M91 0 [(0, .ref 129)] [] (hp M) (some (.int r)) (hp M') := by
  rw [f_m_image] at h
  refine am_Y.run (k := 4) (pc' := 8) (lv' := [(0, .ref 129)]) (st' := [.ref 131, .ref 130]) (h' := hp M) rfl ?_
  obtain ⟨q1, e_q1, h⟩ := Option.bind_eq_some_iff.mp h
  refine am_Y.call0 (M' := am_M101) (as := [.ref 130, .ref 131]) (rest := []) (d' := 0) rfl (by omega) rfl rfl (t_m_copy_130_131 N M q1 e_q1) ?_
  refine am_Y.run (k := 4) (pc' := 17) (lv' := [(0, .ref 129)]) (st' := [.int (gi q1 130 1)]) (h' := hp q1) rfl ?_
  obtain ⟨rfl, rfl⟩ := Prod.mk.inj (Option.some.inj h)
  exact am_Y.ret rfl
set_option maxRecDepth 100000 in
theorem t_g_copyFrom_7_54 {S : Nat × (Nat → Int32)} (M : Mem) (M' : Mem) (h : f_g_copyFrom_7_54 M = some M') : am_Y S 0 0 0 am_M265 0 [(0, .ref 7), (1, .ref 54)] [] (hp M) none (hp M') := by
  rw [f_g_copyFrom_7_54] at h
  refine am_Y.run (k := 8) (pc' := 15) (lv' := [(0, .ref 7), (1, .ref 54)]) (st' := []) (h' := hp (sr M 8 (va_cpy (M.1 55) (M.1 8) 0 0 8))) rfl ?_
  obtain ⟨q1, e_q1, h⟩ := Option.bind_eq_some_iff.mp h
  rw [Option.some.inj e_q1]
  refine am_Y.run (k := 8) (pc' := 30) (lv' := [(0, .ref 7), (1, .ref 54)]) (st' := []) (h' := hp (sr q1 9 (va_cpy (q1.1 56) (q1.1 9) 0 0 8))) rfl ?_
  obtain ⟨q2, e_q2, h⟩ := Option.bind_eq_some_iff.mp h
  rw [Option.some.inj e_q2]
  refine am_Y.run (k := 8) (pc' := 45) (lv' := [(0, .ref 7), (1, .ref 54)]) (st' := []) (h' := hp (sr q2 10 (va_cpy (q2.1 57) (q2.1 10) 0 0 8))) rfl ?_
  obtain ⟨q3, e_q3, h⟩ := Option.bind_eq_some_iff.mp h
  rw [Option.some.inj e_q3]
  refine am_Y.run (k := 4) (pc' := 53) (lv' := [(0, .ref 7), (1, .ref 54)]) (st' := []) (h' := hp (si q3 7 3 (gi q3 54 3))) rfl ?_
  obtain ⟨q4, e_q4, h⟩ := Option.bind_eq_some_iff.mp h
  rw [Option.some.inj e_q4]
  obtain rfl := Option.some.inj h
  exact am_Y.ret rfl
set_option maxRecDepth 100000 in
theorem t_e_copyFrom_11_59 {S : Nat × (Nat → Int32)} (M : Mem) (M' : Mem) (h : f_e_copyFrom_11_59 M = some M') : am_Y S 1 0 0 am_M241 0 [(0, .ref 11), (1, .ref 59)] [] (hp M) none (hp M') := by
  rw [f_e_copyFrom_11_59] at h
  refine am_Y.run (k := 8) (pc' := 11) (lv' := [(0, .ref 11), (1, .ref 59)]) (st' := [.int (66 : Int32), .int (66 : Int32), .int (0 : Int32), .ref 12, .int (0 : Int32), .ref 59]) (h' := hp M) rfl ?_
  refine am_Y.call0 (M' := am_M242) (as := [.int (66 : Int32), .int (66 : Int32)]) (rest := [.int (0 : Int32), .ref 12, .int (0 : Int32), .ref 59]) (d' := 0) rfl (by omega) rfl rfl (t_k_min0 (66 : Int32) (66 : Int32) M (66 : Int32) rfl) ?_
  refine am_Y.run (k := 1) (pc' := 17) (lv' := [(0, .ref 11), (1, .ref 59)]) (st' := []) (h' := hp (sr M 12 (va_cpy (M.1 59) (M.1 12) 0 0 66))) rfl ?_
  obtain ⟨q1, e_q1, h⟩ := Option.bind_eq_some_iff.mp h
  rw [Option.some.inj e_q1]
  obtain rfl := Option.some.inj h
  exact am_Y.ret rfl
set_option maxRecDepth 100000 in
theorem t_c_copyFrom_46_93 {S : Nat × (Nat → Int32)} (M : Mem) (M' : Mem) (h : f_c_copyFrom_46_93 M = some M') : am_Y S 0 0 0 am_M267 0 [(0, .ref 46), (1, .ref 93)] [] (hp M) none (hp M') := by
  rw [f_c_copyFrom_46_93] at h
  refine am_Y.run (k := 12) (pc' := 19) (lv' := [(0, .ref 46), (1, .ref 93)]) (st' := []) (h' := hp (sr M 48 (va_cpy (M.1 95) (M.1 48) 0 0 6))) rfl ?_
  obtain ⟨q1, e_q1, h⟩ := Option.bind_eq_some_iff.mp h
  rw [Option.some.inj e_q1]
  refine am_Y.run (k := 12) (pc' := 38) (lv' := [(0, .ref 46), (1, .ref 93)]) (st' := []) (h' := hp (sr q1 49 (va_cpy (q1.1 96) (q1.1 49) 0 0 6))) rfl ?_
  obtain ⟨q2, e_q2, h⟩ := Option.bind_eq_some_iff.mp h
  rw [Option.some.inj e_q2]
  refine am_Y.run (k := 8) (pc' := 53) (lv' := [(0, .ref 46), (1, .ref 93)]) (st' := []) (h' := hp (sr q2 50 (va_cpy (q2.1 97) (q2.1 50) 0 0 6))) rfl ?_
  obtain ⟨q3, e_q3, h⟩ := Option.bind_eq_some_iff.mp h
  rw [Option.some.inj e_q3]
  obtain rfl := Option.some.inj h
  exact am_Y.ret rfl
set_option maxRecDepth 100000 in
theorem t_t_copyFrom_6_53 {S : Nat × (Nat → Int32)} (N : Nat) (M : Mem) (M' : Mem) (h : f_t_copyFrom_6_53 N M = some M') : am_Y S 2 0 0 am_M219 0 [(0, .ref 6), (1, .ref 53)] [] (hp M) none (hp M') := by
  rw [f_t_copyFrom_6_53] at h
  refine am_Y.run (k := 4) (pc' := 8) (lv' := [(0, .ref 6), (1, .ref 53)]) (st' := [.ref 54, .ref 7]) (h' := hp M) rfl ?_
  obtain ⟨q1, e_q1, h⟩ := Option.bind_eq_some_iff.mp h
  refine am_Y.call0 (M' := am_M265) (as := [.ref 7, .ref 54]) (rest := []) (d' := 0) rfl (by omega) rfl rfl (t_g_copyFrom_7_54 M q1 e_q1) ?_
  refine am_Y.run (k := 5) (pc' := 22) (lv' := [(0, .ref 6), (1, .ref 53)]) (st' := [.ref 59, .ref 11]) (h' := hp q1) rfl ?_
  obtain ⟨q2, e_q2, h⟩ := Option.bind_eq_some_iff.mp h
  refine am_Y.call0 (M' := am_M241) (as := [.ref 11, .ref 59]) (rest := []) (d' := 1) rfl (by omega) rfl rfl (t_e_copyFrom_11_59 q1 q2 e_q2) ?_
  refine am_Y.run (k := 4) (pc' := 33) (lv' := [(0, .ref 6), (1, .ref 53)]) (st' := [.ref 61, .ref 14]) (h' := hp q2) rfl ?_
  obtain ⟨q3, e_q3, h⟩ := Option.bind_eq_some_iff.mp h
  refine am_Y.call0 (M' := am_M266) (as := [.ref 14, .ref 61]) (rest := []) (d' := 0) rfl (by omega) rfl rfl (t_s_copyFrom_14_61 N q2 q3 e_q3) ?_
  refine am_Y.run (k := 4) (pc' := 44) (lv' := [(0, .ref 6), (1, .ref 53)]) (st' := [.ref 93, .ref 46]) (h' := hp q3) rfl ?_
  obtain ⟨q4, e_q4, h⟩ := Option.bind_eq_some_iff.mp h
  refine am_Y.call0 (M' := am_M267) (as := [.ref 46, .ref 93]) (rest := []) (d' := 0) rfl (by omega) rfl rfl (t_c_copyFrom_46_93 q3 q4 e_q4) ?_
  refine am_Y.run (k := 4) (pc' := 55) (lv' := [(0, .ref 6), (1, .ref 53)]) (st' := []) (h' := hp (si q4 6 4 (gi q4 53 4))) rfl ?_
  obtain ⟨q5, e_q5, h⟩ := Option.bind_eq_some_iff.mp h
  rw [Option.some.inj e_q5]
  refine am_Y.run (k := 4) (pc' := 63) (lv' := [(0, .ref 6), (1, .ref 53)]) (st' := []) (h' := hp (si q5 6 5 (gi q5 53 5))) rfl ?_
  obtain ⟨q6, e_q6, h⟩ := Option.bind_eq_some_iff.mp h
  rw [Option.some.inj e_q6]
  obtain rfl := Option.some.inj h
  exact am_Y.ret rfl
set_option maxRecDepth 100000 in
theorem t_w_back {S : Nat × (Nat → Int32)} (N : Nat) (M : Mem) (r : Int32) (M' : Mem) (h : f_w_back N M = some (r, M')) : am_Y S 3 0 0 am_M92 0 [(0, .ref 5)] [] (hp M) (some (.int r)) (hp M') := by
  rw [f_w_back] at h
  refine am_Y.run (k := 4) (pc' := 8) (lv' := [(0, .ref 5)]) (st' := [.ref 53, .ref 6]) (h' := hp M) rfl ?_
  obtain ⟨q1, e_q1, h⟩ := Option.bind_eq_some_iff.mp h
  refine am_Y.call0 (M' := am_M219) (as := [.ref 6, .ref 53]) (rest := []) (d' := 2) rfl (by omega) rfl rfl (t_t_copyFrom_6_53 N M q1 e_q1) ?_
  refine am_Y.run (k := 3) (pc' := 18) (lv' := [(0, .ref 5)]) (st' := [.ref 11]) (h' := hp q1) rfl ?_
  refine am_Y.call0 (M' := am_M129) (as := [.ref 11]) (rest := []) (d' := 0) rfl (by omega) rfl rfl (t_e_night q1 _ rfl) ?_
  obtain ⟨rfl, rfl⟩ := Prod.mk.inj (Option.some.inj h)
  exact am_Y.ret rfl
set_option maxRecDepth 100000 in
theorem t_m_copy_131_130_2 {S : Nat × (Nat → Int32)} (N : Nat) : ∀ (n : Nat) (x2 : Int32) (M : Mem) (M' : Mem), f_m_copy_131_130_2 N n x2 M = some M' → am_Y S 0 0 0 am_M101 2 [(0, .ref 131), (1, .ref 130), (2, .int x2)] [] (hp M) none (hp M') := by
  intro n
  induction n with
  | zero =>
    intro x2 M M' h
    cases h
  | succ n ih =>
    intro x2 M M' h
    rw [f_m_copy_131_130_2] at h
    refine am_Y.run (k := 2) (pc' := 6) (lv' := [(0, .ref 131), (1, .ref 130), (2, .int x2)]) (st' := [.int (3826 : Int32), .int x2]) (h' := hp M) rfl ?_
    refine am_Y.br (c := (3826 : Int32) ≤ x2) _ (t := 21) (u := 9) (lv' := [(0, .ref 131), (1, .ref 130), (2, .int x2)]) (st' := []) (h' := hp M) rfl (fun hc => ?_) (fun hc => ?_)
    · replace h := (if_pos hc).symm.trans h
      obtain rfl := Option.some.inj h
      exact am_Y.ret rfl
    · replace h := (if_neg hc).symm.trans h
      refine am_Y.run (k := 4) (pc' := 13) (lv' := [(0, .ref 131), (1, .ref 130), (2, .int x2)]) (st' := [.int x2, .ref 131, .int x2, .ref 130]) (h' := hp M) rfl ?_
      obtain ⟨g, h⟩ := am_itg h
      refine am_Y.iald (a := 126) (n := 3826) rfl rfl g ?_
      obtain ⟨g, h⟩ := am_itg h
      refine am_Y.iast (a := 125) (n := 3826) rfl rfl g ?_
      refine am_Y.run (k := 0) (pc' := _) (lv' := [(0, .ref 131), (1, .ref 130), (2, .int x2)]) (st' := []) (h' := hp (si M 130 (x2).toNatClampNeg (gi M 131 (x2).toNatClampNeg))) rfl ?_
      obtain ⟨q1, e_q1, h⟩ := Option.bind_eq_some_iff.mp h
      rw [Option.some.inj e_q1]
      refine am_Y.run (k := 2) (pc' := 2) (lv' := [(2, .int (x2 + (1 : Int32))), (0, .ref 131), (1, .ref 130)]) (st' := []) (h' := hp q1) rfl ?_
      refine am_Y.weak (lv2 := [(0, .ref 131), (1, .ref 130), (2, .int (x2 + (1 : Int32)))]) rfl rfl ⟨rfl, rfl, rfl, trivial⟩ ?_
      exact ih (x2 + (1 : Int32)) q1 _ h
set_option maxRecDepth 100000 in
theorem t_m_copy_131_130 {S : Nat × (Nat → Int32)} (N : Nat) (M : Mem) (M' : Mem) (h : f_m_copy_131_130 N M = some M') : am_Y S 0 0 0 am_M101 0 [(0, .ref 131), (1, .ref 130)] [] (hp M) none (hp M') := by
  rw [f_m_copy_131_130] at h
  refine am_Y.run (k := 2) (pc' := 2) (lv' := [(2, .int (0 : Int32)), (0, .ref 131), (1, .ref 130)]) (st' := []) (h' := hp M) rfl ?_
  refine am_Y.weak (lv2 := [(0, .ref 131), (1, .ref 130), (2, .int (0 : Int32))]) rfl rfl ⟨rfl, rfl, rfl, trivial⟩ ?_
  exact t_m_copy_131_130_2 N N (0 : Int32) M _ h
set_option maxRecDepth 100000 in
theorem t_m_back {S : Nat × (Nat → Int32)} (N : Nat) (M : Mem) (r : Int32) (M' : Mem) (h : f_m_back N M = some (r, M')) : am_Y S 1 0 0 am_M93 0 [(0, .ref 129)] [] (hp M) (some (.int r)) (hp M') := by
  rw [f_m_back] at h
  refine am_Y.run (k := 4) (pc' := 8) (lv' := [(0, .ref 129)]) (st' := [.ref 130, .ref 131]) (h' := hp M) rfl ?_
  obtain ⟨q1, e_q1, h⟩ := Option.bind_eq_some_iff.mp h
  refine am_Y.call0 (M' := am_M101) (as := [.ref 131, .ref 130]) (rest := []) (d' := 0) rfl (by omega) rfl rfl (t_m_copy_131_130 N M q1 e_q1) ?_
  refine am_Y.run (k := 4) (pc' := 17) (lv' := [(0, .ref 129)]) (st' := [.int (gi q1 130 1)]) (h' := hp q1) rfl ?_
  obtain ⟨rfl, rfl⟩ := Prod.mk.inj (Option.some.inj h)
  exact am_Y.ret rfl
