/-! AM does what the functions say. -/
set_option maxRecDepth 100000 in
theorem t_m_ask {S : Nat × (Nat → Int32)} (N : Nat) (M : Mem) (r : Int32) (M' : Mem) (h : f_m_ask N M = some (r, M')) : am_Y S 2 0 0 am_M17 0 [(0, .ref 129)] [] (hp M) (some (.int r)) (hp M') := by
  rw [f_m_ask] at h
  refine am_Y.run (k := 5) (pc' := 9) (lv' := [(0, .ref 129)]) (st' := [.int (40 : Int32), .int (gi M 130 8)]) (h' := hp M) rfl ?_
  refine am_Y.br (c := (gi M 130 8) = (40 : Int32)) _ (t := 12) (u := 14) (lv' := [(0, .ref 129)]) (st' := []) (h' := hp M) rfl (fun hc => ?_) (fun hc => ?_)
  · replace h := (if_pos hc).symm.trans h
    refine am_Y.run (k := 1) (pc' := 13) (lv' := [(0, .ref 129)]) (st' := [.int (0 : Int32)]) (h' := hp M) rfl ?_
    obtain ⟨rfl, rfl⟩ := Prod.mk.inj (Option.some.inj h)
    exact am_Y.ret rfl
  · replace h := (if_neg hc).symm.trans h
    refine am_Y.run (k := 1) (pc' := 15) (lv' := [(0, .ref 129)]) (st' := [.ref 129]) (h' := hp M) rfl ?_
    obtain ⟨q1, e_q1, h⟩ := Option.bind_eq_some_iff.mp h
    refine am_Y.call0 (M' := am_M117) (as := [.ref 129]) (rest := []) (d' := 1) rfl (by omega) rfl rfl (t_m_keep N M q1 e_q1) ?_
    refine am_Y.run (k := 7) (pc' := 28) (lv' := [(0, .ref 129)]) (st' := [.int (gi q1 130 2), .int (4 : Int32), .int (8 : Int32), .ref 129]) (h' := hp q1) rfl ?_
    obtain ⟨q2, e_q2, h⟩ := Option.bind_eq_some_iff.mp h
    refine am_Y.call0 (M' := am_M123) (as := [.ref 129, .int (8 : Int32), .int (4 : Int32), .int (gi q1 130 2)]) (rest := []) (d' := 1) rfl (by omega) rfl rfl (t_m_log1 (8 : Int32) (4 : Int32) (gi q1 130 2) q1 q2 e_q2) ?_
    refine am_Y.run (k := 1) (pc' := 32) (lv' := [(0, .ref 129)]) (st' := [.int (1 : Int32)]) (h' := hp q2) rfl ?_
    obtain ⟨rfl, rfl⟩ := Prod.mk.inj (Option.some.inj h)
    exact am_Y.ret rfl
set_option maxRecDepth 100000 in
theorem t_e_setMoment {S : Nat × (Nat → Int32)} (x1 : Int32) (M : Mem) (M' : Mem) (h : f_e_setMoment x1 M = some M') : am_Y S 0 0 0 am_M288 0 [(0, .ref 11), (1, .int x1)] [] (hp M) none (hp M') := by
  rw [f_e_setMoment] at h
  refine am_Y.run (k := 5) (pc' := 7) (lv' := [(0, .ref 11), (1, .int x1)]) (st' := []) (h' := hp (si M 12 1 x1)) rfl ?_
  obtain ⟨q1, e_q1, h⟩ := Option.bind_eq_some_iff.mp h
  rw [Option.some.inj e_q1]
  obtain rfl := Option.some.inj h
  exact am_Y.ret rfl
set_option maxRecDepth 100000 in
theorem t_w_passOne_13 {S : Nat × (Nat → Int32)} (N : Nat) : ∀ (n : Nat) (x1 : Int32) (x2 : Int32) (M : Mem) (M' : Mem), f_w_passOne_13 N n x1 x2 M = some M' → am_Y S 1 0 0 am_M232 13 [(0, .ref 5), (1, .int x1), (2, .int x2)] [] (hp M) none (hp M') := by
  intro n
  induction n with
  | zero =>
    intro x1 x2 M M' h
    cases h
  | succ n ih =>
    intro x1 x2 M M' h
    rw [f_w_passOne_13] at h
    refine am_Y.run (k := 5) (pc' := 24) (lv' := [(0, .ref 5), (1, .int x1), (2, .int x2)]) (st' := [.int (gi M 7 3), .int x2]) (h' := hp M) rfl ?_
    refine am_Y.br (c := (gi M 7 3) ≤ x2) _ (t := 62) (u := 27) (lv' := [(0, .ref 5), (1, .int x1), (2, .int x2)]) (st' := []) (h' := hp M) rfl (fun hc => ?_) (fun hc => ?_)
    · replace h := (if_pos hc).symm.trans h
      refine am_Y.run (k := 6) (pc' := 72) (lv' := [(0, .ref 5), (1, .int x1), (2, .int x2)]) (st' := [.int (x1 + (1 : Int32)), .ref 11]) (h' := hp M) rfl ?_
      obtain ⟨q1, e_q1, h⟩ := Option.bind_eq_some_iff.mp h
      refine am_Y.call0 (M' := am_M288) (as := [.ref 11, .int (x1 + (1 : Int32))]) (rest := []) (d' := 0) rfl (by omega) rfl rfl (t_e_setMoment (x1 + (1 : Int32)) M q1 e_q1) ?_
      obtain rfl := Option.some.inj h
      exact am_Y.ret rfl
    · replace h := (if_neg hc).symm.trans h
      refine am_Y.run (k := 5) (pc' := 38) (lv' := [(0, .ref 5), (1, .int x1), (2, .int x2)]) (st' := [.int x2, .ref 10]) (h' := hp M) rfl ?_
      obtain ⟨g, h⟩ := am_itg h
      refine am_Y.iald (a := 5) (n := 8) rfl rfl g ?_
      refine am_Y.run (k := 1) (pc' := 40) (lv' := [(0, .ref 5), (1, .int x1), (2, .int x2)]) (st' := [.int x1, .int (gi M 10 (x2).toNatClampNeg)]) (h' := hp M) rfl ?_
      refine am_Y.br (c := (gi M 10 (x2).toNatClampNeg) = x1) _ (t := 43) (u := 56) (lv' := [(0, .ref 5), (1, .int x1), (2, .int x2)]) (st' := []) (h' := hp M) rfl (fun hc => ?_) (fun hc => ?_)
      · replace h := (if_pos hc).symm.trans h
        refine am_Y.run (k := 6) (pc' := 53) (lv' := [(0, .ref 5), (1, .int x1), (2, .int x2)]) (st' := [.int ((1 : Int32) <<< (x2 &&& 31)), .ref 11]) (h' := hp M) rfl ?_
        obtain ⟨q2, e_q2, h⟩ := Option.bind_eq_some_iff.mp h
        refine am_Y.call0 (M' := am_M127) (as := [.ref 11, .int ((1 : Int32) <<< (x2 &&& 31))]) (rest := []) (d' := 0) rfl (by omega) rfl rfl (t_e_letGo ((1 : Int32) <<< (x2 &&& 31)) M q2 e_q2) ?_
        refine am_Y.run (k := 2) (pc' := 13) (lv' := [(2, .int (x2 + (1 : Int32))), (0, .ref 5), (1, .int x1)]) (st' := []) (h' := hp q2) rfl ?_
        refine am_Y.weak (lv2 := [(0, .ref 5), (1, .int x1), (2, .int (x2 + (1 : Int32)))]) rfl rfl ⟨rfl, rfl, rfl, trivial⟩ ?_
        exact ih x1 (x2 + (1 : Int32)) q2 _ h
      · replace h := (if_neg hc).symm.trans h
        refine am_Y.run (k := 2) (pc' := 13) (lv' := [(2, .int (x2 + (1 : Int32))), (0, .ref 5), (1, .int x1)]) (st' := []) (h' := hp M) rfl ?_
        refine am_Y.weak (lv2 := [(0, .ref 5), (1, .int x1), (2, .int (x2 + (1 : Int32)))]) rfl rfl ⟨rfl, rfl, rfl, trivial⟩ ?_
        exact ih x1 (x2 + (1 : Int32)) M _ h
set_option maxRecDepth 100000 in
theorem t_w_passOne {S : Nat × (Nat → Int32)} (N : Nat) (M : Mem) (M' : Mem) (h : f_w_passOne N M = some M') : am_Y S 1 0 0 am_M232 0 [(0, .ref 5)] [] (hp M) none (hp M') := by
  rw [f_w_passOne] at h
  refine am_Y.run (k := 3) (pc' := 7) (lv' := [(0, .ref 5)]) (st' := [.ref 11]) (h' := hp M) rfl ?_
  refine am_Y.call0 (M' := am_M121) (as := [.ref 11]) (rest := []) (d' := 0) rfl (by omega) rfl rfl (t_e_moment M _ rfl) ?_
  refine am_Y.run (k := 3) (pc' := 13) (lv' := [(2, .int (0 : Int32)), (1, .int (f_e_moment M)), (0, .ref 5)]) (st' := []) (h' := hp M) rfl ?_
  refine am_Y.weak (lv2 := [(0, .ref 5), (1, .int (f_e_moment M)), (2, .int (0 : Int32))]) rfl rfl ⟨rfl, rfl, rfl, trivial⟩ ?_
  exact t_w_passOne_13 N N (f_e_moment M) (0 : Int32) M _ h
set_option maxRecDepth 100000 in
theorem t_w_passAsCan_2 {S : Nat × (Nat → Int32)} (N : Nat) : ∀ (n : Nat) (x1 : Int32) (x2 : Int32) (M : Mem) (r : Int32) (M' : Mem), f_w_passAsCan_2 N n x1 x2 M = some (r, M') → am_Y S 3 0 0 am_M124 2 [(0, .ref 5), (1, .int x1), (2, .int x2)] [] (hp M) (some (.int r)) (hp M') := by
  intro n
  induction n with
  | zero =>
    intro x1 x2 M r M' h
    cases h
  | succ n ih =>
    intro x1 x2 M r M' h
    rw [f_w_passAsCan_2] at h
    refine am_Y.run (k := 2) (pc' := 4) (lv' := [(0, .ref 5), (1, .int x1), (2, .int x2)]) (st' := [.int x1, .int x2]) (h' := hp M) rfl ?_
    refine am_Y.br (c := x1 ≤ x2) _ (t := 41) (u := 7) (lv' := [(0, .ref 5), (1, .int x1), (2, .int x2)]) (st' := []) (h' := hp M) rfl (fun hc => ?_) (fun hc => ?_)
    · replace h := (if_pos hc).symm.trans h
      refine am_Y.run (k := 1) (pc' := 42) (lv' := [(0, .ref 5), (1, .int x1), (2, .int x2)]) (st' := [.int (1 : Int32)]) (h' := hp M) rfl ?_
      obtain ⟨rfl, rfl⟩ := Prod.mk.inj (Option.some.inj h)
      exact am_Y.ret rfl
    · replace h := (if_neg hc).symm.trans h
      refine am_Y.run (k := 3) (pc' := 14) (lv' := [(0, .ref 5), (1, .int x1), (2, .int x2)]) (st' := [.ref 11]) (h' := hp M) rfl ?_
      refine am_Y.call0 (M' := am_M121) (as := [.ref 11]) (rest := []) (d' := 0) rfl (by omega) rfl rfl (t_e_moment M _ rfl) ?_
      refine am_Y.run (k := 1) (pc' := 19) (lv' := [(0, .ref 5), (1, .int x1), (2, .int x2)]) (st' := [.int (99 : Int32), .int (f_e_moment M)]) (h' := hp M) rfl ?_
      refine am_Y.br (c := (f_e_moment M) < (99 : Int32)) _ (t := 24) (u := 22) (lv' := [(0, .ref 5), (1, .int x1), (2, .int x2)]) (st' := []) (h' := hp M) rfl (fun hc => ?_) (fun hc => ?_)
      · replace h := (if_pos hc).symm.trans h
        refine am_Y.run (k := 2) (pc' := 28) (lv' := [(0, .ref 5), (1, .int x1), (2, .int x2)]) (st' := [.ref 6]) (h' := hp M) rfl ?_
        obtain ⟨q1, e_q1, h⟩ := Option.bind_eq_some_iff.mp h
        refine am_Y.call0 (M' := am_M120) (as := [.ref 6]) (rest := []) (d' := 2) rfl (by omega) rfl rfl (t_t_keepStep M q1 e_q1) ?_
        refine am_Y.run (k := 1) (pc' := 32) (lv' := [(0, .ref 5), (1, .int x1), (2, .int x2)]) (st' := [.ref 5]) (h' := hp q1) rfl ?_
        obtain ⟨q2, e_q2, h⟩ := Option.bind_eq_some_iff.mp h
        refine am_Y.call0 (M' := am_M232) (as := [.ref 5]) (rest := []) (d' := 1) rfl (by omega) rfl rfl (t_w_passOne N q1 q2 e_q2) ?_
        refine am_Y.run (k := 2) (pc' := 2) (lv' := [(2, .int (x2 + (1 : Int32))), (0, .ref 5), (1, .int x1)]) (st' := []) (h' := hp q2) rfl ?_
        refine am_Y.weak (lv2 := [(0, .ref 5), (1, .int x1), (2, .int (x2 + (1 : Int32)))]) rfl rfl ⟨rfl, rfl, rfl, trivial⟩ ?_
        exact ih x1 (x2 + (1 : Int32)) q2 _ _ h
      · replace h := (if_neg hc).symm.trans h
        refine am_Y.run (k := 1) (pc' := 23) (lv' := [(0, .ref 5), (1, .int x1), (2, .int x2)]) (st' := [.int (0 : Int32)]) (h' := hp M) rfl ?_
        obtain ⟨rfl, rfl⟩ := Prod.mk.inj (Option.some.inj h)
        exact am_Y.ret rfl
set_option maxRecDepth 100000 in
theorem t_w_passAsCan {S : Nat × (Nat → Int32)} (N : Nat) (x1 : Int32) (M : Mem) (r : Int32) (M' : Mem) (h : f_w_passAsCan N x1 M = some (r, M')) : am_Y S 3 0 0 am_M124 0 [(0, .ref 5), (1, .int x1)] [] (hp M) (some (.int r)) (hp M') := by
  rw [f_w_passAsCan] at h
  refine am_Y.run (k := 2) (pc' := 2) (lv' := [(2, .int (0 : Int32)), (0, .ref 5), (1, .int x1)]) (st' := []) (h' := hp M) rfl ?_
  refine am_Y.weak (lv2 := [(0, .ref 5), (1, .int x1), (2, .int (0 : Int32))]) rfl rfl ⟨rfl, rfl, rfl, trivial⟩ ?_
  exact t_w_passAsCan_2 N N x1 (0 : Int32) M _ _ h
set_option maxRecDepth 100000 in
theorem t_w_pass {S : Nat × (Nat → Int32)} (N : Nat) (x1 : Int32) (M : Mem) (r : Int32) (M' : Mem) (h : f_w_pass N x1 M = some (r, M')) : am_Y S 4 0 0 am_M18 0 [(0, .ref 5), (1, .int x1)] [] (hp M) (some (.int r)) (hp M') := by
  rw [f_w_pass] at h
  refine am_Y.run (k := 3) (pc' := 4) (lv' := [(0, .ref 5), (1, .int x1)]) (st' := [.int (60 : Int32), .int (1 : Int32), .int x1]) (h' := hp M) rfl ?_
  refine am_Y.call0 (M' := am_M102) (as := [.int x1, .int (1 : Int32), .int (60 : Int32)]) (rest := []) (d' := 0) rfl (by omega) rfl rfl (t_w_within x1 (1 : Int32) (60 : Int32) M _ rfl) ?_
  refine am_Y.br (c := (f_w_within x1 (1 : Int32) (60 : Int32) M) = (0 : Int32)) _ (t := 27) (u := 10) (lv' := [(0, .ref 5), (1, .int x1)]) (st' := []) (h' := hp M) rfl (fun hc => ?_) (fun hc => ?_)
  · replace h := (if_pos hc).symm.trans h
    refine am_Y.run (k := 1) (pc' := 28) (lv' := [(0, .ref 5), (1, .int x1)]) (st' := [.int (-1 : Int32)]) (h' := hp M) rfl ?_
    obtain ⟨rfl, rfl⟩ := Prod.mk.inj (Option.some.inj h)
    exact am_Y.ret rfl
  · replace h := (if_neg hc).symm.trans h
    refine am_Y.run (k := 3) (pc' := 17) (lv' := [(0, .ref 5), (1, .int x1)]) (st' := [.ref 11]) (h' := hp M) rfl ?_
    refine am_Y.call0 (M' := am_M121) (as := [.ref 11]) (rest := []) (d' := 0) rfl (by omega) rfl rfl (t_e_moment M _ rfl) ?_
    refine am_Y.run (k := 3) (pc' := 24) (lv' := [(0, .ref 5), (1, .int x1)]) (st' := [.int (99 : Int32), .int ((f_e_moment M) + x1)]) (h' := hp M) rfl ?_
    refine am_Y.br (c := ((f_e_moment M) + x1) ≤ (99 : Int32)) _ (t := 29) (u := 27) (lv' := [(0, .ref 5), (1, .int x1)]) (st' := []) (h' := hp M) rfl (fun hc => ?_) (fun hc => ?_)
    · replace h := (if_pos hc).symm.trans h
      refine am_Y.run (k := 2) (pc' := 31) (lv' := [(0, .ref 5), (1, .int x1)]) (st' := [.int x1, .ref 5]) (h' := hp M) rfl ?_
      obtain ⟨q1, e_q1, h⟩ := Option.bind_eq_some_iff.mp h
      refine am_Y.call0 (M' := am_M124) (as := [.ref 5, .int x1]) (rest := []) (d' := 3) rfl (by omega) rfl rfl (t_w_passAsCan N x1 M q1.1 q1.2 e_q1) ?_
      refine am_Y.run (k := 4) (pc' := 42) (lv' := [(0, .ref 5), (1, .int x1)]) (st' := [.ref 11]) (h' := hp q1.2) rfl ?_
      refine am_Y.call0 (M' := am_M121) (as := [.ref 11]) (rest := []) (d' := 0) rfl (by omega) rfl rfl (t_e_moment q1.2 _ rfl) ?_
      obtain ⟨rfl, rfl⟩ := Prod.mk.inj (Option.some.inj h)
      exact am_Y.ret rfl
    · replace h := (if_neg hc).symm.trans h
      refine am_Y.run (k := 1) (pc' := 28) (lv' := [(0, .ref 5), (1, .int x1)]) (st' := [.int (-1 : Int32)]) (h' := hp M) rfl ?_
      obtain ⟨rfl, rfl⟩ := Prod.mk.inj (Option.some.inj h)
      exact am_Y.ret rfl
set_option maxRecDepth 100000 in
theorem t_m_passNow_2 {S : Nat × (Nat → Int32)} (N : Nat) : ∀ (n : Nat) (x1 : Int32) (M : Mem) (M' : Mem), f_m_passNow_2 N n x1 M = some M' → am_Y S 1 0 0 am_M233 2 [(0, .ref 129), (1, .int x1)] [] (hp M) none (hp M') := by
  intro n
  induction n with
  | zero =>
    intro x1 M M' h
    cases h
  | succ n ih =>
    intro x1 M M' h
    rw [f_m_passNow_2] at h
    refine am_Y.run (k := 5) (pc' := 9) (lv' := [(0, .ref 129), (1, .int x1)]) (st' := [.int (gi M 130 0), .int x1]) (h' := hp M) rfl ?_
    refine am_Y.br (c := (gi M 130 0) ≤ x1) _ (t := 40) (u := 12) (lv' := [(0, .ref 129), (1, .int x1)]) (st' := []) (h' := hp M) rfl (fun hc => ?_) (fun hc => ?_)
    · replace h := (if_pos hc).symm.trans h
      refine am_Y.run (k := 8) (pc' := 50) (lv' := [(0, .ref 129), (1, .int x1)]) (st' := []) (h' := hp (si M 130 2 ((gi M 130 2) + (1 : Int32)))) rfl ?_
      obtain ⟨q1, e_q1, h⟩ := Option.bind_eq_some_iff.mp h
      rw [Option.some.inj e_q1]
      obtain rfl := Option.some.inj h
      exact am_Y.ret rfl
    · replace h := (if_neg hc).symm.trans h
      refine am_Y.run (k := 3) (pc' := 15) (lv' := [(0, .ref 129), (1, .int x1)]) (st' := [.int (2 : Int32), .int x1, .ref 129]) (h' := hp M) rfl ?_
      obtain ⟨q2, e_q2, h⟩ := Option.bind_eq_some_iff.mp h
      refine am_Y.call0 (M' := am_M146) (as := [.ref 129, .int x1, .int (2 : Int32)]) (rest := []) (d' := 0) rfl (by omega) rfl rfl (t_m_get x1 (2 : Int32) M q2 e_q2) ?_
      refine am_Y.run (k := 4) (pc' := 24) (lv' := [(0, .ref 129), (1, .int x1)]) (st' := [.int (gi M 130 2), .int q2]) (h' := hp M) rfl ?_
      refine am_Y.br (c := q2 = (gi M 130 2)) _ (t := 27) (u := 34) (lv' := [(0, .ref 129), (1, .int x1)]) (st' := []) (h' := hp M) rfl (fun hc => ?_) (fun hc => ?_)
      · replace h := (if_pos hc).symm.trans h
        refine am_Y.run (k := 4) (pc' := 31) (lv' := [(0, .ref 129), (1, .int x1)]) (st' := [.int (0 : Int32), .int (3 : Int32), .int x1, .ref 129]) (h' := hp M) rfl ?_
        obtain ⟨q3, e_q3, h⟩ := Option.bind_eq_some_iff.mp h
        refine am_Y.call0 (M' := am_M105) (as := [.ref 129, .int x1, .int (3 : Int32), .int (0 : Int32)]) (rest := []) (d' := 0) rfl (by omega) rfl rfl (t_m_set x1 (3 : Int32) (0 : Int32) M q3 e_q3) ?_
        refine am_Y.run (k := 2) (pc' := 2) (lv' := [(1, .int (x1 + (1 : Int32))), (0, .ref 129)]) (st' := []) (h' := hp q3) rfl ?_
        refine am_Y.weak (lv2 := [(0, .ref 129), (1, .int (x1 + (1 : Int32)))]) rfl rfl ⟨rfl, rfl, trivial⟩ ?_
        exact ih (x1 + (1 : Int32)) q3 _ h
      · replace h := (if_neg hc).symm.trans h
        refine am_Y.run (k := 2) (pc' := 2) (lv' := [(1, .int (x1 + (1 : Int32))), (0, .ref 129)]) (st' := []) (h' := hp M) rfl ?_
        refine am_Y.weak (lv2 := [(0, .ref 129), (1, .int (x1 + (1 : Int32)))]) rfl rfl ⟨rfl, rfl, trivial⟩ ?_
        exact ih (x1 + (1 : Int32)) M _ h
set_option maxRecDepth 100000 in
theorem t_m_passNow {S : Nat × (Nat → Int32)} (N : Nat) (M : Mem) (M' : Mem) (h : f_m_passNow N M = some M') : am_Y S 1 0 0 am_M233 0 [(0, .ref 129)] [] (hp M) none (hp M') := by
  rw [f_m_passNow] at h
  refine am_Y.run (k := 2) (pc' := 2) (lv' := [(1, .int (0 : Int32)), (0, .ref 129)]) (st' := []) (h' := hp M) rfl ?_
  refine am_Y.weak (lv2 := [(0, .ref 129), (1, .int (0 : Int32))]) rfl rfl ⟨rfl, rfl, trivial⟩ ?_
  exact t_m_passNow_2 N N (0 : Int32) M _ h
set_option maxRecDepth 100000 in
theorem t_m_arePassed_2 {S : Nat × (Nat → Int32)} (N : Nat) : ∀ (n : Nat) (x1 : Int32) (x2 : Int32) (M : Mem) (r : Int32) (M' : Mem), f_m_arePassed_2 N n x1 x2 M = some (r, M') → am_Y S 2 0 0 am_M125 2 [(0, .ref 129), (1, .int x1), (2, .int x2)] [] (hp M) (some (.int r)) (hp M') := by
  intro n
  induction n with
  | zero =>
    intro x1 x2 M r M' h
    cases h
  | succ n ih =>
    intro x1 x2 M r M' h
    rw [f_m_arePassed_2] at h
    refine am_Y.run (k := 2) (pc' := 4) (lv' := [(0, .ref 129), (1, .int x1), (2, .int x2)]) (st' := [.int x1, .int x2]) (h' := hp M) rfl ?_
    refine am_Y.br (c := x1 ≤ x2) _ (t := 34) (u := 7) (lv' := [(0, .ref 129), (1, .int x1), (2, .int x2)]) (st' := []) (h' := hp M) rfl (fun hc => ?_) (fun hc => ?_)
    · replace h := (if_pos hc).symm.trans h
      refine am_Y.run (k := 1) (pc' := 35) (lv' := [(0, .ref 129), (1, .int x1), (2, .int x2)]) (st' := [.int (1 : Int32)]) (h' := hp M) rfl ?_
      obtain ⟨rfl, rfl⟩ := Prod.mk.inj (Option.some.inj h)
      exact am_Y.ret rfl
    · replace h := (if_neg hc).symm.trans h
      refine am_Y.run (k := 5) (pc' := 15) (lv' := [(0, .ref 129), (1, .int x1), (2, .int x2)]) (st' := [.int (99 : Int32), .int (gi M 130 2)]) (h' := hp M) rfl ?_
      refine am_Y.br (c := (gi M 130 2) = (99 : Int32)) _ (t := 18) (u := 20) (lv' := [(0, .ref 129), (1, .int x1), (2, .int x2)]) (st' := []) (h' := hp M) rfl (fun hc => ?_) (fun hc => ?_)
      · replace h := (if_pos hc).symm.trans h
        refine am_Y.run (k := 1) (pc' := 19) (lv' := [(0, .ref 129), (1, .int x1), (2, .int x2)]) (st' := [.int (0 : Int32)]) (h' := hp M) rfl ?_
        obtain ⟨rfl, rfl⟩ := Prod.mk.inj (Option.some.inj h)
        exact am_Y.ret rfl
      · replace h := (if_neg hc).symm.trans h
        refine am_Y.run (k := 1) (pc' := 21) (lv' := [(0, .ref 129), (1, .int x1), (2, .int x2)]) (st' := [.ref 129]) (h' := hp M) rfl ?_
        obtain ⟨q1, e_q1, h⟩ := Option.bind_eq_some_iff.mp h
        refine am_Y.call0 (M' := am_M117) (as := [.ref 129]) (rest := []) (d' := 1) rfl (by omega) rfl rfl (t_m_keep N M q1 e_q1) ?_
        refine am_Y.run (k := 1) (pc' := 25) (lv' := [(0, .ref 129), (1, .int x1), (2, .int x2)]) (st' := [.ref 129]) (h' := hp q1) rfl ?_
        obtain ⟨q2, e_q2, h⟩ := Option.bind_eq_some_iff.mp h
        refine am_Y.call0 (M' := am_M233) (as := [.ref 129]) (rest := []) (d' := 1) rfl (by omega) rfl rfl (t_m_passNow N q1 q2 e_q2) ?_
        refine am_Y.run (k := 2) (pc' := 2) (lv' := [(2, .int (x2 + (1 : Int32))), (0, .ref 129), (1, .int x1)]) (st' := []) (h' := hp q2) rfl ?_
        refine am_Y.weak (lv2 := [(0, .ref 129), (1, .int x1), (2, .int (x2 + (1 : Int32)))]) rfl rfl ⟨rfl, rfl, rfl, trivial⟩ ?_
        exact ih x1 (x2 + (1 : Int32)) q2 _ _ h
set_option maxRecDepth 100000 in
theorem t_m_arePassed {S : Nat × (Nat → Int32)} (N : Nat) (x1 : Int32) (M : Mem) (r : Int32) (M' : Mem) (h : f_m_arePassed N x1 M = some (r, M')) : am_Y S 2 0 0 am_M125 0 [(0, .ref 129), (1, .int x1)] [] (hp M) (some (.int r)) (hp M') := by
  rw [f_m_arePassed] at h
  refine am_Y.run (k := 2) (pc' := 2) (lv' := [(2, .int (0 : Int32)), (0, .ref 129), (1, .int x1)]) (st' := []) (h' := hp M) rfl ?_
  refine am_Y.weak (lv2 := [(0, .ref 129), (1, .int x1), (2, .int (0 : Int32))]) rfl rfl ⟨rfl, rfl, rfl, trivial⟩ ?_
  exact t_m_arePassed_2 N N x1 (0 : Int32) M _ _ h
set_option maxRecDepth 100000 in
theorem t_m_pass {S : Nat × (Nat → Int32)} (N : Nat) (x1 : Int32) (M : Mem) (r : Int32) (M' : Mem) (h : f_m_pass N x1 M = some (r, M')) : am_Y S 3 0 0 am_M19 0 [(0, .ref 129), (1, .int x1)] [] (hp M) (some (.int r)) (hp M') := by
  rw [f_m_pass] at h
  refine am_Y.run (k := 3) (pc' := 4) (lv' := [(0, .ref 129), (1, .int x1)]) (st' := [.int (60 : Int32), .int (1 : Int32), .int x1]) (h' := hp M) rfl ?_
  refine am_Y.call0 (M' := am_M104) (as := [.int x1, .int (1 : Int32), .int (60 : Int32)]) (rest := []) (d' := 0) rfl (by omega) rfl rfl (t_m_isIn x1 (1 : Int32) (60 : Int32) M _ rfl) ?_
  refine am_Y.br (c := (f_m_isIn x1 (1 : Int32) (60 : Int32) M) = (0 : Int32)) _ (t := 40) (u := 10) (lv' := [(0, .ref 129), (1, .int x1)]) (st' := []) (h' := hp M) rfl (fun hc => ?_) (fun hc => ?_)
  · replace h := (if_pos hc).symm.trans h
    refine am_Y.run (k := 1) (pc' := 41) (lv' := [(0, .ref 129), (1, .int x1)]) (st' := [.int (-1 : Int32)]) (h' := hp M) rfl ?_
    obtain ⟨rfl, rfl⟩ := Prod.mk.inj (Option.some.inj h)
    exact am_Y.ret rfl
  · replace h := (if_neg hc).symm.trans h
    refine am_Y.run (k := 7) (pc' := 20) (lv' := [(0, .ref 129), (1, .int x1)]) (st' := [.int (99 : Int32), .int ((gi M 130 2) + x1)]) (h' := hp M) rfl ?_
    refine am_Y.br (c := (99 : Int32) < ((gi M 130 2) + x1)) _ (t := 40) (u := 23) (lv' := [(0, .ref 129), (1, .int x1)]) (st' := []) (h' := hp M) rfl (fun hc => ?_) (fun hc => ?_)
    · replace h := (if_pos hc).symm.trans h
      refine am_Y.run (k := 1) (pc' := 41) (lv' := [(0, .ref 129), (1, .int x1)]) (st' := [.int (-1 : Int32)]) (h' := hp M) rfl ?_
      obtain ⟨rfl, rfl⟩ := Prod.mk.inj (Option.some.inj h)
      exact am_Y.ret rfl
    · replace h := (if_neg hc).symm.trans h
      refine am_Y.run (k := 2) (pc' := 25) (lv' := [(0, .ref 129), (1, .int x1)]) (st' := [.int x1, .ref 129]) (h' := hp M) rfl ?_
      obtain ⟨q1, e_q1, h⟩ := Option.bind_eq_some_iff.mp h
      refine am_Y.call0 (M' := am_M125) (as := [.ref 129, .int x1]) (rest := []) (d' := 2) rfl (by omega) rfl rfl (t_m_arePassed N x1 M q1.1 q1.2 e_q1) ?_
      refine am_Y.br (c := q1.1 = (0 : Int32)) _ (t := 40) (u := 31) (lv' := [(0, .ref 129), (1, .int x1)]) (st' := []) (h' := hp q1.2) rfl (fun hc => ?_) (fun hc => ?_)
      · replace h := (if_pos hc).symm.trans h
        refine am_Y.run (k := 1) (pc' := 41) (lv' := [(0, .ref 129), (1, .int x1)]) (st' := [.int (-1 : Int32)]) (h' := hp q1.2) rfl ?_
        obtain ⟨rfl, rfl⟩ := Prod.mk.inj (Option.some.inj h)
        exact am_Y.ret rfl
      · replace h := (if_neg hc).symm.trans h
        refine am_Y.run (k := 5) (pc' := 41) (lv' := [(0, .ref 129), (1, .int x1)]) (st' := [.int (gi q1.2 130 2)]) (h' := hp q1.2) rfl ?_
        obtain ⟨rfl, rfl⟩ := Prod.mk.inj (Option.some.inj h)
        exact am_Y.ret rfl
set_option maxRecDepth 100000 in
theorem t_w_send {S : Nat × (Nat → Int32)} (x1 : Int32) (M : Mem) (r : Int32) (M' : Mem) (h : f_w_send x1 M = some (r, M')) : am_Y S 3 0 0 am_M20 0 [(0, .ref 5), (1, .int x1)] [] (hp M) (some (.int r)) (hp M') := by
  rw [f_w_send] at h
  refine am_Y.run (k := 3) (pc' := 5) (lv' := [(0, .ref 5), (1, .int x1)]) (st' := [.int x1, .ref 6]) (h' := hp M) rfl ?_
  refine am_Y.call0 (M' := am_M126) (as := [.ref 6, .int x1]) (rest := []) (d' := 2) rfl (by omega) rfl rfl (t_t_isThere x1 M _ rfl) ?_
  refine am_Y.br (c := (f_t_isThere x1 M) = (0 : Int32)) _ (t := 11) (u := 13) (lv' := [(0, .ref 5), (1, .int x1)]) (st' := []) (h' := hp M) rfl (fun hc => ?_) (fun hc => ?_)
  · replace h := (if_pos hc).symm.trans h
    refine am_Y.run (k := 1) (pc' := 12) (lv' := [(0, .ref 5), (1, .int x1)]) (st' := [.int (0 : Int32)]) (h' := hp M) rfl ?_
    obtain ⟨rfl, rfl⟩ := Prod.mk.inj (Option.some.inj h)
    exact am_Y.ret rfl
  · replace h := (if_neg hc).symm.trans h
    refine am_Y.run (k := 2) (pc' := 17) (lv' := [(0, .ref 5), (1, .int x1)]) (st' := [.ref 6]) (h' := hp M) rfl ?_
    obtain ⟨q1, e_q1, h⟩ := Option.bind_eq_some_iff.mp h
    refine am_Y.call0 (M' := am_M120) (as := [.ref 6]) (rest := []) (d' := 2) rfl (by omega) rfl rfl (t_t_keepStep M q1 e_q1) ?_
    refine am_Y.run (k := 6) (pc' := 30) (lv' := [(0, .ref 5), (1, .int x1)]) (st' := [.int ((1 : Int32) <<< (x1 &&& 31)), .ref 11]) (h' := hp q1) rfl ?_
    obtain ⟨q2, e_q2, h⟩ := Option.bind_eq_some_iff.mp h
    refine am_Y.call0 (M' := am_M127) (as := [.ref 11, .int ((1 : Int32) <<< (x1 &&& 31))]) (rest := []) (d' := 0) rfl (by omega) rfl rfl (t_e_letGo ((1 : Int32) <<< (x1 &&& 31)) q1 q2 e_q2) ?_
    refine am_Y.run (k := 1) (pc' := 34) (lv' := [(0, .ref 5), (1, .int x1)]) (st' := [.int (1 : Int32)]) (h' := hp q2) rfl ?_
    obtain ⟨rfl, rfl⟩ := Prod.mk.inj (Option.some.inj h)
    exact am_Y.ret rfl
set_option maxRecDepth 100000 in
theorem t_m_send {S : Nat × (Nat → Int32)} (N : Nat) (x1 : Int32) (M : Mem) (r : Int32) (M' : Mem) (h : f_m_send N x1 M = some (r, M')) : am_Y S 2 0 0 am_M21 0 [(0, .ref 129), (1, .int x1)] [] (hp M) (some (.int r)) (hp M') := by
  rw [f_m_send] at h
  refine am_Y.run (k := 2) (pc' := 2) (lv' := [(0, .ref 129), (1, .int x1)]) (st' := [.int x1, .ref 129]) (h' := hp M) rfl ?_
  refine am_Y.call0 (M' := am_M115) (as := [.ref 129, .int x1]) (rest := []) (d' := 1) rfl (by omega) rfl rfl (t_m_isGuest x1 M _ rfl) ?_
  refine am_Y.br (c := (f_m_isGuest x1 M) = (0 : Int32)) _ (t := 16) (u := 8) (lv' := [(0, .ref 129), (1, .int x1)]) (st' := []) (h' := hp M) rfl (fun hc => ?_) (fun hc => ?_)
  · replace h := (if_pos hc).symm.trans h
    refine am_Y.run (k := 1) (pc' := 17) (lv' := [(0, .ref 129), (1, .int x1)]) (st' := [.int (0 : Int32)]) (h' := hp M) rfl ?_
    obtain ⟨rfl, rfl⟩ := Prod.mk.inj (Option.some.inj h)
    exact am_Y.ret rfl
  · replace h := (if_neg hc).symm.trans h
    refine am_Y.run (k := 2) (pc' := 10) (lv' := [(0, .ref 129), (1, .int x1)]) (st' := [.int x1, .ref 129]) (h' := hp M) rfl ?_
    obtain ⟨q1, e_q1, h⟩ := Option.bind_eq_some_iff.mp h
    refine am_Y.call0 (M' := am_M128) (as := [.ref 129, .int x1]) (rest := []) (d' := 1) rfl (by omega) rfl rfl (t_m_isThere x1 M q1 e_q1) ?_
    refine am_Y.br (c := q1 = (0 : Int32)) _ (t := 16) (u := 18) (lv' := [(0, .ref 129), (1, .int x1)]) (st' := []) (h' := hp M) rfl (fun hc => ?_) (fun hc => ?_)
    · replace h := (if_pos hc).symm.trans h
      refine am_Y.run (k := 1) (pc' := 17) (lv' := [(0, .ref 129), (1, .int x1)]) (st' := [.int (0 : Int32)]) (h' := hp M) rfl ?_
      obtain ⟨rfl, rfl⟩ := Prod.mk.inj (Option.some.inj h)
      exact am_Y.ret rfl
    · replace h := (if_neg hc).symm.trans h
      refine am_Y.run (k := 1) (pc' := 19) (lv' := [(0, .ref 129), (1, .int x1)]) (st' := [.ref 129]) (h' := hp M) rfl ?_
      obtain ⟨q2, e_q2, h⟩ := Option.bind_eq_some_iff.mp h
      refine am_Y.call0 (M' := am_M117) (as := [.ref 129]) (rest := []) (d' := 1) rfl (by omega) rfl rfl (t_m_keep N M q2 e_q2) ?_
      refine am_Y.run (k := 4) (pc' := 26) (lv' := [(0, .ref 129), (1, .int x1)]) (st' := [.int (0 : Int32), .int (3 : Int32), .int x1, .ref 129]) (h' := hp q2) rfl ?_
      obtain ⟨q3, e_q3, h⟩ := Option.bind_eq_some_iff.mp h
      refine am_Y.call0 (M' := am_M105) (as := [.ref 129, .int x1, .int (3 : Int32), .int (0 : Int32)]) (rest := []) (d' := 0) rfl (by omega) rfl rfl (t_m_set x1 (3 : Int32) (0 : Int32) q2 q3 e_q3) ?_
      refine am_Y.run (k := 1) (pc' := 30) (lv' := [(0, .ref 129), (1, .int x1)]) (st' := [.int (1 : Int32)]) (h' := hp q3) rfl ?_
      obtain ⟨rfl, rfl⟩ := Prod.mk.inj (Option.some.inj h)
      exact am_Y.ret rfl
set_option maxRecDepth 100000 in
theorem t_e_wouldHold {S : Nat × (Nat → Int32)} (N : Nat) (M : Mem) (r : Int32) (h : f_e_wouldHold N M = some r) : am_Y S 2 0 0 am_M147 0 [(0, .ref 11)] [] (hp M) (some (.int r)) (hp M) := by
  rw [f_e_wouldHold] at h
  refine am_Y.run (k := 2) (pc' := 3) (lv' := [(0, .ref 11)]) (st' := [.int (1000000 : Int32), .ref 11]) (h' := hp M) rfl ?_
  obtain ⟨q1, e_q1, h⟩ := Option.bind_eq_some_iff.mp h
  refine am_Y.call0 (M' := am_M188) (as := [.ref 11, .int (1000000 : Int32)]) (rest := []) (d' := 1) rfl (by omega) rfl rfl (t_e_standing N (1000000 : Int32) M q1 e_q1) ?_
  refine am_Y.call0 (M' := am_M190) (as := [.int q1]) (rest := []) (d' := 0) rfl (by omega) rfl rfl (t_w_holders q1 M _ rfl) ?_
  obtain rfl := Option.some.inj h
  exact am_Y.ret rfl
set_option maxRecDepth 100000 in
theorem t_l_howLikely_108_6_null {S : Nat × (Nat → Int32)} (x3 : Int32) (M : Mem) (r : Int32) (h : f_l_howLikely_108_6_null x3 M = r) : am_Y S 0 0 0 am_M234 0 [(0, .ref 108), (1, .ref 6), (2, .null), (3, .int x3)] [] (hp M) (some (.int r)) (hp M) := by
  rw [f_l_howLikely_108_6_null] at h
  refine am_Y.run (k := 3) (pc' := 16) (lv' := [(0, .ref 108), (1, .ref 6), (2, .null), (3, .int x3)]) (st' := [.int (10 : Int32)]) (h' := hp M) rfl ?_
  subst h
  exact am_Y.ret rfl
set_option maxRecDepth 100000 in
theorem t_e_written {S : Nat × (Nat → Int32)} (M : Mem) (r : Int32) (h : f_e_written M = r) : am_Y S 0 0 0 am_M161 0 [(0, .ref 11)] [] (hp M) (some (.int r)) (hp M) := by
  rw [f_e_written] at h
  refine am_Y.run (k := 4) (pc' := 6) (lv' := [(0, .ref 11)]) (st' := [.int (gi M 12 5)]) (h' := hp M) rfl ?_
  subst h
  exact am_Y.ret rfl
set_option maxRecDepth 100000 in
theorem t_e_close_81 {S : Nat × (Nat → Int32)} (M : Mem) (M' : Mem) (h : f_e_close_81 M = some M') : am_Y S 1 0 0 am_M235 81 [(0, .ref 11)] [] (hp M) none (hp M') := by
  rw [f_e_close_81] at h
  refine am_Y.run (k := 8) (pc' := 91) (lv' := [(0, .ref 11)]) (st' := []) (h' := hp (si M 12 0 ((gi M 12 0) + (1 : Int32)))) rfl ?_
  obtain ⟨q5, e_q5, h⟩ := Option.bind_eq_some_iff.mp h
  rw [Option.some.inj e_q5]
  refine am_Y.run (k := 5) (pc' := 98) (lv' := [(0, .ref 11)]) (st' := []) (h' := hp (si q5 12 1 (0 : Int32))) rfl ?_
  obtain ⟨q6, e_q6, h⟩ := Option.bind_eq_some_iff.mp h
  rw [Option.some.inj e_q6]
  refine am_Y.run (k := 5) (pc' := 105) (lv' := [(0, .ref 11)]) (st' := []) (h' := hp (si q6 12 3 (0 : Int32))) rfl ?_
  obtain ⟨q7, e_q7, h⟩ := Option.bind_eq_some_iff.mp h
  rw [Option.some.inj e_q7]
  refine am_Y.run (k := 5) (pc' := 112) (lv' := [(0, .ref 11)]) (st' := []) (h' := hp (si q7 12 4 (0 : Int32))) rfl ?_
  obtain ⟨q8, e_q8, h⟩ := Option.bind_eq_some_iff.mp h
  rw [Option.some.inj e_q8]
  obtain rfl := Option.some.inj h
  exact am_Y.ret rfl
set_option maxRecDepth 100000 in
theorem t_e_close_34 {S : Nat × (Nat → Int32)} (x1 : Int32) (x2 : Int32) (M : Mem) (M' : Mem) (h : f_e_close_34 x1 x2 M = some M') : am_Y S 1 0 0 am_M235 34 [(0, .ref 11), (1, .int x1), (2, .int x2)] [] (hp M) none (hp M') := by
  rw [f_e_close_34] at h
  refine am_Y.run (k := 1) (pc' := 35) (lv' := [(0, .ref 11), (1, .int x1), (2, .int x2)]) (st' := [.ref 11]) (h' := hp M) rfl ?_
  refine am_Y.call0 (M' := am_M161) (as := [.ref 11]) (rest := []) (d' := 0) rfl (by omega) rfl rfl (t_e_written M _ rfl) ?_
  refine am_Y.run (k := 4) (pc' := 43) (lv' := [(3, .int (f_e_written M)), (0, .ref 11), (1, .int x1), (2, .int x2)]) (st' := [.int (19 : Int32), .int (0 : Int32), .int (f_e_written M)]) (h' := hp M) rfl ?_
  refine am_Y.call0 (M' := am_M102) (as := [.int (f_e_written M), .int (0 : Int32), .int (19 : Int32)]) (rest := []) (d' := 0) rfl (by omega) rfl rfl (t_w_within (f_e_written M) (0 : Int32) (19 : Int32) M _ rfl) ?_
  refine am_Y.br (c := (f_w_within (f_e_written M) (0 : Int32) (19 : Int32) M) = (0 : Int32)) _ (t := 81) (u := 49) (lv' := [(3, .int (f_e_written M)), (0, .ref 11), (1, .int x1), (2, .int x2)]) (st' := []) (h' := hp M) rfl (fun hc => ?_) (fun hc => ?_)
  · replace h := (if_pos hc).symm.trans h
    refine am_Y.weak (lv2 := [(0, .ref 11)]) rfl rfl ⟨rfl, trivial⟩ ?_
    exact t_e_close_81 M _ h
  · replace h := (if_neg hc).symm.trans h
    refine am_Y.run (k := 6) (pc' := 58) (lv' := [(3, .int (f_e_written M)), (0, .ref 11), (1, .int x1), (2, .int x2)]) (st' := [.ref 11, .int ((46 : Int32) + (f_e_written M)), .ref 12]) (h' := hp M) rfl ?_
    refine am_Y.call0 (M' := am_M129) (as := [.ref 11]) (rest := [.int ((46 : Int32) + (f_e_written M)), .ref 12]) (d' := 0) rfl (by omega) rfl rfl (t_e_night M _ rfl) ?_
    refine am_Y.run (k := 8) (pc' := 71) (lv' := [(3, .int (f_e_written M)), (0, .ref 11), (1, .int x1), (2, .int x2)]) (st' := [.int (((f_e_night M) ||| (x1 <<< (10 : Int32))) ||| (x2 <<< (18 : Int32))), .int ((46 : Int32) + (f_e_written M)), .ref 12]) (h' := hp M) rfl ?_
    obtain ⟨g, h⟩ := am_itg h
    refine am_Y.iast (a := 7) (n := 66) rfl rfl g ?_
    refine am_Y.run (k := 0) (pc' := _) (lv' := [(3, .int (f_e_written M)), (0, .ref 11), (1, .int x1), (2, .int x2)]) (st' := []) (h' := hp (si M 12 (((46 : Int32) + (f_e_written M))).toNatClampNeg (((f_e_night M) ||| (x1 <<< (10 : Int32))) ||| (x2 <<< (18 : Int32))))) rfl ?_
    obtain ⟨q3, e_q3, h⟩ := Option.bind_eq_some_iff.mp h
    rw [Option.some.inj e_q3]
    refine am_Y.run (k := 7) (pc' := 81) (lv' := [(3, .int (f_e_written M)), (0, .ref 11), (1, .int x1), (2, .int x2)]) (st' := []) (h' := hp (si q3 12 5 ((f_e_written M) + (1 : Int32)))) rfl ?_
    obtain ⟨q4, e_q4, h⟩ := Option.bind_eq_some_iff.mp h
    rw [Option.some.inj e_q4]
    refine am_Y.weak (lv2 := [(0, .ref 11)]) rfl rfl ⟨rfl, trivial⟩ ?_
    exact t_e_close_81 q4 _ h
set_option maxRecDepth 100000 in
theorem t_e_close {S : Nat × (Nat → Int32)} (x1 : Int32) (x2 : Int32) (M : Mem) (M' : Mem) (h : f_e_close x1 x2 M = some M') : am_Y S 1 0 0 am_M235 0 [(0, .ref 11), (1, .int x1), (2, .int x2)] [] (hp M) none (hp M') := by
  rw [f_e_close] at h
  refine am_Y.run (k := 1) (pc' := 1) (lv' := [(0, .ref 11), (1, .int x1), (2, .int x2)]) (st' := [.ref 11]) (h' := hp M) rfl ?_
  refine am_Y.call0 (M' := am_M161) (as := [.ref 11]) (rest := []) (d' := 0) rfl (by omega) rfl rfl (t_e_written M _ rfl) ?_
  refine am_Y.run (k := 1) (pc' := 6) (lv' := [(0, .ref 11), (1, .int x1), (2, .int x2)]) (st' := [.int (20 : Int32), .int (f_e_written M)]) (h' := hp M) rfl ?_
  refine am_Y.br (c := (f_e_written M) < (20 : Int32)) _ (t := 34) (u := 9) (lv' := [(0, .ref 11), (1, .int x1), (2, .int x2)]) (st' := []) (h' := hp M) rfl (fun hc => ?_) (fun hc => ?_)
  · replace h := (if_pos hc).symm.trans h
    refine am_Y.weak (lv2 := [(0, .ref 11), (1, .int x1), (2, .int x2)]) rfl rfl ⟨rfl, rfl, rfl, trivial⟩ ?_
    exact t_e_close_34 x1 x2 M _ h
  · replace h := (if_neg hc).symm.trans h
    refine am_Y.run (k := 8) (pc' := 26) (lv' := [(0, .ref 11), (1, .int x1), (2, .int x2)]) (st' := []) (h' := hp (sr M 12 (va_cpy (M.1 12) (M.1 12) 47 46 19))) rfl ?_
    obtain ⟨q1, e_q1, h⟩ := Option.bind_eq_some_iff.mp h
    rw [Option.some.inj e_q1]
    refine am_Y.run (k := 5) (pc' := 34) (lv' := [(0, .ref 11), (1, .int x1), (2, .int x2)]) (st' := []) (h' := hp (si q1 12 5 (19 : Int32))) rfl ?_
    obtain ⟨q2, e_q2, h⟩ := Option.bind_eq_some_iff.mp h
    rw [Option.some.inj e_q2]
    refine am_Y.weak (lv2 := [(0, .ref 11), (1, .int x1), (2, .int x2)]) rfl rfl ⟨rfl, rfl, rfl, trivial⟩ ?_
    exact t_e_close_34 x1 x2 q2 _ h
set_option maxRecDepth 100000 in
theorem t_l_howLikely_108_6_a_113 {S : Nat × (Nat → Int32)} (N : Nat) (x3 : Int32) (M : Mem) (r : Int32) (M' : Mem) (h : f_l_howLikely_108_6_a N 113 x3 M = some (r, M')) : am_Y S 4 0 0 am_M234 0 [(0, .ref 108), (1, .ref 6), (2, .ref 113), (3, .int x3)] [] (hp M) (some (.int r)) (hp M') := by
  rw [f_l_howLikely_108_6_a] at h
  refine am_Y.run (k := 4) (pc' := 7) (lv' := [(0, .ref 108), (1, .ref 6), (2, .ref 113), (3, .int x3)]) (st' := [.int (14 : Int32), .ref 113]) (h' := hp M) rfl ?_
  obtain ⟨q1, e_q1, h⟩ := Option.bind_eq_some_iff.mp h
  refine am_Y.call0 (M' := am_M244) (as := [.ref 113, .int (14 : Int32)]) (rest := []) (d' := 1) rfl (by omega) rfl rfl (t_p_startOf_a_113 (14 : Int32) M q1 e_q1) ?_
  refine am_Y.run (k := 1) (pc' := 11) (lv' := [(0, .ref 108), (1, .ref 6), (2, .ref 113), (3, .int x3)]) (st' := [.int (-1 : Int32), .int q1]) (h' := hp M) rfl ?_
  refine am_Y.br (c := q1 = (-1 : Int32)) _ (t := 14) (u := 17) (lv' := [(0, .ref 108), (1, .ref 6), (2, .ref 113), (3, .int x3)]) (st' := []) (h' := hp M) rfl (fun hc => ?_) (fun hc => ?_)
  · replace h := (if_pos hc).symm.trans h
    refine am_Y.run (k := 1) (pc' := 16) (lv' := [(0, .ref 108), (1, .ref 6), (2, .ref 113), (3, .int x3)]) (st' := [.int (10 : Int32)]) (h' := hp M) rfl ?_
    obtain ⟨rfl, rfl⟩ := Prod.mk.inj (Option.some.inj h)
    exact am_Y.ret rfl
  · replace h := (if_neg hc).symm.trans h
    refine am_Y.run (k := 3) (pc' := 22) (lv' := [(0, .ref 108), (1, .ref 6), (2, .ref 113), (3, .int x3)]) (st' := [.ref 11, .ref 108]) (h' := hp M) rfl ?_
    obtain ⟨q2, e_q2, h⟩ := Option.bind_eq_some_iff.mp h
    refine am_Y.call0 (M' := am_M289) (as := [.ref 108, .ref 11]) (rest := []) (d' := 2) rfl (by omega) rfl rfl (t_l_nameEvening N M q2 e_q2) ?_
    refine am_Y.run (k := 5) (pc' := 35) (lv' := [(0, .ref 108), (1, .ref 6), (2, .ref 113), (3, .int x3)]) (st' := [.ref 11, .int (10 : Int32), .ref 109]) (h' := hp q2) rfl ?_
    refine am_Y.call0 (M' := am_M151) (as := [.ref 11]) (rest := [.int (10 : Int32), .ref 109]) (d' := 0) rfl (by omega) rfl rfl (t_e_spoken q2 _ rfl) ?_
    refine am_Y.run (k := 1) (pc' := 39) (lv' := [(0, .ref 108), (1, .ref 6), (2, .ref 113), (3, .int x3)]) (st' := []) (h' := hp (si q2 109 10 (f_e_spoken q2))) rfl ?_
    obtain ⟨q3, e_q3, h⟩ := Option.bind_eq_some_iff.mp h
    rw [Option.some.inj e_q3]
    refine am_Y.run (k := 4) (pc' := 46) (lv' := [(0, .ref 108), (1, .ref 6), (2, .ref 113), (3, .int x3)]) (st' := [.int x3, .int (11 : Int32), .ref 109]) (h' := hp q3) rfl ?_
    refine am_Y.call0 (M' := am_M259) (as := [.int x3]) (rest := [.int (11 : Int32), .ref 109]) (d' := 0) rfl (by omega) rfl rfl (t_k_bitCount x3 q3 _ rfl) ?_
    refine am_Y.run (k := 1) (pc' := 50) (lv' := [(0, .ref 108), (1, .ref 6), (2, .ref 113), (3, .int x3)]) (st' := []) (h' := hp (si q3 109 11 (f_k_bitCount x3 q3))) rfl ?_
    obtain ⟨q4, e_q4, h⟩ := Option.bind_eq_some_iff.mp h
    rw [Option.some.inj e_q4]
    refine am_Y.run (k := 6) (pc' := 58) (lv' := [(0, .ref 108), (1, .ref 6), (2, .ref 113), (3, .int x3)]) (st' := [.int (14 : Int32), .ref 113, .ref 113, .ref 108, .int (100 : Int32), .int (0 : Int32)]) (h' := hp q4) rfl ?_
    obtain ⟨q5, e_q5, h⟩ := Option.bind_eq_some_iff.mp h
    refine am_Y.call0 (M' := am_M244) (as := [.ref 113, .int (14 : Int32)]) (rest := [.ref 113, .ref 108, .int (100 : Int32), .int (0 : Int32)]) (d' := 1) rfl (by omega) rfl rfl (t_p_startOf_a_113 (14 : Int32) q4 q5 e_q5) ?_
    obtain ⟨q6, e_q6, h⟩ := Option.bind_eq_some_iff.mp h
    refine am_Y.call0 (M' := am_M245) (as := [.ref 108, .ref 113, .int q5]) (rest := [.int (100 : Int32), .int (0 : Int32)]) (d' := 3) rfl (by omega) rfl rfl (t_l_run_113 N q5 q4 q6.1 q6.2 e_q6) ?_
    refine am_Y.call0 (M' := am_M242) (as := [.int (100 : Int32), .int q6.1]) (rest := [.int (0 : Int32)]) (d' := 0) rfl (by omega) rfl rfl (t_k_min0 (100 : Int32) q6.1 q6.2 _ rfl) ?_
    refine am_Y.call0 (M' := am_M246) (as := [.int (0 : Int32), .int (f_k_min0 (100 : Int32) q6.1 q6.2)]) (rest := []) (d' := 0) rfl (by omega) rfl rfl (t_k_max0 (0 : Int32) (f_k_min0 (100 : Int32) q6.1 q6.2) q6.2 _ rfl) ?_
    obtain ⟨rfl, rfl⟩ := Prod.mk.inj (Option.some.inj h)
    exact am_Y.ret rfl
set_option maxRecDepth 100000 in
theorem t_l_howLikely_108_6_a_117 {S : Nat × (Nat → Int32)} (N : Nat) (x3 : Int32) (M : Mem) (r : Int32) (M' : Mem) (h : f_l_howLikely_108_6_a N 117 x3 M = some (r, M')) : am_Y S 4 0 0 am_M234 0 [(0, .ref 108), (1, .ref 6), (2, .ref 117), (3, .int x3)] [] (hp M) (some (.int r)) (hp M') := by
  rw [f_l_howLikely_108_6_a] at h
  refine am_Y.run (k := 4) (pc' := 7) (lv' := [(0, .ref 108), (1, .ref 6), (2, .ref 117), (3, .int x3)]) (st' := [.int (14 : Int32), .ref 117]) (h' := hp M) rfl ?_
  obtain ⟨q1, e_q1, h⟩ := Option.bind_eq_some_iff.mp h
  refine am_Y.call0 (M' := am_M244) (as := [.ref 117, .int (14 : Int32)]) (rest := []) (d' := 1) rfl (by omega) rfl rfl (t_p_startOf_a_117 (14 : Int32) M q1 e_q1) ?_
  refine am_Y.run (k := 1) (pc' := 11) (lv' := [(0, .ref 108), (1, .ref 6), (2, .ref 117), (3, .int x3)]) (st' := [.int (-1 : Int32), .int q1]) (h' := hp M) rfl ?_
  refine am_Y.br (c := q1 = (-1 : Int32)) _ (t := 14) (u := 17) (lv' := [(0, .ref 108), (1, .ref 6), (2, .ref 117), (3, .int x3)]) (st' := []) (h' := hp M) rfl (fun hc => ?_) (fun hc => ?_)
  · replace h := (if_pos hc).symm.trans h
    refine am_Y.run (k := 1) (pc' := 16) (lv' := [(0, .ref 108), (1, .ref 6), (2, .ref 117), (3, .int x3)]) (st' := [.int (10 : Int32)]) (h' := hp M) rfl ?_
    obtain ⟨rfl, rfl⟩ := Prod.mk.inj (Option.some.inj h)
    exact am_Y.ret rfl
  · replace h := (if_neg hc).symm.trans h
    refine am_Y.run (k := 3) (pc' := 22) (lv' := [(0, .ref 108), (1, .ref 6), (2, .ref 117), (3, .int x3)]) (st' := [.ref 11, .ref 108]) (h' := hp M) rfl ?_
    obtain ⟨q2, e_q2, h⟩ := Option.bind_eq_some_iff.mp h
    refine am_Y.call0 (M' := am_M289) (as := [.ref 108, .ref 11]) (rest := []) (d' := 2) rfl (by omega) rfl rfl (t_l_nameEvening N M q2 e_q2) ?_
    refine am_Y.run (k := 5) (pc' := 35) (lv' := [(0, .ref 108), (1, .ref 6), (2, .ref 117), (3, .int x3)]) (st' := [.ref 11, .int (10 : Int32), .ref 109]) (h' := hp q2) rfl ?_
    refine am_Y.call0 (M' := am_M151) (as := [.ref 11]) (rest := [.int (10 : Int32), .ref 109]) (d' := 0) rfl (by omega) rfl rfl (t_e_spoken q2 _ rfl) ?_
    refine am_Y.run (k := 1) (pc' := 39) (lv' := [(0, .ref 108), (1, .ref 6), (2, .ref 117), (3, .int x3)]) (st' := []) (h' := hp (si q2 109 10 (f_e_spoken q2))) rfl ?_
    obtain ⟨q3, e_q3, h⟩ := Option.bind_eq_some_iff.mp h
    rw [Option.some.inj e_q3]
    refine am_Y.run (k := 4) (pc' := 46) (lv' := [(0, .ref 108), (1, .ref 6), (2, .ref 117), (3, .int x3)]) (st' := [.int x3, .int (11 : Int32), .ref 109]) (h' := hp q3) rfl ?_
    refine am_Y.call0 (M' := am_M259) (as := [.int x3]) (rest := [.int (11 : Int32), .ref 109]) (d' := 0) rfl (by omega) rfl rfl (t_k_bitCount x3 q3 _ rfl) ?_
    refine am_Y.run (k := 1) (pc' := 50) (lv' := [(0, .ref 108), (1, .ref 6), (2, .ref 117), (3, .int x3)]) (st' := []) (h' := hp (si q3 109 11 (f_k_bitCount x3 q3))) rfl ?_
    obtain ⟨q4, e_q4, h⟩ := Option.bind_eq_some_iff.mp h
    rw [Option.some.inj e_q4]
    refine am_Y.run (k := 6) (pc' := 58) (lv' := [(0, .ref 108), (1, .ref 6), (2, .ref 117), (3, .int x3)]) (st' := [.int (14 : Int32), .ref 117, .ref 117, .ref 108, .int (100 : Int32), .int (0 : Int32)]) (h' := hp q4) rfl ?_
    obtain ⟨q5, e_q5, h⟩ := Option.bind_eq_some_iff.mp h
    refine am_Y.call0 (M' := am_M244) (as := [.ref 117, .int (14 : Int32)]) (rest := [.ref 117, .ref 108, .int (100 : Int32), .int (0 : Int32)]) (d' := 1) rfl (by omega) rfl rfl (t_p_startOf_a_117 (14 : Int32) q4 q5 e_q5) ?_
    obtain ⟨q6, e_q6, h⟩ := Option.bind_eq_some_iff.mp h
    refine am_Y.call0 (M' := am_M245) (as := [.ref 108, .ref 117, .int q5]) (rest := [.int (100 : Int32), .int (0 : Int32)]) (d' := 3) rfl (by omega) rfl rfl (t_l_run_117 N q5 q4 q6.1 q6.2 e_q6) ?_
    refine am_Y.call0 (M' := am_M242) (as := [.int (100 : Int32), .int q6.1]) (rest := [.int (0 : Int32)]) (d' := 0) rfl (by omega) rfl rfl (t_k_min0 (100 : Int32) q6.1 q6.2 _ rfl) ?_
    refine am_Y.call0 (M' := am_M246) (as := [.int (0 : Int32), .int (f_k_min0 (100 : Int32) q6.1 q6.2)]) (rest := []) (d' := 0) rfl (by omega) rfl rfl (t_k_max0 (0 : Int32) (f_k_min0 (100 : Int32) q6.1 q6.2) q6.2 _ rfl) ?_
    obtain ⟨rfl, rfl⟩ := Prod.mk.inj (Option.some.inj h)
    exact am_Y.ret rfl
set_option maxRecDepth 100000 in
theorem t_l_howLikely_108_6_a_121 {S : Nat × (Nat → Int32)} (N : Nat) (x3 : Int32) (M : Mem) (r : Int32) (M' : Mem) (h : f_l_howLikely_108_6_a N 121 x3 M = some (r, M')) : am_Y S 4 0 0 am_M234 0 [(0, .ref 108), (1, .ref 6), (2, .ref 121), (3, .int x3)] [] (hp M) (some (.int r)) (hp M') := by
  rw [f_l_howLikely_108_6_a] at h
  refine am_Y.run (k := 4) (pc' := 7) (lv' := [(0, .ref 108), (1, .ref 6), (2, .ref 121), (3, .int x3)]) (st' := [.int (14 : Int32), .ref 121]) (h' := hp M) rfl ?_
  obtain ⟨q1, e_q1, h⟩ := Option.bind_eq_some_iff.mp h
  refine am_Y.call0 (M' := am_M244) (as := [.ref 121, .int (14 : Int32)]) (rest := []) (d' := 1) rfl (by omega) rfl rfl (t_p_startOf_a_121 (14 : Int32) M q1 e_q1) ?_
  refine am_Y.run (k := 1) (pc' := 11) (lv' := [(0, .ref 108), (1, .ref 6), (2, .ref 121), (3, .int x3)]) (st' := [.int (-1 : Int32), .int q1]) (h' := hp M) rfl ?_
  refine am_Y.br (c := q1 = (-1 : Int32)) _ (t := 14) (u := 17) (lv' := [(0, .ref 108), (1, .ref 6), (2, .ref 121), (3, .int x3)]) (st' := []) (h' := hp M) rfl (fun hc => ?_) (fun hc => ?_)
  · replace h := (if_pos hc).symm.trans h
    refine am_Y.run (k := 1) (pc' := 16) (lv' := [(0, .ref 108), (1, .ref 6), (2, .ref 121), (3, .int x3)]) (st' := [.int (10 : Int32)]) (h' := hp M) rfl ?_
    obtain ⟨rfl, rfl⟩ := Prod.mk.inj (Option.some.inj h)
    exact am_Y.ret rfl
  · replace h := (if_neg hc).symm.trans h
    refine am_Y.run (k := 3) (pc' := 22) (lv' := [(0, .ref 108), (1, .ref 6), (2, .ref 121), (3, .int x3)]) (st' := [.ref 11, .ref 108]) (h' := hp M) rfl ?_
    obtain ⟨q2, e_q2, h⟩ := Option.bind_eq_some_iff.mp h
    refine am_Y.call0 (M' := am_M289) (as := [.ref 108, .ref 11]) (rest := []) (d' := 2) rfl (by omega) rfl rfl (t_l_nameEvening N M q2 e_q2) ?_
    refine am_Y.run (k := 5) (pc' := 35) (lv' := [(0, .ref 108), (1, .ref 6), (2, .ref 121), (3, .int x3)]) (st' := [.ref 11, .int (10 : Int32), .ref 109]) (h' := hp q2) rfl ?_
    refine am_Y.call0 (M' := am_M151) (as := [.ref 11]) (rest := [.int (10 : Int32), .ref 109]) (d' := 0) rfl (by omega) rfl rfl (t_e_spoken q2 _ rfl) ?_
    refine am_Y.run (k := 1) (pc' := 39) (lv' := [(0, .ref 108), (1, .ref 6), (2, .ref 121), (3, .int x3)]) (st' := []) (h' := hp (si q2 109 10 (f_e_spoken q2))) rfl ?_
    obtain ⟨q3, e_q3, h⟩ := Option.bind_eq_some_iff.mp h
    rw [Option.some.inj e_q3]
    refine am_Y.run (k := 4) (pc' := 46) (lv' := [(0, .ref 108), (1, .ref 6), (2, .ref 121), (3, .int x3)]) (st' := [.int x3, .int (11 : Int32), .ref 109]) (h' := hp q3) rfl ?_
    refine am_Y.call0 (M' := am_M259) (as := [.int x3]) (rest := [.int (11 : Int32), .ref 109]) (d' := 0) rfl (by omega) rfl rfl (t_k_bitCount x3 q3 _ rfl) ?_
    refine am_Y.run (k := 1) (pc' := 50) (lv' := [(0, .ref 108), (1, .ref 6), (2, .ref 121), (3, .int x3)]) (st' := []) (h' := hp (si q3 109 11 (f_k_bitCount x3 q3))) rfl ?_
    obtain ⟨q4, e_q4, h⟩ := Option.bind_eq_some_iff.mp h
    rw [Option.some.inj e_q4]
    refine am_Y.run (k := 6) (pc' := 58) (lv' := [(0, .ref 108), (1, .ref 6), (2, .ref 121), (3, .int x3)]) (st' := [.int (14 : Int32), .ref 121, .ref 121, .ref 108, .int (100 : Int32), .int (0 : Int32)]) (h' := hp q4) rfl ?_
    obtain ⟨q5, e_q5, h⟩ := Option.bind_eq_some_iff.mp h
    refine am_Y.call0 (M' := am_M244) (as := [.ref 121, .int (14 : Int32)]) (rest := [.ref 121, .ref 108, .int (100 : Int32), .int (0 : Int32)]) (d' := 1) rfl (by omega) rfl rfl (t_p_startOf_a_121 (14 : Int32) q4 q5 e_q5) ?_
    obtain ⟨q6, e_q6, h⟩ := Option.bind_eq_some_iff.mp h
    refine am_Y.call0 (M' := am_M245) (as := [.ref 108, .ref 121, .int q5]) (rest := [.int (100 : Int32), .int (0 : Int32)]) (d' := 3) rfl (by omega) rfl rfl (t_l_run_121 N q5 q4 q6.1 q6.2 e_q6) ?_
    refine am_Y.call0 (M' := am_M242) (as := [.int (100 : Int32), .int q6.1]) (rest := [.int (0 : Int32)]) (d' := 0) rfl (by omega) rfl rfl (t_k_min0 (100 : Int32) q6.1 q6.2 _ rfl) ?_
    refine am_Y.call0 (M' := am_M246) (as := [.int (0 : Int32), .int (f_k_min0 (100 : Int32) q6.1 q6.2)]) (rest := []) (d' := 0) rfl (by omega) rfl rfl (t_k_max0 (0 : Int32) (f_k_min0 (100 : Int32) q6.1 q6.2) q6.2 _ rfl) ?_
    obtain ⟨rfl, rfl⟩ := Prod.mk.inj (Option.some.inj h)
    exact am_Y.ret rfl
set_option maxRecDepth 100000 in
theorem t_l_howLikely_108_6_a_125 {S : Nat × (Nat → Int32)} (N : Nat) (x3 : Int32) (M : Mem) (r : Int32) (M' : Mem) (h : f_l_howLikely_108_6_a N 125 x3 M = some (r, M')) : am_Y S 4 0 0 am_M234 0 [(0, .ref 108), (1, .ref 6), (2, .ref 125), (3, .int x3)] [] (hp M) (some (.int r)) (hp M') := by
  rw [f_l_howLikely_108_6_a] at h
  refine am_Y.run (k := 4) (pc' := 7) (lv' := [(0, .ref 108), (1, .ref 6), (2, .ref 125), (3, .int x3)]) (st' := [.int (14 : Int32), .ref 125]) (h' := hp M) rfl ?_
  obtain ⟨q1, e_q1, h⟩ := Option.bind_eq_some_iff.mp h
  refine am_Y.call0 (M' := am_M244) (as := [.ref 125, .int (14 : Int32)]) (rest := []) (d' := 1) rfl (by omega) rfl rfl (t_p_startOf_a_125 (14 : Int32) M q1 e_q1) ?_
  refine am_Y.run (k := 1) (pc' := 11) (lv' := [(0, .ref 108), (1, .ref 6), (2, .ref 125), (3, .int x3)]) (st' := [.int (-1 : Int32), .int q1]) (h' := hp M) rfl ?_
  refine am_Y.br (c := q1 = (-1 : Int32)) _ (t := 14) (u := 17) (lv' := [(0, .ref 108), (1, .ref 6), (2, .ref 125), (3, .int x3)]) (st' := []) (h' := hp M) rfl (fun hc => ?_) (fun hc => ?_)
  · replace h := (if_pos hc).symm.trans h
    refine am_Y.run (k := 1) (pc' := 16) (lv' := [(0, .ref 108), (1, .ref 6), (2, .ref 125), (3, .int x3)]) (st' := [.int (10 : Int32)]) (h' := hp M) rfl ?_
    obtain ⟨rfl, rfl⟩ := Prod.mk.inj (Option.some.inj h)
    exact am_Y.ret rfl
  · replace h := (if_neg hc).symm.trans h
    refine am_Y.run (k := 3) (pc' := 22) (lv' := [(0, .ref 108), (1, .ref 6), (2, .ref 125), (3, .int x3)]) (st' := [.ref 11, .ref 108]) (h' := hp M) rfl ?_
    obtain ⟨q2, e_q2, h⟩ := Option.bind_eq_some_iff.mp h
    refine am_Y.call0 (M' := am_M289) (as := [.ref 108, .ref 11]) (rest := []) (d' := 2) rfl (by omega) rfl rfl (t_l_nameEvening N M q2 e_q2) ?_
    refine am_Y.run (k := 5) (pc' := 35) (lv' := [(0, .ref 108), (1, .ref 6), (2, .ref 125), (3, .int x3)]) (st' := [.ref 11, .int (10 : Int32), .ref 109]) (h' := hp q2) rfl ?_
    refine am_Y.call0 (M' := am_M151) (as := [.ref 11]) (rest := [.int (10 : Int32), .ref 109]) (d' := 0) rfl (by omega) rfl rfl (t_e_spoken q2 _ rfl) ?_
    refine am_Y.run (k := 1) (pc' := 39) (lv' := [(0, .ref 108), (1, .ref 6), (2, .ref 125), (3, .int x3)]) (st' := []) (h' := hp (si q2 109 10 (f_e_spoken q2))) rfl ?_
    obtain ⟨q3, e_q3, h⟩ := Option.bind_eq_some_iff.mp h
    rw [Option.some.inj e_q3]
    refine am_Y.run (k := 4) (pc' := 46) (lv' := [(0, .ref 108), (1, .ref 6), (2, .ref 125), (3, .int x3)]) (st' := [.int x3, .int (11 : Int32), .ref 109]) (h' := hp q3) rfl ?_
    refine am_Y.call0 (M' := am_M259) (as := [.int x3]) (rest := [.int (11 : Int32), .ref 109]) (d' := 0) rfl (by omega) rfl rfl (t_k_bitCount x3 q3 _ rfl) ?_
    refine am_Y.run (k := 1) (pc' := 50) (lv' := [(0, .ref 108), (1, .ref 6), (2, .ref 125), (3, .int x3)]) (st' := []) (h' := hp (si q3 109 11 (f_k_bitCount x3 q3))) rfl ?_
    obtain ⟨q4, e_q4, h⟩ := Option.bind_eq_some_iff.mp h
    rw [Option.some.inj e_q4]
    refine am_Y.run (k := 6) (pc' := 58) (lv' := [(0, .ref 108), (1, .ref 6), (2, .ref 125), (3, .int x3)]) (st' := [.int (14 : Int32), .ref 125, .ref 125, .ref 108, .int (100 : Int32), .int (0 : Int32)]) (h' := hp q4) rfl ?_
    obtain ⟨q5, e_q5, h⟩ := Option.bind_eq_some_iff.mp h
    refine am_Y.call0 (M' := am_M244) (as := [.ref 125, .int (14 : Int32)]) (rest := [.ref 125, .ref 108, .int (100 : Int32), .int (0 : Int32)]) (d' := 1) rfl (by omega) rfl rfl (t_p_startOf_a_125 (14 : Int32) q4 q5 e_q5) ?_
    obtain ⟨q6, e_q6, h⟩ := Option.bind_eq_some_iff.mp h
    refine am_Y.call0 (M' := am_M245) (as := [.ref 108, .ref 125, .int q5]) (rest := [.int (100 : Int32), .int (0 : Int32)]) (d' := 3) rfl (by omega) rfl rfl (t_l_run_125 N q5 q4 q6.1 q6.2 e_q6) ?_
    refine am_Y.call0 (M' := am_M242) (as := [.int (100 : Int32), .int q6.1]) (rest := [.int (0 : Int32)]) (d' := 0) rfl (by omega) rfl rfl (t_k_min0 (100 : Int32) q6.1 q6.2 _ rfl) ?_
    refine am_Y.call0 (M' := am_M246) (as := [.int (0 : Int32), .int (f_k_min0 (100 : Int32) q6.1 q6.2)]) (rest := []) (d' := 0) rfl (by omega) rfl rfl (t_k_max0 (0 : Int32) (f_k_min0 (100 : Int32) q6.1 q6.2) q6.2 _ rfl) ?_
    obtain ⟨rfl, rfl⟩ := Prod.mk.inj (Option.some.inj h)
    exact am_Y.ret rfl
set_option maxRecDepth 100000 in
theorem t_w_endDinner {S : Nat × (Nat → Int32)} (N : Nat) (M : Mem) (r : Int32) (M' : Mem) (h : f_w_endDinner N M = some (r, M')) : am_Y S 5 0 0 am_M130 0 [(0, .ref 5)] [] (hp M) (some (.int r)) (hp M') := by
  rw [f_w_endDinner] at h
  refine am_Y.run (k := 3) (pc' := 7) (lv' := [(0, .ref 5)]) (st' := [.ref 11]) (h' := hp M) rfl ?_
  obtain ⟨q1, e_q1, h⟩ := Option.bind_eq_some_iff.mp h
  refine am_Y.call0 (M' := am_M147) (as := [.ref 11]) (rest := []) (d' := 2) rfl (by omega) rfl rfl (t_e_wouldHold N M q1 e_q1) ?_
  refine am_Y.run (k := 9) (pc' := 27) (lv' := [(1, .int q1), (0, .ref 5)]) (st' := [.int (gi M 6 5), .ref 5, .ref 6, .ref 108]) (h' := hp M) rfl ?_
  cases hs : w_scr (gi M 6 5) with
  | none =>
    rw [hs] at h
    refine am_Y.call0 (M' := am_M110) (as := [.ref 5, .int (gi M 6 5)]) (rest := [.ref 6, .ref 108]) (d' := 1) rfl (by omega) rfl rfl (t_w_scriptAt_n (gi M 6 5) M hs) ?_
    refine am_Y.run (k := 1) (pc' := 31) (lv' := [(1, .int q1), (0, .ref 5)]) (st' := [.int q1, .null, .ref 6, .ref 108]) (h' := hp M) rfl ?_
    refine am_Y.call0 (M' := am_M234) (as := [.ref 108, .ref 6, .null, .int q1]) (rest := []) (d' := 0) rfl (by omega) rfl rfl (t_l_howLikely_108_6_null q1 M (10 : Int32) rfl) ?_
    refine am_Y.run (k := 6) (pc' := 44) (lv' := [(2, .int (10 : Int32)), (1, .int q1), (0, .ref 5)]) (st' := [.int (10 : Int32), .int q1, .ref 11]) (h' := hp M) rfl ?_
    obtain ⟨q2, e_q2, h⟩ := Option.bind_eq_some_iff.mp h
    refine am_Y.call0 (M' := am_M235) (as := [.ref 11, .int q1, .int (10 : Int32)]) (rest := []) (d' := 1) rfl (by omega) rfl rfl (t_e_close q1 (10 : Int32) M q2 e_q2) ?_
    refine am_Y.run (k := 1) (pc' := 48) (lv' := [(2, .int (10 : Int32)), (1, .int q1), (0, .ref 5)]) (st' := [.int q1]) (h' := hp q2) rfl ?_
    obtain ⟨rfl, rfl⟩ := Prod.mk.inj (Option.some.inj h)
    exact am_Y.ret rfl
  | some a =>
    rw [hs] at h
    rcases w_scr_cases hs with rfl | rfl | rfl | rfl
    · refine am_Y.call0 (M' := am_M110) (as := [.ref 5, .int (gi M 6 5)]) (rest := [.ref 6, .ref 108]) (d' := 1) rfl (by omega) rfl rfl (t_w_scriptAt_s (gi M 6 5) M hs) ?_
      refine am_Y.run (k := 1) (pc' := 31) (lv' := [(1, .int q1), (0, .ref 5)]) (st' := [.int q1, .ref 113, .ref 6, .ref 108]) (h' := hp M) rfl ?_
      obtain ⟨q3, e_q3, h⟩ := Option.bind_eq_some_iff.mp h
      refine am_Y.call0 (M' := am_M234) (as := [.ref 108, .ref 6, .ref 113, .int q1]) (rest := []) (d' := 4) rfl (by omega) rfl rfl (t_l_howLikely_108_6_a_113 N q1 M q3.1 q3.2 e_q3) ?_
      refine am_Y.run (k := 6) (pc' := 44) (lv' := [(2, .int q3.1), (1, .int q1), (0, .ref 5)]) (st' := [.int q3.1, .int q1, .ref 11]) (h' := hp q3.2) rfl ?_
      obtain ⟨q4, e_q4, h⟩ := Option.bind_eq_some_iff.mp h
      refine am_Y.call0 (M' := am_M235) (as := [.ref 11, .int q1, .int q3.1]) (rest := []) (d' := 1) rfl (by omega) rfl rfl (t_e_close q1 q3.1 q3.2 q4 e_q4) ?_
      refine am_Y.run (k := 1) (pc' := 48) (lv' := [(2, .int q3.1), (1, .int q1), (0, .ref 5)]) (st' := [.int q1]) (h' := hp q4) rfl ?_
      obtain ⟨rfl, rfl⟩ := Prod.mk.inj (Option.some.inj h)
      exact am_Y.ret rfl
    · refine am_Y.call0 (M' := am_M110) (as := [.ref 5, .int (gi M 6 5)]) (rest := [.ref 6, .ref 108]) (d' := 1) rfl (by omega) rfl rfl (t_w_scriptAt_s (gi M 6 5) M hs) ?_
      refine am_Y.run (k := 1) (pc' := 31) (lv' := [(1, .int q1), (0, .ref 5)]) (st' := [.int q1, .ref 117, .ref 6, .ref 108]) (h' := hp M) rfl ?_
      obtain ⟨q3, e_q3, h⟩ := Option.bind_eq_some_iff.mp h
      refine am_Y.call0 (M' := am_M234) (as := [.ref 108, .ref 6, .ref 117, .int q1]) (rest := []) (d' := 4) rfl (by omega) rfl rfl (t_l_howLikely_108_6_a_117 N q1 M q3.1 q3.2 e_q3) ?_
      refine am_Y.run (k := 6) (pc' := 44) (lv' := [(2, .int q3.1), (1, .int q1), (0, .ref 5)]) (st' := [.int q3.1, .int q1, .ref 11]) (h' := hp q3.2) rfl ?_
      obtain ⟨q4, e_q4, h⟩ := Option.bind_eq_some_iff.mp h
      refine am_Y.call0 (M' := am_M235) (as := [.ref 11, .int q1, .int q3.1]) (rest := []) (d' := 1) rfl (by omega) rfl rfl (t_e_close q1 q3.1 q3.2 q4 e_q4) ?_
      refine am_Y.run (k := 1) (pc' := 48) (lv' := [(2, .int q3.1), (1, .int q1), (0, .ref 5)]) (st' := [.int q1]) (h' := hp q4) rfl ?_
      obtain ⟨rfl, rfl⟩ := Prod.mk.inj (Option.some.inj h)
      exact am_Y.ret rfl
    · refine am_Y.call0 (M' := am_M110) (as := [.ref 5, .int (gi M 6 5)]) (rest := [.ref 6, .ref 108]) (d' := 1) rfl (by omega) rfl rfl (t_w_scriptAt_s (gi M 6 5) M hs) ?_
      refine am_Y.run (k := 1) (pc' := 31) (lv' := [(1, .int q1), (0, .ref 5)]) (st' := [.int q1, .ref 121, .ref 6, .ref 108]) (h' := hp M) rfl ?_
      obtain ⟨q3, e_q3, h⟩ := Option.bind_eq_some_iff.mp h
      refine am_Y.call0 (M' := am_M234) (as := [.ref 108, .ref 6, .ref 121, .int q1]) (rest := []) (d' := 4) rfl (by omega) rfl rfl (t_l_howLikely_108_6_a_121 N q1 M q3.1 q3.2 e_q3) ?_
      refine am_Y.run (k := 6) (pc' := 44) (lv' := [(2, .int q3.1), (1, .int q1), (0, .ref 5)]) (st' := [.int q3.1, .int q1, .ref 11]) (h' := hp q3.2) rfl ?_
      obtain ⟨q4, e_q4, h⟩ := Option.bind_eq_some_iff.mp h
      refine am_Y.call0 (M' := am_M235) (as := [.ref 11, .int q1, .int q3.1]) (rest := []) (d' := 1) rfl (by omega) rfl rfl (t_e_close q1 q3.1 q3.2 q4 e_q4) ?_
      refine am_Y.run (k := 1) (pc' := 48) (lv' := [(2, .int q3.1), (1, .int q1), (0, .ref 5)]) (st' := [.int q1]) (h' := hp q4) rfl ?_
      obtain ⟨rfl, rfl⟩ := Prod.mk.inj (Option.some.inj h)
      exact am_Y.ret rfl
    · refine am_Y.call0 (M' := am_M110) (as := [.ref 5, .int (gi M 6 5)]) (rest := [.ref 6, .ref 108]) (d' := 1) rfl (by omega) rfl rfl (t_w_scriptAt_s (gi M 6 5) M hs) ?_
      refine am_Y.run (k := 1) (pc' := 31) (lv' := [(1, .int q1), (0, .ref 5)]) (st' := [.int q1, .ref 125, .ref 6, .ref 108]) (h' := hp M) rfl ?_
      obtain ⟨q3, e_q3, h⟩ := Option.bind_eq_some_iff.mp h
      refine am_Y.call0 (M' := am_M234) (as := [.ref 108, .ref 6, .ref 125, .int q1]) (rest := []) (d' := 4) rfl (by omega) rfl rfl (t_l_howLikely_108_6_a_125 N q1 M q3.1 q3.2 e_q3) ?_
      refine am_Y.run (k := 6) (pc' := 44) (lv' := [(2, .int q3.1), (1, .int q1), (0, .ref 5)]) (st' := [.int q3.1, .int q1, .ref 11]) (h' := hp q3.2) rfl ?_
      obtain ⟨q4, e_q4, h⟩ := Option.bind_eq_some_iff.mp h
      refine am_Y.call0 (M' := am_M235) (as := [.ref 11, .int q1, .int q3.1]) (rest := []) (d' := 1) rfl (by omega) rfl rfl (t_e_close q1 q3.1 q3.2 q4 e_q4) ?_
      refine am_Y.run (k := 1) (pc' := 48) (lv' := [(2, .int q3.1), (1, .int q1), (0, .ref 5)]) (st' := [.int q1]) (h' := hp q4) rfl ?_
      obtain ⟨rfl, rfl⟩ := Prod.mk.inj (Option.some.inj h)
      exact am_Y.ret rfl
set_option maxRecDepth 100000 in
theorem t_w_dinner {S : Nat × (Nat → Int32)} (N : Nat) (M : Mem) (r : Int32) (M' : Mem) (h : f_w_dinner N M = some (r, M')) : am_Y S 6 0 0 am_M22 0 [(0, .ref 5)] [] (hp M) (some (.int r)) (hp M') := by
  rw [f_w_dinner] at h
  refine am_Y.run (k := 3) (pc' := 7) (lv' := [(0, .ref 5)]) (st' := [.ref 11]) (h' := hp M) rfl ?_
  refine am_Y.call0 (M' := am_M129) (as := [.ref 11]) (rest := []) (d' := 0) rfl (by omega) rfl rfl (t_e_night M _ rfl) ?_
  refine am_Y.run (k := 1) (pc' := 13) (lv' := [(0, .ref 5)]) (st' := [.int (999 : Int32), .int (f_e_night M)]) (h' := hp M) rfl ?_
  refine am_Y.br (c := (f_e_night M) < (999 : Int32)) _ (t := 18) (u := 16) (lv' := [(0, .ref 5)]) (st' := []) (h' := hp M) rfl (fun hc => ?_) (fun hc => ?_)
  · replace h := (if_pos hc).symm.trans h
    refine am_Y.run (k := 2) (pc' := 22) (lv' := [(0, .ref 5)]) (st' := [.ref 6]) (h' := hp M) rfl ?_
    obtain ⟨q1, e_q1, h⟩ := Option.bind_eq_some_iff.mp h
    refine am_Y.call0 (M' := am_M120) (as := [.ref 6]) (rest := []) (d' := 2) rfl (by omega) rfl rfl (t_t_keepStep M q1 e_q1) ?_
    refine am_Y.run (k := 1) (pc' := 26) (lv' := [(0, .ref 5)]) (st' := [.ref 5]) (h' := hp q1) rfl ?_
    obtain ⟨q2, e_q2, h⟩ := Option.bind_eq_some_iff.mp h
    refine am_Y.call0 (M' := am_M130) (as := [.ref 5]) (rest := []) (d' := 5) rfl (by omega) rfl rfl (t_w_endDinner N q1 q2.1 q2.2 e_q2) ?_
    obtain ⟨rfl, rfl⟩ := Prod.mk.inj (Option.some.inj h)
    exact am_Y.ret rfl
  · replace h := (if_neg hc).symm.trans h
    refine am_Y.run (k := 1) (pc' := 17) (lv' := [(0, .ref 5)]) (st' := [.int (-1 : Int32)]) (h' := hp M) rfl ?_
    obtain ⟨rfl, rfl⟩ := Prod.mk.inj (Option.some.inj h)
    exact am_Y.ret rfl
set_option maxRecDepth 100000 in
theorem t_m_wouldHold {S : Nat × (Nat → Int32)} (N : Nat) (M : Mem) (r : Int32) (M' : Mem) (h : f_m_wouldHold N M = some (r, M')) : am_Y S 2 0 0 am_M149 0 [(0, .ref 129)] [] (hp M) (some (.int r)) (hp M') := by
  rw [f_m_wouldHold] at h
  refine am_Y.run (k := 2) (pc' := 4) (lv' := [(0, .ref 129)]) (st' := [.int (5000 : Int32), .ref 129]) (h' := hp M) rfl ?_
  obtain ⟨q1, e_q1, h⟩ := Option.bind_eq_some_iff.mp h
  refine am_Y.call0 (M' := am_M196) (as := [.ref 129, .int (5000 : Int32)]) (rest := []) (d' := 1) rfl (by omega) rfl rfl (t_m_holdBy N (5000 : Int32) M q1.1 q1.2 e_q1) ?_
  obtain ⟨rfl, rfl⟩ := Prod.mk.inj (Option.some.inj h)
  exact am_Y.ret rfl
set_option maxRecDepth 100000 in
theorem t_m_diesNow {S : Nat × (Nat → Int32)} (N : Nat) (M : Mem) (r : Int32) (M' : Mem) (h : f_m_diesNow N M = some (r, M')) : am_Y S 4 0 0 am_M236 0 [(0, .ref 129)] [] (hp M) (some (.int r)) (hp M') := by
  rw [f_m_diesNow] at h
  refine am_Y.run (k := 8) (pc' := 12) (lv' := [(0, .ref 129)]) (st' := []) (h' := hp (si M 138 0 (gi M 130 1))) rfl ?_
  obtain ⟨q1, e_q1, h⟩ := Option.bind_eq_some_iff.mp h
  rw [Option.some.inj e_q1]
  refine am_Y.run (k := 8) (pc' := 24) (lv' := [(0, .ref 129)]) (st' := []) (h' := hp (si q1 138 1 (gi q1 130 2))) rfl ?_
  obtain ⟨q2, e_q2, h⟩ := Option.bind_eq_some_iff.mp h
  rw [Option.some.inj e_q2]
  refine am_Y.run (k := 8) (pc' := 36) (lv' := [(0, .ref 129)]) (st' := []) (h' := hp (si q2 138 2 (gi q2 130 3))) rfl ?_
  obtain ⟨q3, e_q3, h⟩ := Option.bind_eq_some_iff.mp h
  rw [Option.some.inj e_q3]
  refine am_Y.run (k := 8) (pc' := 50) (lv' := [(0, .ref 129)]) (st' := []) (h' := hp (si q3 138 10 (gi q3 130 8))) rfl ?_
  obtain ⟨q4, e_q4, h⟩ := Option.bind_eq_some_iff.mp h
  rw [Option.some.inj e_q4]
  refine am_Y.run (k := 4) (pc' := 57) (lv' := [(0, .ref 129)]) (st' := [.ref 129, .int (11 : Int32), .ref 138]) (h' := hp q4) rfl ?_
  obtain ⟨q5, e_q5, h⟩ := Option.bind_eq_some_iff.mp h
  refine am_Y.call0 (M' := am_M149) (as := [.ref 129]) (rest := [.int (11 : Int32), .ref 138]) (d' := 2) rfl (by omega) rfl rfl (t_m_wouldHold N q4 q5.1 q5.2 e_q5) ?_
  obtain ⟨q6, e_q6, h⟩ := Option.bind_eq_some_iff.mp h
  refine am_Y.call0 (M' := am_M177) (as := [.int q5.1]) (rest := [.int (11 : Int32), .ref 138]) (d' := 0) rfl (by omega) rfl rfl (t_m_bits N q5.1 q5.2 q6 e_q6) ?_
  refine am_Y.run (k := 1) (pc' := 64) (lv' := [(0, .ref 129)]) (st' := []) (h' := hp (si q5.2 138 11 q6)) rfl ?_
  obtain ⟨q7, e_q7, h⟩ := Option.bind_eq_some_iff.mp h
  rw [Option.some.inj e_q7]
  refine am_Y.run (k := 4) (pc' := 70) (lv' := [(0, .ref 129)]) (st' := [.int (100 : Int32), .int (10 : Int32), .int (2 : Int32), .ref 129]) (h' := hp q7) rfl ?_
  obtain ⟨q8, e_q8, h⟩ := Option.bind_eq_some_iff.mp h
  refine am_Y.call0 (M' := am_M249) (as := [.ref 129, .int (2 : Int32), .int (10 : Int32), .int (100 : Int32)]) (rest := []) (d' := 3) rfl (by omega) rfl rfl (t_m_says N (2 : Int32) (10 : Int32) (100 : Int32) q7 q8.1 q8.2 e_q8) ?_
  obtain ⟨rfl, rfl⟩ := Prod.mk.inj (Option.some.inj h)
  exact am_Y.ret rfl
set_option maxRecDepth 100000 in
theorem t_m_endNow_91 {S : Nat × (Nat → Int32)} (N : Nat) : ∀ (n : Nat) (x1 : Int32) (x2 : Int32) (M : Mem) (r : Int32) (M' : Mem), f_m_endNow_91 N n x1 x2 M = some (r, M') → am_Y S 5 0 0 am_M131 91 [(0, .ref 129), (1, .int x1), (2, .int x2)] [] (hp M) (some (.int r)) (hp M') := by
  intro n
  induction n with
  | zero =>
    intro x1 x2 M r M' h
    cases h
  | succ n ih =>
    intro x1 x2 M r M' h
    rw [f_m_endNow_91] at h
    refine am_Y.run (k := 5) (pc' := 98) (lv' := [(0, .ref 129), (1, .int x1), (2, .int x2)]) (st' := [.int (gi M 130 0), .int x2]) (h' := hp M) rfl ?_
    refine am_Y.br (c := (gi M 130 0) ≤ x2) _ (t := 112) (u := 101) (lv' := [(0, .ref 129), (1, .int x1), (2, .int x2)]) (st' := []) (h' := hp M) rfl (fun hc => ?_) (fun hc => ?_)
    · replace h := (if_pos hc).symm.trans h
      refine am_Y.run (k := 1) (pc' := 113) (lv' := [(0, .ref 129), (1, .int x1), (2, .int x2)]) (st' := [.int x1]) (h' := hp M) rfl ?_
      obtain ⟨rfl, rfl⟩ := Prod.mk.inj (Option.some.inj h)
      exact am_Y.ret rfl
    · replace h := (if_neg hc).symm.trans h
      refine am_Y.run (k := 2) (pc' := 103) (lv' := [(0, .ref 129), (1, .int x1), (2, .int x2)]) (st' := [.int x2, .ref 129]) (h' := hp M) rfl ?_
      obtain ⟨q9, e_q9, h⟩ := Option.bind_eq_some_iff.mp h
      refine am_Y.call0 (M' := am_M106) (as := [.ref 129, .int x2]) (rest := []) (d' := 1) rfl (by omega) rfl rfl (t_m_sit x2 M q9 e_q9) ?_
      refine am_Y.run (k := 2) (pc' := 91) (lv' := [(2, .int (x2 + (1 : Int32))), (0, .ref 129), (1, .int x1)]) (st' := []) (h' := hp q9) rfl ?_
      refine am_Y.weak (lv2 := [(0, .ref 129), (1, .int x1), (2, .int (x2 + (1 : Int32)))]) rfl rfl ⟨rfl, rfl, rfl, trivial⟩ ?_
      exact ih x1 (x2 + (1 : Int32)) q9 _ _ h
set_option maxRecDepth 100000 in
theorem t_m_endNow {S : Nat × (Nat → Int32)} (N : Nat) (M : Mem) (r : Int32) (M' : Mem) (h : f_m_endNow N M = some (r, M')) : am_Y S 5 0 0 am_M131 0 [(0, .ref 129)] [] (hp M) (some (.int r)) (hp M') := by
  rw [f_m_endNow] at h
  refine am_Y.run (k := 1) (pc' := 1) (lv' := [(0, .ref 129)]) (st' := [.ref 129]) (h' := hp M) rfl ?_
  obtain ⟨q1, e_q1, h⟩ := Option.bind_eq_some_iff.mp h
  refine am_Y.call0 (M' := am_M149) (as := [.ref 129]) (rest := []) (d' := 2) rfl (by omega) rfl rfl (t_m_wouldHold N M q1.1 q1.2 e_q1) ?_
  refine am_Y.run (k := 22) (pc' := 41) (lv' := [(1, .int q1.1), (0, .ref 129)]) (st' := [.ref 129, .int ((((gi q1.2 130 1) * (256 : Int32)) + q1.1) * (128 : Int32)), .int ((2526 : Int32) + ((gi q1.2 130 9) - (gi q1.2 130 9) / (1300 : Int32) * (1300 : Int32))), .ref 130]) (h' := hp q1.2) rfl ?_
  obtain ⟨q2, e_q2, h⟩ := Option.bind_eq_some_iff.mp h
  refine am_Y.call0 (M' := am_M236) (as := [.ref 129]) (rest := [.int ((((gi q1.2 130 1) * (256 : Int32)) + q1.1) * (128 : Int32)), .int ((2526 : Int32) + ((gi q1.2 130 9) - (gi q1.2 130 9) / (1300 : Int32) * (1300 : Int32))), .ref 130]) (d' := 4) rfl (by omega) rfl rfl (t_m_diesNow N q1.2 q2.1 q2.2 e_q2) ?_
  refine am_Y.run (k := 1) (pc' := 45) (lv' := [(1, .int q1.1), (0, .ref 129)]) (st' := [.int (((((gi q1.2 130 1) * (256 : Int32)) + q1.1) * (128 : Int32)) + q2.1), .int ((2526 : Int32) + ((gi q1.2 130 9) - (gi q1.2 130 9) / (1300 : Int32) * (1300 : Int32))), .ref 130]) (h' := hp q2.2) rfl ?_
  obtain ⟨g, h⟩ := am_itg h
  refine am_Y.iast (a := 125) (n := 3826) rfl rfl g ?_
  refine am_Y.run (k := 0) (pc' := _) (lv' := [(1, .int q1.1), (0, .ref 129)]) (st' := []) (h' := hp (si q2.2 130 (((2526 : Int32) + ((gi q1.2 130 9) - (gi q1.2 130 9) / (1300 : Int32) * (1300 : Int32)))).toNatClampNeg (((((gi q1.2 130 1) * (256 : Int32)) + q1.1) * (128 : Int32)) + q2.1))) rfl ?_
  obtain ⟨q3, e_q3, h⟩ := Option.bind_eq_some_iff.mp h
  rw [Option.some.inj e_q3]
  refine am_Y.run (k := 8) (pc' := 57) (lv' := [(1, .int q1.1), (0, .ref 129)]) (st' := []) (h' := hp (si q3 130 9 ((gi q3 130 9) + (1 : Int32)))) rfl ?_
  obtain ⟨q4, e_q4, h⟩ := Option.bind_eq_some_iff.mp h
  rw [Option.some.inj e_q4]
  refine am_Y.run (k := 8) (pc' := 67) (lv' := [(1, .int q1.1), (0, .ref 129)]) (st' := []) (h' := hp (si q4 130 1 ((gi q4 130 1) + (1 : Int32)))) rfl ?_
  obtain ⟨q5, e_q5, h⟩ := Option.bind_eq_some_iff.mp h
  rw [Option.some.inj e_q5]
  refine am_Y.run (k := 5) (pc' := 74) (lv' := [(1, .int q1.1), (0, .ref 129)]) (st' := []) (h' := hp (si q5 130 2 (0 : Int32))) rfl ?_
  obtain ⟨q6, e_q6, h⟩ := Option.bind_eq_some_iff.mp h
  rw [Option.some.inj e_q6]
  refine am_Y.run (k := 5) (pc' := 81) (lv' := [(1, .int q1.1), (0, .ref 129)]) (st' := []) (h' := hp (si q6 130 3 (0 : Int32))) rfl ?_
  obtain ⟨q7, e_q7, h⟩ := Option.bind_eq_some_iff.mp h
  rw [Option.some.inj e_q7]
  refine am_Y.run (k := 5) (pc' := 89) (lv' := [(1, .int q1.1), (0, .ref 129)]) (st' := []) (h' := hp (si q7 130 8 (0 : Int32))) rfl ?_
  obtain ⟨q8, e_q8, h⟩ := Option.bind_eq_some_iff.mp h
  rw [Option.some.inj e_q8]
  refine am_Y.run (k := 2) (pc' := 91) (lv' := [(2, .int (0 : Int32)), (1, .int q1.1), (0, .ref 129)]) (st' := []) (h' := hp q8) rfl ?_
  refine am_Y.weak (lv2 := [(0, .ref 129), (1, .int q1.1), (2, .int (0 : Int32))]) rfl rfl ⟨rfl, rfl, rfl, trivial⟩ ?_
  exact t_m_endNow_91 N N q1.1 (0 : Int32) q8 _ _ h
set_option maxRecDepth 100000 in
theorem t_m_dinner {S : Nat × (Nat → Int32)} (N : Nat) (M : Mem) (r : Int32) (M' : Mem) (h : f_m_dinner N M = some (r, M')) : am_Y S 6 0 0 am_M23 0 [(0, .ref 129)] [] (hp M) (some (.int r)) (hp M') := by
  rw [f_m_dinner] at h
  refine am_Y.run (k := 5) (pc' := 9) (lv' := [(0, .ref 129)]) (st' := [.int (999 : Int32), .int (gi M 130 1)]) (h' := hp M) rfl ?_
  refine am_Y.br (c := (gi M 130 1) = (999 : Int32)) _ (t := 12) (u := 14) (lv' := [(0, .ref 129)]) (st' := []) (h' := hp M) rfl (fun hc => ?_) (fun hc => ?_)
  · replace h := (if_pos hc).symm.trans h
    refine am_Y.run (k := 1) (pc' := 13) (lv' := [(0, .ref 129)]) (st' := [.int (-1 : Int32)]) (h' := hp M) rfl ?_
    obtain ⟨rfl, rfl⟩ := Prod.mk.inj (Option.some.inj h)
    exact am_Y.ret rfl
  · replace h := (if_neg hc).symm.trans h
    refine am_Y.run (k := 1) (pc' := 15) (lv' := [(0, .ref 129)]) (st' := [.ref 129]) (h' := hp M) rfl ?_
    obtain ⟨q1, e_q1, h⟩ := Option.bind_eq_some_iff.mp h
    refine am_Y.call0 (M' := am_M117) (as := [.ref 129]) (rest := []) (d' := 1) rfl (by omega) rfl rfl (t_m_keep N M q1 e_q1) ?_
    refine am_Y.run (k := 1) (pc' := 19) (lv' := [(0, .ref 129)]) (st' := [.ref 129]) (h' := hp q1) rfl ?_
    obtain ⟨q2, e_q2, h⟩ := Option.bind_eq_some_iff.mp h
    refine am_Y.call0 (M' := am_M131) (as := [.ref 129]) (rest := []) (d' := 5) rfl (by omega) rfl rfl (t_m_endNow N q1 q2.1 q2.2 e_q2) ?_
    obtain ⟨rfl, rfl⟩ := Prod.mk.inj (Option.some.inj h)
    exact am_Y.ret rfl
set_option maxRecDepth 100000 in
theorem t_p_clauseAt_113 {S : Nat × (Nat → Int32)} (x1 : Int32) (M : Mem) (r : Int32) (h : f_p_clauseAt 113 x1 M = some r) : am_Y S 1 0 0 am_M132 0 [(0, .ref 113), (1, .int x1)] [] (hp M) (some (.int r)) (hp M) := by
  rw [f_p_clauseAt] at h
  refine am_Y.run (k := 3) (pc' := 4) (lv' := [(0, .ref 113), (1, .int x1)]) (st' := [.int (23 : Int32), .int (0 : Int32), .int x1]) (h' := hp M) rfl ?_
  refine am_Y.call0 (M' := am_M102) (as := [.int x1, .int (0 : Int32), .int (23 : Int32)]) (rest := []) (d' := 0) rfl (by omega) rfl rfl (t_w_within x1 (0 : Int32) (23 : Int32) M _ rfl) ?_
  refine am_Y.br (c := (f_w_within x1 (0 : Int32) (23 : Int32) M) = (0 : Int32)) _ (t := 19) (u := 10) (lv' := [(0, .ref 113), (1, .int x1)]) (st' := []) (h' := hp M) rfl (fun hc => ?_) (fun hc => ?_)
  · replace h := (if_pos hc).symm.trans h
    refine am_Y.run (k := 1) (pc' := 21) (lv' := [(0, .ref 113), (1, .int x1)]) (st' := [.int (12 : Int32)]) (h' := hp M) rfl ?_
    obtain rfl := Option.some.inj h
    exact am_Y.ret rfl
  · replace h := (if_neg hc).symm.trans h
    refine am_Y.run (k := 3) (pc' := 15) (lv' := [(0, .ref 113), (1, .int x1)]) (st' := [.int x1, .ref (113 + 2)]) (h' := hp M) rfl ?_
    obtain ⟨g, h⟩ := am_itg h
    refine am_Y.iald (a := 110) (n := 24) rfl rfl g ?_
    refine am_Y.run (k := 1) (pc' := 21) (lv' := [(0, .ref 113), (1, .int x1)]) (st' := [.int (gi M (113 + 2) (x1).toNatClampNeg)]) (h' := hp M) rfl ?_
    obtain rfl := Option.some.inj h
    exact am_Y.ret rfl
set_option maxRecDepth 100000 in
theorem t_p_clauseAt_117 {S : Nat × (Nat → Int32)} (x1 : Int32) (M : Mem) (r : Int32) (h : f_p_clauseAt 117 x1 M = some r) : am_Y S 1 0 0 am_M132 0 [(0, .ref 117), (1, .int x1)] [] (hp M) (some (.int r)) (hp M) := by
  rw [f_p_clauseAt] at h
  refine am_Y.run (k := 3) (pc' := 4) (lv' := [(0, .ref 117), (1, .int x1)]) (st' := [.int (23 : Int32), .int (0 : Int32), .int x1]) (h' := hp M) rfl ?_
  refine am_Y.call0 (M' := am_M102) (as := [.int x1, .int (0 : Int32), .int (23 : Int32)]) (rest := []) (d' := 0) rfl (by omega) rfl rfl (t_w_within x1 (0 : Int32) (23 : Int32) M _ rfl) ?_
  refine am_Y.br (c := (f_w_within x1 (0 : Int32) (23 : Int32) M) = (0 : Int32)) _ (t := 19) (u := 10) (lv' := [(0, .ref 117), (1, .int x1)]) (st' := []) (h' := hp M) rfl (fun hc => ?_) (fun hc => ?_)
  · replace h := (if_pos hc).symm.trans h
    refine am_Y.run (k := 1) (pc' := 21) (lv' := [(0, .ref 117), (1, .int x1)]) (st' := [.int (12 : Int32)]) (h' := hp M) rfl ?_
    obtain rfl := Option.some.inj h
    exact am_Y.ret rfl
  · replace h := (if_neg hc).symm.trans h
    refine am_Y.run (k := 3) (pc' := 15) (lv' := [(0, .ref 117), (1, .int x1)]) (st' := [.int x1, .ref (117 + 2)]) (h' := hp M) rfl ?_
    obtain ⟨g, h⟩ := am_itg h
    refine am_Y.iald (a := 114) (n := 24) rfl rfl g ?_
    refine am_Y.run (k := 1) (pc' := 21) (lv' := [(0, .ref 117), (1, .int x1)]) (st' := [.int (gi M (117 + 2) (x1).toNatClampNeg)]) (h' := hp M) rfl ?_
    obtain rfl := Option.some.inj h
    exact am_Y.ret rfl
set_option maxRecDepth 100000 in
theorem t_p_clauseAt_121 {S : Nat × (Nat → Int32)} (x1 : Int32) (M : Mem) (r : Int32) (h : f_p_clauseAt 121 x1 M = some r) : am_Y S 1 0 0 am_M132 0 [(0, .ref 121), (1, .int x1)] [] (hp M) (some (.int r)) (hp M) := by
  rw [f_p_clauseAt] at h
  refine am_Y.run (k := 3) (pc' := 4) (lv' := [(0, .ref 121), (1, .int x1)]) (st' := [.int (23 : Int32), .int (0 : Int32), .int x1]) (h' := hp M) rfl ?_
  refine am_Y.call0 (M' := am_M102) (as := [.int x1, .int (0 : Int32), .int (23 : Int32)]) (rest := []) (d' := 0) rfl (by omega) rfl rfl (t_w_within x1 (0 : Int32) (23 : Int32) M _ rfl) ?_
  refine am_Y.br (c := (f_w_within x1 (0 : Int32) (23 : Int32) M) = (0 : Int32)) _ (t := 19) (u := 10) (lv' := [(0, .ref 121), (1, .int x1)]) (st' := []) (h' := hp M) rfl (fun hc => ?_) (fun hc => ?_)
  · replace h := (if_pos hc).symm.trans h
    refine am_Y.run (k := 1) (pc' := 21) (lv' := [(0, .ref 121), (1, .int x1)]) (st' := [.int (12 : Int32)]) (h' := hp M) rfl ?_
    obtain rfl := Option.some.inj h
    exact am_Y.ret rfl
  · replace h := (if_neg hc).symm.trans h
    refine am_Y.run (k := 3) (pc' := 15) (lv' := [(0, .ref 121), (1, .int x1)]) (st' := [.int x1, .ref (121 + 2)]) (h' := hp M) rfl ?_
    obtain ⟨g, h⟩ := am_itg h
    refine am_Y.iald (a := 118) (n := 24) rfl rfl g ?_
    refine am_Y.run (k := 1) (pc' := 21) (lv' := [(0, .ref 121), (1, .int x1)]) (st' := [.int (gi M (121 + 2) (x1).toNatClampNeg)]) (h' := hp M) rfl ?_
    obtain rfl := Option.some.inj h
    exact am_Y.ret rfl
set_option maxRecDepth 100000 in
theorem t_p_clauseAt_125 {S : Nat × (Nat → Int32)} (x1 : Int32) (M : Mem) (r : Int32) (h : f_p_clauseAt 125 x1 M = some r) : am_Y S 1 0 0 am_M132 0 [(0, .ref 125), (1, .int x1)] [] (hp M) (some (.int r)) (hp M) := by
  rw [f_p_clauseAt] at h
  refine am_Y.run (k := 3) (pc' := 4) (lv' := [(0, .ref 125), (1, .int x1)]) (st' := [.int (23 : Int32), .int (0 : Int32), .int x1]) (h' := hp M) rfl ?_
  refine am_Y.call0 (M' := am_M102) (as := [.int x1, .int (0 : Int32), .int (23 : Int32)]) (rest := []) (d' := 0) rfl (by omega) rfl rfl (t_w_within x1 (0 : Int32) (23 : Int32) M _ rfl) ?_
  refine am_Y.br (c := (f_w_within x1 (0 : Int32) (23 : Int32) M) = (0 : Int32)) _ (t := 19) (u := 10) (lv' := [(0, .ref 125), (1, .int x1)]) (st' := []) (h' := hp M) rfl (fun hc => ?_) (fun hc => ?_)
  · replace h := (if_pos hc).symm.trans h
    refine am_Y.run (k := 1) (pc' := 21) (lv' := [(0, .ref 125), (1, .int x1)]) (st' := [.int (12 : Int32)]) (h' := hp M) rfl ?_
    obtain rfl := Option.some.inj h
    exact am_Y.ret rfl
  · replace h := (if_neg hc).symm.trans h
    refine am_Y.run (k := 3) (pc' := 15) (lv' := [(0, .ref 125), (1, .int x1)]) (st' := [.int x1, .ref (125 + 2)]) (h' := hp M) rfl ?_
    obtain ⟨g, h⟩ := am_itg h
    refine am_Y.iald (a := 122) (n := 24) rfl rfl g ?_
    refine am_Y.run (k := 1) (pc' := 21) (lv' := [(0, .ref 125), (1, .int x1)]) (st' := [.int (gi M (125 + 2) (x1).toNatClampNeg)]) (h' := hp M) rfl ?_
    obtain rfl := Option.some.inj h
    exact am_Y.ret rfl
set_option maxRecDepth 100000 in
theorem t_p_firstOf {S : Nat × (Nat → Int32)} (x0 : Int32) (M : Mem) (r : Int32) (h : f_p_firstOf x0 M = r) : am_Y S 0 0 0 am_M237 0 [(0, .int x0)] [] (hp M) (some (.int r)) (hp M) := by
  rw [f_p_firstOf] at h
  refine am_Y.run (k := 5) (pc' := 6) (lv' := [(0, .int x0)]) (st' := [.int ((x0 >>> (5 : Int32)) &&& (63 : Int32))]) (h' := hp M) rfl ?_
  subst h
  exact am_Y.ret rfl
set_option maxRecDepth 100000 in
theorem t_p_headOf {S : Nat × (Nat → Int32)} (x0 : Int32) (M : Mem) (r : Int32) (h : f_p_headOf x0 M = r) : am_Y S 0 0 0 am_M238 0 [(0, .int x0)] [] (hp M) (some (.int r)) (hp M) := by
  rw [f_p_headOf] at h
  refine am_Y.run (k := 3) (pc' := 4) (lv' := [(0, .int x0)]) (st' := [.int (x0 &&& (31 : Int32))]) (h' := hp M) rfl ?_
  subst h
  exact am_Y.ret rfl
set_option maxRecDepth 100000 in
theorem t_p_secondOf {S : Nat × (Nat → Int32)} (x0 : Int32) (M : Mem) (r : Int32) (h : f_p_secondOf x0 M = r) : am_Y S 0 0 0 am_M239 0 [(0, .int x0)] [] (hp M) (some (.int r)) (hp M) := by
  rw [f_p_secondOf] at h
  refine am_Y.run (k := 3) (pc' := 4) (lv' := [(0, .int x0)]) (st' := [.int (x0 >>> (11 : Int32))]) (h' := hp M) rfl ?_
  subst h
  exact am_Y.ret rfl
set_option maxRecDepth 100000 in
theorem t_w_perform {S : Nat × (Nat → Int32)} (N : Nat) (x1 : Int32) (M : Mem) (r : Int32) (M' : Mem) (h : f_w_perform N x1 M = some (r, M')) : am_Y S 7 0 0 am_M133 0 [(0, .ref 5), (1, .int x1)] [] (hp M) (some (.int r)) (hp M') := by
  rw [f_w_perform] at h
  refine am_Y.run (k := 1) (pc' := 1) (lv' := [(0, .ref 5), (1, .int x1)]) (st' := [.int x1]) (h' := hp M) rfl ?_
  refine am_Y.call0 (M' := am_M237) (as := [.int x1]) (rest := []) (d' := 0) rfl (by omega) rfl rfl (t_p_firstOf x1 M _ rfl) ?_
  refine am_Y.run (k := 2) (pc' := 6) (lv' := [(2, .int (f_p_firstOf x1 M)), (0, .ref 5), (1, .int x1)]) (st' := [.int x1]) (h' := hp M) rfl ?_
  refine am_Y.call0 (M' := am_M238) (as := [.int x1]) (rest := []) (d' := 0) rfl (by omega) rfl rfl (t_p_headOf x1 M _ rfl) ?_
  by_cases hc15 : (f_p_headOf x1 M) = (15 : Int32)
  · replace h := (if_pos hc15).symm.trans h
    refine am_Y.one (pc' := 60) (lv' := [(2, .int (f_p_firstOf x1 M)), (0, .ref 5), (1, .int x1)]) (st' := []) (h' := hp M) (am_swc hc15 rfl) ?_
    refine am_Y.run (k := 3) (pc' := 63) (lv' := [(2, .int (f_p_firstOf x1 M)), (0, .ref 5), (1, .int x1)]) (st' := [.int x1, .int (f_p_firstOf x1 M), .ref 5]) (h' := hp M) rfl ?_
    refine am_Y.call0 (M' := am_M239) (as := [.int x1]) (rest := [.int (f_p_firstOf x1 M), .ref 5]) (d' := 0) rfl (by omega) rfl rfl (t_p_secondOf x1 M _ rfl) ?_
    refine am_Y.run (k := 1) (pc' := 67) (lv' := [(2, .int (f_p_firstOf x1 M)), (0, .ref 5), (1, .int x1)]) (st' := [.int (-1 : Int32), .int (f_p_secondOf x1 M), .int (f_p_firstOf x1 M), .ref 5]) (h' := hp M) rfl ?_
    obtain ⟨q1, e_q1, h⟩ := Option.bind_eq_some_iff.mp h
    refine am_Y.call0 (M' := am_M2) (as := [.ref 5, .int (f_p_firstOf x1 M), .int (f_p_secondOf x1 M), .int (-1 : Int32)]) (rest := []) (d' := 2) rfl (by omega) rfl rfl (t_w_guest (f_p_firstOf x1 M) (f_p_secondOf x1 M) (-1 : Int32) M q1.1 q1.2 e_q1) ?_
    refine am_Y.run (k := 1) (pc' := 71) (lv' := [(2, .int (f_p_firstOf x1 M)), (0, .ref 5), (1, .int x1)]) (st' := [.int (-1 : Int32), .int q1.1]) (h' := hp q1.2) rfl ?_
    refine am_Y.br (c := q1.1 = (-1 : Int32)) _ (t := 78) (u := 74) (lv' := [(2, .int (f_p_firstOf x1 M)), (0, .ref 5), (1, .int x1)]) (st' := []) (h' := hp q1.2) rfl (fun hc => ?_) (fun hc => ?_)
    · replace h := (if_pos hc).symm.trans h
      refine am_Y.run (k := 1) (pc' := 79) (lv' := [(2, .int (f_p_firstOf x1 M)), (0, .ref 5), (1, .int x1)]) (st' := [.int (0 : Int32)]) (h' := hp q1.2) rfl ?_
      obtain ⟨rfl, rfl⟩ := Prod.mk.inj (Option.some.inj h)
      exact am_Y.ret rfl
    · replace h := (if_neg hc).symm.trans h
      refine am_Y.run (k := 2) (pc' := 79) (lv' := [(2, .int (f_p_firstOf x1 M)), (0, .ref 5), (1, .int x1)]) (st' := [.int (1 : Int32)]) (h' := hp q1.2) rfl ?_
      obtain ⟨rfl, rfl⟩ := Prod.mk.inj (Option.some.inj h)
      exact am_Y.ret rfl
  replace h := (if_neg hc15).symm.trans h
  by_cases hc16 : (f_p_headOf x1 M) = (16 : Int32)
  · replace h := (if_pos hc16).symm.trans h
    refine am_Y.one (pc' := 80) (lv' := [(2, .int (f_p_firstOf x1 M)), (0, .ref 5), (1, .int x1)]) (st' := []) (h' := hp M) (am_swc hc16 rfl) ?_
    refine am_Y.run (k := 4) (pc' := 84) (lv' := [(2, .int (f_p_firstOf x1 M)), (0, .ref 5), (1, .int x1)]) (st' := [.int (1 : Int32), .int (0 : Int32), .int (f_p_firstOf x1 M), .ref 5]) (h' := hp M) rfl ?_
    obtain ⟨q2, e_q2, h⟩ := Option.bind_eq_some_iff.mp h
    refine am_Y.call0 (M' := am_M114) (as := [.ref 5, .int (f_p_firstOf x1 M), .int (0 : Int32), .int (1 : Int32)]) (rest := []) (d' := 5) rfl (by omega) rfl rfl (t_w_speak N (f_p_firstOf x1 M) (0 : Int32) (1 : Int32) M q2.1 q2.2 e_q2) ?_
    refine am_Y.run (k := 1) (pc' := 89) (lv' := [(2, .int (f_p_firstOf x1 M)), (0, .ref 5), (1, .int x1)]) (st' := [.int (-2 : Int32), .int q2.1]) (h' := hp q2.2) rfl ?_
    refine am_Y.br (c := q2.1 = (-2 : Int32)) _ (t := 96) (u := 92) (lv' := [(2, .int (f_p_firstOf x1 M)), (0, .ref 5), (1, .int x1)]) (st' := []) (h' := hp q2.2) rfl (fun hc => ?_) (fun hc => ?_)
    · replace h := (if_pos hc).symm.trans h
      refine am_Y.run (k := 1) (pc' := 97) (lv' := [(2, .int (f_p_firstOf x1 M)), (0, .ref 5), (1, .int x1)]) (st' := [.int (0 : Int32)]) (h' := hp q2.2) rfl ?_
      obtain ⟨rfl, rfl⟩ := Prod.mk.inj (Option.some.inj h)
      exact am_Y.ret rfl
    · replace h := (if_neg hc).symm.trans h
      refine am_Y.run (k := 2) (pc' := 97) (lv' := [(2, .int (f_p_firstOf x1 M)), (0, .ref 5), (1, .int x1)]) (st' := [.int (1 : Int32)]) (h' := hp q2.2) rfl ?_
      obtain ⟨rfl, rfl⟩ := Prod.mk.inj (Option.some.inj h)
      exact am_Y.ret rfl
  replace h := (if_neg hc16).symm.trans h
  by_cases hc17 : (f_p_headOf x1 M) = (17 : Int32)
  · replace h := (if_pos hc17).symm.trans h
    refine am_Y.one (pc' := 98) (lv' := [(2, .int (f_p_firstOf x1 M)), (0, .ref 5), (1, .int x1)]) (st' := []) (h' := hp M) (am_swc hc17 rfl) ?_
    refine am_Y.run (k := 4) (pc' := 102) (lv' := [(2, .int (f_p_firstOf x1 M)), (0, .ref 5), (1, .int x1)]) (st' := [.int (1 : Int32), .int (1 : Int32), .int (f_p_firstOf x1 M), .ref 5]) (h' := hp M) rfl ?_
    obtain ⟨q3, e_q3, h⟩ := Option.bind_eq_some_iff.mp h
    refine am_Y.call0 (M' := am_M114) (as := [.ref 5, .int (f_p_firstOf x1 M), .int (1 : Int32), .int (1 : Int32)]) (rest := []) (d' := 5) rfl (by omega) rfl rfl (t_w_speak N (f_p_firstOf x1 M) (1 : Int32) (1 : Int32) M q3.1 q3.2 e_q3) ?_
    refine am_Y.run (k := 1) (pc' := 107) (lv' := [(2, .int (f_p_firstOf x1 M)), (0, .ref 5), (1, .int x1)]) (st' := [.int (-2 : Int32), .int q3.1]) (h' := hp q3.2) rfl ?_
    refine am_Y.br (c := q3.1 = (-2 : Int32)) _ (t := 114) (u := 110) (lv' := [(2, .int (f_p_firstOf x1 M)), (0, .ref 5), (1, .int x1)]) (st' := []) (h' := hp q3.2) rfl (fun hc => ?_) (fun hc => ?_)
    · replace h := (if_pos hc).symm.trans h
      refine am_Y.run (k := 1) (pc' := 115) (lv' := [(2, .int (f_p_firstOf x1 M)), (0, .ref 5), (1, .int x1)]) (st' := [.int (0 : Int32)]) (h' := hp q3.2) rfl ?_
      obtain ⟨rfl, rfl⟩ := Prod.mk.inj (Option.some.inj h)
      exact am_Y.ret rfl
    · replace h := (if_neg hc).symm.trans h
      refine am_Y.run (k := 2) (pc' := 115) (lv' := [(2, .int (f_p_firstOf x1 M)), (0, .ref 5), (1, .int x1)]) (st' := [.int (1 : Int32)]) (h' := hp q3.2) rfl ?_
      obtain ⟨rfl, rfl⟩ := Prod.mk.inj (Option.some.inj h)
      exact am_Y.ret rfl
  replace h := (if_neg hc17).symm.trans h
  by_cases hc18 : (f_p_headOf x1 M) = (18 : Int32)
  · replace h := (if_pos hc18).symm.trans h
    refine am_Y.one (pc' := 116) (lv' := [(2, .int (f_p_firstOf x1 M)), (0, .ref 5), (1, .int x1)]) (st' := []) (h' := hp M) (am_swc hc18 rfl) ?_
    refine am_Y.run (k := 4) (pc' := 120) (lv' := [(2, .int (f_p_firstOf x1 M)), (0, .ref 5), (1, .int x1)]) (st' := [.int (1 : Int32), .int (2 : Int32), .int (f_p_firstOf x1 M), .ref 5]) (h' := hp M) rfl ?_
    obtain ⟨q4, e_q4, h⟩ := Option.bind_eq_some_iff.mp h
    refine am_Y.call0 (M' := am_M114) (as := [.ref 5, .int (f_p_firstOf x1 M), .int (2 : Int32), .int (1 : Int32)]) (rest := []) (d' := 5) rfl (by omega) rfl rfl (t_w_speak N (f_p_firstOf x1 M) (2 : Int32) (1 : Int32) M q4.1 q4.2 e_q4) ?_
    refine am_Y.run (k := 1) (pc' := 125) (lv' := [(2, .int (f_p_firstOf x1 M)), (0, .ref 5), (1, .int x1)]) (st' := [.int (-2 : Int32), .int q4.1]) (h' := hp q4.2) rfl ?_
    refine am_Y.br (c := q4.1 = (-2 : Int32)) _ (t := 132) (u := 128) (lv' := [(2, .int (f_p_firstOf x1 M)), (0, .ref 5), (1, .int x1)]) (st' := []) (h' := hp q4.2) rfl (fun hc => ?_) (fun hc => ?_)
    · replace h := (if_pos hc).symm.trans h
      refine am_Y.run (k := 1) (pc' := 133) (lv' := [(2, .int (f_p_firstOf x1 M)), (0, .ref 5), (1, .int x1)]) (st' := [.int (0 : Int32)]) (h' := hp q4.2) rfl ?_
      obtain ⟨rfl, rfl⟩ := Prod.mk.inj (Option.some.inj h)
      exact am_Y.ret rfl
    · replace h := (if_neg hc).symm.trans h
      refine am_Y.run (k := 2) (pc' := 133) (lv' := [(2, .int (f_p_firstOf x1 M)), (0, .ref 5), (1, .int x1)]) (st' := [.int (1 : Int32)]) (h' := hp q4.2) rfl ?_
      obtain ⟨rfl, rfl⟩ := Prod.mk.inj (Option.some.inj h)
      exact am_Y.ret rfl
  replace h := (if_neg hc18).symm.trans h
  by_cases hc19 : (f_p_headOf x1 M) = (19 : Int32)
  · replace h := (if_pos hc19).symm.trans h
    refine am_Y.one (pc' := 134) (lv' := [(2, .int (f_p_firstOf x1 M)), (0, .ref 5), (1, .int x1)]) (st' := []) (h' := hp M) (am_swc hc19 rfl) ?_
    refine am_Y.run (k := 4) (pc' := 138) (lv' := [(2, .int (f_p_firstOf x1 M)), (0, .ref 5), (1, .int x1)]) (st' := [.int (1 : Int32), .int (3 : Int32), .int (f_p_firstOf x1 M), .ref 5]) (h' := hp M) rfl ?_
    obtain ⟨q5, e_q5, h⟩ := Option.bind_eq_some_iff.mp h
    refine am_Y.call0 (M' := am_M114) (as := [.ref 5, .int (f_p_firstOf x1 M), .int (3 : Int32), .int (1 : Int32)]) (rest := []) (d' := 5) rfl (by omega) rfl rfl (t_w_speak N (f_p_firstOf x1 M) (3 : Int32) (1 : Int32) M q5.1 q5.2 e_q5) ?_
    refine am_Y.run (k := 1) (pc' := 143) (lv' := [(2, .int (f_p_firstOf x1 M)), (0, .ref 5), (1, .int x1)]) (st' := [.int (-2 : Int32), .int q5.1]) (h' := hp q5.2) rfl ?_
    refine am_Y.br (c := q5.1 = (-2 : Int32)) _ (t := 150) (u := 146) (lv' := [(2, .int (f_p_firstOf x1 M)), (0, .ref 5), (1, .int x1)]) (st' := []) (h' := hp q5.2) rfl (fun hc => ?_) (fun hc => ?_)
    · replace h := (if_pos hc).symm.trans h
      refine am_Y.run (k := 1) (pc' := 151) (lv' := [(2, .int (f_p_firstOf x1 M)), (0, .ref 5), (1, .int x1)]) (st' := [.int (0 : Int32)]) (h' := hp q5.2) rfl ?_
      obtain ⟨rfl, rfl⟩ := Prod.mk.inj (Option.some.inj h)
      exact am_Y.ret rfl
    · replace h := (if_neg hc).symm.trans h
      refine am_Y.run (k := 2) (pc' := 151) (lv' := [(2, .int (f_p_firstOf x1 M)), (0, .ref 5), (1, .int x1)]) (st' := [.int (1 : Int32)]) (h' := hp q5.2) rfl ?_
      obtain ⟨rfl, rfl⟩ := Prod.mk.inj (Option.some.inj h)
      exact am_Y.ret rfl
  replace h := (if_neg hc19).symm.trans h
  by_cases hc20 : (f_p_headOf x1 M) = (20 : Int32)
  · replace h := (if_pos hc20).symm.trans h
    refine am_Y.one (pc' := 152) (lv' := [(2, .int (f_p_firstOf x1 M)), (0, .ref 5), (1, .int x1)]) (st' := []) (h' := hp M) (am_swc hc20 rfl) ?_
    refine am_Y.run (k := 1) (pc' := 153) (lv' := [(2, .int (f_p_firstOf x1 M)), (0, .ref 5), (1, .int x1)]) (st' := [.ref 5]) (h' := hp M) rfl ?_
    obtain ⟨q6, e_q6, h⟩ := Option.bind_eq_some_iff.mp h
    refine am_Y.call0 (M' := am_M16) (as := [.ref 5]) (rest := []) (d' := 3) rfl (by omega) rfl rfl (t_w_ask M q6.1 q6.2 e_q6) ?_
    obtain ⟨g, h⟩ := am_itg h
    obtain ⟨rfl, rfl⟩ := Prod.mk.inj (Option.some.inj h)
    exact am_Y.ret (by rcases g with e | e <;> (rw [e]; rfl))
  replace h := (if_neg hc20).symm.trans h
  by_cases hc21 : (f_p_headOf x1 M) = (21 : Int32)
  · replace h := (if_pos hc21).symm.trans h
    refine am_Y.one (pc' := 157) (lv' := [(2, .int (f_p_firstOf x1 M)), (0, .ref 5), (1, .int x1)]) (st' := []) (h' := hp M) (am_swc hc21 rfl) ?_
    refine am_Y.run (k := 2) (pc' := 159) (lv' := [(2, .int (f_p_firstOf x1 M)), (0, .ref 5), (1, .int x1)]) (st' := [.int (f_p_firstOf x1 M), .ref 5]) (h' := hp M) rfl ?_
    obtain ⟨q7, e_q7, h⟩ := Option.bind_eq_some_iff.mp h
    refine am_Y.call0 (M' := am_M124) (as := [.ref 5, .int (f_p_firstOf x1 M)]) (rest := []) (d' := 3) rfl (by omega) rfl rfl (t_w_passAsCan N (f_p_firstOf x1 M) M q7.1 q7.2 e_q7) ?_
    obtain ⟨g, h⟩ := am_itg h
    obtain ⟨rfl, rfl⟩ := Prod.mk.inj (Option.some.inj h)
    exact am_Y.ret (by rcases g with e | e <;> (rw [e]; rfl))
  replace h := (if_neg hc21).symm.trans h
  by_cases hc22 : (f_p_headOf x1 M) = (22 : Int32)
  · replace h := (if_pos hc22).symm.trans h
    refine am_Y.one (pc' := 163) (lv' := [(2, .int (f_p_firstOf x1 M)), (0, .ref 5), (1, .int x1)]) (st' := []) (h' := hp M) (am_swc hc22 rfl) ?_
    refine am_Y.run (k := 2) (pc' := 165) (lv' := [(2, .int (f_p_firstOf x1 M)), (0, .ref 5), (1, .int x1)]) (st' := [.int (f_p_firstOf x1 M), .ref 5]) (h' := hp M) rfl ?_
    obtain ⟨q8, e_q8, h⟩ := Option.bind_eq_some_iff.mp h
    refine am_Y.call0 (M' := am_M20) (as := [.ref 5, .int (f_p_firstOf x1 M)]) (rest := []) (d' := 3) rfl (by omega) rfl rfl (t_w_send (f_p_firstOf x1 M) M q8.1 q8.2 e_q8) ?_
    obtain ⟨g, h⟩ := am_itg h
    obtain ⟨rfl, rfl⟩ := Prod.mk.inj (Option.some.inj h)
    exact am_Y.ret (by rcases g with e | e <;> (rw [e]; rfl))
  replace h := (if_neg hc22).symm.trans h
  by_cases hc23 : (f_p_headOf x1 M) = (23 : Int32)
  · replace h := (if_pos hc23).symm.trans h
    refine am_Y.one (pc' := 169) (lv' := [(2, .int (f_p_firstOf x1 M)), (0, .ref 5), (1, .int x1)]) (st' := []) (h' := hp M) (am_swc hc23 rfl) ?_
    refine am_Y.run (k := 1) (pc' := 170) (lv' := [(2, .int (f_p_firstOf x1 M)), (0, .ref 5), (1, .int x1)]) (st' := [.ref 5]) (h' := hp M) rfl ?_
    obtain ⟨q9, e_q9, h⟩ := Option.bind_eq_some_iff.mp h
    refine am_Y.call0 (M' := am_M22) (as := [.ref 5]) (rest := []) (d' := 6) rfl (by omega) rfl rfl (t_w_dinner N M q9.1 q9.2 e_q9) ?_
    refine am_Y.run (k := 1) (pc' := 174) (lv' := [(2, .int (f_p_firstOf x1 M)), (0, .ref 5), (1, .int x1)]) (st' := [.int (-1 : Int32), .int q9.1]) (h' := hp q9.2) rfl ?_
    refine am_Y.br (c := q9.1 = (-1 : Int32)) _ (t := 181) (u := 177) (lv' := [(2, .int (f_p_firstOf x1 M)), (0, .ref 5), (1, .int x1)]) (st' := []) (h' := hp q9.2) rfl (fun hc => ?_) (fun hc => ?_)
    · replace h := (if_pos hc).symm.trans h
      refine am_Y.run (k := 1) (pc' := 182) (lv' := [(2, .int (f_p_firstOf x1 M)), (0, .ref 5), (1, .int x1)]) (st' := [.int (0 : Int32)]) (h' := hp q9.2) rfl ?_
      obtain ⟨rfl, rfl⟩ := Prod.mk.inj (Option.some.inj h)
      exact am_Y.ret rfl
    · replace h := (if_neg hc).symm.trans h
      refine am_Y.run (k := 2) (pc' := 182) (lv' := [(2, .int (f_p_firstOf x1 M)), (0, .ref 5), (1, .int x1)]) (st' := [.int (1 : Int32)]) (h' := hp q9.2) rfl ?_
      obtain ⟨rfl, rfl⟩ := Prod.mk.inj (Option.some.inj h)
      exact am_Y.ret rfl
  replace h := (if_neg hc23).symm.trans h
  refine am_Y.one (pc' := 183) (lv' := [(2, .int (f_p_firstOf x1 M)), (0, .ref 5), (1, .int x1)]) (st' := []) (h' := hp M) (am_swd (x := (f_p_headOf x1 M)) rfl (by have := am_neT (15) hc15 (by decide); have := am_neT (16) hc16 (by decide); have := am_neT (17) hc17 (by decide); have := am_neT (18) hc18 (by decide); have := am_neT (19) hc19 (by decide); have := am_neT (20) hc20 (by decide); have := am_neT (21) hc21 (by decide); have := am_neT (22) hc22 (by decide); have := am_neT (23) hc23 (by decide); omega) rfl) ?_
  refine am_Y.run (k := 1) (pc' := 184) (lv' := [(2, .int (f_p_firstOf x1 M)), (0, .ref 5), (1, .int x1)]) (st' := [.int (1 : Int32)]) (h' := hp M) rfl ?_
  obtain ⟨rfl, rfl⟩ := Prod.mk.inj (Option.some.inj h)
  exact am_Y.ret rfl
set_option maxRecDepth 100000 in
theorem t_w_played_35_113 {S : Nat × (Nat → Int32)} (N : Nat) : ∀ (n : Nat) (x3 : Int32) (M : Mem) (r : Int32) (M' : Mem), f_w_played_35 N 113 n x3 M = some (r, M') → am_Y S 8 0 0 am_M24 35 [(0, .ref 5), (2, .ref 113), (3, .int x3)] [] (hp M) (some (.int r)) (hp M') := by
  intro n
  induction n with
  | zero =>
    intro x3 M r M' h
    cases h
  | succ n ih =>
    intro x3 M r M' h
    rw [f_w_played_35] at h
    refine am_Y.run (k := 3) (pc' := 40) (lv' := [(0, .ref 5), (2, .ref 113), (3, .int x3)]) (st' := [.int (gi M 113 4), .int x3]) (h' := hp M) rfl ?_
    refine am_Y.br (c := (gi M 113 4) ≤ x3) _ (t := 63) (u := 43) (lv' := [(0, .ref 5), (2, .ref 113), (3, .int x3)]) (st' := []) (h' := hp M) rfl (fun hc => ?_) (fun hc => ?_)
    · replace h := (if_pos hc).symm.trans h
      refine am_Y.run (k := 1) (pc' := 64) (lv' := [(0, .ref 5), (2, .ref 113), (3, .int x3)]) (st' := [.int (-1 : Int32)]) (h' := hp M) rfl ?_
      obtain ⟨rfl, rfl⟩ := Prod.mk.inj (Option.some.inj h)
      exact am_Y.ret rfl
    · replace h := (if_neg hc).symm.trans h
      refine am_Y.run (k := 3) (pc' := 46) (lv' := [(0, .ref 5), (2, .ref 113), (3, .int x3)]) (st' := [.int x3, .ref 113, .ref 5]) (h' := hp M) rfl ?_
      obtain ⟨q1, e_q1, h⟩ := Option.bind_eq_some_iff.mp h
      refine am_Y.call0 (M' := am_M132) (as := [.ref 113, .int x3]) (rest := [.ref 5]) (d' := 1) rfl (by omega) rfl rfl (t_p_clauseAt_113 x3 M q1 e_q1) ?_
      obtain ⟨q2, e_q2, h⟩ := Option.bind_eq_some_iff.mp h
      refine am_Y.call0 (M' := am_M133) (as := [.ref 5, .int q1]) (rest := []) (d' := 7) rfl (by omega) rfl rfl (t_w_perform N q1 M q2.1 q2.2 e_q2) ?_
      refine am_Y.br (c := q2.1 = (0 : Int32)) _ (t := 55) (u := 57) (lv' := [(0, .ref 5), (2, .ref 113), (3, .int x3)]) (st' := []) (h' := hp q2.2) rfl (fun hc => ?_) (fun hc => ?_)
      · replace h := (if_pos hc).symm.trans h
        refine am_Y.run (k := 1) (pc' := 56) (lv' := [(0, .ref 5), (2, .ref 113), (3, .int x3)]) (st' := [.int x3]) (h' := hp q2.2) rfl ?_
        obtain ⟨rfl, rfl⟩ := Prod.mk.inj (Option.some.inj h)
        exact am_Y.ret rfl
      · replace h := (if_neg hc).symm.trans h
        refine am_Y.run (k := 2) (pc' := 35) (lv' := [(3, .int (x3 + (1 : Int32))), (0, .ref 5), (2, .ref 113)]) (st' := []) (h' := hp q2.2) rfl ?_
        refine am_Y.weak (lv2 := [(0, .ref 5), (2, .ref 113), (3, .int (x3 + (1 : Int32)))]) rfl rfl ⟨rfl, rfl, rfl, trivial⟩ ?_
        exact ih (x3 + (1 : Int32)) q2.2 _ _ h
set_option maxRecDepth 100000 in
theorem t_w_played_35_117 {S : Nat × (Nat → Int32)} (N : Nat) : ∀ (n : Nat) (x3 : Int32) (M : Mem) (r : Int32) (M' : Mem), f_w_played_35 N 117 n x3 M = some (r, M') → am_Y S 8 0 0 am_M24 35 [(0, .ref 5), (2, .ref 117), (3, .int x3)] [] (hp M) (some (.int r)) (hp M') := by
  intro n
  induction n with
  | zero =>
    intro x3 M r M' h
    cases h
  | succ n ih =>
    intro x3 M r M' h
    rw [f_w_played_35] at h
    refine am_Y.run (k := 3) (pc' := 40) (lv' := [(0, .ref 5), (2, .ref 117), (3, .int x3)]) (st' := [.int (gi M 117 4), .int x3]) (h' := hp M) rfl ?_
    refine am_Y.br (c := (gi M 117 4) ≤ x3) _ (t := 63) (u := 43) (lv' := [(0, .ref 5), (2, .ref 117), (3, .int x3)]) (st' := []) (h' := hp M) rfl (fun hc => ?_) (fun hc => ?_)
    · replace h := (if_pos hc).symm.trans h
      refine am_Y.run (k := 1) (pc' := 64) (lv' := [(0, .ref 5), (2, .ref 117), (3, .int x3)]) (st' := [.int (-1 : Int32)]) (h' := hp M) rfl ?_
      obtain ⟨rfl, rfl⟩ := Prod.mk.inj (Option.some.inj h)
      exact am_Y.ret rfl
    · replace h := (if_neg hc).symm.trans h
      refine am_Y.run (k := 3) (pc' := 46) (lv' := [(0, .ref 5), (2, .ref 117), (3, .int x3)]) (st' := [.int x3, .ref 117, .ref 5]) (h' := hp M) rfl ?_
      obtain ⟨q1, e_q1, h⟩ := Option.bind_eq_some_iff.mp h
      refine am_Y.call0 (M' := am_M132) (as := [.ref 117, .int x3]) (rest := [.ref 5]) (d' := 1) rfl (by omega) rfl rfl (t_p_clauseAt_117 x3 M q1 e_q1) ?_
      obtain ⟨q2, e_q2, h⟩ := Option.bind_eq_some_iff.mp h
      refine am_Y.call0 (M' := am_M133) (as := [.ref 5, .int q1]) (rest := []) (d' := 7) rfl (by omega) rfl rfl (t_w_perform N q1 M q2.1 q2.2 e_q2) ?_
      refine am_Y.br (c := q2.1 = (0 : Int32)) _ (t := 55) (u := 57) (lv' := [(0, .ref 5), (2, .ref 117), (3, .int x3)]) (st' := []) (h' := hp q2.2) rfl (fun hc => ?_) (fun hc => ?_)
      · replace h := (if_pos hc).symm.trans h
        refine am_Y.run (k := 1) (pc' := 56) (lv' := [(0, .ref 5), (2, .ref 117), (3, .int x3)]) (st' := [.int x3]) (h' := hp q2.2) rfl ?_
        obtain ⟨rfl, rfl⟩ := Prod.mk.inj (Option.some.inj h)
        exact am_Y.ret rfl
      · replace h := (if_neg hc).symm.trans h
        refine am_Y.run (k := 2) (pc' := 35) (lv' := [(3, .int (x3 + (1 : Int32))), (0, .ref 5), (2, .ref 117)]) (st' := []) (h' := hp q2.2) rfl ?_
        refine am_Y.weak (lv2 := [(0, .ref 5), (2, .ref 117), (3, .int (x3 + (1 : Int32)))]) rfl rfl ⟨rfl, rfl, rfl, trivial⟩ ?_
        exact ih (x3 + (1 : Int32)) q2.2 _ _ h
set_option maxRecDepth 100000 in
theorem t_w_played_35_121 {S : Nat × (Nat → Int32)} (N : Nat) : ∀ (n : Nat) (x3 : Int32) (M : Mem) (r : Int32) (M' : Mem), f_w_played_35 N 121 n x3 M = some (r, M') → am_Y S 8 0 0 am_M24 35 [(0, .ref 5), (2, .ref 121), (3, .int x3)] [] (hp M) (some (.int r)) (hp M') := by
  intro n
  induction n with
  | zero =>
    intro x3 M r M' h
    cases h
  | succ n ih =>
    intro x3 M r M' h
    rw [f_w_played_35] at h
    refine am_Y.run (k := 3) (pc' := 40) (lv' := [(0, .ref 5), (2, .ref 121), (3, .int x3)]) (st' := [.int (gi M 121 4), .int x3]) (h' := hp M) rfl ?_
    refine am_Y.br (c := (gi M 121 4) ≤ x3) _ (t := 63) (u := 43) (lv' := [(0, .ref 5), (2, .ref 121), (3, .int x3)]) (st' := []) (h' := hp M) rfl (fun hc => ?_) (fun hc => ?_)
    · replace h := (if_pos hc).symm.trans h
      refine am_Y.run (k := 1) (pc' := 64) (lv' := [(0, .ref 5), (2, .ref 121), (3, .int x3)]) (st' := [.int (-1 : Int32)]) (h' := hp M) rfl ?_
      obtain ⟨rfl, rfl⟩ := Prod.mk.inj (Option.some.inj h)
      exact am_Y.ret rfl
    · replace h := (if_neg hc).symm.trans h
      refine am_Y.run (k := 3) (pc' := 46) (lv' := [(0, .ref 5), (2, .ref 121), (3, .int x3)]) (st' := [.int x3, .ref 121, .ref 5]) (h' := hp M) rfl ?_
      obtain ⟨q1, e_q1, h⟩ := Option.bind_eq_some_iff.mp h
      refine am_Y.call0 (M' := am_M132) (as := [.ref 121, .int x3]) (rest := [.ref 5]) (d' := 1) rfl (by omega) rfl rfl (t_p_clauseAt_121 x3 M q1 e_q1) ?_
      obtain ⟨q2, e_q2, h⟩ := Option.bind_eq_some_iff.mp h
      refine am_Y.call0 (M' := am_M133) (as := [.ref 5, .int q1]) (rest := []) (d' := 7) rfl (by omega) rfl rfl (t_w_perform N q1 M q2.1 q2.2 e_q2) ?_
      refine am_Y.br (c := q2.1 = (0 : Int32)) _ (t := 55) (u := 57) (lv' := [(0, .ref 5), (2, .ref 121), (3, .int x3)]) (st' := []) (h' := hp q2.2) rfl (fun hc => ?_) (fun hc => ?_)
      · replace h := (if_pos hc).symm.trans h
        refine am_Y.run (k := 1) (pc' := 56) (lv' := [(0, .ref 5), (2, .ref 121), (3, .int x3)]) (st' := [.int x3]) (h' := hp q2.2) rfl ?_
        obtain ⟨rfl, rfl⟩ := Prod.mk.inj (Option.some.inj h)
        exact am_Y.ret rfl
      · replace h := (if_neg hc).symm.trans h
        refine am_Y.run (k := 2) (pc' := 35) (lv' := [(3, .int (x3 + (1 : Int32))), (0, .ref 5), (2, .ref 121)]) (st' := []) (h' := hp q2.2) rfl ?_
        refine am_Y.weak (lv2 := [(0, .ref 5), (2, .ref 121), (3, .int (x3 + (1 : Int32)))]) rfl rfl ⟨rfl, rfl, rfl, trivial⟩ ?_
        exact ih (x3 + (1 : Int32)) q2.2 _ _ h
set_option maxRecDepth 100000 in
theorem t_w_played_35_125 {S : Nat × (Nat → Int32)} (N : Nat) : ∀ (n : Nat) (x3 : Int32) (M : Mem) (r : Int32) (M' : Mem), f_w_played_35 N 125 n x3 M = some (r, M') → am_Y S 8 0 0 am_M24 35 [(0, .ref 5), (2, .ref 125), (3, .int x3)] [] (hp M) (some (.int r)) (hp M') := by
  intro n
  induction n with
  | zero =>
    intro x3 M r M' h
    cases h
  | succ n ih =>
    intro x3 M r M' h
    rw [f_w_played_35] at h
    refine am_Y.run (k := 3) (pc' := 40) (lv' := [(0, .ref 5), (2, .ref 125), (3, .int x3)]) (st' := [.int (gi M 125 4), .int x3]) (h' := hp M) rfl ?_
    refine am_Y.br (c := (gi M 125 4) ≤ x3) _ (t := 63) (u := 43) (lv' := [(0, .ref 5), (2, .ref 125), (3, .int x3)]) (st' := []) (h' := hp M) rfl (fun hc => ?_) (fun hc => ?_)
    · replace h := (if_pos hc).symm.trans h
      refine am_Y.run (k := 1) (pc' := 64) (lv' := [(0, .ref 5), (2, .ref 125), (3, .int x3)]) (st' := [.int (-1 : Int32)]) (h' := hp M) rfl ?_
      obtain ⟨rfl, rfl⟩ := Prod.mk.inj (Option.some.inj h)
      exact am_Y.ret rfl
    · replace h := (if_neg hc).symm.trans h
      refine am_Y.run (k := 3) (pc' := 46) (lv' := [(0, .ref 5), (2, .ref 125), (3, .int x3)]) (st' := [.int x3, .ref 125, .ref 5]) (h' := hp M) rfl ?_
      obtain ⟨q1, e_q1, h⟩ := Option.bind_eq_some_iff.mp h
      refine am_Y.call0 (M' := am_M132) (as := [.ref 125, .int x3]) (rest := [.ref 5]) (d' := 1) rfl (by omega) rfl rfl (t_p_clauseAt_125 x3 M q1 e_q1) ?_
      obtain ⟨q2, e_q2, h⟩ := Option.bind_eq_some_iff.mp h
      refine am_Y.call0 (M' := am_M133) (as := [.ref 5, .int q1]) (rest := []) (d' := 7) rfl (by omega) rfl rfl (t_w_perform N q1 M q2.1 q2.2 e_q2) ?_
      refine am_Y.br (c := q2.1 = (0 : Int32)) _ (t := 55) (u := 57) (lv' := [(0, .ref 5), (2, .ref 125), (3, .int x3)]) (st' := []) (h' := hp q2.2) rfl (fun hc => ?_) (fun hc => ?_)
      · replace h := (if_pos hc).symm.trans h
        refine am_Y.run (k := 1) (pc' := 56) (lv' := [(0, .ref 5), (2, .ref 125), (3, .int x3)]) (st' := [.int x3]) (h' := hp q2.2) rfl ?_
        obtain ⟨rfl, rfl⟩ := Prod.mk.inj (Option.some.inj h)
        exact am_Y.ret rfl
      · replace h := (if_neg hc).symm.trans h
        refine am_Y.run (k := 2) (pc' := 35) (lv' := [(3, .int (x3 + (1 : Int32))), (0, .ref 5), (2, .ref 125)]) (st' := []) (h' := hp q2.2) rfl ?_
        refine am_Y.weak (lv2 := [(0, .ref 5), (2, .ref 125), (3, .int (x3 + (1 : Int32)))]) rfl rfl ⟨rfl, rfl, rfl, trivial⟩ ?_
        exact ih (x3 + (1 : Int32)) q2.2 _ _ h
set_option maxRecDepth 100000 in
theorem t_w_played {S : Nat × (Nat → Int32)} (N : Nat) (x1 : Int32) (M : Mem) (r : Int32) (M' : Mem) (h : f_w_played N x1 M = some (r, M')) : am_Y S 8 0 0 am_M24 0 [(0, .ref 5), (1, .int x1)] [] (hp M) (some (.int r)) (hp M') := by
  rw [f_w_played] at h
  refine am_Y.run (k := 7) (pc' := 11) (lv' := [(0, .ref 5), (1, .int x1)]) (st' := [.int ((gi M 6 4) - (1 : Int32)), .int (0 : Int32), .int x1]) (h' := hp M) rfl ?_
  refine am_Y.call0 (M' := am_M102) (as := [.int x1, .int (0 : Int32), .int ((gi M 6 4) - (1 : Int32))]) (rest := []) (d' := 0) rfl (by omega) rfl rfl (t_w_within x1 (0 : Int32) ((gi M 6 4) - (1 : Int32)) M _ rfl) ?_
  refine am_Y.br (c := (f_w_within x1 (0 : Int32) ((gi M 6 4) - (1 : Int32)) M) = (0 : Int32)) _ (t := 17) (u := 20) (lv' := [(0, .ref 5), (1, .int x1)]) (st' := []) (h' := hp M) rfl (fun hc => ?_) (fun hc => ?_)
  · replace h := (if_pos hc).symm.trans h
    refine am_Y.run (k := 1) (pc' := 19) (lv' := [(0, .ref 5), (1, .int x1)]) (st' := [.int (-2 : Int32)]) (h' := hp M) rfl ?_
    obtain ⟨rfl, rfl⟩ := Prod.mk.inj (Option.some.inj h)
    exact am_Y.ret rfl
  · replace h := (if_neg hc).symm.trans h
    refine am_Y.run (k := 2) (pc' := 22) (lv' := [(0, .ref 5), (1, .int x1)]) (st' := [.int x1, .ref 5]) (h' := hp M) rfl ?_
    cases hs : w_scr x1 with
    | none =>
      rw [hs] at h
      refine am_Y.call0 (M' := am_M110) (as := [.ref 5, .int x1]) (rest := []) (d' := 1) rfl (by omega) rfl rfl (t_w_scriptAt_n x1 M hs) ?_
      refine am_Y.run (k := 4) (pc' := 32) (lv' := [(2, .null), (0, .ref 5), (1, .int x1)]) (st' := [.int (-2 : Int32)]) (h' := hp M) rfl ?_
      obtain ⟨rfl, rfl⟩ := Prod.mk.inj (Option.some.inj h)
      exact am_Y.ret rfl
    | some a =>
      rw [hs] at h
      rcases w_scr_cases hs with rfl | rfl | rfl | rfl
      · refine am_Y.call0 (M' := am_M110) (as := [.ref 5, .int x1]) (rest := []) (d' := 1) rfl (by omega) rfl rfl (t_w_scriptAt_s x1 M hs) ?_
        refine am_Y.run (k := 5) (pc' := 35) (lv' := [(3, .int (0 : Int32)), (2, .ref 113), (0, .ref 5), (1, .int x1)]) (st' := []) (h' := hp M) rfl ?_
        refine am_Y.weak (lv2 := [(0, .ref 5), (2, .ref 113), (3, .int (0 : Int32))]) rfl rfl ⟨rfl, rfl, rfl, trivial⟩ ?_
        exact t_w_played_35_113 N N (0 : Int32) M _ _ h
      · refine am_Y.call0 (M' := am_M110) (as := [.ref 5, .int x1]) (rest := []) (d' := 1) rfl (by omega) rfl rfl (t_w_scriptAt_s x1 M hs) ?_
        refine am_Y.run (k := 5) (pc' := 35) (lv' := [(3, .int (0 : Int32)), (2, .ref 117), (0, .ref 5), (1, .int x1)]) (st' := []) (h' := hp M) rfl ?_
        refine am_Y.weak (lv2 := [(0, .ref 5), (2, .ref 117), (3, .int (0 : Int32))]) rfl rfl ⟨rfl, rfl, rfl, trivial⟩ ?_
        exact t_w_played_35_117 N N (0 : Int32) M _ _ h
      · refine am_Y.call0 (M' := am_M110) (as := [.ref 5, .int x1]) (rest := []) (d' := 1) rfl (by omega) rfl rfl (t_w_scriptAt_s x1 M hs) ?_
        refine am_Y.run (k := 5) (pc' := 35) (lv' := [(3, .int (0 : Int32)), (2, .ref 121), (0, .ref 5), (1, .int x1)]) (st' := []) (h' := hp M) rfl ?_
        refine am_Y.weak (lv2 := [(0, .ref 5), (2, .ref 121), (3, .int (0 : Int32))]) rfl rfl ⟨rfl, rfl, rfl, trivial⟩ ?_
        exact t_w_played_35_121 N N (0 : Int32) M _ _ h
      · refine am_Y.call0 (M' := am_M110) (as := [.ref 5, .int x1]) (rest := []) (d' := 1) rfl (by omega) rfl rfl (t_w_scriptAt_s x1 M hs) ?_
        refine am_Y.run (k := 5) (pc' := 35) (lv' := [(3, .int (0 : Int32)), (2, .ref 125), (0, .ref 5), (1, .int x1)]) (st' := []) (h' := hp M) rfl ?_
        refine am_Y.weak (lv2 := [(0, .ref 5), (2, .ref 125), (3, .int (0 : Int32))]) rfl rfl ⟨rfl, rfl, rfl, trivial⟩ ?_
        exact t_w_played_35_125 N N (0 : Int32) M _ _ h
