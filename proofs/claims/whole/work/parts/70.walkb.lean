/-! AM does what the functions say. -/
set_option maxRecDepth 100000 in
theorem t_r_fail {S : Nat × (Nat → Int32)} (x1 : Int32) (M : Mem) (M' : Mem) (h : f_r_fail x1 M = some M') : am_Y S 0 0 0 am_M275 0 [(0, .ref 103), (1, .int x1)] [] (hp M) none (hp M') := by
  rw [f_r_fail] at h
  refine am_Y.run (k := 2) (pc' := 4) (lv' := [(0, .ref 103), (1, .int x1)]) (st' := [.int (gi M 103 1)]) (h' := hp M) rfl ?_
  refine am_Y.br (c := (gi M 103 1) = (0 : Int32)) _ (t := 7) (u := 35) (lv' := [(0, .ref 103), (1, .int x1)]) (st' := []) (h' := hp M) rfl (fun hc => ?_) (fun hc => ?_)
  · replace h := (if_pos hc).symm.trans h
    refine am_Y.run (k := 3) (pc' := 12) (lv' := [(0, .ref 103), (1, .int x1)]) (st' := []) (h' := hp (si M 103 1 x1)) rfl ?_
    obtain ⟨q1, e_q1, h⟩ := Option.bind_eq_some_iff.mp h
    rw [Option.some.inj e_q1]
    refine am_Y.run (k := 6) (pc' := 24) (lv' := [(0, .ref 103), (1, .int x1)]) (st' := [.int (gi q1 103 6), .ref 102, .ref 103]) (h' := hp q1) rfl ?_
    obtain ⟨g, h⟩ := am_itg h
    refine am_Y.iald (a := 97) (n := 301) rfl rfl g ?_
    refine am_Y.run (k := 5) (pc' := 35) (lv' := [(0, .ref 103), (1, .int x1)]) (st' := []) (h' := hp (si q1 103 2 (((gi q1 102 ((gi q1 103 6)).toNatClampNeg) >>> (6 : Int32)) &&& (511 : Int32)))) rfl ?_
    obtain ⟨q2, e_q2, h⟩ := Option.bind_eq_some_iff.mp h
    rw [Option.some.inj e_q2]
    refine am_Y.run (k := 3) (pc' := 41) (lv' := [(0, .ref 103), (1, .int x1)]) (st' := []) (h' := hp (si q2 103 7 (49 : Int32))) rfl ?_
    obtain ⟨q3, e_q3, h⟩ := Option.bind_eq_some_iff.mp h
    rw [Option.some.inj e_q3]
    obtain rfl := Option.some.inj h
    exact am_Y.ret rfl
  · replace h := (if_neg hc).symm.trans h
    refine am_Y.run (k := 3) (pc' := 41) (lv' := [(0, .ref 103), (1, .int x1)]) (st' := []) (h' := hp (si M 103 7 (49 : Int32))) rfl ?_
    obtain ⟨q4, e_q4, h⟩ := Option.bind_eq_some_iff.mp h
    rw [Option.some.inj e_q4]
    obtain rfl := Option.some.inj h
    exact am_Y.ret rfl
set_option maxRecDepth 100000 in
theorem t_r_advance {S : Nat × (Nat → Int32)} (M : Mem) (M' : Mem) (h : f_r_advance M = some M') : am_Y S 0 0 0 am_M276 0 [(0, .ref 103)] [] (hp M) none (hp M') := by
  rw [f_r_advance] at h
  refine am_Y.run (k := 2) (pc' := 4) (lv' := [(0, .ref 103)]) (st' := [.int (gi M 103 1)]) (h' := hp M) rfl ?_
  refine am_Y.br (c := (gi M 103 1) = (0 : Int32)) _ (t := 7) (u := 46) (lv' := [(0, .ref 103)]) (st' := []) (h' := hp M) rfl (fun hc => ?_) (fun hc => ?_)
  · replace h := (if_pos hc).symm.trans h
    refine am_Y.run (k := 3) (pc' := 14) (lv' := [(0, .ref 103)]) (st' := [.int (300 : Int32), .int (gi M 103 6)]) (h' := hp M) rfl ?_
    refine am_Y.br (c := (300 : Int32) ≤ (gi M 103 6)) _ (t := 46) (u := 17) (lv' := [(0, .ref 103)]) (st' := []) (h' := hp M) rfl (fun hc => ?_) (fun hc => ?_)
    · replace h := (if_pos hc).symm.trans h
      obtain rfl := Option.some.inj h
      exact am_Y.ret rfl
    · replace h := (if_neg hc).symm.trans h
      refine am_Y.run (k := 6) (pc' := 27) (lv' := [(0, .ref 103)]) (st' := []) (h' := hp (si M 103 6 ((gi M 103 6) + (1 : Int32)))) rfl ?_
      obtain ⟨q1, e_q1, h⟩ := Option.bind_eq_some_iff.mp h
      rw [Option.some.inj e_q1]
      refine am_Y.run (k := 6) (pc' := 39) (lv' := [(0, .ref 103)]) (st' := [.int (gi q1 103 6), .ref 102, .ref 103]) (h' := hp q1) rfl ?_
      obtain ⟨g, h⟩ := am_itg h
      refine am_Y.iald (a := 97) (n := 301) rfl rfl g ?_
      refine am_Y.run (k := 3) (pc' := 46) (lv' := [(0, .ref 103)]) (st' := []) (h' := hp (si q1 103 7 ((gi q1 102 ((gi q1 103 6)).toNatClampNeg) &&& (63 : Int32)))) rfl ?_
      obtain ⟨q2, e_q2, h⟩ := Option.bind_eq_some_iff.mp h
      rw [Option.some.inj e_q2]
      obtain rfl := Option.some.inj h
      exact am_Y.ret rfl
  · replace h := (if_neg hc).symm.trans h
    obtain rfl := Option.some.inj h
    exact am_Y.ret rfl
set_option maxRecDepth 100000 in
theorem t_r_expectNumber {S : Nat × (Nat → Int32)} (x1 : Int32) (x2 : Int32) (M : Mem) (r : Int32) (M' : Mem) (h : f_r_expectNumber x1 x2 M = some (r, M')) : am_Y S 1 0 0 am_M305 0 [(0, .ref 103), (1, .int x1), (2, .int x2)] [] (hp M) (some (.int r)) (hp M') := by
  rw [f_r_expectNumber] at h
  refine am_Y.run (k := 5) (pc' := 11) (lv' := [(0, .ref 103), (1, .int x1), (2, .int x2)]) (st' := [.int (gi M 103 6), .ref 102]) (h' := hp M) rfl ?_
  obtain ⟨g, h⟩ := am_itg h
  refine am_Y.iald (a := 97) (n := 301) rfl rfl g ?_
  refine am_Y.run (k := 6) (pc' := 22) (lv' := [(3, .int ((gi M 102 ((gi M 103 6)).toNatClampNeg) >>> (15 : Int32))), (0, .ref 103), (1, .int x1), (2, .int x2)]) (st' := [.int (33 : Int32), .int (gi M 103 7)]) (h' := hp M) rfl ?_
  refine am_Y.br (c := (gi M 103 7) = (33 : Int32)) _ (t := 33) (u := 25) (lv' := [(3, .int ((gi M 102 ((gi M 103 6)).toNatClampNeg) >>> (15 : Int32))), (0, .ref 103), (1, .int x1), (2, .int x2)]) (st' := []) (h' := hp M) rfl (fun hc => ?_) (fun hc => ?_)
  · replace h := (if_pos hc).symm.trans h
    refine am_Y.run (k := 2) (pc' := 35) (lv' := [(3, .int ((gi M 102 ((gi M 103 6)).toNatClampNeg) >>> (15 : Int32))), (0, .ref 103), (1, .int x1), (2, .int x2)]) (st' := [.int x1, .int ((gi M 102 ((gi M 103 6)).toNatClampNeg) >>> (15 : Int32))]) (h' := hp M) rfl ?_
    refine am_Y.br (c := ((gi M 102 ((gi M 103 6)).toNatClampNeg) >>> (15 : Int32)) < x1) _ (t := 43) (u := 38) (lv' := [(3, .int ((gi M 102 ((gi M 103 6)).toNatClampNeg) >>> (15 : Int32))), (0, .ref 103), (1, .int x1), (2, .int x2)]) (st' := []) (h' := hp M) rfl (fun hc => ?_) (fun hc => ?_)
    · replace h := (if_pos hc).symm.trans h
      refine am_Y.run (k := 2) (pc' := 45) (lv' := [(3, .int ((gi M 102 ((gi M 103 6)).toNatClampNeg) >>> (15 : Int32))), (0, .ref 103), (1, .int x1), (2, .int x2)]) (st' := [.int (2 : Int32), .ref 103]) (h' := hp M) rfl ?_
      obtain ⟨q1, e_q1, h⟩ := Option.bind_eq_some_iff.mp h
      refine am_Y.call0 (M' := am_M275) (as := [.ref 103, .int (2 : Int32)]) (rest := []) (d' := 0) rfl (by omega) rfl rfl (t_r_fail (2 : Int32) M q1 e_q1) ?_
      refine am_Y.run (k := 2) (pc' := 58) (lv' := [(3, .int ((gi M 102 ((gi M 103 6)).toNatClampNeg) >>> (15 : Int32))), (0, .ref 103), (1, .int x1), (2, .int x2)]) (st' := [.int x1]) (h' := hp q1) rfl ?_
      obtain ⟨rfl, rfl⟩ := Prod.mk.inj (Option.some.inj h)
      exact am_Y.ret rfl
    · replace h := (if_neg hc).symm.trans h
      refine am_Y.run (k := 2) (pc' := 40) (lv' := [(3, .int ((gi M 102 ((gi M 103 6)).toNatClampNeg) >>> (15 : Int32))), (0, .ref 103), (1, .int x1), (2, .int x2)]) (st' := [.int x2, .int ((gi M 102 ((gi M 103 6)).toNatClampNeg) >>> (15 : Int32))]) (h' := hp M) rfl ?_
      refine am_Y.br (c := ((gi M 102 ((gi M 103 6)).toNatClampNeg) >>> (15 : Int32)) ≤ x2) _ (t := 51) (u := 43) (lv' := [(3, .int ((gi M 102 ((gi M 103 6)).toNatClampNeg) >>> (15 : Int32))), (0, .ref 103), (1, .int x1), (2, .int x2)]) (st' := []) (h' := hp M) rfl (fun hc => ?_) (fun hc => ?_)
      · replace h := (if_pos hc).symm.trans h
        refine am_Y.run (k := 1) (pc' := 52) (lv' := [(3, .int ((gi M 102 ((gi M 103 6)).toNatClampNeg) >>> (15 : Int32))), (0, .ref 103), (1, .int x1), (2, .int x2)]) (st' := [.ref 103]) (h' := hp M) rfl ?_
        obtain ⟨q2, e_q2, h⟩ := Option.bind_eq_some_iff.mp h
        refine am_Y.call0 (M' := am_M276) (as := [.ref 103]) (rest := []) (d' := 0) rfl (by omega) rfl rfl (t_r_advance M q2 e_q2) ?_
        refine am_Y.run (k := 1) (pc' := 56) (lv' := [(3, .int ((gi M 102 ((gi M 103 6)).toNatClampNeg) >>> (15 : Int32))), (0, .ref 103), (1, .int x1), (2, .int x2)]) (st' := [.int ((gi M 102 ((gi M 103 6)).toNatClampNeg) >>> (15 : Int32))]) (h' := hp q2) rfl ?_
        obtain ⟨rfl, rfl⟩ := Prod.mk.inj (Option.some.inj h)
        exact am_Y.ret rfl
      · replace h := (if_neg hc).symm.trans h
        refine am_Y.run (k := 2) (pc' := 45) (lv' := [(3, .int ((gi M 102 ((gi M 103 6)).toNatClampNeg) >>> (15 : Int32))), (0, .ref 103), (1, .int x1), (2, .int x2)]) (st' := [.int (2 : Int32), .ref 103]) (h' := hp M) rfl ?_
        obtain ⟨q3, e_q3, h⟩ := Option.bind_eq_some_iff.mp h
        refine am_Y.call0 (M' := am_M275) (as := [.ref 103, .int (2 : Int32)]) (rest := []) (d' := 0) rfl (by omega) rfl rfl (t_r_fail (2 : Int32) M q3 e_q3) ?_
        refine am_Y.run (k := 2) (pc' := 58) (lv' := [(3, .int ((gi M 102 ((gi M 103 6)).toNatClampNeg) >>> (15 : Int32))), (0, .ref 103), (1, .int x1), (2, .int x2)]) (st' := [.int x1]) (h' := hp q3) rfl ?_
        obtain ⟨rfl, rfl⟩ := Prod.mk.inj (Option.some.inj h)
        exact am_Y.ret rfl
  · replace h := (if_neg hc).symm.trans h
    refine am_Y.run (k := 2) (pc' := 27) (lv' := [(3, .int ((gi M 102 ((gi M 103 6)).toNatClampNeg) >>> (15 : Int32))), (0, .ref 103), (1, .int x1), (2, .int x2)]) (st' := [.int (1 : Int32), .ref 103]) (h' := hp M) rfl ?_
    obtain ⟨q4, e_q4, h⟩ := Option.bind_eq_some_iff.mp h
    refine am_Y.call0 (M' := am_M275) (as := [.ref 103, .int (1 : Int32)]) (rest := []) (d' := 0) rfl (by omega) rfl rfl (t_r_fail (1 : Int32) M q4 e_q4) ?_
    refine am_Y.run (k := 2) (pc' := 58) (lv' := [(3, .int ((gi M 102 ((gi M 103 6)).toNatClampNeg) >>> (15 : Int32))), (0, .ref 103), (1, .int x1), (2, .int x2)]) (st' := [.int x1]) (h' := hp q4) rfl ?_
    obtain ⟨rfl, rfl⟩ := Prod.mk.inj (Option.some.inj h)
    exact am_Y.ret rfl
set_option maxRecDepth 100000 in
theorem t_p_put {S : Nat × (Nat → Int32)} (x1 : Int32) (x2 : Int32) (M : Mem) (M' : Mem) (h : f_p_put x1 x2 M = some M') : am_Y S 0 0 0 am_M303 0 [(0, .ref 104), (1, .int x1), (2, .int x2)] [] (hp M) none (hp M') := by
  rw [f_p_put] at h
  refine am_Y.run (k := 2) (pc' := 4) (lv' := [(0, .ref 104), (1, .int x1), (2, .int x2)]) (st' := [.int (gi M 104 3)]) (h' := hp M) rfl ?_
  refine am_Y.br (c := (gi M 104 3) < (0 : Int32)) _ (t := 42) (u := 7) (lv' := [(0, .ref 104), (1, .int x1), (2, .int x2)]) (st' := []) (h' := hp M) rfl (fun hc => ?_) (fun hc => ?_)
  · replace h := (if_pos hc).symm.trans h
    obtain rfl := Option.some.inj h
    exact am_Y.ret rfl
  · replace h := (if_neg hc).symm.trans h
    refine am_Y.run (k := 3) (pc' := 14) (lv' := [(0, .ref 104), (1, .int x1), (2, .int x2)]) (st' := [.int (300 : Int32), .int (gi M 104 3)]) (h' := hp M) rfl ?_
    refine am_Y.br (c := (300 : Int32) ≤ (gi M 104 3)) _ (t := 42) (u := 17) (lv' := [(0, .ref 104), (1, .int x1), (2, .int x2)]) (st' := []) (h' := hp M) rfl (fun hc => ?_) (fun hc => ?_)
    · replace h := (if_pos hc).symm.trans h
      obtain rfl := Option.some.inj h
      exact am_Y.ret rfl
    · replace h := (if_neg hc).symm.trans h
      refine am_Y.run (k := 9) (pc' := 31) (lv' := [(0, .ref 104), (1, .int x1), (2, .int x2)]) (st' := [.int (x1 ||| (x2 <<< (6 : Int32))), .int (gi M 104 3), .ref 105]) (h' := hp M) rfl ?_
      obtain ⟨g, h⟩ := am_itg h
      refine am_Y.iast (a := 100) (n := 300) rfl rfl g ?_
      refine am_Y.run (k := 0) (pc' := _) (lv' := [(0, .ref 104), (1, .int x1), (2, .int x2)]) (st' := []) (h' := hp (si M 105 ((gi M 104 3)).toNatClampNeg (x1 ||| (x2 <<< (6 : Int32))))) rfl ?_
      obtain ⟨q1, e_q1, h⟩ := Option.bind_eq_some_iff.mp h
      rw [Option.some.inj e_q1]
      refine am_Y.run (k := 6) (pc' := 42) (lv' := [(0, .ref 104), (1, .int x1), (2, .int x2)]) (st' := []) (h' := hp (si q1 104 3 ((gi q1 104 3) + (1 : Int32)))) rfl ?_
      obtain ⟨q2, e_q2, h⟩ := Option.bind_eq_some_iff.mp h
      rw [Option.some.inj e_q2]
      obtain rfl := Option.some.inj h
      exact am_Y.ret rfl
set_option maxRecDepth 100000 in
theorem t_r_readName {S : Nat × (Nat → Int32)} (M : Mem) (M' : Mem) (h : f_r_readName M = some M') : am_Y S 1 0 0 am_M330 0 [(0, .ref 103)] [] (hp M) none (hp M') := by
  rw [f_r_readName] at h
  refine am_Y.run (k := 4) (pc' := 7) (lv' := [(0, .ref 103)]) (st' := [.int (9 : Int32), .int (3 : Int32), .int (gi M 103 7)]) (h' := hp M) rfl ?_
  refine am_Y.call0 (M' := am_M102) (as := [.int (gi M 103 7), .int (3 : Int32), .int (9 : Int32)]) (rest := []) (d' := 0) rfl (by omega) rfl rfl (t_w_within (gi M 103 7) (3 : Int32) (9 : Int32) M _ rfl) ?_
  refine am_Y.run (k := 5) (pc' := 19) (lv' := [(1, .int (f_w_within (gi M 103 7) (3 : Int32) (9 : Int32) M)), (0, .ref 103)]) (st' := [.int (11 : Int32), .int (10 : Int32), .int (gi M 103 7)]) (h' := hp M) rfl ?_
  refine am_Y.call0 (M' := am_M102) (as := [.int (gi M 103 7), .int (10 : Int32), .int (11 : Int32)]) (rest := []) (d' := 0) rfl (by omega) rfl rfl (t_w_within (gi M 103 7) (10 : Int32) (11 : Int32) M _ rfl) ?_
  refine am_Y.run (k := 4) (pc' := 29) (lv' := [(2, .int (f_w_within (gi M 103 7) (10 : Int32) (11 : Int32) M)), (1, .int (f_w_within (gi M 103 7) (3 : Int32) (9 : Int32) M)), (0, .ref 103)]) (st' := [.int (14 : Int32), .int (gi M 103 5)]) (h' := hp M) rfl ?_
  refine am_Y.br (c := (gi M 103 5) = (14 : Int32)) _ (t := 32) (u := 39) (lv' := [(2, .int (f_w_within (gi M 103 7) (10 : Int32) (11 : Int32) M)), (1, .int (f_w_within (gi M 103 7) (3 : Int32) (9 : Int32) M)), (0, .ref 103)]) (st' := []) (h' := hp M) rfl (fun hc => ?_) (fun hc => ?_)
  · replace h := (if_pos hc).symm.trans h
    refine am_Y.run (k := 1) (pc' := 33) (lv' := [(2, .int (f_w_within (gi M 103 7) (10 : Int32) (11 : Int32) M)), (1, .int (f_w_within (gi M 103 7) (3 : Int32) (9 : Int32) M)), (0, .ref 103)]) (st' := [.int (f_w_within (gi M 103 7) (3 : Int32) (9 : Int32) M)]) (h' := hp M) rfl ?_
    refine am_Y.br (c := (f_w_within (gi M 103 7) (3 : Int32) (9 : Int32) M) = (0 : Int32)) _ (t := 51) (u := 36) (lv' := [(2, .int (f_w_within (gi M 103 7) (10 : Int32) (11 : Int32) M)), (1, .int (f_w_within (gi M 103 7) (3 : Int32) (9 : Int32) M)), (0, .ref 103)]) (st' := []) (h' := hp M) rfl (fun hc => ?_) (fun hc => ?_)
    · replace h := (if_pos hc).symm.trans h
      refine am_Y.run (k := 5) (pc' := 60) (lv' := [(2, .int (f_w_within (gi M 103 7) (10 : Int32) (11 : Int32) M)), (1, .int (f_w_within (gi M 103 7) (3 : Int32) (9 : Int32) M)), (0, .ref 103)]) (st' := [.int (0 : Int32), .int (gi M 103 7), .ref 104]) (h' := hp M) rfl ?_
      obtain ⟨q1, e_q1, h⟩ := Option.bind_eq_some_iff.mp h
      refine am_Y.call0 (M' := am_M303) (as := [.ref 104, .int (gi M 103 7), .int (0 : Int32)]) (rest := []) (d' := 0) rfl (by omega) rfl rfl (t_p_put (gi M 103 7) (0 : Int32) M q1 e_q1) ?_
      refine am_Y.run (k := 1) (pc' := 64) (lv' := [(2, .int (f_w_within (gi M 103 7) (10 : Int32) (11 : Int32) M)), (1, .int (f_w_within (gi M 103 7) (3 : Int32) (9 : Int32) M)), (0, .ref 103)]) (st' := [.ref 103]) (h' := hp q1) rfl ?_
      obtain ⟨q2, e_q2, h⟩ := Option.bind_eq_some_iff.mp h
      refine am_Y.call0 (M' := am_M276) (as := [.ref 103]) (rest := []) (d' := 0) rfl (by omega) rfl rfl (t_r_advance q1 q2 e_q2) ?_
      obtain rfl := Option.some.inj h
      exact am_Y.ret rfl
    · replace h := (if_neg hc).symm.trans h
      refine am_Y.run (k := 3) (pc' := 45) (lv' := [(2, .int (f_w_within (gi M 103 7) (10 : Int32) (11 : Int32) M)), (1, .int (f_w_within (gi M 103 7) (3 : Int32) (9 : Int32) M)), (0, .ref 103)]) (st' := [.int (5 : Int32), .ref 103]) (h' := hp M) rfl ?_
      obtain ⟨q3, e_q3, h⟩ := Option.bind_eq_some_iff.mp h
      refine am_Y.call0 (M' := am_M275) (as := [.ref 103, .int (5 : Int32)]) (rest := []) (d' := 0) rfl (by omega) rfl rfl (t_r_fail (5 : Int32) M q3 e_q3) ?_
      refine am_Y.run (k := 1) (pc' := 67) (lv' := [(2, .int (f_w_within (gi M 103 7) (10 : Int32) (11 : Int32) M)), (1, .int (f_w_within (gi M 103 7) (3 : Int32) (9 : Int32) M)), (0, .ref 103)]) (st' := []) (h' := hp q3) rfl ?_
      obtain rfl := Option.some.inj h
      exact am_Y.ret rfl
  · replace h := (if_neg hc).symm.trans h
    refine am_Y.run (k := 1) (pc' := 40) (lv' := [(2, .int (f_w_within (gi M 103 7) (10 : Int32) (11 : Int32) M)), (1, .int (f_w_within (gi M 103 7) (3 : Int32) (9 : Int32) M)), (0, .ref 103)]) (st' := [.int (f_w_within (gi M 103 7) (10 : Int32) (11 : Int32) M)]) (h' := hp M) rfl ?_
    refine am_Y.br (c := (f_w_within (gi M 103 7) (10 : Int32) (11 : Int32) M) = (0 : Int32)) _ (t := 51) (u := 43) (lv' := [(2, .int (f_w_within (gi M 103 7) (10 : Int32) (11 : Int32) M)), (1, .int (f_w_within (gi M 103 7) (3 : Int32) (9 : Int32) M)), (0, .ref 103)]) (st' := []) (h' := hp M) rfl (fun hc => ?_) (fun hc => ?_)
    · replace h := (if_pos hc).symm.trans h
      refine am_Y.run (k := 5) (pc' := 60) (lv' := [(2, .int (f_w_within (gi M 103 7) (10 : Int32) (11 : Int32) M)), (1, .int (f_w_within (gi M 103 7) (3 : Int32) (9 : Int32) M)), (0, .ref 103)]) (st' := [.int (0 : Int32), .int (gi M 103 7), .ref 104]) (h' := hp M) rfl ?_
      obtain ⟨q4, e_q4, h⟩ := Option.bind_eq_some_iff.mp h
      refine am_Y.call0 (M' := am_M303) (as := [.ref 104, .int (gi M 103 7), .int (0 : Int32)]) (rest := []) (d' := 0) rfl (by omega) rfl rfl (t_p_put (gi M 103 7) (0 : Int32) M q4 e_q4) ?_
      refine am_Y.run (k := 1) (pc' := 64) (lv' := [(2, .int (f_w_within (gi M 103 7) (10 : Int32) (11 : Int32) M)), (1, .int (f_w_within (gi M 103 7) (3 : Int32) (9 : Int32) M)), (0, .ref 103)]) (st' := [.ref 103]) (h' := hp q4) rfl ?_
      obtain ⟨q5, e_q5, h⟩ := Option.bind_eq_some_iff.mp h
      refine am_Y.call0 (M' := am_M276) (as := [.ref 103]) (rest := []) (d' := 0) rfl (by omega) rfl rfl (t_r_advance q4 q5 e_q5) ?_
      obtain rfl := Option.some.inj h
      exact am_Y.ret rfl
    · replace h := (if_neg hc).symm.trans h
      refine am_Y.run (k := 2) (pc' := 45) (lv' := [(2, .int (f_w_within (gi M 103 7) (10 : Int32) (11 : Int32) M)), (1, .int (f_w_within (gi M 103 7) (3 : Int32) (9 : Int32) M)), (0, .ref 103)]) (st' := [.int (5 : Int32), .ref 103]) (h' := hp M) rfl ?_
      obtain ⟨q6, e_q6, h⟩ := Option.bind_eq_some_iff.mp h
      refine am_Y.call0 (M' := am_M275) (as := [.ref 103, .int (5 : Int32)]) (rest := []) (d' := 0) rfl (by omega) rfl rfl (t_r_fail (5 : Int32) M q6 e_q6) ?_
      refine am_Y.run (k := 1) (pc' := 67) (lv' := [(2, .int (f_w_within (gi M 103 7) (10 : Int32) (11 : Int32) M)), (1, .int (f_w_within (gi M 103 7) (3 : Int32) (9 : Int32) M)), (0, .ref 103)]) (st' := []) (h' := hp q6) rfl ?_
      obtain rfl := Option.some.inj h
      exact am_Y.ret rfl
set_option maxRecDepth 100000 in
theorem t_r_readProduct_32 {S : Nat × (Nat → Int32)} (N : Nat) (RO : Int32 → Mem → Option Mem) (dO : Nat) (hRO : ∀ (x1 : Int32) (M M2 : Mem), RO x1 M = some M2 → am_Y S dO 0 0 am_M324 0 [(0, .ref 103), (1, .int x1)] [] (hp M) none (hp M2)) (K7 : Int32 → Int32 → Mem → Option Mem) (hK7 : ∀ (x1 : Int32) (x2 : Int32) (M : Mem) (M' : Mem), K7 x1 x2 M = some M' → am_Y S (dO + 1) 0 0 am_M304 7 [(0, .ref 103), (1, .int x1), (2, .int x2)] [] (hp M) none (hp M')) (x1 : Int32) (x2 : Int32) (M : Mem) (M' : Mem) (h : f_r_readProduct_32 N RO K7 x1 x2 M = some M') : am_Y S (dO + 1) 0 0 am_M304 32 [(0, .ref 103), (1, .int x1), (2, .int x2)] [] (hp M) none (hp M') := by
  rw [f_r_readProduct_32] at h
  refine am_Y.run (k := 4) (pc' := 38) (lv' := [(3, .int (gi M 103 7)), (0, .ref 103), (1, .int x1), (2, .int x2)]) (st' := [.ref 103]) (h' := hp M) rfl ?_
  obtain ⟨q2, e_q2, h⟩ := Option.bind_eq_some_iff.mp h
  refine am_Y.call0 (M' := am_M276) (as := [.ref 103]) (rest := []) (d' := 0) rfl (by omega) rfl rfl (t_r_advance M q2 e_q2) ?_
  refine am_Y.run (k := 2) (pc' := 43) (lv' := [(3, .int (gi M 103 7)), (0, .ref 103), (1, .int x1), (2, .int x2)]) (st' := [.int x1, .ref 103]) (h' := hp q2) rfl ?_
  obtain ⟨q3, e_q3, h⟩ := Option.bind_eq_some_iff.mp h
  refine am_Y.call0 (M' := am_M324) (as := [.ref 103, .int x1]) (rest := []) (d' := dO) rfl (by omega) rfl rfl (hRO x1 q2 q3 e_q3) ?_
  refine am_Y.run (k := 4) (pc' := 52) (lv' := [(3, .int (gi M 103 7)), (0, .ref 103), (1, .int x1), (2, .int x2)]) (st' := [.int (0 : Int32), .int (gi M 103 7), .ref 104]) (h' := hp q3) rfl ?_
  obtain ⟨q4, e_q4, h⟩ := Option.bind_eq_some_iff.mp h
  refine am_Y.call0 (M' := am_M303) (as := [.ref 104, .int (gi M 103 7), .int (0 : Int32)]) (rest := []) (d' := 0) rfl (by omega) rfl rfl (t_p_put (gi M 103 7) (0 : Int32) q3 q4 e_q4) ?_
  refine am_Y.run (k := 2) (pc' := 7) (lv' := [(2, .int (x2 + (1 : Int32))), (3, .int (gi M 103 7)), (0, .ref 103), (1, .int x1)]) (st' := []) (h' := hp q4) rfl ?_
  refine am_Y.weak (lv2 := [(0, .ref 103), (1, .int x1), (2, .int (x2 + (1 : Int32)))]) rfl rfl ⟨rfl, rfl, rfl, trivial⟩ ?_
  exact hK7 x1 (x2 + (1 : Int32)) q4 _ h
set_option maxRecDepth 100000 in
theorem t_r_readProduct_7 {S : Nat × (Nat → Int32)} (N : Nat) (RO : Int32 → Mem → Option Mem) (dO : Nat) (hRO : ∀ (x1 : Int32) (M M2 : Mem), RO x1 M = some M2 → am_Y S dO 0 0 am_M324 0 [(0, .ref 103), (1, .int x1)] [] (hp M) none (hp M2)) : ∀ (n : Nat) (x1 : Int32) (x2 : Int32) (M : Mem) (M' : Mem), f_r_readProduct_7 N RO n x1 x2 M = some M' → am_Y S (dO + 1) 0 0 am_M304 7 [(0, .ref 103), (1, .int x1), (2, .int x2)] [] (hp M) none (hp M') := by
  intro n
  induction n with
  | zero =>
    intro x1 x2 M M' h
    cases h
  | succ n ih =>
    intro x1 x2 M M' h
    rw [f_r_readProduct_7] at h
    refine am_Y.run (k := 2) (pc' := 11) (lv' := [(0, .ref 103), (1, .int x1), (2, .int x2)]) (st' := [.int (300 : Int32), .int x2]) (h' := hp M) rfl ?_
    refine am_Y.br (c := (300 : Int32) ≤ x2) _ (t := 61) (u := 14) (lv' := [(0, .ref 103), (1, .int x1), (2, .int x2)]) (st' := []) (h' := hp M) rfl (fun hc => ?_) (fun hc => ?_)
    · replace h := (if_pos hc).symm.trans h
      obtain rfl := Option.some.inj h
      exact am_Y.ret rfl
    · replace h := (if_neg hc).symm.trans h
      refine am_Y.run (k := 3) (pc' := 20) (lv' := [(0, .ref 103), (1, .int x1), (2, .int x2)]) (st' := [.int (40 : Int32), .int (gi M 103 7)]) (h' := hp M) rfl ?_
      refine am_Y.br (c := (gi M 103 7) = (40 : Int32)) _ (t := 32) (u := 23) (lv' := [(0, .ref 103), (1, .int x1), (2, .int x2)]) (st' := []) (h' := hp M) rfl (fun hc => ?_) (fun hc => ?_)
      · replace h := (if_pos hc).symm.trans h
        refine am_Y.weak (lv2 := [(0, .ref 103), (1, .int x1), (2, .int x2)]) rfl rfl ⟨rfl, rfl, rfl, trivial⟩ ?_
        exact t_r_readProduct_32 N RO dO hRO _ ih x1 x2 M _ h
      · replace h := (if_neg hc).symm.trans h
        refine am_Y.run (k := 3) (pc' := 29) (lv' := [(0, .ref 103), (1, .int x1), (2, .int x2)]) (st' := [.int (41 : Int32), .int (gi M 103 7)]) (h' := hp M) rfl ?_
        refine am_Y.br (c := (gi M 103 7) = (41 : Int32)) _ (t := 32) (u := 61) (lv' := [(0, .ref 103), (1, .int x1), (2, .int x2)]) (st' := []) (h' := hp M) rfl (fun hc => ?_) (fun hc => ?_)
        · replace h := (if_pos hc).symm.trans h
          refine am_Y.weak (lv2 := [(0, .ref 103), (1, .int x1), (2, .int x2)]) rfl rfl ⟨rfl, rfl, rfl, trivial⟩ ?_
          exact t_r_readProduct_32 N RO dO hRO _ ih x1 x2 M _ h
        · replace h := (if_neg hc).symm.trans h
          obtain rfl := Option.some.inj h
          exact am_Y.ret rfl
set_option maxRecDepth 100000 in
theorem t_r_readProduct {S : Nat × (Nat → Int32)} (N : Nat) (RO : Int32 → Mem → Option Mem) (dO : Nat) (hRO : ∀ (x1 : Int32) (M M2 : Mem), RO x1 M = some M2 → am_Y S dO 0 0 am_M324 0 [(0, .ref 103), (1, .int x1)] [] (hp M) none (hp M2)) (x1 : Int32) (M : Mem) (M' : Mem) (h : f_r_readProduct N RO x1 M = some M') : am_Y S (dO + 1) 0 0 am_M304 0 [(0, .ref 103), (1, .int x1)] [] (hp M) none (hp M') := by
  rw [f_r_readProduct] at h
  refine am_Y.run (k := 2) (pc' := 2) (lv' := [(0, .ref 103), (1, .int x1)]) (st' := [.int x1, .ref 103]) (h' := hp M) rfl ?_
  obtain ⟨q1, e_q1, h⟩ := Option.bind_eq_some_iff.mp h
  refine am_Y.call0 (M' := am_M324) (as := [.ref 103, .int x1]) (rest := []) (d' := dO) rfl (by omega) rfl rfl (hRO x1 M q1 e_q1) ?_
  refine am_Y.run (k := 2) (pc' := 7) (lv' := [(2, .int (0 : Int32)), (0, .ref 103), (1, .int x1)]) (st' := []) (h' := hp q1) rfl ?_
  refine am_Y.weak (lv2 := [(0, .ref 103), (1, .int x1), (2, .int (0 : Int32))]) rfl rfl ⟨rfl, rfl, rfl, trivial⟩ ?_
  exact t_r_readProduct_7 N RO dO hRO N x1 (0 : Int32) q1 _ h
set_option maxRecDepth 100000 in
theorem t_r_readSum_32 {S : Nat × (Nat → Int32)} (N : Nat) (RO : Int32 → Mem → Option Mem) (dO : Nat) (hRO : ∀ (x1 : Int32) (M M2 : Mem), RO x1 M = some M2 → am_Y S dO 0 0 am_M324 0 [(0, .ref 103), (1, .int x1)] [] (hp M) none (hp M2)) (K7 : Int32 → Int32 → Mem → Option Mem) (hK7 : ∀ (x1 : Int32) (x2 : Int32) (M : Mem) (M' : Mem), K7 x1 x2 M = some M' → am_Y S (dO + 2) 0 0 am_M279 7 [(0, .ref 103), (1, .int x1), (2, .int x2)] [] (hp M) none (hp M')) (x1 : Int32) (x2 : Int32) (M : Mem) (M' : Mem) (h : f_r_readSum_32 N RO K7 x1 x2 M = some M') : am_Y S (dO + 2) 0 0 am_M279 32 [(0, .ref 103), (1, .int x1), (2, .int x2)] [] (hp M) none (hp M') := by
  rw [f_r_readSum_32] at h
  refine am_Y.run (k := 4) (pc' := 38) (lv' := [(3, .int (gi M 103 7)), (0, .ref 103), (1, .int x1), (2, .int x2)]) (st' := [.ref 103]) (h' := hp M) rfl ?_
  obtain ⟨q2, e_q2, h⟩ := Option.bind_eq_some_iff.mp h
  refine am_Y.call0 (M' := am_M276) (as := [.ref 103]) (rest := []) (d' := 0) rfl (by omega) rfl rfl (t_r_advance M q2 e_q2) ?_
  refine am_Y.run (k := 2) (pc' := 43) (lv' := [(3, .int (gi M 103 7)), (0, .ref 103), (1, .int x1), (2, .int x2)]) (st' := [.int x1, .ref 103]) (h' := hp q2) rfl ?_
  obtain ⟨q3, e_q3, h⟩ := Option.bind_eq_some_iff.mp h
  refine am_Y.call0 (M' := am_M304) (as := [.ref 103, .int x1]) (rest := []) (d' := dO + 1) rfl (by omega) rfl rfl (t_r_readProduct N RO dO hRO x1 q2 q3 e_q3) ?_
  refine am_Y.run (k := 4) (pc' := 52) (lv' := [(3, .int (gi M 103 7)), (0, .ref 103), (1, .int x1), (2, .int x2)]) (st' := [.int (0 : Int32), .int (gi M 103 7), .ref 104]) (h' := hp q3) rfl ?_
  obtain ⟨q4, e_q4, h⟩ := Option.bind_eq_some_iff.mp h
  refine am_Y.call0 (M' := am_M303) (as := [.ref 104, .int (gi M 103 7), .int (0 : Int32)]) (rest := []) (d' := 0) rfl (by omega) rfl rfl (t_p_put (gi M 103 7) (0 : Int32) q3 q4 e_q4) ?_
  refine am_Y.run (k := 2) (pc' := 7) (lv' := [(2, .int (x2 + (1 : Int32))), (3, .int (gi M 103 7)), (0, .ref 103), (1, .int x1)]) (st' := []) (h' := hp q4) rfl ?_
  refine am_Y.weak (lv2 := [(0, .ref 103), (1, .int x1), (2, .int (x2 + (1 : Int32)))]) rfl rfl ⟨rfl, rfl, rfl, trivial⟩ ?_
  exact hK7 x1 (x2 + (1 : Int32)) q4 _ h
set_option maxRecDepth 100000 in
theorem t_r_readSum_7 {S : Nat × (Nat → Int32)} (N : Nat) (RO : Int32 → Mem → Option Mem) (dO : Nat) (hRO : ∀ (x1 : Int32) (M M2 : Mem), RO x1 M = some M2 → am_Y S dO 0 0 am_M324 0 [(0, .ref 103), (1, .int x1)] [] (hp M) none (hp M2)) : ∀ (n : Nat) (x1 : Int32) (x2 : Int32) (M : Mem) (M' : Mem), f_r_readSum_7 N RO n x1 x2 M = some M' → am_Y S (dO + 2) 0 0 am_M279 7 [(0, .ref 103), (1, .int x1), (2, .int x2)] [] (hp M) none (hp M') := by
  intro n
  induction n with
  | zero =>
    intro x1 x2 M M' h
    cases h
  | succ n ih =>
    intro x1 x2 M M' h
    rw [f_r_readSum_7] at h
    refine am_Y.run (k := 2) (pc' := 11) (lv' := [(0, .ref 103), (1, .int x1), (2, .int x2)]) (st' := [.int (300 : Int32), .int x2]) (h' := hp M) rfl ?_
    refine am_Y.br (c := (300 : Int32) ≤ x2) _ (t := 61) (u := 14) (lv' := [(0, .ref 103), (1, .int x1), (2, .int x2)]) (st' := []) (h' := hp M) rfl (fun hc => ?_) (fun hc => ?_)
    · replace h := (if_pos hc).symm.trans h
      obtain rfl := Option.some.inj h
      exact am_Y.ret rfl
    · replace h := (if_neg hc).symm.trans h
      refine am_Y.run (k := 3) (pc' := 20) (lv' := [(0, .ref 103), (1, .int x1), (2, .int x2)]) (st' := [.int (38 : Int32), .int (gi M 103 7)]) (h' := hp M) rfl ?_
      refine am_Y.br (c := (gi M 103 7) = (38 : Int32)) _ (t := 32) (u := 23) (lv' := [(0, .ref 103), (1, .int x1), (2, .int x2)]) (st' := []) (h' := hp M) rfl (fun hc => ?_) (fun hc => ?_)
      · replace h := (if_pos hc).symm.trans h
        refine am_Y.weak (lv2 := [(0, .ref 103), (1, .int x1), (2, .int x2)]) rfl rfl ⟨rfl, rfl, rfl, trivial⟩ ?_
        exact t_r_readSum_32 N RO dO hRO _ ih x1 x2 M _ h
      · replace h := (if_neg hc).symm.trans h
        refine am_Y.run (k := 3) (pc' := 29) (lv' := [(0, .ref 103), (1, .int x1), (2, .int x2)]) (st' := [.int (39 : Int32), .int (gi M 103 7)]) (h' := hp M) rfl ?_
        refine am_Y.br (c := (gi M 103 7) = (39 : Int32)) _ (t := 32) (u := 61) (lv' := [(0, .ref 103), (1, .int x1), (2, .int x2)]) (st' := []) (h' := hp M) rfl (fun hc => ?_) (fun hc => ?_)
        · replace h := (if_pos hc).symm.trans h
          refine am_Y.weak (lv2 := [(0, .ref 103), (1, .int x1), (2, .int x2)]) rfl rfl ⟨rfl, rfl, rfl, trivial⟩ ?_
          exact t_r_readSum_32 N RO dO hRO _ ih x1 x2 M _ h
        · replace h := (if_neg hc).symm.trans h
          obtain rfl := Option.some.inj h
          exact am_Y.ret rfl
set_option maxRecDepth 100000 in
theorem t_r_readSum {S : Nat × (Nat → Int32)} (N : Nat) (RO : Int32 → Mem → Option Mem) (dO : Nat) (hRO : ∀ (x1 : Int32) (M M2 : Mem), RO x1 M = some M2 → am_Y S dO 0 0 am_M324 0 [(0, .ref 103), (1, .int x1)] [] (hp M) none (hp M2)) (x1 : Int32) (M : Mem) (M' : Mem) (h : f_r_readSum N RO x1 M = some M') : am_Y S (dO + 2) 0 0 am_M279 0 [(0, .ref 103), (1, .int x1)] [] (hp M) none (hp M') := by
  rw [f_r_readSum] at h
  refine am_Y.run (k := 2) (pc' := 2) (lv' := [(0, .ref 103), (1, .int x1)]) (st' := [.int x1, .ref 103]) (h' := hp M) rfl ?_
  obtain ⟨q1, e_q1, h⟩ := Option.bind_eq_some_iff.mp h
  refine am_Y.call0 (M' := am_M304) (as := [.ref 103, .int x1]) (rest := []) (d' := dO + 1) rfl (by omega) rfl rfl (t_r_readProduct N RO dO hRO x1 M q1 e_q1) ?_
  refine am_Y.run (k := 2) (pc' := 7) (lv' := [(2, .int (0 : Int32)), (0, .ref 103), (1, .int x1)]) (st' := []) (h' := hp q1) rfl ?_
  refine am_Y.weak (lv2 := [(0, .ref 103), (1, .int x1), (2, .int (0 : Int32))]) rfl rfl ⟨rfl, rfl, rfl, trivial⟩ ?_
  exact t_r_readSum_7 N RO dO hRO N x1 (0 : Int32) q1 _ h
set_option maxRecDepth 100000 in
theorem t_r_expect {S : Nat × (Nat → Int32)} (x1 : Int32) (M : Mem) (M' : Mem) (h : f_r_expect x1 M = some M') : am_Y S 1 0 0 am_M281 0 [(0, .ref 103), (1, .int x1)] [] (hp M) none (hp M') := by
  rw [f_r_expect] at h
  refine am_Y.run (k := 3) (pc' := 5) (lv' := [(0, .ref 103), (1, .int x1)]) (st' := [.int x1, .int (gi M 103 7)]) (h' := hp M) rfl ?_
  refine am_Y.br (c := (gi M 103 7) = x1) _ (t := 8) (u := 15) (lv' := [(0, .ref 103), (1, .int x1)]) (st' := []) (h' := hp M) rfl (fun hc => ?_) (fun hc => ?_)
  · replace h := (if_pos hc).symm.trans h
    refine am_Y.run (k := 1) (pc' := 9) (lv' := [(0, .ref 103), (1, .int x1)]) (st' := [.ref 103]) (h' := hp M) rfl ?_
    obtain ⟨q1, e_q1, h⟩ := Option.bind_eq_some_iff.mp h
    refine am_Y.call0 (M' := am_M276) (as := [.ref 103]) (rest := []) (d' := 0) rfl (by omega) rfl rfl (t_r_advance M q1 e_q1) ?_
    refine am_Y.run (k := 1) (pc' := 20) (lv' := [(0, .ref 103), (1, .int x1)]) (st' := []) (h' := hp q1) rfl ?_
    obtain rfl := Option.some.inj h
    exact am_Y.ret rfl
  · replace h := (if_neg hc).symm.trans h
    refine am_Y.run (k := 2) (pc' := 17) (lv' := [(0, .ref 103), (1, .int x1)]) (st' := [.int (1 : Int32), .ref 103]) (h' := hp M) rfl ?_
    obtain ⟨q2, e_q2, h⟩ := Option.bind_eq_some_iff.mp h
    refine am_Y.call0 (M' := am_M275) (as := [.ref 103, .int (1 : Int32)]) (rest := []) (d' := 0) rfl (by omega) rfl rfl (t_r_fail (1 : Int32) M q2 e_q2) ?_
    obtain rfl := Option.some.inj h
    exact am_Y.ret rfl
set_option maxRecDepth 100000 in
theorem t_p_aim {S : Nat × (Nat → Int32)} (x1 : Int32) (x2 : Int32) (M : Mem) (M' : Mem) (h : f_p_aim x1 x2 M = some M') : am_Y S 0 0 0 am_M341 0 [(0, .ref 104), (1, .int x1), (2, .int x2)] [] (hp M) none (hp M') := by
  rw [f_p_aim] at h
  refine am_Y.run (k := 1) (pc' := 1) (lv' := [(0, .ref 104), (1, .int x1), (2, .int x2)]) (st' := [.int x1]) (h' := hp M) rfl ?_
  refine am_Y.br (c := x1 < (0 : Int32)) _ (t := 39) (u := 4) (lv' := [(0, .ref 104), (1, .int x1), (2, .int x2)]) (st' := []) (h' := hp M) rfl (fun hc => ?_) (fun hc => ?_)
  · replace h := (if_pos hc).symm.trans h
    obtain rfl := Option.some.inj h
    exact am_Y.ret rfl
  · replace h := (if_neg hc).symm.trans h
    refine am_Y.run (k := 3) (pc' := 9) (lv' := [(0, .ref 104), (1, .int x1), (2, .int x2)]) (st' := [.int (gi M 104 3), .int x1]) (h' := hp M) rfl ?_
    refine am_Y.br (c := (gi M 104 3) ≤ x1) _ (t := 39) (u := 12) (lv' := [(0, .ref 104), (1, .int x1), (2, .int x2)]) (st' := []) (h' := hp M) rfl (fun hc => ?_) (fun hc => ?_)
    · replace h := (if_pos hc).symm.trans h
      obtain rfl := Option.some.inj h
      exact am_Y.ret rfl
    · replace h := (if_neg hc).symm.trans h
      refine am_Y.run (k := 2) (pc' := 16) (lv' := [(0, .ref 104), (1, .int x1), (2, .int x2)]) (st' := [.int (300 : Int32), .int x1]) (h' := hp M) rfl ?_
      refine am_Y.br (c := (300 : Int32) ≤ x1) _ (t := 39) (u := 19) (lv' := [(0, .ref 104), (1, .int x1), (2, .int x2)]) (st' := []) (h' := hp M) rfl (fun hc => ?_) (fun hc => ?_)
      · replace h := (if_pos hc).symm.trans h
        obtain rfl := Option.some.inj h
        exact am_Y.ret rfl
      · replace h := (if_neg hc).symm.trans h
        refine am_Y.run (k := 6) (pc' := 29) (lv' := [(0, .ref 104), (1, .int x1), (2, .int x2)]) (st' := [.int x1, .ref 105, .int x1, .ref 105]) (h' := hp M) rfl ?_
        obtain ⟨g, h⟩ := am_itg h
        refine am_Y.iald (a := 100) (n := 300) rfl rfl g ?_
        refine am_Y.run (k := 6) (pc' := 38) (lv' := [(0, .ref 104), (1, .int x1), (2, .int x2)]) (st' := [.int (((gi M 105 (x1).toNatClampNeg) &&& (63 : Int32)) ||| (x2 <<< (6 : Int32))), .int x1, .ref 105]) (h' := hp M) rfl ?_
        obtain ⟨g, h⟩ := am_itg h
        refine am_Y.iast (a := 100) (n := 300) rfl rfl g ?_
        refine am_Y.run (k := 0) (pc' := _) (lv' := [(0, .ref 104), (1, .int x1), (2, .int x2)]) (st' := []) (h' := hp (si M 105 (x1).toNatClampNeg (((gi M 105 (x1).toNatClampNeg) &&& (63 : Int32)) ||| (x2 <<< (6 : Int32))))) rfl ?_
        obtain ⟨q1, e_q1, h⟩ := Option.bind_eq_some_iff.mp h
        rw [Option.some.inj e_q1]
        obtain rfl := Option.some.inj h
        exact am_Y.ret rfl
set_option maxRecDepth 100000 in
theorem t_r_readCase_73 {S : Nat × (Nat → Int32)} (N : Nat) (RO : Int32 → Mem → Option Mem) (dO : Nat) (hRO : ∀ (x1 : Int32) (M M2 : Mem), RO x1 M = some M2 → am_Y S dO 0 0 am_M324 0 [(0, .ref 103), (1, .int x1)] [] (hp M) none (hp M2)) (x1 : Int32) (x2 : Int32) (x3 : Int32) (x4 : Int32) (M : Mem) (r : Int32) (M' : Mem) (h : f_r_readCase_73 N RO x1 x2 x3 x4 M = some (r, M')) : am_Y S (dO + 3) 0 0 am_M340 73 [(0, .ref 103), (1, .int x1), (2, .int x2), (3, .int x3), (4, .int x4)] [] (hp M) (some (.int r)) (hp M') := by
  rw [f_r_readCase_73] at h
  refine am_Y.run (k := 2) (pc' := 76) (lv' := [(0, .ref 103), (1, .int x1), (2, .int x2), (3, .int x3), (4, .int x4)]) (st' := [.int (44 : Int32), .ref 103]) (h' := hp M) rfl ?_
  obtain ⟨q8, e_q8, h⟩ := Option.bind_eq_some_iff.mp h
  refine am_Y.call0 (M' := am_M281) (as := [.ref 103, .int (44 : Int32)]) (rest := []) (d' := 1) rfl (by omega) rfl rfl (t_r_expect (44 : Int32) M q8 e_q8) ?_
  refine am_Y.run (k := 4) (pc' := 86) (lv' := [(0, .ref 103), (1, .int x1), (2, .int x2), (3, .int x3), (4, .int x4)]) (st' := [.int x3, .int (28 : Int32), .ref 104]) (h' := hp q8) rfl ?_
  obtain ⟨q9, e_q9, h⟩ := Option.bind_eq_some_iff.mp h
  refine am_Y.call0 (M' := am_M303) (as := [.ref 104, .int (28 : Int32), .int x3]) (rest := []) (d' := 0) rfl (by omega) rfl rfl (t_p_put (28 : Int32) x3 q8 q9 e_q9) ?_
  refine am_Y.run (k := 4) (pc' := 97) (lv' := [(0, .ref 103), (1, .int x1), (2, .int x2), (3, .int x3), (4, .int x4)]) (st' := [.int x4, .int (54 : Int32), .ref 104]) (h' := hp q9) rfl ?_
  obtain ⟨q10, e_q10, h⟩ := Option.bind_eq_some_iff.mp h
  refine am_Y.call0 (M' := am_M303) (as := [.ref 104, .int (54 : Int32), .int x4]) (rest := []) (d' := 0) rfl (by omega) rfl rfl (t_p_put (54 : Int32) x4 q9 q10 e_q10) ?_
  refine am_Y.run (k := 8) (pc' := 116) (lv' := [(5, .int (gi q10 104 3)), (0, .ref 103), (1, .int x1), (2, .int x2), (3, .int x3), (4, .int x4)]) (st' := [.int (0 : Int32), .int (55 : Int32), .ref 104]) (h' := hp q10) rfl ?_
  obtain ⟨q11, e_q11, h⟩ := Option.bind_eq_some_iff.mp h
  refine am_Y.call0 (M' := am_M303) (as := [.ref 104, .int (55 : Int32), .int (0 : Int32)]) (rest := []) (d' := 0) rfl (by omega) rfl rfl (t_p_put (55 : Int32) (0 : Int32) q10 q11 e_q11) ?_
  refine am_Y.run (k := 2) (pc' := 121) (lv' := [(5, .int (gi q10 104 3)), (0, .ref 103), (1, .int x1), (2, .int x2), (3, .int x3), (4, .int x4)]) (st' := [.int x1, .ref 103]) (h' := hp q11) rfl ?_
  obtain ⟨q12, e_q12, h⟩ := Option.bind_eq_some_iff.mp h
  refine am_Y.call0 (M' := am_M279) (as := [.ref 103, .int x1]) (rest := []) (d' := dO + 2) rfl (by omega) rfl rfl (t_r_readSum N RO dO hRO x1 q11 q12 e_q12) ?_
  refine am_Y.run (k := 10) (pc' := 142) (lv' := [(6, .int (gi q12 104 3)), (5, .int (gi q10 104 3)), (0, .ref 103), (1, .int x1), (2, .int x2), (3, .int x3), (4, .int x4)]) (st' := [.int (x2 + (1 : Int32)), .int (51 : Int32), .ref 104]) (h' := hp q12) rfl ?_
  obtain ⟨q13, e_q13, h⟩ := Option.bind_eq_some_iff.mp h
  refine am_Y.call0 (M' := am_M303) (as := [.ref 104, .int (51 : Int32), .int (x2 + (1 : Int32))]) (rest := []) (d' := 0) rfl (by omega) rfl rfl (t_p_put (51 : Int32) (x2 + (1 : Int32)) q12 q13 e_q13) ?_
  refine am_Y.run (k := 6) (pc' := 158) (lv' := [(6, .int (gi q12 104 3)), (5, .int (gi q10 104 3)), (0, .ref 103), (1, .int x1), (2, .int x2), (3, .int x3), (4, .int x4)]) (st' := [.int (gi q13 104 3), .int (gi q10 104 3), .ref 104]) (h' := hp q13) rfl ?_
  obtain ⟨q14, e_q14, h⟩ := Option.bind_eq_some_iff.mp h
  refine am_Y.call0 (M' := am_M341) (as := [.ref 104, .int (gi q10 104 3), .int (gi q13 104 3)]) (rest := []) (d' := 0) rfl (by omega) rfl rfl (t_p_aim (gi q10 104 3) (gi q13 104 3) q13 q14 e_q14) ?_
  refine am_Y.run (k := 1) (pc' := 163) (lv' := [(6, .int (gi q12 104 3)), (5, .int (gi q10 104 3)), (0, .ref 103), (1, .int x1), (2, .int x2), (3, .int x3), (4, .int x4)]) (st' := [.int (gi q12 104 3)]) (h' := hp q14) rfl ?_
  obtain ⟨rfl, rfl⟩ := Prod.mk.inj (Option.some.inj h)
  exact am_Y.ret rfl
set_option maxRecDepth 100000 in
theorem t_r_readCase {S : Nat × (Nat → Int32)} (N : Nat) (RO : Int32 → Mem → Option Mem) (dO : Nat) (hRO : ∀ (x1 : Int32) (M M2 : Mem), RO x1 M = some M2 → am_Y S dO 0 0 am_M324 0 [(0, .ref 103), (1, .int x1)] [] (hp M) none (hp M2)) (x1 : Int32) (x2 : Int32) (M : Mem) (r : Int32) (M' : Mem) (h : f_r_readCase N RO x1 x2 M = some (r, M')) : am_Y S (dO + 3) 0 0 am_M340 0 [(0, .ref 103), (1, .int x1), (2, .int x2)] [] (hp M) (some (.int r)) (hp M') := by
  rw [f_r_readCase] at h
  refine am_Y.run (k := 1) (pc' := 1) (lv' := [(0, .ref 103), (1, .int x1), (2, .int x2)]) (st' := [.ref 103]) (h' := hp M) rfl ?_
  obtain ⟨q1, e_q1, h⟩ := Option.bind_eq_some_iff.mp h
  refine am_Y.call0 (M' := am_M276) (as := [.ref 103]) (rest := []) (d' := 0) rfl (by omega) rfl rfl (t_r_advance M q1 e_q1) ?_
  refine am_Y.run (k := 3) (pc' := 9) (lv' := [(0, .ref 103), (1, .int x1), (2, .int x2)]) (st' := [.int (9999 : Int32), .int (0 : Int32), .ref 103]) (h' := hp q1) rfl ?_
  obtain ⟨q2, e_q2, h⟩ := Option.bind_eq_some_iff.mp h
  refine am_Y.call0 (M' := am_M305) (as := [.ref 103, .int (0 : Int32), .int (9999 : Int32)]) (rest := []) (d' := 1) rfl (by omega) rfl rfl (t_r_expectNumber (0 : Int32) (9999 : Int32) q1 q2.1 q2.2 e_q2) ?_
  refine am_Y.run (k := 6) (pc' := 22) (lv' := [(4, .int q2.1), (3, .int q2.1), (0, .ref 103), (1, .int x1), (2, .int x2)]) (st' := [.int (29 : Int32), .int (gi q2.2 103 7)]) (h' := hp q2.2) rfl ?_
  refine am_Y.br (c := (gi q2.2 103 7) = (29 : Int32)) _ (t := 25) (u := 73) (lv' := [(4, .int q2.1), (3, .int q2.1), (0, .ref 103), (1, .int x1), (2, .int x2)]) (st' := []) (h' := hp q2.2) rfl (fun hc => ?_) (fun hc => ?_)
  · replace h := (if_pos hc).symm.trans h
    refine am_Y.run (k := 1) (pc' := 26) (lv' := [(4, .int q2.1), (3, .int q2.1), (0, .ref 103), (1, .int x1), (2, .int x2)]) (st' := [.ref 103]) (h' := hp q2.2) rfl ?_
    obtain ⟨q3, e_q3, h⟩ := Option.bind_eq_some_iff.mp h
    refine am_Y.call0 (M' := am_M276) (as := [.ref 103]) (rest := []) (d' := 0) rfl (by omega) rfl rfl (t_r_advance q2.2 q3 e_q3) ?_
    refine am_Y.run (k := 3) (pc' := 35) (lv' := [(4, .int q2.1), (3, .int q2.1), (0, .ref 103), (1, .int x1), (2, .int x2)]) (st' := [.int (33 : Int32), .int (gi q3 103 7)]) (h' := hp q3) rfl ?_
    refine am_Y.br (c := (gi q3 103 7) = (33 : Int32)) _ (t := 38) (u := 63) (lv' := [(4, .int q2.1), (3, .int q2.1), (0, .ref 103), (1, .int x1), (2, .int x2)]) (st' := []) (h' := hp q3) rfl (fun hc => ?_) (fun hc => ?_)
    · replace h := (if_pos hc).symm.trans h
      refine am_Y.run (k := 5) (pc' := 49) (lv' := [(4, .int q2.1), (3, .int q2.1), (0, .ref 103), (1, .int x1), (2, .int x2)]) (st' := [.int (gi q3 103 6), .ref 102]) (h' := hp q3) rfl ?_
      obtain ⟨g, h⟩ := am_itg h
      refine am_Y.iald (a := 97) (n := 301) rfl rfl g ?_
      refine am_Y.run (k := 3) (pc' := 54) (lv' := [(4, .int q2.1), (3, .int q2.1), (0, .ref 103), (1, .int x1), (2, .int x2)]) (st' := [.int q2.1, .int ((gi q3 102 ((gi q3 103 6)).toNatClampNeg) >>> (15 : Int32))]) (h' := hp q3) rfl ?_
      refine am_Y.br (c := q2.1 ≤ ((gi q3 102 ((gi q3 103 6)).toNatClampNeg) >>> (15 : Int32))) _ (t := 63) (u := 57) (lv' := [(4, .int q2.1), (3, .int q2.1), (0, .ref 103), (1, .int x1), (2, .int x2)]) (st' := []) (h' := hp q3) rfl (fun hc => ?_) (fun hc => ?_)
      · replace h := (if_pos hc).symm.trans h
        refine am_Y.run (k := 3) (pc' := 68) (lv' := [(4, .int q2.1), (3, .int q2.1), (0, .ref 103), (1, .int x1), (2, .int x2)]) (st' := [.int (9999 : Int32), .int (0 : Int32), .ref 103]) (h' := hp q3) rfl ?_
        obtain ⟨q4, e_q4, h⟩ := Option.bind_eq_some_iff.mp h
        refine am_Y.call0 (M' := am_M305) (as := [.ref 103, .int (0 : Int32), .int (9999 : Int32)]) (rest := []) (d' := 1) rfl (by omega) rfl rfl (t_r_expectNumber (0 : Int32) (9999 : Int32) q3 q4.1 q4.2 e_q4) ?_
        refine am_Y.run (k := 1) (pc' := 73) (lv' := [(4, .int q4.1), (3, .int q2.1), (0, .ref 103), (1, .int x1), (2, .int x2)]) (st' := []) (h' := hp q4.2) rfl ?_
        refine am_Y.weak (lv2 := [(0, .ref 103), (1, .int x1), (2, .int x2), (3, .int q2.1), (4, .int q4.1)]) rfl rfl ⟨rfl, rfl, rfl, rfl, rfl, trivial⟩ ?_
        exact t_r_readCase_73 N RO dO hRO x1 x2 q2.1 q4.1 q4.2 _ _ h
      · replace h := (if_neg hc).symm.trans h
        refine am_Y.run (k := 2) (pc' := 60) (lv' := [(4, .int q2.1), (3, .int q2.1), (0, .ref 103), (1, .int x1), (2, .int x2)]) (st' := [.int (7 : Int32), .ref 103]) (h' := hp q3) rfl ?_
        obtain ⟨q5, e_q5, h⟩ := Option.bind_eq_some_iff.mp h
        refine am_Y.call0 (M' := am_M275) (as := [.ref 103, .int (7 : Int32)]) (rest := []) (d' := 0) rfl (by omega) rfl rfl (t_r_fail (7 : Int32) q3 q5 e_q5) ?_
        refine am_Y.run (k := 3) (pc' := 68) (lv' := [(4, .int q2.1), (3, .int q2.1), (0, .ref 103), (1, .int x1), (2, .int x2)]) (st' := [.int (9999 : Int32), .int (0 : Int32), .ref 103]) (h' := hp q5) rfl ?_
        obtain ⟨q6, e_q6, h⟩ := Option.bind_eq_some_iff.mp h
        refine am_Y.call0 (M' := am_M305) (as := [.ref 103, .int (0 : Int32), .int (9999 : Int32)]) (rest := []) (d' := 1) rfl (by omega) rfl rfl (t_r_expectNumber (0 : Int32) (9999 : Int32) q5 q6.1 q6.2 e_q6) ?_
        refine am_Y.run (k := 1) (pc' := 73) (lv' := [(4, .int q6.1), (3, .int q2.1), (0, .ref 103), (1, .int x1), (2, .int x2)]) (st' := []) (h' := hp q6.2) rfl ?_
        refine am_Y.weak (lv2 := [(0, .ref 103), (1, .int x1), (2, .int x2), (3, .int q2.1), (4, .int q6.1)]) rfl rfl ⟨rfl, rfl, rfl, rfl, rfl, trivial⟩ ?_
        exact t_r_readCase_73 N RO dO hRO x1 x2 q2.1 q6.1 q6.2 _ _ h
    · replace h := (if_neg hc).symm.trans h
      refine am_Y.run (k := 3) (pc' := 68) (lv' := [(4, .int q2.1), (3, .int q2.1), (0, .ref 103), (1, .int x1), (2, .int x2)]) (st' := [.int (9999 : Int32), .int (0 : Int32), .ref 103]) (h' := hp q3) rfl ?_
      obtain ⟨q7, e_q7, h⟩ := Option.bind_eq_some_iff.mp h
      refine am_Y.call0 (M' := am_M305) (as := [.ref 103, .int (0 : Int32), .int (9999 : Int32)]) (rest := []) (d' := 1) rfl (by omega) rfl rfl (t_r_expectNumber (0 : Int32) (9999 : Int32) q3 q7.1 q7.2 e_q7) ?_
      refine am_Y.run (k := 1) (pc' := 73) (lv' := [(4, .int q7.1), (3, .int q2.1), (0, .ref 103), (1, .int x1), (2, .int x2)]) (st' := []) (h' := hp q7.2) rfl ?_
      refine am_Y.weak (lv2 := [(0, .ref 103), (1, .int x1), (2, .int x2), (3, .int q2.1), (4, .int q7.1)]) rfl rfl ⟨rfl, rfl, rfl, rfl, rfl, trivial⟩ ?_
      exact t_r_readCase_73 N RO dO hRO x1 x2 q2.1 q7.1 q7.2 _ _ h
  · replace h := (if_neg hc).symm.trans h
    refine am_Y.weak (lv2 := [(0, .ref 103), (1, .int x1), (2, .int x2), (3, .int q2.1), (4, .int q2.1)]) rfl rfl ⟨rfl, rfl, rfl, rfl, rfl, trivial⟩ ?_
    exact t_r_readCase_73 N RO dO hRO x1 x2 q2.1 q2.1 q2.2 _ _ h
set_option maxRecDepth 100000 in
theorem t_p_argumentAt_104 {S : Nat × (Nat → Int32)} (x1 : Int32) (M : Mem) (r : Int32) (h : f_p_argumentAt_104 x1 M = some r) : am_Y S 0 0 0 am_M291 0 [(0, .ref 104), (1, .int x1)] [] (hp M) (some (.int r)) (hp M) := by
  rw [f_p_argumentAt_104] at h
  refine am_Y.run (k := 1) (pc' := 1) (lv' := [(0, .ref 104), (1, .int x1)]) (st' := [.int x1]) (h' := hp M) rfl ?_
  refine am_Y.br (c := x1 < (0 : Int32)) _ (t := 31) (u := 4) (lv' := [(0, .ref 104), (1, .int x1)]) (st' := []) (h' := hp M) rfl (fun hc => ?_) (fun hc => ?_)
  · replace h := (if_pos hc).symm.trans h
    refine am_Y.run (k := 1) (pc' := 32) (lv' := [(0, .ref 104), (1, .int x1)]) (st' := [.int (0 : Int32)]) (h' := hp M) rfl ?_
    obtain rfl := Option.some.inj h
    exact am_Y.ret rfl
  · replace h := (if_neg hc).symm.trans h
    refine am_Y.run (k := 3) (pc' := 9) (lv' := [(0, .ref 104), (1, .int x1)]) (st' := [.int (gi M 104 3), .int x1]) (h' := hp M) rfl ?_
    refine am_Y.br (c := (gi M 104 3) ≤ x1) _ (t := 31) (u := 12) (lv' := [(0, .ref 104), (1, .int x1)]) (st' := []) (h' := hp M) rfl (fun hc => ?_) (fun hc => ?_)
    · replace h := (if_pos hc).symm.trans h
      refine am_Y.run (k := 1) (pc' := 32) (lv' := [(0, .ref 104), (1, .int x1)]) (st' := [.int (0 : Int32)]) (h' := hp M) rfl ?_
      obtain rfl := Option.some.inj h
      exact am_Y.ret rfl
    · replace h := (if_neg hc).symm.trans h
      refine am_Y.run (k := 2) (pc' := 16) (lv' := [(0, .ref 104), (1, .int x1)]) (st' := [.int (300 : Int32), .int x1]) (h' := hp M) rfl ?_
      refine am_Y.br (c := (300 : Int32) ≤ x1) _ (t := 31) (u := 19) (lv' := [(0, .ref 104), (1, .int x1)]) (st' := []) (h' := hp M) rfl (fun hc => ?_) (fun hc => ?_)
      · replace h := (if_pos hc).symm.trans h
        refine am_Y.run (k := 1) (pc' := 32) (lv' := [(0, .ref 104), (1, .int x1)]) (st' := [.int (0 : Int32)]) (h' := hp M) rfl ?_
        obtain rfl := Option.some.inj h
        exact am_Y.ret rfl
      · replace h := (if_neg hc).symm.trans h
        refine am_Y.run (k := 3) (pc' := 24) (lv' := [(0, .ref 104), (1, .int x1)]) (st' := [.int x1, .ref 105]) (h' := hp M) rfl ?_
        obtain ⟨g, h⟩ := am_itg h
        refine am_Y.iald (a := 100) (n := 300) rfl rfl g ?_
        refine am_Y.run (k := 3) (pc' := 32) (lv' := [(0, .ref 104), (1, .int x1)]) (st' := [.int ((gi M 105 (x1).toNatClampNeg) >>> (6 : Int32))]) (h' := hp M) rfl ?_
        obtain rfl := Option.some.inj h
        exact am_Y.ret rfl
set_option maxRecDepth 100000 in
theorem t_r_readChoose_99 {S : Nat × (Nat → Int32)} (N : Nat) (RO : Int32 → Mem → Option Mem) (dO : Nat) (hRO : ∀ (x1 : Int32) (M M2 : Mem), RO x1 M = some M2 → am_Y S dO 0 0 am_M324 0 [(0, .ref 103), (1, .int x1)] [] (hp M) none (hp M2)) : ∀ (n : Nat) (x2 : Int32) (x3 : Int32) (M : Mem) (M' : Mem), f_r_readChoose_99 N RO n x2 x3 M = some M' → am_Y S (dO + 4) 0 0 am_M331 99 [(0, .ref 103), (2, .int x2), (3, .int x3)] [] (hp M) none (hp M') := by
  intro n
  induction n with
  | zero =>
    intro x2 x3 M M' h
    cases h
  | succ n ih =>
    intro x2 x3 M M' h
    rw [f_r_readChoose_99] at h
    refine am_Y.run (k := 2) (pc' := 102) (lv' := [(0, .ref 103), (2, .int x2), (3, .int x3)]) (st' := [.int (6 : Int32), .int x3]) (h' := hp M) rfl ?_
    refine am_Y.br (c := (6 : Int32) ≤ x3) _ (t := 146) (u := 105) (lv' := [(0, .ref 103), (2, .int x2), (3, .int x3)]) (st' := []) (h' := hp M) rfl (fun hc => ?_) (fun hc => ?_)
    · replace h := (if_pos hc).symm.trans h
      obtain rfl := Option.some.inj h
      exact am_Y.ret rfl
    · replace h := (if_neg hc).symm.trans h
      refine am_Y.run (k := 2) (pc' := 107) (lv' := [(0, .ref 103), (2, .int x2), (3, .int x3)]) (st' := [.int (-1 : Int32), .int x2]) (h' := hp M) rfl ?_
      refine am_Y.br (c := x2 = (-1 : Int32)) _ (t := 146) (u := 110) (lv' := [(0, .ref 103), (2, .int x2), (3, .int x3)]) (st' := []) (h' := hp M) rfl (fun hc => ?_) (fun hc => ?_)
      · replace h := (if_pos hc).symm.trans h
        obtain rfl := Option.some.inj h
        exact am_Y.ret rfl
      · replace h := (if_neg hc).symm.trans h
        refine am_Y.run (k := 3) (pc' := 115) (lv' := [(0, .ref 103), (2, .int x2), (3, .int x3)]) (st' := [.int x2, .ref 104]) (h' := hp M) rfl ?_
        obtain ⟨q10, e_q10, h⟩ := Option.bind_eq_some_iff.mp h
        refine am_Y.call0 (M' := am_M291) (as := [.ref 104, .int x2]) (rest := []) (d' := 0) rfl (by omega) rfl rfl (t_p_argumentAt_104 x2 M q10 e_q10) ?_
        refine am_Y.run (k := 9) (pc' := 134) (lv' := [(4, .int (q10 - (1 : Int32))), (0, .ref 103), (2, .int x2), (3, .int x3)]) (st' := [.int (gi M 104 3), .int x2, .ref 104]) (h' := hp M) rfl ?_
        obtain ⟨q11, e_q11, h⟩ := Option.bind_eq_some_iff.mp h
        refine am_Y.call0 (M' := am_M341) (as := [.ref 104, .int x2, .int (gi M 104 3)]) (rest := []) (d' := 0) rfl (by omega) rfl rfl (t_p_aim x2 (gi M 104 3) M q11 e_q11) ?_
        refine am_Y.run (k := 4) (pc' := 99) (lv' := [(3, .int (x3 + (1 : Int32))), (2, .int (q10 - (1 : Int32))), (4, .int (q10 - (1 : Int32))), (0, .ref 103)]) (st' := []) (h' := hp q11) rfl ?_
        refine am_Y.weak (lv2 := [(0, .ref 103), (2, .int (q10 - (1 : Int32))), (3, .int (x3 + (1 : Int32)))]) rfl rfl ⟨rfl, rfl, rfl, trivial⟩ ?_
        exact ih (q10 - (1 : Int32)) (x3 + (1 : Int32)) q11 _ h
set_option maxRecDepth 100000 in
theorem t_r_readChoose_70 {S : Nat × (Nat → Int32)} (N : Nat) (RO : Int32 → Mem → Option Mem) (dO : Nat) (hRO : ∀ (x1 : Int32) (M M2 : Mem), RO x1 M = some M2 → am_Y S dO 0 0 am_M324 0 [(0, .ref 103), (1, .int x1)] [] (hp M) none (hp M2)) (x1 : Int32) (x2 : Int32) (M : Mem) (M' : Mem) (h : f_r_readChoose_70 N RO x1 x2 M = some M') : am_Y S (dO + 4) 0 0 am_M331 70 [(0, .ref 103), (1, .int x1), (2, .int x2)] [] (hp M) none (hp M') := by
  rw [f_r_readChoose_70] at h
  refine am_Y.run (k := 2) (pc' := 73) (lv' := [(0, .ref 103), (1, .int x1), (2, .int x2)]) (st' := [.int (30 : Int32), .ref 103]) (h' := hp M) rfl ?_
  obtain ⟨q6, e_q6, h⟩ := Option.bind_eq_some_iff.mp h
  refine am_Y.call0 (M' := am_M281) (as := [.ref 103, .int (30 : Int32)]) (rest := []) (d' := 1) rfl (by omega) rfl rfl (t_r_expect (30 : Int32) M q6 e_q6) ?_
  refine am_Y.run (k := 4) (pc' := 83) (lv' := [(0, .ref 103), (1, .int x1), (2, .int x2)]) (st' := [.int (0 : Int32), .int (52 : Int32), .ref 104]) (h' := hp q6) rfl ?_
  obtain ⟨q7, e_q7, h⟩ := Option.bind_eq_some_iff.mp h
  refine am_Y.call0 (M' := am_M303) (as := [.ref 104, .int (52 : Int32), .int (0 : Int32)]) (rest := []) (d' := 0) rfl (by omega) rfl rfl (t_p_put (52 : Int32) (0 : Int32) q6 q7 e_q7) ?_
  refine am_Y.run (k := 2) (pc' := 88) (lv' := [(0, .ref 103), (1, .int x1), (2, .int x2)]) (st' := [.int x1, .ref 103]) (h' := hp q7) rfl ?_
  obtain ⟨q8, e_q8, h⟩ := Option.bind_eq_some_iff.mp h
  refine am_Y.call0 (M' := am_M279) (as := [.ref 103, .int x1]) (rest := []) (d' := dO + 2) rfl (by omega) rfl rfl (t_r_readSum N RO dO hRO x1 q7 q8 e_q8) ?_
  refine am_Y.run (k := 2) (pc' := 94) (lv' := [(0, .ref 103), (1, .int x1), (2, .int x2)]) (st' := [.int (31 : Int32), .ref 103]) (h' := hp q8) rfl ?_
  obtain ⟨q9, e_q9, h⟩ := Option.bind_eq_some_iff.mp h
  refine am_Y.call0 (M' := am_M281) (as := [.ref 103, .int (31 : Int32)]) (rest := []) (d' := 1) rfl (by omega) rfl rfl (t_r_expect (31 : Int32) q8 q9 e_q9) ?_
  refine am_Y.run (k := 2) (pc' := 99) (lv' := [(3, .int (0 : Int32)), (0, .ref 103), (1, .int x1), (2, .int x2)]) (st' := []) (h' := hp q9) rfl ?_
  refine am_Y.weak (lv2 := [(0, .ref 103), (2, .int x2), (3, .int (0 : Int32))]) rfl rfl ⟨rfl, rfl, rfl, trivial⟩ ?_
  exact t_r_readChoose_99 N RO dO hRO N x2 (0 : Int32) q9 _ h
set_option maxRecDepth 100000 in
theorem t_r_readChoose_27 {S : Nat × (Nat → Int32)} (N : Nat) (RO : Int32 → Mem → Option Mem) (dO : Nat) (hRO : ∀ (x1 : Int32) (M M2 : Mem), RO x1 M = some M2 → am_Y S dO 0 0 am_M324 0 [(0, .ref 103), (1, .int x1)] [] (hp M) none (hp M2)) : ∀ (n : Nat) (x1 : Int32) (x2 : Int32) (x3 : Int32) (M : Mem) (M' : Mem), f_r_readChoose_27 N RO n x1 x2 x3 M = some M' → am_Y S (dO + 4) 0 0 am_M331 27 [(0, .ref 103), (1, .int x1), (2, .int x2), (3, .int x3)] [] (hp M) none (hp M') := by
  intro n
  induction n with
  | zero =>
    intro x1 x2 x3 M M' h
    cases h
  | succ n ih =>
    intro x1 x2 x3 M M' h
    rw [f_r_readChoose_27] at h
    refine am_Y.run (k := 2) (pc' := 30) (lv' := [(0, .ref 103), (1, .int x1), (2, .int x2), (3, .int x3)]) (st' := [.int (6 : Int32), .int x3]) (h' := hp M) rfl ?_
    refine am_Y.br (c := (6 : Int32) < x3) _ (t := 70) (u := 33) (lv' := [(0, .ref 103), (1, .int x1), (2, .int x2), (3, .int x3)]) (st' := []) (h' := hp M) rfl (fun hc => ?_) (fun hc => ?_)
    · replace h := (if_pos hc).symm.trans h
      refine am_Y.weak (lv2 := [(0, .ref 103), (1, .int x1), (2, .int x2)]) rfl rfl ⟨rfl, rfl, rfl, trivial⟩ ?_
      exact t_r_readChoose_70 N RO dO hRO x1 x2 M _ h
    · replace h := (if_neg hc).symm.trans h
      refine am_Y.run (k := 3) (pc' := 39) (lv' := [(0, .ref 103), (1, .int x1), (2, .int x2), (3, .int x3)]) (st' := [.int (28 : Int32), .int (gi M 103 7)]) (h' := hp M) rfl ?_
      refine am_Y.br (c := (gi M 103 7) = (28 : Int32)) _ (t := 42) (u := 70) (lv' := [(0, .ref 103), (1, .int x1), (2, .int x2), (3, .int x3)]) (st' := []) (h' := hp M) rfl (fun hc => ?_) (fun hc => ?_)
      · replace h := (if_pos hc).symm.trans h
        refine am_Y.run (k := 2) (pc' := 45) (lv' := [(0, .ref 103), (1, .int x1), (2, .int x2), (3, .int x3)]) (st' := [.int (6 : Int32), .int x3]) (h' := hp M) rfl ?_
        refine am_Y.br (c := x3 = (6 : Int32)) _ (t := 48) (u := 57) (lv' := [(0, .ref 103), (1, .int x1), (2, .int x2), (3, .int x3)]) (st' := []) (h' := hp M) rfl (fun hc => ?_) (fun hc => ?_)
        · replace h := (if_pos hc).symm.trans h
          refine am_Y.run (k := 2) (pc' := 51) (lv' := [(0, .ref 103), (1, .int x1), (2, .int x2), (3, .int x3)]) (st' := [.int (7 : Int32), .ref 103]) (h' := hp M) rfl ?_
          obtain ⟨q4, e_q4, h⟩ := Option.bind_eq_some_iff.mp h
          refine am_Y.call0 (M' := am_M275) (as := [.ref 103, .int (7 : Int32)]) (rest := []) (d' := 0) rfl (by omega) rfl rfl (t_r_fail (7 : Int32) M q4 e_q4) ?_
          refine am_Y.run (k := 3) (pc' := 27) (lv' := [(3, .int (x3 + (1 : Int32))), (0, .ref 103), (1, .int x1), (2, .int x2)]) (st' := []) (h' := hp q4) rfl ?_
          refine am_Y.weak (lv2 := [(0, .ref 103), (1, .int x1), (2, .int x2), (3, .int (x3 + (1 : Int32)))]) rfl rfl ⟨rfl, rfl, rfl, rfl, trivial⟩ ?_
          exact ih x1 x2 (x3 + (1 : Int32)) q4 _ h
        · replace h := (if_neg hc).symm.trans h
          refine am_Y.run (k := 3) (pc' := 60) (lv' := [(0, .ref 103), (1, .int x1), (2, .int x2), (3, .int x3)]) (st' := [.int x2, .int x1, .ref 103]) (h' := hp M) rfl ?_
          obtain ⟨q5, e_q5, h⟩ := Option.bind_eq_some_iff.mp h
          refine am_Y.call0 (M' := am_M340) (as := [.ref 103, .int x1, .int x2]) (rest := []) (d' := dO + 3) rfl (by omega) rfl rfl (t_r_readCase N RO dO hRO x1 x2 M q5.1 q5.2 e_q5) ?_
          refine am_Y.run (k := 3) (pc' := 27) (lv' := [(3, .int (x3 + (1 : Int32))), (2, .int q5.1), (0, .ref 103), (1, .int x1)]) (st' := []) (h' := hp q5.2) rfl ?_
          refine am_Y.weak (lv2 := [(0, .ref 103), (1, .int x1), (2, .int q5.1), (3, .int (x3 + (1 : Int32)))]) rfl rfl ⟨rfl, rfl, rfl, rfl, trivial⟩ ?_
          exact ih x1 q5.1 (x3 + (1 : Int32)) q5.2 _ h
      · replace h := (if_neg hc).symm.trans h
        refine am_Y.weak (lv2 := [(0, .ref 103), (1, .int x1), (2, .int x2)]) rfl rfl ⟨rfl, rfl, rfl, trivial⟩ ?_
        exact t_r_readChoose_70 N RO dO hRO x1 x2 M _ h
set_option maxRecDepth 100000 in
theorem t_r_readChoose {S : Nat × (Nat → Int32)} (N : Nat) (RO : Int32 → Mem → Option Mem) (dO : Nat) (hRO : ∀ (x1 : Int32) (M M2 : Mem), RO x1 M = some M2 → am_Y S dO 0 0 am_M324 0 [(0, .ref 103), (1, .int x1)] [] (hp M) none (hp M2)) (x1 : Int32) (M : Mem) (M' : Mem) (h : f_r_readChoose N RO x1 M = some M') : am_Y S (dO + 4) 0 0 am_M331 0 [(0, .ref 103), (1, .int x1)] [] (hp M) none (hp M') := by
  rw [f_r_readChoose] at h
  refine am_Y.run (k := 1) (pc' := 1) (lv' := [(0, .ref 103), (1, .int x1)]) (st' := [.ref 103]) (h' := hp M) rfl ?_
  obtain ⟨q1, e_q1, h⟩ := Option.bind_eq_some_iff.mp h
  refine am_Y.call0 (M' := am_M276) (as := [.ref 103]) (rest := []) (d' := 0) rfl (by omega) rfl rfl (t_r_advance M q1 e_q1) ?_
  refine am_Y.run (k := 2) (pc' := 6) (lv' := [(0, .ref 103), (1, .int x1)]) (st' := [.int x1, .ref 103]) (h' := hp q1) rfl ?_
  obtain ⟨q2, e_q2, h⟩ := Option.bind_eq_some_iff.mp h
  refine am_Y.call0 (M' := am_M279) (as := [.ref 103, .int x1]) (rest := []) (d' := dO + 2) rfl (by omega) rfl rfl (t_r_readSum N RO dO hRO x1 q1 q2 e_q2) ?_
  refine am_Y.run (k := 3) (pc' := 15) (lv' := [(0, .ref 103), (1, .int x1)]) (st' := [.int (28 : Int32), .int (gi q2 103 7)]) (h' := hp q2) rfl ?_
  refine am_Y.br (c := (gi q2 103 7) = (28 : Int32)) _ (t := 23) (u := 18) (lv' := [(0, .ref 103), (1, .int x1)]) (st' := []) (h' := hp q2) rfl (fun hc => ?_) (fun hc => ?_)
  · replace h := (if_pos hc).symm.trans h
    refine am_Y.run (k := 4) (pc' := 27) (lv' := [(3, .int (0 : Int32)), (2, .int (-1 : Int32)), (0, .ref 103), (1, .int x1)]) (st' := []) (h' := hp q2) rfl ?_
    refine am_Y.weak (lv2 := [(0, .ref 103), (1, .int x1), (2, .int (-1 : Int32)), (3, .int (0 : Int32))]) rfl rfl ⟨rfl, rfl, rfl, rfl, trivial⟩ ?_
    exact t_r_readChoose_27 N RO dO hRO N x1 (-1 : Int32) (0 : Int32) q2 _ h
  · replace h := (if_neg hc).symm.trans h
    refine am_Y.run (k := 2) (pc' := 20) (lv' := [(0, .ref 103), (1, .int x1)]) (st' := [.int (1 : Int32), .ref 103]) (h' := hp q2) rfl ?_
    obtain ⟨q3, e_q3, h⟩ := Option.bind_eq_some_iff.mp h
    refine am_Y.call0 (M' := am_M275) (as := [.ref 103, .int (1 : Int32)]) (rest := []) (d' := 0) rfl (by omega) rfl rfl (t_r_fail (1 : Int32) q2 q3 e_q3) ?_
    refine am_Y.run (k := 4) (pc' := 27) (lv' := [(3, .int (0 : Int32)), (2, .int (-1 : Int32)), (0, .ref 103), (1, .int x1)]) (st' := []) (h' := hp q3) rfl ?_
    refine am_Y.weak (lv2 := [(0, .ref 103), (1, .int x1), (2, .int (-1 : Int32)), (3, .int (0 : Int32))]) rfl rfl ⟨rfl, rfl, rfl, rfl, trivial⟩ ?_
    exact t_r_readChoose_27 N RO dO hRO N x1 (-1 : Int32) (0 : Int32) q3 _ h
set_option maxRecDepth 100000 in
theorem t_r_readOne_84 {S : Nat × (Nat → Int32)} (N : Nat) (RO : Int32 → Mem → Option Mem) (dO : Nat) (hRO : ∀ (x1 : Int32) (M M2 : Mem), RO x1 M = some M2 → am_Y S dO 0 0 am_M324 0 [(0, .ref 103), (1, .int x1)] [] (hp M) none (hp M2)) (x1 : Int32) (M : Mem) (M' : Mem) (h : f_r_readOne_84 N RO x1 M = some M') : am_Y S (dO + 5) 0 0 am_M324 84 [(0, .ref 103), (1, .int x1)] [] (hp M) none (hp M') := by
  rw [f_r_readOne_84] at h
  refine am_Y.run (k := 2) (pc' := 87) (lv' := [(0, .ref 103), (1, .int x1)]) (st' := [.int (8 : Int32), .int x1]) (h' := hp M) rfl ?_
  refine am_Y.br (c := x1 < (8 : Int32)) _ (t := 98) (u := 90) (lv' := [(0, .ref 103), (1, .int x1)]) (st' := []) (h' := hp M) rfl (fun hc => ?_) (fun hc => ?_)
  · replace h := (if_pos hc).symm.trans h
    refine am_Y.run (k := 3) (pc' := 104) (lv' := [(0, .ref 103), (1, .int x1)]) (st' := [.int (27 : Int32), .int (gi M 103 7)]) (h' := hp M) rfl ?_
    refine am_Y.br (c := (gi M 103 7) = (27 : Int32)) _ (t := 107) (u := 117) (lv' := [(0, .ref 103), (1, .int x1)]) (st' := []) (h' := hp M) rfl (fun hc => ?_) (fun hc => ?_)
    · replace h := (if_pos hc).symm.trans h
      refine am_Y.run (k := 4) (pc' := 111) (lv' := [(0, .ref 103), (1, .int x1)]) (st' := [.int (x1 + (1 : Int32)), .ref 103]) (h' := hp M) rfl ?_
      obtain ⟨q5, e_q5, h⟩ := Option.bind_eq_some_iff.mp h
      refine am_Y.call0 (M' := am_M331) (as := [.ref 103, .int (x1 + (1 : Int32))]) (rest := []) (d' := dO + 4) rfl (by omega) rfl rfl (t_r_readChoose N RO dO hRO (x1 + (1 : Int32)) M q5 e_q5) ?_
      refine am_Y.run (k := 1) (pc' := 167) (lv' := [(0, .ref 103), (1, .int x1)]) (st' := []) (h' := hp q5) rfl ?_
      obtain rfl := Option.some.inj h
      exact am_Y.ret rfl
    · replace h := (if_neg hc).symm.trans h
      refine am_Y.run (k := 3) (pc' := 123) (lv' := [(0, .ref 103), (1, .int x1)]) (st' := [.int (42 : Int32), .int (gi M 103 7)]) (h' := hp M) rfl ?_
      refine am_Y.br (c := (gi M 103 7) = (42 : Int32)) _ (t := 126) (u := 146) (lv' := [(0, .ref 103), (1, .int x1)]) (st' := []) (h' := hp M) rfl (fun hc => ?_) (fun hc => ?_)
      · replace h := (if_pos hc).symm.trans h
        refine am_Y.run (k := 1) (pc' := 127) (lv' := [(0, .ref 103), (1, .int x1)]) (st' := [.ref 103]) (h' := hp M) rfl ?_
        obtain ⟨q6, e_q6, h⟩ := Option.bind_eq_some_iff.mp h
        refine am_Y.call0 (M' := am_M276) (as := [.ref 103]) (rest := []) (d' := 0) rfl (by omega) rfl rfl (t_r_advance M q6 e_q6) ?_
        refine am_Y.run (k := 4) (pc' := 134) (lv' := [(0, .ref 103), (1, .int x1)]) (st' := [.int (x1 + (1 : Int32)), .ref 103]) (h' := hp q6) rfl ?_
        obtain ⟨q7, e_q7, h⟩ := Option.bind_eq_some_iff.mp h
        refine am_Y.call0 (M' := am_M279) (as := [.ref 103, .int (x1 + (1 : Int32))]) (rest := []) (d' := dO + 2) rfl (by omega) rfl rfl (t_r_readSum N RO dO hRO (x1 + (1 : Int32)) q6 q7 e_q7) ?_
        refine am_Y.run (k := 2) (pc' := 140) (lv' := [(0, .ref 103), (1, .int x1)]) (st' := [.int (43 : Int32), .ref 103]) (h' := hp q7) rfl ?_
        obtain ⟨q8, e_q8, h⟩ := Option.bind_eq_some_iff.mp h
        refine am_Y.call0 (M' := am_M281) (as := [.ref 103, .int (43 : Int32)]) (rest := []) (d' := 1) rfl (by omega) rfl rfl (t_r_expect (43 : Int32) q7 q8 e_q8) ?_
        refine am_Y.run (k := 1) (pc' := 167) (lv' := [(0, .ref 103), (1, .int x1)]) (st' := []) (h' := hp q8) rfl ?_
        obtain rfl := Option.some.inj h
        exact am_Y.ret rfl
      · replace h := (if_neg hc).symm.trans h
        refine am_Y.run (k := 1) (pc' := 147) (lv' := [(0, .ref 103), (1, .int x1)]) (st' := [.ref 103]) (h' := hp M) rfl ?_
        obtain ⟨q9, e_q9, h⟩ := Option.bind_eq_some_iff.mp h
        refine am_Y.call0 (M' := am_M276) (as := [.ref 103]) (rest := []) (d' := 0) rfl (by omega) rfl rfl (t_r_advance M q9 e_q9) ?_
        refine am_Y.run (k := 4) (pc' := 154) (lv' := [(0, .ref 103), (1, .int x1)]) (st' := [.int (x1 + (1 : Int32)), .ref 103]) (h' := hp q9) rfl ?_
        obtain ⟨q10, e_q10, h⟩ := Option.bind_eq_some_iff.mp h
        refine am_Y.call0 (M' := am_M324) (as := [.ref 103, .int (x1 + (1 : Int32))]) (rest := []) (d' := dO) rfl (by omega) rfl rfl (hRO (x1 + (1 : Int32)) q9 q10 e_q10) ?_
        refine am_Y.run (k := 4) (pc' := 164) (lv' := [(0, .ref 103), (1, .int x1)]) (st' := [.int (0 : Int32), .int (50 : Int32), .ref 104]) (h' := hp q10) rfl ?_
        obtain ⟨q11, e_q11, h⟩ := Option.bind_eq_some_iff.mp h
        refine am_Y.call0 (M' := am_M303) (as := [.ref 104, .int (50 : Int32), .int (0 : Int32)]) (rest := []) (d' := 0) rfl (by omega) rfl rfl (t_p_put (50 : Int32) (0 : Int32) q10 q11 e_q11) ?_
        obtain rfl := Option.some.inj h
        exact am_Y.ret rfl
  · replace h := (if_neg hc).symm.trans h
    refine am_Y.run (k := 2) (pc' := 92) (lv' := [(0, .ref 103), (1, .int x1)]) (st' := [.int (3 : Int32), .ref 103]) (h' := hp M) rfl ?_
    obtain ⟨q12, e_q12, h⟩ := Option.bind_eq_some_iff.mp h
    refine am_Y.call0 (M' := am_M275) (as := [.ref 103, .int (3 : Int32)]) (rest := []) (d' := 0) rfl (by omega) rfl rfl (t_r_fail (3 : Int32) M q12 e_q12) ?_
    refine am_Y.run (k := 1) (pc' := 167) (lv' := [(0, .ref 103), (1, .int x1)]) (st' := []) (h' := hp q12) rfl ?_
    obtain rfl := Option.some.inj h
    exact am_Y.ret rfl
set_option maxRecDepth 100000 in
theorem t_r_readOneB {S : Nat × (Nat → Int32)} (N : Nat) (RO : Int32 → Mem → Option Mem) (dO : Nat) (hRO : ∀ (x1 : Int32) (M M2 : Mem), RO x1 M = some M2 → am_Y S dO 0 0 am_M324 0 [(0, .ref 103), (1, .int x1)] [] (hp M) none (hp M2)) (x1 : Int32) (M : Mem) (M' : Mem) (h : f_r_readOneB N RO x1 M = some M') : am_Y S (dO + 5) 0 0 am_M324 0 [(0, .ref 103), (1, .int x1)] [] (hp M) none (hp M') := by
  rw [f_r_readOneB] at h
  refine am_Y.run (k := 3) (pc' := 6) (lv' := [(0, .ref 103), (1, .int x1)]) (st' := [.int (33 : Int32), .int (gi M 103 7)]) (h' := hp M) rfl ?_
  refine am_Y.br (c := (gi M 103 7) = (33 : Int32)) _ (t := 9) (u := 29) (lv' := [(0, .ref 103), (1, .int x1)]) (st' := []) (h' := hp M) rfl (fun hc => ?_) (fun hc => ?_)
  · replace h := (if_pos hc).symm.trans h
    refine am_Y.run (k := 6) (pc' := 20) (lv' := [(0, .ref 103), (1, .int x1)]) (st' := [.int (9999 : Int32), .int (0 : Int32), .ref 103, .int (33 : Int32), .ref 104]) (h' := hp M) rfl ?_
    obtain ⟨q1, e_q1, h⟩ := Option.bind_eq_some_iff.mp h
    refine am_Y.call0 (M' := am_M305) (as := [.ref 103, .int (0 : Int32), .int (9999 : Int32)]) (rest := [.int (33 : Int32), .ref 104]) (d' := 1) rfl (by omega) rfl rfl (t_r_expectNumber (0 : Int32) (9999 : Int32) M q1.1 q1.2 e_q1) ?_
    obtain ⟨q2, e_q2, h⟩ := Option.bind_eq_some_iff.mp h
    refine am_Y.call0 (M' := am_M303) (as := [.ref 104, .int (33 : Int32), .int q1.1]) (rest := []) (d' := 0) rfl (by omega) rfl rfl (t_p_put (33 : Int32) q1.1 q1.2 q2 e_q2) ?_
    refine am_Y.run (k := 1) (pc' := 167) (lv' := [(0, .ref 103), (1, .int x1)]) (st' := []) (h' := hp q2) rfl ?_
    obtain rfl := Option.some.inj h
    exact am_Y.ret rfl
  · replace h := (if_neg hc).symm.trans h
    refine am_Y.run (k := 4) (pc' := 36) (lv' := [(0, .ref 103), (1, .int x1)]) (st' := [.int (11 : Int32), .int (0 : Int32), .int (gi M 103 7)]) (h' := hp M) rfl ?_
    refine am_Y.call0 (M' := am_M102) (as := [.int (gi M 103 7), .int (0 : Int32), .int (11 : Int32)]) (rest := []) (d' := 0) rfl (by omega) rfl rfl (t_w_within (gi M 103 7) (0 : Int32) (11 : Int32) M _ rfl) ?_
    refine am_Y.br (c := (f_w_within (gi M 103 7) (0 : Int32) (11 : Int32) M) = (0 : Int32)) _ (t := 49) (u := 42) (lv' := [(0, .ref 103), (1, .int x1)]) (st' := []) (h' := hp M) rfl (fun hc => ?_) (fun hc => ?_)
    · replace h := (if_pos hc).symm.trans h
      refine am_Y.run (k := 3) (pc' := 55) (lv' := [(0, .ref 103), (1, .int x1)]) (st' := [.int (42 : Int32), .int (gi M 103 7)]) (h' := hp M) rfl ?_
      refine am_Y.br (c := (gi M 103 7) = (42 : Int32)) _ (t := 84) (u := 58) (lv' := [(0, .ref 103), (1, .int x1)]) (st' := []) (h' := hp M) rfl (fun hc => ?_) (fun hc => ?_)
      · replace h := (if_pos hc).symm.trans h
        refine am_Y.weak (lv2 := [(0, .ref 103), (1, .int x1)]) rfl rfl ⟨rfl, rfl, trivial⟩ ?_
        exact t_r_readOne_84 N RO dO hRO x1 M _ h
      · replace h := (if_neg hc).symm.trans h
        refine am_Y.run (k := 3) (pc' := 64) (lv' := [(0, .ref 103), (1, .int x1)]) (st' := [.int (39 : Int32), .int (gi M 103 7)]) (h' := hp M) rfl ?_
        refine am_Y.br (c := (gi M 103 7) = (39 : Int32)) _ (t := 84) (u := 67) (lv' := [(0, .ref 103), (1, .int x1)]) (st' := []) (h' := hp M) rfl (fun hc => ?_) (fun hc => ?_)
        · replace h := (if_pos hc).symm.trans h
          refine am_Y.weak (lv2 := [(0, .ref 103), (1, .int x1)]) rfl rfl ⟨rfl, rfl, trivial⟩ ?_
          exact t_r_readOne_84 N RO dO hRO x1 M _ h
        · replace h := (if_neg hc).symm.trans h
          refine am_Y.run (k := 3) (pc' := 73) (lv' := [(0, .ref 103), (1, .int x1)]) (st' := [.int (27 : Int32), .int (gi M 103 7)]) (h' := hp M) rfl ?_
          refine am_Y.br (c := (gi M 103 7) = (27 : Int32)) _ (t := 84) (u := 76) (lv' := [(0, .ref 103), (1, .int x1)]) (st' := []) (h' := hp M) rfl (fun hc => ?_) (fun hc => ?_)
          · replace h := (if_pos hc).symm.trans h
            refine am_Y.weak (lv2 := [(0, .ref 103), (1, .int x1)]) rfl rfl ⟨rfl, rfl, trivial⟩ ?_
            exact t_r_readOne_84 N RO dO hRO x1 M _ h
          · replace h := (if_neg hc).symm.trans h
            refine am_Y.run (k := 2) (pc' := 78) (lv' := [(0, .ref 103), (1, .int x1)]) (st' := [.int (1 : Int32), .ref 103]) (h' := hp M) rfl ?_
            obtain ⟨q3, e_q3, h⟩ := Option.bind_eq_some_iff.mp h
            refine am_Y.call0 (M' := am_M275) (as := [.ref 103, .int (1 : Int32)]) (rest := []) (d' := 0) rfl (by omega) rfl rfl (t_r_fail (1 : Int32) M q3 e_q3) ?_
            refine am_Y.run (k := 1) (pc' := 167) (lv' := [(0, .ref 103), (1, .int x1)]) (st' := []) (h' := hp q3) rfl ?_
            obtain rfl := Option.some.inj h
            exact am_Y.ret rfl
    · replace h := (if_neg hc).symm.trans h
      refine am_Y.run (k := 1) (pc' := 43) (lv' := [(0, .ref 103), (1, .int x1)]) (st' := [.ref 103]) (h' := hp M) rfl ?_
      obtain ⟨q4, e_q4, h⟩ := Option.bind_eq_some_iff.mp h
      refine am_Y.call0 (M' := am_M330) (as := [.ref 103]) (rest := []) (d' := 1) rfl (by omega) rfl rfl (t_r_readName M q4 e_q4) ?_
      refine am_Y.run (k := 1) (pc' := 167) (lv' := [(0, .ref 103), (1, .int x1)]) (st' := []) (h' := hp q4) rfl ?_
      obtain rfl := Option.some.inj h
      exact am_Y.ret rfl
set_option maxRecDepth 100000 in
theorem t_r_readOne {S : Nat × (Nat → Int32)} (N : Nat) : ∀ (k : Nat) (x1 : Int32) (M M2 : Mem), f_r_readOne N k x1 M = some M2 → am_Y S (5 * k) 0 0 am_M324 0 [(0, .ref 103), (1, .int x1)] [] (hp M) none (hp M2) := by
  intro k
  induction k with
  | zero => intro x1 M M2 h; cases h
  | succ k ih =>
    intro x1 M M2 h
    rw [f_r_readOne] at h
    have q := t_r_readOneB (S := S) N (f_r_readOne N k) (5 * k) ih x1 M M2 h
    rw [show 5 * (k + 1) = 5 * k + 5 by omega]
    exact q
set_option maxRecDepth 100000 in
theorem t_p_startOf_104 {S : Nat × (Nat → Int32)} (x1 : Int32) (M : Mem) (r : Int32) (h : f_p_startOf_104 x1 M = some r) : am_Y S 1 0 0 am_M244 0 [(0, .ref 104), (1, .int x1)] [] (hp M) (some (.int r)) (hp M) := by
  rw [f_p_startOf_104] at h
  refine am_Y.run (k := 3) (pc' := 5) (lv' := [(0, .ref 104), (1, .int x1)]) (st' := [.int (14 : Int32), .int (12 : Int32), .int x1]) (h' := hp M) rfl ?_
  refine am_Y.call0 (M' := am_M102) (as := [.int x1, .int (12 : Int32), .int (14 : Int32)]) (rest := []) (d' := 0) rfl (by omega) rfl rfl (t_w_within x1 (12 : Int32) (14 : Int32) M _ rfl) ?_
  refine am_Y.br (c := (f_w_within x1 (12 : Int32) (14 : Int32) M) = (0 : Int32)) _ (t := 23) (u := 11) (lv' := [(0, .ref 104), (1, .int x1)]) (st' := []) (h' := hp M) rfl (fun hc => ?_) (fun hc => ?_)
  · replace h := (if_pos hc).symm.trans h
    refine am_Y.run (k := 1) (pc' := 24) (lv' := [(0, .ref 104), (1, .int x1)]) (st' := [.int (-1 : Int32)]) (h' := hp M) rfl ?_
    obtain rfl := Option.some.inj h
    exact am_Y.ret rfl
  · replace h := (if_neg hc).symm.trans h
    refine am_Y.run (k := 5) (pc' := 19) (lv' := [(0, .ref 104), (1, .int x1)]) (st' := [.int (x1 - (12 : Int32)), .ref 107]) (h' := hp M) rfl ?_
    obtain ⟨g, h⟩ := am_itg h
    refine am_Y.iald (a := 102) (n := 3) rfl rfl g ?_
    refine am_Y.run (k := 1) (pc' := 24) (lv' := [(0, .ref 104), (1, .int x1)]) (st' := [.int (gi M 107 ((x1 - (12 : Int32))).toNatClampNeg)]) (h' := hp M) rfl ?_
    obtain rfl := Option.some.inj h
    exact am_Y.ret rfl
set_option maxRecDepth 100000 in
theorem t_p_startHere {S : Nat × (Nat → Int32)} (x1 : Int32) (M : Mem) (M' : Mem) (h : f_p_startHere x1 M = some M') : am_Y S 1 0 0 am_M277 0 [(0, .ref 104), (1, .int x1)] [] (hp M) none (hp M') := by
  rw [f_p_startHere] at h
  refine am_Y.run (k := 3) (pc' := 5) (lv' := [(0, .ref 104), (1, .int x1)]) (st' := [.int (14 : Int32), .int (12 : Int32), .int x1]) (h' := hp M) rfl ?_
  refine am_Y.call0 (M' := am_M102) (as := [.int x1, .int (12 : Int32), .int (14 : Int32)]) (rest := []) (d' := 0) rfl (by omega) rfl rfl (t_w_within x1 (12 : Int32) (14 : Int32) M _ rfl) ?_
  refine am_Y.br (c := (f_w_within x1 (12 : Int32) (14 : Int32) M) = (0 : Int32)) _ (t := 24) (u := 11) (lv' := [(0, .ref 104), (1, .int x1)]) (st' := []) (h' := hp M) rfl (fun hc => ?_) (fun hc => ?_)
  · replace h := (if_pos hc).symm.trans h
    obtain rfl := Option.some.inj h
    exact am_Y.ret rfl
  · replace h := (if_neg hc).symm.trans h
    refine am_Y.run (k := 7) (pc' := 23) (lv' := [(0, .ref 104), (1, .int x1)]) (st' := [.int (gi M 104 3), .int (x1 - (12 : Int32)), .ref 107]) (h' := hp M) rfl ?_
    obtain ⟨g, h⟩ := am_itg h
    refine am_Y.iast (a := 102) (n := 3) rfl rfl g ?_
    refine am_Y.run (k := 0) (pc' := _) (lv' := [(0, .ref 104), (1, .int x1)]) (st' := []) (h' := hp (si M 107 ((x1 - (12 : Int32))).toNatClampNeg (gi M 104 3))) rfl ?_
    obtain ⟨q1, e_q1, h⟩ := Option.bind_eq_some_iff.mp h
    rw [Option.some.inj e_q1]
    obtain rfl := Option.some.inj h
    exact am_Y.ret rfl
set_option maxRecDepth 100000 in
theorem t_r_readAsk_107 {S : Nat × (Nat → Int32)} (N : Nat) (RO : Int32 → Mem → Option Mem) (dO : Nat) (hRO : ∀ (x1 : Int32) (M M2 : Mem), RO x1 M = some M2 → am_Y S dO 0 0 am_M324 0 [(0, .ref 103), (1, .int x1)] [] (hp M) none (hp M2)) : ∀ (n : Nat) (x1 : Int32) (x3 : Int32) (M : Mem) (M' : Mem), f_r_readAsk_107 N RO n x1 x3 M = some M' → am_Y S (dO + 3) 0 0 am_M302 107 [(0, .ref 103), (1, .int x1), (3, .int x3)] [] (hp M) none (hp M') := by
  intro n
  induction n with
  | zero =>
    intro x1 x3 M M' h
    cases h
  | succ n ih =>
    intro x1 x3 M M' h
    rw [f_r_readAsk_107] at h
    refine am_Y.run (k := 2) (pc' := 109) (lv' := [(0, .ref 103), (1, .int x1), (3, .int x3)]) (st' := [.int x1, .int x3]) (h' := hp M) rfl ?_
    refine am_Y.br (c := x1 ≤ x3) _ (t := 128) (u := 112) (lv' := [(0, .ref 103), (1, .int x1), (3, .int x3)]) (st' := []) (h' := hp M) rfl (fun hc => ?_) (fun hc => ?_)
    · replace h := (if_pos hc).symm.trans h
      obtain rfl := Option.some.inj h
      exact am_Y.ret rfl
    · replace h := (if_neg hc).symm.trans h
      refine am_Y.run (k := 4) (pc' := 119) (lv' := [(0, .ref 103), (1, .int x1), (3, .int x3)]) (st' := [.int (0 : Int32), .int (26 : Int32), .ref 104]) (h' := hp M) rfl ?_
      obtain ⟨q14, e_q14, h⟩ := Option.bind_eq_some_iff.mp h
      refine am_Y.call0 (M' := am_M303) (as := [.ref 104, .int (26 : Int32), .int (0 : Int32)]) (rest := []) (d' := 0) rfl (by omega) rfl rfl (t_p_put (26 : Int32) (0 : Int32) M q14 e_q14) ?_
      refine am_Y.run (k := 2) (pc' := 107) (lv' := [(3, .int (x3 + (1 : Int32))), (0, .ref 103), (1, .int x1)]) (st' := []) (h' := hp q14) rfl ?_
      refine am_Y.weak (lv2 := [(0, .ref 103), (1, .int x1), (3, .int (x3 + (1 : Int32)))]) rfl rfl ⟨rfl, rfl, rfl, trivial⟩ ?_
      exact ih x1 (x3 + (1 : Int32)) q14 _ h
set_option maxRecDepth 100000 in
theorem t_r_readAsk_46 {S : Nat × (Nat → Int32)} (N : Nat) (RO : Int32 → Mem → Option Mem) (dO : Nat) (hRO : ∀ (x1 : Int32) (M M2 : Mem), RO x1 M = some M2 → am_Y S dO 0 0 am_M324 0 [(0, .ref 103), (1, .int x1)] [] (hp M) none (hp M2)) (x1 : Int32) (M : Mem) (M' : Mem) (h : f_r_readAsk_46 N RO x1 M = some M') : am_Y S (dO + 3) 0 0 am_M302 46 [(0, .ref 103), (1, .int x1)] [] (hp M) none (hp M') := by
  rw [f_r_readAsk_46] at h
  refine am_Y.run (k := 2) (pc' := 48) (lv' := [(0, .ref 103), (1, .int x1)]) (st' := [.int x1, .ref 103]) (h' := hp M) rfl ?_
  obtain ⟨q3, e_q3, h⟩ := Option.bind_eq_some_iff.mp h
  refine am_Y.call0 (M' := am_M279) (as := [.ref 103, .int x1]) (rest := []) (d' := dO + 2) rfl (by omega) rfl rfl (t_r_readSum N RO dO hRO x1 M q3 e_q3) ?_
  refine am_Y.run (k := 6) (pc' := 61) (lv' := [(2, .int (gi q3 103 7)), (0, .ref 103), (1, .int x1)]) (st' := [.int (37 : Int32), .int (34 : Int32), .int (gi q3 103 7)]) (h' := hp q3) rfl ?_
  refine am_Y.call0 (M' := am_M102) (as := [.int (gi q3 103 7), .int (34 : Int32), .int (37 : Int32)]) (rest := []) (d' := 0) rfl (by omega) rfl rfl (t_w_within (gi q3 103 7) (34 : Int32) (37 : Int32) q3 _ rfl) ?_
  refine am_Y.br (c := (f_w_within (gi q3 103 7) (34 : Int32) (37 : Int32) q3) = (0 : Int32)) _ (t := 67) (u := 79) (lv' := [(2, .int (gi q3 103 7)), (0, .ref 103), (1, .int x1)]) (st' := []) (h' := hp q3) rfl (fun hc => ?_) (fun hc => ?_)
  · replace h := (if_pos hc).symm.trans h
    refine am_Y.run (k := 2) (pc' := 70) (lv' := [(2, .int (gi q3 103 7)), (0, .ref 103), (1, .int x1)]) (st' := [.int (46 : Int32), .int (gi q3 103 7)]) (h' := hp q3) rfl ?_
    refine am_Y.br (c := (gi q3 103 7) = (46 : Int32)) _ (t := 79) (u := 73) (lv' := [(2, .int (gi q3 103 7)), (0, .ref 103), (1, .int x1)]) (st' := []) (h' := hp q3) rfl (fun hc => ?_) (fun hc => ?_)
    · replace h := (if_pos hc).symm.trans h
      refine am_Y.run (k := 1) (pc' := 80) (lv' := [(2, .int (gi q3 103 7)), (0, .ref 103), (1, .int x1)]) (st' := [.ref 103]) (h' := hp q3) rfl ?_
      obtain ⟨q4, e_q4, h⟩ := Option.bind_eq_some_iff.mp h
      refine am_Y.call0 (M' := am_M276) (as := [.ref 103]) (rest := []) (d' := 0) rfl (by omega) rfl rfl (t_r_advance q3 q4 e_q4) ?_
      refine am_Y.run (k := 2) (pc' := 85) (lv' := [(2, .int (gi q3 103 7)), (0, .ref 103), (1, .int x1)]) (st' := [.int x1, .ref 103]) (h' := hp q4) rfl ?_
      obtain ⟨q5, e_q5, h⟩ := Option.bind_eq_some_iff.mp h
      refine am_Y.call0 (M' := am_M279) (as := [.ref 103, .int x1]) (rest := []) (d' := dO + 2) rfl (by omega) rfl rfl (t_r_readSum N RO dO hRO x1 q4 q5 e_q5) ?_
      refine am_Y.run (k := 4) (pc' := 94) (lv' := [(2, .int (gi q3 103 7)), (0, .ref 103), (1, .int x1)]) (st' := [.int (0 : Int32), .int (gi q3 103 7), .ref 104]) (h' := hp q5) rfl ?_
      obtain ⟨q6, e_q6, h⟩ := Option.bind_eq_some_iff.mp h
      refine am_Y.call0 (M' := am_M303) (as := [.ref 104, .int (gi q3 103 7), .int (0 : Int32)]) (rest := []) (d' := 0) rfl (by omega) rfl rfl (t_p_put (gi q3 103 7) (0 : Int32) q5 q6 e_q6) ?_
      refine am_Y.run (k := 3) (pc' := 107) (lv' := [(3, .int (0 : Int32)), (2, .int (gi q3 103 7)), (0, .ref 103), (1, .int x1)]) (st' := []) (h' := hp q6) rfl ?_
      refine am_Y.weak (lv2 := [(0, .ref 103), (1, .int x1), (3, .int (0 : Int32))]) rfl rfl ⟨rfl, rfl, rfl, trivial⟩ ?_
      exact t_r_readAsk_107 N RO dO hRO N x1 (0 : Int32) q6 _ h
    · replace h := (if_neg hc).symm.trans h
      refine am_Y.run (k := 2) (pc' := 76) (lv' := [(2, .int (gi q3 103 7)), (0, .ref 103), (1, .int x1)]) (st' := [.int (47 : Int32), .int (gi q3 103 7)]) (h' := hp q3) rfl ?_
      refine am_Y.br (c := (gi q3 103 7) = (47 : Int32)) _ (t := 79) (u := 100) (lv' := [(2, .int (gi q3 103 7)), (0, .ref 103), (1, .int x1)]) (st' := []) (h' := hp q3) rfl (fun hc => ?_) (fun hc => ?_)
      · replace h := (if_pos hc).symm.trans h
        refine am_Y.run (k := 1) (pc' := 80) (lv' := [(2, .int (gi q3 103 7)), (0, .ref 103), (1, .int x1)]) (st' := [.ref 103]) (h' := hp q3) rfl ?_
        obtain ⟨q7, e_q7, h⟩ := Option.bind_eq_some_iff.mp h
        refine am_Y.call0 (M' := am_M276) (as := [.ref 103]) (rest := []) (d' := 0) rfl (by omega) rfl rfl (t_r_advance q3 q7 e_q7) ?_
        refine am_Y.run (k := 2) (pc' := 85) (lv' := [(2, .int (gi q3 103 7)), (0, .ref 103), (1, .int x1)]) (st' := [.int x1, .ref 103]) (h' := hp q7) rfl ?_
        obtain ⟨q8, e_q8, h⟩ := Option.bind_eq_some_iff.mp h
        refine am_Y.call0 (M' := am_M279) (as := [.ref 103, .int x1]) (rest := []) (d' := dO + 2) rfl (by omega) rfl rfl (t_r_readSum N RO dO hRO x1 q7 q8 e_q8) ?_
        refine am_Y.run (k := 4) (pc' := 94) (lv' := [(2, .int (gi q3 103 7)), (0, .ref 103), (1, .int x1)]) (st' := [.int (0 : Int32), .int (gi q3 103 7), .ref 104]) (h' := hp q8) rfl ?_
        obtain ⟨q9, e_q9, h⟩ := Option.bind_eq_some_iff.mp h
        refine am_Y.call0 (M' := am_M303) (as := [.ref 104, .int (gi q3 103 7), .int (0 : Int32)]) (rest := []) (d' := 0) rfl (by omega) rfl rfl (t_p_put (gi q3 103 7) (0 : Int32) q8 q9 e_q9) ?_
        refine am_Y.run (k := 3) (pc' := 107) (lv' := [(3, .int (0 : Int32)), (2, .int (gi q3 103 7)), (0, .ref 103), (1, .int x1)]) (st' := []) (h' := hp q9) rfl ?_
        refine am_Y.weak (lv2 := [(0, .ref 103), (1, .int x1), (3, .int (0 : Int32))]) rfl rfl ⟨rfl, rfl, rfl, trivial⟩ ?_
        exact t_r_readAsk_107 N RO dO hRO N x1 (0 : Int32) q9 _ h
      · replace h := (if_neg hc).symm.trans h
        refine am_Y.run (k := 2) (pc' := 102) (lv' := [(2, .int (gi q3 103 7)), (0, .ref 103), (1, .int x1)]) (st' := [.int (1 : Int32), .ref 103]) (h' := hp q3) rfl ?_
        obtain ⟨q10, e_q10, h⟩ := Option.bind_eq_some_iff.mp h
        refine am_Y.call0 (M' := am_M275) (as := [.ref 103, .int (1 : Int32)]) (rest := []) (d' := 0) rfl (by omega) rfl rfl (t_r_fail (1 : Int32) q3 q10 e_q10) ?_
        refine am_Y.run (k := 2) (pc' := 107) (lv' := [(3, .int (0 : Int32)), (2, .int (gi q3 103 7)), (0, .ref 103), (1, .int x1)]) (st' := []) (h' := hp q10) rfl ?_
        refine am_Y.weak (lv2 := [(0, .ref 103), (1, .int x1), (3, .int (0 : Int32))]) rfl rfl ⟨rfl, rfl, rfl, trivial⟩ ?_
        exact t_r_readAsk_107 N RO dO hRO N x1 (0 : Int32) q10 _ h
  · replace h := (if_neg hc).symm.trans h
    refine am_Y.run (k := 1) (pc' := 80) (lv' := [(2, .int (gi q3 103 7)), (0, .ref 103), (1, .int x1)]) (st' := [.ref 103]) (h' := hp q3) rfl ?_
    obtain ⟨q11, e_q11, h⟩ := Option.bind_eq_some_iff.mp h
    refine am_Y.call0 (M' := am_M276) (as := [.ref 103]) (rest := []) (d' := 0) rfl (by omega) rfl rfl (t_r_advance q3 q11 e_q11) ?_
    refine am_Y.run (k := 2) (pc' := 85) (lv' := [(2, .int (gi q3 103 7)), (0, .ref 103), (1, .int x1)]) (st' := [.int x1, .ref 103]) (h' := hp q11) rfl ?_
    obtain ⟨q12, e_q12, h⟩ := Option.bind_eq_some_iff.mp h
    refine am_Y.call0 (M' := am_M279) (as := [.ref 103, .int x1]) (rest := []) (d' := dO + 2) rfl (by omega) rfl rfl (t_r_readSum N RO dO hRO x1 q11 q12 e_q12) ?_
    refine am_Y.run (k := 4) (pc' := 94) (lv' := [(2, .int (gi q3 103 7)), (0, .ref 103), (1, .int x1)]) (st' := [.int (0 : Int32), .int (gi q3 103 7), .ref 104]) (h' := hp q12) rfl ?_
    obtain ⟨q13, e_q13, h⟩ := Option.bind_eq_some_iff.mp h
    refine am_Y.call0 (M' := am_M303) (as := [.ref 104, .int (gi q3 103 7), .int (0 : Int32)]) (rest := []) (d' := 0) rfl (by omega) rfl rfl (t_p_put (gi q3 103 7) (0 : Int32) q12 q13 e_q13) ?_
    refine am_Y.run (k := 3) (pc' := 107) (lv' := [(3, .int (0 : Int32)), (2, .int (gi q3 103 7)), (0, .ref 103), (1, .int x1)]) (st' := []) (h' := hp q13) rfl ?_
    refine am_Y.weak (lv2 := [(0, .ref 103), (1, .int x1), (3, .int (0 : Int32))]) rfl rfl ⟨rfl, rfl, rfl, trivial⟩ ?_
    exact t_r_readAsk_107 N RO dO hRO N x1 (0 : Int32) q13 _ h
set_option maxRecDepth 100000 in
theorem t_r_readAsk_4 {S : Nat × (Nat → Int32)} (N : Nat) (RO : Int32 → Mem → Option Mem) (dO : Nat) (hRO : ∀ (x1 : Int32) (M M2 : Mem), RO x1 M = some M2 → am_Y S dO 0 0 am_M324 0 [(0, .ref 103), (1, .int x1)] [] (hp M) none (hp M2)) : ∀ (n : Nat) (x1 : Int32) (x2 : Int32) (M : Mem) (M' : Mem), f_r_readAsk_4 N RO n x1 x2 M = some M' → am_Y S (dO + 3) 0 0 am_M302 4 [(0, .ref 103), (1, .int x1), (2, .int x2)] [] (hp M) none (hp M') := by
  intro n
  induction n with
  | zero =>
    intro x1 x2 M M' h
    cases h
  | succ n ih =>
    intro x1 x2 M M' h
    rw [f_r_readAsk_4] at h
    refine am_Y.run (k := 2) (pc' := 7) (lv' := [(0, .ref 103), (1, .int x1), (2, .int x2)]) (st' := [.int (8 : Int32), .int x2]) (h' := hp M) rfl ?_
    refine am_Y.br (c := (8 : Int32) < x2) _ (t := 46) (u := 10) (lv' := [(0, .ref 103), (1, .int x1), (2, .int x2)]) (st' := []) (h' := hp M) rfl (fun hc => ?_) (fun hc => ?_)
    · replace h := (if_pos hc).symm.trans h
      refine am_Y.weak (lv2 := [(0, .ref 103), (1, .int x1)]) rfl rfl ⟨rfl, rfl, trivial⟩ ?_
      exact t_r_readAsk_46 N RO dO hRO x1 M _ h
    · replace h := (if_neg hc).symm.trans h
      refine am_Y.run (k := 3) (pc' := 16) (lv' := [(0, .ref 103), (1, .int x1), (2, .int x2)]) (st' := [.int (26 : Int32), .int (gi M 103 7)]) (h' := hp M) rfl ?_
      refine am_Y.br (c := (gi M 103 7) = (26 : Int32)) _ (t := 19) (u := 46) (lv' := [(0, .ref 103), (1, .int x1), (2, .int x2)]) (st' := []) (h' := hp M) rfl (fun hc => ?_) (fun hc => ?_)
      · replace h := (if_pos hc).symm.trans h
        refine am_Y.run (k := 2) (pc' := 22) (lv' := [(0, .ref 103), (1, .int x1), (2, .int x2)]) (st' := [.int (8 : Int32), .int x1]) (h' := hp M) rfl ?_
        refine am_Y.br (c := x1 < (8 : Int32)) _ (t := 33) (u := 25) (lv' := [(0, .ref 103), (1, .int x1), (2, .int x2)]) (st' := []) (h' := hp M) rfl (fun hc => ?_) (fun hc => ?_)
        · replace h := (if_pos hc).symm.trans h
          refine am_Y.run (k := 2) (pc' := 37) (lv' := [(1, .int (x1 + (1 : Int32))), (0, .ref 103), (2, .int x2)]) (st' := [.ref 103]) (h' := hp M) rfl ?_
          obtain ⟨q1, e_q1, h⟩ := Option.bind_eq_some_iff.mp h
          refine am_Y.call0 (M' := am_M276) (as := [.ref 103]) (rest := []) (d' := 0) rfl (by omega) rfl rfl (t_r_advance M q1 e_q1) ?_
          refine am_Y.run (k := 2) (pc' := 4) (lv' := [(2, .int (x2 + (1 : Int32))), (1, .int (x1 + (1 : Int32))), (0, .ref 103)]) (st' := []) (h' := hp q1) rfl ?_
          refine am_Y.weak (lv2 := [(0, .ref 103), (1, .int (x1 + (1 : Int32))), (2, .int (x2 + (1 : Int32)))]) rfl rfl ⟨rfl, rfl, rfl, trivial⟩ ?_
          exact ih (x1 + (1 : Int32)) (x2 + (1 : Int32)) q1 _ h
        · replace h := (if_neg hc).symm.trans h
          refine am_Y.run (k := 2) (pc' := 27) (lv' := [(0, .ref 103), (1, .int x1), (2, .int x2)]) (st' := [.int (3 : Int32), .ref 103]) (h' := hp M) rfl ?_
          obtain ⟨q2, e_q2, h⟩ := Option.bind_eq_some_iff.mp h
          refine am_Y.call0 (M' := am_M275) (as := [.ref 103, .int (3 : Int32)]) (rest := []) (d' := 0) rfl (by omega) rfl rfl (t_r_fail (3 : Int32) M q2 e_q2) ?_
          refine am_Y.run (k := 3) (pc' := 4) (lv' := [(2, .int (x2 + (1 : Int32))), (0, .ref 103), (1, .int x1)]) (st' := []) (h' := hp q2) rfl ?_
          refine am_Y.weak (lv2 := [(0, .ref 103), (1, .int x1), (2, .int (x2 + (1 : Int32)))]) rfl rfl ⟨rfl, rfl, rfl, trivial⟩ ?_
          exact ih x1 (x2 + (1 : Int32)) q2 _ h
      · replace h := (if_neg hc).symm.trans h
        refine am_Y.weak (lv2 := [(0, .ref 103), (1, .int x1)]) rfl rfl ⟨rfl, rfl, trivial⟩ ?_
        exact t_r_readAsk_46 N RO dO hRO x1 M _ h
set_option maxRecDepth 100000 in
theorem t_r_readAsk {S : Nat × (Nat → Int32)} (N : Nat) (RO : Int32 → Mem → Option Mem) (dO : Nat) (hRO : ∀ (x1 : Int32) (M M2 : Mem), RO x1 M = some M2 → am_Y S dO 0 0 am_M324 0 [(0, .ref 103), (1, .int x1)] [] (hp M) none (hp M2)) (M : Mem) (M' : Mem) (h : f_r_readAsk N RO M = some M') : am_Y S (dO + 3) 0 0 am_M302 0 [(0, .ref 103)] [] (hp M) none (hp M') := by
  rw [f_r_readAsk] at h
  refine am_Y.run (k := 4) (pc' := 4) (lv' := [(2, .int (0 : Int32)), (1, .int (0 : Int32)), (0, .ref 103)]) (st' := []) (h' := hp M) rfl ?_
  refine am_Y.weak (lv2 := [(0, .ref 103), (1, .int (0 : Int32)), (2, .int (0 : Int32))]) rfl rfl ⟨rfl, rfl, rfl, trivial⟩ ?_
  exact t_r_readAsk_4 N RO dO hRO N (0 : Int32) (0 : Int32) M _ h
set_option maxRecDepth 100000 in
theorem t_r_readEither_36 {S : Nat × (Nat → Int32)} (N : Nat) (RO : Int32 → Mem → Option Mem) (dO : Nat) (hRO : ∀ (x1 : Int32) (M M2 : Mem), RO x1 M = some M2 → am_Y S dO 0 0 am_M324 0 [(0, .ref 103), (1, .int x1)] [] (hp M) none (hp M2)) (K2 : Int32 → Mem → Option Mem) (hK2 : ∀ (x1 : Int32) (M : Mem) (M' : Mem), K2 x1 M = some M' → am_Y S (dO + 4) 0 0 am_M278 2 [(0, .ref 103), (1, .int x1)] [] (hp M) none (hp M')) : ∀ (n : Nat) (x1 : Int32) (x2 : Int32) (M : Mem) (M' : Mem), f_r_readEither_36 N RO K2 n x1 x2 M = some M' → am_Y S (dO + 4) 0 0 am_M278 36 [(0, .ref 103), (1, .int x1), (2, .int x2)] [] (hp M) none (hp M') := by
  intro n
  induction n with
  | zero =>
    intro x1 x2 M M' h
    cases h
  | succ n ih =>
    intro x1 x2 M M' h
    rw [f_r_readEither_36] at h
    refine am_Y.run (k := 2) (pc' := 40) (lv' := [(0, .ref 103), (1, .int x1), (2, .int x2)]) (st' := [.int (300 : Int32), .int x2]) (h' := hp M) rfl ?_
    refine am_Y.br (c := (300 : Int32) ≤ x2) _ (t := 76) (u := 43) (lv' := [(0, .ref 103), (1, .int x1), (2, .int x2)]) (st' := []) (h' := hp M) rfl (fun hc => ?_) (fun hc => ?_)
    · replace h := (if_pos hc).symm.trans h
      refine am_Y.run (k := 1) (pc' := 77) (lv' := [(0, .ref 103), (1, .int x1), (2, .int x2)]) (st' := [.int x1]) (h' := hp M) rfl ?_
      refine am_Y.br (c := x1 ≤ (0 : Int32)) _ (t := 90) (u := 80) (lv' := [(0, .ref 103), (1, .int x1), (2, .int x2)]) (st' := []) (h' := hp M) rfl (fun hc => ?_) (fun hc => ?_)
      · replace h := (if_pos hc).symm.trans h
        refine am_Y.run (k := 2) (pc' := 2) (lv' := [(1, .int (x1 + (1 : Int32))), (0, .ref 103), (2, .int x2)]) (st' := []) (h' := hp M) rfl ?_
        refine am_Y.weak (lv2 := [(0, .ref 103), (1, .int (x1 + (1 : Int32)))]) rfl rfl ⟨rfl, rfl, trivial⟩ ?_
        exact hK2 (x1 + (1 : Int32)) M _ h
      · replace h := (if_neg hc).symm.trans h
        refine am_Y.run (k := 4) (pc' := 87) (lv' := [(0, .ref 103), (1, .int x1), (2, .int x2)]) (st' := [.int (0 : Int32), .int (24 : Int32), .ref 104]) (h' := hp M) rfl ?_
        obtain ⟨q7, e_q7, h⟩ := Option.bind_eq_some_iff.mp h
        refine am_Y.call0 (M' := am_M303) (as := [.ref 104, .int (24 : Int32), .int (0 : Int32)]) (rest := []) (d' := 0) rfl (by omega) rfl rfl (t_p_put (24 : Int32) (0 : Int32) M q7 e_q7) ?_
        refine am_Y.run (k := 2) (pc' := 2) (lv' := [(1, .int (x1 + (1 : Int32))), (0, .ref 103), (2, .int x2)]) (st' := []) (h' := hp q7) rfl ?_
        refine am_Y.weak (lv2 := [(0, .ref 103), (1, .int (x1 + (1 : Int32)))]) rfl rfl ⟨rfl, rfl, trivial⟩ ?_
        exact hK2 (x1 + (1 : Int32)) q7 _ h
    · replace h := (if_neg hc).symm.trans h
      refine am_Y.run (k := 3) (pc' := 49) (lv' := [(0, .ref 103), (1, .int x1), (2, .int x2)]) (st' := [.int (25 : Int32), .int (gi M 103 7)]) (h' := hp M) rfl ?_
      refine am_Y.br (c := (gi M 103 7) = (25 : Int32)) _ (t := 52) (u := 76) (lv' := [(0, .ref 103), (1, .int x1), (2, .int x2)]) (st' := []) (h' := hp M) rfl (fun hc => ?_) (fun hc => ?_)
      · replace h := (if_pos hc).symm.trans h
        refine am_Y.run (k := 1) (pc' := 53) (lv' := [(0, .ref 103), (1, .int x1), (2, .int x2)]) (st' := [.ref 103]) (h' := hp M) rfl ?_
        obtain ⟨q8, e_q8, h⟩ := Option.bind_eq_some_iff.mp h
        refine am_Y.call0 (M' := am_M276) (as := [.ref 103]) (rest := []) (d' := 0) rfl (by omega) rfl rfl (t_r_advance M q8 e_q8) ?_
        refine am_Y.run (k := 1) (pc' := 57) (lv' := [(0, .ref 103), (1, .int x1), (2, .int x2)]) (st' := [.ref 103]) (h' := hp q8) rfl ?_
        obtain ⟨q9, e_q9, h⟩ := Option.bind_eq_some_iff.mp h
        refine am_Y.call0 (M' := am_M302) (as := [.ref 103]) (rest := []) (d' := dO + 3) rfl (by omega) rfl rfl (t_r_readAsk N RO dO hRO q8 q9 e_q9) ?_
        refine am_Y.run (k := 4) (pc' := 67) (lv' := [(0, .ref 103), (1, .int x1), (2, .int x2)]) (st' := [.int (0 : Int32), .int (25 : Int32), .ref 104]) (h' := hp q9) rfl ?_
        obtain ⟨q10, e_q10, h⟩ := Option.bind_eq_some_iff.mp h
        refine am_Y.call0 (M' := am_M303) (as := [.ref 104, .int (25 : Int32), .int (0 : Int32)]) (rest := []) (d' := 0) rfl (by omega) rfl rfl (t_p_put (25 : Int32) (0 : Int32) q9 q10 e_q10) ?_
        refine am_Y.run (k := 2) (pc' := 36) (lv' := [(2, .int (x2 + (1 : Int32))), (0, .ref 103), (1, .int x1)]) (st' := []) (h' := hp q10) rfl ?_
        refine am_Y.weak (lv2 := [(0, .ref 103), (1, .int x1), (2, .int (x2 + (1 : Int32)))]) rfl rfl ⟨rfl, rfl, rfl, trivial⟩ ?_
        exact ih x1 (x2 + (1 : Int32)) q10 _ h
      · replace h := (if_neg hc).symm.trans h
        refine am_Y.run (k := 1) (pc' := 77) (lv' := [(0, .ref 103), (1, .int x1), (2, .int x2)]) (st' := [.int x1]) (h' := hp M) rfl ?_
        refine am_Y.br (c := x1 ≤ (0 : Int32)) _ (t := 90) (u := 80) (lv' := [(0, .ref 103), (1, .int x1), (2, .int x2)]) (st' := []) (h' := hp M) rfl (fun hc => ?_) (fun hc => ?_)
        · replace h := (if_pos hc).symm.trans h
          refine am_Y.run (k := 2) (pc' := 2) (lv' := [(1, .int (x1 + (1 : Int32))), (0, .ref 103), (2, .int x2)]) (st' := []) (h' := hp M) rfl ?_
          refine am_Y.weak (lv2 := [(0, .ref 103), (1, .int (x1 + (1 : Int32)))]) rfl rfl ⟨rfl, rfl, trivial⟩ ?_
          exact hK2 (x1 + (1 : Int32)) M _ h
        · replace h := (if_neg hc).symm.trans h
          refine am_Y.run (k := 4) (pc' := 87) (lv' := [(0, .ref 103), (1, .int x1), (2, .int x2)]) (st' := [.int (0 : Int32), .int (24 : Int32), .ref 104]) (h' := hp M) rfl ?_
          obtain ⟨q11, e_q11, h⟩ := Option.bind_eq_some_iff.mp h
          refine am_Y.call0 (M' := am_M303) (as := [.ref 104, .int (24 : Int32), .int (0 : Int32)]) (rest := []) (d' := 0) rfl (by omega) rfl rfl (t_p_put (24 : Int32) (0 : Int32) M q11 e_q11) ?_
          refine am_Y.run (k := 2) (pc' := 2) (lv' := [(1, .int (x1 + (1 : Int32))), (0, .ref 103), (2, .int x2)]) (st' := []) (h' := hp q11) rfl ?_
          refine am_Y.weak (lv2 := [(0, .ref 103), (1, .int (x1 + (1 : Int32)))]) rfl rfl ⟨rfl, rfl, trivial⟩ ?_
          exact hK2 (x1 + (1 : Int32)) q11 _ h
set_option maxRecDepth 100000 in
theorem t_r_readEither_2 {S : Nat × (Nat → Int32)} (N : Nat) (RO : Int32 → Mem → Option Mem) (dO : Nat) (hRO : ∀ (x1 : Int32) (M M2 : Mem), RO x1 M = some M2 → am_Y S dO 0 0 am_M324 0 [(0, .ref 103), (1, .int x1)] [] (hp M) none (hp M2)) : ∀ (n : Nat) (x1 : Int32) (M : Mem) (M' : Mem), f_r_readEither_2 N RO n x1 M = some M' → am_Y S (dO + 4) 0 0 am_M278 2 [(0, .ref 103), (1, .int x1)] [] (hp M) none (hp M') := by
  intro n
  induction n with
  | zero =>
    intro x1 M M' h
    cases h
  | succ n ih =>
    intro x1 M M' h
    rw [f_r_readEither_2] at h
    refine am_Y.run (k := 2) (pc' := 6) (lv' := [(0, .ref 103), (1, .int x1)]) (st' := [.int (300 : Int32), .int x1]) (h' := hp M) rfl ?_
    refine am_Y.br (c := (300 : Int32) ≤ x1) _ (t := 96) (u := 9) (lv' := [(0, .ref 103), (1, .int x1)]) (st' := []) (h' := hp M) rfl (fun hc => ?_) (fun hc => ?_)
    · replace h := (if_pos hc).symm.trans h
      obtain rfl := Option.some.inj h
      exact am_Y.ret rfl
    · replace h := (if_neg hc).symm.trans h
      refine am_Y.run (k := 1) (pc' := 10) (lv' := [(0, .ref 103), (1, .int x1)]) (st' := [.int x1]) (h' := hp M) rfl ?_
      refine am_Y.br (c := x1 = (0 : Int32)) _ (t := 22) (u := 13) (lv' := [(0, .ref 103), (1, .int x1)]) (st' := []) (h' := hp M) rfl (fun hc => ?_) (fun hc => ?_)
      · replace h := (if_pos hc).symm.trans h
        refine am_Y.run (k := 1) (pc' := 23) (lv' := [(0, .ref 103), (1, .int x1)]) (st' := [.int x1]) (h' := hp M) rfl ?_
        refine am_Y.br (c := x1 ≤ (0 : Int32)) _ (t := 30) (u := 26) (lv' := [(0, .ref 103), (1, .int x1)]) (st' := []) (h' := hp M) rfl (fun hc => ?_) (fun hc => ?_)
        · replace h := (if_pos hc).symm.trans h
          refine am_Y.run (k := 1) (pc' := 31) (lv' := [(0, .ref 103), (1, .int x1)]) (st' := [.ref 103]) (h' := hp M) rfl ?_
          obtain ⟨q1, e_q1, h⟩ := Option.bind_eq_some_iff.mp h
          refine am_Y.call0 (M' := am_M302) (as := [.ref 103]) (rest := []) (d' := dO + 3) rfl (by omega) rfl rfl (t_r_readAsk N RO dO hRO M q1 e_q1) ?_
          refine am_Y.run (k := 2) (pc' := 36) (lv' := [(2, .int (0 : Int32)), (0, .ref 103), (1, .int x1)]) (st' := []) (h' := hp q1) rfl ?_
          refine am_Y.weak (lv2 := [(0, .ref 103), (1, .int x1), (2, .int (0 : Int32))]) rfl rfl ⟨rfl, rfl, rfl, trivial⟩ ?_
          exact t_r_readEither_36 N RO dO hRO _ ih N x1 (0 : Int32) q1 _ h
        · replace h := (if_neg hc).symm.trans h
          refine am_Y.run (k := 1) (pc' := 27) (lv' := [(0, .ref 103), (1, .int x1)]) (st' := [.ref 103]) (h' := hp M) rfl ?_
          obtain ⟨q2, e_q2, h⟩ := Option.bind_eq_some_iff.mp h
          refine am_Y.call0 (M' := am_M276) (as := [.ref 103]) (rest := []) (d' := 0) rfl (by omega) rfl rfl (t_r_advance M q2 e_q2) ?_
          refine am_Y.run (k := 1) (pc' := 31) (lv' := [(0, .ref 103), (1, .int x1)]) (st' := [.ref 103]) (h' := hp q2) rfl ?_
          obtain ⟨q3, e_q3, h⟩ := Option.bind_eq_some_iff.mp h
          refine am_Y.call0 (M' := am_M302) (as := [.ref 103]) (rest := []) (d' := dO + 3) rfl (by omega) rfl rfl (t_r_readAsk N RO dO hRO q2 q3 e_q3) ?_
          refine am_Y.run (k := 2) (pc' := 36) (lv' := [(2, .int (0 : Int32)), (0, .ref 103), (1, .int x1)]) (st' := []) (h' := hp q3) rfl ?_
          refine am_Y.weak (lv2 := [(0, .ref 103), (1, .int x1), (2, .int (0 : Int32))]) rfl rfl ⟨rfl, rfl, rfl, trivial⟩ ?_
          exact t_r_readEither_36 N RO dO hRO _ ih N x1 (0 : Int32) q3 _ h
      · replace h := (if_neg hc).symm.trans h
        refine am_Y.run (k := 3) (pc' := 19) (lv' := [(0, .ref 103), (1, .int x1)]) (st' := [.int (24 : Int32), .int (gi M 103 7)]) (h' := hp M) rfl ?_
        refine am_Y.br (c := (gi M 103 7) = (24 : Int32)) _ (t := 22) (u := 96) (lv' := [(0, .ref 103), (1, .int x1)]) (st' := []) (h' := hp M) rfl (fun hc => ?_) (fun hc => ?_)
        · replace h := (if_pos hc).symm.trans h
          refine am_Y.run (k := 1) (pc' := 23) (lv' := [(0, .ref 103), (1, .int x1)]) (st' := [.int x1]) (h' := hp M) rfl ?_
          refine am_Y.br (c := x1 ≤ (0 : Int32)) _ (t := 30) (u := 26) (lv' := [(0, .ref 103), (1, .int x1)]) (st' := []) (h' := hp M) rfl (fun hc => ?_) (fun hc => ?_)
          · replace h := (if_pos hc).symm.trans h
            refine am_Y.run (k := 1) (pc' := 31) (lv' := [(0, .ref 103), (1, .int x1)]) (st' := [.ref 103]) (h' := hp M) rfl ?_
            obtain ⟨q4, e_q4, h⟩ := Option.bind_eq_some_iff.mp h
            refine am_Y.call0 (M' := am_M302) (as := [.ref 103]) (rest := []) (d' := dO + 3) rfl (by omega) rfl rfl (t_r_readAsk N RO dO hRO M q4 e_q4) ?_
            refine am_Y.run (k := 2) (pc' := 36) (lv' := [(2, .int (0 : Int32)), (0, .ref 103), (1, .int x1)]) (st' := []) (h' := hp q4) rfl ?_
            refine am_Y.weak (lv2 := [(0, .ref 103), (1, .int x1), (2, .int (0 : Int32))]) rfl rfl ⟨rfl, rfl, rfl, trivial⟩ ?_
            exact t_r_readEither_36 N RO dO hRO _ ih N x1 (0 : Int32) q4 _ h
          · replace h := (if_neg hc).symm.trans h
            refine am_Y.run (k := 1) (pc' := 27) (lv' := [(0, .ref 103), (1, .int x1)]) (st' := [.ref 103]) (h' := hp M) rfl ?_
            obtain ⟨q5, e_q5, h⟩ := Option.bind_eq_some_iff.mp h
            refine am_Y.call0 (M' := am_M276) (as := [.ref 103]) (rest := []) (d' := 0) rfl (by omega) rfl rfl (t_r_advance M q5 e_q5) ?_
            refine am_Y.run (k := 1) (pc' := 31) (lv' := [(0, .ref 103), (1, .int x1)]) (st' := [.ref 103]) (h' := hp q5) rfl ?_
            obtain ⟨q6, e_q6, h⟩ := Option.bind_eq_some_iff.mp h
            refine am_Y.call0 (M' := am_M302) (as := [.ref 103]) (rest := []) (d' := dO + 3) rfl (by omega) rfl rfl (t_r_readAsk N RO dO hRO q5 q6 e_q6) ?_
            refine am_Y.run (k := 2) (pc' := 36) (lv' := [(2, .int (0 : Int32)), (0, .ref 103), (1, .int x1)]) (st' := []) (h' := hp q6) rfl ?_
            refine am_Y.weak (lv2 := [(0, .ref 103), (1, .int x1), (2, .int (0 : Int32))]) rfl rfl ⟨rfl, rfl, rfl, trivial⟩ ?_
            exact t_r_readEither_36 N RO dO hRO _ ih N x1 (0 : Int32) q6 _ h
        · replace h := (if_neg hc).symm.trans h
          obtain rfl := Option.some.inj h
          exact am_Y.ret rfl
set_option maxRecDepth 100000 in
theorem t_r_readEither {S : Nat × (Nat → Int32)} (N : Nat) (RO : Int32 → Mem → Option Mem) (dO : Nat) (hRO : ∀ (x1 : Int32) (M M2 : Mem), RO x1 M = some M2 → am_Y S dO 0 0 am_M324 0 [(0, .ref 103), (1, .int x1)] [] (hp M) none (hp M2)) (M : Mem) (M' : Mem) (h : f_r_readEither N RO M = some M') : am_Y S (dO + 4) 0 0 am_M278 0 [(0, .ref 103)] [] (hp M) none (hp M') := by
  rw [f_r_readEither] at h
  refine am_Y.run (k := 2) (pc' := 2) (lv' := [(1, .int (0 : Int32)), (0, .ref 103)]) (st' := []) (h' := hp M) rfl ?_
  refine am_Y.weak (lv2 := [(0, .ref 103), (1, .int (0 : Int32))]) rfl rfl ⟨rfl, rfl, trivial⟩ ?_
  exact t_r_readEither_2 N RO dO hRO N (0 : Int32) M _ h
set_option maxRecDepth 100000 in
theorem t_p_addClause {S : Nat × (Nat → Int32)} (x1 : Int32) (x2 : Int32) (x3 : Int32) (M : Mem) (M' : Mem) (h : f_p_addClause x1 x2 x3 M = some M') : am_Y S 1 0 0 am_M306 0 [(0, .ref 104), (1, .int x1), (2, .int x2), (3, .int x3)] [] (hp M) none (hp M') := by
  rw [f_p_addClause] at h
  refine am_Y.run (k := 4) (pc' := 7) (lv' := [(0, .ref 104), (1, .int x1), (2, .int x2), (3, .int x3)]) (st' := [.int (23 : Int32), .int (0 : Int32), .int (gi M 104 4)]) (h' := hp M) rfl ?_
  refine am_Y.call0 (M' := am_M102) (as := [.int (gi M 104 4), .int (0 : Int32), .int (23 : Int32)]) (rest := []) (d' := 0) rfl (by omega) rfl rfl (t_w_within (gi M 104 4) (0 : Int32) (23 : Int32) M _ rfl) ?_
  refine am_Y.br (c := (f_w_within (gi M 104 4) (0 : Int32) (23 : Int32) M) = (0 : Int32)) _ (t := 42) (u := 13) (lv' := [(0, .ref 104), (1, .int x1), (2, .int x2), (3, .int x3)]) (st' := []) (h' := hp M) rfl (fun hc => ?_) (fun hc => ?_)
  · replace h := (if_pos hc).symm.trans h
    obtain rfl := Option.some.inj h
    exact am_Y.ret rfl
  · replace h := (if_neg hc).symm.trans h
    refine am_Y.run (k := 13) (pc' := 31) (lv' := [(0, .ref 104), (1, .int x1), (2, .int x2), (3, .int x3)]) (st' := [.int ((x1 ||| (x2 <<< (5 : Int32))) ||| (x3 <<< (11 : Int32))), .int (gi M 104 4), .ref 106]) (h' := hp M) rfl ?_
    obtain ⟨g, h⟩ := am_itg h
    refine am_Y.iast (a := 101) (n := 24) rfl rfl g ?_
    refine am_Y.run (k := 0) (pc' := _) (lv' := [(0, .ref 104), (1, .int x1), (2, .int x2), (3, .int x3)]) (st' := []) (h' := hp (si M 106 ((gi M 104 4)).toNatClampNeg ((x1 ||| (x2 <<< (5 : Int32))) ||| (x3 <<< (11 : Int32))))) rfl ?_
    obtain ⟨q1, e_q1, h⟩ := Option.bind_eq_some_iff.mp h
    rw [Option.some.inj e_q1]
    refine am_Y.run (k := 6) (pc' := 42) (lv' := [(0, .ref 104), (1, .int x1), (2, .int x2), (3, .int x3)]) (st' := []) (h' := hp (si q1 104 4 ((gi q1 104 4) + (1 : Int32)))) rfl ?_
    obtain ⟨q2, e_q2, h⟩ := Option.bind_eq_some_iff.mp h
    rw [Option.some.inj e_q2]
    obtain rfl := Option.some.inj h
    exact am_Y.ret rfl
set_option maxRecDepth 100000 in
theorem t_r_readRest {S : Nat × (Nat → Int32)} (x1 : Int32) (M : Mem) (M' : Mem) (h : f_r_readRest x1 M = some M') : am_Y S 2 0 0 am_M280 0 [(0, .ref 103), (1, .int x1)] [] (hp M) none (hp M') := by
  rw [f_r_readRest] at h
  refine am_Y.run (k := 6) (pc' := 7) (lv' := [(3, .int (0 : Int32)), (2, .int (0 : Int32)), (0, .ref 103), (1, .int x1)]) (st' := [.int (14 : Int32), .int x1]) (h' := hp M) rfl ?_
  refine am_Y.br (c := (14 : Int32) < x1) _ (t := 23) (u := 10) (lv' := [(3, .int (0 : Int32)), (2, .int (0 : Int32)), (0, .ref 103), (1, .int x1)]) (st' := []) (h' := hp M) rfl (fun hc => ?_) (fun hc => ?_)
  · replace h := (if_pos hc).symm.trans h
    refine am_Y.run (k := 2) (pc' := 26) (lv' := [(3, .int (0 : Int32)), (2, .int (0 : Int32)), (0, .ref 103), (1, .int x1)]) (st' := [.int (15 : Int32), .int x1]) (h' := hp M) rfl ?_
    refine am_Y.br (c := x1 = (15 : Int32)) _ (t := 29) (u := 53) (lv' := [(3, .int (0 : Int32)), (2, .int (0 : Int32)), (0, .ref 103), (1, .int x1)]) (st' := []) (h' := hp M) rfl (fun hc => ?_) (fun hc => ?_)
    · replace h := (if_pos hc).symm.trans h
      refine am_Y.run (k := 3) (pc' := 33) (lv' := [(3, .int (0 : Int32)), (2, .int (0 : Int32)), (0, .ref 103), (1, .int x1)]) (st' := [.int (9 : Int32), .int (0 : Int32), .ref 103]) (h' := hp M) rfl ?_
      obtain ⟨q1, e_q1, h⟩ := Option.bind_eq_some_iff.mp h
      refine am_Y.call0 (M' := am_M305) (as := [.ref 103, .int (0 : Int32), .int (9 : Int32)]) (rest := []) (d' := 1) rfl (by omega) rfl rfl (t_r_expectNumber (0 : Int32) (9 : Int32) M q1.1 q1.2 e_q1) ?_
      refine am_Y.run (k := 3) (pc' := 39) (lv' := [(2, .int q1.1), (3, .int (0 : Int32)), (0, .ref 103), (1, .int x1)]) (st' := [.int (4 : Int32), .ref 103]) (h' := hp q1.2) rfl ?_
      obtain ⟨q2, e_q2, h⟩ := Option.bind_eq_some_iff.mp h
      refine am_Y.call0 (M' := am_M281) (as := [.ref 103, .int (4 : Int32)]) (rest := []) (d' := 1) rfl (by omega) rfl rfl (t_r_expect (4 : Int32) q1.2 q2 e_q2) ?_
      refine am_Y.run (k := 3) (pc' := 46) (lv' := [(2, .int q1.1), (3, .int (0 : Int32)), (0, .ref 103), (1, .int x1)]) (st' := [.int (9 : Int32), .int (0 : Int32), .ref 103]) (h' := hp q2) rfl ?_
      obtain ⟨q3, e_q3, h⟩ := Option.bind_eq_some_iff.mp h
      refine am_Y.call0 (M' := am_M305) (as := [.ref 103, .int (0 : Int32), .int (9 : Int32)]) (rest := []) (d' := 1) rfl (by omega) rfl rfl (t_r_expectNumber (0 : Int32) (9 : Int32) q2 q3.1 q3.2 e_q3) ?_
      refine am_Y.run (k := 7) (pc' := 97) (lv' := [(3, .int q3.1), (2, .int q1.1), (0, .ref 103), (1, .int x1)]) (st' := [.int q3.1, .int q1.1, .int x1, .ref 104]) (h' := hp q3.2) rfl ?_
      obtain ⟨q4, e_q4, h⟩ := Option.bind_eq_some_iff.mp h
      refine am_Y.call0 (M' := am_M306) (as := [.ref 104, .int x1, .int q1.1, .int q3.1]) (rest := []) (d' := 1) rfl (by omega) rfl rfl (t_p_addClause x1 q1.1 q3.1 q3.2 q4 e_q4) ?_
      obtain rfl := Option.some.inj h
      exact am_Y.ret rfl
    · replace h := (if_neg hc).symm.trans h
      refine am_Y.run (k := 2) (pc' := 56) (lv' := [(3, .int (0 : Int32)), (2, .int (0 : Int32)), (0, .ref 103), (1, .int x1)]) (st' := [.int (21 : Int32), .int x1]) (h' := hp M) rfl ?_
      refine am_Y.br (c := x1 = (21 : Int32)) _ (t := 59) (u := 70) (lv' := [(3, .int (0 : Int32)), (2, .int (0 : Int32)), (0, .ref 103), (1, .int x1)]) (st' := []) (h' := hp M) rfl (fun hc => ?_) (fun hc => ?_)
      · replace h := (if_pos hc).symm.trans h
        refine am_Y.run (k := 3) (pc' := 63) (lv' := [(3, .int (0 : Int32)), (2, .int (0 : Int32)), (0, .ref 103), (1, .int x1)]) (st' := [.int (60 : Int32), .int (1 : Int32), .ref 103]) (h' := hp M) rfl ?_
        obtain ⟨q5, e_q5, h⟩ := Option.bind_eq_some_iff.mp h
        refine am_Y.call0 (M' := am_M305) (as := [.ref 103, .int (1 : Int32), .int (60 : Int32)]) (rest := []) (d' := 1) rfl (by omega) rfl rfl (t_r_expectNumber (1 : Int32) (60 : Int32) M q5.1 q5.2 e_q5) ?_
        refine am_Y.run (k := 7) (pc' := 97) (lv' := [(2, .int q5.1), (3, .int (0 : Int32)), (0, .ref 103), (1, .int x1)]) (st' := [.int (0 : Int32), .int q5.1, .int x1, .ref 104]) (h' := hp q5.2) rfl ?_
        obtain ⟨q6, e_q6, h⟩ := Option.bind_eq_some_iff.mp h
        refine am_Y.call0 (M' := am_M306) (as := [.ref 104, .int x1, .int q5.1, .int (0 : Int32)]) (rest := []) (d' := 1) rfl (by omega) rfl rfl (t_p_addClause x1 q5.1 (0 : Int32) q5.2 q6 e_q6) ?_
        obtain rfl := Option.some.inj h
        exact am_Y.ret rfl
      · replace h := (if_neg hc).symm.trans h
        refine am_Y.run (k := 2) (pc' := 73) (lv' := [(3, .int (0 : Int32)), (2, .int (0 : Int32)), (0, .ref 103), (1, .int x1)]) (st' := [.int (20 : Int32), .int x1]) (h' := hp M) rfl ?_
        refine am_Y.br (c := x1 = (20 : Int32)) _ (t := 90) (u := 76) (lv' := [(3, .int (0 : Int32)), (2, .int (0 : Int32)), (0, .ref 103), (1, .int x1)]) (st' := []) (h' := hp M) rfl (fun hc => ?_) (fun hc => ?_)
        · replace h := (if_pos hc).symm.trans h
          refine am_Y.run (k := 5) (pc' := 97) (lv' := [(3, .int (0 : Int32)), (2, .int (0 : Int32)), (0, .ref 103), (1, .int x1)]) (st' := [.int (0 : Int32), .int (0 : Int32), .int x1, .ref 104]) (h' := hp M) rfl ?_
          obtain ⟨q7, e_q7, h⟩ := Option.bind_eq_some_iff.mp h
          refine am_Y.call0 (M' := am_M306) (as := [.ref 104, .int x1, .int (0 : Int32), .int (0 : Int32)]) (rest := []) (d' := 1) rfl (by omega) rfl rfl (t_p_addClause x1 (0 : Int32) (0 : Int32) M q7 e_q7) ?_
          obtain rfl := Option.some.inj h
          exact am_Y.ret rfl
        · replace h := (if_neg hc).symm.trans h
          refine am_Y.run (k := 2) (pc' := 79) (lv' := [(3, .int (0 : Int32)), (2, .int (0 : Int32)), (0, .ref 103), (1, .int x1)]) (st' := [.int (23 : Int32), .int x1]) (h' := hp M) rfl ?_
          refine am_Y.br (c := x1 = (23 : Int32)) _ (t := 90) (u := 82) (lv' := [(3, .int (0 : Int32)), (2, .int (0 : Int32)), (0, .ref 103), (1, .int x1)]) (st' := []) (h' := hp M) rfl (fun hc => ?_) (fun hc => ?_)
          · replace h := (if_pos hc).symm.trans h
            refine am_Y.run (k := 5) (pc' := 97) (lv' := [(3, .int (0 : Int32)), (2, .int (0 : Int32)), (0, .ref 103), (1, .int x1)]) (st' := [.int (0 : Int32), .int (0 : Int32), .int x1, .ref 104]) (h' := hp M) rfl ?_
            obtain ⟨q8, e_q8, h⟩ := Option.bind_eq_some_iff.mp h
            refine am_Y.call0 (M' := am_M306) (as := [.ref 104, .int x1, .int (0 : Int32), .int (0 : Int32)]) (rest := []) (d' := 1) rfl (by omega) rfl rfl (t_p_addClause x1 (0 : Int32) (0 : Int32) M q8 e_q8) ?_
            obtain rfl := Option.some.inj h
            exact am_Y.ret rfl
          · replace h := (if_neg hc).symm.trans h
            refine am_Y.run (k := 3) (pc' := 86) (lv' := [(3, .int (0 : Int32)), (2, .int (0 : Int32)), (0, .ref 103), (1, .int x1)]) (st' := [.int (7 : Int32), .int (0 : Int32), .ref 103]) (h' := hp M) rfl ?_
            obtain ⟨q9, e_q9, h⟩ := Option.bind_eq_some_iff.mp h
            refine am_Y.call0 (M' := am_M305) (as := [.ref 103, .int (0 : Int32), .int (7 : Int32)]) (rest := []) (d' := 1) rfl (by omega) rfl rfl (t_r_expectNumber (0 : Int32) (7 : Int32) M q9.1 q9.2 e_q9) ?_
            refine am_Y.run (k := 6) (pc' := 97) (lv' := [(2, .int q9.1), (3, .int (0 : Int32)), (0, .ref 103), (1, .int x1)]) (st' := [.int (0 : Int32), .int q9.1, .int x1, .ref 104]) (h' := hp q9.2) rfl ?_
            obtain ⟨q10, e_q10, h⟩ := Option.bind_eq_some_iff.mp h
            refine am_Y.call0 (M' := am_M306) (as := [.ref 104, .int x1, .int q9.1, .int (0 : Int32)]) (rest := []) (d' := 1) rfl (by omega) rfl rfl (t_p_addClause x1 q9.1 (0 : Int32) q9.2 q10 e_q10) ?_
            obtain rfl := Option.some.inj h
            exact am_Y.ret rfl
  · replace h := (if_neg hc).symm.trans h
    refine am_Y.run (k := 4) (pc' := 17) (lv' := [(3, .int (0 : Int32)), (2, .int (0 : Int32)), (0, .ref 103), (1, .int x1)]) (st' := [.int (0 : Int32), .int (53 : Int32), .ref 104]) (h' := hp M) rfl ?_
    obtain ⟨q11, e_q11, h⟩ := Option.bind_eq_some_iff.mp h
    refine am_Y.call0 (M' := am_M303) (as := [.ref 104, .int (53 : Int32), .int (0 : Int32)]) (rest := []) (d' := 0) rfl (by omega) rfl rfl (t_p_put (53 : Int32) (0 : Int32) M q11 e_q11) ?_
    refine am_Y.run (k := 6) (pc' := 97) (lv' := [(3, .int (0 : Int32)), (2, .int (0 : Int32)), (0, .ref 103), (1, .int x1)]) (st' := [.int (0 : Int32), .int (0 : Int32), .int x1, .ref 104]) (h' := hp q11) rfl ?_
    obtain ⟨q12, e_q12, h⟩ := Option.bind_eq_some_iff.mp h
    refine am_Y.call0 (M' := am_M306) (as := [.ref 104, .int x1, .int (0 : Int32), .int (0 : Int32)]) (rest := []) (d' := 1) rfl (by omega) rfl rfl (t_p_addClause x1 (0 : Int32) (0 : Int32) q11 q12 e_q12) ?_
    obtain rfl := Option.some.inj h
    exact am_Y.ret rfl
