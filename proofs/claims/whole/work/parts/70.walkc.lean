/-! AM does what the functions say. -/
set_option maxRecDepth 100000 in
theorem t_r_readClause {S : Nat × (Nat → Int32)} (N : Nat) (M : Mem) (M' : Mem) (h : f_r_readClause N M = some M') : am_Y S 65 0 0 am_M227 0 [(0, .ref 103)] [] (hp M) none (hp M') := by
  rw [f_r_readClause] at h
  refine am_Y.run (k := 6) (pc' := 10) (lv' := [(1, .int (gi M 103 7)), (0, .ref 103)]) (st' := [.int (23 : Int32), .int (12 : Int32), .int (gi M 103 7)]) (h' := hp M) rfl ?_
  refine am_Y.call0 (M' := am_M102) (as := [.int (gi M 103 7), .int (12 : Int32), .int (23 : Int32)]) (rest := []) (d' := 0) rfl (by omega) rfl rfl (t_w_within (gi M 103 7) (12 : Int32) (23 : Int32) M _ rfl) ?_
  refine am_Y.br (c := (f_w_within (gi M 103 7) (12 : Int32) (23 : Int32) M) = (0 : Int32)) _ (t := 16) (u := 24) (lv' := [(1, .int (gi M 103 7)), (0, .ref 103)]) (st' := []) (h' := hp M) rfl (fun hc => ?_) (fun hc => ?_)
  · replace h := (if_pos hc).symm.trans h
    refine am_Y.run (k := 2) (pc' := 18) (lv' := [(1, .int (gi M 103 7)), (0, .ref 103)]) (st' := [.int (1 : Int32), .ref 103]) (h' := hp M) rfl ?_
    obtain ⟨q1, e_q1, h⟩ := Option.bind_eq_some_iff.mp h
    refine am_Y.call0 (M' := am_M275) (as := [.ref 103, .int (1 : Int32)]) (rest := []) (d' := 0) rfl (by omega) rfl rfl (t_r_fail (1 : Int32) M q1 e_q1) ?_
    refine am_Y.run (k := 1) (pc' := 117) (lv' := [(1, .int (gi M 103 7)), (0, .ref 103)]) (st' := []) (h' := hp q1) rfl ?_
    obtain rfl := Option.some.inj h
    exact am_Y.ret rfl
  · replace h := (if_neg hc).symm.trans h
    refine am_Y.run (k := 3) (pc' := 29) (lv' := [(1, .int (gi M 103 7)), (0, .ref 103)]) (st' := [.int (gi M 103 7), .ref 104]) (h' := hp M) rfl ?_
    obtain ⟨q2, e_q2, h⟩ := Option.bind_eq_some_iff.mp h
    refine am_Y.call0 (M' := am_M244) (as := [.ref 104, .int (gi M 103 7)]) (rest := []) (d' := 1) rfl (by omega) rfl rfl (t_p_startOf_104 (gi M 103 7) M q2 e_q2) ?_
    refine am_Y.run (k := 1) (pc' := 33) (lv' := [(1, .int (gi M 103 7)), (0, .ref 103)]) (st' := [.int (-1 : Int32), .int q2]) (h' := hp M) rfl ?_
    refine am_Y.br (c := q2 = (-1 : Int32)) _ (t := 44) (u := 36) (lv' := [(1, .int (gi M 103 7)), (0, .ref 103)]) (st' := []) (h' := hp M) rfl (fun hc => ?_) (fun hc => ?_)
    · replace h := (if_pos hc).symm.trans h
      refine am_Y.run (k := 4) (pc' := 53) (lv' := [(1, .int (gi M 103 7)), (0, .ref 103)]) (st' := [.int (24 : Int32), .int (gi M 104 4)]) (h' := hp M) rfl ?_
      refine am_Y.br (c := (gi M 104 4) < (24 : Int32)) _ (t := 65) (u := 56) (lv' := [(1, .int (gi M 103 7)), (0, .ref 103)]) (st' := []) (h' := hp M) rfl (fun hc => ?_) (fun hc => ?_)
      · replace h := (if_pos hc).symm.trans h
        refine am_Y.run (k := 1) (pc' := 66) (lv' := [(1, .int (gi M 103 7)), (0, .ref 103)]) (st' := [.ref 103]) (h' := hp M) rfl ?_
        obtain ⟨q3, e_q3, h⟩ := Option.bind_eq_some_iff.mp h
        refine am_Y.call0 (M' := am_M276) (as := [.ref 103]) (rest := []) (d' := 0) rfl (by omega) rfl rfl (t_r_advance M q3 e_q3) ?_
        refine am_Y.run (k := 3) (pc' := 74) (lv' := [(1, .int (gi M 103 7)), (0, .ref 103)]) (st' := []) (h' := hp (si q3 103 5 (gi M 103 7))) rfl ?_
        obtain ⟨q4, e_q4, h⟩ := Option.bind_eq_some_iff.mp h
        rw [Option.some.inj e_q4]
        refine am_Y.run (k := 3) (pc' := 79) (lv' := [(1, .int (gi M 103 7)), (0, .ref 103)]) (st' := [.int (gi M 103 7), .ref 104]) (h' := hp q4) rfl ?_
        obtain ⟨q5, e_q5, h⟩ := Option.bind_eq_some_iff.mp h
        refine am_Y.call0 (M' := am_M277) (as := [.ref 104, .int (gi M 103 7)]) (rest := []) (d' := 1) rfl (by omega) rfl rfl (t_p_startHere (gi M 103 7) q4 q5 e_q5) ?_
        refine am_Y.run (k := 2) (pc' := 85) (lv' := [(1, .int (gi M 103 7)), (0, .ref 103)]) (st' := [.int (12 : Int32), .int (gi M 103 7)]) (h' := hp q5) rfl ?_
        refine am_Y.br (c := (gi M 103 7) = (12 : Int32)) _ (t := 88) (u := 95) (lv' := [(1, .int (gi M 103 7)), (0, .ref 103)]) (st' := []) (h' := hp q5) rfl (fun hc => ?_) (fun hc => ?_)
        · replace h := (if_pos hc).symm.trans h
          refine am_Y.run (k := 1) (pc' := 89) (lv' := [(1, .int (gi M 103 7)), (0, .ref 103)]) (st' := [.ref 103]) (h' := hp q5) rfl ?_
          obtain ⟨q6, e_q6, h⟩ := Option.bind_eq_some_iff.mp h
          refine am_Y.call0 (M' := am_M278) (as := [.ref 103]) (rest := []) (d' := 64) rfl (by omega) rfl rfl (t_r_readEither N (f_r_readOne N 12) 60 (t_r_readOne N 12) q5 q6 e_q6) ?_
          refine am_Y.run (k := 3) (pc' := 108) (lv' := [(1, .int (gi M 103 7)), (0, .ref 103)]) (st' := [.int (gi M 103 7), .ref 103]) (h' := hp q6) rfl ?_
          obtain ⟨q7, e_q7, h⟩ := Option.bind_eq_some_iff.mp h
          refine am_Y.call0 (M' := am_M280) (as := [.ref 103, .int (gi M 103 7)]) (rest := []) (d' := 2) rfl (by omega) rfl rfl (t_r_readRest (gi M 103 7) q6 q7 e_q7) ?_
          refine am_Y.run (k := 2) (pc' := 114) (lv' := [(1, .int (gi M 103 7)), (0, .ref 103)]) (st' := [.int (45 : Int32), .ref 103]) (h' := hp q7) rfl ?_
          obtain ⟨q8, e_q8, h⟩ := Option.bind_eq_some_iff.mp h
          refine am_Y.call0 (M' := am_M281) (as := [.ref 103, .int (45 : Int32)]) (rest := []) (d' := 1) rfl (by omega) rfl rfl (t_r_expect (45 : Int32) q7 q8 e_q8) ?_
          obtain rfl := Option.some.inj h
          exact am_Y.ret rfl
        · replace h := (if_neg hc).symm.trans h
          refine am_Y.run (k := 2) (pc' := 98) (lv' := [(1, .int (gi M 103 7)), (0, .ref 103)]) (st' := [.int (14 : Int32), .int (gi M 103 7)]) (h' := hp q5) rfl ?_
          refine am_Y.br (c := (14 : Int32) < (gi M 103 7)) _ (t := 106) (u := 101) (lv' := [(1, .int (gi M 103 7)), (0, .ref 103)]) (st' := []) (h' := hp q5) rfl (fun hc => ?_) (fun hc => ?_)
          · replace h := (if_pos hc).symm.trans h
            refine am_Y.run (k := 2) (pc' := 108) (lv' := [(1, .int (gi M 103 7)), (0, .ref 103)]) (st' := [.int (gi M 103 7), .ref 103]) (h' := hp q5) rfl ?_
            obtain ⟨q9, e_q9, h⟩ := Option.bind_eq_some_iff.mp h
            refine am_Y.call0 (M' := am_M280) (as := [.ref 103, .int (gi M 103 7)]) (rest := []) (d' := 2) rfl (by omega) rfl rfl (t_r_readRest (gi M 103 7) q5 q9 e_q9) ?_
            refine am_Y.run (k := 2) (pc' := 114) (lv' := [(1, .int (gi M 103 7)), (0, .ref 103)]) (st' := [.int (45 : Int32), .ref 103]) (h' := hp q9) rfl ?_
            obtain ⟨q10, e_q10, h⟩ := Option.bind_eq_some_iff.mp h
            refine am_Y.call0 (M' := am_M281) (as := [.ref 103, .int (45 : Int32)]) (rest := []) (d' := 1) rfl (by omega) rfl rfl (t_r_expect (45 : Int32) q9 q10 e_q10) ?_
            obtain rfl := Option.some.inj h
            exact am_Y.ret rfl
          · replace h := (if_neg hc).symm.trans h
            refine am_Y.run (k := 2) (pc' := 103) (lv' := [(1, .int (gi M 103 7)), (0, .ref 103)]) (st' := [.int (0 : Int32), .ref 103]) (h' := hp q5) rfl ?_
            obtain ⟨q11, e_q11, h⟩ := Option.bind_eq_some_iff.mp h
            refine am_Y.call0 (M' := am_M279) (as := [.ref 103, .int (0 : Int32)]) (rest := []) (d' := 62) rfl (by omega) rfl rfl (t_r_readSum N (f_r_readOne N 12) 60 (t_r_readOne N 12) (0 : Int32) q5 q11 e_q11) ?_
            refine am_Y.run (k := 2) (pc' := 108) (lv' := [(1, .int (gi M 103 7)), (0, .ref 103)]) (st' := [.int (gi M 103 7), .ref 103]) (h' := hp q11) rfl ?_
            obtain ⟨q12, e_q12, h⟩ := Option.bind_eq_some_iff.mp h
            refine am_Y.call0 (M' := am_M280) (as := [.ref 103, .int (gi M 103 7)]) (rest := []) (d' := 2) rfl (by omega) rfl rfl (t_r_readRest (gi M 103 7) q11 q12 e_q12) ?_
            refine am_Y.run (k := 2) (pc' := 114) (lv' := [(1, .int (gi M 103 7)), (0, .ref 103)]) (st' := [.int (45 : Int32), .ref 103]) (h' := hp q12) rfl ?_
            obtain ⟨q13, e_q13, h⟩ := Option.bind_eq_some_iff.mp h
            refine am_Y.call0 (M' := am_M281) (as := [.ref 103, .int (45 : Int32)]) (rest := []) (d' := 1) rfl (by omega) rfl rfl (t_r_expect (45 : Int32) q12 q13 e_q13) ?_
            obtain rfl := Option.some.inj h
            exact am_Y.ret rfl
      · replace h := (if_neg hc).symm.trans h
        refine am_Y.run (k := 2) (pc' := 59) (lv' := [(1, .int (gi M 103 7)), (0, .ref 103)]) (st' := [.int (6 : Int32), .ref 103]) (h' := hp M) rfl ?_
        obtain ⟨q14, e_q14, h⟩ := Option.bind_eq_some_iff.mp h
        refine am_Y.call0 (M' := am_M275) (as := [.ref 103, .int (6 : Int32)]) (rest := []) (d' := 0) rfl (by omega) rfl rfl (t_r_fail (6 : Int32) M q14 e_q14) ?_
        refine am_Y.run (k := 1) (pc' := 117) (lv' := [(1, .int (gi M 103 7)), (0, .ref 103)]) (st' := []) (h' := hp q14) rfl ?_
        obtain rfl := Option.some.inj h
        exact am_Y.ret rfl
    · replace h := (if_neg hc).symm.trans h
      refine am_Y.run (k := 2) (pc' := 38) (lv' := [(1, .int (gi M 103 7)), (0, .ref 103)]) (st' := [.int (4 : Int32), .ref 103]) (h' := hp M) rfl ?_
      obtain ⟨q15, e_q15, h⟩ := Option.bind_eq_some_iff.mp h
      refine am_Y.call0 (M' := am_M275) (as := [.ref 103, .int (4 : Int32)]) (rest := []) (d' := 0) rfl (by omega) rfl rfl (t_r_fail (4 : Int32) M q15 e_q15) ?_
      refine am_Y.run (k := 1) (pc' := 117) (lv' := [(1, .int (gi M 103 7)), (0, .ref 103)]) (st' := []) (h' := hp q15) rfl ?_
      obtain rfl := Option.some.inj h
      exact am_Y.ret rfl
set_option maxRecDepth 100000 in
theorem t_r_read_52 {S : Nat × (Nat → Int32)} (N : Nat) : ∀ (n : Nat) (x1 : Int32) (M : Mem) (M' : Mem), f_r_read_52 N n x1 M = some M' → am_Y S 66 0 0 am_M111 52 [(0, .ref 103), (1, .int x1)] [] (hp M) none (hp M') := by
  intro n
  induction n with
  | zero =>
    intro x1 M M' h
    cases h
  | succ n ih =>
    intro x1 M M' h
    rw [f_r_read_52] at h
    refine am_Y.run (k := 2) (pc' := 55) (lv' := [(0, .ref 103), (1, .int x1)]) (st' := [.int (24 : Int32), .int x1]) (h' := hp M) rfl ?_
    refine am_Y.br (c := (24 : Int32) < x1) _ (t := 86) (u := 58) (lv' := [(0, .ref 103), (1, .int x1)]) (st' := []) (h' := hp M) rfl (fun hc => ?_) (fun hc => ?_)
    · replace h := (if_pos hc).symm.trans h
      obtain rfl := Option.some.inj h
      exact am_Y.ret rfl
    · replace h := (if_neg hc).symm.trans h
      refine am_Y.run (k := 3) (pc' := 64) (lv' := [(0, .ref 103), (1, .int x1)]) (st' := [.int (48 : Int32), .int (gi M 103 7)]) (h' := hp M) rfl ?_
      refine am_Y.br (c := (gi M 103 7) = (48 : Int32)) _ (t := 86) (u := 67) (lv' := [(0, .ref 103), (1, .int x1)]) (st' := []) (h' := hp M) rfl (fun hc => ?_) (fun hc => ?_)
      · replace h := (if_pos hc).symm.trans h
        obtain rfl := Option.some.inj h
        exact am_Y.ret rfl
      · replace h := (if_neg hc).symm.trans h
        refine am_Y.run (k := 3) (pc' := 73) (lv' := [(0, .ref 103), (1, .int x1)]) (st' := [.int (49 : Int32), .int (gi M 103 7)]) (h' := hp M) rfl ?_
        refine am_Y.br (c := (gi M 103 7) = (49 : Int32)) _ (t := 86) (u := 76) (lv' := [(0, .ref 103), (1, .int x1)]) (st' := []) (h' := hp M) rfl (fun hc => ?_) (fun hc => ?_)
        · replace h := (if_pos hc).symm.trans h
          obtain rfl := Option.some.inj h
          exact am_Y.ret rfl
        · replace h := (if_neg hc).symm.trans h
          refine am_Y.run (k := 1) (pc' := 77) (lv' := [(0, .ref 103), (1, .int x1)]) (st' := [.ref 103]) (h' := hp M) rfl ?_
          obtain ⟨q8, e_q8, h⟩ := Option.bind_eq_some_iff.mp h
          refine am_Y.call0 (M' := am_M227) (as := [.ref 103]) (rest := []) (d' := 65) rfl (by omega) rfl rfl (t_r_readClause N M q8 e_q8) ?_
          refine am_Y.run (k := 2) (pc' := 52) (lv' := [(1, .int (x1 + (1 : Int32))), (0, .ref 103)]) (st' := []) (h' := hp q8) rfl ?_
          refine am_Y.weak (lv2 := [(0, .ref 103), (1, .int (x1 + (1 : Int32)))]) rfl rfl ⟨rfl, rfl, trivial⟩ ?_
          exact ih (x1 + (1 : Int32)) q8 _ h
set_option maxRecDepth 100000 in
theorem t_r_read {S : Nat × (Nat → Int32)} (N : Nat) (M : Mem) (M' : Mem) (h : f_r_read N M = some M') : am_Y S 66 0 0 am_M111 0 [(0, .ref 103)] [] (hp M) none (hp M') := by
  rw [f_r_read] at h
  refine am_Y.run (k := 2) (pc' := 4) (lv' := [(0, .ref 103)]) (st' := [.ref 104]) (h' := hp M) rfl ?_
  obtain ⟨q1, e_q1, h⟩ := Option.bind_eq_some_iff.mp h
  refine am_Y.call0 (M' := am_M225) (as := [.ref 104]) (rest := []) (d' := 1) rfl (by omega) rfl rfl (t_p_clear N M q1 e_q1) ?_
  refine am_Y.run (k := 3) (pc' := 12) (lv' := [(0, .ref 103)]) (st' := []) (h' := hp (si q1 103 0 (1 : Int32))) rfl ?_
  obtain ⟨q2, e_q2, h⟩ := Option.bind_eq_some_iff.mp h
  rw [Option.some.inj e_q2]
  refine am_Y.run (k := 3) (pc' := 17) (lv' := [(0, .ref 103)]) (st' := []) (h' := hp (si q2 103 1 (0 : Int32))) rfl ?_
  obtain ⟨q3, e_q3, h⟩ := Option.bind_eq_some_iff.mp h
  rw [Option.some.inj e_q3]
  refine am_Y.run (k := 3) (pc' := 22) (lv' := [(0, .ref 103)]) (st' := []) (h' := hp (si q3 103 2 (-1 : Int32))) rfl ?_
  obtain ⟨q4, e_q4, h⟩ := Option.bind_eq_some_iff.mp h
  rw [Option.some.inj e_q4]
  refine am_Y.run (k := 2) (pc' := 26) (lv' := [(0, .ref 103)]) (st' := [.ref 100]) (h' := hp q4) rfl ?_
  obtain ⟨q5, e_q5, h⟩ := Option.bind_eq_some_iff.mp h
  refine am_Y.call0 (M' := am_M226) (as := [.ref 100]) (rest := []) (d' := 7) rfl (by omega) rfl rfl (t_a_cut N q4 q5 e_q5) ?_
  refine am_Y.run (k := 3) (pc' := 34) (lv' := [(0, .ref 103)]) (st' := []) (h' := hp (si q5 103 6 (0 : Int32))) rfl ?_
  obtain ⟨q6, e_q6, h⟩ := Option.bind_eq_some_iff.mp h
  rw [Option.some.inj e_q6]
  refine am_Y.run (k := 9) (pc' := 50) (lv' := [(0, .ref 103)]) (st' := []) (h' := hp (si q6 103 7 ((gi q6 102 0) &&& (63 : Int32)))) rfl ?_
  obtain ⟨q7, e_q7, h⟩ := Option.bind_eq_some_iff.mp h
  rw [Option.some.inj e_q7]
  refine am_Y.run (k := 2) (pc' := 52) (lv' := [(1, .int (0 : Int32)), (0, .ref 103)]) (st' := []) (h' := hp q7) rfl ?_
  refine am_Y.weak (lv2 := [(0, .ref 103), (1, .int (0 : Int32))]) rfl rfl ⟨rfl, rfl, trivial⟩ ?_
  exact t_r_read_52 N N (0 : Int32) q7 _ h
set_option maxRecDepth 100000 in
theorem t_p_copyFrom_a_104_113 {S : Nat × (Nat → Int32)} (M : Mem) (M' : Mem) (h : f_p_copyFrom_a_104 113 M = some M') : am_Y S 0 0 0 am_M112 0 [(0, .ref 113), (1, .ref 104)] [] (hp M) none (hp M') := by
  rw [f_p_copyFrom_a_104] at h
  refine am_Y.run (k := 8) (pc' := 16) (lv' := [(0, .ref 113), (1, .ref 104)]) (st' := []) (h' := hp (sr M (113 + 1) (va_cpy (M.1 105) (M.1 (113 + 1)) 0 0 300))) rfl ?_
  obtain ⟨q1, e_q1, h⟩ := Option.bind_eq_some_iff.mp h
  rw [Option.some.inj e_q1]
  refine am_Y.run (k := 8) (pc' := 31) (lv' := [(0, .ref 113), (1, .ref 104)]) (st' := []) (h' := hp (sr q1 (113 + 2) (va_cpy (q1.1 106) (q1.1 (113 + 2)) 0 0 24))) rfl ?_
  obtain ⟨q2, e_q2, h⟩ := Option.bind_eq_some_iff.mp h
  rw [Option.some.inj e_q2]
  refine am_Y.run (k := 8) (pc' := 45) (lv' := [(0, .ref 113), (1, .ref 104)]) (st' := []) (h' := hp (sr q2 (113 + 3) (va_cpy (q2.1 107) (q2.1 (113 + 3)) 0 0 3))) rfl ?_
  obtain ⟨q3, e_q3, h⟩ := Option.bind_eq_some_iff.mp h
  rw [Option.some.inj e_q3]
  refine am_Y.run (k := 4) (pc' := 53) (lv' := [(0, .ref 113), (1, .ref 104)]) (st' := []) (h' := hp (si q3 113 3 (gi q3 104 3))) rfl ?_
  obtain ⟨q4, e_q4, h⟩ := Option.bind_eq_some_iff.mp h
  rw [Option.some.inj e_q4]
  refine am_Y.run (k := 4) (pc' := 61) (lv' := [(0, .ref 113), (1, .ref 104)]) (st' := []) (h' := hp (si q4 113 4 (gi q4 104 4))) rfl ?_
  obtain ⟨q5, e_q5, h⟩ := Option.bind_eq_some_iff.mp h
  rw [Option.some.inj e_q5]
  obtain rfl := Option.some.inj h
  exact am_Y.ret rfl
set_option maxRecDepth 100000 in
theorem t_p_copyFrom_a_104_117 {S : Nat × (Nat → Int32)} (M : Mem) (M' : Mem) (h : f_p_copyFrom_a_104 117 M = some M') : am_Y S 0 0 0 am_M112 0 [(0, .ref 117), (1, .ref 104)] [] (hp M) none (hp M') := by
  rw [f_p_copyFrom_a_104] at h
  refine am_Y.run (k := 8) (pc' := 16) (lv' := [(0, .ref 117), (1, .ref 104)]) (st' := []) (h' := hp (sr M (117 + 1) (va_cpy (M.1 105) (M.1 (117 + 1)) 0 0 300))) rfl ?_
  obtain ⟨q1, e_q1, h⟩ := Option.bind_eq_some_iff.mp h
  rw [Option.some.inj e_q1]
  refine am_Y.run (k := 8) (pc' := 31) (lv' := [(0, .ref 117), (1, .ref 104)]) (st' := []) (h' := hp (sr q1 (117 + 2) (va_cpy (q1.1 106) (q1.1 (117 + 2)) 0 0 24))) rfl ?_
  obtain ⟨q2, e_q2, h⟩ := Option.bind_eq_some_iff.mp h
  rw [Option.some.inj e_q2]
  refine am_Y.run (k := 8) (pc' := 45) (lv' := [(0, .ref 117), (1, .ref 104)]) (st' := []) (h' := hp (sr q2 (117 + 3) (va_cpy (q2.1 107) (q2.1 (117 + 3)) 0 0 3))) rfl ?_
  obtain ⟨q3, e_q3, h⟩ := Option.bind_eq_some_iff.mp h
  rw [Option.some.inj e_q3]
  refine am_Y.run (k := 4) (pc' := 53) (lv' := [(0, .ref 117), (1, .ref 104)]) (st' := []) (h' := hp (si q3 117 3 (gi q3 104 3))) rfl ?_
  obtain ⟨q4, e_q4, h⟩ := Option.bind_eq_some_iff.mp h
  rw [Option.some.inj e_q4]
  refine am_Y.run (k := 4) (pc' := 61) (lv' := [(0, .ref 117), (1, .ref 104)]) (st' := []) (h' := hp (si q4 117 4 (gi q4 104 4))) rfl ?_
  obtain ⟨q5, e_q5, h⟩ := Option.bind_eq_some_iff.mp h
  rw [Option.some.inj e_q5]
  obtain rfl := Option.some.inj h
  exact am_Y.ret rfl
set_option maxRecDepth 100000 in
theorem t_p_copyFrom_a_104_121 {S : Nat × (Nat → Int32)} (M : Mem) (M' : Mem) (h : f_p_copyFrom_a_104 121 M = some M') : am_Y S 0 0 0 am_M112 0 [(0, .ref 121), (1, .ref 104)] [] (hp M) none (hp M') := by
  rw [f_p_copyFrom_a_104] at h
  refine am_Y.run (k := 8) (pc' := 16) (lv' := [(0, .ref 121), (1, .ref 104)]) (st' := []) (h' := hp (sr M (121 + 1) (va_cpy (M.1 105) (M.1 (121 + 1)) 0 0 300))) rfl ?_
  obtain ⟨q1, e_q1, h⟩ := Option.bind_eq_some_iff.mp h
  rw [Option.some.inj e_q1]
  refine am_Y.run (k := 8) (pc' := 31) (lv' := [(0, .ref 121), (1, .ref 104)]) (st' := []) (h' := hp (sr q1 (121 + 2) (va_cpy (q1.1 106) (q1.1 (121 + 2)) 0 0 24))) rfl ?_
  obtain ⟨q2, e_q2, h⟩ := Option.bind_eq_some_iff.mp h
  rw [Option.some.inj e_q2]
  refine am_Y.run (k := 8) (pc' := 45) (lv' := [(0, .ref 121), (1, .ref 104)]) (st' := []) (h' := hp (sr q2 (121 + 3) (va_cpy (q2.1 107) (q2.1 (121 + 3)) 0 0 3))) rfl ?_
  obtain ⟨q3, e_q3, h⟩ := Option.bind_eq_some_iff.mp h
  rw [Option.some.inj e_q3]
  refine am_Y.run (k := 4) (pc' := 53) (lv' := [(0, .ref 121), (1, .ref 104)]) (st' := []) (h' := hp (si q3 121 3 (gi q3 104 3))) rfl ?_
  obtain ⟨q4, e_q4, h⟩ := Option.bind_eq_some_iff.mp h
  rw [Option.some.inj e_q4]
  refine am_Y.run (k := 4) (pc' := 61) (lv' := [(0, .ref 121), (1, .ref 104)]) (st' := []) (h' := hp (si q4 121 4 (gi q4 104 4))) rfl ?_
  obtain ⟨q5, e_q5, h⟩ := Option.bind_eq_some_iff.mp h
  rw [Option.some.inj e_q5]
  obtain rfl := Option.some.inj h
  exact am_Y.ret rfl
set_option maxRecDepth 100000 in
theorem t_p_copyFrom_a_104_125 {S : Nat × (Nat → Int32)} (M : Mem) (M' : Mem) (h : f_p_copyFrom_a_104 125 M = some M') : am_Y S 0 0 0 am_M112 0 [(0, .ref 125), (1, .ref 104)] [] (hp M) none (hp M') := by
  rw [f_p_copyFrom_a_104] at h
  refine am_Y.run (k := 8) (pc' := 16) (lv' := [(0, .ref 125), (1, .ref 104)]) (st' := []) (h' := hp (sr M (125 + 1) (va_cpy (M.1 105) (M.1 (125 + 1)) 0 0 300))) rfl ?_
  obtain ⟨q1, e_q1, h⟩ := Option.bind_eq_some_iff.mp h
  rw [Option.some.inj e_q1]
  refine am_Y.run (k := 8) (pc' := 31) (lv' := [(0, .ref 125), (1, .ref 104)]) (st' := []) (h' := hp (sr q1 (125 + 2) (va_cpy (q1.1 106) (q1.1 (125 + 2)) 0 0 24))) rfl ?_
  obtain ⟨q2, e_q2, h⟩ := Option.bind_eq_some_iff.mp h
  rw [Option.some.inj e_q2]
  refine am_Y.run (k := 8) (pc' := 45) (lv' := [(0, .ref 125), (1, .ref 104)]) (st' := []) (h' := hp (sr q2 (125 + 3) (va_cpy (q2.1 107) (q2.1 (125 + 3)) 0 0 3))) rfl ?_
  obtain ⟨q3, e_q3, h⟩ := Option.bind_eq_some_iff.mp h
  rw [Option.some.inj e_q3]
  refine am_Y.run (k := 4) (pc' := 53) (lv' := [(0, .ref 125), (1, .ref 104)]) (st' := []) (h' := hp (si q3 125 3 (gi q3 104 3))) rfl ?_
  obtain ⟨q4, e_q4, h⟩ := Option.bind_eq_some_iff.mp h
  rw [Option.some.inj e_q4]
  refine am_Y.run (k := 4) (pc' := 61) (lv' := [(0, .ref 125), (1, .ref 104)]) (st' := []) (h' := hp (si q4 125 4 (gi q4 104 4))) rfl ?_
  obtain ⟨q5, e_q5, h⟩ := Option.bind_eq_some_iff.mp h
  rw [Option.some.inj e_q5]
  obtain rfl := Option.some.inj h
  exact am_Y.ret rfl
set_option maxRecDepth 100000 in
theorem t_w_text {S : Nat × (Nat → Int32)} (N : Nat) (M : Mem) (r : Int32) (M' : Mem) (h : f_w_text N M = some (r, M')) : am_Y S 67 0 0 am_M8 0 [(0, .ref 5)] [] (hp M) (some (.int r)) (hp M') := by
  rw [f_w_text] at h
  refine am_Y.run (k := 4) (pc' := 8) (lv' := [(0, .ref 5)]) (st' := [.int (gi M 6 4), .ref 5]) (h' := hp M) rfl ?_
  cases hs : w_scr (gi M 6 4) with
  | none =>
    rw [hs] at h
    refine am_Y.call0 (M' := am_M110) (as := [.ref 5, .int (gi M 6 4)]) (rest := []) (d' := 1) rfl (by omega) rfl rfl (t_w_scriptAt_n (gi M 6 4) M hs) ?_
    refine am_Y.run (k := 4) (pc' := 17) (lv' := [(1, .null), (0, .ref 5)]) (st' := [.int (-1 : Int32)]) (h' := hp M) rfl ?_
    obtain ⟨rfl, rfl⟩ := Prod.mk.inj (Option.some.inj h)
    exact am_Y.ret rfl
  | some a =>
    rw [hs] at h
    rcases w_scr_cases hs with rfl | rfl | rfl | rfl
    · refine am_Y.call0 (M' := am_M110) (as := [.ref 5, .int (gi M 6 4)]) (rest := []) (d' := 1) rfl (by omega) rfl rfl (t_w_scriptAt_s (gi M 6 4) M hs) ?_
      refine am_Y.run (k := 5) (pc' := 22) (lv' := [(1, .ref 113), (0, .ref 5)]) (st' := [.ref 103]) (h' := hp M) rfl ?_
      obtain ⟨q1, e_q1, h⟩ := Option.bind_eq_some_iff.mp h
      refine am_Y.call0 (M' := am_M111) (as := [.ref 103]) (rest := []) (d' := 66) rfl (by omega) rfl rfl (t_r_read N M q1 e_q1) ?_
      refine am_Y.run (k := 4) (pc' := 33) (lv' := [(1, .ref 113), (0, .ref 5)]) (st' := []) (h' := hp (si q1 100 3 (0 : Int32))) rfl ?_
      obtain ⟨q2, e_q2, h⟩ := Option.bind_eq_some_iff.mp h
      rw [Option.some.inj e_q2]
      refine am_Y.run (k := 3) (pc' := 40) (lv' := [(1, .ref 113), (0, .ref 5)]) (st' := [.int (gi q2 103 1)]) (h' := hp q2) rfl ?_
      refine am_Y.br (c := (gi q2 103 1) = (0 : Int32)) _ (t := 45) (u := 43) (lv' := [(1, .ref 113), (0, .ref 5)]) (st' := []) (h' := hp q2) rfl (fun hc => ?_) (fun hc => ?_)
      · replace h := (if_pos hc).symm.trans h
        refine am_Y.run (k := 4) (pc' := 53) (lv' := [(1, .ref 113), (0, .ref 5)]) (st' := [.ref 104, .ref 113]) (h' := hp q2) rfl ?_
        obtain ⟨q3, e_q3, h⟩ := Option.bind_eq_some_iff.mp h
        refine am_Y.call0 (M' := am_M112) (as := [.ref 113, .ref 104]) (rest := []) (d' := 0) rfl (by omega) rfl rfl (t_p_copyFrom_a_104_113 q2 q3 e_q3) ?_
        refine am_Y.run (k := 7) (pc' := 69) (lv' := [(1, .ref 113), (0, .ref 5)]) (st' := []) (h' := hp (si q3 6 4 ((gi q3 6 4) + (1 : Int32)))) rfl ?_
        obtain ⟨q4, e_q4, h⟩ := Option.bind_eq_some_iff.mp h
        rw [Option.some.inj e_q4]
        refine am_Y.run (k := 5) (pc' := 78) (lv' := [(1, .ref 113), (0, .ref 5)]) (st' := [.int ((gi q4 6 4) - (1 : Int32))]) (h' := hp q4) rfl ?_
        obtain ⟨rfl, rfl⟩ := Prod.mk.inj (Option.some.inj h)
        exact am_Y.ret rfl
      · replace h := (if_neg hc).symm.trans h
        refine am_Y.run (k := 1) (pc' := 44) (lv' := [(1, .ref 113), (0, .ref 5)]) (st' := [.int (-1 : Int32)]) (h' := hp q2) rfl ?_
        obtain ⟨rfl, rfl⟩ := Prod.mk.inj (Option.some.inj h)
        exact am_Y.ret rfl
    · refine am_Y.call0 (M' := am_M110) (as := [.ref 5, .int (gi M 6 4)]) (rest := []) (d' := 1) rfl (by omega) rfl rfl (t_w_scriptAt_s (gi M 6 4) M hs) ?_
      refine am_Y.run (k := 5) (pc' := 22) (lv' := [(1, .ref 117), (0, .ref 5)]) (st' := [.ref 103]) (h' := hp M) rfl ?_
      obtain ⟨q1, e_q1, h⟩ := Option.bind_eq_some_iff.mp h
      refine am_Y.call0 (M' := am_M111) (as := [.ref 103]) (rest := []) (d' := 66) rfl (by omega) rfl rfl (t_r_read N M q1 e_q1) ?_
      refine am_Y.run (k := 4) (pc' := 33) (lv' := [(1, .ref 117), (0, .ref 5)]) (st' := []) (h' := hp (si q1 100 3 (0 : Int32))) rfl ?_
      obtain ⟨q2, e_q2, h⟩ := Option.bind_eq_some_iff.mp h
      rw [Option.some.inj e_q2]
      refine am_Y.run (k := 3) (pc' := 40) (lv' := [(1, .ref 117), (0, .ref 5)]) (st' := [.int (gi q2 103 1)]) (h' := hp q2) rfl ?_
      refine am_Y.br (c := (gi q2 103 1) = (0 : Int32)) _ (t := 45) (u := 43) (lv' := [(1, .ref 117), (0, .ref 5)]) (st' := []) (h' := hp q2) rfl (fun hc => ?_) (fun hc => ?_)
      · replace h := (if_pos hc).symm.trans h
        refine am_Y.run (k := 4) (pc' := 53) (lv' := [(1, .ref 117), (0, .ref 5)]) (st' := [.ref 104, .ref 117]) (h' := hp q2) rfl ?_
        obtain ⟨q3, e_q3, h⟩ := Option.bind_eq_some_iff.mp h
        refine am_Y.call0 (M' := am_M112) (as := [.ref 117, .ref 104]) (rest := []) (d' := 0) rfl (by omega) rfl rfl (t_p_copyFrom_a_104_117 q2 q3 e_q3) ?_
        refine am_Y.run (k := 7) (pc' := 69) (lv' := [(1, .ref 117), (0, .ref 5)]) (st' := []) (h' := hp (si q3 6 4 ((gi q3 6 4) + (1 : Int32)))) rfl ?_
        obtain ⟨q4, e_q4, h⟩ := Option.bind_eq_some_iff.mp h
        rw [Option.some.inj e_q4]
        refine am_Y.run (k := 5) (pc' := 78) (lv' := [(1, .ref 117), (0, .ref 5)]) (st' := [.int ((gi q4 6 4) - (1 : Int32))]) (h' := hp q4) rfl ?_
        obtain ⟨rfl, rfl⟩ := Prod.mk.inj (Option.some.inj h)
        exact am_Y.ret rfl
      · replace h := (if_neg hc).symm.trans h
        refine am_Y.run (k := 1) (pc' := 44) (lv' := [(1, .ref 117), (0, .ref 5)]) (st' := [.int (-1 : Int32)]) (h' := hp q2) rfl ?_
        obtain ⟨rfl, rfl⟩ := Prod.mk.inj (Option.some.inj h)
        exact am_Y.ret rfl
    · refine am_Y.call0 (M' := am_M110) (as := [.ref 5, .int (gi M 6 4)]) (rest := []) (d' := 1) rfl (by omega) rfl rfl (t_w_scriptAt_s (gi M 6 4) M hs) ?_
      refine am_Y.run (k := 5) (pc' := 22) (lv' := [(1, .ref 121), (0, .ref 5)]) (st' := [.ref 103]) (h' := hp M) rfl ?_
      obtain ⟨q1, e_q1, h⟩ := Option.bind_eq_some_iff.mp h
      refine am_Y.call0 (M' := am_M111) (as := [.ref 103]) (rest := []) (d' := 66) rfl (by omega) rfl rfl (t_r_read N M q1 e_q1) ?_
      refine am_Y.run (k := 4) (pc' := 33) (lv' := [(1, .ref 121), (0, .ref 5)]) (st' := []) (h' := hp (si q1 100 3 (0 : Int32))) rfl ?_
      obtain ⟨q2, e_q2, h⟩ := Option.bind_eq_some_iff.mp h
      rw [Option.some.inj e_q2]
      refine am_Y.run (k := 3) (pc' := 40) (lv' := [(1, .ref 121), (0, .ref 5)]) (st' := [.int (gi q2 103 1)]) (h' := hp q2) rfl ?_
      refine am_Y.br (c := (gi q2 103 1) = (0 : Int32)) _ (t := 45) (u := 43) (lv' := [(1, .ref 121), (0, .ref 5)]) (st' := []) (h' := hp q2) rfl (fun hc => ?_) (fun hc => ?_)
      · replace h := (if_pos hc).symm.trans h
        refine am_Y.run (k := 4) (pc' := 53) (lv' := [(1, .ref 121), (0, .ref 5)]) (st' := [.ref 104, .ref 121]) (h' := hp q2) rfl ?_
        obtain ⟨q3, e_q3, h⟩ := Option.bind_eq_some_iff.mp h
        refine am_Y.call0 (M' := am_M112) (as := [.ref 121, .ref 104]) (rest := []) (d' := 0) rfl (by omega) rfl rfl (t_p_copyFrom_a_104_121 q2 q3 e_q3) ?_
        refine am_Y.run (k := 7) (pc' := 69) (lv' := [(1, .ref 121), (0, .ref 5)]) (st' := []) (h' := hp (si q3 6 4 ((gi q3 6 4) + (1 : Int32)))) rfl ?_
        obtain ⟨q4, e_q4, h⟩ := Option.bind_eq_some_iff.mp h
        rw [Option.some.inj e_q4]
        refine am_Y.run (k := 5) (pc' := 78) (lv' := [(1, .ref 121), (0, .ref 5)]) (st' := [.int ((gi q4 6 4) - (1 : Int32))]) (h' := hp q4) rfl ?_
        obtain ⟨rfl, rfl⟩ := Prod.mk.inj (Option.some.inj h)
        exact am_Y.ret rfl
      · replace h := (if_neg hc).symm.trans h
        refine am_Y.run (k := 1) (pc' := 44) (lv' := [(1, .ref 121), (0, .ref 5)]) (st' := [.int (-1 : Int32)]) (h' := hp q2) rfl ?_
        obtain ⟨rfl, rfl⟩ := Prod.mk.inj (Option.some.inj h)
        exact am_Y.ret rfl
    · refine am_Y.call0 (M' := am_M110) (as := [.ref 5, .int (gi M 6 4)]) (rest := []) (d' := 1) rfl (by omega) rfl rfl (t_w_scriptAt_s (gi M 6 4) M hs) ?_
      refine am_Y.run (k := 5) (pc' := 22) (lv' := [(1, .ref 125), (0, .ref 5)]) (st' := [.ref 103]) (h' := hp M) rfl ?_
      obtain ⟨q1, e_q1, h⟩ := Option.bind_eq_some_iff.mp h
      refine am_Y.call0 (M' := am_M111) (as := [.ref 103]) (rest := []) (d' := 66) rfl (by omega) rfl rfl (t_r_read N M q1 e_q1) ?_
      refine am_Y.run (k := 4) (pc' := 33) (lv' := [(1, .ref 125), (0, .ref 5)]) (st' := []) (h' := hp (si q1 100 3 (0 : Int32))) rfl ?_
      obtain ⟨q2, e_q2, h⟩ := Option.bind_eq_some_iff.mp h
      rw [Option.some.inj e_q2]
      refine am_Y.run (k := 3) (pc' := 40) (lv' := [(1, .ref 125), (0, .ref 5)]) (st' := [.int (gi q2 103 1)]) (h' := hp q2) rfl ?_
      refine am_Y.br (c := (gi q2 103 1) = (0 : Int32)) _ (t := 45) (u := 43) (lv' := [(1, .ref 125), (0, .ref 5)]) (st' := []) (h' := hp q2) rfl (fun hc => ?_) (fun hc => ?_)
      · replace h := (if_pos hc).symm.trans h
        refine am_Y.run (k := 4) (pc' := 53) (lv' := [(1, .ref 125), (0, .ref 5)]) (st' := [.ref 104, .ref 125]) (h' := hp q2) rfl ?_
        obtain ⟨q3, e_q3, h⟩ := Option.bind_eq_some_iff.mp h
        refine am_Y.call0 (M' := am_M112) (as := [.ref 125, .ref 104]) (rest := []) (d' := 0) rfl (by omega) rfl rfl (t_p_copyFrom_a_104_125 q2 q3 e_q3) ?_
        refine am_Y.run (k := 7) (pc' := 69) (lv' := [(1, .ref 125), (0, .ref 5)]) (st' := []) (h' := hp (si q3 6 4 ((gi q3 6 4) + (1 : Int32)))) rfl ?_
        obtain ⟨q4, e_q4, h⟩ := Option.bind_eq_some_iff.mp h
        rw [Option.some.inj e_q4]
        refine am_Y.run (k := 5) (pc' := 78) (lv' := [(1, .ref 125), (0, .ref 5)]) (st' := [.int ((gi q4 6 4) - (1 : Int32))]) (h' := hp q4) rfl ?_
        obtain ⟨rfl, rfl⟩ := Prod.mk.inj (Option.some.inj h)
        exact am_Y.ret rfl
      · replace h := (if_neg hc).symm.trans h
        refine am_Y.run (k := 1) (pc' := 44) (lv' := [(1, .ref 125), (0, .ref 5)]) (st' := [.int (-1 : Int32)]) (h' := hp q2) rfl ?_
        obtain ⟨rfl, rfl⟩ := Prod.mk.inj (Option.some.inj h)
        exact am_Y.ret rfl
set_option maxRecDepth 100000 in
theorem t_m_byteAt {S : Nat × (Nat → Int32)} (x1 : Int32) (M : Mem) (r : Int32) (h : f_m_byteAt x1 M = some r) : am_Y S 0 0 0 am_M282 0 [(0, .ref 129), (1, .int x1)] [] (hp M) (some (.int r)) (hp M) := by
  rw [f_m_byteAt] at h
  refine am_Y.run (k := 3) (pc' := 5) (lv' := [(0, .ref 129), (1, .int x1)]) (st' := [.int (gi M 129 4), .int x1]) (h' := hp M) rfl ?_
  refine am_Y.br (c := (gi M 129 4) ≤ x1) _ (t := 17) (u := 8) (lv' := [(0, .ref 129), (1, .int x1)]) (st' := []) (h' := hp M) rfl (fun hc => ?_) (fun hc => ?_)
  · replace h := (if_pos hc).symm.trans h
    refine am_Y.run (k := 1) (pc' := 18) (lv' := [(0, .ref 129), (1, .int x1)]) (st' := [.int (-1 : Int32)]) (h' := hp M) rfl ?_
    obtain rfl := Option.some.inj h
    exact am_Y.ret rfl
  · replace h := (if_neg hc).symm.trans h
    refine am_Y.run (k := 3) (pc' := 13) (lv' := [(0, .ref 129), (1, .int x1)]) (st' := [.int x1, .ref 133]) (h' := hp M) rfl ?_
    obtain ⟨g, h⟩ := am_itg h
    refine am_Y.iald (a := 128) (n := 300) rfl rfl g ?_
    refine am_Y.run (k := 1) (pc' := 18) (lv' := [(0, .ref 129), (1, .int x1)]) (st' := [.int (gi M 133 (x1).toNatClampNeg)]) (h' := hp M) rfl ?_
    obtain rfl := Option.some.inj h
    exact am_Y.ret rfl
set_option maxRecDepth 100000 in
theorem t_m_isFigure {S : Nat × (Nat → Int32)} (x0 : Int32) (M : Mem) (r : Int32) (h : f_m_isFigure x0 M = r) : am_Y S 0 0 0 am_M283 0 [(0, .int x0)] [] (hp M) (some (.int r)) (hp M) := by
  rw [f_m_isFigure] at h
  refine am_Y.run (k := 2) (pc' := 3) (lv' := [(0, .int x0)]) (st' := [.int (48 : Int32), .int x0]) (h' := hp M) rfl ?_
  refine am_Y.br (c := x0 < (48 : Int32)) _ (t := 16) (u := 6) (lv' := [(0, .int x0)]) (st' := []) (h' := hp M) rfl (fun hc => ?_) (fun hc => ?_)
  · replace h := (if_pos hc).symm.trans h
    refine am_Y.run (k := 1) (pc' := 17) (lv' := [(0, .int x0)]) (st' := [.int (0 : Int32)]) (h' := hp M) rfl ?_
    subst h
    exact am_Y.ret rfl
  · replace h := (if_neg hc).symm.trans h
    refine am_Y.run (k := 2) (pc' := 9) (lv' := [(0, .int x0)]) (st' := [.int (57 : Int32), .int x0]) (h' := hp M) rfl ?_
    refine am_Y.br (c := (57 : Int32) < x0) _ (t := 16) (u := 12) (lv' := [(0, .int x0)]) (st' := []) (h' := hp M) rfl (fun hc => ?_) (fun hc => ?_)
    · replace h := (if_pos hc).symm.trans h
      refine am_Y.run (k := 1) (pc' := 17) (lv' := [(0, .int x0)]) (st' := [.int (0 : Int32)]) (h' := hp M) rfl ?_
      subst h
      exact am_Y.ret rfl
    · replace h := (if_neg hc).symm.trans h
      refine am_Y.run (k := 2) (pc' := 17) (lv' := [(0, .int x0)]) (st' := [.int (1 : Int32)]) (h' := hp M) rfl ?_
      subst h
      exact am_Y.ret rfl
set_option maxRecDepth 100000 in
theorem z_m_isFigure (x0 : Int32) (M : Mem) : f_m_isFigure x0 M = 0 ∨ f_m_isFigure x0 M = 1 := by
  simp only [f_m_isFigure]
  first | (repeat' split) <;> first | exact Or.inl rfl | exact Or.inr rfl | (simp; done) | (simp; done)
set_option maxRecDepth 100000 in
theorem t_m_isLetterByte {S : Nat × (Nat → Int32)} (x0 : Int32) (M : Mem) (r : Int32) (h : f_m_isLetterByte x0 M = r) : am_Y S 0 0 0 am_M284 0 [(0, .int x0)] [] (hp M) (some (.int r)) (hp M) := by
  rw [f_m_isLetterByte] at h
  refine am_Y.run (k := 2) (pc' := 3) (lv' := [(0, .int x0)]) (st' := [.int (97 : Int32), .int x0]) (h' := hp M) rfl ?_
  refine am_Y.br (c := x0 < (97 : Int32)) _ (t := 12) (u := 6) (lv' := [(0, .int x0)]) (st' := []) (h' := hp M) rfl (fun hc => ?_) (fun hc => ?_)
  · replace h := (if_pos hc).symm.trans h
    refine am_Y.run (k := 2) (pc' := 15) (lv' := [(0, .int x0)]) (st' := [.int (65 : Int32), .int x0]) (h' := hp M) rfl ?_
    refine am_Y.br (c := x0 < (65 : Int32)) _ (t := 28) (u := 18) (lv' := [(0, .int x0)]) (st' := []) (h' := hp M) rfl (fun hc => ?_) (fun hc => ?_)
    · replace h := (if_pos hc).symm.trans h
      refine am_Y.run (k := 1) (pc' := 29) (lv' := [(0, .int x0)]) (st' := [.int (0 : Int32)]) (h' := hp M) rfl ?_
      subst h
      exact am_Y.ret rfl
    · replace h := (if_neg hc).symm.trans h
      refine am_Y.run (k := 2) (pc' := 21) (lv' := [(0, .int x0)]) (st' := [.int (90 : Int32), .int x0]) (h' := hp M) rfl ?_
      refine am_Y.br (c := (90 : Int32) < x0) _ (t := 28) (u := 24) (lv' := [(0, .int x0)]) (st' := []) (h' := hp M) rfl (fun hc => ?_) (fun hc => ?_)
      · replace h := (if_pos hc).symm.trans h
        refine am_Y.run (k := 1) (pc' := 29) (lv' := [(0, .int x0)]) (st' := [.int (0 : Int32)]) (h' := hp M) rfl ?_
        subst h
        exact am_Y.ret rfl
      · replace h := (if_neg hc).symm.trans h
        refine am_Y.run (k := 2) (pc' := 29) (lv' := [(0, .int x0)]) (st' := [.int (1 : Int32)]) (h' := hp M) rfl ?_
        subst h
        exact am_Y.ret rfl
  · replace h := (if_neg hc).symm.trans h
    refine am_Y.run (k := 2) (pc' := 9) (lv' := [(0, .int x0)]) (st' := [.int (122 : Int32), .int x0]) (h' := hp M) rfl ?_
    refine am_Y.br (c := x0 ≤ (122 : Int32)) _ (t := 24) (u := 12) (lv' := [(0, .int x0)]) (st' := []) (h' := hp M) rfl (fun hc => ?_) (fun hc => ?_)
    · replace h := (if_pos hc).symm.trans h
      refine am_Y.run (k := 2) (pc' := 29) (lv' := [(0, .int x0)]) (st' := [.int (1 : Int32)]) (h' := hp M) rfl ?_
      subst h
      exact am_Y.ret rfl
    · replace h := (if_neg hc).symm.trans h
      refine am_Y.run (k := 2) (pc' := 15) (lv' := [(0, .int x0)]) (st' := [.int (65 : Int32), .int x0]) (h' := hp M) rfl ?_
      refine am_Y.br (c := x0 < (65 : Int32)) _ (t := 28) (u := 18) (lv' := [(0, .int x0)]) (st' := []) (h' := hp M) rfl (fun hc => ?_) (fun hc => ?_)
      · replace h := (if_pos hc).symm.trans h
        refine am_Y.run (k := 1) (pc' := 29) (lv' := [(0, .int x0)]) (st' := [.int (0 : Int32)]) (h' := hp M) rfl ?_
        subst h
        exact am_Y.ret rfl
      · replace h := (if_neg hc).symm.trans h
        refine am_Y.run (k := 2) (pc' := 21) (lv' := [(0, .int x0)]) (st' := [.int (90 : Int32), .int x0]) (h' := hp M) rfl ?_
        refine am_Y.br (c := (90 : Int32) < x0) _ (t := 28) (u := 24) (lv' := [(0, .int x0)]) (st' := []) (h' := hp M) rfl (fun hc => ?_) (fun hc => ?_)
        · replace h := (if_pos hc).symm.trans h
          refine am_Y.run (k := 1) (pc' := 29) (lv' := [(0, .int x0)]) (st' := [.int (0 : Int32)]) (h' := hp M) rfl ?_
          subst h
          exact am_Y.ret rfl
        · replace h := (if_neg hc).symm.trans h
          refine am_Y.run (k := 2) (pc' := 29) (lv' := [(0, .int x0)]) (st' := [.int (1 : Int32)]) (h' := hp M) rfl ?_
          subst h
          exact am_Y.ret rfl
set_option maxRecDepth 100000 in
theorem z_m_isLetterByte (x0 : Int32) (M : Mem) : f_m_isLetterByte x0 M = 0 ∨ f_m_isLetterByte x0 M = 1 := by
  simp only [f_m_isLetterByte]
  first | (repeat' split) <;> first | exact Or.inl rfl | exact Or.inr rfl | (simp; done) | (simp; done)
set_option maxRecDepth 100000 in
theorem t_m_isSign {S : Nat × (Nat → Int32)} (x0 : Int32) (M : Mem) (r : Int32) (h : f_m_isSign x0 M = r) : am_Y S 0 0 0 am_M285 0 [(0, .int x0)] [] (hp M) (some (.int r)) (hp M) := by
  rw [f_m_isSign] at h
  refine am_Y.run (k := 1) (pc' := 1) (lv' := [(0, .int x0)]) (st' := [.int x0]) (h' := hp M) rfl ?_
  by_cases hc35 : x0 = (35 : Int32)
  · replace h := (if_pos hc35).symm.trans h
    refine am_Y.one (pc' := 128) (lv' := [(0, .int x0)]) (st' := []) (h' := hp M) (am_swc hc35 rfl) ?_
    refine am_Y.run (k := 1) (pc' := 129) (lv' := [(0, .int x0)]) (st' := [.int (1 : Int32)]) (h' := hp M) rfl ?_
    subst h
    exact am_Y.ret rfl
  replace h := (if_neg hc35).symm.trans h
  by_cases hc40 : x0 = (40 : Int32)
  · replace h := (if_pos hc40).symm.trans h
    refine am_Y.one (pc' := 128) (lv' := [(0, .int x0)]) (st' := []) (h' := hp M) (am_swc hc40 rfl) ?_
    refine am_Y.run (k := 1) (pc' := 129) (lv' := [(0, .int x0)]) (st' := [.int (1 : Int32)]) (h' := hp M) rfl ?_
    subst h
    exact am_Y.ret rfl
  replace h := (if_neg hc40).symm.trans h
  by_cases hc41 : x0 = (41 : Int32)
  · replace h := (if_pos hc41).symm.trans h
    refine am_Y.one (pc' := 128) (lv' := [(0, .int x0)]) (st' := []) (h' := hp M) (am_swc hc41 rfl) ?_
    refine am_Y.run (k := 1) (pc' := 129) (lv' := [(0, .int x0)]) (st' := [.int (1 : Int32)]) (h' := hp M) rfl ?_
    subst h
    exact am_Y.ret rfl
  replace h := (if_neg hc41).symm.trans h
  by_cases hc42 : x0 = (42 : Int32)
  · replace h := (if_pos hc42).symm.trans h
    refine am_Y.one (pc' := 128) (lv' := [(0, .int x0)]) (st' := []) (h' := hp M) (am_swc hc42 rfl) ?_
    refine am_Y.run (k := 1) (pc' := 129) (lv' := [(0, .int x0)]) (st' := [.int (1 : Int32)]) (h' := hp M) rfl ?_
    subst h
    exact am_Y.ret rfl
  replace h := (if_neg hc42).symm.trans h
  by_cases hc43 : x0 = (43 : Int32)
  · replace h := (if_pos hc43).symm.trans h
    refine am_Y.one (pc' := 128) (lv' := [(0, .int x0)]) (st' := []) (h' := hp M) (am_swc hc43 rfl) ?_
    refine am_Y.run (k := 1) (pc' := 129) (lv' := [(0, .int x0)]) (st' := [.int (1 : Int32)]) (h' := hp M) rfl ?_
    subst h
    exact am_Y.ret rfl
  replace h := (if_neg hc43).symm.trans h
  by_cases hc45 : x0 = (45 : Int32)
  · replace h := (if_pos hc45).symm.trans h
    refine am_Y.one (pc' := 128) (lv' := [(0, .int x0)]) (st' := []) (h' := hp M) (am_swc hc45 rfl) ?_
    refine am_Y.run (k := 1) (pc' := 129) (lv' := [(0, .int x0)]) (st' := [.int (1 : Int32)]) (h' := hp M) rfl ?_
    subst h
    exact am_Y.ret rfl
  replace h := (if_neg hc45).symm.trans h
  by_cases hc47 : x0 = (47 : Int32)
  · replace h := (if_pos hc47).symm.trans h
    refine am_Y.one (pc' := 128) (lv' := [(0, .int x0)]) (st' := []) (h' := hp M) (am_swc hc47 rfl) ?_
    refine am_Y.run (k := 1) (pc' := 129) (lv' := [(0, .int x0)]) (st' := [.int (1 : Int32)]) (h' := hp M) rfl ?_
    subst h
    exact am_Y.ret rfl
  replace h := (if_neg hc47).symm.trans h
  by_cases hc58 : x0 = (58 : Int32)
  · replace h := (if_pos hc58).symm.trans h
    refine am_Y.one (pc' := 128) (lv' := [(0, .int x0)]) (st' := []) (h' := hp M) (am_swc hc58 rfl) ?_
    refine am_Y.run (k := 1) (pc' := 129) (lv' := [(0, .int x0)]) (st' := [.int (1 : Int32)]) (h' := hp M) rfl ?_
    subst h
    exact am_Y.ret rfl
  replace h := (if_neg hc58).symm.trans h
  by_cases hc59 : x0 = (59 : Int32)
  · replace h := (if_pos hc59).symm.trans h
    refine am_Y.one (pc' := 128) (lv' := [(0, .int x0)]) (st' := []) (h' := hp M) (am_swc hc59 rfl) ?_
    refine am_Y.run (k := 1) (pc' := 129) (lv' := [(0, .int x0)]) (st' := [.int (1 : Int32)]) (h' := hp M) rfl ?_
    subst h
    exact am_Y.ret rfl
  replace h := (if_neg hc59).symm.trans h
  by_cases hc60 : x0 = (60 : Int32)
  · replace h := (if_pos hc60).symm.trans h
    refine am_Y.one (pc' := 128) (lv' := [(0, .int x0)]) (st' := []) (h' := hp M) (am_swc hc60 rfl) ?_
    refine am_Y.run (k := 1) (pc' := 129) (lv' := [(0, .int x0)]) (st' := [.int (1 : Int32)]) (h' := hp M) rfl ?_
    subst h
    exact am_Y.ret rfl
  replace h := (if_neg hc60).symm.trans h
  by_cases hc61 : x0 = (61 : Int32)
  · replace h := (if_pos hc61).symm.trans h
    refine am_Y.one (pc' := 128) (lv' := [(0, .int x0)]) (st' := []) (h' := hp M) (am_swc hc61 rfl) ?_
    refine am_Y.run (k := 1) (pc' := 129) (lv' := [(0, .int x0)]) (st' := [.int (1 : Int32)]) (h' := hp M) rfl ?_
    subst h
    exact am_Y.ret rfl
  replace h := (if_neg hc61).symm.trans h
  by_cases hc62 : x0 = (62 : Int32)
  · replace h := (if_pos hc62).symm.trans h
    refine am_Y.one (pc' := 128) (lv' := [(0, .int x0)]) (st' := []) (h' := hp M) (am_swc hc62 rfl) ?_
    refine am_Y.run (k := 1) (pc' := 129) (lv' := [(0, .int x0)]) (st' := [.int (1 : Int32)]) (h' := hp M) rfl ?_
    subst h
    exact am_Y.ret rfl
  replace h := (if_neg hc62).symm.trans h
  by_cases hc36 : x0 = (36 : Int32)
  · refine am_Y.one (pc' := 130) (lv' := [(0, .int x0)]) (st' := []) (h' := hp M) (am_swc hc36 rfl) ?_
    refine am_Y.run (k := 1) (pc' := 131) (lv' := [(0, .int x0)]) (st' := [.int (0 : Int32)]) (h' := hp M) rfl ?_
    subst h
    exact am_Y.ret rfl
  by_cases hc37 : x0 = (37 : Int32)
  · refine am_Y.one (pc' := 130) (lv' := [(0, .int x0)]) (st' := []) (h' := hp M) (am_swc hc37 rfl) ?_
    refine am_Y.run (k := 1) (pc' := 131) (lv' := [(0, .int x0)]) (st' := [.int (0 : Int32)]) (h' := hp M) rfl ?_
    subst h
    exact am_Y.ret rfl
  by_cases hc38 : x0 = (38 : Int32)
  · refine am_Y.one (pc' := 130) (lv' := [(0, .int x0)]) (st' := []) (h' := hp M) (am_swc hc38 rfl) ?_
    refine am_Y.run (k := 1) (pc' := 131) (lv' := [(0, .int x0)]) (st' := [.int (0 : Int32)]) (h' := hp M) rfl ?_
    subst h
    exact am_Y.ret rfl
  by_cases hc39 : x0 = (39 : Int32)
  · refine am_Y.one (pc' := 130) (lv' := [(0, .int x0)]) (st' := []) (h' := hp M) (am_swc hc39 rfl) ?_
    refine am_Y.run (k := 1) (pc' := 131) (lv' := [(0, .int x0)]) (st' := [.int (0 : Int32)]) (h' := hp M) rfl ?_
    subst h
    exact am_Y.ret rfl
  by_cases hc44 : x0 = (44 : Int32)
  · refine am_Y.one (pc' := 130) (lv' := [(0, .int x0)]) (st' := []) (h' := hp M) (am_swc hc44 rfl) ?_
    refine am_Y.run (k := 1) (pc' := 131) (lv' := [(0, .int x0)]) (st' := [.int (0 : Int32)]) (h' := hp M) rfl ?_
    subst h
    exact am_Y.ret rfl
  by_cases hc46 : x0 = (46 : Int32)
  · refine am_Y.one (pc' := 130) (lv' := [(0, .int x0)]) (st' := []) (h' := hp M) (am_swc hc46 rfl) ?_
    refine am_Y.run (k := 1) (pc' := 131) (lv' := [(0, .int x0)]) (st' := [.int (0 : Int32)]) (h' := hp M) rfl ?_
    subst h
    exact am_Y.ret rfl
  by_cases hc48 : x0 = (48 : Int32)
  · refine am_Y.one (pc' := 130) (lv' := [(0, .int x0)]) (st' := []) (h' := hp M) (am_swc hc48 rfl) ?_
    refine am_Y.run (k := 1) (pc' := 131) (lv' := [(0, .int x0)]) (st' := [.int (0 : Int32)]) (h' := hp M) rfl ?_
    subst h
    exact am_Y.ret rfl
  by_cases hc49 : x0 = (49 : Int32)
  · refine am_Y.one (pc' := 130) (lv' := [(0, .int x0)]) (st' := []) (h' := hp M) (am_swc hc49 rfl) ?_
    refine am_Y.run (k := 1) (pc' := 131) (lv' := [(0, .int x0)]) (st' := [.int (0 : Int32)]) (h' := hp M) rfl ?_
    subst h
    exact am_Y.ret rfl
  by_cases hc50 : x0 = (50 : Int32)
  · refine am_Y.one (pc' := 130) (lv' := [(0, .int x0)]) (st' := []) (h' := hp M) (am_swc hc50 rfl) ?_
    refine am_Y.run (k := 1) (pc' := 131) (lv' := [(0, .int x0)]) (st' := [.int (0 : Int32)]) (h' := hp M) rfl ?_
    subst h
    exact am_Y.ret rfl
  by_cases hc51 : x0 = (51 : Int32)
  · refine am_Y.one (pc' := 130) (lv' := [(0, .int x0)]) (st' := []) (h' := hp M) (am_swc hc51 rfl) ?_
    refine am_Y.run (k := 1) (pc' := 131) (lv' := [(0, .int x0)]) (st' := [.int (0 : Int32)]) (h' := hp M) rfl ?_
    subst h
    exact am_Y.ret rfl
  by_cases hc52 : x0 = (52 : Int32)
  · refine am_Y.one (pc' := 130) (lv' := [(0, .int x0)]) (st' := []) (h' := hp M) (am_swc hc52 rfl) ?_
    refine am_Y.run (k := 1) (pc' := 131) (lv' := [(0, .int x0)]) (st' := [.int (0 : Int32)]) (h' := hp M) rfl ?_
    subst h
    exact am_Y.ret rfl
  by_cases hc53 : x0 = (53 : Int32)
  · refine am_Y.one (pc' := 130) (lv' := [(0, .int x0)]) (st' := []) (h' := hp M) (am_swc hc53 rfl) ?_
    refine am_Y.run (k := 1) (pc' := 131) (lv' := [(0, .int x0)]) (st' := [.int (0 : Int32)]) (h' := hp M) rfl ?_
    subst h
    exact am_Y.ret rfl
  by_cases hc54 : x0 = (54 : Int32)
  · refine am_Y.one (pc' := 130) (lv' := [(0, .int x0)]) (st' := []) (h' := hp M) (am_swc hc54 rfl) ?_
    refine am_Y.run (k := 1) (pc' := 131) (lv' := [(0, .int x0)]) (st' := [.int (0 : Int32)]) (h' := hp M) rfl ?_
    subst h
    exact am_Y.ret rfl
  by_cases hc55 : x0 = (55 : Int32)
  · refine am_Y.one (pc' := 130) (lv' := [(0, .int x0)]) (st' := []) (h' := hp M) (am_swc hc55 rfl) ?_
    refine am_Y.run (k := 1) (pc' := 131) (lv' := [(0, .int x0)]) (st' := [.int (0 : Int32)]) (h' := hp M) rfl ?_
    subst h
    exact am_Y.ret rfl
  by_cases hc56 : x0 = (56 : Int32)
  · refine am_Y.one (pc' := 130) (lv' := [(0, .int x0)]) (st' := []) (h' := hp M) (am_swc hc56 rfl) ?_
    refine am_Y.run (k := 1) (pc' := 131) (lv' := [(0, .int x0)]) (st' := [.int (0 : Int32)]) (h' := hp M) rfl ?_
    subst h
    exact am_Y.ret rfl
  by_cases hc57 : x0 = (57 : Int32)
  · refine am_Y.one (pc' := 130) (lv' := [(0, .int x0)]) (st' := []) (h' := hp M) (am_swc hc57 rfl) ?_
    refine am_Y.run (k := 1) (pc' := 131) (lv' := [(0, .int x0)]) (st' := [.int (0 : Int32)]) (h' := hp M) rfl ?_
    subst h
    exact am_Y.ret rfl
  refine am_Y.one (pc' := 130) (lv' := [(0, .int x0)]) (st' := []) (h' := hp M) (am_swd (x := x0) rfl (by have := am_neT (35) hc35 (by decide); have := am_neT (40) hc40 (by decide); have := am_neT (41) hc41 (by decide); have := am_neT (42) hc42 (by decide); have := am_neT (43) hc43 (by decide); have := am_neT (45) hc45 (by decide); have := am_neT (47) hc47 (by decide); have := am_neT (58) hc58 (by decide); have := am_neT (59) hc59 (by decide); have := am_neT (60) hc60 (by decide); have := am_neT (61) hc61 (by decide); have := am_neT (62) hc62 (by decide); have := am_neT (36) hc36 (by decide); have := am_neT (37) hc37 (by decide); have := am_neT (38) hc38 (by decide); have := am_neT (39) hc39 (by decide); have := am_neT (44) hc44 (by decide); have := am_neT (46) hc46 (by decide); have := am_neT (48) hc48 (by decide); have := am_neT (49) hc49 (by decide); have := am_neT (50) hc50 (by decide); have := am_neT (51) hc51 (by decide); have := am_neT (52) hc52 (by decide); have := am_neT (53) hc53 (by decide); have := am_neT (54) hc54 (by decide); have := am_neT (55) hc55 (by decide); have := am_neT (56) hc56 (by decide); have := am_neT (57) hc57 (by decide); omega) rfl) ?_
  refine am_Y.run (k := 1) (pc' := 131) (lv' := [(0, .int x0)]) (st' := [.int (0 : Int32)]) (h' := hp M) rfl ?_
  subst h
  exact am_Y.ret rfl
set_option maxRecDepth 100000 in
theorem z_m_isSign (x0 : Int32) (M : Mem) : f_m_isSign x0 M = 0 ∨ f_m_isSign x0 M = 1 := by
  simp only [f_m_isSign]
  first | (repeat' split) <;> first | exact Or.inl rfl | exact Or.inr rfl | (simp; done) | (simp; done)
set_option maxRecDepth 100000 in
theorem t_m_nextToken_85 {S : Nat × (Nat → Int32)} (N : Nat) : ∀ (n : Nat) (M : Mem) (M' : Mem), f_m_nextToken_85 N n M = some M' → am_Y S 1 0 0 am_M228 85 [(0, .ref 129)] [] (hp M) none (hp M') := by
  intro n
  induction n with
  | zero =>
    intro M M' h
    cases h
  | succ n ih =>
    intro M M' h
    rw [f_m_nextToken_85] at h
    refine am_Y.run (k := 3) (pc' := 90) (lv' := [(0, .ref 129)]) (st' := [.int (gi M 129 7), .ref 129]) (h' := hp M) rfl ?_
    obtain ⟨q16, e_q16, h⟩ := Option.bind_eq_some_iff.mp h
    refine am_Y.call0 (M' := am_M282) (as := [.ref 129, .int (gi M 129 7)]) (rest := []) (d' := 0) rfl (by omega) rfl rfl (t_m_byteAt (gi M 129 7) M q16 e_q16) ?_
    refine am_Y.call0 (M' := am_M283) (as := [.int q16]) (rest := []) (d' := 0) rfl (by omega) rfl rfl (t_m_isFigure q16 M _ rfl) ?_
    refine am_Y.br (c := (f_m_isFigure q16 M) = (0 : Int32)) _ (t := 310) (u := 99) (lv' := [(0, .ref 129)]) (st' := []) (h' := hp M) rfl (fun hc => ?_) (fun hc => ?_)
    · replace h := (if_pos hc).symm.trans h
      obtain rfl := Option.some.inj h
      exact am_Y.ret rfl
    · replace h := (if_neg hc).symm.trans h
      refine am_Y.run (k := 4) (pc' := 106) (lv' := [(0, .ref 129)]) (st' := [.int (99999 : Int32), .int (gi M 129 10), .ref 129]) (h' := hp M) rfl ?_
      refine am_Y.br (c := (gi M 129 10) ≤ (99999 : Int32)) _ (t := 116) (u := 109) (lv' := [(0, .ref 129)]) (st' := [.ref 129]) (h' := hp M) rfl (fun hc => ?_) (fun hc => ?_)
      · replace h := (if_pos hc).symm.trans h
        refine am_Y.run (k := 7) (pc' := 128) (lv' := [(0, .ref 129)]) (st' := [.int (gi M 129 7), .ref 129, .int ((10 : Int32) * (gi M 129 10)), .ref 129]) (h' := hp M) rfl ?_
        obtain ⟨q17, e_q17, h⟩ := Option.bind_eq_some_iff.mp h
        refine am_Y.call0 (M' := am_M282) (as := [.ref 129, .int (gi M 129 7)]) (rest := [.int ((10 : Int32) * (gi M 129 10)), .ref 129]) (d' := 0) rfl (by omega) rfl rfl (t_m_byteAt (gi M 129 7) M q17 e_q17) ?_
        refine am_Y.run (k := 4) (pc' := 138) (lv' := [(0, .ref 129)]) (st' := []) (h' := hp (si M 129 10 ((((10 : Int32) * (gi M 129 10)) + q17) - (48 : Int32)))) rfl ?_
        obtain ⟨q18, e_q18, h⟩ := Option.bind_eq_some_iff.mp h
        rw [Option.some.inj e_q18]
        refine am_Y.run (k := 6) (pc' := 148) (lv' := [(0, .ref 129)]) (st' := []) (h' := hp (si q18 129 7 ((gi q18 129 7) + (1 : Int32)))) rfl ?_
        obtain ⟨q19, e_q19, h⟩ := Option.bind_eq_some_iff.mp h
        rw [Option.some.inj e_q19]
        refine am_Y.run (k := 1) (pc' := 85) (lv' := [(0, .ref 129)]) (st' := []) (h' := hp q19) rfl ?_
        refine am_Y.weak (lv2 := [(0, .ref 129)]) rfl rfl ⟨rfl, trivial⟩ ?_
        exact ih q19 _ h
      · replace h := (if_neg hc).symm.trans h
        refine am_Y.run (k := 4) (pc' := 138) (lv' := [(0, .ref 129)]) (st' := []) (h' := hp (si M 129 10 (gi M 129 10))) rfl ?_
        obtain ⟨q20, e_q20, h⟩ := Option.bind_eq_some_iff.mp h
        rw [Option.some.inj e_q20]
        refine am_Y.run (k := 6) (pc' := 148) (lv' := [(0, .ref 129)]) (st' := []) (h' := hp (si q20 129 7 ((gi q20 129 7) + (1 : Int32)))) rfl ?_
        obtain ⟨q21, e_q21, h⟩ := Option.bind_eq_some_iff.mp h
        rw [Option.some.inj e_q21]
        refine am_Y.run (k := 1) (pc' := 85) (lv' := [(0, .ref 129)]) (st' := []) (h' := hp q21) rfl ?_
        refine am_Y.weak (lv2 := [(0, .ref 129)]) rfl rfl ⟨rfl, trivial⟩ ?_
        exact ih q21 _ h
set_option maxRecDepth 100000 in
theorem t_m_nextToken_168 {S : Nat × (Nat → Int32)} (N : Nat) : ∀ (n : Nat) (M : Mem) (M' : Mem), f_m_nextToken_168 N n M = some M' → am_Y S 1 0 0 am_M228 168 [(0, .ref 129)] [] (hp M) none (hp M') := by
  intro n
  induction n with
  | zero =>
    intro M M' h
    cases h
  | succ n ih =>
    intro M M' h
    rw [f_m_nextToken_168] at h
    refine am_Y.run (k := 3) (pc' := 173) (lv' := [(0, .ref 129)]) (st' := [.int (gi M 129 7), .ref 129]) (h' := hp M) rfl ?_
    obtain ⟨q22, e_q22, h⟩ := Option.bind_eq_some_iff.mp h
    refine am_Y.call0 (M' := am_M282) (as := [.ref 129, .int (gi M 129 7)]) (rest := []) (d' := 0) rfl (by omega) rfl rfl (t_m_byteAt (gi M 129 7) M q22 e_q22) ?_
    refine am_Y.call0 (M' := am_M284) (as := [.int q22]) (rest := []) (d' := 0) rfl (by omega) rfl rfl (t_m_isLetterByte q22 M _ rfl) ?_
    refine am_Y.br (c := (f_m_isLetterByte q22 M) = (0 : Int32)) _ (t := 310) (u := 182) (lv' := [(0, .ref 129)]) (st' := []) (h' := hp M) rfl (fun hc => ?_) (fun hc => ?_)
    · replace h := (if_pos hc).symm.trans h
      obtain rfl := Option.some.inj h
      exact am_Y.ret rfl
    · replace h := (if_neg hc).symm.trans h
      refine am_Y.run (k := 7) (pc' := 192) (lv' := [(0, .ref 129)]) (st' := [.int (lg_cmp ((gj M 129 11) >>> (Int32.toInt64 (48 : Int32) &&& 63)) (0 : Int64)), .ref 129]) (h' := hp M) rfl ?_
      refine am_Y.br (c := (lg_cmp ((gj M 129 11) >>> (Int32.toInt64 (48 : Int32) &&& 63)) (0 : Int64)) = (0 : Int32)) _ (t := 201) (u := 195) (lv' := [(0, .ref 129)]) (st' := [.ref 129]) (h' := hp M) rfl (fun hc => ?_) (fun hc => ?_)
      · replace h := (if_pos hc).symm.trans h
        refine am_Y.run (k := 7) (pc' := 213) (lv' := [(0, .ref 129)]) (st' := [.int (gi M 129 7), .ref 129, .long ((gj M 129 11) <<< (Int32.toInt64 (8 : Int32) &&& 63)), .ref 129]) (h' := hp M) rfl ?_
        obtain ⟨q23, e_q23, h⟩ := Option.bind_eq_some_iff.mp h
        refine am_Y.call0 (M' := am_M282) (as := [.ref 129, .int (gi M 129 7)]) (rest := [.long ((gj M 129 11) <<< (Int32.toInt64 (8 : Int32) &&& 63)), .ref 129]) (d' := 0) rfl (by omega) rfl rfl (t_m_byteAt (gi M 129 7) M q23 e_q23) ?_
        refine am_Y.run (k := 3) (pc' := 221) (lv' := [(0, .ref 129)]) (st' := []) (h' := hp (sj M 129 11 (((gj M 129 11) <<< (Int32.toInt64 (8 : Int32) &&& 63)) ||| (Int32.toInt64 q23)))) rfl ?_
        obtain ⟨q24, e_q24, h⟩ := Option.bind_eq_some_iff.mp h
        rw [Option.some.inj e_q24]
        refine am_Y.run (k := 6) (pc' := 231) (lv' := [(0, .ref 129)]) (st' := []) (h' := hp (si q24 129 7 ((gi q24 129 7) + (1 : Int32)))) rfl ?_
        obtain ⟨q25, e_q25, h⟩ := Option.bind_eq_some_iff.mp h
        rw [Option.some.inj e_q25]
        refine am_Y.run (k := 1) (pc' := 168) (lv' := [(0, .ref 129)]) (st' := []) (h' := hp q25) rfl ?_
        refine am_Y.weak (lv2 := [(0, .ref 129)]) rfl rfl ⟨rfl, trivial⟩ ?_
        exact ih q25 _ h
      · replace h := (if_neg hc).symm.trans h
        refine am_Y.run (k := 3) (pc' := 221) (lv' := [(0, .ref 129)]) (st' := []) (h' := hp (sj M 129 11 (1152921504606846976 : Int64))) rfl ?_
        obtain ⟨q26, e_q26, h⟩ := Option.bind_eq_some_iff.mp h
        rw [Option.some.inj e_q26]
        refine am_Y.run (k := 6) (pc' := 231) (lv' := [(0, .ref 129)]) (st' := []) (h' := hp (si q26 129 7 ((gi q26 129 7) + (1 : Int32)))) rfl ?_
        obtain ⟨q27, e_q27, h⟩ := Option.bind_eq_some_iff.mp h
        rw [Option.some.inj e_q27]
        refine am_Y.run (k := 1) (pc' := 168) (lv' := [(0, .ref 129)]) (st' := []) (h' := hp q27) rfl ?_
        refine am_Y.weak (lv2 := [(0, .ref 129)]) rfl rfl ⟨rfl, trivial⟩ ?_
        exact ih q27 _ h
set_option maxRecDepth 100000 in
theorem t_m_nextToken_272 {S : Nat × (Nat → Int32)} (N : Nat) (x1 : Int32) (M : Mem) (M' : Mem) (h : f_m_nextToken_272 N x1 M = some M') : am_Y S 1 0 0 am_M228 272 [(0, .ref 129), (1, .int x1)] [] (hp M) none (hp M') := by
  rw [f_m_nextToken_272] at h
  refine am_Y.run (k := 3) (pc' := 277) (lv' := [(0, .ref 129), (1, .int x1)]) (st' := [.int (gi M 129 7), .ref 129]) (h' := hp M) rfl ?_
  obtain ⟨q28, e_q28, h⟩ := Option.bind_eq_some_iff.mp h
  refine am_Y.call0 (M' := am_M282) (as := [.ref 129, .int (gi M 129 7)]) (rest := []) (d' := 0) rfl (by omega) rfl rfl (t_m_byteAt (gi M 129 7) M q28 e_q28) ?_
  refine am_Y.run (k := 1) (pc' := 282) (lv' := [(0, .ref 129), (1, .int x1)]) (st' := [.int (61 : Int32), .int q28]) (h' := hp M) rfl ?_
  refine am_Y.br (c := q28 = (61 : Int32)) _ (t := 285) (u := 310) (lv' := [(0, .ref 129), (1, .int x1)]) (st' := []) (h' := hp M) rfl (fun hc => ?_) (fun hc => ?_)
  · replace h := (if_pos hc).symm.trans h
    refine am_Y.run (k := 3) (pc' := 289) (lv' := [(0, .ref 129), (1, .int x1)]) (st' := [.int (60 : Int32), .int x1, .ref 129]) (h' := hp M) rfl ?_
    refine am_Y.br (c := x1 = (60 : Int32)) _ (t := 292) (u := 296) (lv' := [(0, .ref 129), (1, .int x1)]) (st' := [.ref 129]) (h' := hp M) rfl (fun hc => ?_) (fun hc => ?_)
    · replace h := (if_pos hc).symm.trans h
      refine am_Y.run (k := 3) (pc' := 300) (lv' := [(0, .ref 129), (1, .int x1)]) (st' := []) (h' := hp (si M 129 9 (4 : Int32))) rfl ?_
      obtain ⟨q29, e_q29, h⟩ := Option.bind_eq_some_iff.mp h
      rw [Option.some.inj e_q29]
      refine am_Y.run (k := 6) (pc' := 310) (lv' := [(0, .ref 129), (1, .int x1)]) (st' := []) (h' := hp (si q29 129 7 ((gi q29 129 7) + (1 : Int32)))) rfl ?_
      obtain ⟨q30, e_q30, h⟩ := Option.bind_eq_some_iff.mp h
      rw [Option.some.inj e_q30]
      obtain rfl := Option.some.inj h
      exact am_Y.ret rfl
    · replace h := (if_neg hc).symm.trans h
      refine am_Y.run (k := 2) (pc' := 300) (lv' := [(0, .ref 129), (1, .int x1)]) (st' := []) (h' := hp (si M 129 9 (5 : Int32))) rfl ?_
      obtain ⟨q31, e_q31, h⟩ := Option.bind_eq_some_iff.mp h
      rw [Option.some.inj e_q31]
      refine am_Y.run (k := 6) (pc' := 310) (lv' := [(0, .ref 129), (1, .int x1)]) (st' := []) (h' := hp (si q31 129 7 ((gi q31 129 7) + (1 : Int32)))) rfl ?_
      obtain ⟨q32, e_q32, h⟩ := Option.bind_eq_some_iff.mp h
      rw [Option.some.inj e_q32]
      obtain rfl := Option.some.inj h
      exact am_Y.ret rfl
  · replace h := (if_neg hc).symm.trans h
    obtain rfl := Option.some.inj h
    exact am_Y.ret rfl
set_option maxRecDepth 100000 in
theorem t_m_nextToken_0 {S : Nat × (Nat → Int32)} (N : Nat) : ∀ (n : Nat) (M : Mem) (M' : Mem), f_m_nextToken_0 N n M = some M' → am_Y S 1 0 0 am_M228 0 [(0, .ref 129)] [] (hp M) none (hp M') := by
  intro n
  induction n with
  | zero =>
    intro M M' h
    cases h
  | succ n ih =>
    intro M M' h
    rw [f_m_nextToken_0] at h
    refine am_Y.run (k := 3) (pc' := 5) (lv' := [(0, .ref 129)]) (st' := [.int (gi M 129 7), .ref 129]) (h' := hp M) rfl ?_
    obtain ⟨q1, e_q1, h⟩ := Option.bind_eq_some_iff.mp h
    refine am_Y.call0 (M' := am_M282) (as := [.ref 129, .int (gi M 129 7)]) (rest := []) (d' := 0) rfl (by omega) rfl rfl (t_m_byteAt (gi M 129 7) M q1 e_q1) ?_
    refine am_Y.run (k := 1) (pc' := 10) (lv' := [(0, .ref 129)]) (st' := [.int (32 : Int32), .int q1]) (h' := hp M) rfl ?_
    refine am_Y.br (c := q1 = (32 : Int32)) _ (t := 26) (u := 13) (lv' := [(0, .ref 129)]) (st' := []) (h' := hp M) rfl (fun hc => ?_) (fun hc => ?_)
    · replace h := (if_pos hc).symm.trans h
      refine am_Y.run (k := 6) (pc' := 36) (lv' := [(0, .ref 129)]) (st' := []) (h' := hp (si M 129 7 ((gi M 129 7) + (1 : Int32)))) rfl ?_
      obtain ⟨q2, e_q2, h⟩ := Option.bind_eq_some_iff.mp h
      rw [Option.some.inj e_q2]
      refine am_Y.run (k := 1) (pc' := 0) (lv' := [(0, .ref 129)]) (st' := []) (h' := hp q2) rfl ?_
      refine am_Y.weak (lv2 := [(0, .ref 129)]) rfl rfl ⟨rfl, trivial⟩ ?_
      exact ih q2 _ h
    · replace h := (if_neg hc).symm.trans h
      refine am_Y.run (k := 3) (pc' := 18) (lv' := [(0, .ref 129)]) (st' := [.int (gi M 129 7), .ref 129]) (h' := hp M) rfl ?_
      obtain ⟨q3, e_q3, h⟩ := Option.bind_eq_some_iff.mp h
      refine am_Y.call0 (M' := am_M282) (as := [.ref 129, .int (gi M 129 7)]) (rest := []) (d' := 0) rfl (by omega) rfl rfl (t_m_byteAt (gi M 129 7) M q3 e_q3) ?_
      refine am_Y.run (k := 1) (pc' := 23) (lv' := [(0, .ref 129)]) (st' := [.int (10 : Int32), .int q3]) (h' := hp M) rfl ?_
      refine am_Y.br (c := q3 = (10 : Int32)) _ (t := 26) (u := 39) (lv' := [(0, .ref 129)]) (st' := []) (h' := hp M) rfl (fun hc => ?_) (fun hc => ?_)
      · replace h := (if_pos hc).symm.trans h
        refine am_Y.run (k := 6) (pc' := 36) (lv' := [(0, .ref 129)]) (st' := []) (h' := hp (si M 129 7 ((gi M 129 7) + (1 : Int32)))) rfl ?_
        obtain ⟨q4, e_q4, h⟩ := Option.bind_eq_some_iff.mp h
        rw [Option.some.inj e_q4]
        refine am_Y.run (k := 1) (pc' := 0) (lv' := [(0, .ref 129)]) (st' := []) (h' := hp q4) rfl ?_
        refine am_Y.weak (lv2 := [(0, .ref 129)]) rfl rfl ⟨rfl, trivial⟩ ?_
        exact ih q4 _ h
      · replace h := (if_neg hc).symm.trans h
        refine am_Y.run (k := 4) (pc' := 47) (lv' := [(0, .ref 129)]) (st' := []) (h' := hp (si M 129 8 (gi M 129 7))) rfl ?_
        obtain ⟨q5, e_q5, h⟩ := Option.bind_eq_some_iff.mp h
        rw [Option.some.inj e_q5]
        refine am_Y.run (k := 3) (pc' := 52) (lv' := [(0, .ref 129)]) (st' := [.int (gi q5 129 7), .ref 129]) (h' := hp q5) rfl ?_
        obtain ⟨q6, e_q6, h⟩ := Option.bind_eq_some_iff.mp h
        refine am_Y.call0 (M' := am_M282) (as := [.ref 129, .int (gi q5 129 7)]) (rest := []) (d' := 0) rfl (by omega) rfl rfl (t_m_byteAt (gi q5 129 7) q5 q6 e_q6) ?_
        refine am_Y.run (k := 2) (pc' := 57) (lv' := [(1, .int q6), (0, .ref 129)]) (st' := [.int q6]) (h' := hp q5) rfl ?_
        refine am_Y.br (c := (0 : Int32) ≤ q6) _ (t := 68) (u := 60) (lv' := [(1, .int q6), (0, .ref 129)]) (st' := []) (h' := hp q5) rfl (fun hc => ?_) (fun hc => ?_)
        · replace h := (if_pos hc).symm.trans h
          refine am_Y.run (k := 1) (pc' := 69) (lv' := [(1, .int q6), (0, .ref 129)]) (st' := [.int q6]) (h' := hp q5) rfl ?_
          refine am_Y.call0 (M' := am_M283) (as := [.int q6]) (rest := []) (d' := 0) rfl (by omega) rfl rfl (t_m_isFigure q6 q5 _ rfl) ?_
          refine am_Y.br (c := (f_m_isFigure q6 q5) = (0 : Int32)) _ (t := 151) (u := 75) (lv' := [(1, .int q6), (0, .ref 129)]) (st' := []) (h' := hp q5) rfl (fun hc => ?_) (fun hc => ?_)
          · replace h := (if_pos hc).symm.trans h
            refine am_Y.run (k := 1) (pc' := 152) (lv' := [(1, .int q6), (0, .ref 129)]) (st' := [.int q6]) (h' := hp q5) rfl ?_
            refine am_Y.call0 (M' := am_M284) (as := [.int q6]) (rest := []) (d' := 0) rfl (by omega) rfl rfl (t_m_isLetterByte q6 q5 _ rfl) ?_
            refine am_Y.br (c := (f_m_isLetterByte q6 q5) = (0 : Int32)) _ (t := 234) (u := 158) (lv' := [(1, .int q6), (0, .ref 129)]) (st' := []) (h' := hp q5) rfl (fun hc => ?_) (fun hc => ?_)
            · replace h := (if_pos hc).symm.trans h
              refine am_Y.run (k := 2) (pc' := 236) (lv' := [(1, .int q6), (0, .ref 129)]) (st' := [.int q6, .ref 129]) (h' := hp q5) rfl ?_
              refine am_Y.call0 (M' := am_M285) (as := [.int q6]) (rest := [.ref 129]) (d' := 0) rfl (by omega) rfl rfl (t_m_isSign q6 q5 _ rfl) ?_
              refine am_Y.br (c := (f_m_isSign q6 q5) = (0 : Int32)) _ (t := 246) (u := 242) (lv' := [(1, .int q6), (0, .ref 129)]) (st' := [.ref 129]) (h' := hp q5) rfl (fun hc => ?_) (fun hc => ?_)
              · replace h := (if_pos hc).symm.trans h
                refine am_Y.run (k := 2) (pc' := 250) (lv' := [(1, .int q6), (0, .ref 129)]) (st' := []) (h' := hp (si q5 129 9 (3 : Int32))) rfl ?_
                obtain ⟨q7, e_q7, h⟩ := Option.bind_eq_some_iff.mp h
                rw [Option.some.inj e_q7]
                refine am_Y.run (k := 6) (pc' := 260) (lv' := [(1, .int q6), (0, .ref 129)]) (st' := []) (h' := hp (si q7 129 7 ((gi q7 129 7) + (1 : Int32)))) rfl ?_
                obtain ⟨q8, e_q8, h⟩ := Option.bind_eq_some_iff.mp h
                rw [Option.some.inj e_q8]
                refine am_Y.run (k := 2) (pc' := 263) (lv' := [(1, .int q6), (0, .ref 129)]) (st' := [.int (60 : Int32), .int q6]) (h' := hp q8) rfl ?_
                refine am_Y.br (c := q6 = (60 : Int32)) _ (t := 272) (u := 266) (lv' := [(1, .int q6), (0, .ref 129)]) (st' := []) (h' := hp q8) rfl (fun hc => ?_) (fun hc => ?_)
                · replace h := (if_pos hc).symm.trans h
                  refine am_Y.weak (lv2 := [(0, .ref 129), (1, .int q6)]) rfl rfl ⟨rfl, rfl, trivial⟩ ?_
                  exact t_m_nextToken_272 N q6 q8 _ h
                · replace h := (if_neg hc).symm.trans h
                  refine am_Y.run (k := 2) (pc' := 269) (lv' := [(1, .int q6), (0, .ref 129)]) (st' := [.int (62 : Int32), .int q6]) (h' := hp q8) rfl ?_
                  refine am_Y.br (c := q6 = (62 : Int32)) _ (t := 272) (u := 310) (lv' := [(1, .int q6), (0, .ref 129)]) (st' := []) (h' := hp q8) rfl (fun hc => ?_) (fun hc => ?_)
                  · replace h := (if_pos hc).symm.trans h
                    refine am_Y.weak (lv2 := [(0, .ref 129), (1, .int q6)]) rfl rfl ⟨rfl, rfl, trivial⟩ ?_
                    exact t_m_nextToken_272 N q6 q8 _ h
                  · replace h := (if_neg hc).symm.trans h
                    obtain rfl := Option.some.inj h
                    exact am_Y.ret rfl
              · replace h := (if_neg hc).symm.trans h
                refine am_Y.run (k := 3) (pc' := 250) (lv' := [(1, .int q6), (0, .ref 129)]) (st' := []) (h' := hp (si q5 129 9 q6)) rfl ?_
                obtain ⟨q9, e_q9, h⟩ := Option.bind_eq_some_iff.mp h
                rw [Option.some.inj e_q9]
                refine am_Y.run (k := 6) (pc' := 260) (lv' := [(1, .int q6), (0, .ref 129)]) (st' := []) (h' := hp (si q9 129 7 ((gi q9 129 7) + (1 : Int32)))) rfl ?_
                obtain ⟨q10, e_q10, h⟩ := Option.bind_eq_some_iff.mp h
                rw [Option.some.inj e_q10]
                refine am_Y.run (k := 2) (pc' := 263) (lv' := [(1, .int q6), (0, .ref 129)]) (st' := [.int (60 : Int32), .int q6]) (h' := hp q10) rfl ?_
                refine am_Y.br (c := q6 = (60 : Int32)) _ (t := 272) (u := 266) (lv' := [(1, .int q6), (0, .ref 129)]) (st' := []) (h' := hp q10) rfl (fun hc => ?_) (fun hc => ?_)
                · replace h := (if_pos hc).symm.trans h
                  refine am_Y.weak (lv2 := [(0, .ref 129), (1, .int q6)]) rfl rfl ⟨rfl, rfl, trivial⟩ ?_
                  exact t_m_nextToken_272 N q6 q10 _ h
                · replace h := (if_neg hc).symm.trans h
                  refine am_Y.run (k := 2) (pc' := 269) (lv' := [(1, .int q6), (0, .ref 129)]) (st' := [.int (62 : Int32), .int q6]) (h' := hp q10) rfl ?_
                  refine am_Y.br (c := q6 = (62 : Int32)) _ (t := 272) (u := 310) (lv' := [(1, .int q6), (0, .ref 129)]) (st' := []) (h' := hp q10) rfl (fun hc => ?_) (fun hc => ?_)
                  · replace h := (if_pos hc).symm.trans h
                    refine am_Y.weak (lv2 := [(0, .ref 129), (1, .int q6)]) rfl rfl ⟨rfl, rfl, trivial⟩ ?_
                    exact t_m_nextToken_272 N q6 q10 _ h
                  · replace h := (if_neg hc).symm.trans h
                    obtain rfl := Option.some.inj h
                    exact am_Y.ret rfl
            · replace h := (if_neg hc).symm.trans h
              refine am_Y.run (k := 3) (pc' := 163) (lv' := [(1, .int q6), (0, .ref 129)]) (st' := []) (h' := hp (si q5 129 9 (2 : Int32))) rfl ?_
              obtain ⟨q11, e_q11, h⟩ := Option.bind_eq_some_iff.mp h
              rw [Option.some.inj e_q11]
              refine am_Y.run (k := 3) (pc' := 168) (lv' := [(1, .int q6), (0, .ref 129)]) (st' := []) (h' := hp (sj q11 129 11 (0 : Int64))) rfl ?_
              obtain ⟨q12, e_q12, h⟩ := Option.bind_eq_some_iff.mp h
              rw [Option.some.inj e_q12]
              refine am_Y.weak (lv2 := [(0, .ref 129)]) rfl rfl ⟨rfl, trivial⟩ ?_
              exact t_m_nextToken_168 N N q12 _ h
          · replace h := (if_neg hc).symm.trans h
            refine am_Y.run (k := 3) (pc' := 80) (lv' := [(1, .int q6), (0, .ref 129)]) (st' := []) (h' := hp (si q5 129 9 (1 : Int32))) rfl ?_
            obtain ⟨q13, e_q13, h⟩ := Option.bind_eq_some_iff.mp h
            rw [Option.some.inj e_q13]
            refine am_Y.run (k := 3) (pc' := 85) (lv' := [(1, .int q6), (0, .ref 129)]) (st' := []) (h' := hp (si q13 129 10 (0 : Int32))) rfl ?_
            obtain ⟨q14, e_q14, h⟩ := Option.bind_eq_some_iff.mp h
            rw [Option.some.inj e_q14]
            refine am_Y.weak (lv2 := [(0, .ref 129)]) rfl rfl ⟨rfl, trivial⟩ ?_
            exact t_m_nextToken_85 N N q14 _ h
        · replace h := (if_neg hc).symm.trans h
          refine am_Y.run (k := 3) (pc' := 65) (lv' := [(1, .int q6), (0, .ref 129)]) (st' := []) (h' := hp (si q5 129 9 (0 : Int32))) rfl ?_
          obtain ⟨q15, e_q15, h⟩ := Option.bind_eq_some_iff.mp h
          rw [Option.some.inj e_q15]
          refine am_Y.run (k := 1) (pc' := 310) (lv' := [(1, .int q6), (0, .ref 129)]) (st' := []) (h' := hp q15) rfl ?_
          obtain rfl := Option.some.inj h
          exact am_Y.ret rfl
set_option maxRecDepth 100000 in
theorem t_m_nextToken {S : Nat × (Nat → Int32)} (N : Nat) (M : Mem) (M' : Mem) (h : f_m_nextToken N M = some M') : am_Y S 1 0 0 am_M228 0 [(0, .ref 129)] [] (hp M) none (hp M') := by
  rw [f_m_nextToken] at h
  refine am_Y.weak (lv2 := [(0, .ref 129)]) rfl rfl ⟨rfl, trivial⟩ ?_
  exact t_m_nextToken_0 N N M _ h
set_option maxRecDepth 100000 in
theorem t_m_w2 {S : Nat × (Nat → Int32)} (x0 : Int32) (x1 : Int32) (M : Mem) (r : Int64) (h : f_m_w2 x0 x1 M = r) : am_Y S 0 0 0 am_M312 0 [(0, .int x0), (1, .int x1)] [] (hp M) (some (.long r)) (hp M) := by
  rw [f_m_w2] at h
  refine am_Y.run (k := 7) (pc' := 8) (lv' := [(0, .int x0), (1, .int x1)]) (st' := [.long (((Int32.toInt64 x0) <<< (Int32.toInt64 (8 : Int32) &&& 63)) ||| (Int32.toInt64 x1))]) (h' := hp M) rfl ?_
  subst h
  exact am_Y.ret rfl
set_option maxRecDepth 100000 in
theorem t_m_w3 {S : Nat × (Nat → Int32)} (x0 : Int32) (x1 : Int32) (x2 : Int32) (M : Mem) (r : Int64) (h : f_m_w3 x0 x1 x2 M = r) : am_Y S 1 0 0 am_M309 0 [(0, .int x0), (1, .int x1), (2, .int x2)] [] (hp M) (some (.long r)) (hp M) := by
  rw [f_m_w3] at h
  refine am_Y.run (k := 2) (pc' := 2) (lv' := [(0, .int x0), (1, .int x1), (2, .int x2)]) (st' := [.int x1, .int x0]) (h' := hp M) rfl ?_
  refine am_Y.call0 (M' := am_M312) (as := [.int x0, .int x1]) (rest := []) (d' := 0) rfl (by omega) rfl rfl (t_m_w2 x0 x1 M _ rfl) ?_
  refine am_Y.run (k := 5) (pc' := 11) (lv' := [(0, .int x0), (1, .int x1), (2, .int x2)]) (st' := [.long (((f_m_w2 x0 x1 M) <<< (Int32.toInt64 (8 : Int32) &&& 63)) ||| (Int32.toInt64 x2))]) (h' := hp M) rfl ?_
  subst h
  exact am_Y.ret rfl
set_option maxRecDepth 100000 in
theorem t_m_w4 {S : Nat × (Nat → Int32)} (x0 : Int32) (x1 : Int32) (x2 : Int32) (x3 : Int32) (M : Mem) (r : Int64) (h : f_m_w4 x0 x1 x2 x3 M = r) : am_Y S 2 0 0 am_M310 0 [(0, .int x0), (1, .int x1), (2, .int x2), (3, .int x3)] [] (hp M) (some (.long r)) (hp M) := by
  rw [f_m_w4] at h
  refine am_Y.run (k := 3) (pc' := 3) (lv' := [(0, .int x0), (1, .int x1), (2, .int x2), (3, .int x3)]) (st' := [.int x2, .int x1, .int x0]) (h' := hp M) rfl ?_
  refine am_Y.call0 (M' := am_M309) (as := [.int x0, .int x1, .int x2]) (rest := []) (d' := 1) rfl (by omega) rfl rfl (t_m_w3 x0 x1 x2 M _ rfl) ?_
  refine am_Y.run (k := 5) (pc' := 12) (lv' := [(0, .int x0), (1, .int x1), (2, .int x2), (3, .int x3)]) (st' := [.long (((f_m_w3 x0 x1 x2 M) <<< (Int32.toInt64 (8 : Int32) &&& 63)) ||| (Int32.toInt64 x3))]) (h' := hp M) rfl ?_
  subst h
  exact am_Y.ret rfl
set_option maxRecDepth 100000 in
theorem t_m_w5 {S : Nat × (Nat → Int32)} (x0 : Int32) (x1 : Int32) (x2 : Int32) (x3 : Int32) (x4 : Int32) (M : Mem) (r : Int64) (h : f_m_w5 x0 x1 x2 x3 x4 M = r) : am_Y S 3 0 0 am_M311 0 [(0, .int x0), (1, .int x1), (2, .int x2), (3, .int x3), (4, .int x4)] [] (hp M) (some (.long r)) (hp M) := by
  rw [f_m_w5] at h
  refine am_Y.run (k := 4) (pc' := 4) (lv' := [(0, .int x0), (1, .int x1), (2, .int x2), (3, .int x3), (4, .int x4)]) (st' := [.int x3, .int x2, .int x1, .int x0]) (h' := hp M) rfl ?_
  refine am_Y.call0 (M' := am_M310) (as := [.int x0, .int x1, .int x2, .int x3]) (rest := []) (d' := 2) rfl (by omega) rfl rfl (t_m_w4 x0 x1 x2 x3 M _ rfl) ?_
  refine am_Y.run (k := 5) (pc' := 14) (lv' := [(0, .int x0), (1, .int x1), (2, .int x2), (3, .int x3), (4, .int x4)]) (st' := [.long (((f_m_w4 x0 x1 x2 x3 M) <<< (Int32.toInt64 (8 : Int32) &&& 63)) ||| (Int32.toInt64 x4))]) (h' := hp M) rfl ?_
  subst h
  exact am_Y.ret rfl
set_option maxRecDepth 100000 in
theorem t_m_w6 {S : Nat × (Nat → Int32)} (x0 : Int32) (x1 : Int32) (x2 : Int32) (x3 : Int32) (x4 : Int32) (x5 : Int32) (M : Mem) (r : Int64) (h : f_m_w6 x0 x1 x2 x3 x4 x5 M = r) : am_Y S 4 0 0 am_M307 0 [(0, .int x0), (1, .int x1), (2, .int x2), (3, .int x3), (4, .int x4), (5, .int x5)] [] (hp M) (some (.long r)) (hp M) := by
  rw [f_m_w6] at h
  refine am_Y.run (k := 5) (pc' := 6) (lv' := [(0, .int x0), (1, .int x1), (2, .int x2), (3, .int x3), (4, .int x4), (5, .int x5)]) (st' := [.int x4, .int x3, .int x2, .int x1, .int x0]) (h' := hp M) rfl ?_
  refine am_Y.call0 (M' := am_M311) (as := [.int x0, .int x1, .int x2, .int x3, .int x4]) (rest := []) (d' := 3) rfl (by omega) rfl rfl (t_m_w5 x0 x1 x2 x3 x4 M _ rfl) ?_
  refine am_Y.run (k := 5) (pc' := 16) (lv' := [(0, .int x0), (1, .int x1), (2, .int x2), (3, .int x3), (4, .int x4), (5, .int x5)]) (st' := [.long (((f_m_w5 x0 x1 x2 x3 x4 M) <<< (Int32.toInt64 (8 : Int32) &&& 63)) ||| (Int32.toInt64 x5))]) (h' := hp M) rfl ?_
  subst h
  exact am_Y.ret rfl
set_option maxRecDepth 100000 in
theorem t_m_isWord {S : Nat × (Nat → Int32)} (x1 : Int64) (M : Mem) (r : Int32) (h : f_m_isWord x1 M = r) : am_Y S 0 0 0 am_M308 0 [(0, .ref 129), (1, .long x1)] [] (hp M) (some (.int r)) (hp M) := by
  rw [f_m_isWord] at h
  refine am_Y.run (k := 3) (pc' := 5) (lv' := [(0, .ref 129), (1, .long x1)]) (st' := [.int (2 : Int32), .int (gi M 129 9)]) (h' := hp M) rfl ?_
  refine am_Y.br (c := (gi M 129 9) = (2 : Int32)) _ (t := 8) (u := 21) (lv' := [(0, .ref 129), (1, .long x1)]) (st' := []) (h' := hp M) rfl (fun hc => ?_) (fun hc => ?_)
  · replace h := (if_pos hc).symm.trans h
    refine am_Y.run (k := 4) (pc' := 14) (lv' := [(0, .ref 129), (1, .long x1)]) (st' := [.int (lg_cmp (gj M 129 11) x1)]) (h' := hp M) rfl ?_
    refine am_Y.br (c := (lg_cmp (gj M 129 11) x1) = (0 : Int32)) _ (t := 17) (u := 21) (lv' := [(0, .ref 129), (1, .long x1)]) (st' := []) (h' := hp M) rfl (fun hc => ?_) (fun hc => ?_)
    · replace h := (if_pos hc).symm.trans h
      refine am_Y.run (k := 2) (pc' := 22) (lv' := [(0, .ref 129), (1, .long x1)]) (st' := [.int (1 : Int32)]) (h' := hp M) rfl ?_
      subst h
      exact am_Y.ret rfl
    · replace h := (if_neg hc).symm.trans h
      refine am_Y.run (k := 1) (pc' := 22) (lv' := [(0, .ref 129), (1, .long x1)]) (st' := [.int (0 : Int32)]) (h' := hp M) rfl ?_
      subst h
      exact am_Y.ret rfl
  · replace h := (if_neg hc).symm.trans h
    refine am_Y.run (k := 1) (pc' := 22) (lv' := [(0, .ref 129), (1, .long x1)]) (st' := [.int (0 : Int32)]) (h' := hp M) rfl ?_
    subst h
    exact am_Y.ret rfl
set_option maxRecDepth 100000 in
theorem z_m_isWord (x1 : Int64) (M : Mem) : f_m_isWord x1 M = 0 ∨ f_m_isWord x1 M = 1 := by
  simp only [f_m_isWord]
  first | (repeat' split) <;> first | exact Or.inl rfl | exact Or.inr rfl | (simp; done) | (simp; done)
set_option maxRecDepth 100000 in
theorem t_m_sortOf {S : Nat × (Nat → Int32)} (M : Mem) (r : Int32) (h : f_m_sortOf M = r) : am_Y S 5 0 0 am_M286 0 [(0, .ref 129)] [] (hp M) (some (.int r)) (hp M) := by
  rw [f_m_sortOf] at h
  refine am_Y.run (k := 7) (pc' := 13) (lv' := [(0, .ref 129)]) (st' := [.int (115 : Int32), .int (116 : Int32), .int (110 : Int32), .int (117 : Int32), .int (111 : Int32), .int (99 : Int32), .ref 129]) (h' := hp M) rfl ?_
  refine am_Y.call0 (M' := am_M307) (as := [.int (99 : Int32), .int (111 : Int32), .int (117 : Int32), .int (110 : Int32), .int (116 : Int32), .int (115 : Int32)]) (rest := [.ref 129]) (d' := 4) rfl (by omega) rfl rfl (t_m_w6 (99 : Int32) (111 : Int32) (117 : Int32) (110 : Int32) (116 : Int32) (115 : Int32) M (109330362692723 : Int64) (by exact (by decide : f_m_w6 (99 : Int32) (111 : Int32) (117 : Int32) (110 : Int32) (116 : Int32) (115 : Int32) (fun _ _ => 0, fun _ _ => 0) = (109330362692723 : Int64)))) ?_
  refine am_Y.call0 (M' := am_M308) (as := [.ref 129, .long (109330362692723 : Int64)]) (rest := []) (d' := 0) rfl (by omega) rfl rfl (t_m_isWord (109330362692723 : Int64) M _ rfl) ?_
  refine am_Y.br (c := (f_m_isWord (109330362692723 : Int64) M) = (0 : Int32)) _ (t := 24) (u := 22) (lv' := [(0, .ref 129)]) (st' := []) (h' := hp M) rfl (fun hc => ?_) (fun hc => ?_)
  · replace h := (if_pos hc).symm.trans h
    refine am_Y.run (k := 4) (pc' := 31) (lv' := [(0, .ref 129)]) (st' := [.int (103 : Int32), .int (97 : Int32), .int (108 : Int32), .ref 129]) (h' := hp M) rfl ?_
    refine am_Y.call0 (M' := am_M309) (as := [.int (108 : Int32), .int (97 : Int32), .int (103 : Int32)]) (rest := [.ref 129]) (d' := 1) rfl (by omega) rfl rfl (t_m_w3 (108 : Int32) (97 : Int32) (103 : Int32) M (7102823 : Int64) (by exact (by decide : f_m_w3 (108 : Int32) (97 : Int32) (103 : Int32) (fun _ _ => 0, fun _ _ => 0) = (7102823 : Int64)))) ?_
    refine am_Y.call0 (M' := am_M308) (as := [.ref 129, .long (7102823 : Int64)]) (rest := []) (d' := 0) rfl (by omega) rfl rfl (t_m_isWord (7102823 : Int64) M _ rfl) ?_
    refine am_Y.br (c := (f_m_isWord (7102823 : Int64) M) = (0 : Int32)) _ (t := 42) (u := 40) (lv' := [(0, .ref 129)]) (st' := []) (h' := hp M) rfl (fun hc => ?_) (fun hc => ?_)
    · replace h := (if_pos hc).symm.trans h
      refine am_Y.run (k := 5) (pc' := 51) (lv' := [(0, .ref 129)]) (st' := [.int (115 : Int32), .int (101 : Int32), .int (105 : Int32), .int (100 : Int32), .ref 129]) (h' := hp M) rfl ?_
      refine am_Y.call0 (M' := am_M310) (as := [.int (100 : Int32), .int (105 : Int32), .int (101 : Int32), .int (115 : Int32)]) (rest := [.ref 129]) (d' := 2) rfl (by omega) rfl rfl (t_m_w4 (100 : Int32) (105 : Int32) (101 : Int32) (115 : Int32) M (1684628851 : Int64) (by exact (by decide : f_m_w4 (100 : Int32) (105 : Int32) (101 : Int32) (115 : Int32) (fun _ _ => 0, fun _ _ => 0) = (1684628851 : Int64)))) ?_
      refine am_Y.call0 (M' := am_M308) (as := [.ref 129, .long (1684628851 : Int64)]) (rest := []) (d' := 0) rfl (by omega) rfl rfl (t_m_isWord (1684628851 : Int64) M _ rfl) ?_
      refine am_Y.br (c := (f_m_isWord (1684628851 : Int64) M) = (0 : Int32)) _ (t := 62) (u := 60) (lv' := [(0, .ref 129)]) (st' := []) (h' := hp M) rfl (fun hc => ?_) (fun hc => ?_)
      · replace h := (if_pos hc).symm.trans h
        refine am_Y.run (k := 6) (pc' := 73) (lv' := [(0, .ref 129)]) (st' := [.int (116 : Int32), .int (115 : Int32), .int (101 : Int32), .int (117 : Int32), .int (103 : Int32), .ref 129]) (h' := hp M) rfl ?_
        refine am_Y.call0 (M' := am_M311) (as := [.int (103 : Int32), .int (117 : Int32), .int (101 : Int32), .int (115 : Int32), .int (116 : Int32)]) (rest := [.ref 129]) (d' := 3) rfl (by omega) rfl rfl (t_m_w5 (103 : Int32) (117 : Int32) (101 : Int32) (115 : Int32) (116 : Int32) M (444351214452 : Int64) (by exact (by decide : f_m_w5 (103 : Int32) (117 : Int32) (101 : Int32) (115 : Int32) (116 : Int32) (fun _ _ => 0, fun _ _ => 0) = (444351214452 : Int64)))) ?_
        refine am_Y.call0 (M' := am_M308) (as := [.ref 129, .long (444351214452 : Int64)]) (rest := []) (d' := 0) rfl (by omega) rfl rfl (t_m_isWord (444351214452 : Int64) M _ rfl) ?_
        refine am_Y.br (c := (f_m_isWord (444351214452 : Int64) M) = (0 : Int32)) _ (t := 84) (u := 82) (lv' := [(0, .ref 129)]) (st' := []) (h' := hp M) rfl (fun hc => ?_) (fun hc => ?_)
        · replace h := (if_pos hc).symm.trans h
          refine am_Y.run (k := 4) (pc' := 91) (lv' := [(0, .ref 129)]) (st' := [.int (121 : Int32), .int (97 : Int32), .int (115 : Int32), .ref 129]) (h' := hp M) rfl ?_
          refine am_Y.call0 (M' := am_M309) (as := [.int (115 : Int32), .int (97 : Int32), .int (121 : Int32)]) (rest := [.ref 129]) (d' := 1) rfl (by omega) rfl rfl (t_m_w3 (115 : Int32) (97 : Int32) (121 : Int32) M (7561593 : Int64) (by exact (by decide : f_m_w3 (115 : Int32) (97 : Int32) (121 : Int32) (fun _ _ => 0, fun _ _ => 0) = (7561593 : Int64)))) ?_
          refine am_Y.call0 (M' := am_M308) (as := [.ref 129, .long (7561593 : Int64)]) (rest := []) (d' := 0) rfl (by omega) rfl rfl (t_m_isWord (7561593 : Int64) M _ rfl) ?_
          refine am_Y.br (c := (f_m_isWord (7561593 : Int64) M) = (0 : Int32)) _ (t := 102) (u := 100) (lv' := [(0, .ref 129)]) (st' := []) (h' := hp M) rfl (fun hc => ?_) (fun hc => ?_)
          · replace h := (if_pos hc).symm.trans h
            refine am_Y.run (k := 3) (pc' := 107) (lv' := [(0, .ref 129)]) (st' := [.int (104 : Int32), .int (111 : Int32), .ref 129]) (h' := hp M) rfl ?_
            refine am_Y.call0 (M' := am_M312) (as := [.int (111 : Int32), .int (104 : Int32)]) (rest := [.ref 129]) (d' := 0) rfl (by omega) rfl rfl (t_m_w2 (111 : Int32) (104 : Int32) M (28520 : Int64) (by exact (by decide : f_m_w2 (111 : Int32) (104 : Int32) (fun _ _ => 0, fun _ _ => 0) = (28520 : Int64)))) ?_
            refine am_Y.call0 (M' := am_M308) (as := [.ref 129, .long (28520 : Int64)]) (rest := []) (d' := 0) rfl (by omega) rfl rfl (t_m_isWord (28520 : Int64) M _ rfl) ?_
            refine am_Y.br (c := (f_m_isWord (28520 : Int64) M) = (0 : Int32)) _ (t := 118) (u := 116) (lv' := [(0, .ref 129)]) (st' := []) (h' := hp M) rfl (fun hc => ?_) (fun hc => ?_)
            · replace h := (if_pos hc).symm.trans h
              refine am_Y.run (k := 6) (pc' := 129) (lv' := [(0, .ref 129)]) (st' := [.int (116 : Int32), .int (115 : Int32), .int (97 : Int32), .int (111 : Int32), .int (116 : Int32), .ref 129]) (h' := hp M) rfl ?_
              refine am_Y.call0 (M' := am_M311) (as := [.int (116 : Int32), .int (111 : Int32), .int (97 : Int32), .int (115 : Int32), .int (116 : Int32)]) (rest := [.ref 129]) (d' := 3) rfl (by omega) rfl rfl (t_m_w5 (116 : Int32) (111 : Int32) (97 : Int32) (115 : Int32) (116 : Int32) M (500084863860 : Int64) (by exact (by decide : f_m_w5 (116 : Int32) (111 : Int32) (97 : Int32) (115 : Int32) (116 : Int32) (fun _ _ => 0, fun _ _ => 0) = (500084863860 : Int64)))) ?_
              refine am_Y.call0 (M' := am_M308) (as := [.ref 129, .long (500084863860 : Int64)]) (rest := []) (d' := 0) rfl (by omega) rfl rfl (t_m_isWord (500084863860 : Int64) M _ rfl) ?_
              refine am_Y.br (c := (f_m_isWord (500084863860 : Int64) M) = (0 : Int32)) _ (t := 141) (u := 138) (lv' := [(0, .ref 129)]) (st' := []) (h' := hp M) rfl (fun hc => ?_) (fun hc => ?_)
              · replace h := (if_pos hc).symm.trans h
                refine am_Y.run (k := 4) (pc' := 148) (lv' := [(0, .ref 129)]) (st' := [.int (101 : Int32), .int (121 : Int32), .int (98 : Int32), .ref 129]) (h' := hp M) rfl ?_
                refine am_Y.call0 (M' := am_M309) (as := [.int (98 : Int32), .int (121 : Int32), .int (101 : Int32)]) (rest := [.ref 129]) (d' := 1) rfl (by omega) rfl rfl (t_m_w3 (98 : Int32) (121 : Int32) (101 : Int32) M (6453605 : Int64) (by exact (by decide : f_m_w3 (98 : Int32) (121 : Int32) (101 : Int32) (fun _ _ => 0, fun _ _ => 0) = (6453605 : Int64)))) ?_
                refine am_Y.call0 (M' := am_M308) (as := [.ref 129, .long (6453605 : Int64)]) (rest := []) (d' := 0) rfl (by omega) rfl rfl (t_m_isWord (6453605 : Int64) M _ rfl) ?_
                refine am_Y.br (c := (f_m_isWord (6453605 : Int64) M) = (0 : Int32)) _ (t := 160) (u := 157) (lv' := [(0, .ref 129)]) (st' := []) (h' := hp M) rfl (fun hc => ?_) (fun hc => ?_)
                · replace h := (if_pos hc).symm.trans h
                  refine am_Y.run (k := 4) (pc' := 167) (lv' := [(0, .ref 129)]) (st' := [.int (107 : Int32), .int (115 : Int32), .int (97 : Int32), .ref 129]) (h' := hp M) rfl ?_
                  refine am_Y.call0 (M' := am_M309) (as := [.int (97 : Int32), .int (115 : Int32), .int (107 : Int32)]) (rest := [.ref 129]) (d' := 1) rfl (by omega) rfl rfl (t_m_w3 (97 : Int32) (115 : Int32) (107 : Int32) M (6386539 : Int64) (by exact (by decide : f_m_w3 (97 : Int32) (115 : Int32) (107 : Int32) (fun _ _ => 0, fun _ _ => 0) = (6386539 : Int64)))) ?_
                  refine am_Y.call0 (M' := am_M308) (as := [.ref 129, .long (6386539 : Int64)]) (rest := []) (d' := 0) rfl (by omega) rfl rfl (t_m_isWord (6386539 : Int64) M _ rfl) ?_
                  refine am_Y.br (c := (f_m_isWord (6386539 : Int64) M) = (0 : Int32)) _ (t := 179) (u := 176) (lv' := [(0, .ref 129)]) (st' := []) (h' := hp M) rfl (fun hc => ?_) (fun hc => ?_)
                  · replace h := (if_pos hc).symm.trans h
                    refine am_Y.run (k := 5) (pc' := 188) (lv' := [(0, .ref 129)]) (st' := [.int (115 : Int32), .int (115 : Int32), .int (97 : Int32), .int (112 : Int32), .ref 129]) (h' := hp M) rfl ?_
                    refine am_Y.call0 (M' := am_M310) (as := [.int (112 : Int32), .int (97 : Int32), .int (115 : Int32), .int (115 : Int32)]) (rest := [.ref 129]) (d' := 2) rfl (by omega) rfl rfl (t_m_w4 (112 : Int32) (97 : Int32) (115 : Int32) (115 : Int32) M (1885434739 : Int64) (by exact (by decide : f_m_w4 (112 : Int32) (97 : Int32) (115 : Int32) (115 : Int32) (fun _ _ => 0, fun _ _ => 0) = (1885434739 : Int64)))) ?_
                    refine am_Y.call0 (M' := am_M308) (as := [.ref 129, .long (1885434739 : Int64)]) (rest := []) (d' := 0) rfl (by omega) rfl rfl (t_m_isWord (1885434739 : Int64) M _ rfl) ?_
                    refine am_Y.br (c := (f_m_isWord (1885434739 : Int64) M) = (0 : Int32)) _ (t := 200) (u := 197) (lv' := [(0, .ref 129)]) (st' := []) (h' := hp M) rfl (fun hc => ?_) (fun hc => ?_)
                    · replace h := (if_pos hc).symm.trans h
                      refine am_Y.run (k := 5) (pc' := 209) (lv' := [(0, .ref 129)]) (st' := [.int (100 : Int32), .int (110 : Int32), .int (101 : Int32), .int (115 : Int32), .ref 129]) (h' := hp M) rfl ?_
                      refine am_Y.call0 (M' := am_M310) (as := [.int (115 : Int32), .int (101 : Int32), .int (110 : Int32), .int (100 : Int32)]) (rest := [.ref 129]) (d' := 2) rfl (by omega) rfl rfl (t_m_w4 (115 : Int32) (101 : Int32) (110 : Int32) (100 : Int32) M (1936027236 : Int64) (by exact (by decide : f_m_w4 (115 : Int32) (101 : Int32) (110 : Int32) (100 : Int32) (fun _ _ => 0, fun _ _ => 0) = (1936027236 : Int64)))) ?_
                      refine am_Y.call0 (M' := am_M308) (as := [.ref 129, .long (1936027236 : Int64)]) (rest := []) (d' := 0) rfl (by omega) rfl rfl (t_m_isWord (1936027236 : Int64) M _ rfl) ?_
                      refine am_Y.br (c := (f_m_isWord (1936027236 : Int64) M) = (0 : Int32)) _ (t := 223) (u := 218) (lv' := [(0, .ref 129)]) (st' := []) (h' := hp M) rfl (fun hc => ?_) (fun hc => ?_)
                      · replace h := (if_pos hc).symm.trans h
                        refine am_Y.run (k := 7) (pc' := 236) (lv' := [(0, .ref 129)]) (st' := [.int (114 : Int32), .int (101 : Int32), .int (110 : Int32), .int (110 : Int32), .int (105 : Int32), .int (100 : Int32), .ref 129]) (h' := hp M) rfl ?_
                        refine am_Y.call0 (M' := am_M307) (as := [.int (100 : Int32), .int (105 : Int32), .int (110 : Int32), .int (110 : Int32), .int (101 : Int32), .int (114 : Int32)]) (rest := [.ref 129]) (d' := 4) rfl (by omega) rfl rfl (t_m_w6 (100 : Int32) (105 : Int32) (110 : Int32) (110 : Int32) (101 : Int32) (114 : Int32) M (110403987072370 : Int64) (by exact (by decide : f_m_w6 (100 : Int32) (105 : Int32) (110 : Int32) (110 : Int32) (101 : Int32) (114 : Int32) (fun _ _ => 0, fun _ _ => 0) = (110403987072370 : Int64)))) ?_
                        refine am_Y.call0 (M' := am_M308) (as := [.ref 129, .long (110403987072370 : Int64)]) (rest := []) (d' := 0) rfl (by omega) rfl rfl (t_m_isWord (110403987072370 : Int64) M _ rfl) ?_
                        refine am_Y.br (c := (f_m_isWord (110403987072370 : Int64) M) = (0 : Int32)) _ (t := 250) (u := 245) (lv' := [(0, .ref 129)]) (st' := []) (h' := hp M) rfl (fun hc => ?_) (fun hc => ?_)
                        · replace h := (if_pos hc).symm.trans h
                          refine am_Y.run (k := 1) (pc' := 251) (lv' := [(0, .ref 129)]) (st' := [.int (-1 : Int32)]) (h' := hp M) rfl ?_
                          subst h
                          exact am_Y.ret rfl
                        · replace h := (if_neg hc).symm.trans h
                          refine am_Y.run (k := 2) (pc' := 251) (lv' := [(0, .ref 129)]) (st' := [.int (11 : Int32)]) (h' := hp M) rfl ?_
                          subst h
                          exact am_Y.ret rfl
                      · replace h := (if_neg hc).symm.trans h
                        refine am_Y.run (k := 2) (pc' := 251) (lv' := [(0, .ref 129)]) (st' := [.int (10 : Int32)]) (h' := hp M) rfl ?_
                        subst h
                        exact am_Y.ret rfl
                    · replace h := (if_neg hc).symm.trans h
                      refine am_Y.run (k := 1) (pc' := 199) (lv' := [(0, .ref 129)]) (st' := [.int (9 : Int32)]) (h' := hp M) rfl ?_
                      subst h
                      exact am_Y.ret rfl
                  · replace h := (if_neg hc).symm.trans h
                    refine am_Y.run (k := 1) (pc' := 178) (lv' := [(0, .ref 129)]) (st' := [.int (8 : Int32)]) (h' := hp M) rfl ?_
                    subst h
                    exact am_Y.ret rfl
                · replace h := (if_neg hc).symm.trans h
                  refine am_Y.run (k := 1) (pc' := 159) (lv' := [(0, .ref 129)]) (st' := [.int (7 : Int32)]) (h' := hp M) rfl ?_
                  subst h
                  exact am_Y.ret rfl
              · replace h := (if_neg hc).symm.trans h
                refine am_Y.run (k := 1) (pc' := 140) (lv' := [(0, .ref 129)]) (st' := [.int (6 : Int32)]) (h' := hp M) rfl ?_
                subst h
                exact am_Y.ret rfl
            · replace h := (if_neg hc).symm.trans h
              refine am_Y.run (k := 1) (pc' := 117) (lv' := [(0, .ref 129)]) (st' := [.int (5 : Int32)]) (h' := hp M) rfl ?_
              subst h
              exact am_Y.ret rfl
          · replace h := (if_neg hc).symm.trans h
            refine am_Y.run (k := 1) (pc' := 101) (lv' := [(0, .ref 129)]) (st' := [.int (4 : Int32)]) (h' := hp M) rfl ?_
            subst h
            exact am_Y.ret rfl
        · replace h := (if_neg hc).symm.trans h
          refine am_Y.run (k := 1) (pc' := 83) (lv' := [(0, .ref 129)]) (st' := [.int (3 : Int32)]) (h' := hp M) rfl ?_
          subst h
          exact am_Y.ret rfl
      · replace h := (if_neg hc).symm.trans h
        refine am_Y.run (k := 1) (pc' := 61) (lv' := [(0, .ref 129)]) (st' := [.int (2 : Int32)]) (h' := hp M) rfl ?_
        subst h
        exact am_Y.ret rfl
    · replace h := (if_neg hc).symm.trans h
      refine am_Y.run (k := 1) (pc' := 41) (lv' := [(0, .ref 129)]) (st' := [.int (1 : Int32)]) (h' := hp M) rfl ?_
      subst h
      exact am_Y.ret rfl
  · replace h := (if_neg hc).symm.trans h
    refine am_Y.run (k := 1) (pc' := 23) (lv' := [(0, .ref 129)]) (st' := [.int (0 : Int32)]) (h' := hp M) rfl ?_
    subst h
    exact am_Y.ret rfl
