/-! AM does what the functions say. -/
set_option maxRecDepth 100000 in
theorem t_w_unsaid {S : Nat × (Nat → Int32)} (N : Nat) (x1 : Int32) (M : Mem) (r : Int32) (h : f_w_unsaid N x1 M = some r) : am_Y S 2 0 0 am_M72 0 [(0, .ref 5), (1, .int x1)] [] (hp M) (some (.int r)) (hp M) := by
  rw [f_w_unsaid] at h
  refine am_Y.run (k := 4) (pc' := 8) (lv' := [(0, .ref 5), (1, .int x1)]) (st' := [.int x1, .ref 7]) (h' := hp M) rfl ?_
  refine am_Y.call0 (M' := am_M140) (as := [.ref 7, .int x1]) (rest := []) (d' := 1) rfl (by omega) rfl rfl (t_g_knows x1 M _ rfl) ?_
  refine am_Y.br (c := (f_g_knows x1 M) = (0 : Int32)) _ (t := 28) (u := 14) (lv' := [(0, .ref 5), (1, .int x1)]) (st' := []) (h' := hp M) rfl (fun hc => ?_) (fun hc => ?_)
  · replace h := (if_pos hc).symm.trans h
    refine am_Y.run (k := 1) (pc' := 29) (lv' := [(0, .ref 5), (1, .int x1)]) (st' := [.int (-1 : Int32)]) (h' := hp M) rfl ?_
    obtain rfl := Option.some.inj h
    exact am_Y.ret rfl
  · replace h := (if_neg hc).symm.trans h
    refine am_Y.run (k := 4) (pc' := 22) (lv' := [(0, .ref 5), (1, .int x1)]) (st' := [.int x1, .ref 11]) (h' := hp M) rfl ?_
    obtain ⟨q1, e_q1, h⟩ := Option.bind_eq_some_iff.mp h
    refine am_Y.call0 (M' := am_M206) (as := [.ref 11, .int x1]) (rest := []) (d' := 1) rfl (by omega) rfl rfl (t_e_inTheWayOf N x1 M q1 e_q1) ?_
    refine am_Y.run (k := 1) (pc' := 29) (lv' := [(0, .ref 5), (1, .int x1)]) (st' := [.int q1]) (h' := hp M) rfl ?_
    obtain rfl := Option.some.inj h
    exact am_Y.ret rfl
set_option maxRecDepth 100000 in
theorem t_m_unsaid_67 {S : Nat × (Nat → Int32)} (N : Nat) : ∀ (n : Nat) (x1 : Int32) (x2 : Int32) (x3 : Int32) (x4 : Int32) (M : Mem) (r : Int32), f_m_unsaid_67 N n x1 x2 x3 x4 M = some r → am_Y S 2 0 0 am_M73 67 [(0, .ref 129), (1, .int x1), (2, .int x2), (3, .int x3), (4, .int x4)] [] (hp M) (some (.int r)) (hp M) := by
  intro n
  induction n with
  | zero =>
    intro x1 x2 x3 x4 M r h
    cases h
  | succ n ih =>
    intro x1 x2 x3 x4 M r h
    rw [f_m_unsaid_67] at h
    refine am_Y.run (k := 5) (pc' := 76) (lv' := [(0, .ref 129), (1, .int x1), (2, .int x2), (3, .int x3), (4, .int x4)]) (st' := [.int (gi M 130 8), .int x4]) (h' := hp M) rfl ?_
    refine am_Y.br (c := (gi M 130 8) ≤ x4) _ (t := 134) (u := 79) (lv' := [(0, .ref 129), (1, .int x1), (2, .int x2), (3, .int x3), (4, .int x4)]) (st' := []) (h' := hp M) rfl (fun hc => ?_) (fun hc => ?_)
    · replace h := (if_pos hc).symm.trans h
      refine am_Y.run (k := 1) (pc' := 135) (lv' := [(0, .ref 129), (1, .int x1), (2, .int x2), (3, .int x3), (4, .int x4)]) (st' := [.int x3]) (h' := hp M) rfl ?_
      obtain rfl := Option.some.inj h
      exact am_Y.ret rfl
    · replace h := (if_neg hc).symm.trans h
      refine am_Y.run (k := 3) (pc' := 83) (lv' := [(0, .ref 129), (1, .int x1), (2, .int x2), (3, .int x3), (4, .int x4)]) (st' := [.int x4, .ref 129, .int x3]) (h' := hp M) rfl ?_
      obtain ⟨q4, e_q4, h⟩ := Option.bind_eq_some_iff.mp h
      refine am_Y.call0 (M' := am_M160) (as := [.ref 129, .int x4]) (rest := [.int x3]) (d' := 0) rfl (by omega) rfl rfl (t_m_fallsOf x4 M q4 e_q4) ?_
      refine am_Y.run (k := 1) (pc' := 87) (lv' := [(0, .ref 129), (1, .int x1), (2, .int x2), (3, .int x3), (4, .int x4)]) (st' := [.int x2, .int q4, .int x3]) (h' := hp M) rfl ?_
      refine am_Y.br (c := x2 < q4) _ (t := 121) (u := 90) (lv' := [(0, .ref 129), (1, .int x1), (2, .int x2), (3, .int x3), (4, .int x4)]) (st' := [.int x3]) (h' := hp M) rfl (fun hc => ?_) (fun hc => ?_)
      · replace h := (if_pos hc).symm.trans h
        refine am_Y.run (k := 6) (pc' := 67) (lv' := [(4, .int (x4 + (1 : Int32))), (3, .int (x3 + (1 : Int32))), (0, .ref 129), (1, .int x1), (2, .int x2)]) (st' := []) (h' := hp M) rfl ?_
        refine am_Y.weak (lv2 := [(0, .ref 129), (1, .int x1), (2, .int x2), (3, .int (x3 + (1 : Int32))), (4, .int (x4 + (1 : Int32)))]) rfl rfl ⟨rfl, rfl, rfl, rfl, rfl, trivial⟩ ?_
        exact ih x1 x2 (x3 + (1 : Int32)) (x4 + (1 : Int32)) M _ h
      · replace h := (if_neg hc).symm.trans h
        refine am_Y.run (k := 2) (pc' := 93) (lv' := [(0, .ref 129), (1, .int x1), (2, .int x2), (3, .int x3), (4, .int x4)]) (st' := [.int x4, .ref 129, .int x3]) (h' := hp M) rfl ?_
        obtain ⟨q5, e_q5, h⟩ := Option.bind_eq_some_iff.mp h
        refine am_Y.call0 (M' := am_M160) (as := [.ref 129, .int x4]) (rest := [.int x3]) (d' := 0) rfl (by omega) rfl rfl (t_m_fallsOf x4 M q5 e_q5) ?_
        refine am_Y.run (k := 1) (pc' := 97) (lv' := [(0, .ref 129), (1, .int x1), (2, .int x2), (3, .int x3), (4, .int x4)]) (st' := [.int x2, .int q5, .int x3]) (h' := hp M) rfl ?_
        refine am_Y.br (c := q5 = x2) _ (t := 100) (u := 125) (lv' := [(0, .ref 129), (1, .int x1), (2, .int x2), (3, .int x3), (4, .int x4)]) (st' := [.int x3]) (h' := hp M) rfl (fun hc => ?_) (fun hc => ?_)
        · replace h := (if_pos hc).symm.trans h
          refine am_Y.run (k := 2) (pc' := 103) (lv' := [(0, .ref 129), (1, .int x1), (2, .int x2), (3, .int x3), (4, .int x4)]) (st' := [.int x4, .ref 129, .int x3]) (h' := hp M) rfl ?_
          obtain ⟨q6, e_q6, h⟩ := Option.bind_eq_some_iff.mp h
          refine am_Y.call0 (M' := am_M158) (as := [.ref 129, .int x4]) (rest := [.int x3]) (d' := 0) rfl (by omega) rfl rfl (t_m_whoOf x4 M q6 e_q6) ?_
          refine am_Y.run (k := 1) (pc' := 107) (lv' := [(0, .ref 129), (1, .int x1), (2, .int x2), (3, .int x3), (4, .int x4)]) (st' := [.int x1, .int q6, .int x3]) (h' := hp M) rfl ?_
          refine am_Y.br (c := q6 = x1) _ (t := 125) (u := 110) (lv' := [(0, .ref 129), (1, .int x1), (2, .int x2), (3, .int x3), (4, .int x4)]) (st' := [.int x3]) (h' := hp M) rfl (fun hc => ?_) (fun hc => ?_)
          · replace h := (if_pos hc).symm.trans h
            refine am_Y.run (k := 5) (pc' := 67) (lv' := [(4, .int (x4 + (1 : Int32))), (3, .int (x3 + (0 : Int32))), (0, .ref 129), (1, .int x1), (2, .int x2)]) (st' := []) (h' := hp M) rfl ?_
            refine am_Y.weak (lv2 := [(0, .ref 129), (1, .int x1), (2, .int x2), (3, .int (x3 + (0 : Int32))), (4, .int (x4 + (1 : Int32)))]) rfl rfl ⟨rfl, rfl, rfl, rfl, rfl, trivial⟩ ?_
            exact ih x1 x2 (x3 + (0 : Int32)) (x4 + (1 : Int32)) M _ h
          · replace h := (if_neg hc).symm.trans h
            refine am_Y.run (k := 2) (pc' := 113) (lv' := [(0, .ref 129), (1, .int x1), (2, .int x2), (3, .int x3), (4, .int x4)]) (st' := [.int x4, .ref 129, .int x3]) (h' := hp M) rfl ?_
            obtain ⟨q7, e_q7, h⟩ := Option.bind_eq_some_iff.mp h
            refine am_Y.call0 (M' := am_M158) (as := [.ref 129, .int x4]) (rest := [.int x3]) (d' := 0) rfl (by omega) rfl rfl (t_m_whoOf x4 M q7 e_q7) ?_
            refine am_Y.run (k := 1) (pc' := 118) (lv' := [(0, .ref 129), (1, .int x1), (2, .int x2), (3, .int x3), (4, .int x4)]) (st' := [.int (8 : Int32), .int q7, .int x3]) (h' := hp M) rfl ?_
            refine am_Y.br (c := q7 = (8 : Int32)) _ (t := 125) (u := 121) (lv' := [(0, .ref 129), (1, .int x1), (2, .int x2), (3, .int x3), (4, .int x4)]) (st' := [.int x3]) (h' := hp M) rfl (fun hc => ?_) (fun hc => ?_)
            · replace h := (if_pos hc).symm.trans h
              refine am_Y.run (k := 5) (pc' := 67) (lv' := [(4, .int (x4 + (1 : Int32))), (3, .int (x3 + (0 : Int32))), (0, .ref 129), (1, .int x1), (2, .int x2)]) (st' := []) (h' := hp M) rfl ?_
              refine am_Y.weak (lv2 := [(0, .ref 129), (1, .int x1), (2, .int x2), (3, .int (x3 + (0 : Int32))), (4, .int (x4 + (1 : Int32)))]) rfl rfl ⟨rfl, rfl, rfl, rfl, rfl, trivial⟩ ?_
              exact ih x1 x2 (x3 + (0 : Int32)) (x4 + (1 : Int32)) M _ h
            · replace h := (if_neg hc).symm.trans h
              refine am_Y.run (k := 6) (pc' := 67) (lv' := [(4, .int (x4 + (1 : Int32))), (3, .int (x3 + (1 : Int32))), (0, .ref 129), (1, .int x1), (2, .int x2)]) (st' := []) (h' := hp M) rfl ?_
              refine am_Y.weak (lv2 := [(0, .ref 129), (1, .int x1), (2, .int x2), (3, .int (x3 + (1 : Int32))), (4, .int (x4 + (1 : Int32)))]) rfl rfl ⟨rfl, rfl, rfl, rfl, rfl, trivial⟩ ?_
              exact ih x1 x2 (x3 + (1 : Int32)) (x4 + (1 : Int32)) M _ h
        · replace h := (if_neg hc).symm.trans h
          refine am_Y.run (k := 5) (pc' := 67) (lv' := [(4, .int (x4 + (1 : Int32))), (3, .int (x3 + (0 : Int32))), (0, .ref 129), (1, .int x1), (2, .int x2)]) (st' := []) (h' := hp M) rfl ?_
          refine am_Y.weak (lv2 := [(0, .ref 129), (1, .int x1), (2, .int x2), (3, .int (x3 + (0 : Int32))), (4, .int (x4 + (1 : Int32)))]) rfl rfl ⟨rfl, rfl, rfl, rfl, rfl, trivial⟩ ?_
          exact ih x1 x2 (x3 + (0 : Int32)) (x4 + (1 : Int32)) M _ h
set_option maxRecDepth 100000 in
theorem t_m_unsaid_14 {S : Nat × (Nat → Int32)} (N : Nat) : ∀ (n : Nat) (x1 : Int32) (x2 : Int32) (x3 : Int32) (M : Mem) (r : Int32), f_m_unsaid_14 N n x1 x2 x3 M = some r → am_Y S 2 0 0 am_M73 14 [(0, .ref 129), (1, .int x1), (2, .int x2), (3, .int x3)] [] (hp M) (some (.int r)) (hp M) := by
  intro n
  induction n with
  | zero =>
    intro x1 x2 x3 M r h
    cases h
  | succ n ih =>
    intro x1 x2 x3 M r h
    rw [f_m_unsaid_14] at h
    refine am_Y.run (k := 5) (pc' := 22) (lv' := [(0, .ref 129), (1, .int x1), (2, .int x2), (3, .int x3)]) (st' := [.int (gi M 130 8), .int x3]) (h' := hp M) rfl ?_
    refine am_Y.br (c := (gi M 130 8) ≤ x3) _ (t := 55) (u := 25) (lv' := [(0, .ref 129), (1, .int x1), (2, .int x2), (3, .int x3)]) (st' := []) (h' := hp M) rfl (fun hc => ?_) (fun hc => ?_)
    · replace h := (if_pos hc).symm.trans h
      refine am_Y.run (k := 2) (pc' := 57) (lv' := [(0, .ref 129), (1, .int x1), (2, .int x2), (3, .int x3)]) (st' := [.int (-1 : Int32), .int x2]) (h' := hp M) rfl ?_
      refine am_Y.br (c := x2 = (-1 : Int32)) _ (t := 60) (u := 62) (lv' := [(0, .ref 129), (1, .int x1), (2, .int x2), (3, .int x3)]) (st' := []) (h' := hp M) rfl (fun hc => ?_) (fun hc => ?_)
      · replace h := (if_pos hc).symm.trans h
        refine am_Y.run (k := 1) (pc' := 61) (lv' := [(0, .ref 129), (1, .int x1), (2, .int x2), (3, .int x3)]) (st' := [.int (-1 : Int32)]) (h' := hp M) rfl ?_
        obtain rfl := Option.some.inj h
        exact am_Y.ret rfl
      · replace h := (if_neg hc).symm.trans h
        refine am_Y.run (k := 4) (pc' := 67) (lv' := [(4, .int (0 : Int32)), (3, .int (0 : Int32)), (0, .ref 129), (1, .int x1), (2, .int x2)]) (st' := []) (h' := hp M) rfl ?_
        refine am_Y.weak (lv2 := [(0, .ref 129), (1, .int x1), (2, .int x2), (3, .int (0 : Int32)), (4, .int (0 : Int32))]) rfl rfl ⟨rfl, rfl, rfl, rfl, rfl, trivial⟩ ?_
        exact t_m_unsaid_67 N N x1 x2 (0 : Int32) (0 : Int32) M _ h
    · replace h := (if_neg hc).symm.trans h
      refine am_Y.run (k := 2) (pc' := 27) (lv' := [(0, .ref 129), (1, .int x1), (2, .int x2), (3, .int x3)]) (st' := [.int x3, .ref 129]) (h' := hp M) rfl ?_
      obtain ⟨q1, e_q1, h⟩ := Option.bind_eq_some_iff.mp h
      refine am_Y.call0 (M' := am_M158) (as := [.ref 129, .int x3]) (rest := []) (d' := 0) rfl (by omega) rfl rfl (t_m_whoOf x3 M q1 e_q1) ?_
      refine am_Y.run (k := 1) (pc' := 31) (lv' := [(0, .ref 129), (1, .int x1), (2, .int x2), (3, .int x3)]) (st' := [.int x1, .int q1]) (h' := hp M) rfl ?_
      refine am_Y.br (c := q1 = x1) _ (t := 34) (u := 49) (lv' := [(0, .ref 129), (1, .int x1), (2, .int x2), (3, .int x3)]) (st' := []) (h' := hp M) rfl (fun hc => ?_) (fun hc => ?_)
      · replace h := (if_pos hc).symm.trans h
        refine am_Y.run (k := 2) (pc' := 36) (lv' := [(0, .ref 129), (1, .int x1), (2, .int x2), (3, .int x3)]) (st' := [.int x3, .ref 129]) (h' := hp M) rfl ?_
        obtain ⟨q2, e_q2, h⟩ := Option.bind_eq_some_iff.mp h
        refine am_Y.call0 (M' := am_M160) (as := [.ref 129, .int x3]) (rest := []) (d' := 0) rfl (by omega) rfl rfl (t_m_fallsOf x3 M q2 e_q2) ?_
        refine am_Y.run (k := 1) (pc' := 40) (lv' := [(0, .ref 129), (1, .int x1), (2, .int x2), (3, .int x3)]) (st' := [.int x2, .int q2]) (h' := hp M) rfl ?_
        refine am_Y.br (c := q2 ≤ x2) _ (t := 49) (u := 43) (lv' := [(0, .ref 129), (1, .int x1), (2, .int x2), (3, .int x3)]) (st' := []) (h' := hp M) rfl (fun hc => ?_) (fun hc => ?_)
        · replace h := (if_pos hc).symm.trans h
          refine am_Y.run (k := 2) (pc' := 14) (lv' := [(3, .int (x3 + (1 : Int32))), (0, .ref 129), (1, .int x1), (2, .int x2)]) (st' := []) (h' := hp M) rfl ?_
          refine am_Y.weak (lv2 := [(0, .ref 129), (1, .int x1), (2, .int x2), (3, .int (x3 + (1 : Int32)))]) rfl rfl ⟨rfl, rfl, rfl, rfl, trivial⟩ ?_
          exact ih x1 x2 (x3 + (1 : Int32)) M _ h
        · replace h := (if_neg hc).symm.trans h
          refine am_Y.run (k := 2) (pc' := 45) (lv' := [(0, .ref 129), (1, .int x1), (2, .int x2), (3, .int x3)]) (st' := [.int x3, .ref 129]) (h' := hp M) rfl ?_
          obtain ⟨q3, e_q3, h⟩ := Option.bind_eq_some_iff.mp h
          refine am_Y.call0 (M' := am_M160) (as := [.ref 129, .int x3]) (rest := []) (d' := 0) rfl (by omega) rfl rfl (t_m_fallsOf x3 M q3 e_q3) ?_
          refine am_Y.run (k := 3) (pc' := 14) (lv' := [(3, .int (x3 + (1 : Int32))), (2, .int q3), (0, .ref 129), (1, .int x1)]) (st' := []) (h' := hp M) rfl ?_
          refine am_Y.weak (lv2 := [(0, .ref 129), (1, .int x1), (2, .int q3), (3, .int (x3 + (1 : Int32)))]) rfl rfl ⟨rfl, rfl, rfl, rfl, trivial⟩ ?_
          exact ih x1 q3 (x3 + (1 : Int32)) M _ h
      · replace h := (if_neg hc).symm.trans h
        refine am_Y.run (k := 2) (pc' := 14) (lv' := [(3, .int (x3 + (1 : Int32))), (0, .ref 129), (1, .int x1), (2, .int x2)]) (st' := []) (h' := hp M) rfl ?_
        refine am_Y.weak (lv2 := [(0, .ref 129), (1, .int x1), (2, .int x2), (3, .int (x3 + (1 : Int32)))]) rfl rfl ⟨rfl, rfl, rfl, rfl, trivial⟩ ?_
        exact ih x1 x2 (x3 + (1 : Int32)) M _ h
set_option maxRecDepth 100000 in
theorem t_m_unsaid {S : Nat × (Nat → Int32)} (N : Nat) (x1 : Int32) (M : Mem) (r : Int32) (h : f_m_unsaid N x1 M = some r) : am_Y S 2 0 0 am_M73 0 [(0, .ref 129), (1, .int x1)] [] (hp M) (some (.int r)) (hp M) := by
  rw [f_m_unsaid] at h
  refine am_Y.run (k := 2) (pc' := 2) (lv' := [(0, .ref 129), (1, .int x1)]) (st' := [.int x1, .ref 129]) (h' := hp M) rfl ?_
  refine am_Y.call0 (M' := am_M115) (as := [.ref 129, .int x1]) (rest := []) (d' := 1) rfl (by omega) rfl rfl (t_m_isGuest x1 M _ rfl) ?_
  refine am_Y.br (c := (f_m_isGuest x1 M) = (0 : Int32)) _ (t := 8) (u := 10) (lv' := [(0, .ref 129), (1, .int x1)]) (st' := []) (h' := hp M) rfl (fun hc => ?_) (fun hc => ?_)
  · replace h := (if_pos hc).symm.trans h
    refine am_Y.run (k := 1) (pc' := 9) (lv' := [(0, .ref 129), (1, .int x1)]) (st' := [.int (-1 : Int32)]) (h' := hp M) rfl ?_
    obtain rfl := Option.some.inj h
    exact am_Y.ret rfl
  · replace h := (if_neg hc).symm.trans h
    refine am_Y.run (k := 4) (pc' := 14) (lv' := [(3, .int (0 : Int32)), (2, .int (-1 : Int32)), (0, .ref 129), (1, .int x1)]) (st' := []) (h' := hp M) rfl ?_
    refine am_Y.weak (lv2 := [(0, .ref 129), (1, .int x1), (2, .int (-1 : Int32)), (3, .int (0 : Int32))]) rfl rfl ⟨rfl, rfl, rfl, rfl, trivial⟩ ?_
    exact t_m_unsaid_14 N N x1 (-1 : Int32) (0 : Int32) M _ h
set_option maxRecDepth 100000 in
theorem t_w_nextToast {S : Nat × (Nat → Int32)} (N : Nat) (M : Mem) (r : Int32) (M' : Mem) (h : f_w_nextToast N M = some (r, M')) : am_Y S 4 0 0 am_M74 0 [(0, .ref 5)] [] (hp M) (some (.int r)) (hp M') := by
  rw [f_w_nextToast] at h
  refine am_Y.run (k := 1) (pc' := 1) (lv' := [(0, .ref 5)]) (st' := [.ref 5]) (h' := hp M) rfl ?_
  obtain ⟨q1, e_q1, h⟩ := Option.bind_eq_some_iff.mp h
  refine am_Y.call0 (M' := am_M198) (as := [.ref 5]) (rest := []) (d' := 2) rfl (by omega) rfl rfl (t_w_countToasts N M q1 e_q1) ?_
  refine am_Y.run (k := 1) (pc' := 5) (lv' := [(0, .ref 5)]) (st' := [.ref 5]) (h' := hp q1) rfl ?_
  obtain ⟨q2, e_q2, h⟩ := Option.bind_eq_some_iff.mp h
  refine am_Y.call0 (M' := am_M199) (as := [.ref 5]) (rest := []) (d' := 3) rfl (by omega) rfl rfl (t_w_nextByToasts N q1 q2 e_q2) ?_
  obtain ⟨rfl, rfl⟩ := Prod.mk.inj (Option.some.inj h)
  exact am_Y.ret rfl
set_option maxRecDepth 100000 in
theorem t_m_nextToast {S : Nat × (Nat → Int32)} (N : Nat) (M : Mem) (r : Int32) (M' : Mem) (h : f_m_nextToast N M = some (r, M')) : am_Y S 3 0 0 am_M75 0 [(0, .ref 129)] [] (hp M) (some (.int r)) (hp M') := by
  rw [f_m_nextToast] at h
  refine am_Y.run (k := 1) (pc' := 1) (lv' := [(0, .ref 129)]) (st' := [.ref 129]) (h' := hp M) rfl ?_
  obtain ⟨q1, e_q1, h⟩ := Option.bind_eq_some_iff.mp h
  refine am_Y.call0 (M' := am_M201) (as := [.ref 129]) (rest := []) (d' := 1) rfl (by omega) rfl rfl (t_m_layToasts N M q1 e_q1) ?_
  refine am_Y.run (k := 1) (pc' := 5) (lv' := [(0, .ref 129)]) (st' := [.ref 129]) (h' := hp q1) rfl ?_
  obtain ⟨q2, e_q2, h⟩ := Option.bind_eq_some_iff.mp h
  refine am_Y.call0 (M' := am_M202) (as := [.ref 129]) (rest := []) (d' := 2) rfl (by omega) rfl rfl (t_m_nextBy N q1 q2 e_q2) ?_
  obtain ⟨rfl, rfl⟩ := Prod.mk.inj (Option.some.inj h)
  exact am_Y.ret rfl
set_option maxRecDepth 100000 in
theorem t_w_odds {S : Nat × (Nat → Int32)} (x1 : Int32) (x2 : Int32) (x3 : Int32) (M : Mem) (r : Int32) (M' : Mem) (h : f_w_odds x1 x2 x3 M = some (r, M')) : am_Y S 1 0 0 am_M76 0 [(0, .ref 5), (1, .int x1), (2, .int x2), (3, .int x3)] [] (hp M) (some (.int r)) (hp M') := by
  rw [f_w_odds] at h
  refine am_Y.run (k := 3) (pc' := 3) (lv' := [(0, .ref 5), (1, .int x1), (2, .int x2), (3, .int x3)]) (st' := [.int (1 : Int32), .int (0 : Int32), .int x1]) (h' := hp M) rfl ?_
  refine am_Y.call0 (M' := am_M102) (as := [.int x1, .int (0 : Int32), .int (1 : Int32)]) (rest := []) (d' := 0) rfl (by omega) rfl rfl (t_w_within x1 (0 : Int32) (1 : Int32) M _ rfl) ?_
  refine am_Y.br (c := (f_w_within x1 (0 : Int32) (1 : Int32) M) = (0 : Int32)) _ (t := 28) (u := 9) (lv' := [(0, .ref 5), (1, .int x1), (2, .int x2), (3, .int x3)]) (st' := []) (h' := hp M) rfl (fun hc => ?_) (fun hc => ?_)
  · replace h := (if_pos hc).symm.trans h
    refine am_Y.run (k := 1) (pc' := 29) (lv' := [(0, .ref 5), (1, .int x1), (2, .int x2), (3, .int x3)]) (st' := [.int (0 : Int32)]) (h' := hp M) rfl ?_
    obtain ⟨rfl, rfl⟩ := Prod.mk.inj (Option.some.inj h)
    exact am_Y.ret rfl
  · replace h := (if_neg hc).symm.trans h
    refine am_Y.run (k := 3) (pc' := 12) (lv' := [(0, .ref 5), (1, .int x1), (2, .int x2), (3, .int x3)]) (st' := [.int (5 : Int32), .int (0 : Int32), .int x2]) (h' := hp M) rfl ?_
    refine am_Y.call0 (M' := am_M102) (as := [.int x2, .int (0 : Int32), .int (5 : Int32)]) (rest := []) (d' := 0) rfl (by omega) rfl rfl (t_w_within x2 (0 : Int32) (5 : Int32) M _ rfl) ?_
    refine am_Y.br (c := (f_w_within x2 (0 : Int32) (5 : Int32) M) = (0 : Int32)) _ (t := 28) (u := 18) (lv' := [(0, .ref 5), (1, .int x1), (2, .int x2), (3, .int x3)]) (st' := []) (h' := hp M) rfl (fun hc => ?_) (fun hc => ?_)
    · replace h := (if_pos hc).symm.trans h
      refine am_Y.run (k := 1) (pc' := 29) (lv' := [(0, .ref 5), (1, .int x1), (2, .int x2), (3, .int x3)]) (st' := [.int (0 : Int32)]) (h' := hp M) rfl ?_
      obtain ⟨rfl, rfl⟩ := Prod.mk.inj (Option.some.inj h)
      exact am_Y.ret rfl
    · replace h := (if_neg hc).symm.trans h
      refine am_Y.run (k := 3) (pc' := 22) (lv' := [(0, .ref 5), (1, .int x1), (2, .int x2), (3, .int x3)]) (st' := [.int (100 : Int32), .int (0 : Int32), .int x3]) (h' := hp M) rfl ?_
      refine am_Y.call0 (M' := am_M102) (as := [.int x3, .int (0 : Int32), .int (100 : Int32)]) (rest := []) (d' := 0) rfl (by omega) rfl rfl (t_w_within x3 (0 : Int32) (100 : Int32) M _ rfl) ?_
      refine am_Y.br (c := (f_w_within x3 (0 : Int32) (100 : Int32) M) = (0 : Int32)) _ (t := 28) (u := 30) (lv' := [(0, .ref 5), (1, .int x1), (2, .int x2), (3, .int x3)]) (st' := []) (h' := hp M) rfl (fun hc => ?_) (fun hc => ?_)
      · replace h := (if_pos hc).symm.trans h
        refine am_Y.run (k := 1) (pc' := 29) (lv' := [(0, .ref 5), (1, .int x1), (2, .int x2), (3, .int x3)]) (st' := [.int (0 : Int32)]) (h' := hp M) rfl ?_
        obtain ⟨rfl, rfl⟩ := Prod.mk.inj (Option.some.inj h)
        exact am_Y.ret rfl
      · replace h := (if_neg hc).symm.trans h
        refine am_Y.run (k := 5) (pc' := 41) (lv' := [(0, .ref 5), (1, .int x1), (2, .int x2), (3, .int x3)]) (st' := [.int x1, .ref 47]) (h' := hp M) rfl ?_
        by_cases ha0 : x1 = (0 : Int32)
        · replace h := (if_pos ha0).symm.trans h
          refine am_Y.aaldc (a := 42) (t := 4) (n := 2) (j := (0 : Int32)) (w := .ref 48) rfl rfl rfl ha0 rfl rfl ?_
          refine am_Y.run (k := 2) (pc' := 44) (lv' := [(0, .ref 5), (1, .int x1), (2, .int x2), (3, .int x3)]) (st' := [.int x3, .int x2, .ref 48]) (h' := hp M) rfl ?_
          obtain ⟨g, h⟩ := am_itg h
          refine am_Y.iast (a := 43) (n := 6) rfl rfl g ?_
          refine am_Y.run (k := 0) (pc' := _) (lv' := [(0, .ref 5), (1, .int x1), (2, .int x2), (3, .int x3)]) (st' := []) (h' := hp (si M 48 (x2).toNatClampNeg x3)) rfl ?_
          obtain ⟨q1, e_q1, h⟩ := Option.bind_eq_some_iff.mp h
          rw [Option.some.inj e_q1]
          refine am_Y.run (k := 1) (pc' := 46) (lv' := [(0, .ref 5), (1, .int x1), (2, .int x2), (3, .int x3)]) (st' := [.int (1 : Int32)]) (h' := hp q1) rfl ?_
          obtain ⟨rfl, rfl⟩ := Prod.mk.inj (Option.some.inj h)
          exact am_Y.ret rfl
        replace h := (if_neg ha0).symm.trans h
        by_cases ha1 : x1 = (1 : Int32)
        · replace h := (if_pos ha1).symm.trans h
          refine am_Y.aaldc (a := 42) (t := 4) (n := 2) (j := (1 : Int32)) (w := .ref 49) rfl rfl rfl ha1 rfl rfl ?_
          refine am_Y.run (k := 2) (pc' := 44) (lv' := [(0, .ref 5), (1, .int x1), (2, .int x2), (3, .int x3)]) (st' := [.int x3, .int x2, .ref 49]) (h' := hp M) rfl ?_
          obtain ⟨g, h⟩ := am_itg h
          refine am_Y.iast (a := 44) (n := 6) rfl rfl g ?_
          refine am_Y.run (k := 0) (pc' := _) (lv' := [(0, .ref 5), (1, .int x1), (2, .int x2), (3, .int x3)]) (st' := []) (h' := hp (si M 49 (x2).toNatClampNeg x3)) rfl ?_
          obtain ⟨q2, e_q2, h⟩ := Option.bind_eq_some_iff.mp h
          rw [Option.some.inj e_q2]
          refine am_Y.run (k := 1) (pc' := 46) (lv' := [(0, .ref 5), (1, .int x1), (2, .int x2), (3, .int x3)]) (st' := [.int (1 : Int32)]) (h' := hp q2) rfl ?_
          obtain ⟨rfl, rfl⟩ := Prod.mk.inj (Option.some.inj h)
          exact am_Y.ret rfl
        replace h := (if_neg ha1).symm.trans h
        cases h
set_option maxRecDepth 100000 in
theorem t_m_odds {S : Nat × (Nat → Int32)} (x1 : Int32) (x2 : Int32) (x3 : Int32) (M : Mem) (r : Int32) (M' : Mem) (h : f_m_odds x1 x2 x3 M = some (r, M')) : am_Y S 1 0 0 am_M77 0 [(0, .ref 129), (1, .int x1), (2, .int x2), (3, .int x3)] [] (hp M) (some (.int r)) (hp M') := by
  rw [f_m_odds] at h
  refine am_Y.run (k := 3) (pc' := 3) (lv' := [(0, .ref 129), (1, .int x1), (2, .int x2), (3, .int x3)]) (st' := [.int (1 : Int32), .int (0 : Int32), .int x1]) (h' := hp M) rfl ?_
  refine am_Y.call0 (M' := am_M104) (as := [.int x1, .int (0 : Int32), .int (1 : Int32)]) (rest := []) (d' := 0) rfl (by omega) rfl rfl (t_m_isIn x1 (0 : Int32) (1 : Int32) M _ rfl) ?_
  refine am_Y.br (c := (f_m_isIn x1 (0 : Int32) (1 : Int32) M) = (0 : Int32)) _ (t := 28) (u := 9) (lv' := [(0, .ref 129), (1, .int x1), (2, .int x2), (3, .int x3)]) (st' := []) (h' := hp M) rfl (fun hc => ?_) (fun hc => ?_)
  · replace h := (if_pos hc).symm.trans h
    refine am_Y.run (k := 1) (pc' := 29) (lv' := [(0, .ref 129), (1, .int x1), (2, .int x2), (3, .int x3)]) (st' := [.int (0 : Int32)]) (h' := hp M) rfl ?_
    obtain ⟨rfl, rfl⟩ := Prod.mk.inj (Option.some.inj h)
    exact am_Y.ret rfl
  · replace h := (if_neg hc).symm.trans h
    refine am_Y.run (k := 3) (pc' := 12) (lv' := [(0, .ref 129), (1, .int x1), (2, .int x2), (3, .int x3)]) (st' := [.int (5 : Int32), .int (0 : Int32), .int x2]) (h' := hp M) rfl ?_
    refine am_Y.call0 (M' := am_M104) (as := [.int x2, .int (0 : Int32), .int (5 : Int32)]) (rest := []) (d' := 0) rfl (by omega) rfl rfl (t_m_isIn x2 (0 : Int32) (5 : Int32) M _ rfl) ?_
    refine am_Y.br (c := (f_m_isIn x2 (0 : Int32) (5 : Int32) M) = (0 : Int32)) _ (t := 28) (u := 18) (lv' := [(0, .ref 129), (1, .int x1), (2, .int x2), (3, .int x3)]) (st' := []) (h' := hp M) rfl (fun hc => ?_) (fun hc => ?_)
    · replace h := (if_pos hc).symm.trans h
      refine am_Y.run (k := 1) (pc' := 29) (lv' := [(0, .ref 129), (1, .int x1), (2, .int x2), (3, .int x3)]) (st' := [.int (0 : Int32)]) (h' := hp M) rfl ?_
      obtain ⟨rfl, rfl⟩ := Prod.mk.inj (Option.some.inj h)
      exact am_Y.ret rfl
    · replace h := (if_neg hc).symm.trans h
      refine am_Y.run (k := 3) (pc' := 22) (lv' := [(0, .ref 129), (1, .int x1), (2, .int x2), (3, .int x3)]) (st' := [.int (100 : Int32), .int (0 : Int32), .int x3]) (h' := hp M) rfl ?_
      refine am_Y.call0 (M' := am_M104) (as := [.int x3, .int (0 : Int32), .int (100 : Int32)]) (rest := []) (d' := 0) rfl (by omega) rfl rfl (t_m_isIn x3 (0 : Int32) (100 : Int32) M _ rfl) ?_
      refine am_Y.br (c := (f_m_isIn x3 (0 : Int32) (100 : Int32) M) = (0 : Int32)) _ (t := 28) (u := 30) (lv' := [(0, .ref 129), (1, .int x1), (2, .int x2), (3, .int x3)]) (st' := []) (h' := hp M) rfl (fun hc => ?_) (fun hc => ?_)
      · replace h := (if_pos hc).symm.trans h
        refine am_Y.run (k := 1) (pc' := 29) (lv' := [(0, .ref 129), (1, .int x1), (2, .int x2), (3, .int x3)]) (st' := [.int (0 : Int32)]) (h' := hp M) rfl ?_
        obtain ⟨rfl, rfl⟩ := Prod.mk.inj (Option.some.inj h)
        exact am_Y.ret rfl
      · replace h := (if_neg hc).symm.trans h
        refine am_Y.run (k := 10) (pc' := 44) (lv' := [(0, .ref 129), (1, .int x1), (2, .int x2), (3, .int x3)]) (st' := [.int x3, .int (((108 : Int32) + ((6 : Int32) * x1)) + x2), .ref 130]) (h' := hp M) rfl ?_
        obtain ⟨g, h⟩ := am_itg h
        refine am_Y.iast (a := 125) (n := 3826) rfl rfl g ?_
        refine am_Y.run (k := 0) (pc' := _) (lv' := [(0, .ref 129), (1, .int x1), (2, .int x2), (3, .int x3)]) (st' := []) (h' := hp (si M 130 ((((108 : Int32) + ((6 : Int32) * x1)) + x2)).toNatClampNeg x3)) rfl ?_
        obtain ⟨q1, e_q1, h⟩ := Option.bind_eq_some_iff.mp h
        rw [Option.some.inj e_q1]
        refine am_Y.run (k := 1) (pc' := 46) (lv' := [(0, .ref 129), (1, .int x1), (2, .int x2), (3, .int x3)]) (st' := [.int (1 : Int32)]) (h' := hp q1) rfl ?_
        obtain ⟨rfl, rfl⟩ := Prod.mk.inj (Option.some.inj h)
        exact am_Y.ret rfl
set_option maxRecDepth 100000 in
theorem t_w_falls {S : Nat × (Nat → Int32)} (x1 : Int32) (x2 : Int32) (M : Mem) (r : Int32) (M' : Mem) (h : f_w_falls x1 x2 M = some (r, M')) : am_Y S 2 0 0 am_M78 0 [(0, .ref 5), (1, .int x1), (2, .int x2)] [] (hp M) (some (.int r)) (hp M') := by
  rw [f_w_falls] at h
  refine am_Y.run (k := 3) (pc' := 3) (lv' := [(0, .ref 5), (1, .int x1), (2, .int x2)]) (st' := [.int (5 : Int32), .int (0 : Int32), .int x1]) (h' := hp M) rfl ?_
  refine am_Y.call0 (M' := am_M102) (as := [.int x1, .int (0 : Int32), .int (5 : Int32)]) (rest := []) (d' := 0) rfl (by omega) rfl rfl (t_w_within x1 (0 : Int32) (5 : Int32) M _ rfl) ?_
  refine am_Y.br (c := (f_w_within x1 (0 : Int32) (5 : Int32) M) = (0 : Int32)) _ (t := 23) (u := 9) (lv' := [(0, .ref 5), (1, .int x1), (2, .int x2)]) (st' := []) (h' := hp M) rfl (fun hc => ?_) (fun hc => ?_)
  · replace h := (if_pos hc).symm.trans h
    refine am_Y.run (k := 1) (pc' := 24) (lv' := [(0, .ref 5), (1, .int x1), (2, .int x2)]) (st' := [.int (0 : Int32)]) (h' := hp M) rfl ?_
    obtain ⟨rfl, rfl⟩ := Prod.mk.inj (Option.some.inj h)
    exact am_Y.ret rfl
  · replace h := (if_neg hc).symm.trans h
    refine am_Y.run (k := 4) (pc' := 17) (lv' := [(0, .ref 5), (1, .int x1), (2, .int x2)]) (st' := [.int x2, .ref 7]) (h' := hp M) rfl ?_
    refine am_Y.call0 (M' := am_M182) (as := [.ref 7, .int x2]) (rest := []) (d' := 1) rfl (by omega) rfl rfl (t_g_knowsAll x2 M _ rfl) ?_
    refine am_Y.br (c := (f_g_knowsAll x2 M) = (0 : Int32)) _ (t := 23) (u := 25) (lv' := [(0, .ref 5), (1, .int x1), (2, .int x2)]) (st' := []) (h' := hp M) rfl (fun hc => ?_) (fun hc => ?_)
    · replace h := (if_pos hc).symm.trans h
      refine am_Y.run (k := 1) (pc' := 24) (lv' := [(0, .ref 5), (1, .int x1), (2, .int x2)]) (st' := [.int (0 : Int32)]) (h' := hp M) rfl ?_
      obtain ⟨rfl, rfl⟩ := Prod.mk.inj (Option.some.inj h)
      exact am_Y.ret rfl
    · replace h := (if_neg hc).symm.trans h
      refine am_Y.run (k := 6) (pc' := 37) (lv' := [(0, .ref 5), (1, .int x1), (2, .int x2)]) (st' := [.int x2, .int x1, .ref 50]) (h' := hp M) rfl ?_
      obtain ⟨g, h⟩ := am_itg h
      refine am_Y.iast (a := 45) (n := 6) rfl rfl g ?_
      refine am_Y.run (k := 0) (pc' := _) (lv' := [(0, .ref 5), (1, .int x1), (2, .int x2)]) (st' := []) (h' := hp (si M 50 (x1).toNatClampNeg x2)) rfl ?_
      obtain ⟨q1, e_q1, h⟩ := Option.bind_eq_some_iff.mp h
      rw [Option.some.inj e_q1]
      refine am_Y.run (k := 1) (pc' := 39) (lv' := [(0, .ref 5), (1, .int x1), (2, .int x2)]) (st' := [.int (1 : Int32)]) (h' := hp q1) rfl ?_
      obtain ⟨rfl, rfl⟩ := Prod.mk.inj (Option.some.inj h)
      exact am_Y.ret rfl
set_option maxRecDepth 100000 in
theorem t_m_falls {S : Nat × (Nat → Int32)} (x1 : Int32) (x2 : Int32) (M : Mem) (r : Int32) (M' : Mem) (h : f_m_falls x1 x2 M = some (r, M')) : am_Y S 2 0 0 am_M79 0 [(0, .ref 129), (1, .int x1), (2, .int x2)] [] (hp M) (some (.int r)) (hp M') := by
  rw [f_m_falls] at h
  refine am_Y.run (k := 3) (pc' := 3) (lv' := [(0, .ref 129), (1, .int x1), (2, .int x2)]) (st' := [.int (5 : Int32), .int (0 : Int32), .int x1]) (h' := hp M) rfl ?_
  refine am_Y.call0 (M' := am_M104) (as := [.int x1, .int (0 : Int32), .int (5 : Int32)]) (rest := []) (d' := 0) rfl (by omega) rfl rfl (t_m_isIn x1 (0 : Int32) (5 : Int32) M _ rfl) ?_
  refine am_Y.br (c := (f_m_isIn x1 (0 : Int32) (5 : Int32) M) = (0 : Int32)) _ (t := 17) (u := 9) (lv' := [(0, .ref 129), (1, .int x1), (2, .int x2)]) (st' := []) (h' := hp M) rfl (fun hc => ?_) (fun hc => ?_)
  · replace h := (if_pos hc).symm.trans h
    refine am_Y.run (k := 1) (pc' := 18) (lv' := [(0, .ref 129), (1, .int x1), (2, .int x2)]) (st' := [.int (0 : Int32)]) (h' := hp M) rfl ?_
    obtain ⟨rfl, rfl⟩ := Prod.mk.inj (Option.some.inj h)
    exact am_Y.ret rfl
  · replace h := (if_neg hc).symm.trans h
    refine am_Y.run (k := 2) (pc' := 11) (lv' := [(0, .ref 129), (1, .int x1), (2, .int x2)]) (st' := [.int x2, .ref 129]) (h' := hp M) rfl ?_
    refine am_Y.call0 (M' := am_M184) (as := [.ref 129, .int x2]) (rest := []) (d' := 1) rfl (by omega) rfl rfl (t_m_isSet x2 M _ rfl) ?_
    refine am_Y.br (c := (f_m_isSet x2 M) = (0 : Int32)) _ (t := 17) (u := 19) (lv' := [(0, .ref 129), (1, .int x1), (2, .int x2)]) (st' := []) (h' := hp M) rfl (fun hc => ?_) (fun hc => ?_)
    · replace h := (if_pos hc).symm.trans h
      refine am_Y.run (k := 1) (pc' := 18) (lv' := [(0, .ref 129), (1, .int x1), (2, .int x2)]) (st' := [.int (0 : Int32)]) (h' := hp M) rfl ?_
      obtain ⟨rfl, rfl⟩ := Prod.mk.inj (Option.some.inj h)
      exact am_Y.ret rfl
    · replace h := (if_neg hc).symm.trans h
      refine am_Y.run (k := 6) (pc' := 28) (lv' := [(0, .ref 129), (1, .int x1), (2, .int x2)]) (st' := [.int x2, .int ((120 : Int32) + x1), .ref 130]) (h' := hp M) rfl ?_
      obtain ⟨g, h⟩ := am_itg h
      refine am_Y.iast (a := 125) (n := 3826) rfl rfl g ?_
      refine am_Y.run (k := 0) (pc' := _) (lv' := [(0, .ref 129), (1, .int x1), (2, .int x2)]) (st' := []) (h' := hp (si M 130 (((120 : Int32) + x1)).toNatClampNeg x2)) rfl ?_
      obtain ⟨q1, e_q1, h⟩ := Option.bind_eq_some_iff.mp h
      rw [Option.some.inj e_q1]
      refine am_Y.run (k := 1) (pc' := 30) (lv' := [(0, .ref 129), (1, .int x1), (2, .int x2)]) (st' := [.int (1 : Int32)]) (h' := hp q1) rfl ?_
      obtain ⟨rfl, rfl⟩ := Prod.mk.inj (Option.some.inj h)
      exact am_Y.ret rfl
set_option maxRecDepth 100000 in
theorem t_w_isToCome {S : Nat × (Nat → Int32)} (x1 : Int32) (x2 : Int32) (x3 : Int32) (M : Mem) (r : Int32) (h : f_w_isToCome x1 x2 x3 M = r) : am_Y S 2 0 0 am_M207 0 [(0, .ref 5), (1, .int x1), (2, .int x2), (3, .int x3)] [] (hp M) (some (.int r)) (hp M) := by
  rw [f_w_isToCome] at h
  refine am_Y.run (k := 4) (pc' := 8) (lv' := [(0, .ref 5), (1, .int x1), (2, .int x2), (3, .int x3)]) (st' := [.int x1, .ref 7]) (h' := hp M) rfl ?_
  refine am_Y.call0 (M' := am_M140) (as := [.ref 7, .int x1]) (rest := []) (d' := 1) rfl (by omega) rfl rfl (t_g_knows x1 M _ rfl) ?_
  refine am_Y.br (c := (f_g_knows x1 M) = (0 : Int32)) _ (t := 37) (u := 14) (lv' := [(0, .ref 5), (1, .int x1), (2, .int x2), (3, .int x3)]) (st' := []) (h' := hp M) rfl (fun hc => ?_) (fun hc => ?_)
  · replace h := (if_pos hc).symm.trans h
    refine am_Y.run (k := 1) (pc' := 38) (lv' := [(0, .ref 5), (1, .int x1), (2, .int x2), (3, .int x3)]) (st' := [.int (0 : Int32)]) (h' := hp M) rfl ?_
    subst h
    exact am_Y.ret rfl
  · replace h := (if_neg hc).symm.trans h
    refine am_Y.run (k := 3) (pc' := 18) (lv' := [(0, .ref 5), (1, .int x1), (2, .int x2), (3, .int x3)]) (st' := [.int (6 : Int32), .int (1 : Int32), .int x2]) (h' := hp M) rfl ?_
    refine am_Y.call0 (M' := am_M102) (as := [.int x2, .int (1 : Int32), .int (6 : Int32)]) (rest := []) (d' := 0) rfl (by omega) rfl rfl (t_w_within x2 (1 : Int32) (6 : Int32) M _ rfl) ?_
    refine am_Y.br (c := (f_w_within x2 (1 : Int32) (6 : Int32) M) = (0 : Int32)) _ (t := 37) (u := 24) (lv' := [(0, .ref 5), (1, .int x1), (2, .int x2), (3, .int x3)]) (st' := []) (h' := hp M) rfl (fun hc => ?_) (fun hc => ?_)
    · replace h := (if_pos hc).symm.trans h
      refine am_Y.run (k := 1) (pc' := 38) (lv' := [(0, .ref 5), (1, .int x1), (2, .int x2), (3, .int x3)]) (st' := [.int (0 : Int32)]) (h' := hp M) rfl ?_
      subst h
      exact am_Y.ret rfl
    · replace h := (if_neg hc).symm.trans h
      refine am_Y.run (k := 3) (pc' := 27) (lv' := [(0, .ref 5), (1, .int x1), (2, .int x2), (3, .int x3)]) (st' := [.int (1 : Int32), .int (0 : Int32), .int x3]) (h' := hp M) rfl ?_
      refine am_Y.call0 (M' := am_M102) (as := [.int x3, .int (0 : Int32), .int (1 : Int32)]) (rest := []) (d' := 0) rfl (by omega) rfl rfl (t_w_within x3 (0 : Int32) (1 : Int32) M _ rfl) ?_
      refine am_Y.br (c := (f_w_within x3 (0 : Int32) (1 : Int32) M) = (0 : Int32)) _ (t := 37) (u := 33) (lv' := [(0, .ref 5), (1, .int x1), (2, .int x2), (3, .int x3)]) (st' := []) (h' := hp M) rfl (fun hc => ?_) (fun hc => ?_)
      · replace h := (if_pos hc).symm.trans h
        refine am_Y.run (k := 1) (pc' := 38) (lv' := [(0, .ref 5), (1, .int x1), (2, .int x2), (3, .int x3)]) (st' := [.int (0 : Int32)]) (h' := hp M) rfl ?_
        subst h
        exact am_Y.ret rfl
      · replace h := (if_neg hc).symm.trans h
        refine am_Y.run (k := 2) (pc' := 38) (lv' := [(0, .ref 5), (1, .int x1), (2, .int x2), (3, .int x3)]) (st' := [.int (1 : Int32)]) (h' := hp M) rfl ?_
        subst h
        exact am_Y.ret rfl
set_option maxRecDepth 100000 in
theorem z_w_isToCome (x1 : Int32) (x2 : Int32) (x3 : Int32) (M : Mem) : f_w_isToCome x1 x2 x3 M = 0 ∨ f_w_isToCome x1 x2 x3 M = 1 := by
  simp only [f_w_isToCome]
  first | (repeat' split) <;> first | exact Or.inl rfl | exact Or.inr rfl | (simp; done) | exact z_g_knows _ _ _ _ | exact z_w_within _ _ _ _ | exact z_g_knows _ _ _ | exact z_w_within _ _ _ | exact z_g_knows _ _ | exact z_w_within _ _
set_option maxRecDepth 100000 in
theorem t_c_startWith {S : Nat × (Nat → Int32)} (x1 : Int32) (M : Mem) (M' : Mem) (h : f_c_startWith x1 M = some M') : am_Y S 0 0 0 am_M208 0 [(0, .ref 46), (1, .int x1)] [] (hp M) none (hp M') := by
  rw [f_c_startWith] at h
  refine am_Y.run (k := 3) (pc' := 5) (lv' := [(0, .ref 46), (1, .int x1)]) (st' := []) (h' := hp (si M 46 2 x1)) rfl ?_
  obtain ⟨q1, e_q1, h⟩ := Option.bind_eq_some_iff.mp h
  rw [Option.some.inj e_q1]
  obtain rfl := Option.some.inj h
  exact am_Y.ret rfl
set_option maxRecDepth 100000 in
theorem t_c_part_69 {S : Nat × (Nat → Int32)} (N : Nat) (K15 : Int32 → Int32 → Int32 → Int32 → Int64 → Int64 → Int32 → Int32 → Mem → Option Int64) (hK15 : ∀ (x1 : Int32) (x2 : Int32) (x3 : Int32) (x4 : Int32) (x5 : Int64) (x7 : Int64) (x9 : Int32) (x10 : Int32) (M : Mem) (r : Int64), K15 x1 x2 x3 x4 x5 x7 x9 x10 M = some r → am_Y S 2 0 0 am_M210 15 [(0, .ref 46), (1, .int x1), (2, .int x2), (3, .int x3), (4, .int x4), (5, .long x5), (7, .long x7), (9, .int x9), (10, .int x10)] [] (hp M) (some (.long r)) (hp M)) (x1 : Int32) (x2 : Int32) (x3 : Int32) (x4 : Int32) (x5 : Int64) (x7 : Int64) (x10 : Int32) (s0 : Int32) (M : Mem) (r : Int64) (h : f_c_part_69 N K15 x1 x2 x3 x4 x5 x7 x10 s0 M = some r) : am_Y S 2 0 0 am_M210 69 [(0, .ref 46), (1, .int x1), (2, .int x2), (3, .int x3), (4, .int x4), (5, .long x5), (7, .long x7), (10, .int x10)] [.int s0] (hp M) (some (.long r)) (hp M) := by
  rw [f_c_part_69] at h
  refine am_Y.run (k := 6) (pc' := 78) (lv' := [(9, .int s0), (0, .ref 46), (1, .int x1), (2, .int x2), (3, .int x3), (4, .int x4), (5, .long x5), (7, .long x7), (10, .int x10)]) (st' := [.int (x3 &&& (1 : Int32)), .ref 47]) (h' := hp M) rfl ?_
  by_cases ha0 : (x3 &&& (1 : Int32)) = (0 : Int32)
  · replace h := (if_pos ha0).symm.trans h
    refine am_Y.aaldc (a := 42) (t := 4) (n := 2) (j := (0 : Int32)) (w := .ref 48) rfl rfl rfl ha0 rfl rfl ?_
    refine am_Y.run (k := 1) (pc' := 81) (lv' := [(9, .int s0), (0, .ref 46), (1, .int x1), (2, .int x2), (3, .int x3), (4, .int x4), (5, .long x5), (7, .long x7), (10, .int x10)]) (st' := [.int x10, .ref 48]) (h' := hp M) rfl ?_
    obtain ⟨g, h⟩ := am_itg h
    refine am_Y.iald (a := 43) (n := 6) rfl rfl g ?_
    refine am_Y.run (k := 10) (pc' := 99) (lv' := [(12, .int (gi M 48 (x10).toNatClampNeg)), (9, .int s0), (0, .ref 46), (1, .int x1), (2, .int x2), (3, .int x3), (4, .int x4), (5, .long x5), (7, .long x7), (10, .int x10)]) (st' := [.int x1, .int s0, .long (x7 * (Int32.toInt64 (gi M 48 (x10).toNatClampNeg))), .long (x5 * (100 : Int64))]) (h' := hp M) rfl ?_
    obtain ⟨q1, e_q1, h⟩ := Option.bind_eq_some_iff.mp h
    refine am_Y.call0 (M' := am_M251) (as := [.int s0, .int x1]) (rest := [.long (x7 * (Int32.toInt64 (gi M 48 (x10).toNatClampNeg))), .long (x5 * (100 : Int64))]) (d' := 1) rfl (by omega) rfl rfl (t_w_partOfWhole s0 x1 M q1 e_q1) ?_
    refine am_Y.run (k := 13) (pc' := 15) (lv' := [(10, .int (x10 + (1 : Int32))), (7, .long (x7 * (Int32.toInt64 ((100 : Int32) - (gi M 48 (x10).toNatClampNeg))))), (5, .long ((x5 * (100 : Int64)) + ((x7 * (Int32.toInt64 (gi M 48 (x10).toNatClampNeg))) * (Int32.toInt64 q1)))), (12, .int (gi M 48 (x10).toNatClampNeg)), (9, .int s0), (0, .ref 46), (1, .int x1), (2, .int x2), (3, .int x3), (4, .int x4)]) (st' := []) (h' := hp M) rfl ?_
    refine am_Y.weak (lv2 := [(0, .ref 46), (1, .int x1), (2, .int x2), (3, .int x3), (4, .int x4), (5, .long ((x5 * (100 : Int64)) + ((x7 * (Int32.toInt64 (gi M 48 (x10).toNatClampNeg))) * (Int32.toInt64 q1)))), (7, .long (x7 * (Int32.toInt64 ((100 : Int32) - (gi M 48 (x10).toNatClampNeg))))), (9, .int s0), (10, .int (x10 + (1 : Int32)))]) rfl rfl ⟨rfl, rfl, rfl, rfl, rfl, rfl, rfl, rfl, rfl, trivial⟩ ?_
    exact hK15 x1 x2 x3 x4 ((x5 * (100 : Int64)) + ((x7 * (Int32.toInt64 (gi M 48 (x10).toNatClampNeg))) * (Int32.toInt64 q1))) (x7 * (Int32.toInt64 ((100 : Int32) - (gi M 48 (x10).toNatClampNeg)))) s0 (x10 + (1 : Int32)) M _ h
  replace h := (if_neg ha0).symm.trans h
  by_cases ha1 : (x3 &&& (1 : Int32)) = (1 : Int32)
  · replace h := (if_pos ha1).symm.trans h
    refine am_Y.aaldc (a := 42) (t := 4) (n := 2) (j := (1 : Int32)) (w := .ref 49) rfl rfl rfl ha1 rfl rfl ?_
    refine am_Y.run (k := 1) (pc' := 81) (lv' := [(9, .int s0), (0, .ref 46), (1, .int x1), (2, .int x2), (3, .int x3), (4, .int x4), (5, .long x5), (7, .long x7), (10, .int x10)]) (st' := [.int x10, .ref 49]) (h' := hp M) rfl ?_
    obtain ⟨g, h⟩ := am_itg h
    refine am_Y.iald (a := 44) (n := 6) rfl rfl g ?_
    refine am_Y.run (k := 10) (pc' := 99) (lv' := [(12, .int (gi M 49 (x10).toNatClampNeg)), (9, .int s0), (0, .ref 46), (1, .int x1), (2, .int x2), (3, .int x3), (4, .int x4), (5, .long x5), (7, .long x7), (10, .int x10)]) (st' := [.int x1, .int s0, .long (x7 * (Int32.toInt64 (gi M 49 (x10).toNatClampNeg))), .long (x5 * (100 : Int64))]) (h' := hp M) rfl ?_
    obtain ⟨q2, e_q2, h⟩ := Option.bind_eq_some_iff.mp h
    refine am_Y.call0 (M' := am_M251) (as := [.int s0, .int x1]) (rest := [.long (x7 * (Int32.toInt64 (gi M 49 (x10).toNatClampNeg))), .long (x5 * (100 : Int64))]) (d' := 1) rfl (by omega) rfl rfl (t_w_partOfWhole s0 x1 M q2 e_q2) ?_
    refine am_Y.run (k := 13) (pc' := 15) (lv' := [(10, .int (x10 + (1 : Int32))), (7, .long (x7 * (Int32.toInt64 ((100 : Int32) - (gi M 49 (x10).toNatClampNeg))))), (5, .long ((x5 * (100 : Int64)) + ((x7 * (Int32.toInt64 (gi M 49 (x10).toNatClampNeg))) * (Int32.toInt64 q2)))), (12, .int (gi M 49 (x10).toNatClampNeg)), (9, .int s0), (0, .ref 46), (1, .int x1), (2, .int x2), (3, .int x3), (4, .int x4)]) (st' := []) (h' := hp M) rfl ?_
    refine am_Y.weak (lv2 := [(0, .ref 46), (1, .int x1), (2, .int x2), (3, .int x3), (4, .int x4), (5, .long ((x5 * (100 : Int64)) + ((x7 * (Int32.toInt64 (gi M 49 (x10).toNatClampNeg))) * (Int32.toInt64 q2)))), (7, .long (x7 * (Int32.toInt64 ((100 : Int32) - (gi M 49 (x10).toNatClampNeg))))), (9, .int s0), (10, .int (x10 + (1 : Int32)))]) rfl rfl ⟨rfl, rfl, rfl, rfl, rfl, rfl, rfl, rfl, rfl, trivial⟩ ?_
    exact hK15 x1 x2 x3 x4 ((x5 * (100 : Int64)) + ((x7 * (Int32.toInt64 (gi M 49 (x10).toNatClampNeg))) * (Int32.toInt64 q2))) (x7 * (Int32.toInt64 ((100 : Int32) - (gi M 49 (x10).toNatClampNeg)))) s0 (x10 + (1 : Int32)) M _ h
  replace h := (if_neg ha1).symm.trans h
  cases h
set_option maxRecDepth 100000 in
theorem t_c_part_15 {S : Nat × (Nat → Int32)} (N : Nat) : ∀ (n : Nat) (x1 : Int32) (x2 : Int32) (x3 : Int32) (x4 : Int32) (x5 : Int64) (x7 : Int64) (x9 : Int32) (x10 : Int32) (M : Mem) (r : Int64), f_c_part_15 N n x1 x2 x3 x4 x5 x7 x9 x10 M = some r → am_Y S 2 0 0 am_M210 15 [(0, .ref 46), (1, .int x1), (2, .int x2), (3, .int x3), (4, .int x4), (5, .long x5), (7, .long x7), (9, .int x9), (10, .int x10)] [] (hp M) (some (.long r)) (hp M) := by
  intro n
  induction n with
  | zero =>
    intro x1 x2 x3 x4 x5 x7 x9 x10 M r h
    cases h
  | succ n ih =>
    intro x1 x2 x3 x4 x5 x7 x9 x10 M r h
    rw [f_c_part_15] at h
    refine am_Y.run (k := 2) (pc' := 18) (lv' := [(0, .ref 46), (1, .int x1), (2, .int x2), (3, .int x3), (4, .int x4), (5, .long x5), (7, .long x7), (9, .int x9), (10, .int x10)]) (st' := [.int x2, .int x10]) (h' := hp M) rfl ?_
    refine am_Y.br (c := x2 ≤ x10) _ (t := 124) (u := 21) (lv' := [(0, .ref 46), (1, .int x1), (2, .int x2), (3, .int x3), (4, .int x4), (5, .long x5), (7, .long x7), (9, .int x9), (10, .int x10)]) (st' := []) (h' := hp M) rfl (fun hc => ?_) (fun hc => ?_)
    · replace h := (if_pos hc).symm.trans h
      refine am_Y.run (k := 1) (pc' := 126) (lv' := [(0, .ref 46), (1, .int x1), (2, .int x2), (3, .int x3), (4, .int x4), (5, .long x5), (7, .long x7), (9, .int x9), (10, .int x10)]) (st' := [.long x5]) (h' := hp M) rfl ?_
      obtain rfl := Option.some.inj h
      exact am_Y.ret rfl
    · replace h := (if_neg hc).symm.trans h
      refine am_Y.run (k := 2) (pc' := 25) (lv' := [(0, .ref 46), (1, .int x1), (2, .int x2), (3, .int x3), (4, .int x4), (5, .long x5), (7, .long x7), (9, .int x9), (10, .int x10)]) (st' := [.int (6 : Int32), .int x10]) (h' := hp M) rfl ?_
      refine am_Y.br (c := (6 : Int32) ≤ x10) _ (t := 124) (u := 28) (lv' := [(0, .ref 46), (1, .int x1), (2, .int x2), (3, .int x3), (4, .int x4), (5, .long x5), (7, .long x7), (9, .int x9), (10, .int x10)]) (st' := []) (h' := hp M) rfl (fun hc => ?_) (fun hc => ?_)
      · replace h := (if_pos hc).symm.trans h
        refine am_Y.run (k := 1) (pc' := 126) (lv' := [(0, .ref 46), (1, .int x1), (2, .int x2), (3, .int x3), (4, .int x4), (5, .long x5), (7, .long x7), (9, .int x9), (10, .int x10)]) (st' := [.long x5]) (h' := hp M) rfl ?_
        obtain rfl := Option.some.inj h
        exact am_Y.ret rfl
      · replace h := (if_neg hc).symm.trans h
        refine am_Y.run (k := 3) (pc' := 34) (lv' := [(0, .ref 46), (1, .int x1), (2, .int x2), (3, .int x3), (4, .int x4), (5, .long x5), (7, .long x7), (9, .int x9), (10, .int x10)]) (st' := [.int x10, .ref 50]) (h' := hp M) rfl ?_
        obtain ⟨g, h⟩ := am_itg h
        refine am_Y.iald (a := 45) (n := 6) rfl rfl g ?_
        refine am_Y.run (k := 6) (pc' := 43) (lv' := [(0, .ref 46), (1, .int x1), (2, .int x2), (3, .int x3), (4, .int x4), (5, .long x5), (7, .long x7), (9, .int x9), (10, .int x10)]) (st' := [.int (1 : Int32), .int ((x4 >>> (x10 &&& 31)) &&& (1 : Int32)), .int (gi M 50 (x10).toNatClampNeg)]) (h' := hp M) rfl ?_
        refine am_Y.br (c := ((x4 >>> (x10 &&& 31)) &&& (1 : Int32)) = (1 : Int32)) _ (t := 46) (u := 53) (lv' := [(0, .ref 46), (1, .int x1), (2, .int x2), (3, .int x3), (4, .int x4), (5, .long x5), (7, .long x7), (9, .int x9), (10, .int x10)]) (st' := [.int (gi M 50 (x10).toNatClampNeg)]) (h' := hp M) rfl (fun hc => ?_) (fun hc => ?_)
        · replace h := (if_pos hc).symm.trans h
          refine am_Y.run (k := 1) (pc' := 47) (lv' := [(0, .ref 46), (1, .int x1), (2, .int x2), (3, .int x3), (4, .int x4), (5, .long x5), (7, .long x7), (9, .int x9), (10, .int x10)]) (st' := [.int x1, .int (gi M 50 (x10).toNatClampNeg)]) (h' := hp M) rfl ?_
          refine am_Y.call0 (M' := am_M256) (as := [.int x1]) (rest := [.int (gi M 50 (x10).toNatClampNeg)]) (d' := 0) rfl (by omega) rfl rfl (t_w_bitOf x1 M _ rfl) ?_
          refine am_Y.run (k := 4) (pc' := 59) (lv' := [(11, .int ((gi M 50 (x10).toNatClampNeg) ||| (f_w_bitOf x1 M))), (0, .ref 46), (1, .int x1), (2, .int x2), (3, .int x3), (4, .int x4), (5, .long x5), (7, .long x7), (9, .int x9), (10, .int x10)]) (st' := [.int ((gi M 50 (x10).toNatClampNeg) ||| (f_w_bitOf x1 M))]) (h' := hp M) rfl ?_
          refine am_Y.br (c := ((gi M 50 (x10).toNatClampNeg) ||| (f_w_bitOf x1 M)) = (0 : Int32)) _ (t := 62) (u := 67) (lv' := [(11, .int ((gi M 50 (x10).toNatClampNeg) ||| (f_w_bitOf x1 M))), (0, .ref 46), (1, .int x1), (2, .int x2), (3, .int x3), (4, .int x4), (5, .long x5), (7, .long x7), (9, .int x9), (10, .int x10)]) (st' := []) (h' := hp M) rfl (fun hc => ?_) (fun hc => ?_)
          · replace h := (if_pos hc).symm.trans h
            refine am_Y.run (k := 2) (pc' := 69) (lv' := [(11, .int ((gi M 50 (x10).toNatClampNeg) ||| (f_w_bitOf x1 M))), (0, .ref 46), (1, .int x1), (2, .int x2), (3, .int x3), (4, .int x4), (5, .long x5), (7, .long x7), (9, .int x9), (10, .int x10)]) (st' := [.int x9]) (h' := hp M) rfl ?_
            refine am_Y.weak (lv2 := [(0, .ref 46), (1, .int x1), (2, .int x2), (3, .int x3), (4, .int x4), (5, .long x5), (7, .long x7), (10, .int x10)]) rfl rfl ⟨rfl, rfl, rfl, rfl, rfl, rfl, rfl, rfl, trivial⟩ ?_
            exact t_c_part_69 N _ ih x1 x2 x3 x4 x5 x7 x10 x9 M _ h
          · replace h := (if_neg hc).symm.trans h
            refine am_Y.run (k := 1) (pc' := 69) (lv' := [(11, .int ((gi M 50 (x10).toNatClampNeg) ||| (f_w_bitOf x1 M))), (0, .ref 46), (1, .int x1), (2, .int x2), (3, .int x3), (4, .int x4), (5, .long x5), (7, .long x7), (9, .int x9), (10, .int x10)]) (st' := [.int ((gi M 50 (x10).toNatClampNeg) ||| (f_w_bitOf x1 M))]) (h' := hp M) rfl ?_
            refine am_Y.weak (lv2 := [(0, .ref 46), (1, .int x1), (2, .int x2), (3, .int x3), (4, .int x4), (5, .long x5), (7, .long x7), (10, .int x10)]) rfl rfl ⟨rfl, rfl, rfl, rfl, rfl, rfl, rfl, rfl, trivial⟩ ?_
            exact t_c_part_69 N _ ih x1 x2 x3 x4 x5 x7 x10 ((gi M 50 (x10).toNatClampNeg) ||| (f_w_bitOf x1 M)) M _ h
        · replace h := (if_neg hc).symm.trans h
          refine am_Y.run (k := 4) (pc' := 59) (lv' := [(11, .int ((gi M 50 (x10).toNatClampNeg) ||| (0 : Int32))), (0, .ref 46), (1, .int x1), (2, .int x2), (3, .int x3), (4, .int x4), (5, .long x5), (7, .long x7), (9, .int x9), (10, .int x10)]) (st' := [.int ((gi M 50 (x10).toNatClampNeg) ||| (0 : Int32))]) (h' := hp M) rfl ?_
          refine am_Y.br (c := ((gi M 50 (x10).toNatClampNeg) ||| (0 : Int32)) = (0 : Int32)) _ (t := 62) (u := 67) (lv' := [(11, .int ((gi M 50 (x10).toNatClampNeg) ||| (0 : Int32))), (0, .ref 46), (1, .int x1), (2, .int x2), (3, .int x3), (4, .int x4), (5, .long x5), (7, .long x7), (9, .int x9), (10, .int x10)]) (st' := []) (h' := hp M) rfl (fun hc => ?_) (fun hc => ?_)
          · replace h := (if_pos hc).symm.trans h
            refine am_Y.run (k := 2) (pc' := 69) (lv' := [(11, .int ((gi M 50 (x10).toNatClampNeg) ||| (0 : Int32))), (0, .ref 46), (1, .int x1), (2, .int x2), (3, .int x3), (4, .int x4), (5, .long x5), (7, .long x7), (9, .int x9), (10, .int x10)]) (st' := [.int x9]) (h' := hp M) rfl ?_
            refine am_Y.weak (lv2 := [(0, .ref 46), (1, .int x1), (2, .int x2), (3, .int x3), (4, .int x4), (5, .long x5), (7, .long x7), (10, .int x10)]) rfl rfl ⟨rfl, rfl, rfl, rfl, rfl, rfl, rfl, rfl, trivial⟩ ?_
            exact t_c_part_69 N _ ih x1 x2 x3 x4 x5 x7 x10 x9 M _ h
          · replace h := (if_neg hc).symm.trans h
            refine am_Y.run (k := 1) (pc' := 69) (lv' := [(11, .int ((gi M 50 (x10).toNatClampNeg) ||| (0 : Int32))), (0, .ref 46), (1, .int x1), (2, .int x2), (3, .int x3), (4, .int x4), (5, .long x5), (7, .long x7), (9, .int x9), (10, .int x10)]) (st' := [.int ((gi M 50 (x10).toNatClampNeg) ||| (0 : Int32))]) (h' := hp M) rfl ?_
            refine am_Y.weak (lv2 := [(0, .ref 46), (1, .int x1), (2, .int x2), (3, .int x3), (4, .int x4), (5, .long x5), (7, .long x7), (10, .int x10)]) rfl rfl ⟨rfl, rfl, rfl, rfl, rfl, rfl, rfl, rfl, trivial⟩ ?_
            exact t_c_part_69 N _ ih x1 x2 x3 x4 x5 x7 x10 ((gi M 50 (x10).toNatClampNeg) ||| (0 : Int32)) M _ h
set_option maxRecDepth 100000 in
theorem t_c_part {S : Nat × (Nat → Int32)} (N : Nat) (x1 : Int32) (x2 : Int32) (x3 : Int32) (x4 : Int32) (M : Mem) (r : Int64) (h : f_c_part N x1 x2 x3 x4 M = some r) : am_Y S 2 0 0 am_M210 0 [(0, .ref 46), (1, .int x1), (2, .int x2), (3, .int x3), (4, .int x4)] [] (hp M) (some (.long r)) (hp M) := by
  rw [f_c_part] at h
  refine am_Y.run (k := 9) (pc' := 15) (lv' := [(10, .int (0 : Int32)), (9, .int (gi M 46 2)), (7, .long (1 : Int64)), (5, .long (0 : Int64)), (0, .ref 46), (1, .int x1), (2, .int x2), (3, .int x3), (4, .int x4)]) (st' := []) (h' := hp M) rfl ?_
  refine am_Y.weak (lv2 := [(0, .ref 46), (1, .int x1), (2, .int x2), (3, .int x3), (4, .int x4), (5, .long (0 : Int64)), (7, .long (1 : Int64)), (9, .int (gi M 46 2)), (10, .int (0 : Int32))]) rfl rfl ⟨rfl, rfl, rfl, rfl, rfl, rfl, rfl, rfl, rfl, trivial⟩ ?_
  exact t_c_part_15 N N x1 x2 x3 x4 (0 : Int64) (1 : Int64) (gi M 46 2) (0 : Int32) M _ h
set_option maxRecDepth 100000 in
theorem t_c_bestMoment_6 {S : Nat × (Nat → Int32)} (N : Nat) : ∀ (n : Nat) (x1 : Int32) (x2 : Int32) (x3 : Int32) (x4 : Int32) (x5 : Int32) (M : Mem) (r : Int32), f_c_bestMoment_6 N n x1 x2 x3 x4 x5 M = some r → am_Y S 3 0 0 am_M209 6 [(0, .ref 46), (1, .int x1), (2, .int x2), (3, .int x3), (4, .int x4), (5, .int x5)] [] (hp M) (some (.int r)) (hp M) := by
  intro n
  induction n with
  | zero =>
    intro x1 x2 x3 x4 x5 M r h
    cases h
  | succ n ih =>
    intro x1 x2 x3 x4 x5 M r h
    rw [f_c_bestMoment_6] at h
    refine am_Y.run (k := 2) (pc' := 9) (lv' := [(0, .ref 46), (1, .int x1), (2, .int x2), (3, .int x3), (4, .int x4), (5, .int x5)]) (st' := [.int x2, .int x5]) (h' := hp M) rfl ?_
    refine am_Y.br (c := x2 ≤ x5) _ (t := 48) (u := 12) (lv' := [(0, .ref 46), (1, .int x1), (2, .int x2), (3, .int x3), (4, .int x4), (5, .int x5)]) (st' := []) (h' := hp M) rfl (fun hc => ?_) (fun hc => ?_)
    · replace h := (if_pos hc).symm.trans h
      refine am_Y.run (k := 1) (pc' := 50) (lv' := [(0, .ref 46), (1, .int x1), (2, .int x2), (3, .int x3), (4, .int x4), (5, .int x5)]) (st' := [.int x4]) (h' := hp M) rfl ?_
      obtain rfl := Option.some.inj h
      exact am_Y.ret rfl
    · replace h := (if_neg hc).symm.trans h
      refine am_Y.run (k := 7) (pc' := 20) (lv' := [(0, .ref 46), (1, .int x1), (2, .int x2), (3, .int x3), (4, .int x4), (5, .int x5)]) (st' := [.int ((1 : Int32) <<< (x5 &&& 31)), .int x3, .int x2, .int x1, .ref 46]) (h' := hp M) rfl ?_
      obtain ⟨q1, e_q1, h⟩ := Option.bind_eq_some_iff.mp h
      refine am_Y.call0 (M' := am_M210) (as := [.ref 46, .int x1, .int x2, .int x3, .int ((1 : Int32) <<< (x5 &&& 31))]) (rest := []) (d' := 2) rfl (by omega) rfl rfl (t_c_part N x1 x2 x3 ((1 : Int32) <<< (x5 &&& 31)) M q1 e_q1) ?_
      refine am_Y.run (k := 7) (pc' := 31) (lv' := [(0, .ref 46), (1, .int x1), (2, .int x2), (3, .int x3), (4, .int x4), (5, .int x5)]) (st' := [.int ((1 : Int32) <<< (x4 &&& 31)), .int x3, .int x2, .int x1, .ref 46, .long q1]) (h' := hp M) rfl ?_
      obtain ⟨q2, e_q2, h⟩ := Option.bind_eq_some_iff.mp h
      refine am_Y.call0 (M' := am_M210) (as := [.ref 46, .int x1, .int x2, .int x3, .int ((1 : Int32) <<< (x4 &&& 31))]) (rest := [.long q1]) (d' := 2) rfl (by omega) rfl rfl (t_c_part N x1 x2 x3 ((1 : Int32) <<< (x4 &&& 31)) M q2 e_q2) ?_
      refine am_Y.run (k := 1) (pc' := 35) (lv' := [(0, .ref 46), (1, .int x1), (2, .int x2), (3, .int x3), (4, .int x4), (5, .int x5)]) (st' := [.int (lg_cmp q1 q2)]) (h' := hp M) rfl ?_
      refine am_Y.br (c := (lg_cmp q1 q2) ≤ (0 : Int32)) _ (t := 42) (u := 38) (lv' := [(0, .ref 46), (1, .int x1), (2, .int x2), (3, .int x3), (4, .int x4), (5, .int x5)]) (st' := []) (h' := hp M) rfl (fun hc => ?_) (fun hc => ?_)
      · replace h := (if_pos hc).symm.trans h
        refine am_Y.run (k := 2) (pc' := 6) (lv' := [(5, .int (x5 + (1 : Int32))), (0, .ref 46), (1, .int x1), (2, .int x2), (3, .int x3), (4, .int x4)]) (st' := []) (h' := hp M) rfl ?_
        refine am_Y.weak (lv2 := [(0, .ref 46), (1, .int x1), (2, .int x2), (3, .int x3), (4, .int x4), (5, .int (x5 + (1 : Int32)))]) rfl rfl ⟨rfl, rfl, rfl, rfl, rfl, rfl, trivial⟩ ?_
        exact ih x1 x2 x3 x4 (x5 + (1 : Int32)) M _ h
      · replace h := (if_neg hc).symm.trans h
        refine am_Y.run (k := 4) (pc' := 6) (lv' := [(5, .int (x5 + (1 : Int32))), (4, .int x5), (0, .ref 46), (1, .int x1), (2, .int x2), (3, .int x3)]) (st' := []) (h' := hp M) rfl ?_
        refine am_Y.weak (lv2 := [(0, .ref 46), (1, .int x1), (2, .int x2), (3, .int x3), (4, .int x5), (5, .int (x5 + (1 : Int32)))]) rfl rfl ⟨rfl, rfl, rfl, rfl, rfl, rfl, trivial⟩ ?_
        exact ih x1 x2 x3 x5 (x5 + (1 : Int32)) M _ h
set_option maxRecDepth 100000 in
theorem t_c_bestMoment {S : Nat × (Nat → Int32)} (N : Nat) (x1 : Int32) (x2 : Int32) (x3 : Int32) (M : Mem) (r : Int32) (h : f_c_bestMoment N x1 x2 x3 M = some r) : am_Y S 3 0 0 am_M209 0 [(0, .ref 46), (1, .int x1), (2, .int x2), (3, .int x3)] [] (hp M) (some (.int r)) (hp M) := by
  rw [f_c_bestMoment] at h
  refine am_Y.run (k := 4) (pc' := 6) (lv' := [(5, .int (1 : Int32)), (4, .int (0 : Int32)), (0, .ref 46), (1, .int x1), (2, .int x2), (3, .int x3)]) (st' := []) (h' := hp M) rfl ?_
  refine am_Y.weak (lv2 := [(0, .ref 46), (1, .int x1), (2, .int x2), (3, .int x3), (4, .int (0 : Int32)), (5, .int (1 : Int32))]) rfl rfl ⟨rfl, rfl, rfl, rfl, rfl, rfl, trivial⟩ ?_
  exact t_c_bestMoment_6 N N x1 x2 x3 (0 : Int32) (1 : Int32) M _ h
set_option maxRecDepth 100000 in
theorem t_w_when {S : Nat × (Nat → Int32)} (N : Nat) (x1 : Int32) (x2 : Int32) (x3 : Int32) (x4 : Int32) (M : Mem) (r : Int64) (M' : Mem) (h : f_w_when N x1 x2 x3 x4 M = some (r, M')) : am_Y S 4 0 0 am_M80 0 [(0, .ref 5), (1, .int x1), (2, .int x2), (3, .int x3), (4, .int x4)] [] (hp M) (some (.long r)) (hp M') := by
  rw [f_w_when] at h
  refine am_Y.run (k := 4) (pc' := 4) (lv' := [(0, .ref 5), (1, .int x1), (2, .int x2), (3, .int x3), (4, .int x4)]) (st' := [.int x3, .int x2, .int x1, .ref 5]) (h' := hp M) rfl ?_
  refine am_Y.call0 (M' := am_M207) (as := [.ref 5, .int x1, .int x2, .int x3]) (rest := []) (d' := 2) rfl (by omega) rfl rfl (t_w_isToCome x1 x2 x3 M _ rfl) ?_
  refine am_Y.br (c := (f_w_isToCome x1 x2 x3 M) = (0 : Int32)) _ (t := 20) (u := 10) (lv' := [(0, .ref 5), (1, .int x1), (2, .int x2), (3, .int x3), (4, .int x4)]) (st' := []) (h' := hp M) rfl (fun hc => ?_) (fun hc => ?_)
  · replace h := (if_pos hc).symm.trans h
    refine am_Y.run (k := 1) (pc' := 23) (lv' := [(0, .ref 5), (1, .int x1), (2, .int x2), (3, .int x3), (4, .int x4)]) (st' := [.long (-1 : Int64)]) (h' := hp M) rfl ?_
    obtain ⟨rfl, rfl⟩ := Prod.mk.inj (Option.some.inj h)
    exact am_Y.ret rfl
  · replace h := (if_neg hc).symm.trans h
    refine am_Y.run (k := 3) (pc' := 14) (lv' := [(0, .ref 5), (1, .int x1), (2, .int x2), (3, .int x3), (4, .int x4)]) (st' := [.int (2 : Int32), .int (0 : Int32), .int x4]) (h' := hp M) rfl ?_
    refine am_Y.call0 (M' := am_M102) (as := [.int x4, .int (0 : Int32), .int (2 : Int32)]) (rest := []) (d' := 0) rfl (by omega) rfl rfl (t_w_within x4 (0 : Int32) (2 : Int32) M _ rfl) ?_
    refine am_Y.br (c := (f_w_within x4 (0 : Int32) (2 : Int32) M) = (0 : Int32)) _ (t := 20) (u := 24) (lv' := [(0, .ref 5), (1, .int x1), (2, .int x2), (3, .int x3), (4, .int x4)]) (st' := []) (h' := hp M) rfl (fun hc => ?_) (fun hc => ?_)
    · replace h := (if_pos hc).symm.trans h
      refine am_Y.run (k := 1) (pc' := 23) (lv' := [(0, .ref 5), (1, .int x1), (2, .int x2), (3, .int x3), (4, .int x4)]) (st' := [.long (-1 : Int64)]) (h' := hp M) rfl ?_
      obtain ⟨rfl, rfl⟩ := Prod.mk.inj (Option.some.inj h)
      exact am_Y.ret rfl
    · replace h := (if_neg hc).symm.trans h
      refine am_Y.run (k := 8) (pc' := 42) (lv' := [(5, .ref 46), (0, .ref 5), (1, .int x1), (2, .int x2), (3, .int x3), (4, .int x4)]) (st' := [.ref 11, .ref 46]) (h' := hp M) rfl ?_
      obtain ⟨q1, e_q1, h⟩ := Option.bind_eq_some_iff.mp h
      refine am_Y.call0 (M' := am_M148) (as := [.ref 11]) (rest := [.ref 46]) (d' := 2) rfl (by omega) rfl rfl (t_e_holdNow N M q1 e_q1) ?_
      obtain ⟨q2, e_q2, h⟩ := Option.bind_eq_some_iff.mp h
      refine am_Y.call0 (M' := am_M208) (as := [.ref 46, .int q1]) (rest := []) (d' := 0) rfl (by omega) rfl rfl (t_c_startWith q1 M q2 e_q2) ?_
      refine am_Y.run (k := 4) (pc' := 53) (lv' := [(5, .ref 46), (0, .ref 5), (1, .int x1), (2, .int x2), (3, .int x3), (4, .int x4)]) (st' := [.int x3, .int x2, .int x1, .ref 46]) (h' := hp q2) rfl ?_
      obtain ⟨q3, e_q3, h⟩ := Option.bind_eq_some_iff.mp h
      refine am_Y.call0 (M' := am_M209) (as := [.ref 46, .int x1, .int x2, .int x3]) (rest := []) (d' := 3) rfl (by omega) rfl rfl (t_c_bestMoment N x1 x2 x3 q2 q3 e_q3) ?_
      refine am_Y.run (k := 2) (pc' := 60) (lv' := [(6, .int q3), (5, .ref 46), (0, .ref 5), (1, .int x1), (2, .int x2), (3, .int x3), (4, .int x4)]) (st' := [.int x4]) (h' := hp q2) rfl ?_
      refine am_Y.br (c := x4 = (0 : Int32)) _ (t := 63) (u := 67) (lv' := [(6, .int q3), (5, .ref 46), (0, .ref 5), (1, .int x1), (2, .int x2), (3, .int x3), (4, .int x4)]) (st' := []) (h' := hp q2) rfl (fun hc => ?_) (fun hc => ?_)
      · replace h := (if_pos hc).symm.trans h
        refine am_Y.run (k := 2) (pc' := 66) (lv' := [(6, .int q3), (5, .ref 46), (0, .ref 5), (1, .int x1), (2, .int x2), (3, .int x3), (4, .int x4)]) (st' := [.long (Int32.toInt64 q3)]) (h' := hp q2) rfl ?_
        obtain ⟨rfl, rfl⟩ := Prod.mk.inj (Option.some.inj h)
        exact am_Y.ret rfl
      · replace h := (if_neg hc).symm.trans h
        refine am_Y.run (k := 7) (pc' := 76) (lv' := [(6, .int q3), (5, .ref 46), (0, .ref 5), (1, .int x1), (2, .int x2), (3, .int x3), (4, .int x4)]) (st' := [.int ((1 : Int32) <<< (q3 &&& 31)), .int x3, .int x2, .int x1, .ref 46]) (h' := hp q2) rfl ?_
        obtain ⟨q4, e_q4, h⟩ := Option.bind_eq_some_iff.mp h
        refine am_Y.call0 (M' := am_M210) (as := [.ref 46, .int x1, .int x2, .int x3, .int ((1 : Int32) <<< (q3 &&& 31))]) (rest := []) (d' := 2) rfl (by omega) rfl rfl (t_c_part N x1 x2 x3 ((1 : Int32) <<< (q3 &&& 31)) q2 q4 e_q4) ?_
        refine am_Y.run (k := 2) (pc' := 83) (lv' := [(6, .int q3), (5, .ref 46), (0, .ref 5), (1, .int x1), (2, .int x2), (3, .int x3), (4, .int x4)]) (st' := [.int x2, .long (840 : Int64), .long q4]) (h' := hp q2) rfl ?_
        obtain ⟨q5, e_q5, h⟩ := Option.bind_eq_some_iff.mp h
        refine am_Y.call0 (M' := am_M172) (as := [.int x2]) (rest := [.long (840 : Int64), .long q4]) (d' := 0) rfl (by omega) rfl rfl (t_w_hundreds N x2 q2 q5 e_q5) ?_
        refine am_Y.run (k := 3) (pc' := 90) (lv' := [(6, .int q3), (5, .ref 46), (0, .ref 5), (1, .int x1), (2, .int x2), (3, .int x3), (4, .int x4)]) (st' := [.int (2 : Int32), .int x4, .long ((840 : Int64) * q5), .long q4]) (h' := hp q2) rfl ?_
        refine am_Y.br (c := x4 = (2 : Int32)) _ (t := 93) (u := 97) (lv' := [(6, .int q3), (5, .ref 46), (0, .ref 5), (1, .int x1), (2, .int x2), (3, .int x3), (4, .int x4)]) (st' := [.long ((840 : Int64) * q5), .long q4]) (h' := hp q2) rfl (fun hc => ?_) (fun hc => ?_)
        · replace h := (if_pos hc).symm.trans h
          refine am_Y.run (k := 2) (pc' := 98) (lv' := [(6, .int q3), (5, .ref 46), (0, .ref 5), (1, .int x1), (2, .int x2), (3, .int x3), (4, .int x4)]) (st' := [.int (1 : Int32), .long ((840 : Int64) * q5), .long q4]) (h' := hp q2) rfl ?_
          obtain ⟨q6, e_q6, h⟩ := Option.bind_eq_some_iff.mp h
          refine am_Y.call0 (M' := am_M173) (as := [.long q4, .long ((840 : Int64) * q5), .int (1 : Int32)]) (rest := []) (d' := 1) rfl (by omega) rfl rfl (t_w_lowest N q4 ((840 : Int64) * q5) (1 : Int32) q2 q6 e_q6) ?_
          obtain ⟨rfl, rfl⟩ := Prod.mk.inj (Option.some.inj h)
          exact am_Y.ret rfl
        · replace h := (if_neg hc).symm.trans h
          refine am_Y.run (k := 1) (pc' := 98) (lv' := [(6, .int q3), (5, .ref 46), (0, .ref 5), (1, .int x1), (2, .int x2), (3, .int x3), (4, .int x4)]) (st' := [.int (0 : Int32), .long ((840 : Int64) * q5), .long q4]) (h' := hp q2) rfl ?_
          obtain ⟨q7, e_q7, h⟩ := Option.bind_eq_some_iff.mp h
          refine am_Y.call0 (M' := am_M173) (as := [.long q4, .long ((840 : Int64) * q5), .int (0 : Int32)]) (rest := []) (d' := 1) rfl (by omega) rfl rfl (t_w_lowest N q4 ((840 : Int64) * q5) (0 : Int32) q2 q7 e_q7) ?_
          obtain ⟨rfl, rfl⟩ := Prod.mk.inj (Option.some.inj h)
          exact am_Y.ret rfl
set_option maxRecDepth 100000 in
theorem t_m_isToCome {S : Nat × (Nat → Int32)} (x1 : Int32) (x2 : Int32) (x3 : Int32) (M : Mem) (r : Int32) (h : f_m_isToCome x1 x2 x3 M = r) : am_Y S 2 0 0 am_M211 0 [(0, .ref 129), (1, .int x1), (2, .int x2), (3, .int x3)] [] (hp M) (some (.int r)) (hp M) := by
  rw [f_m_isToCome] at h
  refine am_Y.run (k := 2) (pc' := 2) (lv' := [(0, .ref 129), (1, .int x1), (2, .int x2), (3, .int x3)]) (st' := [.int x1, .ref 129]) (h' := hp M) rfl ?_
  refine am_Y.call0 (M' := am_M115) (as := [.ref 129, .int x1]) (rest := []) (d' := 1) rfl (by omega) rfl rfl (t_m_isGuest x1 M _ rfl) ?_
  refine am_Y.br (c := (f_m_isGuest x1 M) = (0 : Int32)) _ (t := 31) (u := 8) (lv' := [(0, .ref 129), (1, .int x1), (2, .int x2), (3, .int x3)]) (st' := []) (h' := hp M) rfl (fun hc => ?_) (fun hc => ?_)
  · replace h := (if_pos hc).symm.trans h
    refine am_Y.run (k := 1) (pc' := 32) (lv' := [(0, .ref 129), (1, .int x1), (2, .int x2), (3, .int x3)]) (st' := [.int (0 : Int32)]) (h' := hp M) rfl ?_
    subst h
    exact am_Y.ret rfl
  · replace h := (if_neg hc).symm.trans h
    refine am_Y.run (k := 3) (pc' := 12) (lv' := [(0, .ref 129), (1, .int x1), (2, .int x2), (3, .int x3)]) (st' := [.int (6 : Int32), .int (1 : Int32), .int x2]) (h' := hp M) rfl ?_
    refine am_Y.call0 (M' := am_M104) (as := [.int x2, .int (1 : Int32), .int (6 : Int32)]) (rest := []) (d' := 0) rfl (by omega) rfl rfl (t_m_isIn x2 (1 : Int32) (6 : Int32) M _ rfl) ?_
    refine am_Y.br (c := (f_m_isIn x2 (1 : Int32) (6 : Int32) M) = (0 : Int32)) _ (t := 31) (u := 18) (lv' := [(0, .ref 129), (1, .int x1), (2, .int x2), (3, .int x3)]) (st' := []) (h' := hp M) rfl (fun hc => ?_) (fun hc => ?_)
    · replace h := (if_pos hc).symm.trans h
      refine am_Y.run (k := 1) (pc' := 32) (lv' := [(0, .ref 129), (1, .int x1), (2, .int x2), (3, .int x3)]) (st' := [.int (0 : Int32)]) (h' := hp M) rfl ?_
      subst h
      exact am_Y.ret rfl
    · replace h := (if_neg hc).symm.trans h
      refine am_Y.run (k := 3) (pc' := 21) (lv' := [(0, .ref 129), (1, .int x1), (2, .int x2), (3, .int x3)]) (st' := [.int (1 : Int32), .int (0 : Int32), .int x3]) (h' := hp M) rfl ?_
      refine am_Y.call0 (M' := am_M104) (as := [.int x3, .int (0 : Int32), .int (1 : Int32)]) (rest := []) (d' := 0) rfl (by omega) rfl rfl (t_m_isIn x3 (0 : Int32) (1 : Int32) M _ rfl) ?_
      refine am_Y.br (c := (f_m_isIn x3 (0 : Int32) (1 : Int32) M) = (0 : Int32)) _ (t := 31) (u := 27) (lv' := [(0, .ref 129), (1, .int x1), (2, .int x2), (3, .int x3)]) (st' := []) (h' := hp M) rfl (fun hc => ?_) (fun hc => ?_)
      · replace h := (if_pos hc).symm.trans h
        refine am_Y.run (k := 1) (pc' := 32) (lv' := [(0, .ref 129), (1, .int x1), (2, .int x2), (3, .int x3)]) (st' := [.int (0 : Int32)]) (h' := hp M) rfl ?_
        subst h
        exact am_Y.ret rfl
      · replace h := (if_neg hc).symm.trans h
        refine am_Y.run (k := 2) (pc' := 32) (lv' := [(0, .ref 129), (1, .int x1), (2, .int x2), (3, .int x3)]) (st' := [.int (1 : Int32)]) (h' := hp M) rfl ?_
        subst h
        exact am_Y.ret rfl
set_option maxRecDepth 100000 in
theorem z_m_isToCome (x1 : Int32) (x2 : Int32) (x3 : Int32) (M : Mem) : f_m_isToCome x1 x2 x3 M = 0 ∨ f_m_isToCome x1 x2 x3 M = 1 := by
  simp only [f_m_isToCome]
  first | (repeat' split) <;> first | exact Or.inl rfl | exact Or.inr rfl | (simp; done) | exact z_m_isGuest _ _ _ _ | exact z_m_isIn _ _ _ _ | exact z_m_isGuest _ _ _ | exact z_m_isIn _ _ _ | exact z_m_isGuest _ _ | exact z_m_isIn _ _
set_option maxRecDepth 100000 in
theorem t_m_oddsBy_60 {S : Nat × (Nat → Int32)} (N : Nat) (K15 : Int32 → Int32 → Int32 → Int32 → Int32 → Int64 → Int64 → Int32 → Mem → Option (Int64 × Mem)) (hK15 : ∀ (x1 : Int32) (x2 : Int32) (x3 : Int32) (x4 : Int32) (x5 : Int32) (x6 : Int64) (x8 : Int64) (x10 : Int32) (M : Mem) (r : Int64) (M' : Mem), K15 x1 x2 x3 x4 x5 x6 x8 x10 M = some (r, M') → am_Y S 3 0 0 am_M212 15 [(0, .ref 129), (1, .int x1), (2, .int x2), (3, .int x3), (4, .int x4), (5, .int x5), (6, .long x6), (8, .long x8), (10, .int x10)] [] (hp M) (some (.long r)) (hp M')) (x1 : Int32) (x2 : Int32) (x3 : Int32) (x4 : Int32) (x5 : Int32) (x6 : Int64) (x8 : Int64) (x10 : Int32) (M : Mem) (r : Int64) (M' : Mem) (h : f_m_oddsBy_60 N K15 x1 x2 x3 x4 x5 x6 x8 x10 M = some (r, M')) : am_Y S 3 0 0 am_M212 60 [(0, .ref 129), (1, .int x1), (2, .int x2), (3, .int x3), (4, .int x4), (5, .int x5), (6, .long x6), (8, .long x8), (10, .int x10)] [] (hp M) (some (.long r)) (hp M') := by
  rw [f_m_oddsBy_60] at h
  refine am_Y.run (k := 9) (pc' := 74) (lv' := [(0, .ref 129), (1, .int x1), (2, .int x2), (3, .int x3), (4, .int x4), (5, .int x5), (6, .long x6), (8, .long x8), (10, .int x10)]) (st' := [.int (((108 : Int32) + ((6 : Int32) * x3)) + x10), .ref 130]) (h' := hp M) rfl ?_
  obtain ⟨g, h⟩ := am_itg h
  refine am_Y.iald (a := 125) (n := 3826) rfl rfl g ?_
  refine am_Y.run (k := 3) (pc' := 80) (lv' := [(12, .int (gi M 130 ((((108 : Int32) + ((6 : Int32) * x3)) + x10)).toNatClampNeg)), (0, .ref 129), (1, .int x1), (2, .int x2), (3, .int x3), (4, .int x4), (5, .int x5), (6, .long x6), (8, .long x8), (10, .int x10)]) (st' := [.int x1, .int x5]) (h' := hp M) rfl ?_
  refine am_Y.call0 (M' := am_M175) (as := [.int x5, .int x1]) (rest := []) (d' := 0) rfl (by omega) rfl rfl (t_m_has x5 x1 M _ rfl) ?_
  refine am_Y.br (c := (f_m_has x5 x1 M) = (0 : Int32)) _ (t := 118) (u := 86) (lv' := [(12, .int (gi M 130 ((((108 : Int32) + ((6 : Int32) * x3)) + x10)).toNatClampNeg)), (0, .ref 129), (1, .int x1), (2, .int x2), (3, .int x3), (4, .int x4), (5, .int x5), (6, .long x6), (8, .long x8), (10, .int x10)]) (st' := []) (h' := hp M) rfl (fun hc => ?_) (fun hc => ?_)
  · replace h := (if_pos hc).symm.trans h
    refine am_Y.run (k := 9) (pc' := 15) (lv' := [(10, .int (x10 + (1 : Int32))), (8, .long (x8 * (Int32.toInt64 ((100 : Int32) - (gi M 130 ((((108 : Int32) + ((6 : Int32) * x3)) + x10)).toNatClampNeg))))), (12, .int (gi M 130 ((((108 : Int32) + ((6 : Int32) * x3)) + x10)).toNatClampNeg)), (0, .ref 129), (1, .int x1), (2, .int x2), (3, .int x3), (4, .int x4), (5, .int x5), (6, .long x6)]) (st' := []) (h' := hp M) rfl ?_
    refine am_Y.weak (lv2 := [(0, .ref 129), (1, .int x1), (2, .int x2), (3, .int x3), (4, .int x4), (5, .int x5), (6, .long x6), (8, .long (x8 * (Int32.toInt64 ((100 : Int32) - (gi M 130 ((((108 : Int32) + ((6 : Int32) * x3)) + x10)).toNatClampNeg))))), (10, .int (x10 + (1 : Int32)))]) rfl rfl ⟨rfl, rfl, rfl, rfl, rfl, rfl, rfl, rfl, rfl, trivial⟩ ?_
    exact hK15 x1 x2 x3 x4 x5 x6 (x8 * (Int32.toInt64 ((100 : Int32) - (gi M 130 ((((108 : Int32) + ((6 : Int32) * x3)) + x10)).toNatClampNeg)))) (x10 + (1 : Int32)) M _ _ h
  · replace h := (if_neg hc).symm.trans h
    refine am_Y.run (k := 10) (pc' := 100) (lv' := [(12, .int (gi M 130 ((((108 : Int32) + ((6 : Int32) * x3)) + x10)).toNatClampNeg)), (0, .ref 129), (1, .int x1), (2, .int x2), (3, .int x3), (4, .int x4), (5, .int x5), (6, .long x6), (8, .long x8), (10, .int x10)]) (st' := [.int ((x2 - (1 : Int32)) - x10), .long (x8 * (Int32.toInt64 (gi M 130 ((((108 : Int32) + ((6 : Int32) * x3)) + x10)).toNatClampNeg))), .long x6]) (h' := hp M) rfl ?_
    obtain ⟨q2, e_q2, h⟩ := Option.bind_eq_some_iff.mp h
    refine am_Y.call0 (M' := am_M178) (as := [.int ((x2 - (1 : Int32)) - x10)]) (rest := [.long (x8 * (Int32.toInt64 (gi M 130 ((((108 : Int32) + ((6 : Int32) * x3)) + x10)).toNatClampNeg))), .long x6]) (d' := 0) rfl (by omega) rfl rfl (t_m_power N ((x2 - (1 : Int32)) - x10) M q2 e_q2) ?_
    refine am_Y.run (k := 3) (pc' := 109) (lv' := [(12, .int (gi M 130 ((((108 : Int32) + ((6 : Int32) * x3)) + x10)).toNatClampNeg)), (0, .ref 129), (1, .int x1), (2, .int x2), (3, .int x3), (4, .int x4), (5, .int x5), (6, .long x6), (8, .long x8), (10, .int x10)]) (st' := [.int x5, .long (840 : Int64), .long ((x8 * (Int32.toInt64 (gi M 130 ((((108 : Int32) + ((6 : Int32) * x3)) + x10)).toNatClampNeg))) * q2), .long x6]) (h' := hp M) rfl ?_
    obtain ⟨q3, e_q3, h⟩ := Option.bind_eq_some_iff.mp h
    refine am_Y.call0 (M' := am_M177) (as := [.int x5]) (rest := [.long (840 : Int64), .long ((x8 * (Int32.toInt64 (gi M 130 ((((108 : Int32) + ((6 : Int32) * x3)) + x10)).toNatClampNeg))) * q2), .long x6]) (d' := 0) rfl (by omega) rfl rfl (t_m_bits N x5 M q3 e_q3) ?_
    refine am_Y.run (k := 1) (pc' := 113) (lv' := [(12, .int (gi M 130 ((((108 : Int32) + ((6 : Int32) * x3)) + x10)).toNatClampNeg)), (0, .ref 129), (1, .int x1), (2, .int x2), (3, .int x3), (4, .int x4), (5, .int x5), (6, .long x6), (8, .long x8), (10, .int x10)]) (st' := [.long (Int32.toInt64 q3), .long (840 : Int64), .long ((x8 * (Int32.toInt64 (gi M 130 ((((108 : Int32) + ((6 : Int32) * x3)) + x10)).toNatClampNeg))) * q2), .long x6]) (h' := hp M) rfl ?_
    obtain ⟨g, h⟩ := am_itn h
    refine am_Y.ldv rfl g ?_
    refine am_Y.run (k := 12) (pc' := 15) (lv' := [(10, .int (x10 + (1 : Int32))), (8, .long (x8 * (Int32.toInt64 ((100 : Int32) - (gi M 130 ((((108 : Int32) + ((6 : Int32) * x3)) + x10)).toNatClampNeg))))), (6, .long (x6 + (((x8 * (Int32.toInt64 (gi M 130 ((((108 : Int32) + ((6 : Int32) * x3)) + x10)).toNatClampNeg))) * q2) * ((840 : Int64) / (Int32.toInt64 q3))))), (12, .int (gi M 130 ((((108 : Int32) + ((6 : Int32) * x3)) + x10)).toNatClampNeg)), (0, .ref 129), (1, .int x1), (2, .int x2), (3, .int x3), (4, .int x4), (5, .int x5)]) (st' := []) (h' := hp M) rfl ?_
    refine am_Y.weak (lv2 := [(0, .ref 129), (1, .int x1), (2, .int x2), (3, .int x3), (4, .int x4), (5, .int x5), (6, .long (x6 + (((x8 * (Int32.toInt64 (gi M 130 ((((108 : Int32) + ((6 : Int32) * x3)) + x10)).toNatClampNeg))) * q2) * ((840 : Int64) / (Int32.toInt64 q3))))), (8, .long (x8 * (Int32.toInt64 ((100 : Int32) - (gi M 130 ((((108 : Int32) + ((6 : Int32) * x3)) + x10)).toNatClampNeg))))), (10, .int (x10 + (1 : Int32)))]) rfl rfl ⟨rfl, rfl, rfl, rfl, rfl, rfl, rfl, rfl, rfl, trivial⟩ ?_
    exact hK15 x1 x2 x3 x4 x5 (x6 + (((x8 * (Int32.toInt64 (gi M 130 ((((108 : Int32) + ((6 : Int32) * x3)) + x10)).toNatClampNeg))) * q2) * ((840 : Int64) / (Int32.toInt64 q3)))) (x8 * (Int32.toInt64 ((100 : Int32) - (gi M 130 ((((108 : Int32) + ((6 : Int32) * x3)) + x10)).toNatClampNeg)))) (x10 + (1 : Int32)) M _ _ h
set_option maxRecDepth 100000 in
theorem t_m_oddsBy_15 {S : Nat × (Nat → Int32)} (N : Nat) : ∀ (n : Nat) (x1 : Int32) (x2 : Int32) (x3 : Int32) (x4 : Int32) (x5 : Int32) (x6 : Int64) (x8 : Int64) (x10 : Int32) (M : Mem) (r : Int64) (M' : Mem), f_m_oddsBy_15 N n x1 x2 x3 x4 x5 x6 x8 x10 M = some (r, M') → am_Y S 3 0 0 am_M212 15 [(0, .ref 129), (1, .int x1), (2, .int x2), (3, .int x3), (4, .int x4), (5, .int x5), (6, .long x6), (8, .long x8), (10, .int x10)] [] (hp M) (some (.long r)) (hp M') := by
  intro n
  induction n with
  | zero =>
    intro x1 x2 x3 x4 x5 x6 x8 x10 M r M' h
    cases h
  | succ n ih =>
    intro x1 x2 x3 x4 x5 x6 x8 x10 M r M' h
    rw [f_m_oddsBy_15] at h
    refine am_Y.run (k := 2) (pc' := 18) (lv' := [(0, .ref 129), (1, .int x1), (2, .int x2), (3, .int x3), (4, .int x4), (5, .int x5), (6, .long x6), (8, .long x8), (10, .int x10)]) (st' := [.int x2, .int x10]) (h' := hp M) rfl ?_
    refine am_Y.br (c := x2 ≤ x10) _ (t := 135) (u := 21) (lv' := [(0, .ref 129), (1, .int x1), (2, .int x2), (3, .int x3), (4, .int x4), (5, .int x5), (6, .long x6), (8, .long x8), (10, .int x10)]) (st' := []) (h' := hp M) rfl (fun hc => ?_) (fun hc => ?_)
    · replace h := (if_pos hc).symm.trans h
      refine am_Y.run (k := 1) (pc' := 137) (lv' := [(0, .ref 129), (1, .int x1), (2, .int x2), (3, .int x3), (4, .int x4), (5, .int x5), (6, .long x6), (8, .long x8), (10, .int x10)]) (st' := [.long x6]) (h' := hp M) rfl ?_
      obtain ⟨rfl, rfl⟩ := Prod.mk.inj (Option.some.inj h)
      exact am_Y.ret rfl
    · replace h := (if_neg hc).symm.trans h
      refine am_Y.run (k := 5) (pc' := 30) (lv' := [(0, .ref 129), (1, .int x1), (2, .int x2), (3, .int x3), (4, .int x4), (5, .int x5), (6, .long x6), (8, .long x8), (10, .int x10)]) (st' := [.int ((120 : Int32) + x10), .ref 130]) (h' := hp M) rfl ?_
      obtain ⟨g, h⟩ := am_itg h
      refine am_Y.iald (a := 125) (n := 3826) rfl rfl g ?_
      refine am_Y.run (k := 2) (pc' := 35) (lv' := [(0, .ref 129), (1, .int x1), (2, .int x2), (3, .int x3), (4, .int x4), (5, .int x5), (6, .long x6), (8, .long x8), (10, .int x10)]) (st' := [.int x10, .int x4, .int (gi M 130 (((120 : Int32) + x10)).toNatClampNeg)]) (h' := hp M) rfl ?_
      refine am_Y.call0 (M' := am_M175) (as := [.int x4, .int x10]) (rest := [.int (gi M 130 (((120 : Int32) + x10)).toNatClampNeg)]) (d' := 0) rfl (by omega) rfl rfl (t_m_has x4 x10 M _ rfl) ?_
      refine am_Y.br (c := (f_m_has x4 x10 M) = (0 : Int32)) _ (t := 47) (u := 41) (lv' := [(0, .ref 129), (1, .int x1), (2, .int x2), (3, .int x3), (4, .int x4), (5, .int x5), (6, .long x6), (8, .long x8), (10, .int x10)]) (st' := [.int (gi M 130 (((120 : Int32) + x10)).toNatClampNeg)]) (h' := hp M) rfl (fun hc => ?_) (fun hc => ?_)
      · replace h := (if_pos hc).symm.trans h
        refine am_Y.run (k := 4) (pc' := 53) (lv' := [(11, .int ((gi M 130 (((120 : Int32) + x10)).toNatClampNeg) ||| (0 : Int32))), (0, .ref 129), (1, .int x1), (2, .int x2), (3, .int x3), (4, .int x4), (5, .int x5), (6, .long x6), (8, .long x8), (10, .int x10)]) (st' := [.int ((gi M 130 (((120 : Int32) + x10)).toNatClampNeg) ||| (0 : Int32))]) (h' := hp M) rfl ?_
        refine am_Y.br (c := ((gi M 130 (((120 : Int32) + x10)).toNatClampNeg) ||| (0 : Int32)) = (0 : Int32)) _ (t := 60) (u := 56) (lv' := [(11, .int ((gi M 130 (((120 : Int32) + x10)).toNatClampNeg) ||| (0 : Int32))), (0, .ref 129), (1, .int x1), (2, .int x2), (3, .int x3), (4, .int x4), (5, .int x5), (6, .long x6), (8, .long x8), (10, .int x10)]) (st' := []) (h' := hp M) rfl (fun hc => ?_) (fun hc => ?_)
        · replace h := (if_pos hc).symm.trans h
          refine am_Y.weak (lv2 := [(0, .ref 129), (1, .int x1), (2, .int x2), (3, .int x3), (4, .int x4), (5, .int x5), (6, .long x6), (8, .long x8), (10, .int x10)]) rfl rfl ⟨rfl, rfl, rfl, rfl, rfl, rfl, rfl, rfl, rfl, trivial⟩ ?_
          exact t_m_oddsBy_60 N _ ih x1 x2 x3 x4 x5 x6 x8 x10 M _ _ h
        · replace h := (if_neg hc).symm.trans h
          refine am_Y.run (k := 2) (pc' := 60) (lv' := [(5, .int ((gi M 130 (((120 : Int32) + x10)).toNatClampNeg) ||| (0 : Int32))), (11, .int ((gi M 130 (((120 : Int32) + x10)).toNatClampNeg) ||| (0 : Int32))), (0, .ref 129), (1, .int x1), (2, .int x2), (3, .int x3), (4, .int x4), (6, .long x6), (8, .long x8), (10, .int x10)]) (st' := []) (h' := hp M) rfl ?_
          refine am_Y.weak (lv2 := [(0, .ref 129), (1, .int x1), (2, .int x2), (3, .int x3), (4, .int x4), (5, .int ((gi M 130 (((120 : Int32) + x10)).toNatClampNeg) ||| (0 : Int32))), (6, .long x6), (8, .long x8), (10, .int x10)]) rfl rfl ⟨rfl, rfl, rfl, rfl, rfl, rfl, rfl, rfl, rfl, trivial⟩ ?_
          exact t_m_oddsBy_60 N _ ih x1 x2 x3 x4 ((gi M 130 (((120 : Int32) + x10)).toNatClampNeg) ||| (0 : Int32)) x6 x8 x10 M _ _ h
      · replace h := (if_neg hc).symm.trans h
        refine am_Y.run (k := 7) (pc' := 53) (lv' := [(11, .int ((gi M 130 (((120 : Int32) + x10)).toNatClampNeg) ||| ((1 : Int32) <<< (x1 &&& 31)))), (0, .ref 129), (1, .int x1), (2, .int x2), (3, .int x3), (4, .int x4), (5, .int x5), (6, .long x6), (8, .long x8), (10, .int x10)]) (st' := [.int ((gi M 130 (((120 : Int32) + x10)).toNatClampNeg) ||| ((1 : Int32) <<< (x1 &&& 31)))]) (h' := hp M) rfl ?_
        refine am_Y.br (c := ((gi M 130 (((120 : Int32) + x10)).toNatClampNeg) ||| ((1 : Int32) <<< (x1 &&& 31))) = (0 : Int32)) _ (t := 60) (u := 56) (lv' := [(11, .int ((gi M 130 (((120 : Int32) + x10)).toNatClampNeg) ||| ((1 : Int32) <<< (x1 &&& 31)))), (0, .ref 129), (1, .int x1), (2, .int x2), (3, .int x3), (4, .int x4), (5, .int x5), (6, .long x6), (8, .long x8), (10, .int x10)]) (st' := []) (h' := hp M) rfl (fun hc => ?_) (fun hc => ?_)
        · replace h := (if_pos hc).symm.trans h
          refine am_Y.weak (lv2 := [(0, .ref 129), (1, .int x1), (2, .int x2), (3, .int x3), (4, .int x4), (5, .int x5), (6, .long x6), (8, .long x8), (10, .int x10)]) rfl rfl ⟨rfl, rfl, rfl, rfl, rfl, rfl, rfl, rfl, rfl, trivial⟩ ?_
          exact t_m_oddsBy_60 N _ ih x1 x2 x3 x4 x5 x6 x8 x10 M _ _ h
        · replace h := (if_neg hc).symm.trans h
          refine am_Y.run (k := 2) (pc' := 60) (lv' := [(5, .int ((gi M 130 (((120 : Int32) + x10)).toNatClampNeg) ||| ((1 : Int32) <<< (x1 &&& 31)))), (11, .int ((gi M 130 (((120 : Int32) + x10)).toNatClampNeg) ||| ((1 : Int32) <<< (x1 &&& 31)))), (0, .ref 129), (1, .int x1), (2, .int x2), (3, .int x3), (4, .int x4), (6, .long x6), (8, .long x8), (10, .int x10)]) (st' := []) (h' := hp M) rfl ?_
          refine am_Y.weak (lv2 := [(0, .ref 129), (1, .int x1), (2, .int x2), (3, .int x3), (4, .int x4), (5, .int ((gi M 130 (((120 : Int32) + x10)).toNatClampNeg) ||| ((1 : Int32) <<< (x1 &&& 31)))), (6, .long x6), (8, .long x8), (10, .int x10)]) rfl rfl ⟨rfl, rfl, rfl, rfl, rfl, rfl, rfl, rfl, rfl, trivial⟩ ?_
          exact t_m_oddsBy_60 N _ ih x1 x2 x3 x4 ((gi M 130 (((120 : Int32) + x10)).toNatClampNeg) ||| ((1 : Int32) <<< (x1 &&& 31))) x6 x8 x10 M _ _ h
set_option maxRecDepth 100000 in
theorem t_m_oddsBy {S : Nat × (Nat → Int32)} (N : Nat) (x1 : Int32) (x2 : Int32) (x3 : Int32) (x4 : Int32) (M : Mem) (r : Int64) (M' : Mem) (h : f_m_oddsBy N x1 x2 x3 x4 M = some (r, M')) : am_Y S 3 0 0 am_M212 0 [(0, .ref 129), (1, .int x1), (2, .int x2), (3, .int x3), (4, .int x4)] [] (hp M) (some (.long r)) (hp M') := by
  rw [f_m_oddsBy] at h
  refine am_Y.run (k := 1) (pc' := 1) (lv' := [(0, .ref 129), (1, .int x1), (2, .int x2), (3, .int x3), (4, .int x4)]) (st' := [.ref 129]) (h' := hp M) rfl ?_
  obtain ⟨q1, e_q1, h⟩ := Option.bind_eq_some_iff.mp h
  refine am_Y.call0 (M' := am_M150) (as := [.ref 129]) (rest := []) (d' := 2) rfl (by omega) rfl rfl (t_m_holdNow N M q1.1 q1.2 e_q1) ?_
  refine am_Y.run (k := 7) (pc' := 15) (lv' := [(10, .int (0 : Int32)), (8, .long (1 : Int64)), (6, .long (0 : Int64)), (5, .int q1.1), (0, .ref 129), (1, .int x1), (2, .int x2), (3, .int x3), (4, .int x4)]) (st' := []) (h' := hp q1.2) rfl ?_
  refine am_Y.weak (lv2 := [(0, .ref 129), (1, .int x1), (2, .int x2), (3, .int x3), (4, .int x4), (5, .int q1.1), (6, .long (0 : Int64)), (8, .long (1 : Int64)), (10, .int (0 : Int32))]) rfl rfl ⟨rfl, rfl, rfl, rfl, rfl, rfl, rfl, rfl, rfl, trivial⟩ ?_
  exact t_m_oddsBy_15 N N x1 x2 x3 x4 q1.1 (0 : Int64) (1 : Int64) (0 : Int32) q1.2 _ _ h
set_option maxRecDepth 100000 in
theorem t_m_when_30 {S : Nat × (Nat → Int32)} (N : Nat) : ∀ (n : Nat) (x1 : Int32) (x2 : Int32) (x3 : Int32) (x4 : Int32) (x5 : Int32) (x6 : Int32) (M : Mem) (r : Int64) (M' : Mem), f_m_when_30 N n x1 x2 x3 x4 x5 x6 M = some (r, M') → am_Y S 4 0 0 am_M81 30 [(0, .ref 129), (1, .int x1), (2, .int x2), (3, .int x3), (4, .int x4), (5, .int x5), (6, .int x6)] [] (hp M) (some (.long r)) (hp M') := by
  intro n
  induction n with
  | zero =>
    intro x1 x2 x3 x4 x5 x6 M r M' h
    cases h
  | succ n ih =>
    intro x1 x2 x3 x4 x5 x6 M r M' h
    rw [f_m_when_30] at h
    refine am_Y.run (k := 2) (pc' := 33) (lv' := [(0, .ref 129), (1, .int x1), (2, .int x2), (3, .int x3), (4, .int x4), (5, .int x5), (6, .int x6)]) (st' := [.int x2, .int x6]) (h' := hp M) rfl ?_
    refine am_Y.br (c := x2 ≤ x6) _ (t := 72) (u := 36) (lv' := [(0, .ref 129), (1, .int x1), (2, .int x2), (3, .int x3), (4, .int x4), (5, .int x5), (6, .int x6)]) (st' := []) (h' := hp M) rfl (fun hc => ?_) (fun hc => ?_)
    · replace h := (if_pos hc).symm.trans h
      refine am_Y.run (k := 1) (pc' := 74) (lv' := [(0, .ref 129), (1, .int x1), (2, .int x2), (3, .int x3), (4, .int x4), (5, .int x5), (6, .int x6)]) (st' := [.int x4]) (h' := hp M) rfl ?_
      refine am_Y.br (c := x4 = (0 : Int32)) _ (t := 77) (u := 83) (lv' := [(0, .ref 129), (1, .int x1), (2, .int x2), (3, .int x3), (4, .int x4), (5, .int x5), (6, .int x6)]) (st' := []) (h' := hp M) rfl (fun hc => ?_) (fun hc => ?_)
      · replace h := (if_pos hc).symm.trans h
        refine am_Y.run (k := 3) (pc' := 116) (lv' := [(0, .ref 129), (1, .int x1), (2, .int x2), (3, .int x3), (4, .int x4), (5, .int x5), (6, .int x6)]) (st' := [.long (Int32.toInt64 x5)]) (h' := hp M) rfl ?_
        obtain ⟨rfl, rfl⟩ := Prod.mk.inj (Option.some.inj h)
        exact am_Y.ret rfl
      · replace h := (if_neg hc).symm.trans h
        refine am_Y.run (k := 7) (pc' := 91) (lv' := [(0, .ref 129), (1, .int x1), (2, .int x2), (3, .int x3), (4, .int x4), (5, .int x5), (6, .int x6)]) (st' := [.int ((1 : Int32) <<< (x5 &&& 31)), .int x3, .int x2, .int x1, .ref 129]) (h' := hp M) rfl ?_
        obtain ⟨q1, e_q1, h⟩ := Option.bind_eq_some_iff.mp h
        refine am_Y.call0 (M' := am_M212) (as := [.ref 129, .int x1, .int x2, .int x3, .int ((1 : Int32) <<< (x5 &&& 31))]) (rest := []) (d' := 3) rfl (by omega) rfl rfl (t_m_oddsBy N x1 x2 x3 ((1 : Int32) <<< (x5 &&& 31)) M q1.1 q1.2 e_q1) ?_
        refine am_Y.run (k := 2) (pc' := 98) (lv' := [(0, .ref 129), (1, .int x1), (2, .int x2), (3, .int x3), (4, .int x4), (5, .int x5), (6, .int x6)]) (st' := [.int x2, .long (840 : Int64), .long q1.1]) (h' := hp q1.2) rfl ?_
        obtain ⟨q2, e_q2, h⟩ := Option.bind_eq_some_iff.mp h
        refine am_Y.call0 (M' := am_M178) (as := [.int x2]) (rest := [.long (840 : Int64), .long q1.1]) (d' := 0) rfl (by omega) rfl rfl (t_m_power N x2 q1.2 q2 e_q2) ?_
        refine am_Y.run (k := 3) (pc' := 105) (lv' := [(0, .ref 129), (1, .int x1), (2, .int x2), (3, .int x3), (4, .int x4), (5, .int x5), (6, .int x6)]) (st' := [.int (2 : Int32), .int x4, .long ((840 : Int64) * q2), .long q1.1]) (h' := hp q1.2) rfl ?_
        refine am_Y.br (c := x4 = (2 : Int32)) _ (t := 108) (u := 112) (lv' := [(0, .ref 129), (1, .int x1), (2, .int x2), (3, .int x3), (4, .int x4), (5, .int x5), (6, .int x6)]) (st' := [.long ((840 : Int64) * q2), .long q1.1]) (h' := hp q1.2) rfl (fun hc => ?_) (fun hc => ?_)
        · replace h := (if_pos hc).symm.trans h
          refine am_Y.run (k := 2) (pc' := 113) (lv' := [(0, .ref 129), (1, .int x1), (2, .int x2), (3, .int x3), (4, .int x4), (5, .int x5), (6, .int x6)]) (st' := [.int (1 : Int32), .long ((840 : Int64) * q2), .long q1.1]) (h' := hp q1.2) rfl ?_
          obtain ⟨q3, e_q3, h⟩ := Option.bind_eq_some_iff.mp h
          refine am_Y.call0 (M' := am_M179) (as := [.long q1.1, .long ((840 : Int64) * q2), .int (1 : Int32)]) (rest := []) (d' := 1) rfl (by omega) rfl rfl (t_m_part N q1.1 ((840 : Int64) * q2) (1 : Int32) q1.2 q3 e_q3) ?_
          obtain ⟨rfl, rfl⟩ := Prod.mk.inj (Option.some.inj h)
          exact am_Y.ret rfl
        · replace h := (if_neg hc).symm.trans h
          refine am_Y.run (k := 1) (pc' := 113) (lv' := [(0, .ref 129), (1, .int x1), (2, .int x2), (3, .int x3), (4, .int x4), (5, .int x5), (6, .int x6)]) (st' := [.int (0 : Int32), .long ((840 : Int64) * q2), .long q1.1]) (h' := hp q1.2) rfl ?_
          obtain ⟨q4, e_q4, h⟩ := Option.bind_eq_some_iff.mp h
          refine am_Y.call0 (M' := am_M179) (as := [.long q1.1, .long ((840 : Int64) * q2), .int (0 : Int32)]) (rest := []) (d' := 1) rfl (by omega) rfl rfl (t_m_part N q1.1 ((840 : Int64) * q2) (0 : Int32) q1.2 q4 e_q4) ?_
          obtain ⟨rfl, rfl⟩ := Prod.mk.inj (Option.some.inj h)
          exact am_Y.ret rfl
    · replace h := (if_neg hc).symm.trans h
      refine am_Y.run (k := 7) (pc' := 44) (lv' := [(0, .ref 129), (1, .int x1), (2, .int x2), (3, .int x3), (4, .int x4), (5, .int x5), (6, .int x6)]) (st' := [.int ((1 : Int32) <<< (x6 &&& 31)), .int x3, .int x2, .int x1, .ref 129]) (h' := hp M) rfl ?_
      obtain ⟨q5, e_q5, h⟩ := Option.bind_eq_some_iff.mp h
      refine am_Y.call0 (M' := am_M212) (as := [.ref 129, .int x1, .int x2, .int x3, .int ((1 : Int32) <<< (x6 &&& 31))]) (rest := []) (d' := 3) rfl (by omega) rfl rfl (t_m_oddsBy N x1 x2 x3 ((1 : Int32) <<< (x6 &&& 31)) M q5.1 q5.2 e_q5) ?_
      refine am_Y.run (k := 7) (pc' := 55) (lv' := [(0, .ref 129), (1, .int x1), (2, .int x2), (3, .int x3), (4, .int x4), (5, .int x5), (6, .int x6)]) (st' := [.int ((1 : Int32) <<< (x5 &&& 31)), .int x3, .int x2, .int x1, .ref 129, .long q5.1]) (h' := hp q5.2) rfl ?_
      obtain ⟨q6, e_q6, h⟩ := Option.bind_eq_some_iff.mp h
      refine am_Y.call0 (M' := am_M212) (as := [.ref 129, .int x1, .int x2, .int x3, .int ((1 : Int32) <<< (x5 &&& 31))]) (rest := [.long q5.1]) (d' := 3) rfl (by omega) rfl rfl (t_m_oddsBy N x1 x2 x3 ((1 : Int32) <<< (x5 &&& 31)) q5.2 q6.1 q6.2 e_q6) ?_
      refine am_Y.run (k := 1) (pc' := 59) (lv' := [(0, .ref 129), (1, .int x1), (2, .int x2), (3, .int x3), (4, .int x4), (5, .int x5), (6, .int x6)]) (st' := [.int (lg_cmp q5.1 q6.1)]) (h' := hp q6.2) rfl ?_
      refine am_Y.br (c := (lg_cmp q5.1 q6.1) ≤ (0 : Int32)) _ (t := 66) (u := 62) (lv' := [(0, .ref 129), (1, .int x1), (2, .int x2), (3, .int x3), (4, .int x4), (5, .int x5), (6, .int x6)]) (st' := []) (h' := hp q6.2) rfl (fun hc => ?_) (fun hc => ?_)
      · replace h := (if_pos hc).symm.trans h
        refine am_Y.run (k := 2) (pc' := 30) (lv' := [(6, .int (x6 + (1 : Int32))), (0, .ref 129), (1, .int x1), (2, .int x2), (3, .int x3), (4, .int x4), (5, .int x5)]) (st' := []) (h' := hp q6.2) rfl ?_
        refine am_Y.weak (lv2 := [(0, .ref 129), (1, .int x1), (2, .int x2), (3, .int x3), (4, .int x4), (5, .int x5), (6, .int (x6 + (1 : Int32)))]) rfl rfl ⟨rfl, rfl, rfl, rfl, rfl, rfl, rfl, trivial⟩ ?_
        exact ih x1 x2 x3 x4 x5 (x6 + (1 : Int32)) q6.2 _ _ h
      · replace h := (if_neg hc).symm.trans h
        refine am_Y.run (k := 4) (pc' := 30) (lv' := [(6, .int (x6 + (1 : Int32))), (5, .int x6), (0, .ref 129), (1, .int x1), (2, .int x2), (3, .int x3), (4, .int x4)]) (st' := []) (h' := hp q6.2) rfl ?_
        refine am_Y.weak (lv2 := [(0, .ref 129), (1, .int x1), (2, .int x2), (3, .int x3), (4, .int x4), (5, .int x6), (6, .int (x6 + (1 : Int32)))]) rfl rfl ⟨rfl, rfl, rfl, rfl, rfl, rfl, rfl, trivial⟩ ?_
        exact ih x1 x2 x3 x4 x6 (x6 + (1 : Int32)) q6.2 _ _ h
set_option maxRecDepth 100000 in
theorem t_m_when {S : Nat × (Nat → Int32)} (N : Nat) (x1 : Int32) (x2 : Int32) (x3 : Int32) (x4 : Int32) (M : Mem) (r : Int64) (M' : Mem) (h : f_m_when N x1 x2 x3 x4 M = some (r, M')) : am_Y S 4 0 0 am_M81 0 [(0, .ref 129), (1, .int x1), (2, .int x2), (3, .int x3), (4, .int x4)] [] (hp M) (some (.long r)) (hp M') := by
  rw [f_m_when] at h
  refine am_Y.run (k := 4) (pc' := 4) (lv' := [(0, .ref 129), (1, .int x1), (2, .int x2), (3, .int x3), (4, .int x4)]) (st' := [.int x3, .int x2, .int x1, .ref 129]) (h' := hp M) rfl ?_
  refine am_Y.call0 (M' := am_M211) (as := [.ref 129, .int x1, .int x2, .int x3]) (rest := []) (d' := 2) rfl (by omega) rfl rfl (t_m_isToCome x1 x2 x3 M _ rfl) ?_
  refine am_Y.br (c := (f_m_isToCome x1 x2 x3 M) = (0 : Int32)) _ (t := 20) (u := 10) (lv' := [(0, .ref 129), (1, .int x1), (2, .int x2), (3, .int x3), (4, .int x4)]) (st' := []) (h' := hp M) rfl (fun hc => ?_) (fun hc => ?_)
  · replace h := (if_pos hc).symm.trans h
    refine am_Y.run (k := 1) (pc' := 23) (lv' := [(0, .ref 129), (1, .int x1), (2, .int x2), (3, .int x3), (4, .int x4)]) (st' := [.long (-1 : Int64)]) (h' := hp M) rfl ?_
    obtain ⟨rfl, rfl⟩ := Prod.mk.inj (Option.some.inj h)
    exact am_Y.ret rfl
  · replace h := (if_neg hc).symm.trans h
    refine am_Y.run (k := 3) (pc' := 14) (lv' := [(0, .ref 129), (1, .int x1), (2, .int x2), (3, .int x3), (4, .int x4)]) (st' := [.int (2 : Int32), .int (0 : Int32), .int x4]) (h' := hp M) rfl ?_
    refine am_Y.call0 (M' := am_M104) (as := [.int x4, .int (0 : Int32), .int (2 : Int32)]) (rest := []) (d' := 0) rfl (by omega) rfl rfl (t_m_isIn x4 (0 : Int32) (2 : Int32) M _ rfl) ?_
    refine am_Y.br (c := (f_m_isIn x4 (0 : Int32) (2 : Int32) M) = (0 : Int32)) _ (t := 20) (u := 24) (lv' := [(0, .ref 129), (1, .int x1), (2, .int x2), (3, .int x3), (4, .int x4)]) (st' := []) (h' := hp M) rfl (fun hc => ?_) (fun hc => ?_)
    · replace h := (if_pos hc).symm.trans h
      refine am_Y.run (k := 1) (pc' := 23) (lv' := [(0, .ref 129), (1, .int x1), (2, .int x2), (3, .int x3), (4, .int x4)]) (st' := [.long (-1 : Int64)]) (h' := hp M) rfl ?_
      obtain ⟨rfl, rfl⟩ := Prod.mk.inj (Option.some.inj h)
      exact am_Y.ret rfl
    · replace h := (if_neg hc).symm.trans h
      refine am_Y.run (k := 4) (pc' := 30) (lv' := [(6, .int (1 : Int32)), (5, .int (0 : Int32)), (0, .ref 129), (1, .int x1), (2, .int x2), (3, .int x3), (4, .int x4)]) (st' := []) (h' := hp M) rfl ?_
      refine am_Y.weak (lv2 := [(0, .ref 129), (1, .int x1), (2, .int x2), (3, .int x3), (4, .int x4), (5, .int (0 : Int32)), (6, .int (1 : Int32))]) rfl rfl ⟨rfl, rfl, rfl, rfl, rfl, rfl, rfl, trivial⟩ ?_
      exact t_m_when_30 N N x1 x2 x3 x4 (0 : Int32) (1 : Int32) M _ _ h
set_option maxRecDepth 100000 in
theorem t_c_bestMoments_17 {S : Nat × (Nat → Int32)} (N : Nat) : ∀ (n : Nat) (x1 : Int32) (x2 : Int32) (x3 : Int32) (x4 : Int32) (x5 : Int32) (x6 : Int64) (x8 : Int32) (M : Mem) (r : Int32), f_c_bestMoments_17 N n x1 x2 x3 x4 x5 x6 x8 M = some r → am_Y S 3 0 0 am_M213 17 [(0, .ref 46), (1, .int x1), (2, .int x2), (3, .int x3), (4, .int x4), (5, .int x5), (6, .long x6), (8, .int x8)] [] (hp M) (some (.int r)) (hp M) := by
  intro n
  induction n with
  | zero =>
    intro x1 x2 x3 x4 x5 x6 x8 M r h
    cases h
  | succ n ih =>
    intro x1 x2 x3 x4 x5 x6 x8 M r h
    rw [f_c_bestMoments_17] at h
    refine am_Y.run (k := 4) (pc' := 22) (lv' := [(0, .ref 46), (1, .int x1), (2, .int x2), (3, .int x3), (4, .int x4), (5, .int x5), (6, .long x6), (8, .int x8)]) (st' := [.int ((1 : Int32) <<< (x2 &&& 31)), .int x8]) (h' := hp M) rfl ?_
    refine am_Y.br (c := ((1 : Int32) <<< (x2 &&& 31)) ≤ x8) _ (t := 93) (u := 25) (lv' := [(0, .ref 46), (1, .int x1), (2, .int x2), (3, .int x3), (4, .int x4), (5, .int x5), (6, .long x6), (8, .int x8)]) (st' := []) (h' := hp M) rfl (fun hc => ?_) (fun hc => ?_)
    · replace h := (if_pos hc).symm.trans h
      refine am_Y.run (k := 1) (pc' := 95) (lv' := [(0, .ref 46), (1, .int x1), (2, .int x2), (3, .int x3), (4, .int x4), (5, .int x5), (6, .long x6), (8, .int x8)]) (st' := [.int x5]) (h' := hp M) rfl ?_
      obtain rfl := Option.some.inj h
      exact am_Y.ret rfl
    · replace h := (if_neg hc).symm.trans h
      refine am_Y.run (k := 1) (pc' := 27) (lv' := [(0, .ref 46), (1, .int x1), (2, .int x2), (3, .int x3), (4, .int x4), (5, .int x5), (6, .long x6), (8, .int x8)]) (st' := [.int x8]) (h' := hp M) rfl ?_
      refine am_Y.call0 (M' := am_M259) (as := [.int x8]) (rest := []) (d' := 0) rfl (by omega) rfl rfl (t_k_bitCount x8 M _ rfl) ?_
      refine am_Y.run (k := 3) (pc' := 35) (lv' := [(9, .int (f_k_bitCount x8 M)), (0, .ref 46), (1, .int x1), (2, .int x2), (3, .int x3), (4, .int x4), (5, .int x5), (6, .long x6), (8, .int x8)]) (st' := [.int x3, .int (f_k_bitCount x8 M)]) (h' := hp M) rfl ?_
      refine am_Y.br (c := (f_k_bitCount x8 M) ≤ x3) _ (t := 41) (u := 38) (lv' := [(9, .int (f_k_bitCount x8 M)), (0, .ref 46), (1, .int x1), (2, .int x2), (3, .int x3), (4, .int x4), (5, .int x5), (6, .long x6), (8, .int x8)]) (st' := []) (h' := hp M) rfl (fun hc => ?_) (fun hc => ?_)
      · replace h := (if_pos hc).symm.trans h
        refine am_Y.run (k := 5) (pc' := 48) (lv' := [(9, .int (f_k_bitCount x8 M)), (0, .ref 46), (1, .int x1), (2, .int x2), (3, .int x3), (4, .int x4), (5, .int x5), (6, .long x6), (8, .int x8)]) (st' := [.int x8, .int x4, .int x2, .int x1, .ref 46]) (h' := hp M) rfl ?_
        obtain ⟨q2, e_q2, h⟩ := Option.bind_eq_some_iff.mp h
        refine am_Y.call0 (M' := am_M210) (as := [.ref 46, .int x1, .int x2, .int x4, .int x8]) (rest := []) (d' := 2) rfl (by omega) rfl rfl (t_c_part N x1 x2 x4 x8 M q2 e_q2) ?_
        refine am_Y.run (k := 4) (pc' := 58) (lv' := [(10, .long q2), (9, .int (f_k_bitCount x8 M)), (0, .ref 46), (1, .int x1), (2, .int x2), (3, .int x3), (4, .int x4), (5, .int x5), (6, .long x6), (8, .int x8)]) (st' := [.int (lg_cmp q2 x6)]) (h' := hp M) rfl ?_
        refine am_Y.br (c := (0 : Int32) < (lg_cmp q2 x6)) _ (t := 79) (u := 61) (lv' := [(10, .long q2), (9, .int (f_k_bitCount x8 M)), (0, .ref 46), (1, .int x1), (2, .int x2), (3, .int x3), (4, .int x4), (5, .int x5), (6, .long x6), (8, .int x8)]) (st' := []) (h' := hp M) rfl (fun hc => ?_) (fun hc => ?_)
        · replace h := (if_pos hc).symm.trans h
          refine am_Y.run (k := 6) (pc' := 17) (lv' := [(8, .int (x8 + (1 : Int32))), (6, .long q2), (5, .int x8), (10, .long q2), (9, .int (f_k_bitCount x8 M)), (0, .ref 46), (1, .int x1), (2, .int x2), (3, .int x3), (4, .int x4)]) (st' := []) (h' := hp M) rfl ?_
          refine am_Y.weak (lv2 := [(0, .ref 46), (1, .int x1), (2, .int x2), (3, .int x3), (4, .int x4), (5, .int x8), (6, .long q2), (8, .int (x8 + (1 : Int32)))]) rfl rfl ⟨rfl, rfl, rfl, rfl, rfl, rfl, rfl, rfl, trivial⟩ ?_
          exact ih x1 x2 x3 x4 x8 q2 (x8 + (1 : Int32)) M _ h
        · replace h := (if_neg hc).symm.trans h
          refine am_Y.run (k := 3) (pc' := 66) (lv' := [(10, .long q2), (9, .int (f_k_bitCount x8 M)), (0, .ref 46), (1, .int x1), (2, .int x2), (3, .int x3), (4, .int x4), (5, .int x5), (6, .long x6), (8, .int x8)]) (st' := [.int (lg_cmp q2 x6)]) (h' := hp M) rfl ?_
          refine am_Y.br (c := (lg_cmp q2 x6) = (0 : Int32)) _ (t := 69) (u := 87) (lv' := [(10, .long q2), (9, .int (f_k_bitCount x8 M)), (0, .ref 46), (1, .int x1), (2, .int x2), (3, .int x3), (4, .int x4), (5, .int x5), (6, .long x6), (8, .int x8)]) (st' := []) (h' := hp M) rfl (fun hc => ?_) (fun hc => ?_)
          · replace h := (if_pos hc).symm.trans h
            refine am_Y.run (k := 2) (pc' := 73) (lv' := [(10, .long q2), (9, .int (f_k_bitCount x8 M)), (0, .ref 46), (1, .int x1), (2, .int x2), (3, .int x3), (4, .int x4), (5, .int x5), (6, .long x6), (8, .int x8)]) (st' := [.int x5, .int (f_k_bitCount x8 M)]) (h' := hp M) rfl ?_
            refine am_Y.call0 (M' := am_M259) (as := [.int x5]) (rest := [.int (f_k_bitCount x8 M)]) (d' := 0) rfl (by omega) rfl rfl (t_k_bitCount x5 M _ rfl) ?_
            refine am_Y.br (c := (f_k_bitCount x5 M) ≤ (f_k_bitCount x8 M)) _ (t := 87) (u := 79) (lv' := [(10, .long q2), (9, .int (f_k_bitCount x8 M)), (0, .ref 46), (1, .int x1), (2, .int x2), (3, .int x3), (4, .int x4), (5, .int x5), (6, .long x6), (8, .int x8)]) (st' := []) (h' := hp M) rfl (fun hc => ?_) (fun hc => ?_)
            · replace h := (if_pos hc).symm.trans h
              refine am_Y.run (k := 2) (pc' := 17) (lv' := [(8, .int (x8 + (1 : Int32))), (10, .long q2), (9, .int (f_k_bitCount x8 M)), (0, .ref 46), (1, .int x1), (2, .int x2), (3, .int x3), (4, .int x4), (5, .int x5), (6, .long x6)]) (st' := []) (h' := hp M) rfl ?_
              refine am_Y.weak (lv2 := [(0, .ref 46), (1, .int x1), (2, .int x2), (3, .int x3), (4, .int x4), (5, .int x5), (6, .long x6), (8, .int (x8 + (1 : Int32)))]) rfl rfl ⟨rfl, rfl, rfl, rfl, rfl, rfl, rfl, rfl, trivial⟩ ?_
              exact ih x1 x2 x3 x4 x5 x6 (x8 + (1 : Int32)) M _ h
            · replace h := (if_neg hc).symm.trans h
              refine am_Y.run (k := 6) (pc' := 17) (lv' := [(8, .int (x8 + (1 : Int32))), (6, .long q2), (5, .int x8), (10, .long q2), (9, .int (f_k_bitCount x8 M)), (0, .ref 46), (1, .int x1), (2, .int x2), (3, .int x3), (4, .int x4)]) (st' := []) (h' := hp M) rfl ?_
              refine am_Y.weak (lv2 := [(0, .ref 46), (1, .int x1), (2, .int x2), (3, .int x3), (4, .int x4), (5, .int x8), (6, .long q2), (8, .int (x8 + (1 : Int32)))]) rfl rfl ⟨rfl, rfl, rfl, rfl, rfl, rfl, rfl, rfl, trivial⟩ ?_
              exact ih x1 x2 x3 x4 x8 q2 (x8 + (1 : Int32)) M _ h
          · replace h := (if_neg hc).symm.trans h
            refine am_Y.run (k := 2) (pc' := 17) (lv' := [(8, .int (x8 + (1 : Int32))), (10, .long q2), (9, .int (f_k_bitCount x8 M)), (0, .ref 46), (1, .int x1), (2, .int x2), (3, .int x3), (4, .int x4), (5, .int x5), (6, .long x6)]) (st' := []) (h' := hp M) rfl ?_
            refine am_Y.weak (lv2 := [(0, .ref 46), (1, .int x1), (2, .int x2), (3, .int x3), (4, .int x4), (5, .int x5), (6, .long x6), (8, .int (x8 + (1 : Int32)))]) rfl rfl ⟨rfl, rfl, rfl, rfl, rfl, rfl, rfl, rfl, trivial⟩ ?_
            exact ih x1 x2 x3 x4 x5 x6 (x8 + (1 : Int32)) M _ h
      · replace h := (if_neg hc).symm.trans h
        refine am_Y.run (k := 3) (pc' := 17) (lv' := [(8, .int (x8 + (1 : Int32))), (9, .int (f_k_bitCount x8 M)), (0, .ref 46), (1, .int x1), (2, .int x2), (3, .int x3), (4, .int x4), (5, .int x5), (6, .long x6)]) (st' := []) (h' := hp M) rfl ?_
        refine am_Y.weak (lv2 := [(0, .ref 46), (1, .int x1), (2, .int x2), (3, .int x3), (4, .int x4), (5, .int x5), (6, .long x6), (8, .int (x8 + (1 : Int32)))]) rfl rfl ⟨rfl, rfl, rfl, rfl, rfl, rfl, rfl, rfl, trivial⟩ ?_
        exact ih x1 x2 x3 x4 x5 x6 (x8 + (1 : Int32)) M _ h
set_option maxRecDepth 100000 in
theorem t_c_bestMoments {S : Nat × (Nat → Int32)} (N : Nat) (x1 : Int32) (x2 : Int32) (x3 : Int32) (x4 : Int32) (M : Mem) (r : Int32) (h : f_c_bestMoments N x1 x2 x3 x4 M = some r) : am_Y S 3 0 0 am_M213 0 [(0, .ref 46), (1, .int x1), (2, .int x2), (3, .int x3), (4, .int x4)] [] (hp M) (some (.int r)) (hp M) := by
  rw [f_c_bestMoments] at h
  refine am_Y.run (k := 7) (pc' := 9) (lv' := [(5, .int (0 : Int32)), (0, .ref 46), (1, .int x1), (2, .int x2), (3, .int x3), (4, .int x4)]) (st' := [.int (0 : Int32), .int x4, .int x2, .int x1, .ref 46]) (h' := hp M) rfl ?_
  obtain ⟨q1, e_q1, h⟩ := Option.bind_eq_some_iff.mp h
  refine am_Y.call0 (M' := am_M210) (as := [.ref 46, .int x1, .int x2, .int x4, .int (0 : Int32)]) (rest := []) (d' := 2) rfl (by omega) rfl rfl (t_c_part N x1 x2 x4 (0 : Int32) M q1 e_q1) ?_
  refine am_Y.run (k := 3) (pc' := 17) (lv' := [(8, .int (1 : Int32)), (6, .long q1), (5, .int (0 : Int32)), (0, .ref 46), (1, .int x1), (2, .int x2), (3, .int x3), (4, .int x4)]) (st' := []) (h' := hp M) rfl ?_
  refine am_Y.weak (lv2 := [(0, .ref 46), (1, .int x1), (2, .int x2), (3, .int x3), (4, .int x4), (5, .int (0 : Int32)), (6, .long q1), (8, .int (1 : Int32))]) rfl rfl ⟨rfl, rfl, rfl, rfl, rfl, rfl, rfl, rfl, trivial⟩ ?_
  exact t_c_bestMoments_17 N N x1 x2 x3 x4 (0 : Int32) q1 (1 : Int32) M _ h
set_option maxRecDepth 100000 in
theorem t_w_words {S : Nat × (Nat → Int32)} (N : Nat) (x1 : Int32) (x2 : Int32) (x3 : Int32) (x4 : Int32) (x5 : Int32) (M : Mem) (r : Int64) (M' : Mem) (h : f_w_words N x1 x2 x3 x4 x5 M = some (r, M')) : am_Y S 4 0 0 am_M82 0 [(0, .ref 5), (1, .int x1), (2, .int x2), (3, .int x3), (4, .int x4), (5, .int x5)] [] (hp M) (some (.long r)) (hp M') := by
  rw [f_w_words] at h
  refine am_Y.run (k := 4) (pc' := 5) (lv' := [(0, .ref 5), (1, .int x1), (2, .int x2), (3, .int x3), (4, .int x4), (5, .int x5)]) (st' := [.int x4, .int x2, .int x1, .ref 5]) (h' := hp M) rfl ?_
  refine am_Y.call0 (M' := am_M207) (as := [.ref 5, .int x1, .int x2, .int x4]) (rest := []) (d' := 2) rfl (by omega) rfl rfl (t_w_isToCome x1 x2 x4 M _ rfl) ?_
  refine am_Y.br (c := (f_w_isToCome x1 x2 x4 M) = (0 : Int32)) _ (t := 31) (u := 11) (lv' := [(0, .ref 5), (1, .int x1), (2, .int x2), (3, .int x3), (4, .int x4), (5, .int x5)]) (st' := []) (h' := hp M) rfl (fun hc => ?_) (fun hc => ?_)
  · replace h := (if_pos hc).symm.trans h
    refine am_Y.run (k := 1) (pc' := 34) (lv' := [(0, .ref 5), (1, .int x1), (2, .int x2), (3, .int x3), (4, .int x4), (5, .int x5)]) (st' := [.long (-1 : Int64)]) (h' := hp M) rfl ?_
    obtain ⟨rfl, rfl⟩ := Prod.mk.inj (Option.some.inj h)
    exact am_Y.ret rfl
  · replace h := (if_neg hc).symm.trans h
    refine am_Y.run (k := 3) (pc' := 15) (lv' := [(0, .ref 5), (1, .int x1), (2, .int x2), (3, .int x3), (4, .int x4), (5, .int x5)]) (st' := [.int (6 : Int32), .int (0 : Int32), .int x3]) (h' := hp M) rfl ?_
    refine am_Y.call0 (M' := am_M102) (as := [.int x3, .int (0 : Int32), .int (6 : Int32)]) (rest := []) (d' := 0) rfl (by omega) rfl rfl (t_w_within x3 (0 : Int32) (6 : Int32) M _ rfl) ?_
    refine am_Y.br (c := (f_w_within x3 (0 : Int32) (6 : Int32) M) = (0 : Int32)) _ (t := 31) (u := 21) (lv' := [(0, .ref 5), (1, .int x1), (2, .int x2), (3, .int x3), (4, .int x4), (5, .int x5)]) (st' := []) (h' := hp M) rfl (fun hc => ?_) (fun hc => ?_)
    · replace h := (if_pos hc).symm.trans h
      refine am_Y.run (k := 1) (pc' := 34) (lv' := [(0, .ref 5), (1, .int x1), (2, .int x2), (3, .int x3), (4, .int x4), (5, .int x5)]) (st' := [.long (-1 : Int64)]) (h' := hp M) rfl ?_
      obtain ⟨rfl, rfl⟩ := Prod.mk.inj (Option.some.inj h)
      exact am_Y.ret rfl
    · replace h := (if_neg hc).symm.trans h
      refine am_Y.run (k := 3) (pc' := 25) (lv' := [(0, .ref 5), (1, .int x1), (2, .int x2), (3, .int x3), (4, .int x4), (5, .int x5)]) (st' := [.int (2 : Int32), .int (0 : Int32), .int x5]) (h' := hp M) rfl ?_
      refine am_Y.call0 (M' := am_M102) (as := [.int x5, .int (0 : Int32), .int (2 : Int32)]) (rest := []) (d' := 0) rfl (by omega) rfl rfl (t_w_within x5 (0 : Int32) (2 : Int32) M _ rfl) ?_
      refine am_Y.br (c := (f_w_within x5 (0 : Int32) (2 : Int32) M) = (0 : Int32)) _ (t := 31) (u := 35) (lv' := [(0, .ref 5), (1, .int x1), (2, .int x2), (3, .int x3), (4, .int x4), (5, .int x5)]) (st' := []) (h' := hp M) rfl (fun hc => ?_) (fun hc => ?_)
      · replace h := (if_pos hc).symm.trans h
        refine am_Y.run (k := 1) (pc' := 34) (lv' := [(0, .ref 5), (1, .int x1), (2, .int x2), (3, .int x3), (4, .int x4), (5, .int x5)]) (st' := [.long (-1 : Int64)]) (h' := hp M) rfl ?_
        obtain ⟨rfl, rfl⟩ := Prod.mk.inj (Option.some.inj h)
        exact am_Y.ret rfl
      · replace h := (if_neg hc).symm.trans h
        refine am_Y.run (k := 8) (pc' := 53) (lv' := [(6, .ref 46), (0, .ref 5), (1, .int x1), (2, .int x2), (3, .int x3), (4, .int x4), (5, .int x5)]) (st' := [.ref 11, .ref 46]) (h' := hp M) rfl ?_
        obtain ⟨q1, e_q1, h⟩ := Option.bind_eq_some_iff.mp h
        refine am_Y.call0 (M' := am_M148) (as := [.ref 11]) (rest := [.ref 46]) (d' := 2) rfl (by omega) rfl rfl (t_e_holdNow N M q1 e_q1) ?_
        obtain ⟨q2, e_q2, h⟩ := Option.bind_eq_some_iff.mp h
        refine am_Y.call0 (M' := am_M208) (as := [.ref 46, .int q1]) (rest := []) (d' := 0) rfl (by omega) rfl rfl (t_c_startWith q1 M q2 e_q2) ?_
        refine am_Y.run (k := 5) (pc' := 66) (lv' := [(6, .ref 46), (0, .ref 5), (1, .int x1), (2, .int x2), (3, .int x3), (4, .int x4), (5, .int x5)]) (st' := [.int x4, .int x3, .int x2, .int x1, .ref 46]) (h' := hp q2) rfl ?_
        obtain ⟨q3, e_q3, h⟩ := Option.bind_eq_some_iff.mp h
        refine am_Y.call0 (M' := am_M213) (as := [.ref 46, .int x1, .int x2, .int x3, .int x4]) (rest := []) (d' := 3) rfl (by omega) rfl rfl (t_c_bestMoments N x1 x2 x3 x4 q2 q3 e_q3) ?_
        refine am_Y.run (k := 2) (pc' := 73) (lv' := [(7, .int q3), (6, .ref 46), (0, .ref 5), (1, .int x1), (2, .int x2), (3, .int x3), (4, .int x4), (5, .int x5)]) (st' := [.int x5]) (h' := hp q2) rfl ?_
        refine am_Y.br (c := x5 = (0 : Int32)) _ (t := 76) (u := 80) (lv' := [(7, .int q3), (6, .ref 46), (0, .ref 5), (1, .int x1), (2, .int x2), (3, .int x3), (4, .int x4), (5, .int x5)]) (st' := []) (h' := hp q2) rfl (fun hc => ?_) (fun hc => ?_)
        · replace h := (if_pos hc).symm.trans h
          refine am_Y.run (k := 2) (pc' := 79) (lv' := [(7, .int q3), (6, .ref 46), (0, .ref 5), (1, .int x1), (2, .int x2), (3, .int x3), (4, .int x4), (5, .int x5)]) (st' := [.long (Int32.toInt64 q3)]) (h' := hp q2) rfl ?_
          obtain ⟨rfl, rfl⟩ := Prod.mk.inj (Option.some.inj h)
          exact am_Y.ret rfl
        · replace h := (if_neg hc).symm.trans h
          refine am_Y.run (k := 5) (pc' := 88) (lv' := [(7, .int q3), (6, .ref 46), (0, .ref 5), (1, .int x1), (2, .int x2), (3, .int x3), (4, .int x4), (5, .int x5)]) (st' := [.int q3, .int x4, .int x2, .int x1, .ref 46]) (h' := hp q2) rfl ?_
          obtain ⟨q4, e_q4, h⟩ := Option.bind_eq_some_iff.mp h
          refine am_Y.call0 (M' := am_M210) (as := [.ref 46, .int x1, .int x2, .int x4, .int q3]) (rest := []) (d' := 2) rfl (by omega) rfl rfl (t_c_part N x1 x2 x4 q3 q2 q4 e_q4) ?_
          refine am_Y.run (k := 2) (pc' := 95) (lv' := [(7, .int q3), (6, .ref 46), (0, .ref 5), (1, .int x1), (2, .int x2), (3, .int x3), (4, .int x4), (5, .int x5)]) (st' := [.int x2, .long (840 : Int64), .long q4]) (h' := hp q2) rfl ?_
          obtain ⟨q5, e_q5, h⟩ := Option.bind_eq_some_iff.mp h
          refine am_Y.call0 (M' := am_M172) (as := [.int x2]) (rest := [.long (840 : Int64), .long q4]) (d' := 0) rfl (by omega) rfl rfl (t_w_hundreds N x2 q2 q5 e_q5) ?_
          refine am_Y.run (k := 3) (pc' := 102) (lv' := [(7, .int q3), (6, .ref 46), (0, .ref 5), (1, .int x1), (2, .int x2), (3, .int x3), (4, .int x4), (5, .int x5)]) (st' := [.int (2 : Int32), .int x5, .long ((840 : Int64) * q5), .long q4]) (h' := hp q2) rfl ?_
          refine am_Y.br (c := x5 = (2 : Int32)) _ (t := 105) (u := 109) (lv' := [(7, .int q3), (6, .ref 46), (0, .ref 5), (1, .int x1), (2, .int x2), (3, .int x3), (4, .int x4), (5, .int x5)]) (st' := [.long ((840 : Int64) * q5), .long q4]) (h' := hp q2) rfl (fun hc => ?_) (fun hc => ?_)
          · replace h := (if_pos hc).symm.trans h
            refine am_Y.run (k := 2) (pc' := 110) (lv' := [(7, .int q3), (6, .ref 46), (0, .ref 5), (1, .int x1), (2, .int x2), (3, .int x3), (4, .int x4), (5, .int x5)]) (st' := [.int (1 : Int32), .long ((840 : Int64) * q5), .long q4]) (h' := hp q2) rfl ?_
            obtain ⟨q6, e_q6, h⟩ := Option.bind_eq_some_iff.mp h
            refine am_Y.call0 (M' := am_M173) (as := [.long q4, .long ((840 : Int64) * q5), .int (1 : Int32)]) (rest := []) (d' := 1) rfl (by omega) rfl rfl (t_w_lowest N q4 ((840 : Int64) * q5) (1 : Int32) q2 q6 e_q6) ?_
            obtain ⟨rfl, rfl⟩ := Prod.mk.inj (Option.some.inj h)
            exact am_Y.ret rfl
          · replace h := (if_neg hc).symm.trans h
            refine am_Y.run (k := 1) (pc' := 110) (lv' := [(7, .int q3), (6, .ref 46), (0, .ref 5), (1, .int x1), (2, .int x2), (3, .int x3), (4, .int x4), (5, .int x5)]) (st' := [.int (0 : Int32), .long ((840 : Int64) * q5), .long q4]) (h' := hp q2) rfl ?_
            obtain ⟨q7, e_q7, h⟩ := Option.bind_eq_some_iff.mp h
            refine am_Y.call0 (M' := am_M173) (as := [.long q4, .long ((840 : Int64) * q5), .int (0 : Int32)]) (rest := []) (d' := 1) rfl (by omega) rfl rfl (t_w_lowest N q4 ((840 : Int64) * q5) (0 : Int32) q2 q7 e_q7) ?_
            obtain ⟨rfl, rfl⟩ := Prod.mk.inj (Option.some.inj h)
            exact am_Y.ret rfl
set_option maxRecDepth 100000 in
theorem t_m_bestWords_6 {S : Nat × (Nat → Int32)} (N : Nat) : ∀ (n : Nat) (x1 : Int32) (x2 : Int32) (x3 : Int32) (x4 : Int32) (x5 : Int32) (x6 : Int32) (M : Mem) (r : Int32) (M' : Mem), f_m_bestWords_6 N n x1 x2 x3 x4 x5 x6 M = some (r, M') → am_Y S 4 0 0 am_M214 6 [(0, .ref 129), (1, .int x1), (2, .int x2), (3, .int x3), (4, .int x4), (5, .int x5), (6, .int x6)] [] (hp M) (some (.int r)) (hp M') := by
  intro n
  induction n with
  | zero =>
    intro x1 x2 x3 x4 x5 x6 M r M' h
    cases h
  | succ n ih =>
    intro x1 x2 x3 x4 x5 x6 M r M' h
    rw [f_m_bestWords_6] at h
    refine am_Y.run (k := 4) (pc' := 11) (lv' := [(0, .ref 129), (1, .int x1), (2, .int x2), (3, .int x3), (4, .int x4), (5, .int x5), (6, .int x6)]) (st' := [.int ((1 : Int32) <<< (x2 &&& 31)), .int x6]) (h' := hp M) rfl ?_
    refine am_Y.br (c := ((1 : Int32) <<< (x2 &&& 31)) ≤ x6) _ (t := 85) (u := 14) (lv' := [(0, .ref 129), (1, .int x1), (2, .int x2), (3, .int x3), (4, .int x4), (5, .int x5), (6, .int x6)]) (st' := []) (h' := hp M) rfl (fun hc => ?_) (fun hc => ?_)
    · replace h := (if_pos hc).symm.trans h
      refine am_Y.run (k := 1) (pc' := 87) (lv' := [(0, .ref 129), (1, .int x1), (2, .int x2), (3, .int x3), (4, .int x4), (5, .int x5), (6, .int x6)]) (st' := [.int x5]) (h' := hp M) rfl ?_
      obtain ⟨rfl, rfl⟩ := Prod.mk.inj (Option.some.inj h)
      exact am_Y.ret rfl
    · replace h := (if_neg hc).symm.trans h
      refine am_Y.run (k := 1) (pc' := 16) (lv' := [(0, .ref 129), (1, .int x1), (2, .int x2), (3, .int x3), (4, .int x4), (5, .int x5), (6, .int x6)]) (st' := [.int x6]) (h' := hp M) rfl ?_
      obtain ⟨q1, e_q1, h⟩ := Option.bind_eq_some_iff.mp h
      refine am_Y.call0 (M' := am_M177) (as := [.int x6]) (rest := []) (d' := 0) rfl (by omega) rfl rfl (t_m_bits N x6 M q1 e_q1) ?_
      refine am_Y.run (k := 1) (pc' := 21) (lv' := [(0, .ref 129), (1, .int x1), (2, .int x2), (3, .int x3), (4, .int x4), (5, .int x5), (6, .int x6)]) (st' := [.int x4, .int q1]) (h' := hp M) rfl ?_
      refine am_Y.br (c := q1 ≤ x4) _ (t := 27) (u := 24) (lv' := [(0, .ref 129), (1, .int x1), (2, .int x2), (3, .int x3), (4, .int x4), (5, .int x5), (6, .int x6)]) (st' := []) (h' := hp M) rfl (fun hc => ?_) (fun hc => ?_)
      · replace h := (if_pos hc).symm.trans h
        refine am_Y.run (k := 5) (pc' := 33) (lv' := [(0, .ref 129), (1, .int x1), (2, .int x2), (3, .int x3), (4, .int x4), (5, .int x5), (6, .int x6)]) (st' := [.int x6, .int x3, .int x2, .int x1, .ref 129]) (h' := hp M) rfl ?_
        obtain ⟨q2, e_q2, h⟩ := Option.bind_eq_some_iff.mp h
        refine am_Y.call0 (M' := am_M212) (as := [.ref 129, .int x1, .int x2, .int x3, .int x6]) (rest := []) (d' := 3) rfl (by omega) rfl rfl (t_m_oddsBy N x1 x2 x3 x6 M q2.1 q2.2 e_q2) ?_
        refine am_Y.run (k := 5) (pc' := 42) (lv' := [(0, .ref 129), (1, .int x1), (2, .int x2), (3, .int x3), (4, .int x4), (5, .int x5), (6, .int x6)]) (st' := [.int x5, .int x3, .int x2, .int x1, .ref 129, .long q2.1]) (h' := hp q2.2) rfl ?_
        obtain ⟨q3, e_q3, h⟩ := Option.bind_eq_some_iff.mp h
        refine am_Y.call0 (M' := am_M212) (as := [.ref 129, .int x1, .int x2, .int x3, .int x5]) (rest := [.long q2.1]) (d' := 3) rfl (by omega) rfl rfl (t_m_oddsBy N x1 x2 x3 x5 q2.2 q3.1 q3.2 e_q3) ?_
        refine am_Y.run (k := 5) (pc' := 52) (lv' := [(7, .long (q2.1 - q3.1)), (0, .ref 129), (1, .int x1), (2, .int x2), (3, .int x3), (4, .int x4), (5, .int x5), (6, .int x6)]) (st' := [.int (lg_cmp (q2.1 - q3.1) (0 : Int64))]) (h' := hp q3.2) rfl ?_
        refine am_Y.br (c := (0 : Int32) < (lg_cmp (q2.1 - q3.1) (0 : Int64))) _ (t := 75) (u := 55) (lv' := [(7, .long (q2.1 - q3.1)), (0, .ref 129), (1, .int x1), (2, .int x2), (3, .int x3), (4, .int x4), (5, .int x5), (6, .int x6)]) (st' := []) (h' := hp q3.2) rfl (fun hc => ?_) (fun hc => ?_)
        · replace h := (if_pos hc).symm.trans h
          refine am_Y.run (k := 4) (pc' := 6) (lv' := [(6, .int (x6 + (1 : Int32))), (5, .int x6), (7, .long (q2.1 - q3.1)), (0, .ref 129), (1, .int x1), (2, .int x2), (3, .int x3), (4, .int x4)]) (st' := []) (h' := hp q3.2) rfl ?_
          refine am_Y.weak (lv2 := [(0, .ref 129), (1, .int x1), (2, .int x2), (3, .int x3), (4, .int x4), (5, .int x6), (6, .int (x6 + (1 : Int32)))]) rfl rfl ⟨rfl, rfl, rfl, rfl, rfl, rfl, rfl, trivial⟩ ?_
          exact ih x1 x2 x3 x4 x6 (x6 + (1 : Int32)) q3.2 _ _ h
        · replace h := (if_neg hc).symm.trans h
          refine am_Y.run (k := 3) (pc' := 59) (lv' := [(7, .long (q2.1 - q3.1)), (0, .ref 129), (1, .int x1), (2, .int x2), (3, .int x3), (4, .int x4), (5, .int x5), (6, .int x6)]) (st' := [.int (lg_cmp (q2.1 - q3.1) (0 : Int64))]) (h' := hp q3.2) rfl ?_
          refine am_Y.br (c := (lg_cmp (q2.1 - q3.1) (0 : Int64)) = (0 : Int32)) _ (t := 62) (u := 79) (lv' := [(7, .long (q2.1 - q3.1)), (0, .ref 129), (1, .int x1), (2, .int x2), (3, .int x3), (4, .int x4), (5, .int x5), (6, .int x6)]) (st' := []) (h' := hp q3.2) rfl (fun hc => ?_) (fun hc => ?_)
          · replace h := (if_pos hc).symm.trans h
            refine am_Y.run (k := 1) (pc' := 64) (lv' := [(7, .long (q2.1 - q3.1)), (0, .ref 129), (1, .int x1), (2, .int x2), (3, .int x3), (4, .int x4), (5, .int x5), (6, .int x6)]) (st' := [.int x6]) (h' := hp q3.2) rfl ?_
            obtain ⟨q4, e_q4, h⟩ := Option.bind_eq_some_iff.mp h
            refine am_Y.call0 (M' := am_M177) (as := [.int x6]) (rest := []) (d' := 0) rfl (by omega) rfl rfl (t_m_bits N x6 q3.2 q4 e_q4) ?_
            refine am_Y.run (k := 1) (pc' := 69) (lv' := [(7, .long (q2.1 - q3.1)), (0, .ref 129), (1, .int x1), (2, .int x2), (3, .int x3), (4, .int x4), (5, .int x5), (6, .int x6)]) (st' := [.int x5, .int q4]) (h' := hp q3.2) rfl ?_
            obtain ⟨q5, e_q5, h⟩ := Option.bind_eq_some_iff.mp h
            refine am_Y.call0 (M' := am_M177) (as := [.int x5]) (rest := [.int q4]) (d' := 0) rfl (by omega) rfl rfl (t_m_bits N x5 q3.2 q5 e_q5) ?_
            refine am_Y.br (c := q5 ≤ q4) _ (t := 79) (u := 75) (lv' := [(7, .long (q2.1 - q3.1)), (0, .ref 129), (1, .int x1), (2, .int x2), (3, .int x3), (4, .int x4), (5, .int x5), (6, .int x6)]) (st' := []) (h' := hp q3.2) rfl (fun hc => ?_) (fun hc => ?_)
            · replace h := (if_pos hc).symm.trans h
              refine am_Y.run (k := 2) (pc' := 6) (lv' := [(6, .int (x6 + (1 : Int32))), (7, .long (q2.1 - q3.1)), (0, .ref 129), (1, .int x1), (2, .int x2), (3, .int x3), (4, .int x4), (5, .int x5)]) (st' := []) (h' := hp q3.2) rfl ?_
              refine am_Y.weak (lv2 := [(0, .ref 129), (1, .int x1), (2, .int x2), (3, .int x3), (4, .int x4), (5, .int x5), (6, .int (x6 + (1 : Int32)))]) rfl rfl ⟨rfl, rfl, rfl, rfl, rfl, rfl, rfl, trivial⟩ ?_
              exact ih x1 x2 x3 x4 x5 (x6 + (1 : Int32)) q3.2 _ _ h
            · replace h := (if_neg hc).symm.trans h
              refine am_Y.run (k := 4) (pc' := 6) (lv' := [(6, .int (x6 + (1 : Int32))), (5, .int x6), (7, .long (q2.1 - q3.1)), (0, .ref 129), (1, .int x1), (2, .int x2), (3, .int x3), (4, .int x4)]) (st' := []) (h' := hp q3.2) rfl ?_
              refine am_Y.weak (lv2 := [(0, .ref 129), (1, .int x1), (2, .int x2), (3, .int x3), (4, .int x4), (5, .int x6), (6, .int (x6 + (1 : Int32)))]) rfl rfl ⟨rfl, rfl, rfl, rfl, rfl, rfl, rfl, trivial⟩ ?_
              exact ih x1 x2 x3 x4 x6 (x6 + (1 : Int32)) q3.2 _ _ h
          · replace h := (if_neg hc).symm.trans h
            refine am_Y.run (k := 2) (pc' := 6) (lv' := [(6, .int (x6 + (1 : Int32))), (7, .long (q2.1 - q3.1)), (0, .ref 129), (1, .int x1), (2, .int x2), (3, .int x3), (4, .int x4), (5, .int x5)]) (st' := []) (h' := hp q3.2) rfl ?_
            refine am_Y.weak (lv2 := [(0, .ref 129), (1, .int x1), (2, .int x2), (3, .int x3), (4, .int x4), (5, .int x5), (6, .int (x6 + (1 : Int32)))]) rfl rfl ⟨rfl, rfl, rfl, rfl, rfl, rfl, rfl, trivial⟩ ?_
            exact ih x1 x2 x3 x4 x5 (x6 + (1 : Int32)) q3.2 _ _ h
      · replace h := (if_neg hc).symm.trans h
        refine am_Y.run (k := 3) (pc' := 6) (lv' := [(6, .int (x6 + (1 : Int32))), (0, .ref 129), (1, .int x1), (2, .int x2), (3, .int x3), (4, .int x4), (5, .int x5)]) (st' := []) (h' := hp M) rfl ?_
        refine am_Y.weak (lv2 := [(0, .ref 129), (1, .int x1), (2, .int x2), (3, .int x3), (4, .int x4), (5, .int x5), (6, .int (x6 + (1 : Int32)))]) rfl rfl ⟨rfl, rfl, rfl, rfl, rfl, rfl, rfl, trivial⟩ ?_
        exact ih x1 x2 x3 x4 x5 (x6 + (1 : Int32)) M _ _ h
set_option maxRecDepth 100000 in
theorem t_m_bestWords {S : Nat × (Nat → Int32)} (N : Nat) (x1 : Int32) (x2 : Int32) (x3 : Int32) (x4 : Int32) (M : Mem) (r : Int32) (M' : Mem) (h : f_m_bestWords N x1 x2 x3 x4 M = some (r, M')) : am_Y S 4 0 0 am_M214 0 [(0, .ref 129), (1, .int x1), (2, .int x2), (3, .int x3), (4, .int x4)] [] (hp M) (some (.int r)) (hp M') := by
  rw [f_m_bestWords] at h
  refine am_Y.run (k := 4) (pc' := 6) (lv' := [(6, .int (1 : Int32)), (5, .int (0 : Int32)), (0, .ref 129), (1, .int x1), (2, .int x2), (3, .int x3), (4, .int x4)]) (st' := []) (h' := hp M) rfl ?_
  refine am_Y.weak (lv2 := [(0, .ref 129), (1, .int x1), (2, .int x2), (3, .int x3), (4, .int x4), (5, .int (0 : Int32)), (6, .int (1 : Int32))]) rfl rfl ⟨rfl, rfl, rfl, rfl, rfl, rfl, rfl, trivial⟩ ?_
  exact t_m_bestWords_6 N N x1 x2 x3 x4 (0 : Int32) (1 : Int32) M _ _ h
set_option maxRecDepth 100000 in
theorem t_m_words {S : Nat × (Nat → Int32)} (N : Nat) (x1 : Int32) (x2 : Int32) (x3 : Int32) (x4 : Int32) (x5 : Int32) (M : Mem) (r : Int64) (M' : Mem) (h : f_m_words N x1 x2 x3 x4 x5 M = some (r, M')) : am_Y S 5 0 0 am_M83 0 [(0, .ref 129), (1, .int x1), (2, .int x2), (3, .int x3), (4, .int x4), (5, .int x5)] [] (hp M) (some (.long r)) (hp M') := by
  rw [f_m_words] at h
  refine am_Y.run (k := 4) (pc' := 5) (lv' := [(0, .ref 129), (1, .int x1), (2, .int x2), (3, .int x3), (4, .int x4), (5, .int x5)]) (st' := [.int x4, .int x2, .int x1, .ref 129]) (h' := hp M) rfl ?_
  refine am_Y.call0 (M' := am_M211) (as := [.ref 129, .int x1, .int x2, .int x4]) (rest := []) (d' := 2) rfl (by omega) rfl rfl (t_m_isToCome x1 x2 x4 M _ rfl) ?_
  refine am_Y.br (c := (f_m_isToCome x1 x2 x4 M) = (0 : Int32)) _ (t := 31) (u := 11) (lv' := [(0, .ref 129), (1, .int x1), (2, .int x2), (3, .int x3), (4, .int x4), (5, .int x5)]) (st' := []) (h' := hp M) rfl (fun hc => ?_) (fun hc => ?_)
  · replace h := (if_pos hc).symm.trans h
    refine am_Y.run (k := 1) (pc' := 34) (lv' := [(0, .ref 129), (1, .int x1), (2, .int x2), (3, .int x3), (4, .int x4), (5, .int x5)]) (st' := [.long (-1 : Int64)]) (h' := hp M) rfl ?_
    obtain ⟨rfl, rfl⟩ := Prod.mk.inj (Option.some.inj h)
    exact am_Y.ret rfl
  · replace h := (if_neg hc).symm.trans h
    refine am_Y.run (k := 3) (pc' := 15) (lv' := [(0, .ref 129), (1, .int x1), (2, .int x2), (3, .int x3), (4, .int x4), (5, .int x5)]) (st' := [.int (6 : Int32), .int (0 : Int32), .int x3]) (h' := hp M) rfl ?_
    refine am_Y.call0 (M' := am_M104) (as := [.int x3, .int (0 : Int32), .int (6 : Int32)]) (rest := []) (d' := 0) rfl (by omega) rfl rfl (t_m_isIn x3 (0 : Int32) (6 : Int32) M _ rfl) ?_
    refine am_Y.br (c := (f_m_isIn x3 (0 : Int32) (6 : Int32) M) = (0 : Int32)) _ (t := 31) (u := 21) (lv' := [(0, .ref 129), (1, .int x1), (2, .int x2), (3, .int x3), (4, .int x4), (5, .int x5)]) (st' := []) (h' := hp M) rfl (fun hc => ?_) (fun hc => ?_)
    · replace h := (if_pos hc).symm.trans h
      refine am_Y.run (k := 1) (pc' := 34) (lv' := [(0, .ref 129), (1, .int x1), (2, .int x2), (3, .int x3), (4, .int x4), (5, .int x5)]) (st' := [.long (-1 : Int64)]) (h' := hp M) rfl ?_
      obtain ⟨rfl, rfl⟩ := Prod.mk.inj (Option.some.inj h)
      exact am_Y.ret rfl
    · replace h := (if_neg hc).symm.trans h
      refine am_Y.run (k := 3) (pc' := 25) (lv' := [(0, .ref 129), (1, .int x1), (2, .int x2), (3, .int x3), (4, .int x4), (5, .int x5)]) (st' := [.int (2 : Int32), .int (0 : Int32), .int x5]) (h' := hp M) rfl ?_
      refine am_Y.call0 (M' := am_M104) (as := [.int x5, .int (0 : Int32), .int (2 : Int32)]) (rest := []) (d' := 0) rfl (by omega) rfl rfl (t_m_isIn x5 (0 : Int32) (2 : Int32) M _ rfl) ?_
      refine am_Y.br (c := (f_m_isIn x5 (0 : Int32) (2 : Int32) M) = (0 : Int32)) _ (t := 31) (u := 35) (lv' := [(0, .ref 129), (1, .int x1), (2, .int x2), (3, .int x3), (4, .int x4), (5, .int x5)]) (st' := []) (h' := hp M) rfl (fun hc => ?_) (fun hc => ?_)
      · replace h := (if_pos hc).symm.trans h
        refine am_Y.run (k := 1) (pc' := 34) (lv' := [(0, .ref 129), (1, .int x1), (2, .int x2), (3, .int x3), (4, .int x4), (5, .int x5)]) (st' := [.long (-1 : Int64)]) (h' := hp M) rfl ?_
        obtain ⟨rfl, rfl⟩ := Prod.mk.inj (Option.some.inj h)
        exact am_Y.ret rfl
      · replace h := (if_neg hc).symm.trans h
        refine am_Y.run (k := 5) (pc' := 41) (lv' := [(0, .ref 129), (1, .int x1), (2, .int x2), (3, .int x3), (4, .int x4), (5, .int x5)]) (st' := [.int x3, .int x4, .int x2, .int x1, .ref 129]) (h' := hp M) rfl ?_
        obtain ⟨q1, e_q1, h⟩ := Option.bind_eq_some_iff.mp h
        refine am_Y.call0 (M' := am_M214) (as := [.ref 129, .int x1, .int x2, .int x4, .int x3]) (rest := []) (d' := 4) rfl (by omega) rfl rfl (t_m_bestWords N x1 x2 x4 x3 M q1.1 q1.2 e_q1) ?_
        refine am_Y.run (k := 2) (pc' := 48) (lv' := [(6, .int q1.1), (0, .ref 129), (1, .int x1), (2, .int x2), (3, .int x3), (4, .int x4), (5, .int x5)]) (st' := [.int x5]) (h' := hp q1.2) rfl ?_
        refine am_Y.br (c := x5 = (0 : Int32)) _ (t := 51) (u := 57) (lv' := [(6, .int q1.1), (0, .ref 129), (1, .int x1), (2, .int x2), (3, .int x3), (4, .int x4), (5, .int x5)]) (st' := []) (h' := hp q1.2) rfl (fun hc => ?_) (fun hc => ?_)
        · replace h := (if_pos hc).symm.trans h
          refine am_Y.run (k := 3) (pc' := 89) (lv' := [(6, .int q1.1), (0, .ref 129), (1, .int x1), (2, .int x2), (3, .int x3), (4, .int x4), (5, .int x5)]) (st' := [.long (Int32.toInt64 q1.1)]) (h' := hp q1.2) rfl ?_
          obtain ⟨rfl, rfl⟩ := Prod.mk.inj (Option.some.inj h)
          exact am_Y.ret rfl
        · replace h := (if_neg hc).symm.trans h
          refine am_Y.run (k := 5) (pc' := 64) (lv' := [(6, .int q1.1), (0, .ref 129), (1, .int x1), (2, .int x2), (3, .int x3), (4, .int x4), (5, .int x5)]) (st' := [.int q1.1, .int x4, .int x2, .int x1, .ref 129]) (h' := hp q1.2) rfl ?_
          obtain ⟨q2, e_q2, h⟩ := Option.bind_eq_some_iff.mp h
          refine am_Y.call0 (M' := am_M212) (as := [.ref 129, .int x1, .int x2, .int x4, .int q1.1]) (rest := []) (d' := 3) rfl (by omega) rfl rfl (t_m_oddsBy N x1 x2 x4 q1.1 q1.2 q2.1 q2.2 e_q2) ?_
          refine am_Y.run (k := 2) (pc' := 71) (lv' := [(6, .int q1.1), (0, .ref 129), (1, .int x1), (2, .int x2), (3, .int x3), (4, .int x4), (5, .int x5)]) (st' := [.int x2, .long (840 : Int64), .long q2.1]) (h' := hp q2.2) rfl ?_
          obtain ⟨q3, e_q3, h⟩ := Option.bind_eq_some_iff.mp h
          refine am_Y.call0 (M' := am_M178) (as := [.int x2]) (rest := [.long (840 : Int64), .long q2.1]) (d' := 0) rfl (by omega) rfl rfl (t_m_power N x2 q2.2 q3 e_q3) ?_
          refine am_Y.run (k := 3) (pc' := 78) (lv' := [(6, .int q1.1), (0, .ref 129), (1, .int x1), (2, .int x2), (3, .int x3), (4, .int x4), (5, .int x5)]) (st' := [.int (2 : Int32), .int x5, .long ((840 : Int64) * q3), .long q2.1]) (h' := hp q2.2) rfl ?_
          refine am_Y.br (c := x5 = (2 : Int32)) _ (t := 81) (u := 85) (lv' := [(6, .int q1.1), (0, .ref 129), (1, .int x1), (2, .int x2), (3, .int x3), (4, .int x4), (5, .int x5)]) (st' := [.long ((840 : Int64) * q3), .long q2.1]) (h' := hp q2.2) rfl (fun hc => ?_) (fun hc => ?_)
          · replace h := (if_pos hc).symm.trans h
            refine am_Y.run (k := 2) (pc' := 86) (lv' := [(6, .int q1.1), (0, .ref 129), (1, .int x1), (2, .int x2), (3, .int x3), (4, .int x4), (5, .int x5)]) (st' := [.int (1 : Int32), .long ((840 : Int64) * q3), .long q2.1]) (h' := hp q2.2) rfl ?_
            obtain ⟨q4, e_q4, h⟩ := Option.bind_eq_some_iff.mp h
            refine am_Y.call0 (M' := am_M179) (as := [.long q2.1, .long ((840 : Int64) * q3), .int (1 : Int32)]) (rest := []) (d' := 1) rfl (by omega) rfl rfl (t_m_part N q2.1 ((840 : Int64) * q3) (1 : Int32) q2.2 q4 e_q4) ?_
            obtain ⟨rfl, rfl⟩ := Prod.mk.inj (Option.some.inj h)
            exact am_Y.ret rfl
          · replace h := (if_neg hc).symm.trans h
            refine am_Y.run (k := 1) (pc' := 86) (lv' := [(6, .int q1.1), (0, .ref 129), (1, .int x1), (2, .int x2), (3, .int x3), (4, .int x4), (5, .int x5)]) (st' := [.int (0 : Int32), .long ((840 : Int64) * q3), .long q2.1]) (h' := hp q2.2) rfl ?_
            obtain ⟨q5, e_q5, h⟩ := Option.bind_eq_some_iff.mp h
            refine am_Y.call0 (M' := am_M179) (as := [.long q2.1, .long ((840 : Int64) * q3), .int (0 : Int32)]) (rest := []) (d' := 1) rfl (by omega) rfl rfl (t_m_part N q2.1 ((840 : Int64) * q3) (0 : Int32) q2.2 q5 e_q5) ?_
            obtain ⟨rfl, rfl⟩ := Prod.mk.inj (Option.some.inj h)
            exact am_Y.ret rfl
set_option maxRecDepth 100000 in
theorem t_c_fewestFor_34 {S : Nat × (Nat → Int32)} (N : Nat) (K6 : Int32 → Int32 → Int32 → Int64 → Int32 → Int32 → Mem → Option Int32) (hK6 : ∀ (x1 : Int32) (x2 : Int32) (x3 : Int32) (x4 : Int64) (x6 : Int32) (x7 : Int32) (M : Mem) (r : Int32), K6 x1 x2 x3 x4 x6 x7 M = some r → am_Y S 3 0 0 am_M215 6 [(0, .ref 46), (1, .int x1), (2, .int x2), (3, .int x3), (4, .long x4), (6, .int x6), (7, .int x7)] [] (hp M) (some (.int r)) (hp M)) (x1 : Int32) (x2 : Int32) (x3 : Int32) (x4 : Int64) (x6 : Int32) (x7 : Int32) (x8 : Int32) (M : Mem) (r : Int32) (h : f_c_fewestFor_34 N K6 x1 x2 x3 x4 x6 x7 x8 M = some r) : am_Y S 3 0 0 am_M215 34 [(0, .ref 46), (1, .int x1), (2, .int x2), (3, .int x3), (4, .long x4), (6, .int x6), (7, .int x7), (8, .int x8)] [] (hp M) (some (.int r)) (hp M) := by
  rw [f_c_fewestFor_34] at h
  refine am_Y.run (k := 5) (pc' := 40) (lv' := [(0, .ref 46), (1, .int x1), (2, .int x2), (3, .int x3), (4, .long x4), (6, .int x6), (7, .int x7), (8, .int x8)]) (st' := [.int x7, .int x3, .int x2, .int x1, .ref 46]) (h' := hp M) rfl ?_
  obtain ⟨q1, e_q1, h⟩ := Option.bind_eq_some_iff.mp h
  refine am_Y.call0 (M' := am_M210) (as := [.ref 46, .int x1, .int x2, .int x3, .int x7]) (rest := []) (d' := 2) rfl (by omega) rfl rfl (t_c_part N x1 x2 x3 x7 M q1 e_q1) ?_
  refine am_Y.run (k := 2) (pc' := 46) (lv' := [(0, .ref 46), (1, .int x1), (2, .int x2), (3, .int x3), (4, .long x4), (6, .int x6), (7, .int x7), (8, .int x8)]) (st' := [.int (lg_cmp q1 x4)]) (h' := hp M) rfl ?_
  refine am_Y.br (c := (lg_cmp q1 x4) < (0 : Int32)) _ (t := 53) (u := 49) (lv' := [(0, .ref 46), (1, .int x1), (2, .int x2), (3, .int x3), (4, .long x4), (6, .int x6), (7, .int x7), (8, .int x8)]) (st' := []) (h' := hp M) rfl (fun hc => ?_) (fun hc => ?_)
  · replace h := (if_pos hc).symm.trans h
    refine am_Y.run (k := 2) (pc' := 6) (lv' := [(7, .int (x7 + (1 : Int32))), (0, .ref 46), (1, .int x1), (2, .int x2), (3, .int x3), (4, .long x4), (6, .int x6), (8, .int x8)]) (st' := []) (h' := hp M) rfl ?_
    refine am_Y.weak (lv2 := [(0, .ref 46), (1, .int x1), (2, .int x2), (3, .int x3), (4, .long x4), (6, .int x6), (7, .int (x7 + (1 : Int32)))]) rfl rfl ⟨rfl, rfl, rfl, rfl, rfl, rfl, rfl, trivial⟩ ?_
    exact hK6 x1 x2 x3 x4 x6 (x7 + (1 : Int32)) M _ h
  · replace h := (if_neg hc).symm.trans h
    refine am_Y.run (k := 4) (pc' := 6) (lv' := [(7, .int (x7 + (1 : Int32))), (6, .int x8), (0, .ref 46), (1, .int x1), (2, .int x2), (3, .int x3), (4, .long x4), (8, .int x8)]) (st' := []) (h' := hp M) rfl ?_
    refine am_Y.weak (lv2 := [(0, .ref 46), (1, .int x1), (2, .int x2), (3, .int x3), (4, .long x4), (6, .int x8), (7, .int (x7 + (1 : Int32)))]) rfl rfl ⟨rfl, rfl, rfl, rfl, rfl, rfl, rfl, trivial⟩ ?_
    exact hK6 x1 x2 x3 x4 x8 (x7 + (1 : Int32)) M _ h
set_option maxRecDepth 100000 in
theorem t_c_fewestFor_6 {S : Nat × (Nat → Int32)} (N : Nat) : ∀ (n : Nat) (x1 : Int32) (x2 : Int32) (x3 : Int32) (x4 : Int64) (x6 : Int32) (x7 : Int32) (M : Mem) (r : Int32), f_c_fewestFor_6 N n x1 x2 x3 x4 x6 x7 M = some r → am_Y S 3 0 0 am_M215 6 [(0, .ref 46), (1, .int x1), (2, .int x2), (3, .int x3), (4, .long x4), (6, .int x6), (7, .int x7)] [] (hp M) (some (.int r)) (hp M) := by
  intro n
  induction n with
  | zero =>
    intro x1 x2 x3 x4 x6 x7 M r h
    cases h
  | succ n ih =>
    intro x1 x2 x3 x4 x6 x7 M r h
    rw [f_c_fewestFor_6] at h
    refine am_Y.run (k := 4) (pc' := 11) (lv' := [(0, .ref 46), (1, .int x1), (2, .int x2), (3, .int x3), (4, .long x4), (6, .int x6), (7, .int x7)]) (st' := [.int ((1 : Int32) <<< (x2 &&& 31)), .int x7]) (h' := hp M) rfl ?_
    refine am_Y.br (c := ((1 : Int32) <<< (x2 &&& 31)) ≤ x7) _ (t := 59) (u := 14) (lv' := [(0, .ref 46), (1, .int x1), (2, .int x2), (3, .int x3), (4, .long x4), (6, .int x6), (7, .int x7)]) (st' := []) (h' := hp M) rfl (fun hc => ?_) (fun hc => ?_)
    · replace h := (if_pos hc).symm.trans h
      refine am_Y.run (k := 1) (pc' := 61) (lv' := [(0, .ref 46), (1, .int x1), (2, .int x2), (3, .int x3), (4, .long x4), (6, .int x6), (7, .int x7)]) (st' := [.int x6]) (h' := hp M) rfl ?_
      obtain rfl := Option.some.inj h
      exact am_Y.ret rfl
    · replace h := (if_neg hc).symm.trans h
      refine am_Y.run (k := 1) (pc' := 16) (lv' := [(0, .ref 46), (1, .int x1), (2, .int x2), (3, .int x3), (4, .long x4), (6, .int x6), (7, .int x7)]) (st' := [.int x7]) (h' := hp M) rfl ?_
      refine am_Y.call0 (M' := am_M259) (as := [.int x7]) (rest := []) (d' := 0) rfl (by omega) rfl rfl (t_k_bitCount x7 M _ rfl) ?_
      refine am_Y.run (k := 3) (pc' := 24) (lv' := [(8, .int (f_k_bitCount x7 M)), (0, .ref 46), (1, .int x1), (2, .int x2), (3, .int x3), (4, .long x4), (6, .int x6), (7, .int x7)]) (st' := [.int (-1 : Int32), .int x6]) (h' := hp M) rfl ?_
      refine am_Y.br (c := x6 = (-1 : Int32)) _ (t := 34) (u := 27) (lv' := [(8, .int (f_k_bitCount x7 M)), (0, .ref 46), (1, .int x1), (2, .int x2), (3, .int x3), (4, .long x4), (6, .int x6), (7, .int x7)]) (st' := []) (h' := hp M) rfl (fun hc => ?_) (fun hc => ?_)
      · replace h := (if_pos hc).symm.trans h
        refine am_Y.weak (lv2 := [(0, .ref 46), (1, .int x1), (2, .int x2), (3, .int x3), (4, .long x4), (6, .int x6), (7, .int x7), (8, .int (f_k_bitCount x7 M))]) rfl rfl ⟨rfl, rfl, rfl, rfl, rfl, rfl, rfl, rfl, trivial⟩ ?_
        exact t_c_fewestFor_34 N _ ih x1 x2 x3 x4 x6 x7 (f_k_bitCount x7 M) M _ h
      · replace h := (if_neg hc).symm.trans h
        refine am_Y.run (k := 2) (pc' := 31) (lv' := [(8, .int (f_k_bitCount x7 M)), (0, .ref 46), (1, .int x1), (2, .int x2), (3, .int x3), (4, .long x4), (6, .int x6), (7, .int x7)]) (st' := [.int x6, .int (f_k_bitCount x7 M)]) (h' := hp M) rfl ?_
        refine am_Y.br (c := x6 ≤ (f_k_bitCount x7 M)) _ (t := 53) (u := 34) (lv' := [(8, .int (f_k_bitCount x7 M)), (0, .ref 46), (1, .int x1), (2, .int x2), (3, .int x3), (4, .long x4), (6, .int x6), (7, .int x7)]) (st' := []) (h' := hp M) rfl (fun hc => ?_) (fun hc => ?_)
        · replace h := (if_pos hc).symm.trans h
          refine am_Y.run (k := 2) (pc' := 6) (lv' := [(7, .int (x7 + (1 : Int32))), (8, .int (f_k_bitCount x7 M)), (0, .ref 46), (1, .int x1), (2, .int x2), (3, .int x3), (4, .long x4), (6, .int x6)]) (st' := []) (h' := hp M) rfl ?_
          refine am_Y.weak (lv2 := [(0, .ref 46), (1, .int x1), (2, .int x2), (3, .int x3), (4, .long x4), (6, .int x6), (7, .int (x7 + (1 : Int32)))]) rfl rfl ⟨rfl, rfl, rfl, rfl, rfl, rfl, rfl, trivial⟩ ?_
          exact ih x1 x2 x3 x4 x6 (x7 + (1 : Int32)) M _ h
        · replace h := (if_neg hc).symm.trans h
          refine am_Y.weak (lv2 := [(0, .ref 46), (1, .int x1), (2, .int x2), (3, .int x3), (4, .long x4), (6, .int x6), (7, .int x7), (8, .int (f_k_bitCount x7 M))]) rfl rfl ⟨rfl, rfl, rfl, rfl, rfl, rfl, rfl, rfl, trivial⟩ ?_
          exact t_c_fewestFor_34 N _ ih x1 x2 x3 x4 x6 x7 (f_k_bitCount x7 M) M _ h
set_option maxRecDepth 100000 in
theorem t_c_fewestFor {S : Nat × (Nat → Int32)} (N : Nat) (x1 : Int32) (x2 : Int32) (x3 : Int32) (x4 : Int64) (M : Mem) (r : Int32) (h : f_c_fewestFor N x1 x2 x3 x4 M = some r) : am_Y S 3 0 0 am_M215 0 [(0, .ref 46), (1, .int x1), (2, .int x2), (3, .int x3), (4, .long x4)] [] (hp M) (some (.int r)) (hp M) := by
  rw [f_c_fewestFor] at h
  refine am_Y.run (k := 4) (pc' := 6) (lv' := [(7, .int (0 : Int32)), (6, .int (-1 : Int32)), (0, .ref 46), (1, .int x1), (2, .int x2), (3, .int x3), (4, .long x4)]) (st' := []) (h' := hp M) rfl ?_
  refine am_Y.weak (lv2 := [(0, .ref 46), (1, .int x1), (2, .int x2), (3, .int x3), (4, .long x4), (6, .int (-1 : Int32)), (7, .int (0 : Int32))]) rfl rfl ⟨rfl, rfl, rfl, rfl, rfl, rfl, rfl, trivial⟩ ?_
  exact t_c_fewestFor_6 N N x1 x2 x3 x4 (-1 : Int32) (0 : Int32) M _ h
