/-! AM does what the functions say. -/
set_option maxRecDepth 100000 in
theorem t_e_page {S : Nat × (Nat → Int32)} (x1 : Int32) (M : Mem) (r : Int32) (h : f_e_page x1 M = some r) : am_Y S 0 0 0 am_M162 0 [(0, .ref 11), (1, .int x1)] [] (hp M) (some (.int r)) (hp M) := by
  rw [f_e_page] at h
  refine am_Y.run (k := 1) (pc' := 1) (lv' := [(0, .ref 11), (1, .int x1)]) (st' := [.int x1]) (h' := hp M) rfl ?_
  refine am_Y.br (c := x1 < (0 : Int32)) _ (t := 22) (u := 4) (lv' := [(0, .ref 11), (1, .int x1)]) (st' := []) (h' := hp M) rfl (fun hc => ?_) (fun hc => ?_)
  · replace h := (if_pos hc).symm.trans h
    refine am_Y.run (k := 1) (pc' := 23) (lv' := [(0, .ref 11), (1, .int x1)]) (st' := [.int (0 : Int32)]) (h' := hp M) rfl ?_
    obtain rfl := Option.some.inj h
    exact am_Y.ret rfl
  · replace h := (if_neg hc).symm.trans h
    refine am_Y.run (k := 2) (pc' := 7) (lv' := [(0, .ref 11), (1, .int x1)]) (st' := [.int (20 : Int32), .int x1]) (h' := hp M) rfl ?_
    refine am_Y.br (c := (20 : Int32) ≤ x1) _ (t := 22) (u := 10) (lv' := [(0, .ref 11), (1, .int x1)]) (st' := []) (h' := hp M) rfl (fun hc => ?_) (fun hc => ?_)
    · replace h := (if_pos hc).symm.trans h
      refine am_Y.run (k := 1) (pc' := 23) (lv' := [(0, .ref 11), (1, .int x1)]) (st' := [.int (0 : Int32)]) (h' := hp M) rfl ?_
      obtain rfl := Option.some.inj h
      exact am_Y.ret rfl
    · replace h := (if_neg hc).symm.trans h
      refine am_Y.run (k := 5) (pc' := 18) (lv' := [(0, .ref 11), (1, .int x1)]) (st' := [.int ((46 : Int32) + x1), .ref 12]) (h' := hp M) rfl ?_
      obtain ⟨g, h⟩ := am_itg h
      refine am_Y.iald (a := 7) (n := 66) rfl rfl g ?_
      refine am_Y.run (k := 1) (pc' := 23) (lv' := [(0, .ref 11), (1, .int x1)]) (st' := [.int (gi M 12 (((46 : Int32) + x1)).toNatClampNeg)]) (h' := hp M) rfl ?_
      obtain rfl := Option.some.inj h
      exact am_Y.ret rfl
set_option maxRecDepth 100000 in
theorem t_e_nightOf {S : Nat × (Nat → Int32)} (x0 : Int32) (M : Mem) (r : Int32) (h : f_e_nightOf x0 M = r) : am_Y S 0 0 0 am_M163 0 [(0, .int x0)] [] (hp M) (some (.int r)) (hp M) := by
  rw [f_e_nightOf] at h
  refine am_Y.run (k := 3) (pc' := 5) (lv' := [(0, .int x0)]) (st' := [.int (x0 &&& (1023 : Int32))]) (h' := hp M) rfl ?_
  subst h
  exact am_Y.ret rfl
set_option maxRecDepth 100000 in
theorem t_e_heirsOf {S : Nat × (Nat → Int32)} (x0 : Int32) (M : Mem) (r : Int32) (h : f_e_heirsOf x0 M = r) : am_Y S 0 0 0 am_M164 0 [(0, .int x0)] [] (hp M) (some (.int r)) (hp M) := by
  rw [f_e_heirsOf] at h
  refine am_Y.run (k := 5) (pc' := 8) (lv' := [(0, .int x0)]) (st' := [.int ((x0 >>> (10 : Int32)) &&& (255 : Int32))]) (h' := hp M) rfl ?_
  subst h
  exact am_Y.ret rfl
set_option maxRecDepth 100000 in
theorem t_e_diesOf {S : Nat × (Nat → Int32)} (x0 : Int32) (M : Mem) (r : Int32) (h : f_e_diesOf x0 M = r) : am_Y S 0 0 0 am_M165 0 [(0, .int x0)] [] (hp M) (some (.int r)) (hp M) := by
  rw [f_e_diesOf] at h
  refine am_Y.run (k := 3) (pc' := 4) (lv' := [(0, .int x0)]) (st' := [.int (x0 >>> (18 : Int32))]) (h' := hp M) rfl ?_
  subst h
  exact am_Y.ret rfl
set_option maxRecDepth 100000 in
theorem t_w_book {S : Nat × (Nat → Int32)} (x1 : Int32) (x2 : Int32) (M : Mem) (r : Int32) (h : f_w_book x1 x2 M = some r) : am_Y S 1 0 0 am_M36 0 [(0, .ref 5), (1, .int x1), (2, .int x2)] [] (hp M) (some (.int r)) (hp M) := by
  rw [f_w_book] at h
  refine am_Y.run (k := 6) (pc' := 10) (lv' := [(3, .ref 11), (0, .ref 5), (1, .int x1), (2, .int x2)]) (st' := [.int (-1 : Int32), .int x1]) (h' := hp M) rfl ?_
  refine am_Y.br (c := x1 = (-1 : Int32)) _ (t := 13) (u := 18) (lv' := [(3, .ref 11), (0, .ref 5), (1, .int x1), (2, .int x2)]) (st' := []) (h' := hp M) rfl (fun hc => ?_) (fun hc => ?_)
  · replace h := (if_pos hc).symm.trans h
    refine am_Y.run (k := 1) (pc' := 14) (lv' := [(3, .ref 11), (0, .ref 5), (1, .int x1), (2, .int x2)]) (st' := [.ref 11]) (h' := hp M) rfl ?_
    refine am_Y.call0 (M' := am_M161) (as := [.ref 11]) (rest := []) (d' := 0) rfl (by omega) rfl rfl (t_e_written M _ rfl) ?_
    obtain rfl := Option.some.inj h
    exact am_Y.ret rfl
  · replace h := (if_neg hc).symm.trans h
    refine am_Y.run (k := 3) (pc' := 21) (lv' := [(3, .ref 11), (0, .ref 5), (1, .int x1), (2, .int x2)]) (st' := [.ref 11, .int (0 : Int32), .int x1]) (h' := hp M) rfl ?_
    refine am_Y.call0 (M' := am_M161) (as := [.ref 11]) (rest := [.int (0 : Int32), .int x1]) (d' := 0) rfl (by omega) rfl rfl (t_e_written M _ rfl) ?_
    refine am_Y.run (k := 2) (pc' := 26) (lv' := [(3, .ref 11), (0, .ref 5), (1, .int x1), (2, .int x2)]) (st' := [.int ((f_e_written M) - (1 : Int32)), .int (0 : Int32), .int x1]) (h' := hp M) rfl ?_
    refine am_Y.call0 (M' := am_M102) (as := [.int x1, .int (0 : Int32), .int ((f_e_written M) - (1 : Int32))]) (rest := []) (d' := 0) rfl (by omega) rfl rfl (t_w_within x1 (0 : Int32) ((f_e_written M) - (1 : Int32)) M _ rfl) ?_
    refine am_Y.br (c := (f_w_within x1 (0 : Int32) ((f_e_written M) - (1 : Int32)) M) = (0 : Int32)) _ (t := 32) (u := 35) (lv' := [(3, .ref 11), (0, .ref 5), (1, .int x1), (2, .int x2)]) (st' := []) (h' := hp M) rfl (fun hc => ?_) (fun hc => ?_)
    · replace h := (if_pos hc).symm.trans h
      refine am_Y.run (k := 1) (pc' := 34) (lv' := [(3, .ref 11), (0, .ref 5), (1, .int x1), (2, .int x2)]) (st' := [.int (-2 : Int32)]) (h' := hp M) rfl ?_
      obtain rfl := Option.some.inj h
      exact am_Y.ret rfl
    · replace h := (if_neg hc).symm.trans h
      refine am_Y.run (k := 2) (pc' := 37) (lv' := [(3, .ref 11), (0, .ref 5), (1, .int x1), (2, .int x2)]) (st' := [.int x1, .ref 11]) (h' := hp M) rfl ?_
      obtain ⟨q1, e_q1, h⟩ := Option.bind_eq_some_iff.mp h
      refine am_Y.call0 (M' := am_M162) (as := [.ref 11, .int x1]) (rest := []) (d' := 0) rfl (by omega) rfl rfl (t_e_page x1 M q1 e_q1) ?_
      refine am_Y.run (k := 2) (pc' := 43) (lv' := [(4, .int q1), (3, .ref 11), (0, .ref 5), (1, .int x1), (2, .int x2)]) (st' := [.int x2]) (h' := hp M) rfl ?_
      by_cases hc0 : x2 = (0 : Int32)
      · replace h := (if_pos hc0).symm.trans h
        refine am_Y.one (pc' := 68) (lv' := [(4, .int q1), (3, .ref 11), (0, .ref 5), (1, .int x1), (2, .int x2)]) (st' := []) (h' := hp M) (am_swc hc0 rfl) ?_
        refine am_Y.run (k := 1) (pc' := 70) (lv' := [(4, .int q1), (3, .ref 11), (0, .ref 5), (1, .int x1), (2, .int x2)]) (st' := [.int q1]) (h' := hp M) rfl ?_
        refine am_Y.call0 (M' := am_M163) (as := [.int q1]) (rest := []) (d' := 0) rfl (by omega) rfl rfl (t_e_nightOf q1 M _ rfl) ?_
        obtain rfl := Option.some.inj h
        exact am_Y.ret rfl
      replace h := (if_neg hc0).symm.trans h
      by_cases hc1 : x2 = (1 : Int32)
      · replace h := (if_pos hc1).symm.trans h
        refine am_Y.one (pc' := 74) (lv' := [(4, .int q1), (3, .ref 11), (0, .ref 5), (1, .int x1), (2, .int x2)]) (st' := []) (h' := hp M) (am_swc hc1 rfl) ?_
        refine am_Y.run (k := 1) (pc' := 76) (lv' := [(4, .int q1), (3, .ref 11), (0, .ref 5), (1, .int x1), (2, .int x2)]) (st' := [.int q1]) (h' := hp M) rfl ?_
        refine am_Y.call0 (M' := am_M164) (as := [.int q1]) (rest := []) (d' := 0) rfl (by omega) rfl rfl (t_e_heirsOf q1 M _ rfl) ?_
        obtain rfl := Option.some.inj h
        exact am_Y.ret rfl
      replace h := (if_neg hc1).symm.trans h
      by_cases hc2 : x2 = (2 : Int32)
      · replace h := (if_pos hc2).symm.trans h
        refine am_Y.one (pc' := 80) (lv' := [(4, .int q1), (3, .ref 11), (0, .ref 5), (1, .int x1), (2, .int x2)]) (st' := []) (h' := hp M) (am_swc hc2 rfl) ?_
        refine am_Y.run (k := 1) (pc' := 82) (lv' := [(4, .int q1), (3, .ref 11), (0, .ref 5), (1, .int x1), (2, .int x2)]) (st' := [.int q1]) (h' := hp M) rfl ?_
        refine am_Y.call0 (M' := am_M165) (as := [.int q1]) (rest := []) (d' := 0) rfl (by omega) rfl rfl (t_e_diesOf q1 M _ rfl) ?_
        obtain rfl := Option.some.inj h
        exact am_Y.ret rfl
      replace h := (if_neg hc2).symm.trans h
      refine am_Y.one (pc' := 86) (lv' := [(4, .int q1), (3, .ref 11), (0, .ref 5), (1, .int x1), (2, .int x2)]) (st' := []) (h' := hp M) (am_swd (x := x2) rfl (by have := am_neT (0) hc0 (by decide); have := am_neT (1) hc1 (by decide); have := am_neT (2) hc2 (by decide); omega) rfl) ?_
      refine am_Y.run (k := 1) (pc' := 88) (lv' := [(4, .int q1), (3, .ref 11), (0, .ref 5), (1, .int x1), (2, .int x2)]) (st' := [.int (-2 : Int32)]) (h' := hp M) rfl ?_
      obtain rfl := Option.some.inj h
      exact am_Y.ret rfl
set_option maxRecDepth 100000 in
theorem t_m_shown {S : Nat × (Nat → Int32)} (M : Mem) (r : Int32) (h : f_m_shown M = r) : am_Y S 0 0 0 am_M166 0 [(0, .ref 129)] [] (hp M) (some (.int r)) (hp M) := by
  rw [f_m_shown] at h
  refine am_Y.run (k := 5) (pc' := 9) (lv' := [(0, .ref 129)]) (st' := [.int (20 : Int32), .int (gi M 130 9)]) (h' := hp M) rfl ?_
  refine am_Y.br (c := (20 : Int32) ≤ (gi M 130 9)) _ (t := 22) (u := 12) (lv' := [(0, .ref 129)]) (st' := []) (h' := hp M) rfl (fun hc => ?_) (fun hc => ?_)
  · replace h := (if_pos hc).symm.trans h
    refine am_Y.run (k := 1) (pc' := 24) (lv' := [(0, .ref 129)]) (st' := [.int (20 : Int32)]) (h' := hp M) rfl ?_
    subst h
    exact am_Y.ret rfl
  · replace h := (if_neg hc).symm.trans h
    refine am_Y.run (k := 5) (pc' := 24) (lv' := [(0, .ref 129)]) (st' := [.int (gi M 130 9)]) (h' := hp M) rfl ?_
    subst h
    exact am_Y.ret rfl
set_option maxRecDepth 100000 in
theorem t_m_entry {S : Nat × (Nat → Int32)} (x1 : Int32) (M : Mem) (r : Int32) (h : f_m_entry x1 M = some r) : am_Y S 1 0 0 am_M167 0 [(0, .ref 129), (1, .int x1)] [] (hp M) (some (.int r)) (hp M) := by
  rw [f_m_entry] at h
  refine am_Y.run (k := 8) (pc' := 15) (lv' := [(0, .ref 129), (1, .int x1)]) (st' := [.ref 129, .int (gi M 130 9), .int (2526 : Int32), .ref 130]) (h' := hp M) rfl ?_
  refine am_Y.call0 (M' := am_M166) (as := [.ref 129]) (rest := [.int (gi M 130 9), .int (2526 : Int32), .ref 130]) (d' := 0) rfl (by omega) rfl rfl (t_m_shown M _ rfl) ?_
  refine am_Y.run (k := 6) (pc' := 26) (lv' := [(0, .ref 129), (1, .int x1)]) (st' := [.int ((2526 : Int32) + ((((gi M 130 9) - (f_m_shown M)) + x1) - (((gi M 130 9) - (f_m_shown M)) + x1) / (1300 : Int32) * (1300 : Int32))), .ref 130]) (h' := hp M) rfl ?_
  obtain ⟨g, h⟩ := am_itg h
  refine am_Y.iald (a := 125) (n := 3826) rfl rfl g ?_
  obtain rfl := Option.some.inj h
  exact am_Y.ret rfl
set_option maxRecDepth 100000 in
theorem t_m_heldIn {S : Nat × (Nat → Int32)} (x1 : Int32) (M : Mem) (r : Int32) (h : f_m_heldIn x1 M = some r) : am_Y S 2 0 0 am_M168 0 [(0, .ref 129), (1, .int x1)] [] (hp M) (some (.int r)) (hp M) := by
  rw [f_m_heldIn] at h
  refine am_Y.run (k := 2) (pc' := 2) (lv' := [(0, .ref 129), (1, .int x1)]) (st' := [.int x1, .ref 129]) (h' := hp M) rfl ?_
  obtain ⟨q1, e_q1, h⟩ := Option.bind_eq_some_iff.mp h
  refine am_Y.call0 (M' := am_M167) (as := [.ref 129, .int x1]) (rest := []) (d' := 1) rfl (by omega) rfl rfl (t_m_entry x1 M q1 e_q1) ?_
  refine am_Y.run (k := 4) (pc' := 13) (lv' := [(0, .ref 129), (1, .int x1)]) (st' := [.int ((q1 / (128 : Int32)) - (q1 / (128 : Int32)) / (256 : Int32) * (256 : Int32))]) (h' := hp M) rfl ?_
  obtain rfl := Option.some.inj h
  exact am_Y.ret rfl
set_option maxRecDepth 100000 in
theorem t_m_diedIn {S : Nat × (Nat → Int32)} (x1 : Int32) (M : Mem) (r : Int32) (h : f_m_diedIn x1 M = some r) : am_Y S 2 0 0 am_M169 0 [(0, .ref 129), (1, .int x1)] [] (hp M) (some (.int r)) (hp M) := by
  rw [f_m_diedIn] at h
  refine am_Y.run (k := 2) (pc' := 2) (lv' := [(0, .ref 129), (1, .int x1)]) (st' := [.int x1, .ref 129]) (h' := hp M) rfl ?_
  obtain ⟨q1, e_q1, h⟩ := Option.bind_eq_some_iff.mp h
  refine am_Y.call0 (M' := am_M167) (as := [.ref 129, .int x1]) (rest := []) (d' := 1) rfl (by omega) rfl rfl (t_m_entry x1 M q1 e_q1) ?_
  refine am_Y.run (k := 2) (pc' := 9) (lv' := [(0, .ref 129), (1, .int x1)]) (st' := [.int (q1 - q1 / (128 : Int32) * (128 : Int32))]) (h' := hp M) rfl ?_
  obtain rfl := Option.some.inj h
  exact am_Y.ret rfl
set_option maxRecDepth 100000 in
theorem t_m_book {S : Nat × (Nat → Int32)} (x1 : Int32) (x2 : Int32) (M : Mem) (r : Int32) (h : f_m_book x1 x2 M = some r) : am_Y S 3 0 0 am_M37 0 [(0, .ref 129), (1, .int x1), (2, .int x2)] [] (hp M) (some (.int r)) (hp M) := by
  rw [f_m_book] at h
  refine am_Y.run (k := 2) (pc' := 2) (lv' := [(0, .ref 129), (1, .int x1), (2, .int x2)]) (st' := [.int (-1 : Int32), .int x1]) (h' := hp M) rfl ?_
  refine am_Y.br (c := x1 = (-1 : Int32)) _ (t := 5) (u := 10) (lv' := [(0, .ref 129), (1, .int x1), (2, .int x2)]) (st' := []) (h' := hp M) rfl (fun hc => ?_) (fun hc => ?_)
  · replace h := (if_pos hc).symm.trans h
    refine am_Y.run (k := 1) (pc' := 6) (lv' := [(0, .ref 129), (1, .int x1), (2, .int x2)]) (st' := [.ref 129]) (h' := hp M) rfl ?_
    refine am_Y.call0 (M' := am_M166) (as := [.ref 129]) (rest := []) (d' := 0) rfl (by omega) rfl rfl (t_m_shown M _ rfl) ?_
    obtain rfl := Option.some.inj h
    exact am_Y.ret rfl
  · replace h := (if_neg hc).symm.trans h
    refine am_Y.run (k := 3) (pc' := 13) (lv' := [(0, .ref 129), (1, .int x1), (2, .int x2)]) (st' := [.ref 129, .int (0 : Int32), .int x1]) (h' := hp M) rfl ?_
    refine am_Y.call0 (M' := am_M166) (as := [.ref 129]) (rest := [.int (0 : Int32), .int x1]) (d' := 0) rfl (by omega) rfl rfl (t_m_shown M _ rfl) ?_
    refine am_Y.run (k := 2) (pc' := 18) (lv' := [(0, .ref 129), (1, .int x1), (2, .int x2)]) (st' := [.int ((f_m_shown M) - (1 : Int32)), .int (0 : Int32), .int x1]) (h' := hp M) rfl ?_
    refine am_Y.call0 (M' := am_M104) (as := [.int x1, .int (0 : Int32), .int ((f_m_shown M) - (1 : Int32))]) (rest := []) (d' := 0) rfl (by omega) rfl rfl (t_m_isIn x1 (0 : Int32) ((f_m_shown M) - (1 : Int32)) M _ rfl) ?_
    refine am_Y.br (c := (f_m_isIn x1 (0 : Int32) ((f_m_shown M) - (1 : Int32)) M) = (0 : Int32)) _ (t := 24) (u := 27) (lv' := [(0, .ref 129), (1, .int x1), (2, .int x2)]) (st' := []) (h' := hp M) rfl (fun hc => ?_) (fun hc => ?_)
    · replace h := (if_pos hc).symm.trans h
      refine am_Y.run (k := 1) (pc' := 26) (lv' := [(0, .ref 129), (1, .int x1), (2, .int x2)]) (st' := [.int (-2 : Int32)]) (h' := hp M) rfl ?_
      obtain rfl := Option.some.inj h
      exact am_Y.ret rfl
    · replace h := (if_neg hc).symm.trans h
      refine am_Y.run (k := 1) (pc' := 28) (lv' := [(0, .ref 129), (1, .int x1), (2, .int x2)]) (st' := [.int x2]) (h' := hp M) rfl ?_
      refine am_Y.br (c := x2 = (0 : Int32)) _ (t := 31) (u := 43) (lv' := [(0, .ref 129), (1, .int x1), (2, .int x2)]) (st' := []) (h' := hp M) rfl (fun hc => ?_) (fun hc => ?_)
      · replace h := (if_pos hc).symm.trans h
        refine am_Y.run (k := 2) (pc' := 33) (lv' := [(0, .ref 129), (1, .int x1), (2, .int x2)]) (st' := [.int x1, .ref 129]) (h' := hp M) rfl ?_
        obtain ⟨q1, e_q1, h⟩ := Option.bind_eq_some_iff.mp h
        refine am_Y.call0 (M' := am_M167) (as := [.ref 129, .int x1]) (rest := []) (d' := 1) rfl (by omega) rfl rfl (t_m_entry x1 M q1 e_q1) ?_
        refine am_Y.run (k := 3) (pc' := 71) (lv' := [(0, .ref 129), (1, .int x1), (2, .int x2)]) (st' := [.int (q1 / (32768 : Int32))]) (h' := hp M) rfl ?_
        obtain rfl := Option.some.inj h
        exact am_Y.ret rfl
      · replace h := (if_neg hc).symm.trans h
        refine am_Y.run (k := 2) (pc' := 45) (lv' := [(0, .ref 129), (1, .int x1), (2, .int x2)]) (st' := [.int (1 : Int32), .int x2]) (h' := hp M) rfl ?_
        refine am_Y.br (c := x2 = (1 : Int32)) _ (t := 48) (u := 56) (lv' := [(0, .ref 129), (1, .int x1), (2, .int x2)]) (st' := []) (h' := hp M) rfl (fun hc => ?_) (fun hc => ?_)
        · replace h := (if_pos hc).symm.trans h
          refine am_Y.run (k := 2) (pc' := 50) (lv' := [(0, .ref 129), (1, .int x1), (2, .int x2)]) (st' := [.int x1, .ref 129]) (h' := hp M) rfl ?_
          obtain ⟨q2, e_q2, h⟩ := Option.bind_eq_some_iff.mp h
          refine am_Y.call0 (M' := am_M168) (as := [.ref 129, .int x1]) (rest := []) (d' := 2) rfl (by omega) rfl rfl (t_m_heldIn x1 M q2 e_q2) ?_
          refine am_Y.run (k := 1) (pc' := 71) (lv' := [(0, .ref 129), (1, .int x1), (2, .int x2)]) (st' := [.int q2]) (h' := hp M) rfl ?_
          obtain rfl := Option.some.inj h
          exact am_Y.ret rfl
        · replace h := (if_neg hc).symm.trans h
          refine am_Y.run (k := 2) (pc' := 58) (lv' := [(0, .ref 129), (1, .int x1), (2, .int x2)]) (st' := [.int (2 : Int32), .int x2]) (h' := hp M) rfl ?_
          refine am_Y.br (c := x2 = (2 : Int32)) _ (t := 61) (u := 69) (lv' := [(0, .ref 129), (1, .int x1), (2, .int x2)]) (st' := []) (h' := hp M) rfl (fun hc => ?_) (fun hc => ?_)
          · replace h := (if_pos hc).symm.trans h
            refine am_Y.run (k := 2) (pc' := 63) (lv' := [(0, .ref 129), (1, .int x1), (2, .int x2)]) (st' := [.int x1, .ref 129]) (h' := hp M) rfl ?_
            obtain ⟨q3, e_q3, h⟩ := Option.bind_eq_some_iff.mp h
            refine am_Y.call0 (M' := am_M169) (as := [.ref 129, .int x1]) (rest := []) (d' := 2) rfl (by omega) rfl rfl (t_m_diedIn x1 M q3 e_q3) ?_
            refine am_Y.run (k := 1) (pc' := 71) (lv' := [(0, .ref 129), (1, .int x1), (2, .int x2)]) (st' := [.int q3]) (h' := hp M) rfl ?_
            obtain rfl := Option.some.inj h
            exact am_Y.ret rfl
          · replace h := (if_neg hc).symm.trans h
            refine am_Y.run (k := 1) (pc' := 71) (lv' := [(0, .ref 129), (1, .int x1), (2, .int x2)]) (st' := [.int (-2 : Int32)]) (h' := hp M) rfl ?_
            obtain rfl := Option.some.inj h
            exact am_Y.ret rfl
set_option maxRecDepth 100000 in
theorem t_w_isOfBook {S : Nat × (Nat → Int32)} (x1 : Int32) (M : Mem) (r : Int32) (h : f_w_isOfBook x1 M = r) : am_Y S 1 0 0 am_M170 0 [(0, .ref 5), (1, .int x1)] [] (hp M) (some (.int r)) (hp M) := by
  rw [f_w_isOfBook] at h
  refine am_Y.run (k := 3) (pc' := 4) (lv' := [(0, .ref 5), (1, .int x1)]) (st' := [.int (6 : Int32), .int (1 : Int32), .int x1]) (h' := hp M) rfl ?_
  refine am_Y.call0 (M' := am_M102) (as := [.int x1, .int (1 : Int32), .int (6 : Int32)]) (rest := []) (d' := 0) rfl (by omega) rfl rfl (t_w_within x1 (1 : Int32) (6 : Int32) M _ rfl) ?_
  refine am_Y.br (c := (f_w_within x1 (1 : Int32) (6 : Int32) M) = (0 : Int32)) _ (t := 28) (u := 10) (lv' := [(0, .ref 5), (1, .int x1)]) (st' := []) (h' := hp M) rfl (fun hc => ?_) (fun hc => ?_)
  · replace h := (if_pos hc).symm.trans h
    refine am_Y.run (k := 1) (pc' := 29) (lv' := [(0, .ref 5), (1, .int x1)]) (st' := [.int (0 : Int32)]) (h' := hp M) rfl ?_
    subst h
    exact am_Y.ret rfl
  · replace h := (if_neg hc).symm.trans h
    refine am_Y.run (k := 4) (pc' := 18) (lv' := [(0, .ref 5), (1, .int x1)]) (st' := [.ref 11, .int x1]) (h' := hp M) rfl ?_
    refine am_Y.call0 (M' := am_M161) (as := [.ref 11]) (rest := [.int x1]) (d' := 0) rfl (by omega) rfl rfl (t_e_written M _ rfl) ?_
    refine am_Y.br (c := (f_e_written M) < x1) _ (t := 28) (u := 24) (lv' := [(0, .ref 5), (1, .int x1)]) (st' := []) (h' := hp M) rfl (fun hc => ?_) (fun hc => ?_)
    · replace h := (if_pos hc).symm.trans h
      refine am_Y.run (k := 1) (pc' := 29) (lv' := [(0, .ref 5), (1, .int x1)]) (st' := [.int (0 : Int32)]) (h' := hp M) rfl ?_
      subst h
      exact am_Y.ret rfl
    · replace h := (if_neg hc).symm.trans h
      refine am_Y.run (k := 2) (pc' := 29) (lv' := [(0, .ref 5), (1, .int x1)]) (st' := [.int (1 : Int32)]) (h' := hp M) rfl ?_
      subst h
      exact am_Y.ret rfl
set_option maxRecDepth 100000 in
theorem z_w_isOfBook (x1 : Int32) (M : Mem) : f_w_isOfBook x1 M = 0 ∨ f_w_isOfBook x1 M = 1 := by
  simp only [f_w_isOfBook]
  first | (repeat' split) <;> first | exact Or.inl rfl | exact Or.inr rfl | (simp; done) | exact z_e_written _ _ _ _ | exact z_w_within _ _ _ _ | exact z_e_written _ _ _ | exact z_w_within _ _ _ | exact z_e_written _ _ | exact z_w_within _ _
set_option maxRecDepth 100000 in
theorem t_h_dyingIn_16 {S : Nat × (Nat → Int32)} (N : Nat) : ∀ (n : Nat) (x1 : Int32) (x2 : Int32) (x3 : Int64) (x5 : Int64) (x7 : Int32) (x8 : Int32) (M : Mem) (r : Int64), f_h_dyingIn_16 N n x1 x2 x3 x5 x7 x8 M = some r → am_Y S 1 0 0 am_M181 16 [(0, .ref 11), (1, .int x1), (2, .int x2), (3, .long x3), (5, .long x5), (7, .int x7), (8, .int x8)] [] (hp M) (some (.long r)) (hp M) := by
  intro n
  induction n with
  | zero =>
    intro x1 x2 x3 x5 x7 x8 M r h
    cases h
  | succ n ih =>
    intro x1 x2 x3 x5 x7 x8 M r h
    rw [f_h_dyingIn_16] at h
    refine am_Y.run (k := 2) (pc' := 19) (lv' := [(0, .ref 11), (1, .int x1), (2, .int x2), (3, .long x3), (5, .long x5), (7, .int x7), (8, .int x8)]) (st' := [.int x1, .int x8]) (h' := hp M) rfl ?_
    refine am_Y.br (c := x1 ≤ x8) _ (t := 80) (u := 22) (lv' := [(0, .ref 11), (1, .int x1), (2, .int x2), (3, .long x3), (5, .long x5), (7, .int x7), (8, .int x8)]) (st' := []) (h' := hp M) rfl (fun hc => ?_) (fun hc => ?_)
    · replace h := (if_pos hc).symm.trans h
      refine am_Y.run (k := 1) (pc' := 81) (lv' := [(0, .ref 11), (1, .int x1), (2, .int x2), (3, .long x3), (5, .long x5), (7, .int x7), (8, .int x8)]) (st' := [.long x3]) (h' := hp M) rfl ?_
      obtain rfl := Option.some.inj h
      exact am_Y.ret rfl
    · replace h := (if_neg hc).symm.trans h
      refine am_Y.run (k := 4) (pc' := 28) (lv' := [(0, .ref 11), (1, .int x1), (2, .int x2), (3, .long x3), (5, .long x5), (7, .int x7), (8, .int x8)]) (st' := [.int (x7 + x8), .ref 11]) (h' := hp M) rfl ?_
      obtain ⟨q1, e_q1, h⟩ := Option.bind_eq_some_iff.mp h
      refine am_Y.call0 (M' := am_M162) (as := [.ref 11, .int (x7 + x8)]) (rest := []) (d' := 0) rfl (by omega) rfl rfl (t_e_page (x7 + x8) M q1 e_q1) ?_
      refine am_Y.call0 (M' := am_M165) (as := [.int q1]) (rest := []) (d' := 0) rfl (by omega) rfl rfl (t_e_diesOf q1 M _ rfl) ?_
      refine am_Y.run (k := 10) (pc' := 48) (lv' := [(9, .int (f_e_diesOf q1 M)), (0, .ref 11), (1, .int x1), (2, .int x2), (3, .long x3), (5, .long x5), (7, .int x7), (8, .int x8)]) (st' := [.int (1 : Int32), .int ((x2 >>> (x8 &&& 31)) &&& (1 : Int32)), .long (x3 * (100 : Int64))]) (h' := hp M) rfl ?_
      refine am_Y.br (c := ((x2 >>> (x8 &&& 31)) &&& (1 : Int32)) = (1 : Int32)) _ (t := 51) (u := 60) (lv' := [(9, .int (f_e_diesOf q1 M)), (0, .ref 11), (1, .int x1), (2, .int x2), (3, .long x3), (5, .long x5), (7, .int x7), (8, .int x8)]) (st' := [.long (x3 * (100 : Int64))]) (h' := hp M) rfl (fun hc => ?_) (fun hc => ?_)
      · replace h := (if_pos hc).symm.trans h
        refine am_Y.run (k := 16) (pc' := 16) (lv' := [(8, .int (x8 + (1 : Int32))), (5, .long (x5 * (Int32.toInt64 ((100 : Int32) - (f_e_diesOf q1 M))))), (3, .long ((x3 * (100 : Int64)) + (x5 * (Int32.toInt64 (f_e_diesOf q1 M))))), (9, .int (f_e_diesOf q1 M)), (0, .ref 11), (1, .int x1), (2, .int x2), (7, .int x7)]) (st' := []) (h' := hp M) rfl ?_
        refine am_Y.weak (lv2 := [(0, .ref 11), (1, .int x1), (2, .int x2), (3, .long ((x3 * (100 : Int64)) + (x5 * (Int32.toInt64 (f_e_diesOf q1 M))))), (5, .long (x5 * (Int32.toInt64 ((100 : Int32) - (f_e_diesOf q1 M))))), (7, .int x7), (8, .int (x8 + (1 : Int32)))]) rfl rfl ⟨rfl, rfl, rfl, rfl, rfl, rfl, rfl, trivial⟩ ?_
        exact ih x1 x2 ((x3 * (100 : Int64)) + (x5 * (Int32.toInt64 (f_e_diesOf q1 M)))) (x5 * (Int32.toInt64 ((100 : Int32) - (f_e_diesOf q1 M)))) x7 (x8 + (1 : Int32)) M _ h
      · replace h := (if_neg hc).symm.trans h
        refine am_Y.run (k := 12) (pc' := 16) (lv' := [(8, .int (x8 + (1 : Int32))), (5, .long (x5 * (Int32.toInt64 ((100 : Int32) - (f_e_diesOf q1 M))))), (3, .long ((x3 * (100 : Int64)) + (0 : Int64))), (9, .int (f_e_diesOf q1 M)), (0, .ref 11), (1, .int x1), (2, .int x2), (7, .int x7)]) (st' := []) (h' := hp M) rfl ?_
        refine am_Y.weak (lv2 := [(0, .ref 11), (1, .int x1), (2, .int x2), (3, .long ((x3 * (100 : Int64)) + (0 : Int64))), (5, .long (x5 * (Int32.toInt64 ((100 : Int32) - (f_e_diesOf q1 M))))), (7, .int x7), (8, .int (x8 + (1 : Int32)))]) rfl rfl ⟨rfl, rfl, rfl, rfl, rfl, rfl, rfl, trivial⟩ ?_
        exact ih x1 x2 ((x3 * (100 : Int64)) + (0 : Int64)) (x5 * (Int32.toInt64 ((100 : Int32) - (f_e_diesOf q1 M)))) x7 (x8 + (1 : Int32)) M _ h
set_option maxRecDepth 100000 in
theorem t_h_dyingIn {S : Nat × (Nat → Int32)} (N : Nat) (x1 : Int32) (x2 : Int32) (M : Mem) (r : Int64) (h : f_h_dyingIn N x1 x2 M = some r) : am_Y S 1 0 0 am_M181 0 [(0, .ref 11), (1, .int x1), (2, .int x2)] [] (hp M) (some (.long r)) (hp M) := by
  rw [f_h_dyingIn] at h
  refine am_Y.run (k := 5) (pc' := 6) (lv' := [(5, .long (1 : Int64)), (3, .long (0 : Int64)), (0, .ref 11), (1, .int x1), (2, .int x2)]) (st' := [.ref 11]) (h' := hp M) rfl ?_
  refine am_Y.call0 (M' := am_M161) (as := [.ref 11]) (rest := []) (d' := 0) rfl (by omega) rfl rfl (t_e_written M _ rfl) ?_
  refine am_Y.run (k := 5) (pc' := 16) (lv' := [(8, .int (0 : Int32)), (7, .int ((f_e_written M) - x1)), (5, .long (1 : Int64)), (3, .long (0 : Int64)), (0, .ref 11), (1, .int x1), (2, .int x2)]) (st' := []) (h' := hp M) rfl ?_
  refine am_Y.weak (lv2 := [(0, .ref 11), (1, .int x1), (2, .int x2), (3, .long (0 : Int64)), (5, .long (1 : Int64)), (7, .int ((f_e_written M) - x1)), (8, .int (0 : Int32))]) rfl rfl ⟨rfl, rfl, rfl, rfl, rfl, rfl, rfl, trivial⟩ ?_
  exact t_h_dyingIn_16 N N x1 x2 (0 : Int64) (1 : Int64) ((f_e_written M) - x1) (0 : Int32) M _ h
set_option maxRecDepth 100000 in
theorem t_h_heirsOfLatest {S : Nat × (Nat → Int32)} (x1 : Int32) (x2 : Int32) (M : Mem) (r : Int32) (h : f_h_heirsOfLatest x1 x2 M = some r) : am_Y S 1 0 0 am_M250 0 [(0, .ref 11), (1, .int x1), (2, .int x2)] [] (hp M) (some (.int r)) (hp M) := by
  rw [f_h_heirsOfLatest] at h
  refine am_Y.run (k := 2) (pc' := 2) (lv' := [(0, .ref 11), (1, .int x1), (2, .int x2)]) (st' := [.ref 11, .ref 11]) (h' := hp M) rfl ?_
  refine am_Y.call0 (M' := am_M161) (as := [.ref 11]) (rest := [.ref 11]) (d' := 0) rfl (by omega) rfl rfl (t_e_written M _ rfl) ?_
  refine am_Y.run (k := 4) (pc' := 9) (lv' := [(0, .ref 11), (1, .int x1), (2, .int x2)]) (st' := [.int (((f_e_written M) - x1) + x2), .ref 11]) (h' := hp M) rfl ?_
  obtain ⟨q1, e_q1, h⟩ := Option.bind_eq_some_iff.mp h
  refine am_Y.call0 (M' := am_M162) (as := [.ref 11, .int (((f_e_written M) - x1) + x2)]) (rest := []) (d' := 0) rfl (by omega) rfl rfl (t_e_page (((f_e_written M) - x1) + x2) M q1 e_q1) ?_
  refine am_Y.call0 (M' := am_M164) (as := [.int q1]) (rest := []) (d' := 0) rfl (by omega) rfl rfl (t_e_heirsOf q1 M _ rfl) ?_
  obtain rfl := Option.some.inj h
  exact am_Y.ret rfl
set_option maxRecDepth 100000 in
theorem t_w_partOfWhole {S : Nat × (Nat → Int32)} (x0 : Int32) (x1 : Int32) (M : Mem) (r : Int32) (h : f_w_partOfWhole x0 x1 M = some r) : am_Y S 1 0 0 am_M251 0 [(0, .int x0), (1, .int x1)] [] (hp M) (some (.int r)) (hp M) := by
  rw [f_w_partOfWhole] at h
  refine am_Y.run (k := 1) (pc' := 1) (lv' := [(0, .int x0), (1, .int x1)]) (st' := [.int x0]) (h' := hp M) rfl ?_
  refine am_Y.call0 (M' := am_M259) (as := [.int x0]) (rest := []) (d' := 0) rfl (by omega) rfl rfl (t_k_bitCount x0 M _ rfl) ?_
  refine am_Y.run (k := 2) (pc' := 6) (lv' := [(2, .int (f_k_bitCount x0 M)), (0, .int x0), (1, .int x1)]) (st' := [.int (f_k_bitCount x0 M)]) (h' := hp M) rfl ?_
  refine am_Y.br (c := (f_k_bitCount x0 M) ≤ (0 : Int32)) _ (t := 26) (u := 9) (lv' := [(2, .int (f_k_bitCount x0 M)), (0, .int x0), (1, .int x1)]) (st' := []) (h' := hp M) rfl (fun hc => ?_) (fun hc => ?_)
  · replace h := (if_pos hc).symm.trans h
    refine am_Y.run (k := 1) (pc' := 27) (lv' := [(2, .int (f_k_bitCount x0 M)), (0, .int x0), (1, .int x1)]) (st' := [.int (0 : Int32)]) (h' := hp M) rfl ?_
    obtain rfl := Option.some.inj h
    exact am_Y.ret rfl
  · replace h := (if_neg hc).symm.trans h
    refine am_Y.run (k := 2) (pc' := 11) (lv' := [(2, .int (f_k_bitCount x0 M)), (0, .int x0), (1, .int x1)]) (st' := [.int x1, .int x0]) (h' := hp M) rfl ?_
    refine am_Y.call0 (M' := am_M256) (as := [.int x1]) (rest := [.int x0]) (d' := 0) rfl (by omega) rfl rfl (t_w_bitOf x1 M _ rfl) ?_
    refine am_Y.run (k := 1) (pc' := 15) (lv' := [(2, .int (f_k_bitCount x0 M)), (0, .int x0), (1, .int x1)]) (st' := [.int (x0 &&& (f_w_bitOf x1 M))]) (h' := hp M) rfl ?_
    refine am_Y.br (c := (x0 &&& (f_w_bitOf x1 M)) = (0 : Int32)) _ (t := 26) (u := 18) (lv' := [(2, .int (f_k_bitCount x0 M)), (0, .int x0), (1, .int x1)]) (st' := []) (h' := hp M) rfl (fun hc => ?_) (fun hc => ?_)
    · replace h := (if_pos hc).symm.trans h
      refine am_Y.run (k := 1) (pc' := 27) (lv' := [(2, .int (f_k_bitCount x0 M)), (0, .int x0), (1, .int x1)]) (st' := [.int (0 : Int32)]) (h' := hp M) rfl ?_
      obtain rfl := Option.some.inj h
      exact am_Y.ret rfl
    · replace h := (if_neg hc).symm.trans h
      refine am_Y.run (k := 2) (pc' := 22) (lv' := [(2, .int (f_k_bitCount x0 M)), (0, .int x0), (1, .int x1)]) (st' := [.int (f_k_bitCount x0 M), .int (840 : Int32)]) (h' := hp M) rfl ?_
      obtain ⟨g, h⟩ := am_itn h
      refine am_Y.idv rfl g ?_
      refine am_Y.run (k := 1) (pc' := 27) (lv' := [(2, .int (f_k_bitCount x0 M)), (0, .int x0), (1, .int x1)]) (st' := [.int ((840 : Int32) / (f_k_bitCount x0 M))]) (h' := hp M) rfl ?_
      obtain rfl := Option.some.inj h
      exact am_Y.ret rfl
set_option maxRecDepth 100000 in
theorem t_h_partOf_5 {S : Nat × (Nat → Int32)} (N : Nat) : ∀ (n : Nat) (x1 : Int32) (x2 : Int32) (x3 : Int64) (x5 : Int32) (M : Mem) (r : Int64), f_h_partOf_5 N n x1 x2 x3 x5 M = some r → am_Y S 2 0 0 am_M171 5 [(0, .ref 11), (1, .int x1), (2, .int x2), (3, .long x3), (5, .int x5)] [] (hp M) (some (.long r)) (hp M) := by
  intro n
  induction n with
  | zero =>
    intro x1 x2 x3 x5 M r h
    cases h
  | succ n ih =>
    intro x1 x2 x3 x5 M r h
    rw [f_h_partOf_5] at h
    refine am_Y.run (k := 2) (pc' := 8) (lv' := [(0, .ref 11), (1, .int x1), (2, .int x2), (3, .long x3), (5, .int x5)]) (st' := [.int x1, .int x5]) (h' := hp M) rfl ?_
    refine am_Y.br (c := x1 ≤ x5) _ (t := 42) (u := 11) (lv' := [(0, .ref 11), (1, .int x1), (2, .int x2), (3, .long x3), (5, .int x5)]) (st' := []) (h' := hp M) rfl (fun hc => ?_) (fun hc => ?_)
    · replace h := (if_pos hc).symm.trans h
      refine am_Y.run (k := 1) (pc' := 43) (lv' := [(0, .ref 11), (1, .int x1), (2, .int x2), (3, .long x3), (5, .int x5)]) (st' := [.long x3]) (h' := hp M) rfl ?_
      obtain rfl := Option.some.inj h
      exact am_Y.ret rfl
    · replace h := (if_neg hc).symm.trans h
      refine am_Y.run (k := 6) (pc' := 18) (lv' := [(0, .ref 11), (1, .int x1), (2, .int x2), (3, .long x3), (5, .int x5)]) (st' := [.int ((1 : Int32) <<< (x5 &&& 31)), .int x1, .ref 11, .long x3]) (h' := hp M) rfl ?_
      obtain ⟨q1, e_q1, h⟩ := Option.bind_eq_some_iff.mp h
      refine am_Y.call0 (M' := am_M181) (as := [.ref 11, .int x1, .int ((1 : Int32) <<< (x5 &&& 31))]) (rest := [.long x3]) (d' := 1) rfl (by omega) rfl rfl (t_h_dyingIn N x1 ((1 : Int32) <<< (x5 &&& 31)) M q1 e_q1) ?_
      refine am_Y.run (k := 3) (pc' := 25) (lv' := [(0, .ref 11), (1, .int x1), (2, .int x2), (3, .long x3), (5, .int x5)]) (st' := [.int x5, .int x1, .ref 11, .long q1, .long x3]) (h' := hp M) rfl ?_
      obtain ⟨q2, e_q2, h⟩ := Option.bind_eq_some_iff.mp h
      refine am_Y.call0 (M' := am_M250) (as := [.ref 11, .int x1, .int x5]) (rest := [.long q1, .long x3]) (d' := 1) rfl (by omega) rfl rfl (t_h_heirsOfLatest x1 x5 M q2 e_q2) ?_
      refine am_Y.run (k := 1) (pc' := 29) (lv' := [(0, .ref 11), (1, .int x1), (2, .int x2), (3, .long x3), (5, .int x5)]) (st' := [.int x2, .int q2, .long q1, .long x3]) (h' := hp M) rfl ?_
      obtain ⟨q3, e_q3, h⟩ := Option.bind_eq_some_iff.mp h
      refine am_Y.call0 (M' := am_M251) (as := [.int q2, .int x2]) (rest := [.long q1, .long x3]) (d' := 1) rfl (by omega) rfl rfl (t_w_partOfWhole q2 x2 M q3 e_q3) ?_
      refine am_Y.run (k := 6) (pc' := 5) (lv' := [(5, .int (x5 + (1 : Int32))), (3, .long (x3 + (q1 * (Int32.toInt64 q3)))), (0, .ref 11), (1, .int x1), (2, .int x2)]) (st' := []) (h' := hp M) rfl ?_
      refine am_Y.weak (lv2 := [(0, .ref 11), (1, .int x1), (2, .int x2), (3, .long (x3 + (q1 * (Int32.toInt64 q3)))), (5, .int (x5 + (1 : Int32)))]) rfl rfl ⟨rfl, rfl, rfl, rfl, rfl, trivial⟩ ?_
      exact ih x1 x2 (x3 + (q1 * (Int32.toInt64 q3))) (x5 + (1 : Int32)) M _ h
set_option maxRecDepth 100000 in
theorem t_h_partOf {S : Nat × (Nat → Int32)} (N : Nat) (x1 : Int32) (x2 : Int32) (M : Mem) (r : Int64) (h : f_h_partOf N x1 x2 M = some r) : am_Y S 2 0 0 am_M171 0 [(0, .ref 11), (1, .int x1), (2, .int x2)] [] (hp M) (some (.long r)) (hp M) := by
  rw [f_h_partOf] at h
  refine am_Y.run (k := 4) (pc' := 5) (lv' := [(5, .int (0 : Int32)), (3, .long (0 : Int64)), (0, .ref 11), (1, .int x1), (2, .int x2)]) (st' := []) (h' := hp M) rfl ?_
  refine am_Y.weak (lv2 := [(0, .ref 11), (1, .int x1), (2, .int x2), (3, .long (0 : Int64)), (5, .int (0 : Int32))]) rfl rfl ⟨rfl, rfl, rfl, rfl, rfl, trivial⟩ ?_
  exact t_h_partOf_5 N N x1 x2 (0 : Int64) (0 : Int32) M _ h
set_option maxRecDepth 100000 in
theorem t_w_hundreds_4 {S : Nat × (Nat → Int32)} (N : Nat) : ∀ (n : Nat) (x0 : Int32) (x1 : Int64) (x3 : Int32) (M : Mem) (r : Int64), f_w_hundreds_4 N n x0 x1 x3 M = some r → am_Y S 0 0 0 am_M172 4 [(0, .int x0), (1, .long x1), (3, .int x3)] [] (hp M) (some (.long r)) (hp M) := by
  intro n
  induction n with
  | zero =>
    intro x0 x1 x3 M r h
    cases h
  | succ n ih =>
    intro x0 x1 x3 M r h
    rw [f_w_hundreds_4] at h
    refine am_Y.run (k := 2) (pc' := 6) (lv' := [(0, .int x0), (1, .long x1), (3, .int x3)]) (st' := [.int x0, .int x3]) (h' := hp M) rfl ?_
    refine am_Y.br (c := x0 ≤ x3) _ (t := 21) (u := 9) (lv' := [(0, .int x0), (1, .long x1), (3, .int x3)]) (st' := []) (h' := hp M) rfl (fun hc => ?_) (fun hc => ?_)
    · replace h := (if_pos hc).symm.trans h
      refine am_Y.run (k := 1) (pc' := 22) (lv' := [(0, .int x0), (1, .long x1), (3, .int x3)]) (st' := [.long x1]) (h' := hp M) rfl ?_
      obtain rfl := Option.some.inj h
      exact am_Y.ret rfl
    · replace h := (if_neg hc).symm.trans h
      refine am_Y.run (k := 6) (pc' := 4) (lv' := [(3, .int (x3 + (1 : Int32))), (1, .long (x1 * (100 : Int64))), (0, .int x0)]) (st' := []) (h' := hp M) rfl ?_
      refine am_Y.weak (lv2 := [(0, .int x0), (1, .long (x1 * (100 : Int64))), (3, .int (x3 + (1 : Int32)))]) rfl rfl ⟨rfl, rfl, rfl, trivial⟩ ?_
      exact ih x0 (x1 * (100 : Int64)) (x3 + (1 : Int32)) M _ h
set_option maxRecDepth 100000 in
theorem t_w_hundreds {S : Nat × (Nat → Int32)} (N : Nat) (x0 : Int32) (M : Mem) (r : Int64) (h : f_w_hundreds N x0 M = some r) : am_Y S 0 0 0 am_M172 0 [(0, .int x0)] [] (hp M) (some (.long r)) (hp M) := by
  rw [f_w_hundreds] at h
  refine am_Y.run (k := 4) (pc' := 4) (lv' := [(3, .int (0 : Int32)), (1, .long (1 : Int64)), (0, .int x0)]) (st' := []) (h' := hp M) rfl ?_
  refine am_Y.weak (lv2 := [(0, .int x0), (1, .long (1 : Int64)), (3, .int (0 : Int32))]) rfl rfl ⟨rfl, rfl, rfl, trivial⟩ ?_
  exact t_w_hundreds_4 N N x0 (1 : Int64) (0 : Int32) M _ h
set_option maxRecDepth 100000 in
theorem t_k_abs {S : Nat × (Nat → Int32)} (x0 : Int64) (M : Mem) (r : Int64) (h : f_k_abs x0 M = r) : am_Y S 0 0 0 am_M252 0 [(0, .long x0)] [] (hp M) (some (.long r)) (hp M) := by
  rw [f_k_abs] at h
  refine am_Y.run (k := 3) (pc' := 3) (lv' := [(0, .long x0)]) (st' := [.int (lg_cmp x0 (0 : Int64))]) (h' := hp M) rfl ?_
  refine am_Y.br (c := (0 : Int32) ≤ (lg_cmp x0 (0 : Int64))) _ (t := 11) (u := 6) (lv' := [(0, .long x0)]) (st' := []) (h' := hp M) rfl (fun hc => ?_) (fun hc => ?_)
  · replace h := (if_pos hc).symm.trans h
    refine am_Y.run (k := 1) (pc' := 12) (lv' := [(0, .long x0)]) (st' := [.long x0]) (h' := hp M) rfl ?_
    subst h
    exact am_Y.ret rfl
  · replace h := (if_neg hc).symm.trans h
    refine am_Y.run (k := 3) (pc' := 12) (lv' := [(0, .long x0)]) (st' := [.long (-x0)]) (h' := hp M) rfl ?_
    subst h
    exact am_Y.ret rfl
set_option maxRecDepth 100000 in
theorem t_w_lowest_48 {S : Nat × (Nat → Int32)} (N : Nat) (x0 : Int64) (x2 : Int64) (x4 : Int32) (x5 : Int64) (M : Mem) (r : Int64) (h : f_w_lowest_48 N x0 x2 x4 x5 M = some r) : am_Y S 1 0 0 am_M173 48 [(0, .long x0), (2, .long x2), (4, .int x4), (5, .long x5)] [] (hp M) (some (.long r)) (hp M) := by
  rw [f_w_lowest_48] at h
  refine am_Y.run (k := 1) (pc' := 50) (lv' := [(0, .long x0), (2, .long x2), (4, .int x4), (5, .long x5)]) (st' := [.int x4]) (h' := hp M) rfl ?_
  refine am_Y.br (c := x4 = (0 : Int32)) _ (t := 57) (u := 53) (lv' := [(0, .long x0), (2, .long x2), (4, .int x4), (5, .long x5)]) (st' := []) (h' := hp M) rfl (fun hc => ?_) (fun hc => ?_)
  · replace h := (if_pos hc).symm.trans h
    refine am_Y.run (k := 5) (pc' := 64) (lv' := [(9, .long x0), (0, .long x0), (2, .long x2), (4, .int x4), (5, .long x5)]) (st' := [.int (lg_cmp x5 (0 : Int64))]) (h' := hp M) rfl ?_
    refine am_Y.br (c := (lg_cmp x5 (0 : Int64)) = (0 : Int32)) _ (t := 67) (u := 72) (lv' := [(9, .long x0), (0, .long x0), (2, .long x2), (4, .int x4), (5, .long x5)]) (st' := []) (h' := hp M) rfl (fun hc => ?_) (fun hc => ?_)
    · replace h := (if_pos hc).symm.trans h
      refine am_Y.run (k := 2) (pc' := 77) (lv' := [(9, .long x0), (0, .long x0), (2, .long x2), (4, .int x4), (5, .long x5)]) (st' := [.long x0]) (h' := hp M) rfl ?_
      obtain rfl := Option.some.inj h
      exact am_Y.ret rfl
    · replace h := (if_neg hc).symm.trans h
      refine am_Y.run (k := 2) (pc' := 76) (lv' := [(9, .long x0), (0, .long x0), (2, .long x2), (4, .int x4), (5, .long x5)]) (st' := [.long x5, .long x0]) (h' := hp M) rfl ?_
      obtain ⟨g, h⟩ := am_itn h
      refine am_Y.ldv rfl g ?_
      obtain rfl := Option.some.inj h
      exact am_Y.ret rfl
  · replace h := (if_neg hc).symm.trans h
    refine am_Y.run (k := 6) (pc' := 64) (lv' := [(9, .long x2), (0, .long x0), (2, .long x2), (4, .int x4), (5, .long x5)]) (st' := [.int (lg_cmp x5 (0 : Int64))]) (h' := hp M) rfl ?_
    refine am_Y.br (c := (lg_cmp x5 (0 : Int64)) = (0 : Int32)) _ (t := 67) (u := 72) (lv' := [(9, .long x2), (0, .long x0), (2, .long x2), (4, .int x4), (5, .long x5)]) (st' := []) (h' := hp M) rfl (fun hc => ?_) (fun hc => ?_)
    · replace h := (if_pos hc).symm.trans h
      refine am_Y.run (k := 2) (pc' := 77) (lv' := [(9, .long x2), (0, .long x0), (2, .long x2), (4, .int x4), (5, .long x5)]) (st' := [.long x2]) (h' := hp M) rfl ?_
      obtain rfl := Option.some.inj h
      exact am_Y.ret rfl
    · replace h := (if_neg hc).symm.trans h
      refine am_Y.run (k := 2) (pc' := 76) (lv' := [(9, .long x2), (0, .long x0), (2, .long x2), (4, .int x4), (5, .long x5)]) (st' := [.long x5, .long x2]) (h' := hp M) rfl ?_
      obtain ⟨g, h⟩ := am_itn h
      refine am_Y.ldv rfl g ?_
      obtain rfl := Option.some.inj h
      exact am_Y.ret rfl
set_option maxRecDepth 100000 in
theorem t_w_lowest_12 {S : Nat × (Nat → Int32)} (N : Nat) : ∀ (n : Nat) (x0 : Int64) (x2 : Int64) (x4 : Int32) (x5 : Int64) (x7 : Int64) (x9 : Int32) (M : Mem) (r : Int64), f_w_lowest_12 N n x0 x2 x4 x5 x7 x9 M = some r → am_Y S 1 0 0 am_M173 12 [(0, .long x0), (2, .long x2), (4, .int x4), (5, .long x5), (7, .long x7), (9, .int x9)] [] (hp M) (some (.long r)) (hp M) := by
  intro n
  induction n with
  | zero =>
    intro x0 x2 x4 x5 x7 x9 M r h
    cases h
  | succ n ih =>
    intro x0 x2 x4 x5 x7 x9 M r h
    rw [f_w_lowest_12] at h
    refine am_Y.run (k := 2) (pc' := 17) (lv' := [(0, .long x0), (2, .long x2), (4, .int x4), (5, .long x5), (7, .long x7), (9, .int x9)]) (st' := [.int (200 : Int32), .int x9]) (h' := hp M) rfl ?_
    refine am_Y.br (c := (200 : Int32) ≤ x9) _ (t := 48) (u := 20) (lv' := [(0, .long x0), (2, .long x2), (4, .int x4), (5, .long x5), (7, .long x7), (9, .int x9)]) (st' := []) (h' := hp M) rfl (fun hc => ?_) (fun hc => ?_)
    · replace h := (if_pos hc).symm.trans h
      refine am_Y.weak (lv2 := [(0, .long x0), (2, .long x2), (4, .int x4), (5, .long x5)]) rfl rfl ⟨rfl, rfl, rfl, rfl, trivial⟩ ?_
      exact t_w_lowest_48 N x0 x2 x4 x5 M _ h
    · replace h := (if_neg hc).symm.trans h
      refine am_Y.run (k := 3) (pc' := 24) (lv' := [(0, .long x0), (2, .long x2), (4, .int x4), (5, .long x5), (7, .long x7), (9, .int x9)]) (st' := [.int (lg_cmp x7 (0 : Int64))]) (h' := hp M) rfl ?_
      refine am_Y.br (c := (lg_cmp x7 (0 : Int64)) = (0 : Int32)) _ (t := 48) (u := 27) (lv' := [(0, .long x0), (2, .long x2), (4, .int x4), (5, .long x5), (7, .long x7), (9, .int x9)]) (st' := []) (h' := hp M) rfl (fun hc => ?_) (fun hc => ?_)
      · replace h := (if_pos hc).symm.trans h
        refine am_Y.weak (lv2 := [(0, .long x0), (2, .long x2), (4, .int x4), (5, .long x5)]) rfl rfl ⟨rfl, rfl, rfl, rfl, trivial⟩ ?_
        exact t_w_lowest_48 N x0 x2 x4 x5 M _ h
      · replace h := (if_neg hc).symm.trans h
        refine am_Y.run (k := 2) (pc' := 31) (lv' := [(0, .long x0), (2, .long x2), (4, .int x4), (5, .long x5), (7, .long x7), (9, .int x9)]) (st' := [.long x7, .long x5]) (h' := hp M) rfl ?_
        obtain ⟨g, h⟩ := am_itn h
        refine am_Y.lrm rfl g ?_
        refine am_Y.run (k := 7) (pc' := 12) (lv' := [(9, .int (x9 + (1 : Int32))), (7, .long (x5 - x5 / x7 * x7)), (5, .long x7), (10, .long (x5 - x5 / x7 * x7)), (0, .long x0), (2, .long x2), (4, .int x4)]) (st' := []) (h' := hp M) rfl ?_
        refine am_Y.weak (lv2 := [(0, .long x0), (2, .long x2), (4, .int x4), (5, .long x7), (7, .long (x5 - x5 / x7 * x7)), (9, .int (x9 + (1 : Int32)))]) rfl rfl ⟨rfl, rfl, rfl, rfl, rfl, rfl, trivial⟩ ?_
        exact ih x0 x2 x4 x7 (x5 - x5 / x7 * x7) (x9 + (1 : Int32)) M _ h
set_option maxRecDepth 100000 in
theorem t_w_lowest {S : Nat × (Nat → Int32)} (N : Nat) (x0 : Int64) (x2 : Int64) (x4 : Int32) (M : Mem) (r : Int64) (h : f_w_lowest N x0 x2 x4 M = some r) : am_Y S 1 0 0 am_M173 0 [(0, .long x0), (2, .long x2), (4, .int x4)] [] (hp M) (some (.long r)) (hp M) := by
  rw [f_w_lowest] at h
  refine am_Y.run (k := 1) (pc' := 1) (lv' := [(0, .long x0), (2, .long x2), (4, .int x4)]) (st' := [.long x0]) (h' := hp M) rfl ?_
  refine am_Y.call0 (M' := am_M252) (as := [.long x0]) (rest := []) (d' := 0) rfl (by omega) rfl rfl (t_k_abs x0 M _ rfl) ?_
  refine am_Y.run (k := 5) (pc' := 12) (lv' := [(9, .int (0 : Int32)), (7, .long x2), (5, .long (f_k_abs x0 M)), (0, .long x0), (2, .long x2), (4, .int x4)]) (st' := []) (h' := hp M) rfl ?_
  refine am_Y.weak (lv2 := [(0, .long x0), (2, .long x2), (4, .int x4), (5, .long (f_k_abs x0 M)), (7, .long x2), (9, .int (0 : Int32))]) rfl rfl ⟨rfl, rfl, rfl, rfl, rfl, rfl, trivial⟩ ?_
  exact t_w_lowest_12 N N x0 x2 x4 (f_k_abs x0 M) x2 (0 : Int32) M _ h
set_option maxRecDepth 100000 in
theorem t_w_inherits {S : Nat × (Nat → Int32)} (N : Nat) (x1 : Int32) (x2 : Int32) (x3 : Int32) (M : Mem) (r : Int64) (h : f_w_inherits N x1 x2 x3 M = some r) : am_Y S 3 0 0 am_M38 0 [(0, .ref 5), (1, .int x1), (2, .int x2), (3, .int x3)] [] (hp M) (some (.long r)) (hp M) := by
  rw [f_w_inherits] at h
  refine am_Y.run (k := 4) (pc' := 8) (lv' := [(0, .ref 5), (1, .int x1), (2, .int x2), (3, .int x3)]) (st' := [.int x1, .ref 7]) (h' := hp M) rfl ?_
  refine am_Y.call0 (M' := am_M140) (as := [.ref 7, .int x1]) (rest := []) (d' := 1) rfl (by omega) rfl rfl (t_g_knows x1 M _ rfl) ?_
  refine am_Y.br (c := (f_g_knows x1 M) = (0 : Int32)) _ (t := 22) (u := 14) (lv' := [(0, .ref 5), (1, .int x1), (2, .int x2), (3, .int x3)]) (st' := []) (h' := hp M) rfl (fun hc => ?_) (fun hc => ?_)
  · replace h := (if_pos hc).symm.trans h
    refine am_Y.run (k := 1) (pc' := 25) (lv' := [(0, .ref 5), (1, .int x1), (2, .int x2), (3, .int x3)]) (st' := [.long (-1 : Int64)]) (h' := hp M) rfl ?_
    obtain rfl := Option.some.inj h
    exact am_Y.ret rfl
  · replace h := (if_neg hc).symm.trans h
    refine am_Y.run (k := 2) (pc' := 16) (lv' := [(0, .ref 5), (1, .int x1), (2, .int x2), (3, .int x3)]) (st' := [.int x2, .ref 5]) (h' := hp M) rfl ?_
    refine am_Y.call0 (M' := am_M170) (as := [.ref 5, .int x2]) (rest := []) (d' := 1) rfl (by omega) rfl rfl (t_w_isOfBook x2 M _ rfl) ?_
    refine am_Y.br (c := (f_w_isOfBook x2 M) = (0 : Int32)) _ (t := 22) (u := 26) (lv' := [(0, .ref 5), (1, .int x1), (2, .int x2), (3, .int x3)]) (st' := []) (h' := hp M) rfl (fun hc => ?_) (fun hc => ?_)
    · replace h := (if_pos hc).symm.trans h
      refine am_Y.run (k := 1) (pc' := 25) (lv' := [(0, .ref 5), (1, .int x1), (2, .int x2), (3, .int x3)]) (st' := [.long (-1 : Int64)]) (h' := hp M) rfl ?_
      obtain rfl := Option.some.inj h
      exact am_Y.ret rfl
    · replace h := (if_neg hc).symm.trans h
      refine am_Y.run (k := 5) (pc' := 35) (lv' := [(0, .ref 5), (1, .int x1), (2, .int x2), (3, .int x3)]) (st' := [.int x1, .int x2, .ref 11]) (h' := hp M) rfl ?_
      obtain ⟨q1, e_q1, h⟩ := Option.bind_eq_some_iff.mp h
      refine am_Y.call0 (M' := am_M171) (as := [.ref 11, .int x2, .int x1]) (rest := []) (d' := 2) rfl (by omega) rfl rfl (t_h_partOf N x2 x1 M q1 e_q1) ?_
      refine am_Y.run (k := 2) (pc' := 42) (lv' := [(0, .ref 5), (1, .int x1), (2, .int x2), (3, .int x3)]) (st' := [.int x2, .long (840 : Int64), .long q1]) (h' := hp M) rfl ?_
      obtain ⟨q2, e_q2, h⟩ := Option.bind_eq_some_iff.mp h
      refine am_Y.call0 (M' := am_M172) (as := [.int x2]) (rest := [.long (840 : Int64), .long q1]) (d' := 0) rfl (by omega) rfl rfl (t_w_hundreds N x2 M q2 e_q2) ?_
      refine am_Y.run (k := 2) (pc' := 47) (lv' := [(0, .ref 5), (1, .int x1), (2, .int x2), (3, .int x3)]) (st' := [.int x3, .long ((840 : Int64) * q2), .long q1]) (h' := hp M) rfl ?_
      obtain ⟨q3, e_q3, h⟩ := Option.bind_eq_some_iff.mp h
      refine am_Y.call0 (M' := am_M173) (as := [.long q1, .long ((840 : Int64) * q2), .int x3]) (rest := []) (d' := 1) rfl (by omega) rfl rfl (t_w_lowest N q1 ((840 : Int64) * q2) x3 M q3 e_q3) ?_
      obtain rfl := Option.some.inj h
      exact am_Y.ret rfl
set_option maxRecDepth 100000 in
theorem t_m_areNights {S : Nat × (Nat → Int32)} (x1 : Int32) (M : Mem) (r : Int32) (h : f_m_areNights x1 M = r) : am_Y S 1 0 0 am_M174 0 [(0, .ref 129), (1, .int x1)] [] (hp M) (some (.int r)) (hp M) := by
  rw [f_m_areNights] at h
  refine am_Y.run (k := 3) (pc' := 4) (lv' := [(0, .ref 129), (1, .int x1)]) (st' := [.int (6 : Int32), .int (1 : Int32), .int x1]) (h' := hp M) rfl ?_
  refine am_Y.call0 (M' := am_M104) (as := [.int x1, .int (1 : Int32), .int (6 : Int32)]) (rest := []) (d' := 0) rfl (by omega) rfl rfl (t_m_isIn x1 (1 : Int32) (6 : Int32) M _ rfl) ?_
  refine am_Y.br (c := (f_m_isIn x1 (1 : Int32) (6 : Int32) M) = (0 : Int32)) _ (t := 22) (u := 10) (lv' := [(0, .ref 129), (1, .int x1)]) (st' := []) (h' := hp M) rfl (fun hc => ?_) (fun hc => ?_)
  · replace h := (if_pos hc).symm.trans h
    refine am_Y.run (k := 1) (pc' := 23) (lv' := [(0, .ref 129), (1, .int x1)]) (st' := [.int (0 : Int32)]) (h' := hp M) rfl ?_
    subst h
    exact am_Y.ret rfl
  · replace h := (if_neg hc).symm.trans h
    refine am_Y.run (k := 2) (pc' := 12) (lv' := [(0, .ref 129), (1, .int x1)]) (st' := [.ref 129, .int x1]) (h' := hp M) rfl ?_
    refine am_Y.call0 (M' := am_M166) (as := [.ref 129]) (rest := [.int x1]) (d' := 0) rfl (by omega) rfl rfl (t_m_shown M _ rfl) ?_
    refine am_Y.br (c := (f_m_shown M) < x1) _ (t := 22) (u := 18) (lv' := [(0, .ref 129), (1, .int x1)]) (st' := []) (h' := hp M) rfl (fun hc => ?_) (fun hc => ?_)
    · replace h := (if_pos hc).symm.trans h
      refine am_Y.run (k := 1) (pc' := 23) (lv' := [(0, .ref 129), (1, .int x1)]) (st' := [.int (0 : Int32)]) (h' := hp M) rfl ?_
      subst h
      exact am_Y.ret rfl
    · replace h := (if_neg hc).symm.trans h
      refine am_Y.run (k := 2) (pc' := 23) (lv' := [(0, .ref 129), (1, .int x1)]) (st' := [.int (1 : Int32)]) (h' := hp M) rfl ?_
      subst h
      exact am_Y.ret rfl
set_option maxRecDepth 100000 in
theorem z_m_areNights (x1 : Int32) (M : Mem) : f_m_areNights x1 M = 0 ∨ f_m_areNights x1 M = 1 := by
  simp only [f_m_areNights]
  first | (repeat' split) <;> first | exact Or.inl rfl | exact Or.inr rfl | (simp; done) | exact z_m_isIn _ _ _ _ | exact z_m_shown _ _ _ _ | exact z_m_isIn _ _ _ | exact z_m_shown _ _ _ | exact z_m_isIn _ _ | exact z_m_shown _ _
set_option maxRecDepth 100000 in
theorem t_m_power_4 {S : Nat × (Nat → Int32)} (N : Nat) : ∀ (n : Nat) (x0 : Int32) (x1 : Int64) (x3 : Int32) (M : Mem) (r : Int64), f_m_power_4 N n x0 x1 x3 M = some r → am_Y S 0 0 0 am_M178 4 [(0, .int x0), (1, .long x1), (3, .int x3)] [] (hp M) (some (.long r)) (hp M) := by
  intro n
  induction n with
  | zero =>
    intro x0 x1 x3 M r h
    cases h
  | succ n ih =>
    intro x0 x1 x3 M r h
    rw [f_m_power_4] at h
    refine am_Y.run (k := 2) (pc' := 6) (lv' := [(0, .int x0), (1, .long x1), (3, .int x3)]) (st' := [.int x0, .int x3]) (h' := hp M) rfl ?_
    refine am_Y.br (c := x0 ≤ x3) _ (t := 21) (u := 9) (lv' := [(0, .int x0), (1, .long x1), (3, .int x3)]) (st' := []) (h' := hp M) rfl (fun hc => ?_) (fun hc => ?_)
    · replace h := (if_pos hc).symm.trans h
      refine am_Y.run (k := 1) (pc' := 22) (lv' := [(0, .int x0), (1, .long x1), (3, .int x3)]) (st' := [.long x1]) (h' := hp M) rfl ?_
      obtain rfl := Option.some.inj h
      exact am_Y.ret rfl
    · replace h := (if_neg hc).symm.trans h
      refine am_Y.run (k := 6) (pc' := 4) (lv' := [(3, .int (x3 + (1 : Int32))), (1, .long (x1 * (100 : Int64))), (0, .int x0)]) (st' := []) (h' := hp M) rfl ?_
      refine am_Y.weak (lv2 := [(0, .int x0), (1, .long (x1 * (100 : Int64))), (3, .int (x3 + (1 : Int32)))]) rfl rfl ⟨rfl, rfl, rfl, trivial⟩ ?_
      exact ih x0 (x1 * (100 : Int64)) (x3 + (1 : Int32)) M _ h
set_option maxRecDepth 100000 in
theorem t_m_power {S : Nat × (Nat → Int32)} (N : Nat) (x0 : Int32) (M : Mem) (r : Int64) (h : f_m_power N x0 M = some r) : am_Y S 0 0 0 am_M178 0 [(0, .int x0)] [] (hp M) (some (.long r)) (hp M) := by
  rw [f_m_power] at h
  refine am_Y.run (k := 4) (pc' := 4) (lv' := [(3, .int (0 : Int32)), (1, .long (1 : Int64)), (0, .int x0)]) (st' := []) (h' := hp M) rfl ?_
  refine am_Y.weak (lv2 := [(0, .int x0), (1, .long (1 : Int64)), (3, .int (0 : Int32))]) rfl rfl ⟨rfl, rfl, rfl, trivial⟩ ?_
  exact t_m_power_4 N N x0 (1 : Int64) (0 : Int32) M _ h
set_option maxRecDepth 100000 in
theorem t_m_common_17 {S : Nat × (Nat → Int32)} (N : Nat) : ∀ (n : Nat) (x4 : Int64) (x6 : Int64) (M : Mem) (r : Int64), f_m_common_17 N n x4 x6 M = some r → am_Y S 0 0 0 am_M253 17 [(4, .long x4), (6, .long x6)] [] (hp M) (some (.long r)) (hp M) := by
  intro n
  induction n with
  | zero =>
    intro x4 x6 M r h
    cases h
  | succ n ih =>
    intro x4 x6 M r h
    rw [f_m_common_17] at h
    refine am_Y.run (k := 3) (pc' := 21) (lv' := [(4, .long x4), (6, .long x6)]) (st' := [.int (lg_cmp x6 (0 : Int64))]) (h' := hp M) rfl ?_
    refine am_Y.br (c := (lg_cmp x6 (0 : Int64)) = (0 : Int32)) _ (t := 42) (u := 24) (lv' := [(4, .long x4), (6, .long x6)]) (st' := []) (h' := hp M) rfl (fun hc => ?_) (fun hc => ?_)
    · replace h := (if_pos hc).symm.trans h
      refine am_Y.run (k := 1) (pc' := 44) (lv' := [(4, .long x4), (6, .long x6)]) (st' := [.long x4]) (h' := hp M) rfl ?_
      obtain rfl := Option.some.inj h
      exact am_Y.ret rfl
    · replace h := (if_neg hc).symm.trans h
      refine am_Y.run (k := 2) (pc' := 28) (lv' := [(4, .long x4), (6, .long x6)]) (st' := [.long x6, .long x4]) (h' := hp M) rfl ?_
      obtain ⟨g, h⟩ := am_itn h
      refine am_Y.lrm rfl g ?_
      refine am_Y.run (k := 6) (pc' := 17) (lv' := [(6, .long (x4 - x4 / x6 * x6)), (4, .long x6), (8, .long (x4 - x4 / x6 * x6))]) (st' := []) (h' := hp M) rfl ?_
      refine am_Y.weak (lv2 := [(4, .long x6), (6, .long (x4 - x4 / x6 * x6))]) rfl rfl ⟨rfl, rfl, trivial⟩ ?_
      exact ih x6 (x4 - x4 / x6 * x6) M _ h
set_option maxRecDepth 100000 in
theorem t_m_common {S : Nat × (Nat → Int32)} (N : Nat) (x0 : Int64) (x2 : Int64) (M : Mem) (r : Int64) (h : f_m_common N x0 x2 M = some r) : am_Y S 0 0 0 am_M253 0 [(0, .long x0), (2, .long x2)] [] (hp M) (some (.long r)) (hp M) := by
  rw [f_m_common] at h
  refine am_Y.run (k := 3) (pc' := 3) (lv' := [(0, .long x0), (2, .long x2)]) (st' := [.int (lg_cmp x0 (0 : Int64))]) (h' := hp M) rfl ?_
  refine am_Y.br (c := (0 : Int32) ≤ (lg_cmp x0 (0 : Int64))) _ (t := 11) (u := 6) (lv' := [(0, .long x0), (2, .long x2)]) (st' := []) (h' := hp M) rfl (fun hc => ?_) (fun hc => ?_)
  · replace h := (if_pos hc).symm.trans h
    refine am_Y.run (k := 4) (pc' := 17) (lv' := [(6, .long x2), (4, .long x0), (0, .long x0), (2, .long x2)]) (st' := []) (h' := hp M) rfl ?_
    refine am_Y.weak (lv2 := [(4, .long x0), (6, .long x2)]) rfl rfl ⟨rfl, rfl, trivial⟩ ?_
    exact t_m_common_17 N N x0 x2 M _ h
  · replace h := (if_neg hc).symm.trans h
    refine am_Y.run (k := 6) (pc' := 17) (lv' := [(6, .long x2), (4, .long (-x0)), (0, .long x0), (2, .long x2)]) (st' := []) (h' := hp M) rfl ?_
    refine am_Y.weak (lv2 := [(4, .long (-x0)), (6, .long x2)]) rfl rfl ⟨rfl, rfl, trivial⟩ ?_
    exact t_m_common_17 N N (-x0) x2 M _ h
set_option maxRecDepth 100000 in
theorem t_m_part {S : Nat × (Nat → Int32)} (N : Nat) (x0 : Int64) (x2 : Int64) (x4 : Int32) (M : Mem) (r : Int64) (h : f_m_part N x0 x2 x4 M = some r) : am_Y S 1 0 0 am_M179 0 [(0, .long x0), (2, .long x2), (4, .int x4)] [] (hp M) (some (.long r)) (hp M) := by
  rw [f_m_part] at h
  refine am_Y.run (k := 1) (pc' := 2) (lv' := [(0, .long x0), (2, .long x2), (4, .int x4)]) (st' := [.int x4]) (h' := hp M) rfl ?_
  refine am_Y.br (c := x4 = (0 : Int32)) _ (t := 9) (u := 5) (lv' := [(0, .long x0), (2, .long x2), (4, .int x4)]) (st' := []) (h' := hp M) rfl (fun hc => ?_) (fun hc => ?_)
  · replace h := (if_pos hc).symm.trans h
    refine am_Y.run (k := 3) (pc' := 12) (lv' := [(0, .long x0), (2, .long x2), (4, .int x4)]) (st' := [.long x2, .long x0, .long x0]) (h' := hp M) rfl ?_
    obtain ⟨q1, e_q1, h⟩ := Option.bind_eq_some_iff.mp h
    refine am_Y.call0 (M' := am_M253) (as := [.long x0, .long x2]) (rest := [.long x0]) (d' := 0) rfl (by omega) rfl rfl (t_m_common N x0 x2 M q1 e_q1) ?_
    obtain ⟨g, h⟩ := am_itn h
    refine am_Y.ldv rfl g ?_
    obtain rfl := Option.some.inj h
    exact am_Y.ret rfl
  · replace h := (if_neg hc).symm.trans h
    refine am_Y.run (k := 4) (pc' := 12) (lv' := [(0, .long x0), (2, .long x2), (4, .int x4)]) (st' := [.long x2, .long x0, .long x2]) (h' := hp M) rfl ?_
    obtain ⟨q2, e_q2, h⟩ := Option.bind_eq_some_iff.mp h
    refine am_Y.call0 (M' := am_M253) (as := [.long x0, .long x2]) (rest := [.long x2]) (d' := 0) rfl (by omega) rfl rfl (t_m_common N x0 x2 M q2 e_q2) ?_
    obtain ⟨g, h⟩ := am_itn h
    refine am_Y.ldv rfl g ?_
    obtain rfl := Option.some.inj h
    exact am_Y.ret rfl
set_option maxRecDepth 100000 in
theorem t_m_diesIn_5 {S : Nat × (Nat → Int32)} (N : Nat) : ∀ (n : Nat) (x1 : Int32) (x2 : Int32) (x3 : Int64) (x5 : Int32) (M : Mem) (r : Int64), f_m_diesIn_5 N n x1 x2 x3 x5 M = some r → am_Y S 3 0 0 am_M176 5 [(0, .ref 129), (1, .int x1), (2, .int x2), (3, .long x3), (5, .int x5)] [] (hp M) (some (.long r)) (hp M) := by
  intro n
  induction n with
  | zero =>
    intro x1 x2 x3 x5 M r h
    cases h
  | succ n ih =>
    intro x1 x2 x3 x5 M r h
    rw [f_m_diesIn_5] at h
    refine am_Y.run (k := 2) (pc' := 8) (lv' := [(0, .ref 129), (1, .int x1), (2, .int x2), (3, .long x3), (5, .int x5)]) (st' := [.int x1, .int x5]) (h' := hp M) rfl ?_
    refine am_Y.br (c := x1 ≤ x5) _ (t := 65) (u := 11) (lv' := [(0, .ref 129), (1, .int x1), (2, .int x2), (3, .long x3), (5, .int x5)]) (st' := []) (h' := hp M) rfl (fun hc => ?_) (fun hc => ?_)
    · replace h := (if_pos hc).symm.trans h
      refine am_Y.run (k := 1) (pc' := 66) (lv' := [(0, .ref 129), (1, .int x1), (2, .int x2), (3, .long x3), (5, .int x5)]) (st' := [.long x3]) (h' := hp M) rfl ?_
      obtain rfl := Option.some.inj h
      exact am_Y.ret rfl
    · replace h := (if_neg hc).symm.trans h
      refine am_Y.run (k := 2) (pc' := 13) (lv' := [(0, .ref 129), (1, .int x1), (2, .int x2), (3, .long x3), (5, .int x5)]) (st' := [.ref 129, .ref 129]) (h' := hp M) rfl ?_
      refine am_Y.call0 (M' := am_M166) (as := [.ref 129]) (rest := [.ref 129]) (d' := 0) rfl (by omega) rfl rfl (t_m_shown M _ rfl) ?_
      refine am_Y.run (k := 4) (pc' := 21) (lv' := [(0, .ref 129), (1, .int x1), (2, .int x2), (3, .long x3), (5, .int x5)]) (st' := [.int (((f_m_shown M) - x1) + x5), .ref 129]) (h' := hp M) rfl ?_
      obtain ⟨q1, e_q1, h⟩ := Option.bind_eq_some_iff.mp h
      refine am_Y.call0 (M' := am_M169) (as := [.ref 129, .int (((f_m_shown M) - x1) + x5)]) (rest := []) (d' := 2) rfl (by omega) rfl rfl (t_m_diedIn (((f_m_shown M) - x1) + x5) M q1 e_q1) ?_
      refine am_Y.run (k := 4) (pc' := 30) (lv' := [(6, .int q1), (0, .ref 129), (1, .int x1), (2, .int x2), (3, .long x3), (5, .int x5)]) (st' := [.int x2, .int x5, .long x3]) (h' := hp M) rfl ?_
      refine am_Y.br (c := x2 ≤ x5) _ (t := 42) (u := 33) (lv' := [(6, .int q1), (0, .ref 129), (1, .int x1), (2, .int x2), (3, .long x3), (5, .int x5)]) (st' := [.long x3]) (h' := hp M) rfl (fun hc => ?_) (fun hc => ?_)
      · replace h := (if_pos hc).symm.trans h
        refine am_Y.run (k := 2) (pc' := 45) (lv' := [(6, .int q1), (0, .ref 129), (1, .int x1), (2, .int x2), (3, .long x3), (5, .int x5)]) (st' := [.int x2, .int x5, .long x3]) (h' := hp M) rfl ?_
        refine am_Y.br (c := x5 = x2) _ (t := 48) (u := 54) (lv' := [(6, .int q1), (0, .ref 129), (1, .int x1), (2, .int x2), (3, .long x3), (5, .int x5)]) (st' := [.long x3]) (h' := hp M) rfl (fun hc => ?_) (fun hc => ?_)
        · replace h := (if_pos hc).symm.trans h
          refine am_Y.run (k := 7) (pc' := 5) (lv' := [(5, .int (x5 + (1 : Int32))), (3, .long (x3 * (Int32.toInt64 q1))), (6, .int q1), (0, .ref 129), (1, .int x1), (2, .int x2)]) (st' := []) (h' := hp M) rfl ?_
          refine am_Y.weak (lv2 := [(0, .ref 129), (1, .int x1), (2, .int x2), (3, .long (x3 * (Int32.toInt64 q1))), (5, .int (x5 + (1 : Int32)))]) rfl rfl ⟨rfl, rfl, rfl, rfl, rfl, trivial⟩ ?_
          exact ih x1 x2 (x3 * (Int32.toInt64 q1)) (x5 + (1 : Int32)) M _ h
        · replace h := (if_neg hc).symm.trans h
          refine am_Y.run (k := 5) (pc' := 5) (lv' := [(5, .int (x5 + (1 : Int32))), (3, .long (x3 * (100 : Int64))), (6, .int q1), (0, .ref 129), (1, .int x1), (2, .int x2)]) (st' := []) (h' := hp M) rfl ?_
          refine am_Y.weak (lv2 := [(0, .ref 129), (1, .int x1), (2, .int x2), (3, .long (x3 * (100 : Int64))), (5, .int (x5 + (1 : Int32)))]) rfl rfl ⟨rfl, rfl, rfl, rfl, rfl, trivial⟩ ?_
          exact ih x1 x2 (x3 * (100 : Int64)) (x5 + (1 : Int32)) M _ h
      · replace h := (if_neg hc).symm.trans h
        refine am_Y.run (k := 9) (pc' := 5) (lv' := [(5, .int (x5 + (1 : Int32))), (3, .long (x3 * (Int32.toInt64 ((100 : Int32) - q1)))), (6, .int q1), (0, .ref 129), (1, .int x1), (2, .int x2)]) (st' := []) (h' := hp M) rfl ?_
        refine am_Y.weak (lv2 := [(0, .ref 129), (1, .int x1), (2, .int x2), (3, .long (x3 * (Int32.toInt64 ((100 : Int32) - q1)))), (5, .int (x5 + (1 : Int32)))]) rfl rfl ⟨rfl, rfl, rfl, rfl, rfl, trivial⟩ ?_
        exact ih x1 x2 (x3 * (Int32.toInt64 ((100 : Int32) - q1))) (x5 + (1 : Int32)) M _ h
set_option maxRecDepth 100000 in
theorem t_m_diesIn {S : Nat × (Nat → Int32)} (N : Nat) (x1 : Int32) (x2 : Int32) (M : Mem) (r : Int64) (h : f_m_diesIn N x1 x2 M = some r) : am_Y S 3 0 0 am_M176 0 [(0, .ref 129), (1, .int x1), (2, .int x2)] [] (hp M) (some (.long r)) (hp M) := by
  rw [f_m_diesIn] at h
  refine am_Y.run (k := 4) (pc' := 5) (lv' := [(5, .int (0 : Int32)), (3, .long (1 : Int64)), (0, .ref 129), (1, .int x1), (2, .int x2)]) (st' := []) (h' := hp M) rfl ?_
  refine am_Y.weak (lv2 := [(0, .ref 129), (1, .int x1), (2, .int x2), (3, .long (1 : Int64)), (5, .int (0 : Int32))]) rfl rfl ⟨rfl, rfl, rfl, rfl, rfl, trivial⟩ ?_
  exact t_m_diesIn_5 N N x1 x2 (1 : Int64) (0 : Int32) M _ h
set_option maxRecDepth 100000 in
theorem t_m_inherits_26 {S : Nat × (Nat → Int32)} (N : Nat) : ∀ (n : Nat) (x1 : Int32) (x2 : Int32) (x3 : Int32) (x4 : Int64) (x6 : Int32) (M : Mem) (r : Int64), f_m_inherits_26 N n x1 x2 x3 x4 x6 M = some r → am_Y S 4 0 0 am_M39 26 [(0, .ref 129), (1, .int x1), (2, .int x2), (3, .int x3), (4, .long x4), (6, .int x6)] [] (hp M) (some (.long r)) (hp M) := by
  intro n
  induction n with
  | zero =>
    intro x1 x2 x3 x4 x6 M r h
    cases h
  | succ n ih =>
    intro x1 x2 x3 x4 x6 M r h
    rw [f_m_inherits_26] at h
    refine am_Y.run (k := 2) (pc' := 29) (lv' := [(0, .ref 129), (1, .int x1), (2, .int x2), (3, .int x3), (4, .long x4), (6, .int x6)]) (st' := [.int x2, .int x6]) (h' := hp M) rfl ?_
    refine am_Y.br (c := x2 ≤ x6) _ (t := 85) (u := 32) (lv' := [(0, .ref 129), (1, .int x1), (2, .int x2), (3, .int x3), (4, .long x4), (6, .int x6)]) (st' := []) (h' := hp M) rfl (fun hc => ?_) (fun hc => ?_)
    · replace h := (if_pos hc).symm.trans h
      refine am_Y.run (k := 3) (pc' := 91) (lv' := [(0, .ref 129), (1, .int x1), (2, .int x2), (3, .int x3), (4, .long x4), (6, .int x6)]) (st' := [.int x2, .long (840 : Int64), .long x4]) (h' := hp M) rfl ?_
      obtain ⟨q1, e_q1, h⟩ := Option.bind_eq_some_iff.mp h
      refine am_Y.call0 (M' := am_M178) (as := [.int x2]) (rest := [.long (840 : Int64), .long x4]) (d' := 0) rfl (by omega) rfl rfl (t_m_power N x2 M q1 e_q1) ?_
      refine am_Y.run (k := 2) (pc' := 96) (lv' := [(0, .ref 129), (1, .int x1), (2, .int x2), (3, .int x3), (4, .long x4), (6, .int x6)]) (st' := [.int x3, .long ((840 : Int64) * q1), .long x4]) (h' := hp M) rfl ?_
      obtain ⟨q2, e_q2, h⟩ := Option.bind_eq_some_iff.mp h
      refine am_Y.call0 (M' := am_M179) (as := [.long x4, .long ((840 : Int64) * q1), .int x3]) (rest := []) (d' := 1) rfl (by omega) rfl rfl (t_m_part N x4 ((840 : Int64) * q1) x3 M q2 e_q2) ?_
      obtain rfl := Option.some.inj h
      exact am_Y.ret rfl
    · replace h := (if_neg hc).symm.trans h
      refine am_Y.run (k := 2) (pc' := 34) (lv' := [(0, .ref 129), (1, .int x1), (2, .int x2), (3, .int x3), (4, .long x4), (6, .int x6)]) (st' := [.ref 129, .ref 129]) (h' := hp M) rfl ?_
      refine am_Y.call0 (M' := am_M166) (as := [.ref 129]) (rest := [.ref 129]) (d' := 0) rfl (by omega) rfl rfl (t_m_shown M _ rfl) ?_
      refine am_Y.run (k := 4) (pc' := 42) (lv' := [(0, .ref 129), (1, .int x1), (2, .int x2), (3, .int x3), (4, .long x4), (6, .int x6)]) (st' := [.int (((f_m_shown M) - x2) + x6), .ref 129]) (h' := hp M) rfl ?_
      obtain ⟨q3, e_q3, h⟩ := Option.bind_eq_some_iff.mp h
      refine am_Y.call0 (M' := am_M168) (as := [.ref 129, .int (((f_m_shown M) - x2) + x6)]) (rest := []) (d' := 2) rfl (by omega) rfl rfl (t_m_heldIn (((f_m_shown M) - x2) + x6) M q3 e_q3) ?_
      refine am_Y.run (k := 3) (pc' := 50) (lv' := [(7, .int q3), (0, .ref 129), (1, .int x1), (2, .int x2), (3, .int x3), (4, .long x4), (6, .int x6)]) (st' := [.int x1, .int q3]) (h' := hp M) rfl ?_
      refine am_Y.call0 (M' := am_M175) (as := [.int q3, .int x1]) (rest := []) (d' := 0) rfl (by omega) rfl rfl (t_m_has q3 x1 M _ rfl) ?_
      refine am_Y.br (c := (f_m_has q3 x1 M) = (0 : Int32)) _ (t := 79) (u := 56) (lv' := [(7, .int q3), (0, .ref 129), (1, .int x1), (2, .int x2), (3, .int x3), (4, .long x4), (6, .int x6)]) (st' := []) (h' := hp M) rfl (fun hc => ?_) (fun hc => ?_)
      · replace h := (if_pos hc).symm.trans h
        refine am_Y.run (k := 2) (pc' := 26) (lv' := [(6, .int (x6 + (1 : Int32))), (7, .int q3), (0, .ref 129), (1, .int x1), (2, .int x2), (3, .int x3), (4, .long x4)]) (st' := []) (h' := hp M) rfl ?_
        refine am_Y.weak (lv2 := [(0, .ref 129), (1, .int x1), (2, .int x2), (3, .int x3), (4, .long x4), (6, .int (x6 + (1 : Int32)))]) rfl rfl ⟨rfl, rfl, rfl, rfl, rfl, rfl, trivial⟩ ?_
        exact ih x1 x2 x3 x4 (x6 + (1 : Int32)) M _ h
      · replace h := (if_neg hc).symm.trans h
        refine am_Y.run (k := 4) (pc' := 62) (lv' := [(7, .int q3), (0, .ref 129), (1, .int x1), (2, .int x2), (3, .int x3), (4, .long x4), (6, .int x6)]) (st' := [.int x6, .int x2, .ref 129, .long x4]) (h' := hp M) rfl ?_
        obtain ⟨q4, e_q4, h⟩ := Option.bind_eq_some_iff.mp h
        refine am_Y.call0 (M' := am_M176) (as := [.ref 129, .int x2, .int x6]) (rest := [.long x4]) (d' := 3) rfl (by omega) rfl rfl (t_m_diesIn N x2 x6 M q4 e_q4) ?_
        refine am_Y.run (k := 2) (pc' := 70) (lv' := [(7, .int q3), (0, .ref 129), (1, .int x1), (2, .int x2), (3, .int x3), (4, .long x4), (6, .int x6)]) (st' := [.int q3, .long (840 : Int64), .long q4, .long x4]) (h' := hp M) rfl ?_
        obtain ⟨q5, e_q5, h⟩ := Option.bind_eq_some_iff.mp h
        refine am_Y.call0 (M' := am_M177) (as := [.int q3]) (rest := [.long (840 : Int64), .long q4, .long x4]) (d' := 0) rfl (by omega) rfl rfl (t_m_bits N q3 M q5 e_q5) ?_
        refine am_Y.run (k := 1) (pc' := 74) (lv' := [(7, .int q3), (0, .ref 129), (1, .int x1), (2, .int x2), (3, .int x3), (4, .long x4), (6, .int x6)]) (st' := [.long (Int32.toInt64 q5), .long (840 : Int64), .long q4, .long x4]) (h' := hp M) rfl ?_
        obtain ⟨g, h⟩ := am_itn h
        refine am_Y.ldv rfl g ?_
        refine am_Y.run (k := 5) (pc' := 26) (lv' := [(6, .int (x6 + (1 : Int32))), (4, .long (x4 + (q4 * ((840 : Int64) / (Int32.toInt64 q5))))), (7, .int q3), (0, .ref 129), (1, .int x1), (2, .int x2), (3, .int x3)]) (st' := []) (h' := hp M) rfl ?_
        refine am_Y.weak (lv2 := [(0, .ref 129), (1, .int x1), (2, .int x2), (3, .int x3), (4, .long (x4 + (q4 * ((840 : Int64) / (Int32.toInt64 q5))))), (6, .int (x6 + (1 : Int32)))]) rfl rfl ⟨rfl, rfl, rfl, rfl, rfl, rfl, trivial⟩ ?_
        exact ih x1 x2 x3 (x4 + (q4 * ((840 : Int64) / (Int32.toInt64 q5)))) (x6 + (1 : Int32)) M _ h
set_option maxRecDepth 100000 in
theorem t_m_inherits {S : Nat × (Nat → Int32)} (N : Nat) (x1 : Int32) (x2 : Int32) (x3 : Int32) (M : Mem) (r : Int64) (h : f_m_inherits N x1 x2 x3 M = some r) : am_Y S 4 0 0 am_M39 0 [(0, .ref 129), (1, .int x1), (2, .int x2), (3, .int x3)] [] (hp M) (some (.long r)) (hp M) := by
  rw [f_m_inherits] at h
  refine am_Y.run (k := 2) (pc' := 2) (lv' := [(0, .ref 129), (1, .int x1), (2, .int x2), (3, .int x3)]) (st' := [.int x1, .ref 129]) (h' := hp M) rfl ?_
  refine am_Y.call0 (M' := am_M115) (as := [.ref 129, .int x1]) (rest := []) (d' := 1) rfl (by omega) rfl rfl (t_m_isGuest x1 M _ rfl) ?_
  refine am_Y.br (c := (f_m_isGuest x1 M) = (0 : Int32)) _ (t := 16) (u := 8) (lv' := [(0, .ref 129), (1, .int x1), (2, .int x2), (3, .int x3)]) (st' := []) (h' := hp M) rfl (fun hc => ?_) (fun hc => ?_)
  · replace h := (if_pos hc).symm.trans h
    refine am_Y.run (k := 1) (pc' := 19) (lv' := [(0, .ref 129), (1, .int x1), (2, .int x2), (3, .int x3)]) (st' := [.long (-1 : Int64)]) (h' := hp M) rfl ?_
    obtain rfl := Option.some.inj h
    exact am_Y.ret rfl
  · replace h := (if_neg hc).symm.trans h
    refine am_Y.run (k := 2) (pc' := 10) (lv' := [(0, .ref 129), (1, .int x1), (2, .int x2), (3, .int x3)]) (st' := [.int x2, .ref 129]) (h' := hp M) rfl ?_
    refine am_Y.call0 (M' := am_M174) (as := [.ref 129, .int x2]) (rest := []) (d' := 1) rfl (by omega) rfl rfl (t_m_areNights x2 M _ rfl) ?_
    refine am_Y.br (c := (f_m_areNights x2 M) = (0 : Int32)) _ (t := 16) (u := 20) (lv' := [(0, .ref 129), (1, .int x1), (2, .int x2), (3, .int x3)]) (st' := []) (h' := hp M) rfl (fun hc => ?_) (fun hc => ?_)
    · replace h := (if_pos hc).symm.trans h
      refine am_Y.run (k := 1) (pc' := 19) (lv' := [(0, .ref 129), (1, .int x1), (2, .int x2), (3, .int x3)]) (st' := [.long (-1 : Int64)]) (h' := hp M) rfl ?_
      obtain rfl := Option.some.inj h
      exact am_Y.ret rfl
    · replace h := (if_neg hc).symm.trans h
      refine am_Y.run (k := 4) (pc' := 26) (lv' := [(6, .int (0 : Int32)), (4, .long (0 : Int64)), (0, .ref 129), (1, .int x1), (2, .int x2), (3, .int x3)]) (st' := []) (h' := hp M) rfl ?_
      refine am_Y.weak (lv2 := [(0, .ref 129), (1, .int x1), (2, .int x2), (3, .int x3), (4, .long (0 : Int64)), (6, .int (0 : Int32))]) rfl rfl ⟨rfl, rfl, rfl, rfl, rfl, rfl, trivial⟩ ?_
      exact t_m_inherits_26 N N x1 x2 x3 (0 : Int64) (0 : Int32) M _ h
set_option maxRecDepth 100000 in
theorem t_h_nightsHeld_4 {S : Nat × (Nat → Int32)} (N : Nat) : ∀ (n : Nat) (x1 : Int32) (x2 : Int32) (x3 : Int32) (M : Mem) (r : Int32), f_h_nightsHeld_4 N n x1 x2 x3 M = some r → am_Y S 2 0 0 am_M180 4 [(0, .ref 11), (1, .int x1), (2, .int x2), (3, .int x3)] [] (hp M) (some (.int r)) (hp M) := by
  intro n
  induction n with
  | zero =>
    intro x1 x2 x3 M r h
    cases h
  | succ n ih =>
    intro x1 x2 x3 M r h
    rw [f_h_nightsHeld_4] at h
    refine am_Y.run (k := 2) (pc' := 6) (lv' := [(0, .ref 11), (1, .int x1), (2, .int x2), (3, .int x3)]) (st' := [.int x1, .int x3]) (h' := hp M) rfl ?_
    refine am_Y.br (c := x1 ≤ x3) _ (t := 34) (u := 9) (lv' := [(0, .ref 11), (1, .int x1), (2, .int x2), (3, .int x3)]) (st' := []) (h' := hp M) rfl (fun hc => ?_) (fun hc => ?_)
    · replace h := (if_pos hc).symm.trans h
      refine am_Y.run (k := 1) (pc' := 35) (lv' := [(0, .ref 11), (1, .int x1), (2, .int x2), (3, .int x3)]) (st' := [.int x2]) (h' := hp M) rfl ?_
      obtain rfl := Option.some.inj h
      exact am_Y.ret rfl
    · replace h := (if_neg hc).symm.trans h
      refine am_Y.run (k := 4) (pc' := 13) (lv' := [(0, .ref 11), (1, .int x1), (2, .int x2), (3, .int x3)]) (st' := [.int x3, .int x1, .ref 11, .int x2]) (h' := hp M) rfl ?_
      obtain ⟨q1, e_q1, h⟩ := Option.bind_eq_some_iff.mp h
      refine am_Y.call0 (M' := am_M250) (as := [.ref 11, .int x1, .int x3]) (rest := [.int x2]) (d' := 1) rfl (by omega) rfl rfl (t_h_heirsOfLatest x1 x3 M q1 e_q1) ?_
      refine am_Y.br (c := q1 = (0 : Int32)) _ (t := 25) (u := 19) (lv' := [(0, .ref 11), (1, .int x1), (2, .int x2), (3, .int x3)]) (st' := [.int x2]) (h' := hp M) rfl (fun hc => ?_) (fun hc => ?_)
      · replace h := (if_pos hc).symm.trans h
        refine am_Y.run (k := 5) (pc' := 4) (lv' := [(3, .int (x3 + (1 : Int32))), (2, .int (x2 ||| (0 : Int32))), (0, .ref 11), (1, .int x1)]) (st' := []) (h' := hp M) rfl ?_
        refine am_Y.weak (lv2 := [(0, .ref 11), (1, .int x1), (2, .int (x2 ||| (0 : Int32))), (3, .int (x3 + (1 : Int32)))]) rfl rfl ⟨rfl, rfl, rfl, rfl, trivial⟩ ?_
        exact ih x1 (x2 ||| (0 : Int32)) (x3 + (1 : Int32)) M _ h
      · replace h := (if_neg hc).symm.trans h
        refine am_Y.run (k := 8) (pc' := 4) (lv' := [(3, .int (x3 + (1 : Int32))), (2, .int (x2 ||| ((1 : Int32) <<< (x3 &&& 31)))), (0, .ref 11), (1, .int x1)]) (st' := []) (h' := hp M) rfl ?_
        refine am_Y.weak (lv2 := [(0, .ref 11), (1, .int x1), (2, .int (x2 ||| ((1 : Int32) <<< (x3 &&& 31)))), (3, .int (x3 + (1 : Int32)))]) rfl rfl ⟨rfl, rfl, rfl, rfl, trivial⟩ ?_
        exact ih x1 (x2 ||| ((1 : Int32) <<< (x3 &&& 31))) (x3 + (1 : Int32)) M _ h
set_option maxRecDepth 100000 in
theorem t_h_nightsHeld {S : Nat × (Nat → Int32)} (N : Nat) (x1 : Int32) (M : Mem) (r : Int32) (h : f_h_nightsHeld N x1 M = some r) : am_Y S 2 0 0 am_M180 0 [(0, .ref 11), (1, .int x1)] [] (hp M) (some (.int r)) (hp M) := by
  rw [f_h_nightsHeld] at h
  refine am_Y.run (k := 4) (pc' := 4) (lv' := [(3, .int (0 : Int32)), (2, .int (0 : Int32)), (0, .ref 11), (1, .int x1)]) (st' := []) (h' := hp M) rfl ?_
  refine am_Y.weak (lv2 := [(0, .ref 11), (1, .int x1), (2, .int (0 : Int32)), (3, .int (0 : Int32))]) rfl rfl ⟨rfl, rfl, rfl, rfl, trivial⟩ ?_
  exact t_h_nightsHeld_4 N N x1 (0 : Int32) (0 : Int32) M _ h
set_option maxRecDepth 100000 in
theorem t_w_open {S : Nat × (Nat → Int32)} (N : Nat) (x1 : Int32) (x2 : Int32) (M : Mem) (r : Int64) (h : f_w_open N x1 x2 M = some r) : am_Y S 3 0 0 am_M40 0 [(0, .ref 5), (1, .int x1), (2, .int x2)] [] (hp M) (some (.long r)) (hp M) := by
  rw [f_w_open] at h
  refine am_Y.run (k := 2) (pc' := 2) (lv' := [(0, .ref 5), (1, .int x1), (2, .int x2)]) (st' := [.int x1, .ref 5]) (h' := hp M) rfl ?_
  refine am_Y.call0 (M' := am_M170) (as := [.ref 5, .int x1]) (rest := []) (d' := 1) rfl (by omega) rfl rfl (t_w_isOfBook x1 M _ rfl) ?_
  refine am_Y.br (c := (f_w_isOfBook x1 M) = (0 : Int32)) _ (t := 8) (u := 12) (lv' := [(0, .ref 5), (1, .int x1), (2, .int x2)]) (st' := []) (h' := hp M) rfl (fun hc => ?_) (fun hc => ?_)
  · replace h := (if_pos hc).symm.trans h
    refine am_Y.run (k := 1) (pc' := 11) (lv' := [(0, .ref 5), (1, .int x1), (2, .int x2)]) (st' := [.long (-1 : Int64)]) (h' := hp M) rfl ?_
    obtain rfl := Option.some.inj h
    exact am_Y.ret rfl
  · replace h := (if_neg hc).symm.trans h
    refine am_Y.run (k := 4) (pc' := 20) (lv' := [(0, .ref 5), (1, .int x1), (2, .int x2)]) (st' := [.int x1, .ref 11]) (h' := hp M) rfl ?_
    obtain ⟨q1, e_q1, h⟩ := Option.bind_eq_some_iff.mp h
    refine am_Y.call0 (M' := am_M180) (as := [.ref 11, .int x1]) (rest := []) (d' := 2) rfl (by omega) rfl rfl (t_h_nightsHeld N x1 M q1 e_q1) ?_
    refine am_Y.run (k := 2) (pc' := 25) (lv' := [(3, .int q1), (0, .ref 5), (1, .int x1), (2, .int x2)]) (st' := [.int x1]) (h' := hp M) rfl ?_
    obtain ⟨q2, e_q2, h⟩ := Option.bind_eq_some_iff.mp h
    refine am_Y.call0 (M' := am_M172) (as := [.int x1]) (rest := []) (d' := 0) rfl (by omega) rfl rfl (t_w_hundreds N x1 M q2 e_q2) ?_
    refine am_Y.run (k := 5) (pc' := 37) (lv' := [(3, .int q1), (0, .ref 5), (1, .int x1), (2, .int x2)]) (st' := [.int q1, .int x1, .ref 11, .long q2]) (h' := hp M) rfl ?_
    obtain ⟨q3, e_q3, h⟩ := Option.bind_eq_some_iff.mp h
    refine am_Y.call0 (M' := am_M181) (as := [.ref 11, .int x1, .int q1]) (rest := [.long q2]) (d' := 1) rfl (by omega) rfl rfl (t_h_dyingIn N x1 q1 M q3 e_q3) ?_
    refine am_Y.run (k := 2) (pc' := 42) (lv' := [(3, .int q1), (0, .ref 5), (1, .int x1), (2, .int x2)]) (st' := [.int x1, .long (q2 - q3)]) (h' := hp M) rfl ?_
    obtain ⟨q4, e_q4, h⟩ := Option.bind_eq_some_iff.mp h
    refine am_Y.call0 (M' := am_M172) (as := [.int x1]) (rest := [.long (q2 - q3)]) (d' := 0) rfl (by omega) rfl rfl (t_w_hundreds N x1 M q4 e_q4) ?_
    refine am_Y.run (k := 1) (pc' := 46) (lv' := [(3, .int q1), (0, .ref 5), (1, .int x1), (2, .int x2)]) (st' := [.int x2, .long q4, .long (q2 - q3)]) (h' := hp M) rfl ?_
    obtain ⟨q5, e_q5, h⟩ := Option.bind_eq_some_iff.mp h
    refine am_Y.call0 (M' := am_M173) (as := [.long (q2 - q3), .long q4, .int x2]) (rest := []) (d' := 1) rfl (by omega) rfl rfl (t_w_lowest N (q2 - q3) q4 x2 M q5 e_q5) ?_
    obtain rfl := Option.some.inj h
    exact am_Y.ret rfl
set_option maxRecDepth 100000 in
theorem t_m_open_20 {S : Nat × (Nat → Int32)} (N : Nat) : ∀ (n : Nat) (x1 : Int32) (x2 : Int32) (x3 : Int64) (x5 : Int32) (M : Mem) (r : Int64), f_m_open_20 N n x1 x2 x3 x5 M = some r → am_Y S 4 0 0 am_M41 20 [(0, .ref 129), (1, .int x1), (2, .int x2), (3, .long x3), (5, .int x5)] [] (hp M) (some (.long r)) (hp M) := by
  intro n
  induction n with
  | zero =>
    intro x1 x2 x3 x5 M r h
    cases h
  | succ n ih =>
    intro x1 x2 x3 x5 M r h
    rw [f_m_open_20] at h
    refine am_Y.run (k := 2) (pc' := 23) (lv' := [(0, .ref 129), (1, .int x1), (2, .int x2), (3, .long x3), (5, .int x5)]) (st' := [.int x1, .int x5]) (h' := hp M) rfl ?_
    refine am_Y.br (c := x1 ≤ x5) _ (t := 58) (u := 26) (lv' := [(0, .ref 129), (1, .int x1), (2, .int x2), (3, .long x3), (5, .int x5)]) (st' := []) (h' := hp M) rfl (fun hc => ?_) (fun hc => ?_)
    · replace h := (if_pos hc).symm.trans h
      refine am_Y.run (k := 2) (pc' := 60) (lv' := [(0, .ref 129), (1, .int x1), (2, .int x2), (3, .long x3), (5, .int x5)]) (st' := [.int x1, .long x3]) (h' := hp M) rfl ?_
      obtain ⟨q2, e_q2, h⟩ := Option.bind_eq_some_iff.mp h
      refine am_Y.call0 (M' := am_M178) (as := [.int x1]) (rest := [.long x3]) (d' := 0) rfl (by omega) rfl rfl (t_m_power N x1 M q2 e_q2) ?_
      refine am_Y.run (k := 1) (pc' := 64) (lv' := [(0, .ref 129), (1, .int x1), (2, .int x2), (3, .long x3), (5, .int x5)]) (st' := [.int x2, .long q2, .long x3]) (h' := hp M) rfl ?_
      obtain ⟨q3, e_q3, h⟩ := Option.bind_eq_some_iff.mp h
      refine am_Y.call0 (M' := am_M179) (as := [.long x3, .long q2, .int x2]) (rest := []) (d' := 1) rfl (by omega) rfl rfl (t_m_part N x3 q2 x2 M q3 e_q3) ?_
      obtain rfl := Option.some.inj h
      exact am_Y.ret rfl
    · replace h := (if_neg hc).symm.trans h
      refine am_Y.run (k := 2) (pc' := 28) (lv' := [(0, .ref 129), (1, .int x1), (2, .int x2), (3, .long x3), (5, .int x5)]) (st' := [.ref 129, .ref 129]) (h' := hp M) rfl ?_
      refine am_Y.call0 (M' := am_M166) (as := [.ref 129]) (rest := [.ref 129]) (d' := 0) rfl (by omega) rfl rfl (t_m_shown M _ rfl) ?_
      refine am_Y.run (k := 4) (pc' := 36) (lv' := [(0, .ref 129), (1, .int x1), (2, .int x2), (3, .long x3), (5, .int x5)]) (st' := [.int (((f_m_shown M) - x1) + x5), .ref 129]) (h' := hp M) rfl ?_
      obtain ⟨q4, e_q4, h⟩ := Option.bind_eq_some_iff.mp h
      refine am_Y.call0 (M' := am_M168) (as := [.ref 129, .int (((f_m_shown M) - x1) + x5)]) (rest := []) (d' := 2) rfl (by omega) rfl rfl (t_m_heldIn (((f_m_shown M) - x1) + x5) M q4 e_q4) ?_
      refine am_Y.br (c := q4 = (0 : Int32)) _ (t := 52) (u := 42) (lv' := [(0, .ref 129), (1, .int x1), (2, .int x2), (3, .long x3), (5, .int x5)]) (st' := []) (h' := hp M) rfl (fun hc => ?_) (fun hc => ?_)
      · replace h := (if_pos hc).symm.trans h
        refine am_Y.run (k := 2) (pc' := 20) (lv' := [(5, .int (x5 + (1 : Int32))), (0, .ref 129), (1, .int x1), (2, .int x2), (3, .long x3)]) (st' := []) (h' := hp M) rfl ?_
        refine am_Y.weak (lv2 := [(0, .ref 129), (1, .int x1), (2, .int x2), (3, .long x3), (5, .int (x5 + (1 : Int32)))]) rfl rfl ⟨rfl, rfl, rfl, rfl, rfl, trivial⟩ ?_
        exact ih x1 x2 x3 (x5 + (1 : Int32)) M _ h
      · replace h := (if_neg hc).symm.trans h
        refine am_Y.run (k := 4) (pc' := 47) (lv' := [(0, .ref 129), (1, .int x1), (2, .int x2), (3, .long x3), (5, .int x5)]) (st' := [.int x5, .int x1, .ref 129, .long x3]) (h' := hp M) rfl ?_
        obtain ⟨q5, e_q5, h⟩ := Option.bind_eq_some_iff.mp h
        refine am_Y.call0 (M' := am_M176) (as := [.ref 129, .int x1, .int x5]) (rest := [.long x3]) (d' := 3) rfl (by omega) rfl rfl (t_m_diesIn N x1 x5 M q5 e_q5) ?_
        refine am_Y.run (k := 4) (pc' := 20) (lv' := [(5, .int (x5 + (1 : Int32))), (3, .long (x3 - q5)), (0, .ref 129), (1, .int x1), (2, .int x2)]) (st' := []) (h' := hp M) rfl ?_
        refine am_Y.weak (lv2 := [(0, .ref 129), (1, .int x1), (2, .int x2), (3, .long (x3 - q5)), (5, .int (x5 + (1 : Int32)))]) rfl rfl ⟨rfl, rfl, rfl, rfl, rfl, trivial⟩ ?_
        exact ih x1 x2 (x3 - q5) (x5 + (1 : Int32)) M _ h
set_option maxRecDepth 100000 in
theorem t_m_open {S : Nat × (Nat → Int32)} (N : Nat) (x1 : Int32) (x2 : Int32) (M : Mem) (r : Int64) (h : f_m_open N x1 x2 M = some r) : am_Y S 4 0 0 am_M41 0 [(0, .ref 129), (1, .int x1), (2, .int x2)] [] (hp M) (some (.long r)) (hp M) := by
  rw [f_m_open] at h
  refine am_Y.run (k := 2) (pc' := 2) (lv' := [(0, .ref 129), (1, .int x1), (2, .int x2)]) (st' := [.int x1, .ref 129]) (h' := hp M) rfl ?_
  refine am_Y.call0 (M' := am_M174) (as := [.ref 129, .int x1]) (rest := []) (d' := 1) rfl (by omega) rfl rfl (t_m_areNights x1 M _ rfl) ?_
  refine am_Y.br (c := (f_m_areNights x1 M) = (0 : Int32)) _ (t := 8) (u := 12) (lv' := [(0, .ref 129), (1, .int x1), (2, .int x2)]) (st' := []) (h' := hp M) rfl (fun hc => ?_) (fun hc => ?_)
  · replace h := (if_pos hc).symm.trans h
    refine am_Y.run (k := 1) (pc' := 11) (lv' := [(0, .ref 129), (1, .int x1), (2, .int x2)]) (st' := [.long (-1 : Int64)]) (h' := hp M) rfl ?_
    obtain rfl := Option.some.inj h
    exact am_Y.ret rfl
  · replace h := (if_neg hc).symm.trans h
    refine am_Y.run (k := 1) (pc' := 13) (lv' := [(0, .ref 129), (1, .int x1), (2, .int x2)]) (st' := [.int x1]) (h' := hp M) rfl ?_
    obtain ⟨q1, e_q1, h⟩ := Option.bind_eq_some_iff.mp h
    refine am_Y.call0 (M' := am_M178) (as := [.int x1]) (rest := []) (d' := 0) rfl (by omega) rfl rfl (t_m_power N x1 M q1 e_q1) ?_
    refine am_Y.run (k := 3) (pc' := 20) (lv' := [(5, .int (0 : Int32)), (3, .long q1), (0, .ref 129), (1, .int x1), (2, .int x2)]) (st' := []) (h' := hp M) rfl ?_
    refine am_Y.weak (lv2 := [(0, .ref 129), (1, .int x1), (2, .int x2), (3, .long q1), (5, .int (0 : Int32))]) rfl rfl ⟨rfl, rfl, rfl, rfl, rfl, trivial⟩ ?_
    exact t_m_open_20 N N x1 x2 q1 (0 : Int32) M _ h
set_option maxRecDepth 100000 in
theorem t_g_knowsAll {S : Nat × (Nat → Int32)} (x1 : Int32) (M : Mem) (r : Int32) (h : f_g_knowsAll x1 M = r) : am_Y S 1 0 0 am_M182 0 [(0, .ref 7), (1, .int x1)] [] (hp M) (some (.int r)) (hp M) := by
  rw [f_g_knowsAll] at h
  refine am_Y.run (k := 3) (pc' := 3) (lv' := [(0, .ref 7), (1, .int x1)]) (st' := [.ref 7, .int (0 : Int32), .int x1]) (h' := hp M) rfl ?_
  refine am_Y.call0 (M' := am_M254) (as := [.ref 7]) (rest := [.int (0 : Int32), .int x1]) (d' := 0) rfl (by omega) rfl rfl (t_g_everybody M _ rfl) ?_
  refine am_Y.call0 (M' := am_M102) (as := [.int x1, .int (0 : Int32), .int (f_g_everybody M)]) (rest := []) (d' := 0) rfl (by omega) rfl rfl (t_w_within x1 (0 : Int32) (f_g_everybody M) M _ rfl) ?_
  subst h
  exact am_Y.ret (by rcases (z_w_within x1 (0 : Int32) (f_g_everybody M) _) with e | e <;> (rw [e]; rfl))
set_option maxRecDepth 100000 in
theorem z_g_knowsAll (x1 : Int32) (M : Mem) : f_g_knowsAll x1 M = 0 ∨ f_g_knowsAll x1 M = 1 := by
  simp only [f_g_knowsAll]
  first | (repeat' split) <;> first | exact Or.inl rfl | exact Or.inr rfl | (simp; done) | exact z_g_everybody _ _ _ _ | exact z_w_within _ _ _ _ | exact z_g_everybody _ _ _ | exact z_w_within _ _ _ | exact z_g_everybody _ _ | exact z_w_within _ _
set_option maxRecDepth 100000 in
theorem t_h_nightsHeldBy_5 {S : Nat × (Nat → Int32)} (N : Nat) : ∀ (n : Nat) (x1 : Int32) (x2 : Int32) (x3 : Int32) (x4 : Int32) (M : Mem) (r : Int32), f_h_nightsHeldBy_5 N n x1 x2 x3 x4 M = some r → am_Y S 2 0 0 am_M183 5 [(0, .ref 11), (1, .int x1), (2, .int x2), (3, .int x3), (4, .int x4)] [] (hp M) (some (.int r)) (hp M) := by
  intro n
  induction n with
  | zero =>
    intro x1 x2 x3 x4 M r h
    cases h
  | succ n ih =>
    intro x1 x2 x3 x4 M r h
    rw [f_h_nightsHeldBy_5] at h
    refine am_Y.run (k := 2) (pc' := 8) (lv' := [(0, .ref 11), (1, .int x1), (2, .int x2), (3, .int x3), (4, .int x4)]) (st' := [.int x1, .int x4]) (h' := hp M) rfl ?_
    refine am_Y.br (c := x1 ≤ x4) _ (t := 39) (u := 11) (lv' := [(0, .ref 11), (1, .int x1), (2, .int x2), (3, .int x3), (4, .int x4)]) (st' := []) (h' := hp M) rfl (fun hc => ?_) (fun hc => ?_)
    · replace h := (if_pos hc).symm.trans h
      refine am_Y.run (k := 1) (pc' := 40) (lv' := [(0, .ref 11), (1, .int x1), (2, .int x2), (3, .int x3), (4, .int x4)]) (st' := [.int x3]) (h' := hp M) rfl ?_
      obtain rfl := Option.some.inj h
      exact am_Y.ret rfl
    · replace h := (if_neg hc).symm.trans h
      refine am_Y.run (k := 4) (pc' := 16) (lv' := [(0, .ref 11), (1, .int x1), (2, .int x2), (3, .int x3), (4, .int x4)]) (st' := [.int x4, .int x1, .ref 11, .int x3]) (h' := hp M) rfl ?_
      obtain ⟨q1, e_q1, h⟩ := Option.bind_eq_some_iff.mp h
      refine am_Y.call0 (M' := am_M250) (as := [.ref 11, .int x1, .int x4]) (rest := [.int x3]) (d' := 1) rfl (by omega) rfl rfl (t_h_heirsOfLatest x1 x4 M q1 e_q1) ?_
      refine am_Y.run (k := 1) (pc' := 20) (lv' := [(0, .ref 11), (1, .int x1), (2, .int x2), (3, .int x3), (4, .int x4)]) (st' := [.int x2, .int q1, .int x3]) (h' := hp M) rfl ?_
      refine am_Y.br (c := q1 = x2) _ (t := 23) (u := 30) (lv' := [(0, .ref 11), (1, .int x1), (2, .int x2), (3, .int x3), (4, .int x4)]) (st' := [.int x3]) (h' := hp M) rfl (fun hc => ?_) (fun hc => ?_)
      · replace h := (if_pos hc).symm.trans h
        refine am_Y.run (k := 8) (pc' := 5) (lv' := [(4, .int (x4 + (1 : Int32))), (3, .int (x3 ||| ((1 : Int32) <<< (x4 &&& 31)))), (0, .ref 11), (1, .int x1), (2, .int x2)]) (st' := []) (h' := hp M) rfl ?_
        refine am_Y.weak (lv2 := [(0, .ref 11), (1, .int x1), (2, .int x2), (3, .int (x3 ||| ((1 : Int32) <<< (x4 &&& 31)))), (4, .int (x4 + (1 : Int32)))]) rfl rfl ⟨rfl, rfl, rfl, rfl, rfl, trivial⟩ ?_
        exact ih x1 x2 (x3 ||| ((1 : Int32) <<< (x4 &&& 31))) (x4 + (1 : Int32)) M _ h
      · replace h := (if_neg hc).symm.trans h
        refine am_Y.run (k := 5) (pc' := 5) (lv' := [(4, .int (x4 + (1 : Int32))), (3, .int (x3 ||| (0 : Int32))), (0, .ref 11), (1, .int x1), (2, .int x2)]) (st' := []) (h' := hp M) rfl ?_
        refine am_Y.weak (lv2 := [(0, .ref 11), (1, .int x1), (2, .int x2), (3, .int (x3 ||| (0 : Int32))), (4, .int (x4 + (1 : Int32)))]) rfl rfl ⟨rfl, rfl, rfl, rfl, rfl, trivial⟩ ?_
        exact ih x1 x2 (x3 ||| (0 : Int32)) (x4 + (1 : Int32)) M _ h
set_option maxRecDepth 100000 in
theorem t_h_nightsHeldBy {S : Nat × (Nat → Int32)} (N : Nat) (x1 : Int32) (x2 : Int32) (M : Mem) (r : Int32) (h : f_h_nightsHeldBy N x1 x2 M = some r) : am_Y S 2 0 0 am_M183 0 [(0, .ref 11), (1, .int x1), (2, .int x2)] [] (hp M) (some (.int r)) (hp M) := by
  rw [f_h_nightsHeldBy] at h
  refine am_Y.run (k := 4) (pc' := 5) (lv' := [(4, .int (0 : Int32)), (3, .int (0 : Int32)), (0, .ref 11), (1, .int x1), (2, .int x2)]) (st' := []) (h' := hp M) rfl ?_
  refine am_Y.weak (lv2 := [(0, .ref 11), (1, .int x1), (2, .int x2), (3, .int (0 : Int32)), (4, .int (0 : Int32))]) rfl rfl ⟨rfl, rfl, rfl, rfl, rfl, trivial⟩ ?_
  exact t_h_nightsHeldBy_5 N N x1 x2 (0 : Int32) (0 : Int32) M _ h
set_option maxRecDepth 100000 in
theorem t_w_thatNight {S : Nat × (Nat → Int32)} (N : Nat) (x1 : Int32) (x2 : Int32) (x3 : Int32) (x4 : Int32) (M : Mem) (r : Int64) (h : f_w_thatNight N x1 x2 x3 x4 M = some r) : am_Y S 3 0 0 am_M42 0 [(0, .ref 5), (1, .int x1), (2, .int x2), (3, .int x3), (4, .int x4)] [] (hp M) (some (.long r)) (hp M) := by
  rw [f_w_thatNight] at h
  refine am_Y.run (k := 1) (pc' := 1) (lv' := [(0, .ref 5), (1, .int x1), (2, .int x2), (3, .int x3), (4, .int x4)]) (st' := [.int x1]) (h' := hp M) rfl ?_
  refine am_Y.br (c := x1 = (0 : Int32)) _ (t := 37) (u := 4) (lv' := [(0, .ref 5), (1, .int x1), (2, .int x2), (3, .int x3), (4, .int x4)]) (st' := []) (h' := hp M) rfl (fun hc => ?_) (fun hc => ?_)
  · replace h := (if_pos hc).symm.trans h
    refine am_Y.run (k := 1) (pc' := 40) (lv' := [(0, .ref 5), (1, .int x1), (2, .int x2), (3, .int x3), (4, .int x4)]) (st' := [.long (-1 : Int64)]) (h' := hp M) rfl ?_
    obtain rfl := Option.some.inj h
    exact am_Y.ret rfl
  · replace h := (if_neg hc).symm.trans h
    refine am_Y.run (k := 4) (pc' := 12) (lv' := [(0, .ref 5), (1, .int x1), (2, .int x2), (3, .int x3), (4, .int x4)]) (st' := [.int x1, .ref 7]) (h' := hp M) rfl ?_
    refine am_Y.call0 (M' := am_M182) (as := [.ref 7, .int x1]) (rest := []) (d' := 1) rfl (by omega) rfl rfl (t_g_knowsAll x1 M _ rfl) ?_
    refine am_Y.br (c := (f_g_knowsAll x1 M) = (0 : Int32)) _ (t := 37) (u := 18) (lv' := [(0, .ref 5), (1, .int x1), (2, .int x2), (3, .int x3), (4, .int x4)]) (st' := []) (h' := hp M) rfl (fun hc => ?_) (fun hc => ?_)
    · replace h := (if_pos hc).symm.trans h
      refine am_Y.run (k := 1) (pc' := 40) (lv' := [(0, .ref 5), (1, .int x1), (2, .int x2), (3, .int x3), (4, .int x4)]) (st' := [.long (-1 : Int64)]) (h' := hp M) rfl ?_
      obtain rfl := Option.some.inj h
      exact am_Y.ret rfl
    · replace h := (if_neg hc).symm.trans h
      refine am_Y.run (k := 2) (pc' := 20) (lv' := [(0, .ref 5), (1, .int x1), (2, .int x2), (3, .int x3), (4, .int x4)]) (st' := [.int x2, .ref 5]) (h' := hp M) rfl ?_
      refine am_Y.call0 (M' := am_M170) (as := [.ref 5, .int x2]) (rest := []) (d' := 1) rfl (by omega) rfl rfl (t_w_isOfBook x2 M _ rfl) ?_
      refine am_Y.br (c := (f_w_isOfBook x2 M) = (0 : Int32)) _ (t := 37) (u := 26) (lv' := [(0, .ref 5), (1, .int x1), (2, .int x2), (3, .int x3), (4, .int x4)]) (st' := []) (h' := hp M) rfl (fun hc => ?_) (fun hc => ?_)
      · replace h := (if_pos hc).symm.trans h
        refine am_Y.run (k := 1) (pc' := 40) (lv' := [(0, .ref 5), (1, .int x1), (2, .int x2), (3, .int x3), (4, .int x4)]) (st' := [.long (-1 : Int64)]) (h' := hp M) rfl ?_
        obtain rfl := Option.some.inj h
        exact am_Y.ret rfl
      · replace h := (if_neg hc).symm.trans h
        refine am_Y.run (k := 5) (pc' := 31) (lv' := [(0, .ref 5), (1, .int x1), (2, .int x2), (3, .int x3), (4, .int x4)]) (st' := [.int (x2 - (1 : Int32)), .int (0 : Int32), .int x3]) (h' := hp M) rfl ?_
        refine am_Y.call0 (M' := am_M102) (as := [.int x3, .int (0 : Int32), .int (x2 - (1 : Int32))]) (rest := []) (d' := 0) rfl (by omega) rfl rfl (t_w_within x3 (0 : Int32) (x2 - (1 : Int32)) M _ rfl) ?_
        refine am_Y.br (c := (f_w_within x3 (0 : Int32) (x2 - (1 : Int32)) M) = (0 : Int32)) _ (t := 37) (u := 41) (lv' := [(0, .ref 5), (1, .int x1), (2, .int x2), (3, .int x3), (4, .int x4)]) (st' := []) (h' := hp M) rfl (fun hc => ?_) (fun hc => ?_)
        · replace h := (if_pos hc).symm.trans h
          refine am_Y.run (k := 1) (pc' := 40) (lv' := [(0, .ref 5), (1, .int x1), (2, .int x2), (3, .int x3), (4, .int x4)]) (st' := [.long (-1 : Int64)]) (h' := hp M) rfl ?_
          obtain rfl := Option.some.inj h
          exact am_Y.ret rfl
        · replace h := (if_neg hc).symm.trans h
          refine am_Y.run (k := 5) (pc' := 50) (lv' := [(0, .ref 5), (1, .int x1), (2, .int x2), (3, .int x3), (4, .int x4)]) (st' := [.int x1, .int x2, .ref 11]) (h' := hp M) rfl ?_
          obtain ⟨q1, e_q1, h⟩ := Option.bind_eq_some_iff.mp h
          refine am_Y.call0 (M' := am_M183) (as := [.ref 11, .int x2, .int x1]) (rest := []) (d' := 2) rfl (by omega) rfl rfl (t_h_nightsHeldBy N x2 x1 M q1 e_q1) ?_
          refine am_Y.run (k := 6) (pc' := 65) (lv' := [(5, .int q1), (0, .ref 5), (1, .int x1), (2, .int x2), (3, .int x3), (4, .int x4)]) (st' := [.int q1, .int x2, .ref 11]) (h' := hp M) rfl ?_
          obtain ⟨q2, e_q2, h⟩ := Option.bind_eq_some_iff.mp h
          refine am_Y.call0 (M' := am_M181) (as := [.ref 11, .int x2, .int q1]) (rest := []) (d' := 1) rfl (by omega) rfl rfl (t_h_dyingIn N x2 q1 M q2 e_q2) ?_
          refine am_Y.run (k := 4) (pc' := 74) (lv' := [(6, .long q2), (5, .int q1), (0, .ref 5), (1, .int x1), (2, .int x2), (3, .int x3), (4, .int x4)]) (st' := [.int (lg_cmp q2 (0 : Int64))]) (h' := hp M) rfl ?_
          refine am_Y.br (c := (0 : Int32) < (lg_cmp q2 (0 : Int64))) _ (t := 81) (u := 77) (lv' := [(6, .long q2), (5, .int q1), (0, .ref 5), (1, .int x1), (2, .int x2), (3, .int x3), (4, .int x4)]) (st' := []) (h' := hp M) rfl (fun hc => ?_) (fun hc => ?_)
          · replace h := (if_pos hc).symm.trans h
            refine am_Y.run (k := 9) (pc' := 95) (lv' := [(6, .long q2), (5, .int q1), (0, .ref 5), (1, .int x1), (2, .int x2), (3, .int x3), (4, .int x4)]) (st' := [.int (q1 &&& ((1 : Int32) <<< (x3 &&& 31))), .int x2, .ref 11]) (h' := hp M) rfl ?_
            obtain ⟨q3, e_q3, h⟩ := Option.bind_eq_some_iff.mp h
            refine am_Y.call0 (M' := am_M181) (as := [.ref 11, .int x2, .int (q1 &&& ((1 : Int32) <<< (x3 &&& 31)))]) (rest := []) (d' := 1) rfl (by omega) rfl rfl (t_h_dyingIn N x2 (q1 &&& ((1 : Int32) <<< (x3 &&& 31))) M q3 e_q3) ?_
            refine am_Y.run (k := 2) (pc' := 102) (lv' := [(6, .long q2), (5, .int q1), (0, .ref 5), (1, .int x1), (2, .int x2), (3, .int x3), (4, .int x4)]) (st' := [.int x4, .long q2, .long q3]) (h' := hp M) rfl ?_
            obtain ⟨q4, e_q4, h⟩ := Option.bind_eq_some_iff.mp h
            refine am_Y.call0 (M' := am_M173) (as := [.long q3, .long q2, .int x4]) (rest := []) (d' := 1) rfl (by omega) rfl rfl (t_w_lowest N q3 q2 x4 M q4 e_q4) ?_
            obtain rfl := Option.some.inj h
            exact am_Y.ret rfl
          · replace h := (if_neg hc).symm.trans h
            refine am_Y.run (k := 1) (pc' := 80) (lv' := [(6, .long q2), (5, .int q1), (0, .ref 5), (1, .int x1), (2, .int x2), (3, .int x3), (4, .int x4)]) (st' := [.long (-1 : Int64)]) (h' := hp M) rfl ?_
            obtain rfl := Option.some.inj h
            exact am_Y.ret rfl
set_option maxRecDepth 100000 in
theorem t_m_isSet {S : Nat × (Nat → Int32)} (x1 : Int32) (M : Mem) (r : Int32) (h : f_m_isSet x1 M = r) : am_Y S 1 0 0 am_M184 0 [(0, .ref 129), (1, .int x1)] [] (hp M) (some (.int r)) (hp M) := by
  rw [f_m_isSet] at h
  refine am_Y.run (k := 10) (pc' := 12) (lv' := [(0, .ref 129), (1, .int x1)]) (st' := [.int (((1 : Int32) <<< ((gi M 130 0) &&& 31)) - (1 : Int32)), .int (0 : Int32), .int x1]) (h' := hp M) rfl ?_
  refine am_Y.call0 (M' := am_M104) (as := [.int x1, .int (0 : Int32), .int (((1 : Int32) <<< ((gi M 130 0) &&& 31)) - (1 : Int32))]) (rest := []) (d' := 0) rfl (by omega) rfl rfl (t_m_isIn x1 (0 : Int32) (((1 : Int32) <<< ((gi M 130 0) &&& 31)) - (1 : Int32)) M _ rfl) ?_
  subst h
  exact am_Y.ret (by rcases (z_m_isIn x1 (0 : Int32) (((1 : Int32) <<< ((gi M 130 0) &&& 31)) - (1 : Int32)) _) with e | e <;> (rw [e]; rfl))
set_option maxRecDepth 100000 in
theorem z_m_isSet (x1 : Int32) (M : Mem) : f_m_isSet x1 M = 0 ∨ f_m_isSet x1 M = 1 := by
  simp only [f_m_isSet]
  first | (repeat' split) <;> first | exact Or.inl rfl | exact Or.inr rfl | (simp; done) | exact z_m_isIn _ _ _ _ | exact z_m_isIn _ _ _ | exact z_m_isIn _ _
set_option maxRecDepth 100000 in
theorem t_m_thatNight_44 {S : Nat × (Nat → Int32)} (N : Nat) : ∀ (n : Nat) (x1 : Int32) (x2 : Int32) (x3 : Int32) (x4 : Int32) (x5 : Int64) (x7 : Int64) (x9 : Int32) (M : Mem) (r : Int64), f_m_thatNight_44 N n x1 x2 x3 x4 x5 x7 x9 M = some r → am_Y S 4 0 0 am_M43 44 [(0, .ref 129), (1, .int x1), (2, .int x2), (3, .int x3), (4, .int x4), (5, .long x5), (7, .long x7), (9, .int x9)] [] (hp M) (some (.long r)) (hp M) := by
  intro n
  induction n with
  | zero =>
    intro x1 x2 x3 x4 x5 x7 x9 M r h
    cases h
  | succ n ih =>
    intro x1 x2 x3 x4 x5 x7 x9 M r h
    rw [f_m_thatNight_44] at h
    refine am_Y.run (k := 2) (pc' := 47) (lv' := [(0, .ref 129), (1, .int x1), (2, .int x2), (3, .int x3), (4, .int x4), (5, .long x5), (7, .long x7), (9, .int x9)]) (st' := [.int x2, .int x9]) (h' := hp M) rfl ?_
    refine am_Y.br (c := x2 ≤ x9) _ (t := 110) (u := 50) (lv' := [(0, .ref 129), (1, .int x1), (2, .int x2), (3, .int x3), (4, .int x4), (5, .long x5), (7, .long x7), (9, .int x9)]) (st' := []) (h' := hp M) rfl (fun hc => ?_) (fun hc => ?_)
    · replace h := (if_pos hc).symm.trans h
      refine am_Y.run (k := 3) (pc' := 114) (lv' := [(0, .ref 129), (1, .int x1), (2, .int x2), (3, .int x3), (4, .int x4), (5, .long x5), (7, .long x7), (9, .int x9)]) (st' := [.int (lg_cmp x5 (0 : Int64))]) (h' := hp M) rfl ?_
      refine am_Y.br (c := (lg_cmp x5 (0 : Int64)) = (0 : Int32)) _ (t := 117) (u := 123) (lv' := [(0, .ref 129), (1, .int x1), (2, .int x2), (3, .int x3), (4, .int x4), (5, .long x5), (7, .long x7), (9, .int x9)]) (st' := []) (h' := hp M) rfl (fun hc => ?_) (fun hc => ?_)
      · replace h := (if_pos hc).symm.trans h
        refine am_Y.run (k := 2) (pc' := 132) (lv' := [(0, .ref 129), (1, .int x1), (2, .int x2), (3, .int x3), (4, .int x4), (5, .long x5), (7, .long x7), (9, .int x9)]) (st' := [.long (-1 : Int64)]) (h' := hp M) rfl ?_
        obtain rfl := Option.some.inj h
        exact am_Y.ret rfl
      · replace h := (if_neg hc).symm.trans h
        refine am_Y.run (k := 3) (pc' := 129) (lv' := [(0, .ref 129), (1, .int x1), (2, .int x2), (3, .int x3), (4, .int x4), (5, .long x5), (7, .long x7), (9, .int x9)]) (st' := [.int x4, .long x5, .long x7]) (h' := hp M) rfl ?_
        obtain ⟨q1, e_q1, h⟩ := Option.bind_eq_some_iff.mp h
        refine am_Y.call0 (M' := am_M179) (as := [.long x7, .long x5, .int x4]) (rest := []) (d' := 1) rfl (by omega) rfl rfl (t_m_part N x7 x5 x4 M q1 e_q1) ?_
        obtain rfl := Option.some.inj h
        exact am_Y.ret rfl
    · replace h := (if_neg hc).symm.trans h
      refine am_Y.run (k := 2) (pc' := 52) (lv' := [(0, .ref 129), (1, .int x1), (2, .int x2), (3, .int x3), (4, .int x4), (5, .long x5), (7, .long x7), (9, .int x9)]) (st' := [.ref 129, .ref 129]) (h' := hp M) rfl ?_
      refine am_Y.call0 (M' := am_M166) (as := [.ref 129]) (rest := [.ref 129]) (d' := 0) rfl (by omega) rfl rfl (t_m_shown M _ rfl) ?_
      refine am_Y.run (k := 4) (pc' := 60) (lv' := [(0, .ref 129), (1, .int x1), (2, .int x2), (3, .int x3), (4, .int x4), (5, .long x5), (7, .long x7), (9, .int x9)]) (st' := [.int (((f_m_shown M) - x2) + x9), .ref 129]) (h' := hp M) rfl ?_
      obtain ⟨q2, e_q2, h⟩ := Option.bind_eq_some_iff.mp h
      refine am_Y.call0 (M' := am_M168) (as := [.ref 129, .int (((f_m_shown M) - x2) + x9)]) (rest := []) (d' := 2) rfl (by omega) rfl rfl (t_m_heldIn (((f_m_shown M) - x2) + x9) M q2 e_q2) ?_
      refine am_Y.run (k := 1) (pc' := 64) (lv' := [(0, .ref 129), (1, .int x1), (2, .int x2), (3, .int x3), (4, .int x4), (5, .long x5), (7, .long x7), (9, .int x9)]) (st' := [.int x1, .int q2]) (h' := hp M) rfl ?_
      refine am_Y.br (c := q2 = x1) _ (t := 70) (u := 67) (lv' := [(0, .ref 129), (1, .int x1), (2, .int x2), (3, .int x3), (4, .int x4), (5, .long x5), (7, .long x7), (9, .int x9)]) (st' := []) (h' := hp M) rfl (fun hc => ?_) (fun hc => ?_)
      · replace h := (if_pos hc).symm.trans h
        refine am_Y.run (k := 4) (pc' := 76) (lv' := [(0, .ref 129), (1, .int x1), (2, .int x2), (3, .int x3), (4, .int x4), (5, .long x5), (7, .long x7), (9, .int x9)]) (st' := [.int x9, .int x2, .ref 129, .long x5]) (h' := hp M) rfl ?_
        obtain ⟨q3, e_q3, h⟩ := Option.bind_eq_some_iff.mp h
        refine am_Y.call0 (M' := am_M176) (as := [.ref 129, .int x2, .int x9]) (rest := [.long x5]) (d' := 3) rfl (by omega) rfl rfl (t_m_diesIn N x2 x9 M q3 e_q3) ?_
        refine am_Y.run (k := 5) (pc' := 87) (lv' := [(5, .long (x5 + q3)), (0, .ref 129), (1, .int x1), (2, .int x2), (3, .int x3), (4, .int x4), (7, .long x7), (9, .int x9)]) (st' := [.int x3, .int x9, .long x7]) (h' := hp M) rfl ?_
        refine am_Y.br (c := x9 = x3) _ (t := 90) (u := 100) (lv' := [(5, .long (x5 + q3)), (0, .ref 129), (1, .int x1), (2, .int x2), (3, .int x3), (4, .int x4), (7, .long x7), (9, .int x9)]) (st' := [.long x7]) (h' := hp M) rfl (fun hc => ?_) (fun hc => ?_)
        · replace h := (if_pos hc).symm.trans h
          refine am_Y.run (k := 3) (pc' := 94) (lv' := [(5, .long (x5 + q3)), (0, .ref 129), (1, .int x1), (2, .int x2), (3, .int x3), (4, .int x4), (7, .long x7), (9, .int x9)]) (st' := [.int x9, .int x2, .ref 129, .long x7]) (h' := hp M) rfl ?_
          obtain ⟨q4, e_q4, h⟩ := Option.bind_eq_some_iff.mp h
          refine am_Y.call0 (M' := am_M176) (as := [.ref 129, .int x2, .int x9]) (rest := [.long x7]) (d' := 3) rfl (by omega) rfl rfl (t_m_diesIn N x2 x9 M q4 e_q4) ?_
          refine am_Y.run (k := 5) (pc' := 44) (lv' := [(9, .int (x9 + (1 : Int32))), (7, .long (x7 + q4)), (5, .long (x5 + q3)), (0, .ref 129), (1, .int x1), (2, .int x2), (3, .int x3), (4, .int x4)]) (st' := []) (h' := hp M) rfl ?_
          refine am_Y.weak (lv2 := [(0, .ref 129), (1, .int x1), (2, .int x2), (3, .int x3), (4, .int x4), (5, .long (x5 + q3)), (7, .long (x7 + q4)), (9, .int (x9 + (1 : Int32)))]) rfl rfl ⟨rfl, rfl, rfl, rfl, rfl, rfl, rfl, rfl, trivial⟩ ?_
          exact ih x1 x2 x3 x4 (x5 + q3) (x7 + q4) (x9 + (1 : Int32)) M _ h
        · replace h := (if_neg hc).symm.trans h
          refine am_Y.run (k := 5) (pc' := 44) (lv' := [(9, .int (x9 + (1 : Int32))), (7, .long (x7 + (0 : Int64))), (5, .long (x5 + q3)), (0, .ref 129), (1, .int x1), (2, .int x2), (3, .int x3), (4, .int x4)]) (st' := []) (h' := hp M) rfl ?_
          refine am_Y.weak (lv2 := [(0, .ref 129), (1, .int x1), (2, .int x2), (3, .int x3), (4, .int x4), (5, .long (x5 + q3)), (7, .long (x7 + (0 : Int64))), (9, .int (x9 + (1 : Int32)))]) rfl rfl ⟨rfl, rfl, rfl, rfl, rfl, rfl, rfl, rfl, trivial⟩ ?_
          exact ih x1 x2 x3 x4 (x5 + q3) (x7 + (0 : Int64)) (x9 + (1 : Int32)) M _ h
      · replace h := (if_neg hc).symm.trans h
        refine am_Y.run (k := 3) (pc' := 44) (lv' := [(9, .int (x9 + (1 : Int32))), (0, .ref 129), (1, .int x1), (2, .int x2), (3, .int x3), (4, .int x4), (5, .long x5), (7, .long x7)]) (st' := []) (h' := hp M) rfl ?_
        refine am_Y.weak (lv2 := [(0, .ref 129), (1, .int x1), (2, .int x2), (3, .int x3), (4, .int x4), (5, .long x5), (7, .long x7), (9, .int (x9 + (1 : Int32)))]) rfl rfl ⟨rfl, rfl, rfl, rfl, rfl, rfl, rfl, rfl, trivial⟩ ?_
        exact ih x1 x2 x3 x4 x5 x7 (x9 + (1 : Int32)) M _ h
set_option maxRecDepth 100000 in
theorem t_m_thatNight {S : Nat × (Nat → Int32)} (N : Nat) (x1 : Int32) (x2 : Int32) (x3 : Int32) (x4 : Int32) (M : Mem) (r : Int64) (h : f_m_thatNight N x1 x2 x3 x4 M = some r) : am_Y S 4 0 0 am_M43 0 [(0, .ref 129), (1, .int x1), (2, .int x2), (3, .int x3), (4, .int x4)] [] (hp M) (some (.long r)) (hp M) := by
  rw [f_m_thatNight] at h
  refine am_Y.run (k := 2) (pc' := 2) (lv' := [(0, .ref 129), (1, .int x1), (2, .int x2), (3, .int x3), (4, .int x4)]) (st' := [.int x1, .ref 129]) (h' := hp M) rfl ?_
  refine am_Y.call0 (M' := am_M184) (as := [.ref 129, .int x1]) (rest := []) (d' := 1) rfl (by omega) rfl rfl (t_m_isSet x1 M _ rfl) ?_
  refine am_Y.br (c := (f_m_isSet x1 M) = (0 : Int32)) _ (t := 31) (u := 8) (lv' := [(0, .ref 129), (1, .int x1), (2, .int x2), (3, .int x3), (4, .int x4)]) (st' := []) (h' := hp M) rfl (fun hc => ?_) (fun hc => ?_)
  · replace h := (if_pos hc).symm.trans h
    refine am_Y.run (k := 1) (pc' := 34) (lv' := [(0, .ref 129), (1, .int x1), (2, .int x2), (3, .int x3), (4, .int x4)]) (st' := [.long (-1 : Int64)]) (h' := hp M) rfl ?_
    obtain rfl := Option.some.inj h
    exact am_Y.ret rfl
  · replace h := (if_neg hc).symm.trans h
    refine am_Y.run (k := 1) (pc' := 9) (lv' := [(0, .ref 129), (1, .int x1), (2, .int x2), (3, .int x3), (4, .int x4)]) (st' := [.int x1]) (h' := hp M) rfl ?_
    refine am_Y.br (c := x1 = (0 : Int32)) _ (t := 31) (u := 12) (lv' := [(0, .ref 129), (1, .int x1), (2, .int x2), (3, .int x3), (4, .int x4)]) (st' := []) (h' := hp M) rfl (fun hc => ?_) (fun hc => ?_)
    · replace h := (if_pos hc).symm.trans h
      refine am_Y.run (k := 1) (pc' := 34) (lv' := [(0, .ref 129), (1, .int x1), (2, .int x2), (3, .int x3), (4, .int x4)]) (st' := [.long (-1 : Int64)]) (h' := hp M) rfl ?_
      obtain rfl := Option.some.inj h
      exact am_Y.ret rfl
    · replace h := (if_neg hc).symm.trans h
      refine am_Y.run (k := 2) (pc' := 14) (lv' := [(0, .ref 129), (1, .int x1), (2, .int x2), (3, .int x3), (4, .int x4)]) (st' := [.int x2, .ref 129]) (h' := hp M) rfl ?_
      refine am_Y.call0 (M' := am_M174) (as := [.ref 129, .int x2]) (rest := []) (d' := 1) rfl (by omega) rfl rfl (t_m_areNights x2 M _ rfl) ?_
      refine am_Y.br (c := (f_m_areNights x2 M) = (0 : Int32)) _ (t := 31) (u := 20) (lv' := [(0, .ref 129), (1, .int x1), (2, .int x2), (3, .int x3), (4, .int x4)]) (st' := []) (h' := hp M) rfl (fun hc => ?_) (fun hc => ?_)
      · replace h := (if_pos hc).symm.trans h
        refine am_Y.run (k := 1) (pc' := 34) (lv' := [(0, .ref 129), (1, .int x1), (2, .int x2), (3, .int x3), (4, .int x4)]) (st' := [.long (-1 : Int64)]) (h' := hp M) rfl ?_
        obtain rfl := Option.some.inj h
        exact am_Y.ret rfl
      · replace h := (if_neg hc).symm.trans h
        refine am_Y.run (k := 5) (pc' := 25) (lv' := [(0, .ref 129), (1, .int x1), (2, .int x2), (3, .int x3), (4, .int x4)]) (st' := [.int (x2 - (1 : Int32)), .int (0 : Int32), .int x3]) (h' := hp M) rfl ?_
        refine am_Y.call0 (M' := am_M104) (as := [.int x3, .int (0 : Int32), .int (x2 - (1 : Int32))]) (rest := []) (d' := 0) rfl (by omega) rfl rfl (t_m_isIn x3 (0 : Int32) (x2 - (1 : Int32)) M _ rfl) ?_
        refine am_Y.br (c := (f_m_isIn x3 (0 : Int32) (x2 - (1 : Int32)) M) = (0 : Int32)) _ (t := 31) (u := 35) (lv' := [(0, .ref 129), (1, .int x1), (2, .int x2), (3, .int x3), (4, .int x4)]) (st' := []) (h' := hp M) rfl (fun hc => ?_) (fun hc => ?_)
        · replace h := (if_pos hc).symm.trans h
          refine am_Y.run (k := 1) (pc' := 34) (lv' := [(0, .ref 129), (1, .int x1), (2, .int x2), (3, .int x3), (4, .int x4)]) (st' := [.long (-1 : Int64)]) (h' := hp M) rfl ?_
          obtain rfl := Option.some.inj h
          exact am_Y.ret rfl
        · replace h := (if_neg hc).symm.trans h
          refine am_Y.run (k := 6) (pc' := 44) (lv' := [(9, .int (0 : Int32)), (7, .long (0 : Int64)), (5, .long (0 : Int64)), (0, .ref 129), (1, .int x1), (2, .int x2), (3, .int x3), (4, .int x4)]) (st' := []) (h' := hp M) rfl ?_
          refine am_Y.weak (lv2 := [(0, .ref 129), (1, .int x1), (2, .int x2), (3, .int x3), (4, .int x4), (5, .long (0 : Int64)), (7, .long (0 : Int64)), (9, .int (0 : Int32))]) rfl rfl ⟨rfl, rfl, rfl, rfl, rfl, rfl, rfl, rfl, trivial⟩ ?_
          exact t_m_thatNight_44 N N x1 x2 x3 x4 (0 : Int64) (0 : Int64) (0 : Int32) M _ h
set_option maxRecDepth 100000 in
theorem t_h_nightsOf_5 {S : Nat × (Nat → Int32)} (N : Nat) : ∀ (n : Nat) (x1 : Int32) (x2 : Int32) (x3 : Int32) (x4 : Int32) (M : Mem) (r : Int32), f_h_nightsOf_5 N n x1 x2 x3 x4 M = some r → am_Y S 1 0 0 am_M185 5 [(0, .ref 11), (1, .int x1), (2, .int x2), (3, .int x3), (4, .int x4)] [] (hp M) (some (.int r)) (hp M) := by
  intro n
  induction n with
  | zero =>
    intro x1 x2 x3 x4 M r h
    cases h
  | succ n ih =>
    intro x1 x2 x3 x4 M r h
    rw [f_h_nightsOf_5] at h
    refine am_Y.run (k := 2) (pc' := 8) (lv' := [(0, .ref 11), (1, .int x1), (2, .int x2), (3, .int x3), (4, .int x4)]) (st' := [.ref 11, .int x4]) (h' := hp M) rfl ?_
    refine am_Y.call0 (M' := am_M161) (as := [.ref 11]) (rest := [.int x4]) (d' := 0) rfl (by omega) rfl rfl (t_e_written M _ rfl) ?_
    refine am_Y.br (c := (f_e_written M) ≤ x4) _ (t := 54) (u := 14) (lv' := [(0, .ref 11), (1, .int x1), (2, .int x2), (3, .int x3), (4, .int x4)]) (st' := []) (h' := hp M) rfl (fun hc => ?_) (fun hc => ?_)
    · replace h := (if_pos hc).symm.trans h
      refine am_Y.run (k := 1) (pc' := 55) (lv' := [(0, .ref 11), (1, .int x1), (2, .int x2), (3, .int x3), (4, .int x4)]) (st' := [.int x3]) (h' := hp M) rfl ?_
      obtain rfl := Option.some.inj h
      exact am_Y.ret rfl
    · replace h := (if_neg hc).symm.trans h
      refine am_Y.run (k := 2) (pc' := 17) (lv' := [(0, .ref 11), (1, .int x1), (2, .int x2), (3, .int x3), (4, .int x4)]) (st' := [.int x4, .ref 11]) (h' := hp M) rfl ?_
      obtain ⟨q1, e_q1, h⟩ := Option.bind_eq_some_iff.mp h
      refine am_Y.call0 (M' := am_M162) (as := [.ref 11, .int x4]) (rest := []) (d' := 0) rfl (by omega) rfl rfl (t_e_page x4 M q1 e_q1) ?_
      refine am_Y.call0 (M' := am_M164) (as := [.int q1]) (rest := []) (d' := 0) rfl (by omega) rfl rfl (t_e_heirsOf q1 M _ rfl) ?_
      refine am_Y.run (k := 2) (pc' := 26) (lv' := [(5, .int (f_e_heirsOf q1 M)), (0, .ref 11), (1, .int x1), (2, .int x2), (3, .int x3), (4, .int x4)]) (st' := [.int x2]) (h' := hp M) rfl ?_
      refine am_Y.br (c := x2 = (0 : Int32)) _ (t := 38) (u := 29) (lv' := [(5, .int (f_e_heirsOf q1 M)), (0, .ref 11), (1, .int x1), (2, .int x2), (3, .int x3), (4, .int x4)]) (st' := []) (h' := hp M) rfl (fun hc => ?_) (fun hc => ?_)
      · replace h := (if_pos hc).symm.trans h
        refine am_Y.run (k := 3) (pc' := 42) (lv' := [(5, .int (f_e_heirsOf q1 M)), (0, .ref 11), (1, .int x1), (2, .int x2), (3, .int x3), (4, .int x4)]) (st' := [.int ((f_e_heirsOf q1 M) &&& x1)]) (h' := hp M) rfl ?_
        refine am_Y.br (c := ((f_e_heirsOf q1 M) &&& x1) = (0 : Int32)) _ (t := 48) (u := 45) (lv' := [(5, .int (f_e_heirsOf q1 M)), (0, .ref 11), (1, .int x1), (2, .int x2), (3, .int x3), (4, .int x4)]) (st' := []) (h' := hp M) rfl (fun hc => ?_) (fun hc => ?_)
        · replace h := (if_pos hc).symm.trans h
          refine am_Y.run (k := 2) (pc' := 5) (lv' := [(4, .int (x4 + (1 : Int32))), (5, .int (f_e_heirsOf q1 M)), (0, .ref 11), (1, .int x1), (2, .int x2), (3, .int x3)]) (st' := []) (h' := hp M) rfl ?_
          refine am_Y.weak (lv2 := [(0, .ref 11), (1, .int x1), (2, .int x2), (3, .int x3), (4, .int (x4 + (1 : Int32)))]) rfl rfl ⟨rfl, rfl, rfl, rfl, rfl, trivial⟩ ?_
          exact ih x1 x2 x3 (x4 + (1 : Int32)) M _ h
        · replace h := (if_neg hc).symm.trans h
          refine am_Y.run (k := 3) (pc' := 5) (lv' := [(4, .int (x4 + (1 : Int32))), (3, .int (x3 + (1 : Int32))), (5, .int (f_e_heirsOf q1 M)), (0, .ref 11), (1, .int x1), (2, .int x2)]) (st' := []) (h' := hp M) rfl ?_
          refine am_Y.weak (lv2 := [(0, .ref 11), (1, .int x1), (2, .int x2), (3, .int (x3 + (1 : Int32))), (4, .int (x4 + (1 : Int32)))]) rfl rfl ⟨rfl, rfl, rfl, rfl, rfl, trivial⟩ ?_
          exact ih x1 x2 (x3 + (1 : Int32)) (x4 + (1 : Int32)) M _ h
      · replace h := (if_neg hc).symm.trans h
        refine am_Y.run (k := 2) (pc' := 32) (lv' := [(5, .int (f_e_heirsOf q1 M)), (0, .ref 11), (1, .int x1), (2, .int x2), (3, .int x3), (4, .int x4)]) (st' := [.int x1, .int (f_e_heirsOf q1 M)]) (h' := hp M) rfl ?_
        refine am_Y.br (c := (f_e_heirsOf q1 M) = x1) _ (t := 35) (u := 48) (lv' := [(5, .int (f_e_heirsOf q1 M)), (0, .ref 11), (1, .int x1), (2, .int x2), (3, .int x3), (4, .int x4)]) (st' := []) (h' := hp M) rfl (fun hc => ?_) (fun hc => ?_)
        · replace h := (if_pos hc).symm.trans h
          refine am_Y.run (k := 4) (pc' := 5) (lv' := [(4, .int (x4 + (1 : Int32))), (3, .int (x3 + (1 : Int32))), (5, .int (f_e_heirsOf q1 M)), (0, .ref 11), (1, .int x1), (2, .int x2)]) (st' := []) (h' := hp M) rfl ?_
          refine am_Y.weak (lv2 := [(0, .ref 11), (1, .int x1), (2, .int x2), (3, .int (x3 + (1 : Int32))), (4, .int (x4 + (1 : Int32)))]) rfl rfl ⟨rfl, rfl, rfl, rfl, rfl, trivial⟩ ?_
          exact ih x1 x2 (x3 + (1 : Int32)) (x4 + (1 : Int32)) M _ h
        · replace h := (if_neg hc).symm.trans h
          refine am_Y.run (k := 2) (pc' := 5) (lv' := [(4, .int (x4 + (1 : Int32))), (5, .int (f_e_heirsOf q1 M)), (0, .ref 11), (1, .int x1), (2, .int x2), (3, .int x3)]) (st' := []) (h' := hp M) rfl ?_
          refine am_Y.weak (lv2 := [(0, .ref 11), (1, .int x1), (2, .int x2), (3, .int x3), (4, .int (x4 + (1 : Int32)))]) rfl rfl ⟨rfl, rfl, rfl, rfl, rfl, trivial⟩ ?_
          exact ih x1 x2 x3 (x4 + (1 : Int32)) M _ h
set_option maxRecDepth 100000 in
theorem t_h_nightsOf {S : Nat × (Nat → Int32)} (N : Nat) (x1 : Int32) (x2 : Int32) (M : Mem) (r : Int32) (h : f_h_nightsOf N x1 x2 M = some r) : am_Y S 1 0 0 am_M185 0 [(0, .ref 11), (1, .int x1), (2, .int x2)] [] (hp M) (some (.int r)) (hp M) := by
  rw [f_h_nightsOf] at h
  refine am_Y.run (k := 4) (pc' := 5) (lv' := [(4, .int (0 : Int32)), (3, .int (0 : Int32)), (0, .ref 11), (1, .int x1), (2, .int x2)]) (st' := []) (h' := hp M) rfl ?_
  refine am_Y.weak (lv2 := [(0, .ref 11), (1, .int x1), (2, .int x2), (3, .int (0 : Int32)), (4, .int (0 : Int32))]) rfl rfl ⟨rfl, rfl, rfl, rfl, rfl, trivial⟩ ?_
  exact t_h_nightsOf_5 N N x1 x2 (0 : Int32) (0 : Int32) M _ h
