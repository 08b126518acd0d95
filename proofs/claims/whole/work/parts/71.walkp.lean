/-! AM does what the functions say. -/
set_option maxRecDepth 100000 in
theorem t_w_about {S : Nat × (Nat → Int32)} (N : Nat) (x1 : Int32) (M : Mem) (r : Int32) (h : f_w_about N x1 M = some r) : am_Y S 2 0 0 am_M94 0 [(0, .ref 5), (1, .int x1)] [] (hp M) (some (.int r)) (hp M) := by
  rw [f_w_about] at h
  refine am_Y.run (k := 1) (pc' := 1) (lv' := [(0, .ref 5), (1, .int x1)]) (st' := [.int x1]) (h' := hp M) rfl ?_
  by_cases hc0 : x1 = (0 : Int32)
  · replace h := (if_pos hc0).symm.trans h
    refine am_Y.one (pc' := 56) (lv' := [(0, .ref 5), (1, .int x1)]) (st' := []) (h' := hp M) (am_swc hc0 rfl) ?_
    refine am_Y.run (k := 4) (pc' := 66) (lv' := [(0, .ref 5), (1, .int x1)]) (st' := [.int (gi M 7 3)]) (h' := hp M) rfl ?_
    obtain rfl := Option.some.inj h
    exact am_Y.ret rfl
  replace h := (if_neg hc0).symm.trans h
  by_cases hc1 : x1 = (1 : Int32)
  · replace h := (if_pos hc1).symm.trans h
    refine am_Y.one (pc' := 67) (lv' := [(0, .ref 5), (1, .int x1)]) (st' := []) (h' := hp M) (am_swc hc1 rfl) ?_
    refine am_Y.run (k := 3) (pc' := 74) (lv' := [(0, .ref 5), (1, .int x1)]) (st' := [.ref 11]) (h' := hp M) rfl ?_
    refine am_Y.call0 (M' := am_M129) (as := [.ref 11]) (rest := []) (d' := 0) rfl (by omega) rfl rfl (t_e_night M _ rfl) ?_
    obtain rfl := Option.some.inj h
    exact am_Y.ret rfl
  replace h := (if_neg hc1).symm.trans h
  by_cases hc2 : x1 = (2 : Int32)
  · replace h := (if_pos hc2).symm.trans h
    refine am_Y.one (pc' := 78) (lv' := [(0, .ref 5), (1, .int x1)]) (st' := []) (h' := hp M) (am_swc hc2 rfl) ?_
    refine am_Y.run (k := 3) (pc' := 85) (lv' := [(0, .ref 5), (1, .int x1)]) (st' := [.ref 11]) (h' := hp M) rfl ?_
    refine am_Y.call0 (M' := am_M121) (as := [.ref 11]) (rest := []) (d' := 0) rfl (by omega) rfl rfl (t_e_moment M _ rfl) ?_
    obtain rfl := Option.some.inj h
    exact am_Y.ret rfl
  replace h := (if_neg hc2).symm.trans h
  by_cases hc3 : x1 = (3 : Int32)
  · replace h := (if_pos hc3).symm.trans h
    refine am_Y.one (pc' := 89) (lv' := [(0, .ref 5), (1, .int x1)]) (st' := []) (h' := hp M) (am_swc hc3 rfl) ?_
    refine am_Y.run (k := 3) (pc' := 96) (lv' := [(0, .ref 5), (1, .int x1)]) (st' := [.ref 11]) (h' := hp M) rfl ?_
    obtain ⟨q1, e_q1, h⟩ := Option.bind_eq_some_iff.mp h
    refine am_Y.call0 (M' := am_M220) (as := [.ref 11]) (rest := []) (d' := 1) rfl (by omega) rfl rfl (t_e_wine N M q1 e_q1) ?_
    obtain rfl := Option.some.inj h
    exact am_Y.ret rfl
  replace h := (if_neg hc3).symm.trans h
  by_cases hc4 : x1 = (4 : Int32)
  · replace h := (if_pos hc4).symm.trans h
    refine am_Y.one (pc' := 100) (lv' := [(0, .ref 5), (1, .int x1)]) (st' := []) (h' := hp M) (am_swc hc4 rfl) ?_
    refine am_Y.run (k := 3) (pc' := 107) (lv' := [(0, .ref 5), (1, .int x1)]) (st' := [.ref 11]) (h' := hp M) rfl ?_
    refine am_Y.call0 (M' := am_M136) (as := [.ref 11]) (rest := []) (d' := 0) rfl (by omega) rfl rfl (t_e_draw M _ rfl) ?_
    obtain rfl := Option.some.inj h
    exact am_Y.ret rfl
  replace h := (if_neg hc4).symm.trans h
  by_cases hc5 : x1 = (5 : Int32)
  · replace h := (if_pos hc5).symm.trans h
    refine am_Y.one (pc' := 111) (lv' := [(0, .ref 5), (1, .int x1)]) (st' := []) (h' := hp M) (am_swc hc5 rfl) ?_
    refine am_Y.run (k := 3) (pc' := 118) (lv' := [(0, .ref 5), (1, .int x1)]) (st' := [.int (gi M 6 4)]) (h' := hp M) rfl ?_
    obtain rfl := Option.some.inj h
    exact am_Y.ret rfl
  replace h := (if_neg hc5).symm.trans h
  by_cases hc6 : x1 = (6 : Int32)
  · replace h := (if_pos hc6).symm.trans h
    refine am_Y.one (pc' := 119) (lv' := [(0, .ref 5), (1, .int x1)]) (st' := []) (h' := hp M) (am_swc hc6 rfl) ?_
    refine am_Y.run (k := 3) (pc' := 126) (lv' := [(0, .ref 5), (1, .int x1)]) (st' := [.int (gi M 6 5)]) (h' := hp M) rfl ?_
    obtain rfl := Option.some.inj h
    exact am_Y.ret rfl
  replace h := (if_neg hc6).symm.trans h
  by_cases hc7 : x1 = (7 : Int32)
  · replace h := (if_pos hc7).symm.trans h
    refine am_Y.one (pc' := 127) (lv' := [(0, .ref 5), (1, .int x1)]) (st' := []) (h' := hp M) (am_swc hc7 rfl) ?_
    refine am_Y.run (k := 4) (pc' := 137) (lv' := [(0, .ref 5), (1, .int x1)]) (st' := [.int (gi M 14 2)]) (h' := hp M) rfl ?_
    obtain rfl := Option.some.inj h
    exact am_Y.ret rfl
  replace h := (if_neg hc7).symm.trans h
  by_cases hc8 : x1 = (8 : Int32)
  · replace h := (if_pos hc8).symm.trans h
    refine am_Y.one (pc' := 138) (lv' := [(0, .ref 5), (1, .int x1)]) (st' := []) (h' := hp M) (am_swc hc8 rfl) ?_
    refine am_Y.run (k := 2) (pc' := 142) (lv' := [(0, .ref 5), (1, .int x1)]) (st' := [.ref 6]) (h' := hp M) rfl ?_
    refine am_Y.call0 (M' := am_M197) (as := [.ref 6]) (rest := []) (d' := 1) rfl (by omega) rfl rfl (t_t_there M _ rfl) ?_
    obtain rfl := Option.some.inj h
    exact am_Y.ret rfl
  replace h := (if_neg hc8).symm.trans h
  by_cases hc9 : x1 = (9 : Int32)
  · replace h := (if_pos hc9).symm.trans h
    refine am_Y.one (pc' := 146) (lv' := [(0, .ref 5), (1, .int x1)]) (st' := []) (h' := hp M) (am_swc hc9 rfl) ?_
    refine am_Y.run (k := 3) (pc' := 153) (lv' := [(0, .ref 5), (1, .int x1)]) (st' := [.int (gi M 100 3)]) (h' := hp M) rfl ?_
    obtain rfl := Option.some.inj h
    exact am_Y.ret rfl
  replace h := (if_neg hc9).symm.trans h
  refine am_Y.one (pc' := 154) (lv' := [(0, .ref 5), (1, .int x1)]) (st' := []) (h' := hp M) (am_swd (x := x1) rfl (by have := am_neT (0) hc0 (by decide); have := am_neT (1) hc1 (by decide); have := am_neT (2) hc2 (by decide); have := am_neT (3) hc3 (by decide); have := am_neT (4) hc4 (by decide); have := am_neT (5) hc5 (by decide); have := am_neT (6) hc6 (by decide); have := am_neT (7) hc7 (by decide); have := am_neT (8) hc8 (by decide); have := am_neT (9) hc9 (by decide); omega) rfl) ?_
  refine am_Y.run (k := 1) (pc' := 156) (lv' := [(0, .ref 5), (1, .int x1)]) (st' := [.int (-2 : Int32)]) (h' := hp M) rfl ?_
  obtain rfl := Option.some.inj h
  exact am_Y.ret rfl
set_option maxRecDepth 100000 in
theorem t_m_about {S : Nat × (Nat → Int32)} (N : Nat) (x1 : Int32) (M : Mem) (r : Int32) (h : f_m_about N x1 M = some r) : am_Y S 3 0 0 am_M95 0 [(0, .ref 129), (1, .int x1)] [] (hp M) (some (.int r)) (hp M) := by
  rw [f_m_about] at h
  refine am_Y.run (k := 3) (pc' := 4) (lv' := [(0, .ref 129), (1, .int x1)]) (st' := [.int (7 : Int32), .int (0 : Int32), .int x1]) (h' := hp M) rfl ?_
  refine am_Y.call0 (M' := am_M104) (as := [.int x1, .int (0 : Int32), .int (7 : Int32)]) (rest := []) (d' := 0) rfl (by omega) rfl rfl (t_m_isIn x1 (0 : Int32) (7 : Int32) M _ rfl) ?_
  refine am_Y.br (c := (f_m_isIn x1 (0 : Int32) (7 : Int32) M) = (0 : Int32)) _ (t := 19) (u := 10) (lv' := [(0, .ref 129), (1, .int x1)]) (st' := []) (h' := hp M) rfl (fun hc => ?_) (fun hc => ?_)
  · replace h := (if_pos hc).symm.trans h
    refine am_Y.run (k := 2) (pc' := 22) (lv' := [(0, .ref 129), (1, .int x1)]) (st' := [.int (8 : Int32), .int x1]) (h' := hp M) rfl ?_
    refine am_Y.br (c := x1 = (8 : Int32)) _ (t := 25) (u := 32) (lv' := [(0, .ref 129), (1, .int x1)]) (st' := []) (h' := hp M) rfl (fun hc => ?_) (fun hc => ?_)
    · replace h := (if_pos hc).symm.trans h
      refine am_Y.run (k := 1) (pc' := 26) (lv' := [(0, .ref 129), (1, .int x1)]) (st' := [.ref 129]) (h' := hp M) rfl ?_
      obtain ⟨q1, e_q1, h⟩ := Option.bind_eq_some_iff.mp h
      refine am_Y.call0 (M' := am_M200) (as := [.ref 129]) (rest := []) (d' := 2) rfl (by omega) rfl rfl (t_m_there N M q1 e_q1) ?_
      refine am_Y.run (k := 1) (pc' := 47) (lv' := [(0, .ref 129), (1, .int x1)]) (st' := [.int q1]) (h' := hp M) rfl ?_
      obtain rfl := Option.some.inj h
      exact am_Y.ret rfl
    · replace h := (if_neg hc).symm.trans h
      refine am_Y.run (k := 2) (pc' := 35) (lv' := [(0, .ref 129), (1, .int x1)]) (st' := [.int (9 : Int32), .int x1]) (h' := hp M) rfl ?_
      refine am_Y.br (c := x1 = (9 : Int32)) _ (t := 38) (u := 45) (lv' := [(0, .ref 129), (1, .int x1)]) (st' := []) (h' := hp M) rfl (fun hc => ?_) (fun hc => ?_)
      · replace h := (if_pos hc).symm.trans h
        refine am_Y.run (k := 3) (pc' := 47) (lv' := [(0, .ref 129), (1, .int x1)]) (st' := [.int (gi M 129 4)]) (h' := hp M) rfl ?_
        obtain rfl := Option.some.inj h
        exact am_Y.ret rfl
      · replace h := (if_neg hc).symm.trans h
        refine am_Y.run (k := 1) (pc' := 47) (lv' := [(0, .ref 129), (1, .int x1)]) (st' := [.int (-2 : Int32)]) (h' := hp M) rfl ?_
        obtain rfl := Option.some.inj h
        exact am_Y.ret rfl
  · replace h := (if_neg hc).symm.trans h
    refine am_Y.run (k := 3) (pc' := 15) (lv' := [(0, .ref 129), (1, .int x1)]) (st' := [.int x1, .ref 130]) (h' := hp M) rfl ?_
    obtain ⟨g, h⟩ := am_itg h
    refine am_Y.iald (a := 125) (n := 3826) rfl rfl g ?_
    refine am_Y.run (k := 1) (pc' := 47) (lv' := [(0, .ref 129), (1, .int x1)]) (st' := [.int (gi M 130 (x1).toNatClampNeg)]) (h' := hp M) rfl ?_
    obtain rfl := Option.some.inj h
    exact am_Y.ret rfl
