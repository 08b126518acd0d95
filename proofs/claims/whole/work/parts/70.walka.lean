/-! AM does what the functions say. -/
set_option maxRecDepth 100000 in
theorem t_g_add {S : Nat × (Nat → Int32)} (x1 : Int32) (x2 : Int32) (x3 : Int32) (M : Mem) (r : Int32) (M' : Mem) (h : f_g_add x1 x2 x3 M = some (r, M')) : am_Y S 1 0 0 am_M103 0 [(0, .ref 7), (1, .int x1), (2, .int x2), (3, .int x3)] [] (hp M) (some (.int r)) (hp M') := by
  rw [f_g_add] at h
  refine am_Y.run (k := 4) (pc' := 7) (lv' := [(0, .ref 7), (1, .int x1), (2, .int x2), (3, .int x3)]) (st' := [.int (7 : Int32), .int (0 : Int32), .int (gi M 7 3)]) (h' := hp M) rfl ?_
  refine am_Y.call0 (M' := am_M102) (as := [.int (gi M 7 3), .int (0 : Int32), .int (7 : Int32)]) (rest := []) (d' := 0) rfl (by omega) rfl rfl (t_w_within (gi M 7 3) (0 : Int32) (7 : Int32) M _ rfl) ?_
  refine am_Y.br (c := (f_w_within (gi M 7 3) (0 : Int32) (7 : Int32) M) = (0 : Int32)) _ (t := 13) (u := 15) (lv' := [(0, .ref 7), (1, .int x1), (2, .int x2), (3, .int x3)]) (st' := []) (h' := hp M) rfl (fun hc => ?_) (fun hc => ?_)
  · replace h := (if_pos hc).symm.trans h
    refine am_Y.run (k := 1) (pc' := 14) (lv' := [(0, .ref 7), (1, .int x1), (2, .int x2), (3, .int x3)]) (st' := [.int (-1 : Int32)]) (h' := hp M) rfl ?_
    obtain ⟨rfl, rfl⟩ := Prod.mk.inj (Option.some.inj h)
    exact am_Y.ret rfl
  · replace h := (if_neg hc).symm.trans h
    refine am_Y.run (k := 5) (pc' := 24) (lv' := [(0, .ref 7), (1, .int x1), (2, .int x2), (3, .int x3)]) (st' := [.int x1, .int (gi M 7 3), .ref 8]) (h' := hp M) rfl ?_
    obtain ⟨g, h⟩ := am_itg h
    refine am_Y.iast (a := 3) (n := 8) rfl rfl g ?_
    refine am_Y.run (k := 0) (pc' := _) (lv' := [(0, .ref 7), (1, .int x1), (2, .int x2), (3, .int x3)]) (st' := []) (h' := hp (si M 8 ((gi M 7 3)).toNatClampNeg x1)) rfl ?_
    obtain ⟨q1, e_q1, h⟩ := Option.bind_eq_some_iff.mp h
    rw [Option.some.inj e_q1]
    refine am_Y.run (k := 5) (pc' := 34) (lv' := [(0, .ref 7), (1, .int x1), (2, .int x2), (3, .int x3)]) (st' := [.int x2, .int (gi q1 7 3), .ref 9]) (h' := hp q1) rfl ?_
    obtain ⟨g, h⟩ := am_itg h
    refine am_Y.iast (a := 4) (n := 8) rfl rfl g ?_
    refine am_Y.run (k := 0) (pc' := _) (lv' := [(0, .ref 7), (1, .int x1), (2, .int x2), (3, .int x3)]) (st' := []) (h' := hp (si q1 9 ((gi q1 7 3)).toNatClampNeg x2)) rfl ?_
    obtain ⟨q2, e_q2, h⟩ := Option.bind_eq_some_iff.mp h
    rw [Option.some.inj e_q2]
    refine am_Y.run (k := 5) (pc' := 44) (lv' := [(0, .ref 7), (1, .int x1), (2, .int x2), (3, .int x3)]) (st' := [.int x3, .int (gi q2 7 3), .ref 10]) (h' := hp q2) rfl ?_
    obtain ⟨g, h⟩ := am_itg h
    refine am_Y.iast (a := 5) (n := 8) rfl rfl g ?_
    refine am_Y.run (k := 0) (pc' := _) (lv' := [(0, .ref 7), (1, .int x1), (2, .int x2), (3, .int x3)]) (st' := []) (h' := hp (si q2 10 ((gi q2 7 3)).toNatClampNeg x3)) rfl ?_
    obtain ⟨q3, e_q3, h⟩ := Option.bind_eq_some_iff.mp h
    rw [Option.some.inj e_q3]
    refine am_Y.run (k := 6) (pc' := 55) (lv' := [(0, .ref 7), (1, .int x1), (2, .int x2), (3, .int x3)]) (st' := []) (h' := hp (si q3 7 3 ((gi q3 7 3) + (1 : Int32)))) rfl ?_
    obtain ⟨q4, e_q4, h⟩ := Option.bind_eq_some_iff.mp h
    rw [Option.some.inj e_q4]
    refine am_Y.run (k := 4) (pc' := 61) (lv' := [(0, .ref 7), (1, .int x1), (2, .int x2), (3, .int x3)]) (st' := [.int ((gi q4 7 3) - (1 : Int32))]) (h' := hp q4) rfl ?_
    obtain ⟨rfl, rfl⟩ := Prod.mk.inj (Option.some.inj h)
    exact am_Y.ret rfl
set_option maxRecDepth 100000 in
theorem t_w_guest {S : Nat × (Nat → Int32)} (x1 : Int32) (x2 : Int32) (x3 : Int32) (M : Mem) (r : Int32) (M' : Mem) (h : f_w_guest x1 x2 x3 M = some (r, M')) : am_Y S 2 0 0 am_M2 0 [(0, .ref 5), (1, .int x1), (2, .int x2), (3, .int x3)] [] (hp M) (some (.int r)) (hp M') := by
  rw [f_w_guest] at h
  refine am_Y.run (k := 3) (pc' := 4) (lv' := [(0, .ref 5), (1, .int x1), (2, .int x2), (3, .int x3)]) (st' := [.int (9 : Int32), .int (0 : Int32), .int x1]) (h' := hp M) rfl ?_
  refine am_Y.call0 (M' := am_M102) (as := [.int x1, .int (0 : Int32), .int (9 : Int32)]) (rest := []) (d' := 0) rfl (by omega) rfl rfl (t_w_within x1 (0 : Int32) (9 : Int32) M _ rfl) ?_
  refine am_Y.br (c := (f_w_within x1 (0 : Int32) (9 : Int32) M) = (0 : Int32)) _ (t := 30) (u := 10) (lv' := [(0, .ref 5), (1, .int x1), (2, .int x2), (3, .int x3)]) (st' := []) (h' := hp M) rfl (fun hc => ?_) (fun hc => ?_)
  · replace h := (if_pos hc).symm.trans h
    refine am_Y.run (k := 1) (pc' := 31) (lv' := [(0, .ref 5), (1, .int x1), (2, .int x2), (3, .int x3)]) (st' := [.int (-1 : Int32)]) (h' := hp M) rfl ?_
    obtain ⟨rfl, rfl⟩ := Prod.mk.inj (Option.some.inj h)
    exact am_Y.ret rfl
  · replace h := (if_neg hc).symm.trans h
    refine am_Y.run (k := 3) (pc' := 14) (lv' := [(0, .ref 5), (1, .int x1), (2, .int x2), (3, .int x3)]) (st' := [.int (9 : Int32), .int (0 : Int32), .int x2]) (h' := hp M) rfl ?_
    refine am_Y.call0 (M' := am_M102) (as := [.int x2, .int (0 : Int32), .int (9 : Int32)]) (rest := []) (d' := 0) rfl (by omega) rfl rfl (t_w_within x2 (0 : Int32) (9 : Int32) M _ rfl) ?_
    refine am_Y.br (c := (f_w_within x2 (0 : Int32) (9 : Int32) M) = (0 : Int32)) _ (t := 30) (u := 20) (lv' := [(0, .ref 5), (1, .int x1), (2, .int x2), (3, .int x3)]) (st' := []) (h' := hp M) rfl (fun hc => ?_) (fun hc => ?_)
    · replace h := (if_pos hc).symm.trans h
      refine am_Y.run (k := 1) (pc' := 31) (lv' := [(0, .ref 5), (1, .int x1), (2, .int x2), (3, .int x3)]) (st' := [.int (-1 : Int32)]) (h' := hp M) rfl ?_
      obtain ⟨rfl, rfl⟩ := Prod.mk.inj (Option.some.inj h)
      exact am_Y.ret rfl
    · replace h := (if_neg hc).symm.trans h
      refine am_Y.run (k := 3) (pc' := 24) (lv' := [(0, .ref 5), (1, .int x1), (2, .int x2), (3, .int x3)]) (st' := [.int (99 : Int32), .int (-1 : Int32), .int x3]) (h' := hp M) rfl ?_
      refine am_Y.call0 (M' := am_M102) (as := [.int x3, .int (-1 : Int32), .int (99 : Int32)]) (rest := []) (d' := 0) rfl (by omega) rfl rfl (t_w_within x3 (-1 : Int32) (99 : Int32) M _ rfl) ?_
      refine am_Y.br (c := (f_w_within x3 (-1 : Int32) (99 : Int32) M) = (0 : Int32)) _ (t := 30) (u := 32) (lv' := [(0, .ref 5), (1, .int x1), (2, .int x2), (3, .int x3)]) (st' := []) (h' := hp M) rfl (fun hc => ?_) (fun hc => ?_)
      · replace h := (if_pos hc).symm.trans h
        refine am_Y.run (k := 1) (pc' := 31) (lv' := [(0, .ref 5), (1, .int x1), (2, .int x2), (3, .int x3)]) (st' := [.int (-1 : Int32)]) (h' := hp M) rfl ?_
        obtain ⟨rfl, rfl⟩ := Prod.mk.inj (Option.some.inj h)
        exact am_Y.ret rfl
      · replace h := (if_neg hc).symm.trans h
        refine am_Y.run (k := 6) (pc' := 42) (lv' := [(0, .ref 5), (1, .int x1), (2, .int x2), (3, .int x3)]) (st' := [.int x3, .int x2, .int x1, .ref 7]) (h' := hp M) rfl ?_
        obtain ⟨q1, e_q1, h⟩ := Option.bind_eq_some_iff.mp h
        refine am_Y.call0 (M' := am_M103) (as := [.ref 7, .int x1, .int x2, .int x3]) (rest := []) (d' := 1) rfl (by omega) rfl rfl (t_g_add x1 x2 x3 M q1.1 q1.2 e_q1) ?_
        obtain ⟨rfl, rfl⟩ := Prod.mk.inj (Option.some.inj h)
        exact am_Y.ret rfl
set_option maxRecDepth 100000 in
theorem t_m_isIn {S : Nat × (Nat → Int32)} (x0 : Int32) (x1 : Int32) (x2 : Int32) (M : Mem) (r : Int32) (h : f_m_isIn x0 x1 x2 M = r) : am_Y S 0 0 0 am_M104 0 [(0, .int x0), (1, .int x1), (2, .int x2)] [] (hp M) (some (.int r)) (hp M) := by
  rw [f_m_isIn] at h
  refine am_Y.run (k := 2) (pc' := 2) (lv' := [(0, .int x0), (1, .int x1), (2, .int x2)]) (st' := [.int x1, .int x0]) (h' := hp M) rfl ?_
  refine am_Y.br (c := x0 < x1) _ (t := 14) (u := 5) (lv' := [(0, .int x0), (1, .int x1), (2, .int x2)]) (st' := []) (h' := hp M) rfl (fun hc => ?_) (fun hc => ?_)
  · replace h := (if_pos hc).symm.trans h
    refine am_Y.run (k := 1) (pc' := 15) (lv' := [(0, .int x0), (1, .int x1), (2, .int x2)]) (st' := [.int (0 : Int32)]) (h' := hp M) rfl ?_
    subst h
    exact am_Y.ret rfl
  · replace h := (if_neg hc).symm.trans h
    refine am_Y.run (k := 2) (pc' := 7) (lv' := [(0, .int x0), (1, .int x1), (2, .int x2)]) (st' := [.int x2, .int x0]) (h' := hp M) rfl ?_
    refine am_Y.br (c := x2 < x0) _ (t := 14) (u := 10) (lv' := [(0, .int x0), (1, .int x1), (2, .int x2)]) (st' := []) (h' := hp M) rfl (fun hc => ?_) (fun hc => ?_)
    · replace h := (if_pos hc).symm.trans h
      refine am_Y.run (k := 1) (pc' := 15) (lv' := [(0, .int x0), (1, .int x1), (2, .int x2)]) (st' := [.int (0 : Int32)]) (h' := hp M) rfl ?_
      subst h
      exact am_Y.ret rfl
    · replace h := (if_neg hc).symm.trans h
      refine am_Y.run (k := 2) (pc' := 15) (lv' := [(0, .int x0), (1, .int x1), (2, .int x2)]) (st' := [.int (1 : Int32)]) (h' := hp M) rfl ?_
      subst h
      exact am_Y.ret rfl
set_option maxRecDepth 100000 in
theorem z_m_isIn (x0 : Int32) (x1 : Int32) (x2 : Int32) (M : Mem) : f_m_isIn x0 x1 x2 M = 0 ∨ f_m_isIn x0 x1 x2 M = 1 := by
  simp only [f_m_isIn]
  first | (repeat' split) <;> first | exact Or.inl rfl | exact Or.inr rfl | (simp; done) | (simp; done)
set_option maxRecDepth 100000 in
theorem t_m_set {S : Nat × (Nat → Int32)} (x1 : Int32) (x2 : Int32) (x3 : Int32) (M : Mem) (M' : Mem) (h : f_m_set x1 x2 x3 M = some M') : am_Y S 0 0 0 am_M105 0 [(0, .ref 129), (1, .int x1), (2, .int x2), (3, .int x3)] [] (hp M) none (hp M') := by
  rw [f_m_set] at h
  refine am_Y.run (k := 10) (pc' := 14) (lv' := [(0, .ref 129), (1, .int x1), (2, .int x2), (3, .int x3)]) (st' := [.int x3, .int (((12 : Int32) + ((7 : Int32) * x1)) + x2), .ref 130]) (h' := hp M) rfl ?_
  obtain ⟨g, h⟩ := am_itg h
  refine am_Y.iast (a := 125) (n := 3826) rfl rfl g ?_
  refine am_Y.run (k := 0) (pc' := _) (lv' := [(0, .ref 129), (1, .int x1), (2, .int x2), (3, .int x3)]) (st' := []) (h' := hp (si M 130 ((((12 : Int32) + ((7 : Int32) * x1)) + x2)).toNatClampNeg x3)) rfl ?_
  obtain ⟨q1, e_q1, h⟩ := Option.bind_eq_some_iff.mp h
  rw [Option.some.inj e_q1]
  obtain rfl := Option.some.inj h
  exact am_Y.ret rfl
set_option maxRecDepth 100000 in
theorem t_m_sit {S : Nat × (Nat → Int32)} (x1 : Int32) (M : Mem) (M' : Mem) (h : f_m_sit x1 M = some M') : am_Y S 1 0 0 am_M106 0 [(0, .ref 129), (1, .int x1)] [] (hp M) none (hp M') := by
  rw [f_m_sit] at h
  refine am_Y.run (k := 4) (pc' := 4) (lv' := [(0, .ref 129), (1, .int x1)]) (st' := [.int (1 : Int32), .int (3 : Int32), .int x1, .ref 129]) (h' := hp M) rfl ?_
  obtain ⟨q1, e_q1, h⟩ := Option.bind_eq_some_iff.mp h
  refine am_Y.call0 (M' := am_M105) (as := [.ref 129, .int x1, .int (3 : Int32), .int (1 : Int32)]) (rest := []) (d' := 0) rfl (by omega) rfl rfl (t_m_set x1 (3 : Int32) (1 : Int32) M q1 e_q1) ?_
  refine am_Y.run (k := 4) (pc' := 11) (lv' := [(0, .ref 129), (1, .int x1)]) (st' := [.int (0 : Int32), .int (4 : Int32), .int x1, .ref 129]) (h' := hp q1) rfl ?_
  obtain ⟨q2, e_q2, h⟩ := Option.bind_eq_some_iff.mp h
  refine am_Y.call0 (M' := am_M105) (as := [.ref 129, .int x1, .int (4 : Int32), .int (0 : Int32)]) (rest := []) (d' := 0) rfl (by omega) rfl rfl (t_m_set x1 (4 : Int32) (0 : Int32) q1 q2 e_q2) ?_
  refine am_Y.run (k := 4) (pc' := 18) (lv' := [(0, .ref 129), (1, .int x1)]) (st' := [.int (0 : Int32), .int (5 : Int32), .int x1, .ref 129]) (h' := hp q2) rfl ?_
  obtain ⟨q3, e_q3, h⟩ := Option.bind_eq_some_iff.mp h
  refine am_Y.call0 (M' := am_M105) (as := [.ref 129, .int x1, .int (5 : Int32), .int (0 : Int32)]) (rest := []) (d' := 0) rfl (by omega) rfl rfl (t_m_set x1 (5 : Int32) (0 : Int32) q2 q3 e_q3) ?_
  refine am_Y.run (k := 4) (pc' := 26) (lv' := [(0, .ref 129), (1, .int x1)]) (st' := [.int (-1 : Int32), .int (6 : Int32), .int x1, .ref 129]) (h' := hp q3) rfl ?_
  obtain ⟨q4, e_q4, h⟩ := Option.bind_eq_some_iff.mp h
  refine am_Y.call0 (M' := am_M105) (as := [.ref 129, .int x1, .int (6 : Int32), .int (-1 : Int32)]) (rest := []) (d' := 0) rfl (by omega) rfl rfl (t_m_set x1 (6 : Int32) (-1 : Int32) q3 q4 e_q4) ?_
  obtain rfl := Option.some.inj h
  exact am_Y.ret rfl
set_option maxRecDepth 100000 in
theorem t_m_guest {S : Nat × (Nat → Int32)} (x1 : Int32) (x2 : Int32) (x3 : Int32) (M : Mem) (r : Int32) (M' : Mem) (h : f_m_guest x1 x2 x3 M = some (r, M')) : am_Y S 2 0 0 am_M3 0 [(0, .ref 129), (1, .int x1), (2, .int x2), (3, .int x3)] [] (hp M) (some (.int r)) (hp M') := by
  rw [f_m_guest] at h
  refine am_Y.run (k := 3) (pc' := 4) (lv' := [(0, .ref 129), (1, .int x1), (2, .int x2), (3, .int x3)]) (st' := [.int (9 : Int32), .int (0 : Int32), .int x1]) (h' := hp M) rfl ?_
  refine am_Y.call0 (M' := am_M104) (as := [.int x1, .int (0 : Int32), .int (9 : Int32)]) (rest := []) (d' := 0) rfl (by omega) rfl rfl (t_m_isIn x1 (0 : Int32) (9 : Int32) M _ rfl) ?_
  refine am_Y.br (c := (f_m_isIn x1 (0 : Int32) (9 : Int32) M) = (0 : Int32)) _ (t := 41) (u := 10) (lv' := [(0, .ref 129), (1, .int x1), (2, .int x2), (3, .int x3)]) (st' := []) (h' := hp M) rfl (fun hc => ?_) (fun hc => ?_)
  · replace h := (if_pos hc).symm.trans h
    refine am_Y.run (k := 1) (pc' := 42) (lv' := [(0, .ref 129), (1, .int x1), (2, .int x2), (3, .int x3)]) (st' := [.int (-1 : Int32)]) (h' := hp M) rfl ?_
    obtain ⟨rfl, rfl⟩ := Prod.mk.inj (Option.some.inj h)
    exact am_Y.ret rfl
  · replace h := (if_neg hc).symm.trans h
    refine am_Y.run (k := 3) (pc' := 14) (lv' := [(0, .ref 129), (1, .int x1), (2, .int x2), (3, .int x3)]) (st' := [.int (9 : Int32), .int (0 : Int32), .int x2]) (h' := hp M) rfl ?_
    refine am_Y.call0 (M' := am_M104) (as := [.int x2, .int (0 : Int32), .int (9 : Int32)]) (rest := []) (d' := 0) rfl (by omega) rfl rfl (t_m_isIn x2 (0 : Int32) (9 : Int32) M _ rfl) ?_
    refine am_Y.br (c := (f_m_isIn x2 (0 : Int32) (9 : Int32) M) = (0 : Int32)) _ (t := 41) (u := 20) (lv' := [(0, .ref 129), (1, .int x1), (2, .int x2), (3, .int x3)]) (st' := []) (h' := hp M) rfl (fun hc => ?_) (fun hc => ?_)
    · replace h := (if_pos hc).symm.trans h
      refine am_Y.run (k := 1) (pc' := 42) (lv' := [(0, .ref 129), (1, .int x1), (2, .int x2), (3, .int x3)]) (st' := [.int (-1 : Int32)]) (h' := hp M) rfl ?_
      obtain ⟨rfl, rfl⟩ := Prod.mk.inj (Option.some.inj h)
      exact am_Y.ret rfl
    · replace h := (if_neg hc).symm.trans h
      refine am_Y.run (k := 3) (pc' := 24) (lv' := [(0, .ref 129), (1, .int x1), (2, .int x2), (3, .int x3)]) (st' := [.int (99 : Int32), .int (-1 : Int32), .int x3]) (h' := hp M) rfl ?_
      refine am_Y.call0 (M' := am_M104) (as := [.int x3, .int (-1 : Int32), .int (99 : Int32)]) (rest := []) (d' := 0) rfl (by omega) rfl rfl (t_m_isIn x3 (-1 : Int32) (99 : Int32) M _ rfl) ?_
      refine am_Y.br (c := (f_m_isIn x3 (-1 : Int32) (99 : Int32) M) = (0 : Int32)) _ (t := 41) (u := 30) (lv' := [(0, .ref 129), (1, .int x1), (2, .int x2), (3, .int x3)]) (st' := []) (h' := hp M) rfl (fun hc => ?_) (fun hc => ?_)
      · replace h := (if_pos hc).symm.trans h
        refine am_Y.run (k := 1) (pc' := 42) (lv' := [(0, .ref 129), (1, .int x1), (2, .int x2), (3, .int x3)]) (st' := [.int (-1 : Int32)]) (h' := hp M) rfl ?_
        obtain ⟨rfl, rfl⟩ := Prod.mk.inj (Option.some.inj h)
        exact am_Y.ret rfl
      · replace h := (if_neg hc).symm.trans h
        refine am_Y.run (k := 5) (pc' := 38) (lv' := [(0, .ref 129), (1, .int x1), (2, .int x2), (3, .int x3)]) (st' := [.int (8 : Int32), .int (gi M 130 0)]) (h' := hp M) rfl ?_
        refine am_Y.br (c := (gi M 130 0) = (8 : Int32)) _ (t := 41) (u := 43) (lv' := [(0, .ref 129), (1, .int x1), (2, .int x2), (3, .int x3)]) (st' := []) (h' := hp M) rfl (fun hc => ?_) (fun hc => ?_)
        · replace h := (if_pos hc).symm.trans h
          refine am_Y.run (k := 1) (pc' := 42) (lv' := [(0, .ref 129), (1, .int x1), (2, .int x2), (3, .int x3)]) (st' := [.int (-1 : Int32)]) (h' := hp M) rfl ?_
          obtain ⟨rfl, rfl⟩ := Prod.mk.inj (Option.some.inj h)
          exact am_Y.ret rfl
        · replace h := (if_neg hc).symm.trans h
          refine am_Y.run (k := 9) (pc' := 56) (lv' := [(4, .int (gi M 130 0)), (0, .ref 129), (1, .int x1), (2, .int x2), (3, .int x3)]) (st' := [.int x1, .int (0 : Int32), .int (gi M 130 0), .ref 129]) (h' := hp M) rfl ?_
          obtain ⟨q1, e_q1, h⟩ := Option.bind_eq_some_iff.mp h
          refine am_Y.call0 (M' := am_M105) (as := [.ref 129, .int (gi M 130 0), .int (0 : Int32), .int x1]) (rest := []) (d' := 0) rfl (by omega) rfl rfl (t_m_set (gi M 130 0) (0 : Int32) x1 M q1 e_q1) ?_
          refine am_Y.run (k := 4) (pc' := 64) (lv' := [(4, .int (gi M 130 0)), (0, .ref 129), (1, .int x1), (2, .int x2), (3, .int x3)]) (st' := [.int x2, .int (1 : Int32), .int (gi M 130 0), .ref 129]) (h' := hp q1) rfl ?_
          obtain ⟨q2, e_q2, h⟩ := Option.bind_eq_some_iff.mp h
          refine am_Y.call0 (M' := am_M105) (as := [.ref 129, .int (gi M 130 0), .int (1 : Int32), .int x2]) (rest := []) (d' := 0) rfl (by omega) rfl rfl (t_m_set (gi M 130 0) (1 : Int32) x2 q1 q2 e_q2) ?_
          refine am_Y.run (k := 4) (pc' := 72) (lv' := [(4, .int (gi M 130 0)), (0, .ref 129), (1, .int x1), (2, .int x2), (3, .int x3)]) (st' := [.int x3, .int (2 : Int32), .int (gi M 130 0), .ref 129]) (h' := hp q2) rfl ?_
          obtain ⟨q3, e_q3, h⟩ := Option.bind_eq_some_iff.mp h
          refine am_Y.call0 (M' := am_M105) (as := [.ref 129, .int (gi M 130 0), .int (2 : Int32), .int x3]) (rest := []) (d' := 0) rfl (by omega) rfl rfl (t_m_set (gi M 130 0) (2 : Int32) x3 q2 q3 e_q3) ?_
          refine am_Y.run (k := 2) (pc' := 78) (lv' := [(4, .int (gi M 130 0)), (0, .ref 129), (1, .int x1), (2, .int x2), (3, .int x3)]) (st' := [.int (gi M 130 0), .ref 129]) (h' := hp q3) rfl ?_
          obtain ⟨q4, e_q4, h⟩ := Option.bind_eq_some_iff.mp h
          refine am_Y.call0 (M' := am_M106) (as := [.ref 129, .int (gi M 130 0)]) (rest := []) (d' := 1) rfl (by omega) rfl rfl (t_m_sit (gi M 130 0) q3 q4 e_q4) ?_
          refine am_Y.run (k := 8) (pc' := 91) (lv' := [(4, .int (gi M 130 0)), (0, .ref 129), (1, .int x1), (2, .int x2), (3, .int x3)]) (st' := []) (h' := hp (si q4 130 0 ((gi q4 130 0) + (1 : Int32)))) rfl ?_
          obtain ⟨q5, e_q5, h⟩ := Option.bind_eq_some_iff.mp h
          rw [Option.some.inj e_q5]
          refine am_Y.run (k := 1) (pc' := 93) (lv' := [(4, .int (gi M 130 0)), (0, .ref 129), (1, .int x1), (2, .int x2), (3, .int x3)]) (st' := [.int (gi M 130 0)]) (h' := hp q5) rfl ?_
          obtain ⟨rfl, rfl⟩ := Prod.mk.inj (Option.some.inj h)
          exact am_Y.ret rfl
set_option maxRecDepth 100000 in
theorem t_a_hasRoom {S : Nat × (Nat → Int32)} (M : Mem) (r : Int32) (h : f_a_hasRoom M = r) : am_Y S 0 0 0 am_M107 0 [(0, .ref 100)] [] (hp M) (some (.int r)) (hp M) := by
  rw [f_a_hasRoom] at h
  refine am_Y.run (k := 5) (pc' := 10) (lv' := [(0, .ref 100)]) (st' := [.int (300 : Int32), .int ((gi M 100 3) + (20 : Int32))]) (h' := hp M) rfl ?_
  refine am_Y.br (c := (300 : Int32) < ((gi M 100 3) + (20 : Int32))) _ (t := 17) (u := 13) (lv' := [(0, .ref 100)]) (st' := []) (h' := hp M) rfl (fun hc => ?_) (fun hc => ?_)
  · replace h := (if_pos hc).symm.trans h
    refine am_Y.run (k := 1) (pc' := 18) (lv' := [(0, .ref 100)]) (st' := [.int (0 : Int32)]) (h' := hp M) rfl ?_
    subst h
    exact am_Y.ret rfl
  · replace h := (if_neg hc).symm.trans h
    refine am_Y.run (k := 2) (pc' := 18) (lv' := [(0, .ref 100)]) (st' := [.int (1 : Int32)]) (h' := hp M) rfl ?_
    subst h
    exact am_Y.ret rfl
set_option maxRecDepth 100000 in
theorem z_a_hasRoom (M : Mem) : f_a_hasRoom M = 0 ∨ f_a_hasRoom M = 1 := by
  simp only [f_a_hasRoom]
  first | (repeat' split) <;> first | exact Or.inl rfl | exact Or.inr rfl | (simp; done) | (simp; done)
set_option maxRecDepth 100000 in
theorem t_a_take_3 {S : Nat × (Nat → Int32)} (N : Nat) : ∀ (n : Nat) (x1 : Int32) (x2 : Int32) (M : Mem) (M' : Mem), f_a_take_3 N n x1 x2 M = some M' → am_Y S 1 0 0 am_M108 3 [(0, .ref 100), (1, .int x1), (2, .int x2)] [] (hp M) none (hp M') := by
  intro n
  induction n with
  | zero =>
    intro x1 x2 M M' h
    cases h
  | succ n ih =>
    intro x1 x2 M M' h
    rw [f_a_take_3] at h
    refine am_Y.run (k := 1) (pc' := 4) (lv' := [(0, .ref 100), (1, .int x1), (2, .int x2)]) (st' := [.int x2]) (h' := hp M) rfl ?_
    refine am_Y.br (c := x2 < (0 : Int32)) _ (t := 53) (u := 7) (lv' := [(0, .ref 100), (1, .int x1), (2, .int x2)]) (st' := []) (h' := hp M) rfl (fun hc => ?_) (fun hc => ?_)
    · replace h := (if_pos hc).symm.trans h
      obtain rfl := Option.some.inj h
      exact am_Y.ret rfl
    · replace h := (if_neg hc).symm.trans h
      refine am_Y.run (k := 4) (pc' := 15) (lv' := [(0, .ref 100), (1, .int x1), (2, .int x2)]) (st' := [.int (299 : Int32), .int (0 : Int32), .int (gi M 100 3)]) (h' := hp M) rfl ?_
      refine am_Y.call0 (M' := am_M102) (as := [.int (gi M 100 3), .int (0 : Int32), .int (299 : Int32)]) (rest := []) (d' := 0) rfl (by omega) rfl rfl (t_w_within (gi M 100 3) (0 : Int32) (299 : Int32) M _ rfl) ?_
      refine am_Y.br (c := (f_w_within (gi M 100 3) (0 : Int32) (299 : Int32) M) = (0 : Int32)) _ (t := 47) (u := 21) (lv' := [(0, .ref 100), (1, .int x1), (2, .int x2)]) (st' := []) (h' := hp M) rfl (fun hc => ?_) (fun hc => ?_)
      · replace h := (if_pos hc).symm.trans h
        refine am_Y.run (k := 2) (pc' := 3) (lv' := [(2, .int (x2 + (-8 : Int32))), (0, .ref 100), (1, .int x1)]) (st' := []) (h' := hp M) rfl ?_
        refine am_Y.weak (lv2 := [(0, .ref 100), (1, .int x1), (2, .int (x2 + (-8 : Int32)))]) rfl rfl ⟨rfl, rfl, rfl, trivial⟩ ?_
        exact ih x1 (x2 + (-8 : Int32)) M _ h
      · replace h := (if_neg hc).symm.trans h
        refine am_Y.run (k := 9) (pc' := 36) (lv' := [(0, .ref 100), (1, .int x1), (2, .int x2)]) (st' := [.int ((x1 >>> (x2 &&& 31)) &&& (255 : Int32)), .int (gi M 100 3), .ref 101]) (h' := hp M) rfl ?_
        obtain ⟨g, h⟩ := am_itg h
        refine am_Y.iast (a := 96) (n := 300) rfl rfl g ?_
        refine am_Y.run (k := 0) (pc' := _) (lv' := [(0, .ref 100), (1, .int x1), (2, .int x2)]) (st' := []) (h' := hp (si M 101 ((gi M 100 3)).toNatClampNeg ((x1 >>> (x2 &&& 31)) &&& (255 : Int32)))) rfl ?_
        obtain ⟨q1, e_q1, h⟩ := Option.bind_eq_some_iff.mp h
        rw [Option.some.inj e_q1]
        refine am_Y.run (k := 6) (pc' := 47) (lv' := [(0, .ref 100), (1, .int x1), (2, .int x2)]) (st' := []) (h' := hp (si q1 100 3 ((gi q1 100 3) + (1 : Int32)))) rfl ?_
        obtain ⟨q2, e_q2, h⟩ := Option.bind_eq_some_iff.mp h
        rw [Option.some.inj e_q2]
        refine am_Y.run (k := 2) (pc' := 3) (lv' := [(2, .int (x2 + (-8 : Int32))), (0, .ref 100), (1, .int x1)]) (st' := []) (h' := hp q2) rfl ?_
        refine am_Y.weak (lv2 := [(0, .ref 100), (1, .int x1), (2, .int (x2 + (-8 : Int32)))]) rfl rfl ⟨rfl, rfl, rfl, trivial⟩ ?_
        exact ih x1 (x2 + (-8 : Int32)) q2 _ h
set_option maxRecDepth 100000 in
theorem t_a_take {S : Nat × (Nat → Int32)} (N : Nat) (x1 : Int32) (M : Mem) (M' : Mem) (h : f_a_take N x1 M = some M') : am_Y S 1 0 0 am_M108 0 [(0, .ref 100), (1, .int x1)] [] (hp M) none (hp M') := by
  rw [f_a_take] at h
  refine am_Y.run (k := 2) (pc' := 3) (lv' := [(2, .int (24 : Int32)), (0, .ref 100), (1, .int x1)]) (st' := []) (h' := hp M) rfl ?_
  refine am_Y.weak (lv2 := [(0, .ref 100), (1, .int x1), (2, .int (24 : Int32))]) rfl rfl ⟨rfl, rfl, rfl, trivial⟩ ?_
  exact t_a_take_3 N N x1 (24 : Int32) M _ h
set_option maxRecDepth 100000 in
theorem t_w_feed {S : Nat × (Nat → Int32)} (N : Nat) (x1 : Int32) (x2 : Int32) (x3 : Int32) (x4 : Int32) (x5 : Int32) (M : Mem) (r : Int32) (M' : Mem) (h : f_w_feed N x1 x2 x3 x4 x5 M = some (r, M')) : am_Y S 2 0 0 am_M4 0 [(0, .ref 5), (1, .int x1), (2, .int x2), (3, .int x3), (4, .int x4), (5, .int x5)] [] (hp M) (some (.int r)) (hp M') := by
  rw [f_w_feed] at h
  refine am_Y.run (k := 2) (pc' := 4) (lv' := [(0, .ref 5), (1, .int x1), (2, .int x2), (3, .int x3), (4, .int x4), (5, .int x5)]) (st' := [.ref 100]) (h' := hp M) rfl ?_
  refine am_Y.call0 (M' := am_M107) (as := [.ref 100]) (rest := []) (d' := 0) rfl (by omega) rfl rfl (t_a_hasRoom M _ rfl) ?_
  refine am_Y.br (c := (f_a_hasRoom M) = (0 : Int32)) _ (t := 10) (u := 12) (lv' := [(0, .ref 5), (1, .int x1), (2, .int x2), (3, .int x3), (4, .int x4), (5, .int x5)]) (st' := []) (h' := hp M) rfl (fun hc => ?_) (fun hc => ?_)
  · replace h := (if_pos hc).symm.trans h
    refine am_Y.run (k := 1) (pc' := 11) (lv' := [(0, .ref 5), (1, .int x1), (2, .int x2), (3, .int x3), (4, .int x4), (5, .int x5)]) (st' := [.int (-1 : Int32)]) (h' := hp M) rfl ?_
    obtain ⟨rfl, rfl⟩ := Prod.mk.inj (Option.some.inj h)
    exact am_Y.ret rfl
  · replace h := (if_neg hc).symm.trans h
    refine am_Y.run (k := 3) (pc' := 17) (lv' := [(0, .ref 5), (1, .int x1), (2, .int x2), (3, .int x3), (4, .int x4), (5, .int x5)]) (st' := [.int x1, .ref 100]) (h' := hp M) rfl ?_
    obtain ⟨q1, e_q1, h⟩ := Option.bind_eq_some_iff.mp h
    refine am_Y.call0 (M' := am_M108) (as := [.ref 100, .int x1]) (rest := []) (d' := 1) rfl (by omega) rfl rfl (t_a_take N x1 M q1 e_q1) ?_
    refine am_Y.run (k := 3) (pc' := 25) (lv' := [(0, .ref 5), (1, .int x1), (2, .int x2), (3, .int x3), (4, .int x4), (5, .int x5)]) (st' := [.int x2, .ref 100]) (h' := hp q1) rfl ?_
    obtain ⟨q2, e_q2, h⟩ := Option.bind_eq_some_iff.mp h
    refine am_Y.call0 (M' := am_M108) (as := [.ref 100, .int x2]) (rest := []) (d' := 1) rfl (by omega) rfl rfl (t_a_take N x2 q1 q2 e_q2) ?_
    refine am_Y.run (k := 3) (pc' := 33) (lv' := [(0, .ref 5), (1, .int x1), (2, .int x2), (3, .int x3), (4, .int x4), (5, .int x5)]) (st' := [.int x3, .ref 100]) (h' := hp q2) rfl ?_
    obtain ⟨q3, e_q3, h⟩ := Option.bind_eq_some_iff.mp h
    refine am_Y.call0 (M' := am_M108) (as := [.ref 100, .int x3]) (rest := []) (d' := 1) rfl (by omega) rfl rfl (t_a_take N x3 q2 q3 e_q3) ?_
    refine am_Y.run (k := 3) (pc' := 42) (lv' := [(0, .ref 5), (1, .int x1), (2, .int x2), (3, .int x3), (4, .int x4), (5, .int x5)]) (st' := [.int x4, .ref 100]) (h' := hp q3) rfl ?_
    obtain ⟨q4, e_q4, h⟩ := Option.bind_eq_some_iff.mp h
    refine am_Y.call0 (M' := am_M108) (as := [.ref 100, .int x4]) (rest := []) (d' := 1) rfl (by omega) rfl rfl (t_a_take N x4 q3 q4 e_q4) ?_
    refine am_Y.run (k := 3) (pc' := 51) (lv' := [(0, .ref 5), (1, .int x1), (2, .int x2), (3, .int x3), (4, .int x4), (5, .int x5)]) (st' := [.int x5, .ref 100]) (h' := hp q4) rfl ?_
    obtain ⟨q5, e_q5, h⟩ := Option.bind_eq_some_iff.mp h
    refine am_Y.call0 (M' := am_M108) (as := [.ref 100, .int x5]) (rest := []) (d' := 1) rfl (by omega) rfl rfl (t_a_take N x5 q4 q5 e_q5) ?_
    refine am_Y.run (k := 3) (pc' := 61) (lv' := [(0, .ref 5), (1, .int x1), (2, .int x2), (3, .int x3), (4, .int x4), (5, .int x5)]) (st' := [.int (gi q5 100 3)]) (h' := hp q5) rfl ?_
    obtain ⟨rfl, rfl⟩ := Prod.mk.inj (Option.some.inj h)
    exact am_Y.ret rfl
set_option maxRecDepth 100000 in
theorem t_m_four_3 {S : Nat × (Nat → Int32)} (N : Nat) : ∀ (n : Nat) (x1 : Int32) (x2 : Int32) (M : Mem) (M' : Mem), f_m_four_3 N n x1 x2 M = some M' → am_Y S 0 0 0 am_M109 3 [(0, .ref 129), (1, .int x1), (2, .int x2)] [] (hp M) none (hp M') := by
  intro n
  induction n with
  | zero =>
    intro x1 x2 M M' h
    cases h
  | succ n ih =>
    intro x1 x2 M M' h
    rw [f_m_four_3] at h
    refine am_Y.run (k := 1) (pc' := 4) (lv' := [(0, .ref 129), (1, .int x1), (2, .int x2)]) (st' := [.int x2]) (h' := hp M) rfl ?_
    refine am_Y.br (c := x2 < (0 : Int32)) _ (t := 39) (u := 7) (lv' := [(0, .ref 129), (1, .int x1), (2, .int x2)]) (st' := []) (h' := hp M) rfl (fun hc => ?_) (fun hc => ?_)
    · replace h := (if_pos hc).symm.trans h
      obtain rfl := Option.some.inj h
      exact am_Y.ret rfl
    · replace h := (if_neg hc).symm.trans h
      refine am_Y.run (k := 9) (pc' := 22) (lv' := [(0, .ref 129), (1, .int x1), (2, .int x2)]) (st' := [.int ((x1 >>> (x2 &&& 31)) &&& (255 : Int32)), .int (gi M 129 4), .ref 133]) (h' := hp M) rfl ?_
      obtain ⟨g, h⟩ := am_itg h
      refine am_Y.iast (a := 128) (n := 300) rfl rfl g ?_
      refine am_Y.run (k := 0) (pc' := _) (lv' := [(0, .ref 129), (1, .int x1), (2, .int x2)]) (st' := []) (h' := hp (si M 133 ((gi M 129 4)).toNatClampNeg ((x1 >>> (x2 &&& 31)) &&& (255 : Int32)))) rfl ?_
      obtain ⟨q1, e_q1, h⟩ := Option.bind_eq_some_iff.mp h
      rw [Option.some.inj e_q1]
      refine am_Y.run (k := 6) (pc' := 33) (lv' := [(0, .ref 129), (1, .int x1), (2, .int x2)]) (st' := []) (h' := hp (si q1 129 4 ((gi q1 129 4) + (1 : Int32)))) rfl ?_
      obtain ⟨q2, e_q2, h⟩ := Option.bind_eq_some_iff.mp h
      rw [Option.some.inj e_q2]
      refine am_Y.run (k := 2) (pc' := 3) (lv' := [(2, .int (x2 + (-8 : Int32))), (0, .ref 129), (1, .int x1)]) (st' := []) (h' := hp q2) rfl ?_
      refine am_Y.weak (lv2 := [(0, .ref 129), (1, .int x1), (2, .int (x2 + (-8 : Int32)))]) rfl rfl ⟨rfl, rfl, rfl, trivial⟩ ?_
      exact ih x1 (x2 + (-8 : Int32)) q2 _ h
set_option maxRecDepth 100000 in
theorem t_m_four {S : Nat × (Nat → Int32)} (N : Nat) (x1 : Int32) (M : Mem) (M' : Mem) (h : f_m_four N x1 M = some M') : am_Y S 0 0 0 am_M109 0 [(0, .ref 129), (1, .int x1)] [] (hp M) none (hp M') := by
  rw [f_m_four] at h
  refine am_Y.run (k := 2) (pc' := 3) (lv' := [(2, .int (24 : Int32)), (0, .ref 129), (1, .int x1)]) (st' := []) (h' := hp M) rfl ?_
  refine am_Y.weak (lv2 := [(0, .ref 129), (1, .int x1), (2, .int (24 : Int32))]) rfl rfl ⟨rfl, rfl, rfl, trivial⟩ ?_
  exact t_m_four_3 N N x1 (24 : Int32) M _ h
set_option maxRecDepth 100000 in
theorem t_m_feed {S : Nat × (Nat → Int32)} (N : Nat) (x1 : Int32) (x2 : Int32) (x3 : Int32) (x4 : Int32) (x5 : Int32) (M : Mem) (r : Int32) (M' : Mem) (h : f_m_feed N x1 x2 x3 x4 x5 M = some (r, M')) : am_Y S 1 0 0 am_M5 0 [(0, .ref 129), (1, .int x1), (2, .int x2), (3, .int x3), (4, .int x4), (5, .int x5)] [] (hp M) (some (.int r)) (hp M') := by
  rw [f_m_feed] at h
  refine am_Y.run (k := 5) (pc' := 10) (lv' := [(0, .ref 129), (1, .int x1), (2, .int x2), (3, .int x3), (4, .int x4), (5, .int x5)]) (st' := [.int (300 : Int32), .int ((gi M 129 4) + (20 : Int32))]) (h' := hp M) rfl ?_
  refine am_Y.br (c := ((gi M 129 4) + (20 : Int32)) ≤ (300 : Int32)) _ (t := 15) (u := 13) (lv' := [(0, .ref 129), (1, .int x1), (2, .int x2), (3, .int x3), (4, .int x4), (5, .int x5)]) (st' := []) (h' := hp M) rfl (fun hc => ?_) (fun hc => ?_)
  · replace h := (if_pos hc).symm.trans h
    refine am_Y.run (k := 2) (pc' := 17) (lv' := [(0, .ref 129), (1, .int x1), (2, .int x2), (3, .int x3), (4, .int x4), (5, .int x5)]) (st' := [.int x1, .ref 129]) (h' := hp M) rfl ?_
    obtain ⟨q1, e_q1, h⟩ := Option.bind_eq_some_iff.mp h
    refine am_Y.call0 (M' := am_M109) (as := [.ref 129, .int x1]) (rest := []) (d' := 0) rfl (by omega) rfl rfl (t_m_four N x1 M q1 e_q1) ?_
    refine am_Y.run (k := 2) (pc' := 22) (lv' := [(0, .ref 129), (1, .int x1), (2, .int x2), (3, .int x3), (4, .int x4), (5, .int x5)]) (st' := [.int x2, .ref 129]) (h' := hp q1) rfl ?_
    obtain ⟨q2, e_q2, h⟩ := Option.bind_eq_some_iff.mp h
    refine am_Y.call0 (M' := am_M109) (as := [.ref 129, .int x2]) (rest := []) (d' := 0) rfl (by omega) rfl rfl (t_m_four N x2 q1 q2 e_q2) ?_
    refine am_Y.run (k := 2) (pc' := 27) (lv' := [(0, .ref 129), (1, .int x1), (2, .int x2), (3, .int x3), (4, .int x4), (5, .int x5)]) (st' := [.int x3, .ref 129]) (h' := hp q2) rfl ?_
    obtain ⟨q3, e_q3, h⟩ := Option.bind_eq_some_iff.mp h
    refine am_Y.call0 (M' := am_M109) (as := [.ref 129, .int x3]) (rest := []) (d' := 0) rfl (by omega) rfl rfl (t_m_four N x3 q2 q3 e_q3) ?_
    refine am_Y.run (k := 2) (pc' := 33) (lv' := [(0, .ref 129), (1, .int x1), (2, .int x2), (3, .int x3), (4, .int x4), (5, .int x5)]) (st' := [.int x4, .ref 129]) (h' := hp q3) rfl ?_
    obtain ⟨q4, e_q4, h⟩ := Option.bind_eq_some_iff.mp h
    refine am_Y.call0 (M' := am_M109) (as := [.ref 129, .int x4]) (rest := []) (d' := 0) rfl (by omega) rfl rfl (t_m_four N x4 q3 q4 e_q4) ?_
    refine am_Y.run (k := 2) (pc' := 39) (lv' := [(0, .ref 129), (1, .int x1), (2, .int x2), (3, .int x3), (4, .int x4), (5, .int x5)]) (st' := [.int x5, .ref 129]) (h' := hp q4) rfl ?_
    obtain ⟨q5, e_q5, h⟩ := Option.bind_eq_some_iff.mp h
    refine am_Y.call0 (M' := am_M109) (as := [.ref 129, .int x5]) (rest := []) (d' := 0) rfl (by omega) rfl rfl (t_m_four N x5 q4 q5 e_q5) ?_
    refine am_Y.run (k := 2) (pc' := 46) (lv' := [(0, .ref 129), (1, .int x1), (2, .int x2), (3, .int x3), (4, .int x4), (5, .int x5)]) (st' := [.int (gi q5 129 4)]) (h' := hp q5) rfl ?_
    obtain ⟨rfl, rfl⟩ := Prod.mk.inj (Option.some.inj h)
    exact am_Y.ret rfl
  · replace h := (if_neg hc).symm.trans h
    refine am_Y.run (k := 1) (pc' := 14) (lv' := [(0, .ref 129), (1, .int x1), (2, .int x2), (3, .int x3), (4, .int x4), (5, .int x5)]) (st' := [.int (-1 : Int32)]) (h' := hp M) rfl ?_
    obtain ⟨rfl, rfl⟩ := Prod.mk.inj (Option.some.inj h)
    exact am_Y.ret rfl
set_option maxRecDepth 100000 in
theorem t_w_end {S : Nat × (Nat → Int32)} (x1 : Int32) (M : Mem) (r : Int32) (M' : Mem) (h : f_w_end x1 M = some (r, M')) : am_Y S 1 0 0 am_M6 0 [(0, .ref 5), (1, .int x1)] [] (hp M) (some (.int r)) (hp M') := by
  rw [f_w_end] at h
  refine am_Y.run (k := 5) (pc' := 9) (lv' := [(0, .ref 5), (1, .int x1)]) (st' := [.int (gi M 100 3), .int (0 : Int32), .int x1]) (h' := hp M) rfl ?_
  refine am_Y.call0 (M' := am_M102) (as := [.int x1, .int (0 : Int32), .int (gi M 100 3)]) (rest := []) (d' := 0) rfl (by omega) rfl rfl (t_w_within x1 (0 : Int32) (gi M 100 3) M _ rfl) ?_
  refine am_Y.br (c := (f_w_within x1 (0 : Int32) (gi M 100 3) M) = (0 : Int32)) _ (t := 15) (u := 17) (lv' := [(0, .ref 5), (1, .int x1)]) (st' := []) (h' := hp M) rfl (fun hc => ?_) (fun hc => ?_)
  · replace h := (if_pos hc).symm.trans h
    refine am_Y.run (k := 1) (pc' := 16) (lv' := [(0, .ref 5), (1, .int x1)]) (st' := [.int (-1 : Int32)]) (h' := hp M) rfl ?_
    obtain ⟨rfl, rfl⟩ := Prod.mk.inj (Option.some.inj h)
    exact am_Y.ret rfl
  · replace h := (if_neg hc).symm.trans h
    refine am_Y.run (k := 4) (pc' := 25) (lv' := [(0, .ref 5), (1, .int x1)]) (st' := []) (h' := hp (si M 100 3 x1)) rfl ?_
    obtain ⟨q1, e_q1, h⟩ := Option.bind_eq_some_iff.mp h
    rw [Option.some.inj e_q1]
    refine am_Y.run (k := 1) (pc' := 26) (lv' := [(0, .ref 5), (1, .int x1)]) (st' := [.int x1]) (h' := hp q1) rfl ?_
    obtain ⟨rfl, rfl⟩ := Prod.mk.inj (Option.some.inj h)
    exact am_Y.ret rfl
set_option maxRecDepth 100000 in
theorem t_m_end {S : Nat × (Nat → Int32)} (x1 : Int32) (M : Mem) (r : Int32) (M' : Mem) (h : f_m_end x1 M = some (r, M')) : am_Y S 1 0 0 am_M7 0 [(0, .ref 129), (1, .int x1)] [] (hp M) (some (.int r)) (hp M') := by
  rw [f_m_end] at h
  refine am_Y.run (k := 4) (pc' := 6) (lv' := [(0, .ref 129), (1, .int x1)]) (st' := [.int (gi M 129 4), .int (0 : Int32), .int x1]) (h' := hp M) rfl ?_
  refine am_Y.call0 (M' := am_M104) (as := [.int x1, .int (0 : Int32), .int (gi M 129 4)]) (rest := []) (d' := 0) rfl (by omega) rfl rfl (t_m_isIn x1 (0 : Int32) (gi M 129 4) M _ rfl) ?_
  refine am_Y.br (c := (f_m_isIn x1 (0 : Int32) (gi M 129 4) M) = (0 : Int32)) _ (t := 12) (u := 14) (lv' := [(0, .ref 129), (1, .int x1)]) (st' := []) (h' := hp M) rfl (fun hc => ?_) (fun hc => ?_)
  · replace h := (if_pos hc).symm.trans h
    refine am_Y.run (k := 1) (pc' := 13) (lv' := [(0, .ref 129), (1, .int x1)]) (st' := [.int (-1 : Int32)]) (h' := hp M) rfl ?_
    obtain ⟨rfl, rfl⟩ := Prod.mk.inj (Option.some.inj h)
    exact am_Y.ret rfl
  · replace h := (if_neg hc).symm.trans h
    refine am_Y.run (k := 3) (pc' := 19) (lv' := [(0, .ref 129), (1, .int x1)]) (st' := []) (h' := hp (si M 129 4 x1)) rfl ?_
    obtain ⟨q1, e_q1, h⟩ := Option.bind_eq_some_iff.mp h
    rw [Option.some.inj e_q1]
    refine am_Y.run (k := 1) (pc' := 20) (lv' := [(0, .ref 129), (1, .int x1)]) (st' := [.int x1]) (h' := hp q1) rfl ?_
    obtain ⟨rfl, rfl⟩ := Prod.mk.inj (Option.some.inj h)
    exact am_Y.ret rfl
set_option maxRecDepth 100000 in
theorem t_k_fill0_107_5 {S : Nat × (Nat → Int32)} (N : Nat) : ∀ (n : Nat) (x1 : Int32) (x2 : Int32) (x3 : Int32) (M : Mem) (M' : Mem), f_k_fill0_107_5 N n x1 x2 x3 M = some M' → am_Y S 0 0 0 am_M257 5 [(0, .ref 107), (1, .int x1), (2, .int x2), (3, .int x3)] [] (hp M) none (hp M') := by
  intro n
  induction n with
  | zero =>
    intro x1 x2 x3 M M' h
    cases h
  | succ n ih =>
    intro x1 x2 x3 M M' h
    rw [f_k_fill0_107_5] at h
    refine am_Y.run (k := 2) (pc' := 7) (lv' := [(0, .ref 107), (1, .int x1), (2, .int x2), (3, .int x3)]) (st' := [.int x3, .int x2]) (h' := hp M) rfl ?_
    refine am_Y.br (c := x3 ≤ x2) _ (t := 20) (u := 10) (lv' := [(0, .ref 107), (1, .int x1), (2, .int x2), (3, .int x3)]) (st' := []) (h' := hp M) rfl (fun hc => ?_) (fun hc => ?_)
    · replace h := (if_pos hc).symm.trans h
      obtain rfl := Option.some.inj h
      exact am_Y.ret rfl
    · replace h := (if_neg hc).symm.trans h
      refine am_Y.run (k := 3) (pc' := 13) (lv' := [(0, .ref 107), (1, .int x1), (2, .int x2), (3, .int x3)]) (st' := [.int x1, .int x2, .ref 107]) (h' := hp M) rfl ?_
      obtain ⟨g, h⟩ := am_itg h
      refine am_Y.iast (a := 102) (n := 3) rfl rfl g ?_
      refine am_Y.run (k := 0) (pc' := _) (lv' := [(0, .ref 107), (1, .int x1), (2, .int x2), (3, .int x3)]) (st' := []) (h' := hp (si M 107 (x2).toNatClampNeg x1)) rfl ?_
      obtain ⟨q1, e_q1, h⟩ := Option.bind_eq_some_iff.mp h
      rw [Option.some.inj e_q1]
      refine am_Y.run (k := 2) (pc' := 5) (lv' := [(2, .int (x2 + (1 : Int32))), (0, .ref 107), (1, .int x1), (3, .int x3)]) (st' := []) (h' := hp q1) rfl ?_
      refine am_Y.weak (lv2 := [(0, .ref 107), (1, .int x1), (2, .int (x2 + (1 : Int32))), (3, .int x3)]) rfl rfl ⟨rfl, rfl, rfl, rfl, trivial⟩ ?_
      exact ih x1 (x2 + (1 : Int32)) x3 q1 _ h
set_option maxRecDepth 100000 in
theorem t_k_fill0_107 {S : Nat × (Nat → Int32)} (N : Nat) (x1 : Int32) (M : Mem) (M' : Mem) (h : f_k_fill0_107 N x1 M = some M') : am_Y S 0 0 0 am_M257 0 [(0, .ref 107), (1, .int x1)] [] (hp M) none (hp M') := by
  rw [f_k_fill0_107] at h
  refine am_Y.run (k := 5) (pc' := 5) (lv' := [(3, .int (3 : Int32)), (2, .int (0 : Int32)), (0, .ref 107), (1, .int x1)]) (st' := []) (h' := hp M) rfl ?_
  refine am_Y.weak (lv2 := [(0, .ref 107), (1, .int x1), (2, .int (0 : Int32)), (3, .int (3 : Int32))]) rfl rfl ⟨rfl, rfl, rfl, rfl, trivial⟩ ?_
  exact t_k_fill0_107_5 N N x1 (0 : Int32) (3 : Int32) M _ h
set_option maxRecDepth 100000 in
theorem t_p_clear {S : Nat × (Nat → Int32)} (N : Nat) (M : Mem) (M' : Mem) (h : f_p_clear N M = some M') : am_Y S 1 0 0 am_M225 0 [(0, .ref 104)] [] (hp M) none (hp M') := by
  rw [f_p_clear] at h
  refine am_Y.run (k := 3) (pc' := 5) (lv' := [(0, .ref 104)]) (st' := []) (h' := hp (si M 104 3 (0 : Int32))) rfl ?_
  obtain ⟨q1, e_q1, h⟩ := Option.bind_eq_some_iff.mp h
  rw [Option.some.inj e_q1]
  refine am_Y.run (k := 3) (pc' := 10) (lv' := [(0, .ref 104)]) (st' := []) (h' := hp (si q1 104 4 (0 : Int32))) rfl ?_
  obtain ⟨q2, e_q2, h⟩ := Option.bind_eq_some_iff.mp h
  rw [Option.some.inj e_q2]
  refine am_Y.run (k := 3) (pc' := 15) (lv' := [(0, .ref 104)]) (st' := [.int (-1 : Int32), .ref 107]) (h' := hp q2) rfl ?_
  obtain ⟨q3, e_q3, h⟩ := Option.bind_eq_some_iff.mp h
  refine am_Y.call0 (M' := am_M257) (as := [.ref 107, .int (-1 : Int32)]) (rest := []) (d' := 0) rfl (by omega) rfl rfl (t_k_fill0_107 N (-1 : Int32) q2 q3 e_q3) ?_
  obtain rfl := Option.some.inj h
  exact am_Y.ret rfl
set_option maxRecDepth 100000 in
theorem t_a_add {S : Nat × (Nat → Int32)} (x1 : Int32) (x2 : Int32) (x3 : Int32) (M : Mem) (M' : Mem) (h : f_a_add x1 x2 x3 M = some M') : am_Y S 0 0 0 am_M274 0 [(0, .ref 100), (1, .int x1), (2, .int x2), (3, .int x3)] [] (hp M) none (hp M') := by
  rw [f_a_add] at h
  refine am_Y.run (k := 2) (pc' := 4) (lv' := [(0, .ref 100), (1, .int x1), (2, .int x2), (3, .int x3)]) (st' := [.int (gi M 100 2)]) (h' := hp M) rfl ?_
  refine am_Y.br (c := (gi M 100 2) < (0 : Int32)) _ (t := 47) (u := 7) (lv' := [(0, .ref 100), (1, .int x1), (2, .int x2), (3, .int x3)]) (st' := []) (h' := hp M) rfl (fun hc => ?_) (fun hc => ?_)
  · replace h := (if_pos hc).symm.trans h
    obtain rfl := Option.some.inj h
    exact am_Y.ret rfl
  · replace h := (if_neg hc).symm.trans h
    refine am_Y.run (k := 3) (pc' := 14) (lv' := [(0, .ref 100), (1, .int x1), (2, .int x2), (3, .int x3)]) (st' := [.int (300 : Int32), .int (gi M 100 2)]) (h' := hp M) rfl ?_
    refine am_Y.br (c := (300 : Int32) < (gi M 100 2)) _ (t := 47) (u := 17) (lv' := [(0, .ref 100), (1, .int x1), (2, .int x2), (3, .int x3)]) (st' := []) (h' := hp M) rfl (fun hc => ?_) (fun hc => ?_)
    · replace h := (if_pos hc).symm.trans h
      obtain rfl := Option.some.inj h
      exact am_Y.ret rfl
    · replace h := (if_neg hc).symm.trans h
      refine am_Y.run (k := 13) (pc' := 36) (lv' := [(0, .ref 100), (1, .int x1), (2, .int x2), (3, .int x3)]) (st' := [.int ((x1 ||| (x2 <<< (6 : Int32))) ||| (x3 <<< (15 : Int32))), .int (gi M 100 2), .ref 102]) (h' := hp M) rfl ?_
      obtain ⟨g, h⟩ := am_itg h
      refine am_Y.iast (a := 97) (n := 301) rfl rfl g ?_
      refine am_Y.run (k := 0) (pc' := _) (lv' := [(0, .ref 100), (1, .int x1), (2, .int x2), (3, .int x3)]) (st' := []) (h' := hp (si M 102 ((gi M 100 2)).toNatClampNeg ((x1 ||| (x2 <<< (6 : Int32))) ||| (x3 <<< (15 : Int32))))) rfl ?_
      obtain ⟨q1, e_q1, h⟩ := Option.bind_eq_some_iff.mp h
      rw [Option.some.inj e_q1]
      refine am_Y.run (k := 6) (pc' := 47) (lv' := [(0, .ref 100), (1, .int x1), (2, .int x2), (3, .int x3)]) (st' := []) (h' := hp (si q1 100 2 ((gi q1 100 2) + (1 : Int32)))) rfl ?_
      obtain ⟨q2, e_q2, h⟩ := Option.bind_eq_some_iff.mp h
      rw [Option.some.inj e_q2]
      obtain rfl := Option.some.inj h
      exact am_Y.ret rfl
set_option maxRecDepth 100000 in
theorem t_a_byteAt {S : Nat × (Nat → Int32)} (x1 : Int32) (M : Mem) (r : Int32) (h : f_a_byteAt x1 M = some r) : am_Y S 0 0 0 am_M268 0 [(0, .ref 100), (1, .int x1)] [] (hp M) (some (.int r)) (hp M) := by
  rw [f_a_byteAt] at h
  refine am_Y.run (k := 1) (pc' := 1) (lv' := [(0, .ref 100), (1, .int x1)]) (st' := [.int x1]) (h' := hp M) rfl ?_
  refine am_Y.br (c := x1 < (0 : Int32)) _ (t := 28) (u := 4) (lv' := [(0, .ref 100), (1, .int x1)]) (st' := []) (h' := hp M) rfl (fun hc => ?_) (fun hc => ?_)
  · replace h := (if_pos hc).symm.trans h
    refine am_Y.run (k := 1) (pc' := 29) (lv' := [(0, .ref 100), (1, .int x1)]) (st' := [.int (0 : Int32)]) (h' := hp M) rfl ?_
    obtain rfl := Option.some.inj h
    exact am_Y.ret rfl
  · replace h := (if_neg hc).symm.trans h
    refine am_Y.run (k := 3) (pc' := 9) (lv' := [(0, .ref 100), (1, .int x1)]) (st' := [.int (gi M 100 3), .int x1]) (h' := hp M) rfl ?_
    refine am_Y.br (c := (gi M 100 3) ≤ x1) _ (t := 28) (u := 12) (lv' := [(0, .ref 100), (1, .int x1)]) (st' := []) (h' := hp M) rfl (fun hc => ?_) (fun hc => ?_)
    · replace h := (if_pos hc).symm.trans h
      refine am_Y.run (k := 1) (pc' := 29) (lv' := [(0, .ref 100), (1, .int x1)]) (st' := [.int (0 : Int32)]) (h' := hp M) rfl ?_
      obtain rfl := Option.some.inj h
      exact am_Y.ret rfl
    · replace h := (if_neg hc).symm.trans h
      refine am_Y.run (k := 2) (pc' := 16) (lv' := [(0, .ref 100), (1, .int x1)]) (st' := [.int (300 : Int32), .int x1]) (h' := hp M) rfl ?_
      refine am_Y.br (c := (300 : Int32) ≤ x1) _ (t := 28) (u := 19) (lv' := [(0, .ref 100), (1, .int x1)]) (st' := []) (h' := hp M) rfl (fun hc => ?_) (fun hc => ?_)
      · replace h := (if_pos hc).symm.trans h
        refine am_Y.run (k := 1) (pc' := 29) (lv' := [(0, .ref 100), (1, .int x1)]) (st' := [.int (0 : Int32)]) (h' := hp M) rfl ?_
        obtain rfl := Option.some.inj h
        exact am_Y.ret rfl
      · replace h := (if_neg hc).symm.trans h
        refine am_Y.run (k := 3) (pc' := 24) (lv' := [(0, .ref 100), (1, .int x1)]) (st' := [.int x1, .ref 101]) (h' := hp M) rfl ?_
        obtain ⟨g, h⟩ := am_itg h
        refine am_Y.iald (a := 96) (n := 300) rfl rfl g ?_
        refine am_Y.run (k := 1) (pc' := 29) (lv' := [(0, .ref 100), (1, .int x1)]) (st' := [.int (gi M 101 (x1).toNatClampNeg)]) (h' := hp M) rfl ?_
        obtain rfl := Option.some.inj h
        exact am_Y.ret rfl
set_option maxRecDepth 100000 in
theorem t_a_isLetter {S : Nat × (Nat → Int32)} (x0 : Int32) (M : Mem) (r : Int32) (h : f_a_isLetter x0 M = r) : am_Y S 1 0 0 am_M269 0 [(0, .int x0)] [] (hp M) (some (.int r)) (hp M) := by
  rw [f_a_isLetter] at h
  refine am_Y.run (k := 3) (pc' := 5) (lv' := [(0, .int x0)]) (st' := [.int (122 : Int32), .int (97 : Int32), .int x0]) (h' := hp M) rfl ?_
  refine am_Y.call0 (M' := am_M102) (as := [.int x0, .int (97 : Int32), .int (122 : Int32)]) (rest := []) (d' := 0) rfl (by omega) rfl rfl (t_w_within x0 (97 : Int32) (122 : Int32) M _ rfl) ?_
  refine am_Y.br (c := (f_w_within x0 (97 : Int32) (122 : Int32) M) = (0 : Int32)) _ (t := 11) (u := 22) (lv' := [(0, .int x0)]) (st' := []) (h' := hp M) rfl (fun hc => ?_) (fun hc => ?_)
  · replace h := (if_pos hc).symm.trans h
    refine am_Y.run (k := 3) (pc' := 16) (lv' := [(0, .int x0)]) (st' := [.int (90 : Int32), .int (65 : Int32), .int x0]) (h' := hp M) rfl ?_
    refine am_Y.call0 (M' := am_M102) (as := [.int x0, .int (65 : Int32), .int (90 : Int32)]) (rest := []) (d' := 0) rfl (by omega) rfl rfl (t_w_within x0 (65 : Int32) (90 : Int32) M _ rfl) ?_
    refine am_Y.br (c := (f_w_within x0 (65 : Int32) (90 : Int32) M) = (0 : Int32)) _ (t := 26) (u := 22) (lv' := [(0, .int x0)]) (st' := []) (h' := hp M) rfl (fun hc => ?_) (fun hc => ?_)
    · replace h := (if_pos hc).symm.trans h
      refine am_Y.run (k := 1) (pc' := 27) (lv' := [(0, .int x0)]) (st' := [.int (0 : Int32)]) (h' := hp M) rfl ?_
      subst h
      exact am_Y.ret rfl
    · replace h := (if_neg hc).symm.trans h
      refine am_Y.run (k := 2) (pc' := 27) (lv' := [(0, .int x0)]) (st' := [.int (1 : Int32)]) (h' := hp M) rfl ?_
      subst h
      exact am_Y.ret rfl
  · replace h := (if_neg hc).symm.trans h
    refine am_Y.run (k := 2) (pc' := 27) (lv' := [(0, .int x0)]) (st' := [.int (1 : Int32)]) (h' := hp M) rfl ?_
    subst h
    exact am_Y.ret rfl
set_option maxRecDepth 100000 in
theorem z_a_isLetter (x0 : Int32) (M : Mem) : f_a_isLetter x0 M = 0 ∨ f_a_isLetter x0 M = 1 := by
  simp only [f_a_isLetter]
  first | (repeat' split) <;> first | exact Or.inl rfl | exact Or.inr rfl | (simp; done) | exact z_w_within _ _ _ _ | exact z_w_within _ _ _ | exact z_w_within _ _
set_option maxRecDepth 100000 in
theorem t_a_isDigit {S : Nat × (Nat → Int32)} (x0 : Int32) (M : Mem) (r : Int32) (h : f_a_isDigit x0 M = r) : am_Y S 1 0 0 am_M271 0 [(0, .int x0)] [] (hp M) (some (.int r)) (hp M) := by
  rw [f_a_isDigit] at h
  refine am_Y.run (k := 3) (pc' := 5) (lv' := [(0, .int x0)]) (st' := [.int (57 : Int32), .int (48 : Int32), .int x0]) (h' := hp M) rfl ?_
  refine am_Y.call0 (M' := am_M102) (as := [.int x0, .int (48 : Int32), .int (57 : Int32)]) (rest := []) (d' := 0) rfl (by omega) rfl rfl (t_w_within x0 (48 : Int32) (57 : Int32) M _ rfl) ?_
  subst h
  exact am_Y.ret (by rcases (z_w_within x0 (48 : Int32) (57 : Int32) _) with e | e <;> (rw [e]; rfl))
set_option maxRecDepth 100000 in
theorem z_a_isDigit (x0 : Int32) (M : Mem) : f_a_isDigit x0 M = 0 ∨ f_a_isDigit x0 M = 1 := by
  simp only [f_a_isDigit]
  first | (repeat' split) <;> first | exact Or.inl rfl | exact Or.inr rfl | (simp; done) | exact z_w_within _ _ _ _ | exact z_w_within _ _ _ | exact z_w_within _ _
set_option maxRecDepth 100000 in
theorem t_j_isLatin1_2 {S : Nat × (Nat → Int32)} (M : Mem) (r : Int32) (h : f_j_isLatin1_2 M = r) : am_Y S 0 0 0 am_M327 0 [(0, .ref 2)] [] (hp M) (some (.int r)) (hp M) := by
  rw [f_j_isLatin1_2] at h
  refine am_Y.run (k := 7) (pc' := 18) (lv' := [(0, .ref 2)]) (st' := [.int (1 : Int32)]) (h' := hp M) rfl ?_
  subst h
  exact am_Y.ret rfl
set_option maxRecDepth 100000 in
theorem z_j_isLatin1_2 (M : Mem) : f_j_isLatin1_2 M = 0 ∨ f_j_isLatin1_2 M = 1 := by
  simp only [f_j_isLatin1_2]
  first | (repeat' split) <;> first | exact Or.inl rfl | exact Or.inr rfl | (simp; done) | (simp; done)
set_option maxRecDepth 100000 in
theorem t_j_coder_2 {S : Nat × (Nat → Int32)} (M : Mem) (r : Int32) (h : f_j_coder_2 M = r) : am_Y S 0 0 0 am_M326 0 [(0, .ref 2)] [] (hp M) (some (.int r)) (hp M) := by
  rw [f_j_coder_2] at h
  refine am_Y.run (k := 5) (pc' := 14) (lv' := [(0, .ref 2)]) (st' := [.int (0 : Int32)]) (h' := hp M) rfl ?_
  subst h
  exact am_Y.ret rfl
set_option maxRecDepth 100000 in
theorem t_j_length_2 {S : Nat × (Nat → Int32)} (M : Mem) (r : Int32) (h : f_j_length_2 M = r) : am_Y S 1 0 0 am_M320 0 [(0, .ref 2)] [] (hp M) (some (.int r)) (hp M) := by
  rw [f_j_length_2] at h
  refine am_Y.run (k := 4) (pc' := 6) (lv' := [(0, .ref 2)]) (st' := [.ref 2, .int (12 : Int32)]) (h' := hp M) rfl ?_
  refine am_Y.call0 (M' := am_M326) (as := [.ref 2]) (rest := [.int (12 : Int32)]) (d' := 0) rfl (by omega) rfl rfl (t_j_coder_2 M (0 : Int32) rfl) ?_
  refine am_Y.run (k := 1) (pc' := 10) (lv' := [(0, .ref 2)]) (st' := [.int ((12 : Int32) >>> (0 : Int32))]) (h' := hp M) rfl ?_
  subst h
  exact am_Y.ret rfl
set_option maxRecDepth 100000 in
theorem t_j_canEncode {S : Nat × (Nat → Int32)} (x0 : Int32) (M : Mem) (r : Int32) (h : f_j_canEncode x0 M = r) : am_Y S 0 0 0 am_M338 0 [(0, .int x0)] [] (hp M) (some (.int r)) (hp M) := by
  rw [f_j_canEncode] at h
  refine am_Y.run (k := 1) (pc' := 1) (lv' := [(0, .int x0)]) (st' := [.int x0]) (h' := hp M) rfl ?_
  refine am_Y.br (c := x0 < (0 : Int32)) _ (t := 15) (u := 4) (lv' := [(0, .int x0)]) (st' := []) (h' := hp M) rfl (fun hc => ?_) (fun hc => ?_)
  · replace h := (if_pos hc).symm.trans h
    refine am_Y.run (k := 1) (pc' := 16) (lv' := [(0, .int x0)]) (st' := [.int (0 : Int32)]) (h' := hp M) rfl ?_
    subst h
    exact am_Y.ret rfl
  · replace h := (if_neg hc).symm.trans h
    refine am_Y.run (k := 2) (pc' := 8) (lv' := [(0, .int x0)]) (st' := [.int (255 : Int32), .int x0]) (h' := hp M) rfl ?_
    refine am_Y.br (c := (255 : Int32) < x0) _ (t := 15) (u := 11) (lv' := [(0, .int x0)]) (st' := []) (h' := hp M) rfl (fun hc => ?_) (fun hc => ?_)
    · replace h := (if_pos hc).symm.trans h
      refine am_Y.run (k := 1) (pc' := 16) (lv' := [(0, .int x0)]) (st' := [.int (0 : Int32)]) (h' := hp M) rfl ?_
      subst h
      exact am_Y.ret rfl
    · replace h := (if_neg hc).symm.trans h
      refine am_Y.run (k := 2) (pc' := 16) (lv' := [(0, .int x0)]) (st' := [.int (1 : Int32)]) (h' := hp M) rfl ?_
      subst h
      exact am_Y.ret rfl
set_option maxRecDepth 100000 in
theorem z_j_canEncode (x0 : Int32) (M : Mem) : f_j_canEncode x0 M = 0 ∨ f_j_canEncode x0 M = 1 := by
  simp only [f_j_canEncode]
  first | (repeat' split) <;> first | exact Or.inl rfl | exact Or.inr rfl | (simp; done) | (simp; done)
set_option maxRecDepth 100000 in
theorem t_j_indexOfChar_7 {S : Nat × (Nat → Int32)} (N : Nat) : ∀ (n : Nat) (x3 : Int32) (x4 : Int32) (x5 : Int32) (M : Mem) (r : Int32), f_j_indexOfChar_7 N n x3 x4 x5 M = some r → am_Y S 0 0 0 am_M339 7 [(0, .ref 4), (3, .int x3), (4, .int x4), (5, .int x5)] [] (hp M) (some (.int r)) (hp M) := by
  intro n
  induction n with
  | zero =>
    intro x3 x4 x5 M r h
    cases h
  | succ n ih =>
    intro x3 x4 x5 M r h
    rw [f_j_indexOfChar_7] at h
    refine am_Y.run (k := 2) (pc' := 10) (lv' := [(0, .ref 4), (3, .int x3), (4, .int x4), (5, .int x5)]) (st' := [.int x3, .int x5]) (h' := hp M) rfl ?_
    refine am_Y.br (c := x3 ≤ x5) _ (t := 31) (u := 13) (lv' := [(0, .ref 4), (3, .int x3), (4, .int x4), (5, .int x5)]) (st' := []) (h' := hp M) rfl (fun hc => ?_) (fun hc => ?_)
    · replace h := (if_pos hc).symm.trans h
      refine am_Y.run (k := 1) (pc' := 32) (lv' := [(0, .ref 4), (3, .int x3), (4, .int x4), (5, .int x5)]) (st' := [.int (-1 : Int32)]) (h' := hp M) rfl ?_
      obtain rfl := Option.some.inj h
      exact am_Y.ret rfl
    · replace h := (if_neg hc).symm.trans h
      refine am_Y.run (k := 2) (pc' := 16) (lv' := [(0, .ref 4), (3, .int x3), (4, .int x4), (5, .int x5)]) (st' := [.int x5, .ref 4]) (h' := hp M) rfl ?_
      obtain ⟨g, h⟩ := am_itg h
      refine am_Y.bald1 rfl g ?_
      refine am_Y.run (k := 1) (pc' := 19) (lv' := [(0, .ref 4), (3, .int x3), (4, .int x4), (5, .int x5)]) (st' := [.int x4, .int ((am_byt 1).getD (x5).toNatClampNeg 0)]) (h' := hp M) rfl ?_
      refine am_Y.br (c := ((am_byt 1).getD (x5).toNatClampNeg 0) = x4) _ (t := 22) (u := 25) (lv' := [(0, .ref 4), (3, .int x3), (4, .int x4), (5, .int x5)]) (st' := []) (h' := hp M) rfl (fun hc => ?_) (fun hc => ?_)
      · replace h := (if_pos hc).symm.trans h
        refine am_Y.run (k := 1) (pc' := 24) (lv' := [(0, .ref 4), (3, .int x3), (4, .int x4), (5, .int x5)]) (st' := [.int x5]) (h' := hp M) rfl ?_
        obtain rfl := Option.some.inj h
        exact am_Y.ret rfl
      · replace h := (if_neg hc).symm.trans h
        refine am_Y.run (k := 2) (pc' := 7) (lv' := [(5, .int (x5 + (1 : Int32))), (0, .ref 4), (3, .int x3), (4, .int x4)]) (st' := []) (h' := hp M) rfl ?_
        refine am_Y.weak (lv2 := [(0, .ref 4), (3, .int x3), (4, .int x4), (5, .int (x5 + (1 : Int32)))]) rfl rfl ⟨rfl, rfl, rfl, rfl, trivial⟩ ?_
        exact ih x3 x4 (x5 + (1 : Int32)) M _ h
set_option maxRecDepth 100000 in
theorem t_j_indexOfChar {S : Nat × (Nat → Int32)} (N : Nat) (x1 : Int32) (x2 : Int32) (x3 : Int32) (M : Mem) (r : Int32) (h : f_j_indexOfChar N x1 x2 x3 M = some r) : am_Y S 0 0 0 am_M339 0 [(0, .ref 4), (1, .int x1), (2, .int x2), (3, .int x3)] [] (hp M) (some (.int r)) (hp M) := by
  rw [f_j_indexOfChar] at h
  refine am_Y.run (k := 5) (pc' := 7) (lv' := [(5, .int x2), (4, .int (Int32.toInt8 x1).toInt32), (0, .ref 4), (1, .int x1), (2, .int x2), (3, .int x3)]) (st' := []) (h' := hp M) rfl ?_
  refine am_Y.weak (lv2 := [(0, .ref 4), (3, .int x3), (4, .int (Int32.toInt8 x1).toInt32), (5, .int x2)]) rfl rfl ⟨rfl, rfl, rfl, rfl, trivial⟩ ?_
  exact t_j_indexOfChar_7 N N x3 (Int32.toInt8 x1).toInt32 x2 M _ h
set_option maxRecDepth 100000 in
theorem t_j_indexOf2_4 {S : Nat × (Nat → Int32)} (N : Nat) (x1 : Int32) (x2 : Int32) (x3 : Int32) (M : Mem) (r : Int32) (h : f_j_indexOf2_4 N x1 x2 x3 M = some r) : am_Y S 1 0 0 am_M329 0 [(0, .ref 4), (1, .int x1), (2, .int x2), (3, .int x3)] [] (hp M) (some (.int r)) (hp M) := by
  rw [f_j_indexOf2_4] at h
  refine am_Y.run (k := 1) (pc' := 1) (lv' := [(0, .ref 4), (1, .int x1), (2, .int x2), (3, .int x3)]) (st' := [.int x1]) (h' := hp M) rfl ?_
  refine am_Y.call0 (M' := am_M338) (as := [.int x1]) (rest := []) (d' := 0) rfl (by omega) rfl rfl (t_j_canEncode x1 M _ rfl) ?_
  refine am_Y.br (c := (f_j_canEncode x1 M) = (0 : Int32)) _ (t := 7) (u := 9) (lv' := [(0, .ref 4), (1, .int x1), (2, .int x2), (3, .int x3)]) (st' := []) (h' := hp M) rfl (fun hc => ?_) (fun hc => ?_)
  · replace h := (if_pos hc).symm.trans h
    refine am_Y.run (k := 1) (pc' := 8) (lv' := [(0, .ref 4), (1, .int x1), (2, .int x2), (3, .int x3)]) (st' := [.int (-1 : Int32)]) (h' := hp M) rfl ?_
    obtain rfl := Option.some.inj h
    exact am_Y.ret rfl
  · replace h := (if_neg hc).symm.trans h
    refine am_Y.run (k := 2) (pc' := 11) (lv' := [(0, .ref 4), (1, .int x1), (2, .int x2), (3, .int x3)]) (st' := [.int (0 : Int32), .int x2]) (h' := hp M) rfl ?_
    refine am_Y.call0 (M' := am_M246) (as := [.int x2, .int (0 : Int32)]) (rest := []) (d' := 0) rfl (by omega) rfl rfl (t_k_max0 x2 (0 : Int32) M _ rfl) ?_
    refine am_Y.run (k := 4) (pc' := 18) (lv' := [(2, .int (f_k_max0 x2 (0 : Int32) M)), (0, .ref 4), (1, .int x1), (3, .int x3)]) (st' := [.int (12 : Int32), .int x3]) (h' := hp M) rfl ?_
    refine am_Y.call0 (M' := am_M242) (as := [.int x3, .int (12 : Int32)]) (rest := []) (d' := 0) rfl (by omega) rfl rfl (t_k_min0 x3 (12 : Int32) M _ rfl) ?_
    refine am_Y.run (k := 3) (pc' := 24) (lv' := [(3, .int (f_k_min0 x3 (12 : Int32) M)), (2, .int (f_k_max0 x2 (0 : Int32) M)), (0, .ref 4), (1, .int x1)]) (st' := [.int (f_k_min0 x3 (12 : Int32) M), .int (f_k_max0 x2 (0 : Int32) M)]) (h' := hp M) rfl ?_
    refine am_Y.br (c := (f_k_max0 x2 (0 : Int32) M) < (f_k_min0 x3 (12 : Int32) M)) _ (t := 29) (u := 27) (lv' := [(3, .int (f_k_min0 x3 (12 : Int32) M)), (2, .int (f_k_max0 x2 (0 : Int32) M)), (0, .ref 4), (1, .int x1)]) (st' := []) (h' := hp M) rfl (fun hc => ?_) (fun hc => ?_)
    · replace h := (if_pos hc).symm.trans h
      refine am_Y.run (k := 4) (pc' := 33) (lv' := [(3, .int (f_k_min0 x3 (12 : Int32) M)), (2, .int (f_k_max0 x2 (0 : Int32) M)), (0, .ref 4), (1, .int x1)]) (st' := [.int (f_k_min0 x3 (12 : Int32) M), .int (f_k_max0 x2 (0 : Int32) M), .int x1, .ref 4]) (h' := hp M) rfl ?_
      obtain ⟨q1, e_q1, h⟩ := Option.bind_eq_some_iff.mp h
      refine am_Y.call0 (M' := am_M339) (as := [.ref 4, .int x1, .int (f_k_max0 x2 (0 : Int32) M), .int (f_k_min0 x3 (12 : Int32) M)]) (rest := []) (d' := 0) rfl (by omega) rfl rfl (t_j_indexOfChar N x1 (f_k_max0 x2 (0 : Int32) M) (f_k_min0 x3 (12 : Int32) M) M q1 e_q1) ?_
      obtain rfl := Option.some.inj h
      exact am_Y.ret rfl
    · replace h := (if_neg hc).symm.trans h
      refine am_Y.run (k := 1) (pc' := 28) (lv' := [(3, .int (f_k_min0 x3 (12 : Int32) M)), (2, .int (f_k_max0 x2 (0 : Int32) M)), (0, .ref 4), (1, .int x1)]) (st' := [.int (-1 : Int32)]) (h' := hp M) rfl ?_
      obtain rfl := Option.some.inj h
      exact am_Y.ret rfl
set_option maxRecDepth 100000 in
theorem t_j_indexOf1_2 {S : Nat × (Nat → Int32)} (N : Nat) (x1 : Int32) (x2 : Int32) (M : Mem) (r : Int32) (h : f_j_indexOf1_2 N x1 x2 M = some r) : am_Y S 2 0 0 am_M323 0 [(0, .ref 2), (1, .int x1), (2, .int x2)] [] (hp M) (some (.int r)) (hp M) := by
  rw [f_j_indexOf1_2] at h
  refine am_Y.run (k := 1) (pc' := 1) (lv' := [(0, .ref 2), (1, .int x1), (2, .int x2)]) (st' := [.ref 2]) (h' := hp M) rfl ?_
  refine am_Y.call0 (M' := am_M327) (as := [.ref 2]) (rest := []) (d' := 0) rfl (by omega) rfl rfl (t_j_isLatin1_2 M (1 : Int32) rfl) ?_
  refine am_Y.run (k := 6) (pc' := 14) (lv' := [(0, .ref 2), (1, .int x1), (2, .int x2)]) (st' := [.ref 2, .int x2, .int x1, .ref 4]) (h' := hp M) rfl ?_
  refine am_Y.call0 (M' := am_M320) (as := [.ref 2]) (rest := [.int x2, .int x1, .ref 4]) (d' := 1) rfl (by omega) rfl rfl (t_j_length_2 M _ rfl) ?_
  obtain ⟨q1, e_q1, h⟩ := Option.bind_eq_some_iff.mp h
  refine am_Y.call0 (M' := am_M329) (as := [.ref 4, .int x1, .int x2, .int (f_j_length_2 M)]) (rest := []) (d' := 1) rfl (by omega) rfl rfl (t_j_indexOf2_4 N x1 x2 (f_j_length_2 M) M q1 e_q1) ?_
  refine am_Y.run (k := 1) (pc' := 36) (lv' := [(0, .ref 2), (1, .int x1), (2, .int x2)]) (st' := [.int q1]) (h' := hp M) rfl ?_
  obtain rfl := Option.some.inj h
  exact am_Y.ret rfl
set_option maxRecDepth 100000 in
theorem t_j_indexOf0_2 {S : Nat × (Nat → Int32)} (N : Nat) (x1 : Int32) (M : Mem) (r : Int32) (h : f_j_indexOf0_2 N x1 M = some r) : am_Y S 3 0 0 am_M301 0 [(0, .ref 2), (1, .int x1)] [] (hp M) (some (.int r)) (hp M) := by
  rw [f_j_indexOf0_2] at h
  refine am_Y.run (k := 3) (pc' := 3) (lv' := [(0, .ref 2), (1, .int x1)]) (st' := [.int (0 : Int32), .int x1, .ref 2]) (h' := hp M) rfl ?_
  obtain ⟨q1, e_q1, h⟩ := Option.bind_eq_some_iff.mp h
  refine am_Y.call0 (M' := am_M323) (as := [.ref 2, .int x1, .int (0 : Int32)]) (rest := []) (d' := 2) rfl (by omega) rfl rfl (t_j_indexOf1_2 N x1 (0 : Int32) M q1 e_q1) ?_
  obtain rfl := Option.some.inj h
  exact am_Y.ret rfl
set_option maxRecDepth 100000 in
theorem t_a_cutSign_38 {S : Nat × (Nat → Int32)} (N : Nat) (x1 : Int32) (x3 : Int32) (M : Mem) (r : Int32) (M' : Mem) (h : f_a_cutSign_38 N x1 x3 M = some (r, M')) : am_Y S 4 0 0 am_M273 38 [(0, .ref 100), (1, .int x1), (3, .int x3)] [] (hp M) (some (.int r)) (hp M') := by
  rw [f_a_cutSign_38] at h
  refine am_Y.run (k := 4) (pc' := 42) (lv' := [(0, .ref 100), (1, .int x1), (3, .int x3)]) (st' := [.int (x1 + (1 : Int32)), .ref 100]) (h' := hp M) rfl ?_
  obtain ⟨q4, e_q4, h⟩ := Option.bind_eq_some_iff.mp h
  refine am_Y.call0 (M' := am_M268) (as := [.ref 100, .int (x1 + (1 : Int32))]) (rest := []) (d' := 0) rfl (by omega) rfl rfl (t_a_byteAt (x1 + (1 : Int32)) M q4 e_q4) ?_
  refine am_Y.run (k := 1) (pc' := 47) (lv' := [(0, .ref 100), (1, .int x1), (3, .int x3)]) (st' := [.int (61 : Int32), .int q4]) (h' := hp M) rfl ?_
  refine am_Y.br (c := q4 = (61 : Int32)) _ (t := 50) (u := 73) (lv' := [(0, .ref 100), (1, .int x1), (3, .int x3)]) (st' := []) (h' := hp M) rfl (fun hc => ?_) (fun hc => ?_)
  · replace h := (if_pos hc).symm.trans h
    refine am_Y.run (k := 3) (pc' := 54) (lv' := [(0, .ref 100), (1, .int x1), (3, .int x3)]) (st' := [.int (34 : Int32), .int x3, .ref 100]) (h' := hp M) rfl ?_
    refine am_Y.br (c := x3 = (34 : Int32)) _ (t := 57) (u := 62) (lv' := [(0, .ref 100), (1, .int x1), (3, .int x3)]) (st' := [.ref 100]) (h' := hp M) rfl (fun hc => ?_) (fun hc => ?_)
    · replace h := (if_pos hc).symm.trans h
      refine am_Y.run (k := 4) (pc' := 66) (lv' := [(0, .ref 100), (1, .int x1), (3, .int x3)]) (st' := [.int (0 : Int32), .int x1, .int (46 : Int32), .ref 100]) (h' := hp M) rfl ?_
      obtain ⟨q5, e_q5, h⟩ := Option.bind_eq_some_iff.mp h
      refine am_Y.call0 (M' := am_M274) (as := [.ref 100, .int (46 : Int32), .int x1, .int (0 : Int32)]) (rest := []) (d' := 0) rfl (by omega) rfl rfl (t_a_add (46 : Int32) x1 (0 : Int32) M q5 e_q5) ?_
      refine am_Y.run (k := 3) (pc' := 72) (lv' := [(0, .ref 100), (1, .int x1), (3, .int x3)]) (st' := [.int (x1 + (2 : Int32))]) (h' := hp q5) rfl ?_
      obtain ⟨rfl, rfl⟩ := Prod.mk.inj (Option.some.inj h)
      exact am_Y.ret rfl
    · replace h := (if_neg hc).symm.trans h
      refine am_Y.run (k := 3) (pc' := 66) (lv' := [(0, .ref 100), (1, .int x1), (3, .int x3)]) (st' := [.int (0 : Int32), .int x1, .int (47 : Int32), .ref 100]) (h' := hp M) rfl ?_
      obtain ⟨q6, e_q6, h⟩ := Option.bind_eq_some_iff.mp h
      refine am_Y.call0 (M' := am_M274) (as := [.ref 100, .int (47 : Int32), .int x1, .int (0 : Int32)]) (rest := []) (d' := 0) rfl (by omega) rfl rfl (t_a_add (47 : Int32) x1 (0 : Int32) M q6 e_q6) ?_
      refine am_Y.run (k := 3) (pc' := 72) (lv' := [(0, .ref 100), (1, .int x1), (3, .int x3)]) (st' := [.int (x1 + (2 : Int32))]) (h' := hp q6) rfl ?_
      obtain ⟨rfl, rfl⟩ := Prod.mk.inj (Option.some.inj h)
      exact am_Y.ret rfl
  · replace h := (if_neg hc).symm.trans h
    refine am_Y.run (k := 4) (pc' := 77) (lv' := [(0, .ref 100), (1, .int x1), (3, .int x3)]) (st' := [.int (0 : Int32), .int x1, .int x3, .ref 100]) (h' := hp M) rfl ?_
    obtain ⟨q7, e_q7, h⟩ := Option.bind_eq_some_iff.mp h
    refine am_Y.call0 (M' := am_M274) (as := [.ref 100, .int x3, .int x1, .int (0 : Int32)]) (rest := []) (d' := 0) rfl (by omega) rfl rfl (t_a_add x3 x1 (0 : Int32) M q7 e_q7) ?_
    refine am_Y.run (k := 3) (pc' := 83) (lv' := [(0, .ref 100), (1, .int x1), (3, .int x3)]) (st' := [.int (x1 + (1 : Int32))]) (h' := hp q7) rfl ?_
    obtain ⟨rfl, rfl⟩ := Prod.mk.inj (Option.some.inj h)
    exact am_Y.ret rfl
set_option maxRecDepth 100000 in
theorem t_a_cutSign_25 {S : Nat × (Nat → Int32)} (N : Nat) (x1 : Int32) (s0 : Int32) (M : Mem) (r : Int32) (M' : Mem) (h : f_a_cutSign_25 N x1 s0 M = some (r, M')) : am_Y S 4 0 0 am_M273 25 [(0, .ref 100), (1, .int x1)] [.int s0] (hp M) (some (.int r)) (hp M') := by
  rw [f_a_cutSign_25] at h
  refine am_Y.run (k := 3) (pc' := 29) (lv' := [(3, .int s0), (0, .ref 100), (1, .int x1)]) (st' := [.int (34 : Int32), .int s0]) (h' := hp M) rfl ?_
  refine am_Y.br (c := s0 = (34 : Int32)) _ (t := 38) (u := 32) (lv' := [(3, .int s0), (0, .ref 100), (1, .int x1)]) (st' := []) (h' := hp M) rfl (fun hc => ?_) (fun hc => ?_)
  · replace h := (if_pos hc).symm.trans h
    refine am_Y.weak (lv2 := [(0, .ref 100), (1, .int x1), (3, .int s0)]) rfl rfl ⟨rfl, rfl, rfl, trivial⟩ ?_
    exact t_a_cutSign_38 N x1 s0 M _ _ h
  · replace h := (if_neg hc).symm.trans h
    refine am_Y.run (k := 2) (pc' := 35) (lv' := [(3, .int s0), (0, .ref 100), (1, .int x1)]) (st' := [.int (35 : Int32), .int s0]) (h' := hp M) rfl ?_
    refine am_Y.br (c := s0 = (35 : Int32)) _ (t := 38) (u := 73) (lv' := [(3, .int s0), (0, .ref 100), (1, .int x1)]) (st' := []) (h' := hp M) rfl (fun hc => ?_) (fun hc => ?_)
    · replace h := (if_pos hc).symm.trans h
      refine am_Y.weak (lv2 := [(0, .ref 100), (1, .int x1), (3, .int s0)]) rfl rfl ⟨rfl, rfl, rfl, trivial⟩ ?_
      exact t_a_cutSign_38 N x1 s0 M _ _ h
    · replace h := (if_neg hc).symm.trans h
      refine am_Y.run (k := 4) (pc' := 77) (lv' := [(3, .int s0), (0, .ref 100), (1, .int x1)]) (st' := [.int (0 : Int32), .int x1, .int s0, .ref 100]) (h' := hp M) rfl ?_
      obtain ⟨q3, e_q3, h⟩ := Option.bind_eq_some_iff.mp h
      refine am_Y.call0 (M' := am_M274) (as := [.ref 100, .int s0, .int x1, .int (0 : Int32)]) (rest := []) (d' := 0) rfl (by omega) rfl rfl (t_a_add s0 x1 (0 : Int32) M q3 e_q3) ?_
      refine am_Y.run (k := 3) (pc' := 83) (lv' := [(3, .int s0), (0, .ref 100), (1, .int x1)]) (st' := [.int (x1 + (1 : Int32))]) (h' := hp q3) rfl ?_
      obtain ⟨rfl, rfl⟩ := Prod.mk.inj (Option.some.inj h)
      exact am_Y.ret rfl
set_option maxRecDepth 100000 in
theorem t_a_cutSign {S : Nat × (Nat → Int32)} (N : Nat) (x1 : Int32) (M : Mem) (r : Int32) (M' : Mem) (h : f_a_cutSign N x1 M = some (r, M')) : am_Y S 4 0 0 am_M273 0 [(0, .ref 100), (1, .int x1)] [] (hp M) (some (.int r)) (hp M') := by
  rw [f_a_cutSign] at h
  refine am_Y.run (k := 3) (pc' := 4) (lv' := [(0, .ref 100), (1, .int x1)]) (st' := [.int x1, .ref 100, .ref 2]) (h' := hp M) rfl ?_
  obtain ⟨q1, e_q1, h⟩ := Option.bind_eq_some_iff.mp h
  refine am_Y.call0 (M' := am_M268) (as := [.ref 100, .int x1]) (rest := [.ref 2]) (d' := 0) rfl (by omega) rfl rfl (t_a_byteAt x1 M q1 e_q1) ?_
  refine am_Y.run (k := 1) (pc' := 8) (lv' := [(0, .ref 100), (1, .int x1)]) (st' := [.int (Int32.toUInt32 q1 % 65536).toInt32, .ref 2]) (h' := hp M) rfl ?_
  obtain ⟨q2, e_q2, h⟩ := Option.bind_eq_some_iff.mp h
  refine am_Y.call0 (M' := am_M301) (as := [.ref 2, .int (Int32.toUInt32 q1 % 65536).toInt32]) (rest := []) (d' := 3) rfl (by omega) rfl rfl (t_j_indexOf0_2 N (Int32.toUInt32 q1 % 65536).toInt32 M q2 e_q2) ?_
  refine am_Y.run (k := 2) (pc' := 13) (lv' := [(2, .int q2), (0, .ref 100), (1, .int x1)]) (st' := [.int q2]) (h' := hp M) rfl ?_
  refine am_Y.br (c := (0 : Int32) ≤ q2) _ (t := 21) (u := 16) (lv' := [(2, .int q2), (0, .ref 100), (1, .int x1)]) (st' := []) (h' := hp M) rfl (fun hc => ?_) (fun hc => ?_)
  · replace h := (if_pos hc).symm.trans h
    refine am_Y.run (k := 3) (pc' := 25) (lv' := [(2, .int q2), (0, .ref 100), (1, .int x1)]) (st' := [.int ((34 : Int32) + q2)]) (h' := hp M) rfl ?_
    refine am_Y.weak (lv2 := [(0, .ref 100), (1, .int x1)]) rfl rfl ⟨rfl, rfl, trivial⟩ ?_
    exact t_a_cutSign_25 N x1 ((34 : Int32) + q2) M _ _ h
  · replace h := (if_neg hc).symm.trans h
    refine am_Y.run (k := 2) (pc' := 25) (lv' := [(2, .int q2), (0, .ref 100), (1, .int x1)]) (st' := [.int (32 : Int32)]) (h' := hp M) rfl ?_
    refine am_Y.weak (lv2 := [(0, .ref 100), (1, .int x1)]) rfl rfl ⟨rfl, rfl, trivial⟩ ?_
    exact t_a_cutSign_25 N x1 (32 : Int32) M _ _ h
set_option maxRecDepth 100000 in
theorem t_a_cutNumber_7 {S : Nat × (Nat → Int32)} (N : Nat) : ∀ (n : Nat) (x1 : Int32) (x2 : Int32) (x3 : Int32) (x4 : Int32) (M : Mem) (r : Int32) (M' : Mem), f_a_cutNumber_7 N n x1 x2 x3 x4 M = some (r, M') → am_Y S 2 0 0 am_M272 7 [(0, .ref 100), (1, .int x1), (2, .int x2), (3, .int x3), (4, .int x4)] [] (hp M) (some (.int r)) (hp M') := by
  intro n
  induction n with
  | zero =>
    intro x1 x2 x3 x4 M r M' h
    cases h
  | succ n ih =>
    intro x1 x2 x3 x4 M r M' h
    rw [f_a_cutNumber_7] at h
    refine am_Y.run (k := 2) (pc' := 12) (lv' := [(0, .ref 100), (1, .int x1), (2, .int x2), (3, .int x3), (4, .int x4)]) (st' := [.int (300 : Int32), .int x4]) (h' := hp M) rfl ?_
    refine am_Y.br (c := (300 : Int32) ≤ x4) _ (t := 55) (u := 15) (lv' := [(0, .ref 100), (1, .int x1), (2, .int x2), (3, .int x3), (4, .int x4)]) (st' := []) (h' := hp M) rfl (fun hc => ?_) (fun hc => ?_)
    · replace h := (if_pos hc).symm.trans h
      refine am_Y.run (k := 4) (pc' := 60) (lv' := [(0, .ref 100), (1, .int x1), (2, .int x2), (3, .int x3), (4, .int x4)]) (st' := [.int x3, .int x1, .int (33 : Int32), .ref 100]) (h' := hp M) rfl ?_
      obtain ⟨q1, e_q1, h⟩ := Option.bind_eq_some_iff.mp h
      refine am_Y.call0 (M' := am_M274) (as := [.ref 100, .int (33 : Int32), .int x1, .int x3]) (rest := []) (d' := 0) rfl (by omega) rfl rfl (t_a_add (33 : Int32) x1 x3 M q1 e_q1) ?_
      refine am_Y.run (k := 1) (pc' := 64) (lv' := [(0, .ref 100), (1, .int x1), (2, .int x2), (3, .int x3), (4, .int x4)]) (st' := [.int x2]) (h' := hp q1) rfl ?_
      obtain ⟨rfl, rfl⟩ := Prod.mk.inj (Option.some.inj h)
      exact am_Y.ret rfl
    · replace h := (if_neg hc).symm.trans h
      refine am_Y.run (k := 2) (pc' := 17) (lv' := [(0, .ref 100), (1, .int x1), (2, .int x2), (3, .int x3), (4, .int x4)]) (st' := [.int x2, .ref 100]) (h' := hp M) rfl ?_
      obtain ⟨q2, e_q2, h⟩ := Option.bind_eq_some_iff.mp h
      refine am_Y.call0 (M' := am_M268) (as := [.ref 100, .int x2]) (rest := []) (d' := 0) rfl (by omega) rfl rfl (t_a_byteAt x2 M q2 e_q2) ?_
      refine am_Y.call0 (M' := am_M271) (as := [.int q2]) (rest := []) (d' := 1) rfl (by omega) rfl rfl (t_a_isDigit q2 M _ rfl) ?_
      refine am_Y.br (c := (f_a_isDigit q2 M) = (0 : Int32)) _ (t := 55) (u := 26) (lv' := [(0, .ref 100), (1, .int x1), (2, .int x2), (3, .int x3), (4, .int x4)]) (st' := []) (h' := hp M) rfl (fun hc => ?_) (fun hc => ?_)
      · replace h := (if_pos hc).symm.trans h
        refine am_Y.run (k := 4) (pc' := 60) (lv' := [(0, .ref 100), (1, .int x1), (2, .int x2), (3, .int x3), (4, .int x4)]) (st' := [.int x3, .int x1, .int (33 : Int32), .ref 100]) (h' := hp M) rfl ?_
        obtain ⟨q3, e_q3, h⟩ := Option.bind_eq_some_iff.mp h
        refine am_Y.call0 (M' := am_M274) (as := [.ref 100, .int (33 : Int32), .int x1, .int x3]) (rest := []) (d' := 0) rfl (by omega) rfl rfl (t_a_add (33 : Int32) x1 x3 M q3 e_q3) ?_
        refine am_Y.run (k := 1) (pc' := 64) (lv' := [(0, .ref 100), (1, .int x1), (2, .int x2), (3, .int x3), (4, .int x4)]) (st' := [.int x2]) (h' := hp q3) rfl ?_
        obtain ⟨rfl, rfl⟩ := Prod.mk.inj (Option.some.inj h)
        exact am_Y.ret rfl
      · replace h := (if_neg hc).symm.trans h
        refine am_Y.run (k := 5) (pc' := 32) (lv' := [(0, .ref 100), (1, .int x1), (2, .int x2), (3, .int x3), (4, .int x4)]) (st' := [.int x2, .ref 100, .int (x3 * (10 : Int32))]) (h' := hp M) rfl ?_
        obtain ⟨q4, e_q4, h⟩ := Option.bind_eq_some_iff.mp h
        refine am_Y.call0 (M' := am_M268) (as := [.ref 100, .int x2]) (rest := [.int (x3 * (10 : Int32))]) (d' := 0) rfl (by omega) rfl rfl (t_a_byteAt x2 M q4 e_q4) ?_
        refine am_Y.run (k := 4) (pc' := 42) (lv' := [(0, .ref 100), (1, .int x1), (2, .int x2), (3, .int x3), (4, .int x4)]) (st' := [.int (10000 : Int32), .int (((x3 * (10 : Int32)) + q4) - (48 : Int32))]) (h' := hp M) rfl ?_
        refine am_Y.call0 (M' := am_M242) (as := [.int (((x3 * (10 : Int32)) + q4) - (48 : Int32)), .int (10000 : Int32)]) (rest := []) (d' := 0) rfl (by omega) rfl rfl (t_k_min0 (((x3 * (10 : Int32)) + q4) - (48 : Int32)) (10000 : Int32) M _ rfl) ?_
        refine am_Y.run (k := 4) (pc' := 7) (lv' := [(4, .int (x4 + (1 : Int32))), (2, .int (x2 + (1 : Int32))), (3, .int (f_k_min0 (((x3 * (10 : Int32)) + q4) - (48 : Int32)) (10000 : Int32) M)), (0, .ref 100), (1, .int x1)]) (st' := []) (h' := hp M) rfl ?_
        refine am_Y.weak (lv2 := [(0, .ref 100), (1, .int x1), (2, .int (x2 + (1 : Int32))), (3, .int (f_k_min0 (((x3 * (10 : Int32)) + q4) - (48 : Int32)) (10000 : Int32) M)), (4, .int (x4 + (1 : Int32)))]) rfl rfl ⟨rfl, rfl, rfl, rfl, rfl, trivial⟩ ?_
        exact ih x1 (x2 + (1 : Int32)) (f_k_min0 (((x3 * (10 : Int32)) + q4) - (48 : Int32)) (10000 : Int32) M) (x4 + (1 : Int32)) M _ _ h
set_option maxRecDepth 100000 in
theorem t_a_cutNumber {S : Nat × (Nat → Int32)} (N : Nat) (x1 : Int32) (M : Mem) (r : Int32) (M' : Mem) (h : f_a_cutNumber N x1 M = some (r, M')) : am_Y S 2 0 0 am_M272 0 [(0, .ref 100), (1, .int x1)] [] (hp M) (some (.int r)) (hp M') := by
  rw [f_a_cutNumber] at h
  refine am_Y.run (k := 6) (pc' := 7) (lv' := [(4, .int (0 : Int32)), (3, .int (0 : Int32)), (2, .int x1), (0, .ref 100), (1, .int x1)]) (st' := []) (h' := hp M) rfl ?_
  refine am_Y.weak (lv2 := [(0, .ref 100), (1, .int x1), (2, .int x1), (3, .int (0 : Int32)), (4, .int (0 : Int32))]) rfl rfl ⟨rfl, rfl, rfl, rfl, rfl, trivial⟩ ?_
  exact t_a_cutNumber_7 N N x1 x1 (0 : Int32) (0 : Int32) M _ _ h
set_option maxRecDepth 100000 in
theorem t_j_coder_1 {S : Nat × (Nat → Int32)} (M : Mem) (r : Int32) (h : f_j_coder_1 M = r) : am_Y S 0 0 0 am_M326 0 [(0, .ref 1)] [] (hp M) (some (.int r)) (hp M) := by
  rw [f_j_coder_1] at h
  refine am_Y.run (k := 5) (pc' := 14) (lv' := [(0, .ref 1)]) (st' := [.int (0 : Int32)]) (h' := hp M) rfl ?_
  subst h
  exact am_Y.ret rfl
set_option maxRecDepth 100000 in
theorem t_j_length_1 {S : Nat × (Nat → Int32)} (M : Mem) (r : Int32) (h : f_j_length_1 M = r) : am_Y S 1 0 0 am_M320 0 [(0, .ref 1)] [] (hp M) (some (.int r)) (hp M) := by
  rw [f_j_length_1] at h
  refine am_Y.run (k := 4) (pc' := 6) (lv' := [(0, .ref 1)]) (st' := [.ref 1, .int (163 : Int32)]) (h' := hp M) rfl ?_
  refine am_Y.call0 (M' := am_M326) (as := [.ref 1]) (rest := [.int (163 : Int32)]) (d' := 0) rfl (by omega) rfl rfl (t_j_coder_1 M (0 : Int32) rfl) ?_
  refine am_Y.run (k := 1) (pc' := 10) (lv' := [(0, .ref 1)]) (st' := [.int ((163 : Int32) >>> (0 : Int32))]) (h' := hp M) rfl ?_
  subst h
  exact am_Y.ret rfl
set_option maxRecDepth 100000 in
theorem t_j_isLatin1_1 {S : Nat × (Nat → Int32)} (M : Mem) (r : Int32) (h : f_j_isLatin1_1 M = r) : am_Y S 0 0 0 am_M327 0 [(0, .ref 1)] [] (hp M) (some (.int r)) (hp M) := by
  rw [f_j_isLatin1_1] at h
  refine am_Y.run (k := 7) (pc' := 18) (lv' := [(0, .ref 1)]) (st' := [.int (1 : Int32)]) (h' := hp M) rfl ?_
  subst h
  exact am_Y.ret rfl
set_option maxRecDepth 100000 in
theorem z_j_isLatin1_1 (M : Mem) : f_j_isLatin1_1 M = 0 ∨ f_j_isLatin1_1 M = 1 := by
  simp only [f_j_isLatin1_1]
  first | (repeat' split) <;> first | exact Or.inl rfl | exact Or.inr rfl | (simp; done) | (simp; done)
set_option maxRecDepth 100000 in
theorem t_j_checkIndex1 {S : Nat × (Nat → Int32)} (x0 : Int32) (x1 : Int32) (M : Mem) (r : Int32) (h : f_j_checkIndex1 x0 x1 M = some r) : am_Y S 0 0 0 am_M352 0 [(0, .int x0), (1, .int x1), (2, .retAddr 0)] [] (hp M) (some (.int r)) (hp M) := by
  rw [f_j_checkIndex1] at h
  refine am_Y.run (k := 1) (pc' := 1) (lv' := [(0, .int x0), (1, .int x1), (2, .retAddr 0)]) (st' := [.int x0]) (h' := hp M) rfl ?_
  refine am_Y.br (c := x0 < (0 : Int32)) _ (t := 9) (u := 4) (lv' := [(0, .int x0), (1, .int x1), (2, .retAddr 0)]) (st' := []) (h' := hp M) rfl (fun hc => ?_) (fun hc => ?_)
  · replace h := (if_pos hc).symm.trans h
    cases h
  · replace h := (if_neg hc).symm.trans h
    refine am_Y.run (k := 2) (pc' := 6) (lv' := [(0, .int x0), (1, .int x1), (2, .retAddr 0)]) (st' := [.int x1, .int x0]) (h' := hp M) rfl ?_
    refine am_Y.br (c := x0 < x1) _ (t := 16) (u := 9) (lv' := [(0, .int x0), (1, .int x1), (2, .retAddr 0)]) (st' := []) (h' := hp M) rfl (fun hc => ?_) (fun hc => ?_)
    · replace h := (if_pos hc).symm.trans h
      refine am_Y.run (k := 1) (pc' := 17) (lv' := [(0, .int x0), (1, .int x1), (2, .retAddr 0)]) (st' := [.int x0]) (h' := hp M) rfl ?_
      obtain rfl := Option.some.inj h
      exact am_Y.ret rfl
    · replace h := (if_neg hc).symm.trans h
      cases h
set_option maxRecDepth 100000 in
theorem t_j_checkIndex0 {S : Nat × (Nat → Int32)} (x0 : Int32) (x1 : Int32) (M : Mem) (M' : Mem) (h : f_j_checkIndex0 x0 x1 M = some M') : am_Y S 1 0 0 am_M337 0 [(0, .int x0), (1, .int x1)] [] (hp M) none (hp M') := by
  rw [f_j_checkIndex0] at h
  refine am_Y.run (k := 3) (pc' := 5) (lv' := [(0, .int x0), (1, .int x1)]) (st' := [.retAddr 0, .int x1, .int x0]) (h' := hp M) rfl ?_
  obtain ⟨q1, e_q1, h⟩ := Option.bind_eq_some_iff.mp h
  refine am_Y.call0 (M' := am_M352) (as := [.int x0, .int x1, .retAddr 0]) (rest := []) (d' := 0) rfl (by omega) rfl rfl (t_j_checkIndex1 x0 x1 M q1 e_q1) ?_
  refine am_Y.run (k := 1) (pc' := 9) (lv' := [(0, .int x0), (1, .int x1)]) (st' := []) (h' := hp M) rfl ?_
  obtain rfl := Option.some.inj h
  exact am_Y.ret rfl
set_option maxRecDepth 100000 in
theorem t_j_charAt1_3 {S : Nat × (Nat → Int32)} (x1 : Int32) (M : Mem) (r : Int32) (M' : Mem) (h : f_j_charAt1_3 x1 M = some (r, M')) : am_Y S 2 0 0 am_M328 0 [(0, .ref 3), (1, .int x1)] [] (hp M) (some (.int r)) (hp M') := by
  rw [f_j_charAt1_3] at h
  refine am_Y.run (k := 3) (pc' := 3) (lv' := [(0, .ref 3), (1, .int x1)]) (st' := [.int (163 : Int32), .int x1]) (h' := hp M) rfl ?_
  obtain ⟨q1, e_q1, h⟩ := Option.bind_eq_some_iff.mp h
  refine am_Y.call0 (M' := am_M337) (as := [.int x1, .int (163 : Int32)]) (rest := []) (d' := 1) rfl (by omega) rfl rfl (t_j_checkIndex0 x1 (163 : Int32) M q1 e_q1) ?_
  refine am_Y.run (k := 2) (pc' := 8) (lv' := [(0, .ref 3), (1, .int x1)]) (st' := [.int x1, .ref 3]) (h' := hp q1) rfl ?_
  obtain ⟨g, h⟩ := am_itg h
  refine am_Y.bald0 rfl g ?_
  refine am_Y.run (k := 3) (pc' := 14) (lv' := [(0, .ref 3), (1, .int x1)]) (st' := [.int (Int32.toUInt32 (((am_byt 0).getD (x1).toNatClampNeg 0) &&& (255 : Int32)) % 65536).toInt32]) (h' := hp q1) rfl ?_
  obtain ⟨g, h⟩ := am_itg h
  obtain ⟨rfl, rfl⟩ := Prod.mk.inj (Option.some.inj h)
  exact am_Y.ret (am_rnar rfl rfl g)
set_option maxRecDepth 100000 in
theorem t_j_charAt0_1 {S : Nat × (Nat → Int32)} (x1 : Int32) (M : Mem) (r : Int32) (M' : Mem) (h : f_j_charAt0_1 x1 M = some (r, M')) : am_Y S 3 0 0 am_M321 0 [(0, .ref 1), (1, .int x1)] [] (hp M) (some (.int r)) (hp M') := by
  rw [f_j_charAt0_1] at h
  refine am_Y.run (k := 1) (pc' := 1) (lv' := [(0, .ref 1), (1, .int x1)]) (st' := [.ref 1]) (h' := hp M) rfl ?_
  refine am_Y.call0 (M' := am_M327) (as := [.ref 1]) (rest := []) (d' := 0) rfl (by omega) rfl rfl (t_j_isLatin1_1 M (1 : Int32) rfl) ?_
  refine am_Y.run (k := 4) (pc' := 12) (lv' := [(0, .ref 1), (1, .int x1)]) (st' := [.int x1, .ref 3]) (h' := hp M) rfl ?_
  obtain ⟨q1, e_q1, h⟩ := Option.bind_eq_some_iff.mp h
  refine am_Y.call0 (M' := am_M328) (as := [.ref 3, .int x1]) (rest := []) (d' := 2) rfl (by omega) rfl rfl (t_j_charAt1_3 x1 M q1.1 q1.2 e_q1) ?_
  obtain ⟨g, h⟩ := am_itg h
  obtain ⟨rfl, rfl⟩ := Prod.mk.inj (Option.some.inj h)
  exact am_Y.ret (am_rnar rfl rfl g)
set_option maxRecDepth 100000 in
theorem t_a_isWordAt_3 {S : Nat × (Nat → Int32)} (N : Nat) : ∀ (n : Nat) (x1 : Int32) (x2 : Int32) (x3 : Int32) (x4 : Int32) (M : Mem) (r : Int32) (M' : Mem), f_a_isWordAt_3 N n x1 x2 x3 x4 M = some (r, M') → am_Y S 4 0 0 am_M322 3 [(0, .ref 100), (1, .int x1), (2, .int x2), (3, .int x3), (4, .int x4)] [] (hp M) (some (.int r)) (hp M') := by
  intro n
  induction n with
  | zero =>
    intro x1 x2 x3 x4 M r M' h
    cases h
  | succ n ih =>
    intro x1 x2 x3 x4 M r M' h
    rw [f_a_isWordAt_3] at h
    refine am_Y.run (k := 2) (pc' := 6) (lv' := [(0, .ref 100), (1, .int x1), (2, .int x2), (3, .int x3), (4, .int x4)]) (st' := [.int x2, .int x4]) (h' := hp M) rfl ?_
    refine am_Y.br (c := x2 ≤ x4) _ (t := 47) (u := 9) (lv' := [(0, .ref 100), (1, .int x1), (2, .int x2), (3, .int x3), (4, .int x4)]) (st' := []) (h' := hp M) rfl (fun hc => ?_) (fun hc => ?_)
    · replace h := (if_pos hc).symm.trans h
      refine am_Y.run (k := 1) (pc' := 48) (lv' := [(0, .ref 100), (1, .int x1), (2, .int x2), (3, .int x3), (4, .int x4)]) (st' := [.int (1 : Int32)]) (h' := hp M) rfl ?_
      obtain ⟨rfl, rfl⟩ := Prod.mk.inj (Option.some.inj h)
      exact am_Y.ret rfl
    · replace h := (if_neg hc).symm.trans h
      refine am_Y.run (k := 2) (pc' := 13) (lv' := [(0, .ref 100), (1, .int x1), (2, .int x2), (3, .int x3), (4, .int x4)]) (st' := [.ref 1, .int x4]) (h' := hp M) rfl ?_
      refine am_Y.call0 (M' := am_M320) (as := [.ref 1]) (rest := [.int x4]) (d' := 1) rfl (by omega) rfl rfl (t_j_length_1 M _ rfl) ?_
      refine am_Y.br (c := (f_j_length_1 M) ≤ x4) _ (t := 47) (u := 19) (lv' := [(0, .ref 100), (1, .int x1), (2, .int x2), (3, .int x3), (4, .int x4)]) (st' := []) (h' := hp M) rfl (fun hc => ?_) (fun hc => ?_)
      · replace h := (if_pos hc).symm.trans h
        refine am_Y.run (k := 1) (pc' := 48) (lv' := [(0, .ref 100), (1, .int x1), (2, .int x2), (3, .int x3), (4, .int x4)]) (st' := [.int (1 : Int32)]) (h' := hp M) rfl ?_
        obtain ⟨rfl, rfl⟩ := Prod.mk.inj (Option.some.inj h)
        exact am_Y.ret rfl
      · replace h := (if_neg hc).symm.trans h
        refine am_Y.run (k := 2) (pc' := 23) (lv' := [(0, .ref 100), (1, .int x1), (2, .int x2), (3, .int x3), (4, .int x4)]) (st' := [.int x4, .ref 1]) (h' := hp M) rfl ?_
        obtain ⟨q1, e_q1, h⟩ := Option.bind_eq_some_iff.mp h
        refine am_Y.call0 (M' := am_M321) (as := [.ref 1, .int x4]) (rest := []) (d' := 3) rfl (by omega) rfl rfl (t_j_charAt0_1 x4 M q1.1 q1.2 e_q1) ?_
        refine am_Y.run (k := 6) (pc' := 33) (lv' := [(0, .ref 100), (1, .int x1), (2, .int x2), (3, .int x3), (4, .int x4)]) (st' := [.int ((x3 + x4) - x1), .ref 100, .int q1.1]) (h' := hp q1.2) rfl ?_
        obtain ⟨q2, e_q2, h⟩ := Option.bind_eq_some_iff.mp h
        refine am_Y.call0 (M' := am_M268) (as := [.ref 100, .int ((x3 + x4) - x1)]) (rest := [.int q1.1]) (d' := 0) rfl (by omega) rfl rfl (t_a_byteAt ((x3 + x4) - x1) q1.2 q2 e_q2) ?_
        refine am_Y.br (c := q1.1 = q2) _ (t := 41) (u := 39) (lv' := [(0, .ref 100), (1, .int x1), (2, .int x2), (3, .int x3), (4, .int x4)]) (st' := []) (h' := hp q1.2) rfl (fun hc => ?_) (fun hc => ?_)
        · replace h := (if_pos hc).symm.trans h
          refine am_Y.run (k := 2) (pc' := 3) (lv' := [(4, .int (x4 + (1 : Int32))), (0, .ref 100), (1, .int x1), (2, .int x2), (3, .int x3)]) (st' := []) (h' := hp q1.2) rfl ?_
          refine am_Y.weak (lv2 := [(0, .ref 100), (1, .int x1), (2, .int x2), (3, .int x3), (4, .int (x4 + (1 : Int32)))]) rfl rfl ⟨rfl, rfl, rfl, rfl, rfl, trivial⟩ ?_
          exact ih x1 x2 x3 (x4 + (1 : Int32)) q1.2 _ _ h
        · replace h := (if_neg hc).symm.trans h
          refine am_Y.run (k := 1) (pc' := 40) (lv' := [(0, .ref 100), (1, .int x1), (2, .int x2), (3, .int x3), (4, .int x4)]) (st' := [.int (0 : Int32)]) (h' := hp q1.2) rfl ?_
          obtain ⟨rfl, rfl⟩ := Prod.mk.inj (Option.some.inj h)
          exact am_Y.ret rfl
set_option maxRecDepth 100000 in
theorem t_a_isWordAt {S : Nat × (Nat → Int32)} (N : Nat) (x1 : Int32) (x2 : Int32) (x3 : Int32) (M : Mem) (r : Int32) (M' : Mem) (h : f_a_isWordAt N x1 x2 x3 M = some (r, M')) : am_Y S 4 0 0 am_M322 0 [(0, .ref 100), (1, .int x1), (2, .int x2), (3, .int x3)] [] (hp M) (some (.int r)) (hp M') := by
  rw [f_a_isWordAt] at h
  refine am_Y.run (k := 2) (pc' := 3) (lv' := [(4, .int x1), (0, .ref 100), (1, .int x1), (2, .int x2), (3, .int x3)]) (st' := []) (h' := hp M) rfl ?_
  refine am_Y.weak (lv2 := [(0, .ref 100), (1, .int x1), (2, .int x2), (3, .int x3), (4, .int x1)]) rfl rfl ⟨rfl, rfl, rfl, rfl, rfl, trivial⟩ ?_
  exact t_a_isWordAt_3 N N x1 x2 x3 x1 M _ _ h
set_option maxRecDepth 100000 in
theorem t_a_wordOf_8 {S : Nat × (Nat → Int32)} (N : Nat) : ∀ (n : Nat) (x1 : Int32) (x2 : Int32) (x3 : Int32) (x4 : Int32) (x5 : Int32) (M : Mem) (r : Int32) (M' : Mem), f_a_wordOf_8 N n x1 x2 x3 x4 x5 M = some (r, M') → am_Y S 5 0 0 am_M300 8 [(0, .ref 100), (1, .int x1), (2, .int x2), (3, .int x3), (4, .int x4), (5, .int x5)] [] (hp M) (some (.int r)) (hp M') := by
  intro n
  induction n with
  | zero =>
    intro x1 x2 x3 x4 x5 M r M' h
    cases h
  | succ n ih =>
    intro x1 x2 x3 x4 x5 M r M' h
    rw [f_a_wordOf_8] at h
    refine am_Y.run (k := 2) (pc' := 12) (lv' := [(0, .ref 100), (1, .int x1), (2, .int x2), (3, .int x3), (4, .int x4), (5, .int x5)]) (st' := [.ref 1, .int x5]) (h' := hp M) rfl ?_
    refine am_Y.call0 (M' := am_M320) (as := [.ref 1]) (rest := [.int x5]) (d' := 1) rfl (by omega) rfl rfl (t_j_length_1 M _ rfl) ?_
    refine am_Y.br (c := (f_j_length_1 M) ≤ x5) _ (t := 70) (u := 18) (lv' := [(0, .ref 100), (1, .int x1), (2, .int x2), (3, .int x3), (4, .int x4), (5, .int x5)]) (st' := []) (h' := hp M) rfl (fun hc => ?_) (fun hc => ?_)
    · replace h := (if_pos hc).symm.trans h
      refine am_Y.run (k := 1) (pc' := 72) (lv' := [(0, .ref 100), (1, .int x1), (2, .int x2), (3, .int x3), (4, .int x4), (5, .int x5)]) (st' := [.int (32 : Int32)]) (h' := hp M) rfl ?_
      obtain ⟨rfl, rfl⟩ := Prod.mk.inj (Option.some.inj h)
      exact am_Y.ret rfl
    · replace h := (if_neg hc).symm.trans h
      refine am_Y.run (k := 2) (pc' := 22) (lv' := [(0, .ref 100), (1, .int x1), (2, .int x2), (3, .int x3), (4, .int x4), (5, .int x5)]) (st' := [.int x5, .ref 1]) (h' := hp M) rfl ?_
      obtain ⟨q1, e_q1, h⟩ := Option.bind_eq_some_iff.mp h
      refine am_Y.call0 (M' := am_M321) (as := [.ref 1, .int x5]) (rest := []) (d' := 3) rfl (by omega) rfl rfl (t_j_charAt0_1 x5 M q1.1 q1.2 e_q1) ?_
      refine am_Y.run (k := 1) (pc' := 27) (lv' := [(0, .ref 100), (1, .int x1), (2, .int x2), (3, .int x3), (4, .int x4), (5, .int x5)]) (st' := [.int (32 : Int32), .int q1.1]) (h' := hp q1.2) rfl ?_
      refine am_Y.br (c := q1.1 = (32 : Int32)) _ (t := 30) (u := 64) (lv' := [(0, .ref 100), (1, .int x1), (2, .int x2), (3, .int x3), (4, .int x4), (5, .int x5)]) (st' := []) (h' := hp q1.2) rfl (fun hc => ?_) (fun hc => ?_)
      · replace h := (if_pos hc).symm.trans h
        refine am_Y.run (k := 6) (pc' := 38) (lv' := [(0, .ref 100), (1, .int x1), (2, .int x2), (3, .int x3), (4, .int x4), (5, .int x5)]) (st' := [.int (x2 - x1), .int (x5 - x4)]) (h' := hp q1.2) rfl ?_
        refine am_Y.br (c := (x5 - x4) = (x2 - x1)) _ (t := 41) (u := 55) (lv' := [(0, .ref 100), (1, .int x1), (2, .int x2), (3, .int x3), (4, .int x4), (5, .int x5)]) (st' := []) (h' := hp q1.2) rfl (fun hc => ?_) (fun hc => ?_)
        · replace h := (if_pos hc).symm.trans h
          refine am_Y.run (k := 4) (pc' := 47) (lv' := [(0, .ref 100), (1, .int x1), (2, .int x2), (3, .int x3), (4, .int x4), (5, .int x5)]) (st' := [.int x1, .int x5, .int x4, .ref 100]) (h' := hp q1.2) rfl ?_
          obtain ⟨q2, e_q2, h⟩ := Option.bind_eq_some_iff.mp h
          refine am_Y.call0 (M' := am_M322) (as := [.ref 100, .int x4, .int x5, .int x1]) (rest := []) (d' := 4) rfl (by omega) rfl rfl (t_a_isWordAt N x4 x5 x1 q1.2 q2.1 q2.2 e_q2) ?_
          refine am_Y.br (c := q2.1 = (0 : Int32)) _ (t := 55) (u := 53) (lv' := [(0, .ref 100), (1, .int x1), (2, .int x2), (3, .int x3), (4, .int x4), (5, .int x5)]) (st' := []) (h' := hp q2.2) rfl (fun hc => ?_) (fun hc => ?_)
          · replace h := (if_pos hc).symm.trans h
            refine am_Y.run (k := 7) (pc' := 8) (lv' := [(5, .int (x5 + (1 : Int32))), (4, .int (x5 + (1 : Int32))), (3, .int (x3 + (1 : Int32))), (0, .ref 100), (1, .int x1), (2, .int x2)]) (st' := []) (h' := hp q2.2) rfl ?_
            refine am_Y.weak (lv2 := [(0, .ref 100), (1, .int x1), (2, .int x2), (3, .int (x3 + (1 : Int32))), (4, .int (x5 + (1 : Int32))), (5, .int (x5 + (1 : Int32)))]) rfl rfl ⟨rfl, rfl, rfl, rfl, rfl, rfl, trivial⟩ ?_
            exact ih x1 x2 (x3 + (1 : Int32)) (x5 + (1 : Int32)) (x5 + (1 : Int32)) q2.2 _ _ h
          · replace h := (if_neg hc).symm.trans h
            refine am_Y.run (k := 1) (pc' := 54) (lv' := [(0, .ref 100), (1, .int x1), (2, .int x2), (3, .int x3), (4, .int x4), (5, .int x5)]) (st' := [.int x3]) (h' := hp q2.2) rfl ?_
            obtain ⟨rfl, rfl⟩ := Prod.mk.inj (Option.some.inj h)
            exact am_Y.ret rfl
        · replace h := (if_neg hc).symm.trans h
          refine am_Y.run (k := 7) (pc' := 8) (lv' := [(5, .int (x5 + (1 : Int32))), (4, .int (x5 + (1 : Int32))), (3, .int (x3 + (1 : Int32))), (0, .ref 100), (1, .int x1), (2, .int x2)]) (st' := []) (h' := hp q1.2) rfl ?_
          refine am_Y.weak (lv2 := [(0, .ref 100), (1, .int x1), (2, .int x2), (3, .int (x3 + (1 : Int32))), (4, .int (x5 + (1 : Int32))), (5, .int (x5 + (1 : Int32)))]) rfl rfl ⟨rfl, rfl, rfl, rfl, rfl, rfl, trivial⟩ ?_
          exact ih x1 x2 (x3 + (1 : Int32)) (x5 + (1 : Int32)) (x5 + (1 : Int32)) q1.2 _ _ h
      · replace h := (if_neg hc).symm.trans h
        refine am_Y.run (k := 2) (pc' := 8) (lv' := [(5, .int (x5 + (1 : Int32))), (0, .ref 100), (1, .int x1), (2, .int x2), (3, .int x3), (4, .int x4)]) (st' := []) (h' := hp q1.2) rfl ?_
        refine am_Y.weak (lv2 := [(0, .ref 100), (1, .int x1), (2, .int x2), (3, .int x3), (4, .int x4), (5, .int (x5 + (1 : Int32)))]) rfl rfl ⟨rfl, rfl, rfl, rfl, rfl, rfl, trivial⟩ ?_
        exact ih x1 x2 x3 x4 (x5 + (1 : Int32)) q1.2 _ _ h
set_option maxRecDepth 100000 in
theorem t_a_wordOf {S : Nat × (Nat → Int32)} (N : Nat) (x1 : Int32) (x2 : Int32) (M : Mem) (r : Int32) (M' : Mem) (h : f_a_wordOf N x1 x2 M = some (r, M')) : am_Y S 5 0 0 am_M300 0 [(0, .ref 100), (1, .int x1), (2, .int x2)] [] (hp M) (some (.int r)) (hp M') := by
  rw [f_a_wordOf] at h
  refine am_Y.run (k := 6) (pc' := 8) (lv' := [(5, .int (0 : Int32)), (4, .int (0 : Int32)), (3, .int (0 : Int32)), (0, .ref 100), (1, .int x1), (2, .int x2)]) (st' := []) (h' := hp M) rfl ?_
  refine am_Y.weak (lv2 := [(0, .ref 100), (1, .int x1), (2, .int x2), (3, .int (0 : Int32)), (4, .int (0 : Int32)), (5, .int (0 : Int32))]) rfl rfl ⟨rfl, rfl, rfl, rfl, rfl, rfl, trivial⟩ ?_
  exact t_a_wordOf_8 N N x1 x2 (0 : Int32) (0 : Int32) (0 : Int32) M _ _ h
set_option maxRecDepth 100000 in
theorem t_a_cutWord_4 {S : Nat × (Nat → Int32)} (N : Nat) : ∀ (n : Nat) (x1 : Int32) (x2 : Int32) (x3 : Int32) (M : Mem) (r : Int32) (M' : Mem), f_a_cutWord_4 N n x1 x2 x3 M = some (r, M') → am_Y S 6 0 0 am_M270 4 [(0, .ref 100), (1, .int x1), (2, .int x2), (3, .int x3)] [] (hp M) (some (.int r)) (hp M') := by
  intro n
  induction n with
  | zero =>
    intro x1 x2 x3 M r M' h
    cases h
  | succ n ih =>
    intro x1 x2 x3 M r M' h
    rw [f_a_cutWord_4] at h
    refine am_Y.run (k := 2) (pc' := 8) (lv' := [(0, .ref 100), (1, .int x1), (2, .int x2), (3, .int x3)]) (st' := [.int (300 : Int32), .int x3]) (h' := hp M) rfl ?_
    refine am_Y.br (c := (300 : Int32) ≤ x3) _ (t := 31) (u := 11) (lv' := [(0, .ref 100), (1, .int x1), (2, .int x2), (3, .int x3)]) (st' := []) (h' := hp M) rfl (fun hc => ?_) (fun hc => ?_)
    · replace h := (if_pos hc).symm.trans h
      refine am_Y.run (k := 4) (pc' := 35) (lv' := [(0, .ref 100), (1, .int x1), (2, .int x2), (3, .int x3)]) (st' := [.int x2, .int x1, .ref 100, .ref 100]) (h' := hp M) rfl ?_
      obtain ⟨q1, e_q1, h⟩ := Option.bind_eq_some_iff.mp h
      refine am_Y.call0 (M' := am_M300) (as := [.ref 100, .int x1, .int x2]) (rest := [.ref 100]) (d' := 5) rfl (by omega) rfl rfl (t_a_wordOf N x1 x2 M q1.1 q1.2 e_q1) ?_
      refine am_Y.run (k := 2) (pc' := 40) (lv' := [(0, .ref 100), (1, .int x1), (2, .int x2), (3, .int x3)]) (st' := [.int (0 : Int32), .int x1, .int q1.1, .ref 100]) (h' := hp q1.2) rfl ?_
      obtain ⟨q2, e_q2, h⟩ := Option.bind_eq_some_iff.mp h
      refine am_Y.call0 (M' := am_M274) (as := [.ref 100, .int q1.1, .int x1, .int (0 : Int32)]) (rest := []) (d' := 0) rfl (by omega) rfl rfl (t_a_add q1.1 x1 (0 : Int32) q1.2 q2 e_q2) ?_
      refine am_Y.run (k := 1) (pc' := 44) (lv' := [(0, .ref 100), (1, .int x1), (2, .int x2), (3, .int x3)]) (st' := [.int x2]) (h' := hp q2) rfl ?_
      obtain ⟨rfl, rfl⟩ := Prod.mk.inj (Option.some.inj h)
      exact am_Y.ret rfl
    · replace h := (if_neg hc).symm.trans h
      refine am_Y.run (k := 2) (pc' := 13) (lv' := [(0, .ref 100), (1, .int x1), (2, .int x2), (3, .int x3)]) (st' := [.int x2, .ref 100]) (h' := hp M) rfl ?_
      obtain ⟨q3, e_q3, h⟩ := Option.bind_eq_some_iff.mp h
      refine am_Y.call0 (M' := am_M268) (as := [.ref 100, .int x2]) (rest := []) (d' := 0) rfl (by omega) rfl rfl (t_a_byteAt x2 M q3 e_q3) ?_
      refine am_Y.call0 (M' := am_M269) (as := [.int q3]) (rest := []) (d' := 1) rfl (by omega) rfl rfl (t_a_isLetter q3 M _ rfl) ?_
      refine am_Y.br (c := (f_a_isLetter q3 M) = (0 : Int32)) _ (t := 31) (u := 22) (lv' := [(0, .ref 100), (1, .int x1), (2, .int x2), (3, .int x3)]) (st' := []) (h' := hp M) rfl (fun hc => ?_) (fun hc => ?_)
      · replace h := (if_pos hc).symm.trans h
        refine am_Y.run (k := 4) (pc' := 35) (lv' := [(0, .ref 100), (1, .int x1), (2, .int x2), (3, .int x3)]) (st' := [.int x2, .int x1, .ref 100, .ref 100]) (h' := hp M) rfl ?_
        obtain ⟨q4, e_q4, h⟩ := Option.bind_eq_some_iff.mp h
        refine am_Y.call0 (M' := am_M300) (as := [.ref 100, .int x1, .int x2]) (rest := [.ref 100]) (d' := 5) rfl (by omega) rfl rfl (t_a_wordOf N x1 x2 M q4.1 q4.2 e_q4) ?_
        refine am_Y.run (k := 2) (pc' := 40) (lv' := [(0, .ref 100), (1, .int x1), (2, .int x2), (3, .int x3)]) (st' := [.int (0 : Int32), .int x1, .int q4.1, .ref 100]) (h' := hp q4.2) rfl ?_
        obtain ⟨q5, e_q5, h⟩ := Option.bind_eq_some_iff.mp h
        refine am_Y.call0 (M' := am_M274) (as := [.ref 100, .int q4.1, .int x1, .int (0 : Int32)]) (rest := []) (d' := 0) rfl (by omega) rfl rfl (t_a_add q4.1 x1 (0 : Int32) q4.2 q5 e_q5) ?_
        refine am_Y.run (k := 1) (pc' := 44) (lv' := [(0, .ref 100), (1, .int x1), (2, .int x2), (3, .int x3)]) (st' := [.int x2]) (h' := hp q5) rfl ?_
        obtain ⟨rfl, rfl⟩ := Prod.mk.inj (Option.some.inj h)
        exact am_Y.ret rfl
      · replace h := (if_neg hc).symm.trans h
        refine am_Y.run (k := 3) (pc' := 4) (lv' := [(3, .int (x3 + (1 : Int32))), (2, .int (x2 + (1 : Int32))), (0, .ref 100), (1, .int x1)]) (st' := []) (h' := hp M) rfl ?_
        refine am_Y.weak (lv2 := [(0, .ref 100), (1, .int x1), (2, .int (x2 + (1 : Int32))), (3, .int (x3 + (1 : Int32)))]) rfl rfl ⟨rfl, rfl, rfl, rfl, trivial⟩ ?_
        exact ih x1 (x2 + (1 : Int32)) (x3 + (1 : Int32)) M _ _ h
set_option maxRecDepth 100000 in
theorem t_a_cutWord {S : Nat × (Nat → Int32)} (N : Nat) (x1 : Int32) (M : Mem) (r : Int32) (M' : Mem) (h : f_a_cutWord N x1 M = some (r, M')) : am_Y S 6 0 0 am_M270 0 [(0, .ref 100), (1, .int x1)] [] (hp M) (some (.int r)) (hp M') := by
  rw [f_a_cutWord] at h
  refine am_Y.run (k := 4) (pc' := 4) (lv' := [(3, .int (0 : Int32)), (2, .int x1), (0, .ref 100), (1, .int x1)]) (st' := []) (h' := hp M) rfl ?_
  refine am_Y.weak (lv2 := [(0, .ref 100), (1, .int x1), (2, .int x1), (3, .int (0 : Int32))]) rfl rfl ⟨rfl, rfl, rfl, rfl, trivial⟩ ?_
  exact t_a_cutWord_4 N N x1 x1 (0 : Int32) M _ _ h
set_option maxRecDepth 100000 in
theorem t_a_cut_9 {S : Nat × (Nat → Int32)} (N : Nat) : ∀ (n : Nat) (x1 : Int32) (x2 : Int32) (M : Mem) (M' : Mem), f_a_cut_9 N n x1 x2 M = some M' → am_Y S 7 0 0 am_M226 9 [(0, .ref 100), (1, .int x1), (2, .int x2)] [] (hp M) none (hp M') := by
  intro n
  induction n with
  | zero =>
    intro x1 x2 M M' h
    cases h
  | succ n ih =>
    intro x1 x2 M M' h
    rw [f_a_cut_9] at h
    refine am_Y.run (k := 2) (pc' := 13) (lv' := [(0, .ref 100), (1, .int x1), (2, .int x2)]) (st' := [.int (300 : Int32), .int x2]) (h' := hp M) rfl ?_
    refine am_Y.br (c := (300 : Int32) ≤ x2) _ (t := 92) (u := 16) (lv' := [(0, .ref 100), (1, .int x1), (2, .int x2)]) (st' := []) (h' := hp M) rfl (fun hc => ?_) (fun hc => ?_)
    · replace h := (if_pos hc).symm.trans h
      refine am_Y.run (k := 5) (pc' := 100) (lv' := [(0, .ref 100), (1, .int x1), (2, .int x2)]) (st' := [.int (0 : Int32), .int (gi M 100 3), .int (48 : Int32), .ref 100]) (h' := hp M) rfl ?_
      obtain ⟨q2, e_q2, h⟩ := Option.bind_eq_some_iff.mp h
      refine am_Y.call0 (M' := am_M274) (as := [.ref 100, .int (48 : Int32), .int (gi M 100 3), .int (0 : Int32)]) (rest := []) (d' := 0) rfl (by omega) rfl rfl (t_a_add (48 : Int32) (gi M 100 3) (0 : Int32) M q2 e_q2) ?_
      obtain rfl := Option.some.inj h
      exact am_Y.ret rfl
    · replace h := (if_neg hc).symm.trans h
      refine am_Y.run (k := 3) (pc' := 21) (lv' := [(0, .ref 100), (1, .int x1), (2, .int x2)]) (st' := [.int (gi M 100 3), .int x1]) (h' := hp M) rfl ?_
      refine am_Y.br (c := (gi M 100 3) ≤ x1) _ (t := 92) (u := 24) (lv' := [(0, .ref 100), (1, .int x1), (2, .int x2)]) (st' := []) (h' := hp M) rfl (fun hc => ?_) (fun hc => ?_)
      · replace h := (if_pos hc).symm.trans h
        refine am_Y.run (k := 5) (pc' := 100) (lv' := [(0, .ref 100), (1, .int x1), (2, .int x2)]) (st' := [.int (0 : Int32), .int (gi M 100 3), .int (48 : Int32), .ref 100]) (h' := hp M) rfl ?_
        obtain ⟨q3, e_q3, h⟩ := Option.bind_eq_some_iff.mp h
        refine am_Y.call0 (M' := am_M274) (as := [.ref 100, .int (48 : Int32), .int (gi M 100 3), .int (0 : Int32)]) (rest := []) (d' := 0) rfl (by omega) rfl rfl (t_a_add (48 : Int32) (gi M 100 3) (0 : Int32) M q3 e_q3) ?_
        obtain rfl := Option.some.inj h
        exact am_Y.ret rfl
      · replace h := (if_neg hc).symm.trans h
        refine am_Y.run (k := 2) (pc' := 26) (lv' := [(0, .ref 100), (1, .int x1), (2, .int x2)]) (st' := [.int x1, .ref 100]) (h' := hp M) rfl ?_
        obtain ⟨q4, e_q4, h⟩ := Option.bind_eq_some_iff.mp h
        refine am_Y.call0 (M' := am_M268) (as := [.ref 100, .int x1]) (rest := []) (d' := 0) rfl (by omega) rfl rfl (t_a_byteAt x1 M q4 e_q4) ?_
        refine am_Y.run (k := 3) (pc' := 33) (lv' := [(3, .int q4), (0, .ref 100), (1, .int x1), (2, .int x2)]) (st' := [.int (32 : Int32), .int q4]) (h' := hp M) rfl ?_
        refine am_Y.br (c := q4 = (32 : Int32)) _ (t := 42) (u := 36) (lv' := [(3, .int q4), (0, .ref 100), (1, .int x1), (2, .int x2)]) (st' := []) (h' := hp M) rfl (fun hc => ?_) (fun hc => ?_)
        · replace h := (if_pos hc).symm.trans h
          refine am_Y.run (k := 4) (pc' := 9) (lv' := [(2, .int (x2 + (1 : Int32))), (1, .int (x1 + (1 : Int32))), (3, .int q4), (0, .ref 100)]) (st' := []) (h' := hp M) rfl ?_
          refine am_Y.weak (lv2 := [(0, .ref 100), (1, .int (x1 + (1 : Int32))), (2, .int (x2 + (1 : Int32)))]) rfl rfl ⟨rfl, rfl, rfl, trivial⟩ ?_
          exact ih (x1 + (1 : Int32)) (x2 + (1 : Int32)) M _ h
        · replace h := (if_neg hc).symm.trans h
          refine am_Y.run (k := 2) (pc' := 39) (lv' := [(3, .int q4), (0, .ref 100), (1, .int x1), (2, .int x2)]) (st' := [.int (10 : Int32), .int q4]) (h' := hp M) rfl ?_
          refine am_Y.br (c := q4 = (10 : Int32)) _ (t := 42) (u := 48) (lv' := [(3, .int q4), (0, .ref 100), (1, .int x1), (2, .int x2)]) (st' := []) (h' := hp M) rfl (fun hc => ?_) (fun hc => ?_)
          · replace h := (if_pos hc).symm.trans h
            refine am_Y.run (k := 4) (pc' := 9) (lv' := [(2, .int (x2 + (1 : Int32))), (1, .int (x1 + (1 : Int32))), (3, .int q4), (0, .ref 100)]) (st' := []) (h' := hp M) rfl ?_
            refine am_Y.weak (lv2 := [(0, .ref 100), (1, .int (x1 + (1 : Int32))), (2, .int (x2 + (1 : Int32)))]) rfl rfl ⟨rfl, rfl, rfl, trivial⟩ ?_
            exact ih (x1 + (1 : Int32)) (x2 + (1 : Int32)) M _ h
          · replace h := (if_neg hc).symm.trans h
            refine am_Y.run (k := 1) (pc' := 49) (lv' := [(3, .int q4), (0, .ref 100), (1, .int x1), (2, .int x2)]) (st' := [.int q4]) (h' := hp M) rfl ?_
            refine am_Y.call0 (M' := am_M269) (as := [.int q4]) (rest := []) (d' := 1) rfl (by omega) rfl rfl (t_a_isLetter q4 M _ rfl) ?_
            refine am_Y.br (c := (f_a_isLetter q4 M) = (0 : Int32)) _ (t := 64) (u := 55) (lv' := [(3, .int q4), (0, .ref 100), (1, .int x1), (2, .int x2)]) (st' := []) (h' := hp M) rfl (fun hc => ?_) (fun hc => ?_)
            · replace h := (if_pos hc).symm.trans h
              refine am_Y.run (k := 1) (pc' := 65) (lv' := [(3, .int q4), (0, .ref 100), (1, .int x1), (2, .int x2)]) (st' := [.int q4]) (h' := hp M) rfl ?_
              refine am_Y.call0 (M' := am_M271) (as := [.int q4]) (rest := []) (d' := 1) rfl (by omega) rfl rfl (t_a_isDigit q4 M _ rfl) ?_
              refine am_Y.br (c := (f_a_isDigit q4 M) = (0 : Int32)) _ (t := 80) (u := 71) (lv' := [(3, .int q4), (0, .ref 100), (1, .int x1), (2, .int x2)]) (st' := []) (h' := hp M) rfl (fun hc => ?_) (fun hc => ?_)
              · replace h := (if_pos hc).symm.trans h
                refine am_Y.run (k := 2) (pc' := 82) (lv' := [(3, .int q4), (0, .ref 100), (1, .int x1), (2, .int x2)]) (st' := [.int x1, .ref 100]) (h' := hp M) rfl ?_
                obtain ⟨q5, e_q5, h⟩ := Option.bind_eq_some_iff.mp h
                refine am_Y.call0 (M' := am_M273) (as := [.ref 100, .int x1]) (rest := []) (d' := 4) rfl (by omega) rfl rfl (t_a_cutSign N x1 M q5.1 q5.2 e_q5) ?_
                refine am_Y.run (k := 3) (pc' := 9) (lv' := [(2, .int (x2 + (1 : Int32))), (1, .int q5.1), (3, .int q4), (0, .ref 100)]) (st' := []) (h' := hp q5.2) rfl ?_
                refine am_Y.weak (lv2 := [(0, .ref 100), (1, .int q5.1), (2, .int (x2 + (1 : Int32)))]) rfl rfl ⟨rfl, rfl, rfl, trivial⟩ ?_
                exact ih q5.1 (x2 + (1 : Int32)) q5.2 _ h
              · replace h := (if_neg hc).symm.trans h
                refine am_Y.run (k := 2) (pc' := 73) (lv' := [(3, .int q4), (0, .ref 100), (1, .int x1), (2, .int x2)]) (st' := [.int x1, .ref 100]) (h' := hp M) rfl ?_
                obtain ⟨q6, e_q6, h⟩ := Option.bind_eq_some_iff.mp h
                refine am_Y.call0 (M' := am_M272) (as := [.ref 100, .int x1]) (rest := []) (d' := 2) rfl (by omega) rfl rfl (t_a_cutNumber N x1 M q6.1 q6.2 e_q6) ?_
                refine am_Y.run (k := 4) (pc' := 9) (lv' := [(2, .int (x2 + (1 : Int32))), (1, .int q6.1), (3, .int q4), (0, .ref 100)]) (st' := []) (h' := hp q6.2) rfl ?_
                refine am_Y.weak (lv2 := [(0, .ref 100), (1, .int q6.1), (2, .int (x2 + (1 : Int32)))]) rfl rfl ⟨rfl, rfl, rfl, trivial⟩ ?_
                exact ih q6.1 (x2 + (1 : Int32)) q6.2 _ h
            · replace h := (if_neg hc).symm.trans h
              refine am_Y.run (k := 2) (pc' := 57) (lv' := [(3, .int q4), (0, .ref 100), (1, .int x1), (2, .int x2)]) (st' := [.int x1, .ref 100]) (h' := hp M) rfl ?_
              obtain ⟨q7, e_q7, h⟩ := Option.bind_eq_some_iff.mp h
              refine am_Y.call0 (M' := am_M270) (as := [.ref 100, .int x1]) (rest := []) (d' := 6) rfl (by omega) rfl rfl (t_a_cutWord N x1 M q7.1 q7.2 e_q7) ?_
              refine am_Y.run (k := 4) (pc' := 9) (lv' := [(2, .int (x2 + (1 : Int32))), (1, .int q7.1), (3, .int q4), (0, .ref 100)]) (st' := []) (h' := hp q7.2) rfl ?_
              refine am_Y.weak (lv2 := [(0, .ref 100), (1, .int q7.1), (2, .int (x2 + (1 : Int32)))]) rfl rfl ⟨rfl, rfl, rfl, trivial⟩ ?_
              exact ih q7.1 (x2 + (1 : Int32)) q7.2 _ h
set_option maxRecDepth 100000 in
theorem t_a_cut {S : Nat × (Nat → Int32)} (N : Nat) (M : Mem) (M' : Mem) (h : f_a_cut N M = some M') : am_Y S 7 0 0 am_M226 0 [(0, .ref 100)] [] (hp M) none (hp M') := by
  rw [f_a_cut] at h
  refine am_Y.run (k := 3) (pc' := 5) (lv' := [(0, .ref 100)]) (st' := []) (h' := hp (si M 100 2 (0 : Int32))) rfl ?_
  obtain ⟨q1, e_q1, h⟩ := Option.bind_eq_some_iff.mp h
  rw [Option.some.inj e_q1]
  refine am_Y.run (k := 4) (pc' := 9) (lv' := [(2, .int (0 : Int32)), (1, .int (0 : Int32)), (0, .ref 100)]) (st' := []) (h' := hp q1) rfl ?_
  refine am_Y.weak (lv2 := [(0, .ref 100), (1, .int (0 : Int32)), (2, .int (0 : Int32))]) rfl rfl ⟨rfl, rfl, rfl, trivial⟩ ?_
  exact t_a_cut_9 N N (0 : Int32) (0 : Int32) q1 _ h
