/-! AM does what the functions say. -/
set_option maxRecDepth 100000 in
theorem t_m_isPlayed {S : Nat × (Nat → Int32)} (N : Nat) (x1 : Int32) (M : Mem) (r : Int32) (M' : Mem) (h : f_m_isPlayed N x1 M = some (r, M')) : am_Y S 7 0 0 am_M134 0 [(0, .ref 129), (1, .int x1)] [] (hp M) (some (.int r)) (hp M') := by
  rw [f_m_isPlayed] at h
  refine am_Y.run (k := 5) (pc' := 7) (lv' := [(0, .ref 129), (1, .int x1)]) (st' := [.int (x1 + (1 : Int32)), .ref 132]) (h' := hp M) rfl ?_
  obtain ⟨g, h⟩ := am_itg h
  refine am_Y.iald (a := 127) (n := 2820) rfl rfl g ?_
  refine am_Y.run (k := 4) (pc' := 14) (lv' := [(2, .int (gi M 132 ((x1 + (1 : Int32))).toNatClampNeg)), (0, .ref 129), (1, .int x1)]) (st' := [.int x1, .ref 132]) (h' := hp M) rfl ?_
  obtain ⟨g, h⟩ := am_itg h
  refine am_Y.iald (a := 127) (n := 2820) rfl rfl g ?_
  by_cases hc3 : (gi M 132 (x1).toNatClampNeg) = (3 : Int32)
  · replace h := (if_pos hc3).symm.trans h
    refine am_Y.one (pc' := 64) (lv' := [(2, .int (gi M 132 ((x1 + (1 : Int32))).toNatClampNeg)), (0, .ref 129), (1, .int x1)]) (st' := []) (h' := hp M) (am_swc hc3 rfl) ?_
    refine am_Y.run (k := 7) (pc' := 73) (lv' := [(2, .int (gi M 132 ((x1 + (1 : Int32))).toNatClampNeg)), (0, .ref 129), (1, .int x1)]) (st' := [.int (x1 + (2 : Int32)), .ref 132, .int (gi M 132 ((x1 + (1 : Int32))).toNatClampNeg), .ref 129]) (h' := hp M) rfl ?_
    obtain ⟨g, h⟩ := am_itg h
    refine am_Y.iald (a := 127) (n := 2820) rfl rfl g ?_
    refine am_Y.run (k := 1) (pc' := 75) (lv' := [(2, .int (gi M 132 ((x1 + (1 : Int32))).toNatClampNeg)), (0, .ref 129), (1, .int x1)]) (st' := [.int (-1 : Int32), .int (gi M 132 ((x1 + (2 : Int32))).toNatClampNeg), .int (gi M 132 ((x1 + (1 : Int32))).toNatClampNeg), .ref 129]) (h' := hp M) rfl ?_
    obtain ⟨q1, e_q1, h⟩ := Option.bind_eq_some_iff.mp h
    refine am_Y.call0 (M' := am_M3) (as := [.ref 129, .int (gi M 132 ((x1 + (1 : Int32))).toNatClampNeg), .int (gi M 132 ((x1 + (2 : Int32))).toNatClampNeg), .int (-1 : Int32)]) (rest := []) (d' := 2) rfl (by omega) rfl rfl (t_m_guest (gi M 132 ((x1 + (1 : Int32))).toNatClampNeg) (gi M 132 ((x1 + (2 : Int32))).toNatClampNeg) (-1 : Int32) M q1.1 q1.2 e_q1) ?_
    refine am_Y.br (c := q1.1 < (0 : Int32)) _ (t := 85) (u := 81) (lv' := [(2, .int (gi M 132 ((x1 + (1 : Int32))).toNatClampNeg)), (0, .ref 129), (1, .int x1)]) (st' := []) (h' := hp q1.2) rfl (fun hc => ?_) (fun hc => ?_)
    · replace h := (if_pos hc).symm.trans h
      refine am_Y.run (k := 1) (pc' := 86) (lv' := [(2, .int (gi M 132 ((x1 + (1 : Int32))).toNatClampNeg)), (0, .ref 129), (1, .int x1)]) (st' := [.int (0 : Int32)]) (h' := hp q1.2) rfl ?_
      obtain ⟨rfl, rfl⟩ := Prod.mk.inj (Option.some.inj h)
      exact am_Y.ret rfl
    · replace h := (if_neg hc).symm.trans h
      refine am_Y.run (k := 2) (pc' := 86) (lv' := [(2, .int (gi M 132 ((x1 + (1 : Int32))).toNatClampNeg)), (0, .ref 129), (1, .int x1)]) (st' := [.int (1 : Int32)]) (h' := hp q1.2) rfl ?_
      obtain ⟨rfl, rfl⟩ := Prod.mk.inj (Option.some.inj h)
      exact am_Y.ret rfl
  replace h := (if_neg hc3).symm.trans h
  by_cases hc4 : (gi M 132 (x1).toNatClampNeg) = (4 : Int32)
  · replace h := (if_pos hc4).symm.trans h
    refine am_Y.one (pc' := 87) (lv' := [(2, .int (gi M 132 ((x1 + (1 : Int32))).toNatClampNeg)), (0, .ref 129), (1, .int x1)]) (st' := []) (h' := hp M) (am_swc hc4 rfl) ?_
    refine am_Y.run (k := 3) (pc' := 90) (lv' := [(2, .int (gi M 132 ((x1 + (1 : Int32))).toNatClampNeg)), (0, .ref 129), (1, .int x1)]) (st' := [.int (0 : Int32), .int (gi M 132 ((x1 + (1 : Int32))).toNatClampNeg), .ref 129]) (h' := hp M) rfl ?_
    obtain ⟨q2, e_q2, h⟩ := Option.bind_eq_some_iff.mp h
    refine am_Y.call0 (M' := am_M15) (as := [.ref 129, .int (gi M 132 ((x1 + (1 : Int32))).toNatClampNeg), .int (0 : Int32)]) (rest := []) (d' := 6) rfl (by omega) rfl rfl (t_m_say N (gi M 132 ((x1 + (1 : Int32))).toNatClampNeg) (0 : Int32) M q2.1 q2.2 e_q2) ?_
    refine am_Y.run (k := 1) (pc' := 95) (lv' := [(2, .int (gi M 132 ((x1 + (1 : Int32))).toNatClampNeg)), (0, .ref 129), (1, .int x1)]) (st' := [.int (-2 : Int32), .int q2.1]) (h' := hp q2.2) rfl ?_
    refine am_Y.br (c := q2.1 = (-2 : Int32)) _ (t := 102) (u := 98) (lv' := [(2, .int (gi M 132 ((x1 + (1 : Int32))).toNatClampNeg)), (0, .ref 129), (1, .int x1)]) (st' := []) (h' := hp q2.2) rfl (fun hc => ?_) (fun hc => ?_)
    · replace h := (if_pos hc).symm.trans h
      refine am_Y.run (k := 1) (pc' := 103) (lv' := [(2, .int (gi M 132 ((x1 + (1 : Int32))).toNatClampNeg)), (0, .ref 129), (1, .int x1)]) (st' := [.int (0 : Int32)]) (h' := hp q2.2) rfl ?_
      obtain ⟨rfl, rfl⟩ := Prod.mk.inj (Option.some.inj h)
      exact am_Y.ret rfl
    · replace h := (if_neg hc).symm.trans h
      refine am_Y.run (k := 2) (pc' := 103) (lv' := [(2, .int (gi M 132 ((x1 + (1 : Int32))).toNatClampNeg)), (0, .ref 129), (1, .int x1)]) (st' := [.int (1 : Int32)]) (h' := hp q2.2) rfl ?_
      obtain ⟨rfl, rfl⟩ := Prod.mk.inj (Option.some.inj h)
      exact am_Y.ret rfl
  replace h := (if_neg hc4).symm.trans h
  by_cases hc5 : (gi M 132 (x1).toNatClampNeg) = (5 : Int32)
  · replace h := (if_pos hc5).symm.trans h
    refine am_Y.one (pc' := 104) (lv' := [(2, .int (gi M 132 ((x1 + (1 : Int32))).toNatClampNeg)), (0, .ref 129), (1, .int x1)]) (st' := []) (h' := hp M) (am_swc hc5 rfl) ?_
    refine am_Y.run (k := 3) (pc' := 107) (lv' := [(2, .int (gi M 132 ((x1 + (1 : Int32))).toNatClampNeg)), (0, .ref 129), (1, .int x1)]) (st' := [.int (1 : Int32), .int (gi M 132 ((x1 + (1 : Int32))).toNatClampNeg), .ref 129]) (h' := hp M) rfl ?_
    obtain ⟨q3, e_q3, h⟩ := Option.bind_eq_some_iff.mp h
    refine am_Y.call0 (M' := am_M15) (as := [.ref 129, .int (gi M 132 ((x1 + (1 : Int32))).toNatClampNeg), .int (1 : Int32)]) (rest := []) (d' := 6) rfl (by omega) rfl rfl (t_m_say N (gi M 132 ((x1 + (1 : Int32))).toNatClampNeg) (1 : Int32) M q3.1 q3.2 e_q3) ?_
    refine am_Y.run (k := 1) (pc' := 112) (lv' := [(2, .int (gi M 132 ((x1 + (1 : Int32))).toNatClampNeg)), (0, .ref 129), (1, .int x1)]) (st' := [.int (-2 : Int32), .int q3.1]) (h' := hp q3.2) rfl ?_
    refine am_Y.br (c := q3.1 = (-2 : Int32)) _ (t := 119) (u := 115) (lv' := [(2, .int (gi M 132 ((x1 + (1 : Int32))).toNatClampNeg)), (0, .ref 129), (1, .int x1)]) (st' := []) (h' := hp q3.2) rfl (fun hc => ?_) (fun hc => ?_)
    · replace h := (if_pos hc).symm.trans h
      refine am_Y.run (k := 1) (pc' := 120) (lv' := [(2, .int (gi M 132 ((x1 + (1 : Int32))).toNatClampNeg)), (0, .ref 129), (1, .int x1)]) (st' := [.int (0 : Int32)]) (h' := hp q3.2) rfl ?_
      obtain ⟨rfl, rfl⟩ := Prod.mk.inj (Option.some.inj h)
      exact am_Y.ret rfl
    · replace h := (if_neg hc).symm.trans h
      refine am_Y.run (k := 2) (pc' := 120) (lv' := [(2, .int (gi M 132 ((x1 + (1 : Int32))).toNatClampNeg)), (0, .ref 129), (1, .int x1)]) (st' := [.int (1 : Int32)]) (h' := hp q3.2) rfl ?_
      obtain ⟨rfl, rfl⟩ := Prod.mk.inj (Option.some.inj h)
      exact am_Y.ret rfl
  replace h := (if_neg hc5).symm.trans h
  by_cases hc6 : (gi M 132 (x1).toNatClampNeg) = (6 : Int32)
  · replace h := (if_pos hc6).symm.trans h
    refine am_Y.one (pc' := 121) (lv' := [(2, .int (gi M 132 ((x1 + (1 : Int32))).toNatClampNeg)), (0, .ref 129), (1, .int x1)]) (st' := []) (h' := hp M) (am_swc hc6 rfl) ?_
    refine am_Y.run (k := 3) (pc' := 124) (lv' := [(2, .int (gi M 132 ((x1 + (1 : Int32))).toNatClampNeg)), (0, .ref 129), (1, .int x1)]) (st' := [.int (2 : Int32), .int (gi M 132 ((x1 + (1 : Int32))).toNatClampNeg), .ref 129]) (h' := hp M) rfl ?_
    obtain ⟨q4, e_q4, h⟩ := Option.bind_eq_some_iff.mp h
    refine am_Y.call0 (M' := am_M15) (as := [.ref 129, .int (gi M 132 ((x1 + (1 : Int32))).toNatClampNeg), .int (2 : Int32)]) (rest := []) (d' := 6) rfl (by omega) rfl rfl (t_m_say N (gi M 132 ((x1 + (1 : Int32))).toNatClampNeg) (2 : Int32) M q4.1 q4.2 e_q4) ?_
    refine am_Y.run (k := 1) (pc' := 129) (lv' := [(2, .int (gi M 132 ((x1 + (1 : Int32))).toNatClampNeg)), (0, .ref 129), (1, .int x1)]) (st' := [.int (-2 : Int32), .int q4.1]) (h' := hp q4.2) rfl ?_
    refine am_Y.br (c := q4.1 = (-2 : Int32)) _ (t := 136) (u := 132) (lv' := [(2, .int (gi M 132 ((x1 + (1 : Int32))).toNatClampNeg)), (0, .ref 129), (1, .int x1)]) (st' := []) (h' := hp q4.2) rfl (fun hc => ?_) (fun hc => ?_)
    · replace h := (if_pos hc).symm.trans h
      refine am_Y.run (k := 1) (pc' := 137) (lv' := [(2, .int (gi M 132 ((x1 + (1 : Int32))).toNatClampNeg)), (0, .ref 129), (1, .int x1)]) (st' := [.int (0 : Int32)]) (h' := hp q4.2) rfl ?_
      obtain ⟨rfl, rfl⟩ := Prod.mk.inj (Option.some.inj h)
      exact am_Y.ret rfl
    · replace h := (if_neg hc).symm.trans h
      refine am_Y.run (k := 2) (pc' := 137) (lv' := [(2, .int (gi M 132 ((x1 + (1 : Int32))).toNatClampNeg)), (0, .ref 129), (1, .int x1)]) (st' := [.int (1 : Int32)]) (h' := hp q4.2) rfl ?_
      obtain ⟨rfl, rfl⟩ := Prod.mk.inj (Option.some.inj h)
      exact am_Y.ret rfl
  replace h := (if_neg hc6).symm.trans h
  by_cases hc7 : (gi M 132 (x1).toNatClampNeg) = (7 : Int32)
  · replace h := (if_pos hc7).symm.trans h
    refine am_Y.one (pc' := 138) (lv' := [(2, .int (gi M 132 ((x1 + (1 : Int32))).toNatClampNeg)), (0, .ref 129), (1, .int x1)]) (st' := []) (h' := hp M) (am_swc hc7 rfl) ?_
    refine am_Y.run (k := 3) (pc' := 141) (lv' := [(2, .int (gi M 132 ((x1 + (1 : Int32))).toNatClampNeg)), (0, .ref 129), (1, .int x1)]) (st' := [.int (3 : Int32), .int (gi M 132 ((x1 + (1 : Int32))).toNatClampNeg), .ref 129]) (h' := hp M) rfl ?_
    obtain ⟨q5, e_q5, h⟩ := Option.bind_eq_some_iff.mp h
    refine am_Y.call0 (M' := am_M15) (as := [.ref 129, .int (gi M 132 ((x1 + (1 : Int32))).toNatClampNeg), .int (3 : Int32)]) (rest := []) (d' := 6) rfl (by omega) rfl rfl (t_m_say N (gi M 132 ((x1 + (1 : Int32))).toNatClampNeg) (3 : Int32) M q5.1 q5.2 e_q5) ?_
    refine am_Y.run (k := 1) (pc' := 146) (lv' := [(2, .int (gi M 132 ((x1 + (1 : Int32))).toNatClampNeg)), (0, .ref 129), (1, .int x1)]) (st' := [.int (-2 : Int32), .int q5.1]) (h' := hp q5.2) rfl ?_
    refine am_Y.br (c := q5.1 = (-2 : Int32)) _ (t := 153) (u := 149) (lv' := [(2, .int (gi M 132 ((x1 + (1 : Int32))).toNatClampNeg)), (0, .ref 129), (1, .int x1)]) (st' := []) (h' := hp q5.2) rfl (fun hc => ?_) (fun hc => ?_)
    · replace h := (if_pos hc).symm.trans h
      refine am_Y.run (k := 1) (pc' := 154) (lv' := [(2, .int (gi M 132 ((x1 + (1 : Int32))).toNatClampNeg)), (0, .ref 129), (1, .int x1)]) (st' := [.int (0 : Int32)]) (h' := hp q5.2) rfl ?_
      obtain ⟨rfl, rfl⟩ := Prod.mk.inj (Option.some.inj h)
      exact am_Y.ret rfl
    · replace h := (if_neg hc).symm.trans h
      refine am_Y.run (k := 2) (pc' := 154) (lv' := [(2, .int (gi M 132 ((x1 + (1 : Int32))).toNatClampNeg)), (0, .ref 129), (1, .int x1)]) (st' := [.int (1 : Int32)]) (h' := hp q5.2) rfl ?_
      obtain ⟨rfl, rfl⟩ := Prod.mk.inj (Option.some.inj h)
      exact am_Y.ret rfl
  replace h := (if_neg hc7).symm.trans h
  by_cases hc8 : (gi M 132 (x1).toNatClampNeg) = (8 : Int32)
  · replace h := (if_pos hc8).symm.trans h
    refine am_Y.one (pc' := 155) (lv' := [(2, .int (gi M 132 ((x1 + (1 : Int32))).toNatClampNeg)), (0, .ref 129), (1, .int x1)]) (st' := []) (h' := hp M) (am_swc hc8 rfl) ?_
    refine am_Y.run (k := 1) (pc' := 156) (lv' := [(2, .int (gi M 132 ((x1 + (1 : Int32))).toNatClampNeg)), (0, .ref 129), (1, .int x1)]) (st' := [.ref 129]) (h' := hp M) rfl ?_
    obtain ⟨q6, e_q6, h⟩ := Option.bind_eq_some_iff.mp h
    refine am_Y.call0 (M' := am_M17) (as := [.ref 129]) (rest := []) (d' := 2) rfl (by omega) rfl rfl (t_m_ask N M q6.1 q6.2 e_q6) ?_
    obtain ⟨g, h⟩ := am_itg h
    obtain ⟨rfl, rfl⟩ := Prod.mk.inj (Option.some.inj h)
    exact am_Y.ret (by rcases g with e | e <;> (rw [e]; rfl))
  replace h := (if_neg hc8).symm.trans h
  by_cases hc9 : (gi M 132 (x1).toNatClampNeg) = (9 : Int32)
  · replace h := (if_pos hc9).symm.trans h
    refine am_Y.one (pc' := 160) (lv' := [(2, .int (gi M 132 ((x1 + (1 : Int32))).toNatClampNeg)), (0, .ref 129), (1, .int x1)]) (st' := []) (h' := hp M) (am_swc hc9 rfl) ?_
    refine am_Y.run (k := 2) (pc' := 162) (lv' := [(2, .int (gi M 132 ((x1 + (1 : Int32))).toNatClampNeg)), (0, .ref 129), (1, .int x1)]) (st' := [.int (gi M 132 ((x1 + (1 : Int32))).toNatClampNeg), .ref 129]) (h' := hp M) rfl ?_
    obtain ⟨q7, e_q7, h⟩ := Option.bind_eq_some_iff.mp h
    refine am_Y.call0 (M' := am_M125) (as := [.ref 129, .int (gi M 132 ((x1 + (1 : Int32))).toNatClampNeg)]) (rest := []) (d' := 2) rfl (by omega) rfl rfl (t_m_arePassed N (gi M 132 ((x1 + (1 : Int32))).toNatClampNeg) M q7.1 q7.2 e_q7) ?_
    obtain ⟨g, h⟩ := am_itg h
    obtain ⟨rfl, rfl⟩ := Prod.mk.inj (Option.some.inj h)
    exact am_Y.ret (by rcases g with e | e <;> (rw [e]; rfl))
  replace h := (if_neg hc9).symm.trans h
  by_cases hc10 : (gi M 132 (x1).toNatClampNeg) = (10 : Int32)
  · replace h := (if_pos hc10).symm.trans h
    refine am_Y.one (pc' := 166) (lv' := [(2, .int (gi M 132 ((x1 + (1 : Int32))).toNatClampNeg)), (0, .ref 129), (1, .int x1)]) (st' := []) (h' := hp M) (am_swc hc10 rfl) ?_
    refine am_Y.run (k := 2) (pc' := 168) (lv' := [(2, .int (gi M 132 ((x1 + (1 : Int32))).toNatClampNeg)), (0, .ref 129), (1, .int x1)]) (st' := [.int (gi M 132 ((x1 + (1 : Int32))).toNatClampNeg), .ref 129]) (h' := hp M) rfl ?_
    obtain ⟨q8, e_q8, h⟩ := Option.bind_eq_some_iff.mp h
    refine am_Y.call0 (M' := am_M21) (as := [.ref 129, .int (gi M 132 ((x1 + (1 : Int32))).toNatClampNeg)]) (rest := []) (d' := 2) rfl (by omega) rfl rfl (t_m_send N (gi M 132 ((x1 + (1 : Int32))).toNatClampNeg) M q8.1 q8.2 e_q8) ?_
    obtain ⟨g, h⟩ := am_itg h
    obtain ⟨rfl, rfl⟩ := Prod.mk.inj (Option.some.inj h)
    exact am_Y.ret (by rcases g with e | e <;> (rw [e]; rfl))
  replace h := (if_neg hc10).symm.trans h
  by_cases hc11 : (gi M 132 (x1).toNatClampNeg) = (11 : Int32)
  · replace h := (if_pos hc11).symm.trans h
    refine am_Y.one (pc' := 172) (lv' := [(2, .int (gi M 132 ((x1 + (1 : Int32))).toNatClampNeg)), (0, .ref 129), (1, .int x1)]) (st' := []) (h' := hp M) (am_swc hc11 rfl) ?_
    refine am_Y.run (k := 1) (pc' := 173) (lv' := [(2, .int (gi M 132 ((x1 + (1 : Int32))).toNatClampNeg)), (0, .ref 129), (1, .int x1)]) (st' := [.ref 129]) (h' := hp M) rfl ?_
    obtain ⟨q9, e_q9, h⟩ := Option.bind_eq_some_iff.mp h
    refine am_Y.call0 (M' := am_M23) (as := [.ref 129]) (rest := []) (d' := 6) rfl (by omega) rfl rfl (t_m_dinner N M q9.1 q9.2 e_q9) ?_
    refine am_Y.br (c := q9.1 < (0 : Int32)) _ (t := 183) (u := 179) (lv' := [(2, .int (gi M 132 ((x1 + (1 : Int32))).toNatClampNeg)), (0, .ref 129), (1, .int x1)]) (st' := []) (h' := hp q9.2) rfl (fun hc => ?_) (fun hc => ?_)
    · replace h := (if_pos hc).symm.trans h
      refine am_Y.run (k := 1) (pc' := 184) (lv' := [(2, .int (gi M 132 ((x1 + (1 : Int32))).toNatClampNeg)), (0, .ref 129), (1, .int x1)]) (st' := [.int (0 : Int32)]) (h' := hp q9.2) rfl ?_
      obtain ⟨rfl, rfl⟩ := Prod.mk.inj (Option.some.inj h)
      exact am_Y.ret rfl
    · replace h := (if_neg hc).symm.trans h
      refine am_Y.run (k := 2) (pc' := 184) (lv' := [(2, .int (gi M 132 ((x1 + (1 : Int32))).toNatClampNeg)), (0, .ref 129), (1, .int x1)]) (st' := [.int (1 : Int32)]) (h' := hp q9.2) rfl ?_
      obtain ⟨rfl, rfl⟩ := Prod.mk.inj (Option.some.inj h)
      exact am_Y.ret rfl
  replace h := (if_neg hc11).symm.trans h
  refine am_Y.one (pc' := 185) (lv' := [(2, .int (gi M 132 ((x1 + (1 : Int32))).toNatClampNeg)), (0, .ref 129), (1, .int x1)]) (st' := []) (h' := hp M) (am_swd (x := (gi M 132 (x1).toNatClampNeg)) rfl (by have := am_neT (3) hc3 (by decide); have := am_neT (4) hc4 (by decide); have := am_neT (5) hc5 (by decide); have := am_neT (6) hc6 (by decide); have := am_neT (7) hc7 (by decide); have := am_neT (8) hc8 (by decide); have := am_neT (9) hc9 (by decide); have := am_neT (10) hc10 (by decide); have := am_neT (11) hc11 (by decide); omega) rfl) ?_
  refine am_Y.run (k := 1) (pc' := 186) (lv' := [(2, .int (gi M 132 ((x1 + (1 : Int32))).toNatClampNeg)), (0, .ref 129), (1, .int x1)]) (st' := [.int (1 : Int32)]) (h' := hp M) rfl ?_
  obtain ⟨rfl, rfl⟩ := Prod.mk.inj (Option.some.inj h)
  exact am_Y.ret rfl
set_option maxRecDepth 100000 in
theorem t_m_played_21 {S : Nat × (Nat → Int32)} (N : Nat) : ∀ (n : Nat) (x1 : Int32) (x2 : Int32) (M : Mem) (r : Int32) (M' : Mem), f_m_played_21 N n x1 x2 M = some (r, M') → am_Y S 8 0 0 am_M25 21 [(0, .ref 129), (1, .int x1), (2, .int x2)] [] (hp M) (some (.int r)) (hp M') := by
  intro n
  induction n with
  | zero =>
    intro x1 x2 M r M' h
    cases h
  | succ n ih =>
    intro x1 x2 M r M' h
    rw [f_m_played_21] at h
    refine am_Y.run (k := 6) (pc' := 31) (lv' := [(0, .ref 129), (1, .int x1), (2, .int x2)]) (st' := [.int ((705 : Int32) * x1), .ref 132, .int x2]) (h' := hp M) rfl ?_
    obtain ⟨g, h⟩ := am_itg h
    refine am_Y.iald (a := 127) (n := 2820) rfl rfl g ?_
    refine am_Y.br (c := (gi M 132 (((705 : Int32) * x1)).toNatClampNeg) ≤ x2) _ (t := 61) (u := 35) (lv' := [(0, .ref 129), (1, .int x1), (2, .int x2)]) (st' := []) (h' := hp M) rfl (fun hc => ?_) (fun hc => ?_)
    · replace h := (if_pos hc).symm.trans h
      refine am_Y.run (k := 1) (pc' := 62) (lv' := [(0, .ref 129), (1, .int x1), (2, .int x2)]) (st' := [.int (-1 : Int32)]) (h' := hp M) rfl ?_
      obtain ⟨rfl, rfl⟩ := Prod.mk.inj (Option.some.inj h)
      exact am_Y.ret rfl
    · replace h := (if_neg hc).symm.trans h
      refine am_Y.run (k := 10) (pc' := 47) (lv' := [(0, .ref 129), (1, .int x1), (2, .int x2)]) (st' := [.int ((((705 : Int32) * x1) + (1 : Int32)) + ((4 : Int32) * x2)), .ref 129]) (h' := hp M) rfl ?_
      obtain ⟨q1, e_q1, h⟩ := Option.bind_eq_some_iff.mp h
      refine am_Y.call0 (M' := am_M134) (as := [.ref 129, .int ((((705 : Int32) * x1) + (1 : Int32)) + ((4 : Int32) * x2))]) (rest := []) (d' := 7) rfl (by omega) rfl rfl (t_m_isPlayed N ((((705 : Int32) * x1) + (1 : Int32)) + ((4 : Int32) * x2)) M q1.1 q1.2 e_q1) ?_
      refine am_Y.br (c := q1.1 = (0 : Int32)) _ (t := 53) (u := 55) (lv' := [(0, .ref 129), (1, .int x1), (2, .int x2)]) (st' := []) (h' := hp q1.2) rfl (fun hc => ?_) (fun hc => ?_)
      · replace h := (if_pos hc).symm.trans h
        refine am_Y.run (k := 1) (pc' := 54) (lv' := [(0, .ref 129), (1, .int x1), (2, .int x2)]) (st' := [.int x2]) (h' := hp q1.2) rfl ?_
        obtain ⟨rfl, rfl⟩ := Prod.mk.inj (Option.some.inj h)
        exact am_Y.ret rfl
      · replace h := (if_neg hc).symm.trans h
        refine am_Y.run (k := 2) (pc' := 21) (lv' := [(2, .int (x2 + (1 : Int32))), (0, .ref 129), (1, .int x1)]) (st' := []) (h' := hp q1.2) rfl ?_
        refine am_Y.weak (lv2 := [(0, .ref 129), (1, .int x1), (2, .int (x2 + (1 : Int32)))]) rfl rfl ⟨rfl, rfl, rfl, trivial⟩ ?_
        exact ih x1 (x2 + (1 : Int32)) q1.2 _ _ h
set_option maxRecDepth 100000 in
theorem t_m_played {S : Nat × (Nat → Int32)} (N : Nat) (x1 : Int32) (M : Mem) (r : Int32) (M' : Mem) (h : f_m_played N x1 M = some (r, M')) : am_Y S 8 0 0 am_M25 0 [(0, .ref 129), (1, .int x1)] [] (hp M) (some (.int r)) (hp M') := by
  rw [f_m_played] at h
  refine am_Y.run (k := 8) (pc' := 10) (lv' := [(0, .ref 129), (1, .int x1)]) (st' := [.int ((gi M 130 5) - (1 : Int32)), .int (0 : Int32), .int x1]) (h' := hp M) rfl ?_
  refine am_Y.call0 (M' := am_M104) (as := [.int x1, .int (0 : Int32), .int ((gi M 130 5) - (1 : Int32))]) (rest := []) (d' := 0) rfl (by omega) rfl rfl (t_m_isIn x1 (0 : Int32) ((gi M 130 5) - (1 : Int32)) M _ rfl) ?_
  refine am_Y.br (c := (f_m_isIn x1 (0 : Int32) ((gi M 130 5) - (1 : Int32)) M) = (0 : Int32)) _ (t := 16) (u := 19) (lv' := [(0, .ref 129), (1, .int x1)]) (st' := []) (h' := hp M) rfl (fun hc => ?_) (fun hc => ?_)
  · replace h := (if_pos hc).symm.trans h
    refine am_Y.run (k := 1) (pc' := 18) (lv' := [(0, .ref 129), (1, .int x1)]) (st' := [.int (-2 : Int32)]) (h' := hp M) rfl ?_
    obtain ⟨rfl, rfl⟩ := Prod.mk.inj (Option.some.inj h)
    exact am_Y.ret rfl
  · replace h := (if_neg hc).symm.trans h
    refine am_Y.run (k := 2) (pc' := 21) (lv' := [(2, .int (0 : Int32)), (0, .ref 129), (1, .int x1)]) (st' := []) (h' := hp M) rfl ?_
    refine am_Y.weak (lv2 := [(0, .ref 129), (1, .int x1), (2, .int (0 : Int32))]) rfl rfl ⟨rfl, rfl, rfl, trivial⟩ ?_
    exact t_m_played_21 N N x1 (0 : Int32) M _ _ h
set_option maxRecDepth 100000 in
theorem t_e_setDraw {S : Nat × (Nat → Int32)} (x1 : Int32) (M : Mem) (M' : Mem) (h : f_e_setDraw x1 M = some M') : am_Y S 0 0 0 am_M135 0 [(0, .ref 11), (1, .int x1)] [] (hp M) none (hp M') := by
  rw [f_e_setDraw] at h
  refine am_Y.run (k := 5) (pc' := 7) (lv' := [(0, .ref 11), (1, .int x1)]) (st' := []) (h' := hp (si M 12 2 x1)) rfl ?_
  obtain ⟨q1, e_q1, h⟩ := Option.bind_eq_some_iff.mp h
  rw [Option.some.inj e_q1]
  obtain rfl := Option.some.inj h
  exact am_Y.ret rfl
set_option maxRecDepth 100000 in
theorem t_e_draw {S : Nat × (Nat → Int32)} (M : Mem) (r : Int32) (h : f_e_draw M = r) : am_Y S 0 0 0 am_M136 0 [(0, .ref 11)] [] (hp M) (some (.int r)) (hp M) := by
  rw [f_e_draw] at h
  refine am_Y.run (k := 4) (pc' := 6) (lv' := [(0, .ref 11)]) (st' := [.int (gi M 12 2)]) (h' := hp M) rfl ?_
  subst h
  exact am_Y.ret rfl
set_option maxRecDepth 100000 in
theorem t_w_drawOne {S : Nat × (Nat → Int32)} (N : Nat) (x1 : Int32) (M : Mem) (r : Int32) (M' : Mem) (h : f_w_drawOne N x1 M = some (r, M')) : am_Y S 6 0 0 am_M137 0 [(0, .ref 5), (1, .int x1)] [] (hp M) (some (.int r)) (hp M') := by
  rw [f_w_drawOne] at h
  refine am_Y.run (k := 10) (pc' := 15) (lv' := [(3, .int (x1 - x1 / (7 : Int32) * (7 : Int32))), (2, .ref 11), (0, .ref 5), (1, .int x1)]) (st' := [.int (3 : Int32), .int (x1 - x1 / (7 : Int32) * (7 : Int32))]) (h' := hp M) rfl ?_
  refine am_Y.br (c := (3 : Int32) < (x1 - x1 / (7 : Int32) * (7 : Int32))) _ (t := 53) (u := 18) (lv' := [(3, .int (x1 - x1 / (7 : Int32) * (7 : Int32))), (2, .ref 11), (0, .ref 5), (1, .int x1)]) (st' := []) (h' := hp M) rfl (fun hc => ?_) (fun hc => ?_)
  · replace h := (if_pos hc).symm.trans h
    refine am_Y.run (k := 2) (pc' := 55) (lv' := [(3, .int (x1 - x1 / (7 : Int32) * (7 : Int32))), (2, .ref 11), (0, .ref 5), (1, .int x1)]) (st' := [.int (4 : Int32), .int (x1 - x1 / (7 : Int32) * (7 : Int32))]) (h' := hp M) rfl ?_
    refine am_Y.br (c := (x1 - x1 / (7 : Int32) * (7 : Int32)) = (4 : Int32)) _ (t := 58) (u := 79) (lv' := [(3, .int (x1 - x1 / (7 : Int32) * (7 : Int32))), (2, .ref 11), (0, .ref 5), (1, .int x1)]) (st' := []) (h' := hp M) rfl (fun hc => ?_) (fun hc => ?_)
    · replace h := (if_pos hc).symm.trans h
      refine am_Y.run (k := 1) (pc' := 59) (lv' := [(3, .int (x1 - x1 / (7 : Int32) * (7 : Int32))), (2, .ref 11), (0, .ref 5), (1, .int x1)]) (st' := [.ref 11]) (h' := hp M) rfl ?_
      refine am_Y.call0 (M' := am_M119) (as := [.ref 11]) (rest := []) (d' := 1) rfl (by omega) rfl rfl (t_e_isFull M _ rfl) ?_
      refine am_Y.br (c := (f_e_isFull M) = (0 : Int32)) _ (t := 65) (u := 117) (lv' := [(3, .int (x1 - x1 / (7 : Int32) * (7 : Int32))), (2, .ref 11), (0, .ref 5), (1, .int x1)]) (st' := []) (h' := hp M) rfl (fun hc => ?_) (fun hc => ?_)
      · replace h := (if_pos hc).symm.trans h
        refine am_Y.run (k := 4) (pc' := 70) (lv' := [(3, .int (x1 - x1 / (7 : Int32) * (7 : Int32))), (2, .ref 11), (0, .ref 5), (1, .int x1)]) (st' := [.ref 11, .int (4 : Int32), .int (8 : Int32), .ref 11]) (h' := hp M) rfl ?_
        refine am_Y.call0 (M' := am_M121) (as := [.ref 11]) (rest := [.int (4 : Int32), .int (8 : Int32), .ref 11]) (d' := 0) rfl (by omega) rfl rfl (t_e_moment M _ rfl) ?_
        obtain ⟨q1, e_q1, h⟩ := Option.bind_eq_some_iff.mp h
        refine am_Y.call0 (M' := am_M122) (as := [.ref 11, .int (8 : Int32), .int (4 : Int32), .int (f_e_moment M)]) (rest := []) (d' := 1) rfl (by omega) rfl rfl (t_e_enter (8 : Int32) (4 : Int32) (f_e_moment M) M q1 e_q1) ?_
        refine am_Y.run (k := 2) (pc' := 118) (lv' := [(3, .int (x1 - x1 / (7 : Int32) * (7 : Int32))), (2, .ref 11), (0, .ref 5), (1, .int x1)]) (st' := [.int (0 : Int32)]) (h' := hp q1) rfl ?_
        obtain ⟨rfl, rfl⟩ := Prod.mk.inj (Option.some.inj h)
        exact am_Y.ret rfl
      · replace h := (if_neg hc).symm.trans h
        refine am_Y.run (k := 1) (pc' := 118) (lv' := [(3, .int (x1 - x1 / (7 : Int32) * (7 : Int32))), (2, .ref 11), (0, .ref 5), (1, .int x1)]) (st' := [.int (0 : Int32)]) (h' := hp M) rfl ?_
        obtain ⟨rfl, rfl⟩ := Prod.mk.inj (Option.some.inj h)
        exact am_Y.ret rfl
    · replace h := (if_neg hc).symm.trans h
      refine am_Y.run (k := 2) (pc' := 81) (lv' := [(3, .int (x1 - x1 / (7 : Int32) * (7 : Int32))), (2, .ref 11), (0, .ref 5), (1, .int x1)]) (st' := [.int (5 : Int32), .int (x1 - x1 / (7 : Int32) * (7 : Int32))]) (h' := hp M) rfl ?_
      refine am_Y.br (c := (x1 - x1 / (7 : Int32) * (7 : Int32)) = (5 : Int32)) _ (t := 84) (u := 100) (lv' := [(3, .int (x1 - x1 / (7 : Int32) * (7 : Int32))), (2, .ref 11), (0, .ref 5), (1, .int x1)]) (st' := []) (h' := hp M) rfl (fun hc => ?_) (fun hc => ?_)
      · replace h := (if_pos hc).symm.trans h
        refine am_Y.run (k := 1) (pc' := 85) (lv' := [(3, .int (x1 - x1 / (7 : Int32) * (7 : Int32))), (2, .ref 11), (0, .ref 5), (1, .int x1)]) (st' := [.ref 11]) (h' := hp M) rfl ?_
        refine am_Y.call0 (M' := am_M121) (as := [.ref 11]) (rest := []) (d' := 0) rfl (by omega) rfl rfl (t_e_moment M _ rfl) ?_
        refine am_Y.run (k := 1) (pc' := 90) (lv' := [(3, .int (x1 - x1 / (7 : Int32) * (7 : Int32))), (2, .ref 11), (0, .ref 5), (1, .int x1)]) (st' := [.int (99 : Int32), .int (f_e_moment M)]) (h' := hp M) rfl ?_
        refine am_Y.br (c := (99 : Int32) ≤ (f_e_moment M)) _ (t := 117) (u := 93) (lv' := [(3, .int (x1 - x1 / (7 : Int32) * (7 : Int32))), (2, .ref 11), (0, .ref 5), (1, .int x1)]) (st' := []) (h' := hp M) rfl (fun hc => ?_) (fun hc => ?_)
        · replace h := (if_pos hc).symm.trans h
          refine am_Y.run (k := 1) (pc' := 118) (lv' := [(3, .int (x1 - x1 / (7 : Int32) * (7 : Int32))), (2, .ref 11), (0, .ref 5), (1, .int x1)]) (st' := [.int (0 : Int32)]) (h' := hp M) rfl ?_
          obtain ⟨rfl, rfl⟩ := Prod.mk.inj (Option.some.inj h)
          exact am_Y.ret rfl
        · replace h := (if_neg hc).symm.trans h
          refine am_Y.run (k := 1) (pc' := 94) (lv' := [(3, .int (x1 - x1 / (7 : Int32) * (7 : Int32))), (2, .ref 11), (0, .ref 5), (1, .int x1)]) (st' := [.ref 5]) (h' := hp M) rfl ?_
          obtain ⟨q2, e_q2, h⟩ := Option.bind_eq_some_iff.mp h
          refine am_Y.call0 (M' := am_M232) (as := [.ref 5]) (rest := []) (d' := 1) rfl (by omega) rfl rfl (t_w_passOne N M q2 e_q2) ?_
          refine am_Y.run (k := 2) (pc' := 118) (lv' := [(3, .int (x1 - x1 / (7 : Int32) * (7 : Int32))), (2, .ref 11), (0, .ref 5), (1, .int x1)]) (st' := [.int (0 : Int32)]) (h' := hp q2) rfl ?_
          obtain ⟨rfl, rfl⟩ := Prod.mk.inj (Option.some.inj h)
          exact am_Y.ret rfl
      · replace h := (if_neg hc).symm.trans h
        refine am_Y.run (k := 1) (pc' := 101) (lv' := [(3, .int (x1 - x1 / (7 : Int32) * (7 : Int32))), (2, .ref 11), (0, .ref 5), (1, .int x1)]) (st' := [.ref 11]) (h' := hp M) rfl ?_
        refine am_Y.call0 (M' := am_M129) (as := [.ref 11]) (rest := []) (d' := 0) rfl (by omega) rfl rfl (t_e_night M _ rfl) ?_
        refine am_Y.run (k := 1) (pc' := 107) (lv' := [(3, .int (x1 - x1 / (7 : Int32) * (7 : Int32))), (2, .ref 11), (0, .ref 5), (1, .int x1)]) (st' := [.int (999 : Int32), .int (f_e_night M)]) (h' := hp M) rfl ?_
        refine am_Y.br (c := (999 : Int32) ≤ (f_e_night M)) _ (t := 117) (u := 110) (lv' := [(3, .int (x1 - x1 / (7 : Int32) * (7 : Int32))), (2, .ref 11), (0, .ref 5), (1, .int x1)]) (st' := []) (h' := hp M) rfl (fun hc => ?_) (fun hc => ?_)
        · replace h := (if_pos hc).symm.trans h
          refine am_Y.run (k := 1) (pc' := 118) (lv' := [(3, .int (x1 - x1 / (7 : Int32) * (7 : Int32))), (2, .ref 11), (0, .ref 5), (1, .int x1)]) (st' := [.int (0 : Int32)]) (h' := hp M) rfl ?_
          obtain ⟨rfl, rfl⟩ := Prod.mk.inj (Option.some.inj h)
          exact am_Y.ret rfl
        · replace h := (if_neg hc).symm.trans h
          refine am_Y.run (k := 1) (pc' := 111) (lv' := [(3, .int (x1 - x1 / (7 : Int32) * (7 : Int32))), (2, .ref 11), (0, .ref 5), (1, .int x1)]) (st' := [.ref 5]) (h' := hp M) rfl ?_
          obtain ⟨q3, e_q3, h⟩ := Option.bind_eq_some_iff.mp h
          refine am_Y.call0 (M' := am_M130) (as := [.ref 5]) (rest := []) (d' := 5) rfl (by omega) rfl rfl (t_w_endDinner N M q3.1 q3.2 e_q3) ?_
          refine am_Y.run (k := 2) (pc' := 116) (lv' := [(3, .int (x1 - x1 / (7 : Int32) * (7 : Int32))), (2, .ref 11), (0, .ref 5), (1, .int x1)]) (st' := [.int (1 : Int32)]) (h' := hp q3.2) rfl ?_
          obtain ⟨rfl, rfl⟩ := Prod.mk.inj (Option.some.inj h)
          exact am_Y.ret rfl
  · replace h := (if_neg hc).symm.trans h
    refine am_Y.run (k := 7) (pc' := 33) (lv' := [(4, .int (gi M 7 3)), (3, .int (x1 - x1 / (7 : Int32) * (7 : Int32))), (2, .ref 11), (0, .ref 5), (1, .int x1)]) (st' := [.int (gi M 7 3), .ref 5]) (h' := hp M) rfl ?_
    refine am_Y.br (c := (gi M 7 3) ≤ (0 : Int32)) _ (t := 43) (u := 36) (lv' := [(4, .int (gi M 7 3)), (3, .int (x1 - x1 / (7 : Int32) * (7 : Int32))), (2, .ref 11), (0, .ref 5), (1, .int x1)]) (st' := [.ref 5]) (h' := hp M) rfl (fun hc => ?_) (fun hc => ?_)
    · replace h := (if_pos hc).symm.trans h
      refine am_Y.run (k := 3) (pc' := 46) (lv' := [(4, .int (gi M 7 3)), (3, .int (x1 - x1 / (7 : Int32) * (7 : Int32))), (2, .ref 11), (0, .ref 5), (1, .int x1)]) (st' := [.int (0 : Int32), .int (x1 - x1 / (7 : Int32) * (7 : Int32)), .int (-1 : Int32), .ref 5]) (h' := hp M) rfl ?_
      obtain ⟨q4, e_q4, h⟩ := Option.bind_eq_some_iff.mp h
      refine am_Y.call0 (M' := am_M114) (as := [.ref 5, .int (-1 : Int32), .int (x1 - x1 / (7 : Int32) * (7 : Int32)), .int (0 : Int32)]) (rest := []) (d' := 5) rfl (by omega) rfl rfl (t_w_speak N (-1 : Int32) (x1 - x1 / (7 : Int32) * (7 : Int32)) (0 : Int32) M q4.1 q4.2 e_q4) ?_
      refine am_Y.run (k := 3) (pc' := 118) (lv' := [(4, .int (gi M 7 3)), (3, .int (x1 - x1 / (7 : Int32) * (7 : Int32))), (2, .ref 11), (0, .ref 5), (1, .int x1)]) (st' := [.int (0 : Int32)]) (h' := hp q4.2) rfl ?_
      obtain ⟨rfl, rfl⟩ := Prod.mk.inj (Option.some.inj h)
      exact am_Y.ret rfl
    · replace h := (if_neg hc).symm.trans h
      refine am_Y.run (k := 2) (pc' := 39) (lv' := [(4, .int (gi M 7 3)), (3, .int (x1 - x1 / (7 : Int32) * (7 : Int32))), (2, .ref 11), (0, .ref 5), (1, .int x1)]) (st' := [.int (gi M 7 3), .int x1, .ref 5]) (h' := hp M) rfl ?_
      obtain ⟨g, h⟩ := am_itn h
      refine am_Y.irm rfl g ?_
      refine am_Y.run (k := 3) (pc' := 46) (lv' := [(4, .int (gi M 7 3)), (3, .int (x1 - x1 / (7 : Int32) * (7 : Int32))), (2, .ref 11), (0, .ref 5), (1, .int x1)]) (st' := [.int (0 : Int32), .int (x1 - x1 / (7 : Int32) * (7 : Int32)), .int (x1 - x1 / (gi M 7 3) * (gi M 7 3)), .ref 5]) (h' := hp M) rfl ?_
      obtain ⟨q5, e_q5, h⟩ := Option.bind_eq_some_iff.mp h
      refine am_Y.call0 (M' := am_M114) (as := [.ref 5, .int (x1 - x1 / (gi M 7 3) * (gi M 7 3)), .int (x1 - x1 / (7 : Int32) * (7 : Int32)), .int (0 : Int32)]) (rest := []) (d' := 5) rfl (by omega) rfl rfl (t_w_speak N (x1 - x1 / (gi M 7 3) * (gi M 7 3)) (x1 - x1 / (7 : Int32) * (7 : Int32)) (0 : Int32) M q5.1 q5.2 e_q5) ?_
      refine am_Y.run (k := 3) (pc' := 118) (lv' := [(4, .int (gi M 7 3)), (3, .int (x1 - x1 / (7 : Int32) * (7 : Int32))), (2, .ref 11), (0, .ref 5), (1, .int x1)]) (st' := [.int (0 : Int32)]) (h' := hp q5.2) rfl ?_
      obtain ⟨rfl, rfl⟩ := Prod.mk.inj (Option.some.inj h)
      exact am_Y.ret rfl
set_option maxRecDepth 100000 in
theorem t_w_years_90 {S : Nat × (Nat → Int32)} (N : Nat) (K64 : Int32 → Int32 → Int32 → Mem → Option (Int32 × Mem)) (hK64 : ∀ (x2 : Int32) (x3 : Int32) (x4 : Int32) (M : Mem) (r : Int32) (M' : Mem), K64 x2 x3 x4 M = some (r, M') → am_Y S 7 0 0 am_M26 64 [(0, .ref 5), (2, .int x2), (3, .int x3), (4, .int x4)] [] (hp M) (some (.int r)) (hp M')) (x2 : Int32) (x3 : Int32) (x4 : Int32) (M : Mem) (r : Int32) (M' : Mem) (h : f_w_years_90 N K64 x2 x3 x4 M = some (r, M')) : am_Y S 7 0 0 am_M26 90 [(0, .ref 5), (2, .int x2), (3, .int x3), (4, .int x4)] [] (hp M) (some (.int r)) (hp M') := by
  rw [f_w_years_90] at h
  refine am_Y.run (k := 6) (pc' := 104) (lv' := [(0, .ref 5), (2, .int x2), (3, .int x3), (4, .int x4)]) (st' := [.ref 11, .ref 11]) (h' := hp M) rfl ?_
  refine am_Y.call0 (M' := am_M136) (as := [.ref 11]) (rest := [.ref 11]) (d' := 0) rfl (by omega) rfl rfl (t_e_draw M _ rfl) ?_
  refine am_Y.run (k := 6) (pc' := 119) (lv' := [(0, .ref 5), (2, .int x2), (3, .int x3), (4, .int x4)]) (st' := [.int ((((f_e_draw M) * (269 : Int32)) + (163 : Int32)) - (((f_e_draw M) * (269 : Int32)) + (163 : Int32)) / (30259 : Int32) * (30259 : Int32)), .ref 11]) (h' := hp M) rfl ?_
  obtain ⟨q4, e_q4, h⟩ := Option.bind_eq_some_iff.mp h
  refine am_Y.call0 (M' := am_M135) (as := [.ref 11, .int ((((f_e_draw M) * (269 : Int32)) + (163 : Int32)) - (((f_e_draw M) * (269 : Int32)) + (163 : Int32)) / (30259 : Int32) * (30259 : Int32))]) (rest := []) (d' := 0) rfl (by omega) rfl rfl (t_e_setDraw ((((f_e_draw M) * (269 : Int32)) + (163 : Int32)) - (((f_e_draw M) * (269 : Int32)) + (163 : Int32)) / (30259 : Int32) * (30259 : Int32)) M q4 e_q4) ?_
  refine am_Y.run (k := 2) (pc' := 64) (lv' := [(4, .int (x4 + (1 : Int32))), (0, .ref 5), (2, .int x2), (3, .int x3)]) (st' := []) (h' := hp q4) rfl ?_
  refine am_Y.weak (lv2 := [(0, .ref 5), (2, .int x2), (3, .int x3), (4, .int (x4 + (1 : Int32)))]) rfl rfl ⟨rfl, rfl, rfl, rfl, trivial⟩ ?_
  exact hK64 x2 x3 (x4 + (1 : Int32)) q4 _ _ h
set_option maxRecDepth 100000 in
theorem t_w_years_64 {S : Nat × (Nat → Int32)} (N : Nat) : ∀ (n : Nat) (x2 : Int32) (x3 : Int32) (x4 : Int32) (M : Mem) (r : Int32) (M' : Mem), f_w_years_64 N n x2 x3 x4 M = some (r, M') → am_Y S 7 0 0 am_M26 64 [(0, .ref 5), (2, .int x2), (3, .int x3), (4, .int x4)] [] (hp M) (some (.int r)) (hp M') := by
  intro n
  induction n with
  | zero =>
    intro x2 x3 x4 M r M' h
    cases h
  | succ n ih =>
    intro x2 x3 x4 M r M' h
    rw [f_w_years_64] at h
    refine am_Y.run (k := 2) (pc' := 67) (lv' := [(0, .ref 5), (2, .int x2), (3, .int x3), (4, .int x4)]) (st' := [.int x2, .int x4]) (h' := hp M) rfl ?_
    refine am_Y.br (c := x2 ≤ x4) _ (t := 128) (u := 70) (lv' := [(0, .ref 5), (2, .int x2), (3, .int x3), (4, .int x4)]) (st' := []) (h' := hp M) rfl (fun hc => ?_) (fun hc => ?_)
    · replace h := (if_pos hc).symm.trans h
      refine am_Y.run (k := 1) (pc' := 129) (lv' := [(0, .ref 5), (2, .int x2), (3, .int x3), (4, .int x4)]) (st' := [.int x3]) (h' := hp M) rfl ?_
      obtain ⟨rfl, rfl⟩ := Prod.mk.inj (Option.some.inj h)
      exact am_Y.ret rfl
    · replace h := (if_neg hc).symm.trans h
      refine am_Y.run (k := 4) (pc' := 78) (lv' := [(0, .ref 5), (2, .int x2), (3, .int x3), (4, .int x4)]) (st' := [.ref 11, .ref 5]) (h' := hp M) rfl ?_
      refine am_Y.call0 (M' := am_M136) (as := [.ref 11]) (rest := [.ref 5]) (d' := 0) rfl (by omega) rfl rfl (t_e_draw M _ rfl) ?_
      obtain ⟨q3, e_q3, h⟩ := Option.bind_eq_some_iff.mp h
      refine am_Y.call0 (M' := am_M137) (as := [.ref 5, .int (f_e_draw M)]) (rest := []) (d' := 6) rfl (by omega) rfl rfl (t_w_drawOne N (f_e_draw M) M q3.1 q3.2 e_q3) ?_
      refine am_Y.br (c := q3.1 = (0 : Int32)) _ (t := 90) (u := 87) (lv' := [(0, .ref 5), (2, .int x2), (3, .int x3), (4, .int x4)]) (st' := []) (h' := hp q3.2) rfl (fun hc => ?_) (fun hc => ?_)
      · replace h := (if_pos hc).symm.trans h
        refine am_Y.weak (lv2 := [(0, .ref 5), (2, .int x2), (3, .int x3), (4, .int x4)]) rfl rfl ⟨rfl, rfl, rfl, rfl, trivial⟩ ?_
        exact t_w_years_90 N _ ih x2 x3 x4 q3.2 _ _ h
      · replace h := (if_neg hc).symm.trans h
        refine am_Y.run (k := 1) (pc' := 90) (lv' := [(3, .int (x3 + (1 : Int32))), (0, .ref 5), (2, .int x2), (4, .int x4)]) (st' := []) (h' := hp q3.2) rfl ?_
        refine am_Y.weak (lv2 := [(0, .ref 5), (2, .int x2), (3, .int (x3 + (1 : Int32))), (4, .int x4)]) rfl rfl ⟨rfl, rfl, rfl, rfl, trivial⟩ ?_
        exact t_w_years_90 N _ ih x2 (x3 + (1 : Int32)) x4 q3.2 _ _ h
set_option maxRecDepth 100000 in
theorem t_w_years {S : Nat × (Nat → Int32)} (N : Nat) (x1 : Int32) (x2 : Int32) (M : Mem) (r : Int32) (M' : Mem) (h : f_w_years N x1 x2 M = some (r, M')) : am_Y S 7 0 0 am_M26 0 [(0, .ref 5), (1, .int x1), (2, .int x2)] [] (hp M) (some (.int r)) (hp M') := by
  rw [f_w_years] at h
  refine am_Y.run (k := 3) (pc' := 5) (lv' := [(0, .ref 5), (1, .int x1), (2, .int x2)]) (st' := [.int (9999 : Int32), .int (0 : Int32), .int x1]) (h' := hp M) rfl ?_
  refine am_Y.call0 (M' := am_M102) (as := [.int x1, .int (0 : Int32), .int (9999 : Int32)]) (rest := []) (d' := 0) rfl (by omega) rfl rfl (t_w_within x1 (0 : Int32) (9999 : Int32) M _ rfl) ?_
  refine am_Y.br (c := (f_w_within x1 (0 : Int32) (9999 : Int32) M) = (0 : Int32)) _ (t := 34) (u := 11) (lv' := [(0, .ref 5), (1, .int x1), (2, .int x2)]) (st' := []) (h' := hp M) rfl (fun hc => ?_) (fun hc => ?_)
  · replace h := (if_pos hc).symm.trans h
    refine am_Y.run (k := 1) (pc' := 35) (lv' := [(0, .ref 5), (1, .int x1), (2, .int x2)]) (st' := [.int (-1 : Int32)]) (h' := hp M) rfl ?_
    obtain ⟨rfl, rfl⟩ := Prod.mk.inj (Option.some.inj h)
    exact am_Y.ret rfl
  · replace h := (if_neg hc).symm.trans h
    refine am_Y.run (k := 3) (pc' := 15) (lv' := [(0, .ref 5), (1, .int x1), (2, .int x2)]) (st' := [.int (40 : Int32), .int (1 : Int32), .int x2]) (h' := hp M) rfl ?_
    refine am_Y.call0 (M' := am_M102) (as := [.int x2, .int (1 : Int32), .int (40 : Int32)]) (rest := []) (d' := 0) rfl (by omega) rfl rfl (t_w_within x2 (1 : Int32) (40 : Int32) M _ rfl) ?_
    refine am_Y.br (c := (f_w_within x2 (1 : Int32) (40 : Int32) M) = (0 : Int32)) _ (t := 34) (u := 21) (lv' := [(0, .ref 5), (1, .int x1), (2, .int x2)]) (st' := []) (h' := hp M) rfl (fun hc => ?_) (fun hc => ?_)
    · replace h := (if_pos hc).symm.trans h
      refine am_Y.run (k := 1) (pc' := 35) (lv' := [(0, .ref 5), (1, .int x1), (2, .int x2)]) (st' := [.int (-1 : Int32)]) (h' := hp M) rfl ?_
      obtain ⟨rfl, rfl⟩ := Prod.mk.inj (Option.some.inj h)
      exact am_Y.ret rfl
    · replace h := (if_neg hc).symm.trans h
      refine am_Y.run (k := 4) (pc' := 31) (lv' := [(0, .ref 5), (1, .int x1), (2, .int x2)]) (st' := [.int (gi M 7 3)]) (h' := hp M) rfl ?_
      refine am_Y.br (c := (0 : Int32) < (gi M 7 3)) _ (t := 36) (u := 34) (lv' := [(0, .ref 5), (1, .int x1), (2, .int x2)]) (st' := []) (h' := hp M) rfl (fun hc => ?_) (fun hc => ?_)
      · replace h := (if_pos hc).symm.trans h
        refine am_Y.run (k := 2) (pc' := 40) (lv' := [(0, .ref 5), (1, .int x1), (2, .int x2)]) (st' := [.ref 6]) (h' := hp M) rfl ?_
        obtain ⟨q1, e_q1, h⟩ := Option.bind_eq_some_iff.mp h
        refine am_Y.call0 (M' := am_M120) (as := [.ref 6]) (rest := []) (d' := 2) rfl (by omega) rfl rfl (t_t_keepStep M q1 e_q1) ?_
        refine am_Y.run (k := 8) (pc' := 56) (lv' := [(0, .ref 5), (1, .int x1), (2, .int x2)]) (st' := [.int ((x1 * (3 : Int32)) + (61 : Int32)), .ref 11]) (h' := hp q1) rfl ?_
        obtain ⟨q2, e_q2, h⟩ := Option.bind_eq_some_iff.mp h
        refine am_Y.call0 (M' := am_M135) (as := [.ref 11, .int ((x1 * (3 : Int32)) + (61 : Int32))]) (rest := []) (d' := 0) rfl (by omega) rfl rfl (t_e_setDraw ((x1 * (3 : Int32)) + (61 : Int32)) q1 q2 e_q2) ?_
        refine am_Y.run (k := 4) (pc' := 64) (lv' := [(4, .int (0 : Int32)), (3, .int (0 : Int32)), (0, .ref 5), (1, .int x1), (2, .int x2)]) (st' := []) (h' := hp q2) rfl ?_
        refine am_Y.weak (lv2 := [(0, .ref 5), (2, .int x2), (3, .int (0 : Int32)), (4, .int (0 : Int32))]) rfl rfl ⟨rfl, rfl, rfl, rfl, trivial⟩ ?_
        exact t_w_years_64 N N x2 (0 : Int32) (0 : Int32) q2 _ _ h
      · replace h := (if_neg hc).symm.trans h
        refine am_Y.run (k := 1) (pc' := 35) (lv' := [(0, .ref 5), (1, .int x1), (2, .int x2)]) (st' := [.int (-1 : Int32)]) (h' := hp M) rfl ?_
        obtain ⟨rfl, rfl⟩ := Prod.mk.inj (Option.some.inj h)
        exact am_Y.ret rfl
set_option maxRecDepth 100000 in
theorem t_m_happens {S : Nat × (Nat → Int32)} (N : Nat) (x1 : Int32) (M : Mem) (r : Int32) (M' : Mem) (h : f_m_happens N x1 M = some (r, M')) : am_Y S 6 0 0 am_M138 0 [(0, .ref 129), (1, .int x1)] [] (hp M) (some (.int r)) (hp M') := by
  rw [f_m_happens] at h
  refine am_Y.run (k := 5) (pc' := 7) (lv' := [(0, .ref 129), (1, .int x1)]) (st' := [.int (gi M 130 0), .int x1]) (h' := hp M) rfl ?_
  obtain ⟨g, h⟩ := am_itn h
  refine am_Y.irm rfl g ?_
  refine am_Y.run (k := 4) (pc' := 13) (lv' := [(2, .int (x1 - x1 / (gi M 130 0) * (gi M 130 0))), (0, .ref 129), (1, .int x1)]) (st' := [.int (x1 - x1 / (7 : Int32) * (7 : Int32))]) (h' := hp M) rfl ?_
  by_cases hc4 : (x1 - x1 / (7 : Int32) * (7 : Int32)) = (4 : Int32)
  · replace h := (if_pos hc4).symm.trans h
    refine am_Y.one (pc' := 40) (lv' := [(2, .int (x1 - x1 / (gi M 130 0) * (gi M 130 0))), (0, .ref 129), (1, .int x1)]) (st' := []) (h' := hp M) (am_swc hc4 rfl) ?_
    refine am_Y.run (k := 5) (pc' := 49) (lv' := [(2, .int (x1 - x1 / (gi M 130 0) * (gi M 130 0))), (0, .ref 129), (1, .int x1)]) (st' := [.int (40 : Int32), .int (gi M 130 8)]) (h' := hp M) rfl ?_
    refine am_Y.br (c := (40 : Int32) ≤ (gi M 130 8)) _ (t := 65) (u := 52) (lv' := [(2, .int (x1 - x1 / (gi M 130 0) * (gi M 130 0))), (0, .ref 129), (1, .int x1)]) (st' := []) (h' := hp M) rfl (fun hc => ?_) (fun hc => ?_)
    · replace h := (if_pos hc).symm.trans h
      refine am_Y.run (k := 1) (pc' := 66) (lv' := [(2, .int (x1 - x1 / (gi M 130 0) * (gi M 130 0))), (0, .ref 129), (1, .int x1)]) (st' := [.int (0 : Int32)]) (h' := hp M) rfl ?_
      obtain ⟨rfl, rfl⟩ := Prod.mk.inj (Option.some.inj h)
      exact am_Y.ret rfl
    · replace h := (if_neg hc).symm.trans h
      refine am_Y.run (k := 7) (pc' := 62) (lv' := [(2, .int (x1 - x1 / (gi M 130 0) * (gi M 130 0))), (0, .ref 129), (1, .int x1)]) (st' := [.int (gi M 130 2), .int (4 : Int32), .int (8 : Int32), .ref 129]) (h' := hp M) rfl ?_
      obtain ⟨q1, e_q1, h⟩ := Option.bind_eq_some_iff.mp h
      refine am_Y.call0 (M' := am_M123) (as := [.ref 129, .int (8 : Int32), .int (4 : Int32), .int (gi M 130 2)]) (rest := []) (d' := 1) rfl (by omega) rfl rfl (t_m_log1 (8 : Int32) (4 : Int32) (gi M 130 2) M q1 e_q1) ?_
      refine am_Y.run (k := 1) (pc' := 66) (lv' := [(2, .int (x1 - x1 / (gi M 130 0) * (gi M 130 0))), (0, .ref 129), (1, .int x1)]) (st' := [.int (0 : Int32)]) (h' := hp q1) rfl ?_
      obtain ⟨rfl, rfl⟩ := Prod.mk.inj (Option.some.inj h)
      exact am_Y.ret rfl
  replace h := (if_neg hc4).symm.trans h
  by_cases hc5 : (x1 - x1 / (7 : Int32) * (7 : Int32)) = (5 : Int32)
  · replace h := (if_pos hc5).symm.trans h
    refine am_Y.one (pc' := 67) (lv' := [(2, .int (x1 - x1 / (gi M 130 0) * (gi M 130 0))), (0, .ref 129), (1, .int x1)]) (st' := []) (h' := hp M) (am_swc hc5 rfl) ?_
    refine am_Y.run (k := 5) (pc' := 75) (lv' := [(2, .int (x1 - x1 / (gi M 130 0) * (gi M 130 0))), (0, .ref 129), (1, .int x1)]) (st' := [.int (99 : Int32), .int (gi M 130 2)]) (h' := hp M) rfl ?_
    refine am_Y.br (c := (99 : Int32) ≤ (gi M 130 2)) _ (t := 82) (u := 78) (lv' := [(2, .int (x1 - x1 / (gi M 130 0) * (gi M 130 0))), (0, .ref 129), (1, .int x1)]) (st' := []) (h' := hp M) rfl (fun hc => ?_) (fun hc => ?_)
    · replace h := (if_pos hc).symm.trans h
      refine am_Y.run (k := 1) (pc' := 83) (lv' := [(2, .int (x1 - x1 / (gi M 130 0) * (gi M 130 0))), (0, .ref 129), (1, .int x1)]) (st' := [.int (0 : Int32)]) (h' := hp M) rfl ?_
      obtain ⟨rfl, rfl⟩ := Prod.mk.inj (Option.some.inj h)
      exact am_Y.ret rfl
    · replace h := (if_neg hc).symm.trans h
      refine am_Y.run (k := 1) (pc' := 79) (lv' := [(2, .int (x1 - x1 / (gi M 130 0) * (gi M 130 0))), (0, .ref 129), (1, .int x1)]) (st' := [.ref 129]) (h' := hp M) rfl ?_
      obtain ⟨q2, e_q2, h⟩ := Option.bind_eq_some_iff.mp h
      refine am_Y.call0 (M' := am_M233) (as := [.ref 129]) (rest := []) (d' := 1) rfl (by omega) rfl rfl (t_m_passNow N M q2 e_q2) ?_
      refine am_Y.run (k := 1) (pc' := 83) (lv' := [(2, .int (x1 - x1 / (gi M 130 0) * (gi M 130 0))), (0, .ref 129), (1, .int x1)]) (st' := [.int (0 : Int32)]) (h' := hp q2) rfl ?_
      obtain ⟨rfl, rfl⟩ := Prod.mk.inj (Option.some.inj h)
      exact am_Y.ret rfl
  replace h := (if_neg hc5).symm.trans h
  by_cases hc6 : (x1 - x1 / (7 : Int32) * (7 : Int32)) = (6 : Int32)
  · replace h := (if_pos hc6).symm.trans h
    refine am_Y.one (pc' := 84) (lv' := [(2, .int (x1 - x1 / (gi M 130 0) * (gi M 130 0))), (0, .ref 129), (1, .int x1)]) (st' := []) (h' := hp M) (am_swc hc6 rfl) ?_
    refine am_Y.run (k := 5) (pc' := 93) (lv' := [(2, .int (x1 - x1 / (gi M 130 0) * (gi M 130 0))), (0, .ref 129), (1, .int x1)]) (st' := [.int (999 : Int32), .int (gi M 130 1)]) (h' := hp M) rfl ?_
    refine am_Y.br (c := (gi M 130 1) = (999 : Int32)) _ (t := 96) (u := 98) (lv' := [(2, .int (x1 - x1 / (gi M 130 0) * (gi M 130 0))), (0, .ref 129), (1, .int x1)]) (st' := []) (h' := hp M) rfl (fun hc => ?_) (fun hc => ?_)
    · replace h := (if_pos hc).symm.trans h
      refine am_Y.run (k := 1) (pc' := 97) (lv' := [(2, .int (x1 - x1 / (gi M 130 0) * (gi M 130 0))), (0, .ref 129), (1, .int x1)]) (st' := [.int (0 : Int32)]) (h' := hp M) rfl ?_
      obtain ⟨rfl, rfl⟩ := Prod.mk.inj (Option.some.inj h)
      exact am_Y.ret rfl
    · replace h := (if_neg hc).symm.trans h
      refine am_Y.run (k := 1) (pc' := 99) (lv' := [(2, .int (x1 - x1 / (gi M 130 0) * (gi M 130 0))), (0, .ref 129), (1, .int x1)]) (st' := [.ref 129]) (h' := hp M) rfl ?_
      obtain ⟨q3, e_q3, h⟩ := Option.bind_eq_some_iff.mp h
      refine am_Y.call0 (M' := am_M131) (as := [.ref 129]) (rest := []) (d' := 5) rfl (by omega) rfl rfl (t_m_endNow N M q3.1 q3.2 e_q3) ?_
      refine am_Y.br (c := q3.1 < (0 : Int32)) _ (t := 109) (u := 105) (lv' := [(2, .int (x1 - x1 / (gi M 130 0) * (gi M 130 0))), (0, .ref 129), (1, .int x1)]) (st' := []) (h' := hp q3.2) rfl (fun hc => ?_) (fun hc => ?_)
      · replace h := (if_pos hc).symm.trans h
        refine am_Y.run (k := 1) (pc' := 110) (lv' := [(2, .int (x1 - x1 / (gi M 130 0) * (gi M 130 0))), (0, .ref 129), (1, .int x1)]) (st' := [.int (0 : Int32)]) (h' := hp q3.2) rfl ?_
        obtain ⟨rfl, rfl⟩ := Prod.mk.inj (Option.some.inj h)
        exact am_Y.ret rfl
      · replace h := (if_neg hc).symm.trans h
        refine am_Y.run (k := 2) (pc' := 110) (lv' := [(2, .int (x1 - x1 / (gi M 130 0) * (gi M 130 0))), (0, .ref 129), (1, .int x1)]) (st' := [.int (1 : Int32)]) (h' := hp q3.2) rfl ?_
        obtain ⟨rfl, rfl⟩ := Prod.mk.inj (Option.some.inj h)
        exact am_Y.ret rfl
  replace h := (if_neg hc6).symm.trans h
  refine am_Y.one (pc' := 111) (lv' := [(2, .int (x1 - x1 / (gi M 130 0) * (gi M 130 0))), (0, .ref 129), (1, .int x1)]) (st' := []) (h' := hp M) (am_swd (x := (x1 - x1 / (7 : Int32) * (7 : Int32))) rfl (by have := am_neT (4) hc4 (by decide); have := am_neT (5) hc5 (by decide); have := am_neT (6) hc6 (by decide); omega) rfl) ?_
  refine am_Y.run (k := 2) (pc' := 113) (lv' := [(2, .int (x1 - x1 / (gi M 130 0) * (gi M 130 0))), (0, .ref 129), (1, .int x1)]) (st' := [.int (x1 - x1 / (gi M 130 0) * (gi M 130 0)), .ref 129]) (h' := hp M) rfl ?_
  obtain ⟨q4, e_q4, h⟩ := Option.bind_eq_some_iff.mp h
  refine am_Y.call0 (M' := am_M116) (as := [.ref 129, .int (x1 - x1 / (gi M 130 0) * (gi M 130 0))]) (rest := []) (d' := 2) rfl (by omega) rfl rfl (t_m_canSay (x1 - x1 / (gi M 130 0) * (gi M 130 0)) M q4 e_q4) ?_
  refine am_Y.br (c := q4 = (0 : Int32)) _ (t := 129) (u := 119) (lv' := [(2, .int (x1 - x1 / (gi M 130 0) * (gi M 130 0))), (0, .ref 129), (1, .int x1)]) (st' := []) (h' := hp M) rfl (fun hc => ?_) (fun hc => ?_)
  · replace h := (if_pos hc).symm.trans h
    refine am_Y.run (k := 1) (pc' := 130) (lv' := [(2, .int (x1 - x1 / (gi M 130 0) * (gi M 130 0))), (0, .ref 129), (1, .int x1)]) (st' := [.int (0 : Int32)]) (h' := hp M) rfl ?_
    obtain ⟨rfl, rfl⟩ := Prod.mk.inj (Option.some.inj h)
    exact am_Y.ret rfl
  · replace h := (if_neg hc).symm.trans h
    refine am_Y.run (k := 5) (pc' := 125) (lv' := [(2, .int (x1 - x1 / (gi M 130 0) * (gi M 130 0))), (0, .ref 129), (1, .int x1)]) (st' := [.int (x1 - x1 / (7 : Int32) * (7 : Int32)), .int (x1 - x1 / (gi M 130 0) * (gi M 130 0)), .ref 129]) (h' := hp M) rfl ?_
    obtain ⟨q5, e_q5, h⟩ := Option.bind_eq_some_iff.mp h
    refine am_Y.call0 (M' := am_M118) (as := [.ref 129, .int (x1 - x1 / (gi M 130 0) * (gi M 130 0)), .int (x1 - x1 / (7 : Int32) * (7 : Int32))]) (rest := []) (d' := 5) rfl (by omega) rfl rfl (t_m_sayNow N (x1 - x1 / (gi M 130 0) * (gi M 130 0)) (x1 - x1 / (7 : Int32) * (7 : Int32)) M q5.1 q5.2 e_q5) ?_
    refine am_Y.run (k := 2) (pc' := 130) (lv' := [(2, .int (x1 - x1 / (gi M 130 0) * (gi M 130 0))), (0, .ref 129), (1, .int x1)]) (st' := [.int (0 : Int32)]) (h' := hp q5.2) rfl ?_
    obtain ⟨rfl, rfl⟩ := Prod.mk.inj (Option.some.inj h)
    exact am_Y.ret rfl
set_option maxRecDepth 100000 in
theorem t_m_years_53 {S : Nat × (Nat → Int32)} (N : Nat) : ∀ (n : Nat) (x2 : Int32) (x3 : Int32) (x4 : Int32) (M : Mem) (r : Int32) (M' : Mem), f_m_years_53 N n x2 x3 x4 M = some (r, M') → am_Y S 7 0 0 am_M27 53 [(0, .ref 129), (2, .int x2), (3, .int x3), (4, .int x4)] [] (hp M) (some (.int r)) (hp M') := by
  intro n
  induction n with
  | zero =>
    intro x2 x3 x4 M r M' h
    cases h
  | succ n ih =>
    intro x2 x3 x4 M r M' h
    rw [f_m_years_53] at h
    refine am_Y.run (k := 2) (pc' := 56) (lv' := [(0, .ref 129), (2, .int x2), (3, .int x3), (4, .int x4)]) (st' := [.int x2, .int x4]) (h' := hp M) rfl ?_
    refine am_Y.br (c := x2 ≤ x4) _ (t := 102) (u := 59) (lv' := [(0, .ref 129), (2, .int x2), (3, .int x3), (4, .int x4)]) (st' := []) (h' := hp M) rfl (fun hc => ?_) (fun hc => ?_)
    · replace h := (if_pos hc).symm.trans h
      refine am_Y.run (k := 1) (pc' := 103) (lv' := [(0, .ref 129), (2, .int x2), (3, .int x3), (4, .int x4)]) (st' := [.int x3]) (h' := hp M) rfl ?_
      obtain ⟨rfl, rfl⟩ := Prod.mk.inj (Option.some.inj h)
      exact am_Y.ret rfl
    · replace h := (if_neg hc).symm.trans h
      refine am_Y.run (k := 6) (pc' := 67) (lv' := [(0, .ref 129), (2, .int x2), (3, .int x3), (4, .int x4)]) (st' := [.int (gi M 130 4), .ref 129, .int x3]) (h' := hp M) rfl ?_
      obtain ⟨q3, e_q3, h⟩ := Option.bind_eq_some_iff.mp h
      refine am_Y.call0 (M' := am_M138) (as := [.ref 129, .int (gi M 130 4)]) (rest := [.int x3]) (d' := 6) rfl (by omega) rfl rfl (t_m_happens N (gi M 130 4) M q3.1 q3.2 e_q3) ?_
      refine am_Y.run (k := 16) (pc' := 96) (lv' := [(3, .int (x3 + q3.1)), (0, .ref 129), (2, .int x2), (4, .int x4)]) (st' := []) (h' := hp (si q3.2 130 4 ((((gi q3.2 130 4) * (269 : Int32)) + (163 : Int32)) - (((gi q3.2 130 4) * (269 : Int32)) + (163 : Int32)) / (30259 : Int32) * (30259 : Int32)))) rfl ?_
      obtain ⟨q4, e_q4, h⟩ := Option.bind_eq_some_iff.mp h
      rw [Option.some.inj e_q4]
      refine am_Y.run (k := 2) (pc' := 53) (lv' := [(4, .int (x4 + (1 : Int32))), (3, .int (x3 + q3.1)), (0, .ref 129), (2, .int x2)]) (st' := []) (h' := hp q4) rfl ?_
      refine am_Y.weak (lv2 := [(0, .ref 129), (2, .int x2), (3, .int (x3 + q3.1)), (4, .int (x4 + (1 : Int32)))]) rfl rfl ⟨rfl, rfl, rfl, rfl, trivial⟩ ?_
      exact ih x2 (x3 + q3.1) (x4 + (1 : Int32)) q4 _ _ h
set_option maxRecDepth 100000 in
theorem t_m_years {S : Nat × (Nat → Int32)} (N : Nat) (x1 : Int32) (x2 : Int32) (M : Mem) (r : Int32) (M' : Mem) (h : f_m_years N x1 x2 M = some (r, M')) : am_Y S 7 0 0 am_M27 0 [(0, .ref 129), (1, .int x1), (2, .int x2)] [] (hp M) (some (.int r)) (hp M') := by
  rw [f_m_years] at h
  refine am_Y.run (k := 3) (pc' := 5) (lv' := [(0, .ref 129), (1, .int x1), (2, .int x2)]) (st' := [.int (9999 : Int32), .int (0 : Int32), .int x1]) (h' := hp M) rfl ?_
  refine am_Y.call0 (M' := am_M104) (as := [.int x1, .int (0 : Int32), .int (9999 : Int32)]) (rest := []) (d' := 0) rfl (by omega) rfl rfl (t_m_isIn x1 (0 : Int32) (9999 : Int32) M _ rfl) ?_
  refine am_Y.br (c := (f_m_isIn x1 (0 : Int32) (9999 : Int32) M) = (0 : Int32)) _ (t := 30) (u := 11) (lv' := [(0, .ref 129), (1, .int x1), (2, .int x2)]) (st' := []) (h' := hp M) rfl (fun hc => ?_) (fun hc => ?_)
  · replace h := (if_pos hc).symm.trans h
    refine am_Y.run (k := 1) (pc' := 31) (lv' := [(0, .ref 129), (1, .int x1), (2, .int x2)]) (st' := [.int (-1 : Int32)]) (h' := hp M) rfl ?_
    obtain ⟨rfl, rfl⟩ := Prod.mk.inj (Option.some.inj h)
    exact am_Y.ret rfl
  · replace h := (if_neg hc).symm.trans h
    refine am_Y.run (k := 3) (pc' := 15) (lv' := [(0, .ref 129), (1, .int x1), (2, .int x2)]) (st' := [.int (40 : Int32), .int (1 : Int32), .int x2]) (h' := hp M) rfl ?_
    refine am_Y.call0 (M' := am_M104) (as := [.int x2, .int (1 : Int32), .int (40 : Int32)]) (rest := []) (d' := 0) rfl (by omega) rfl rfl (t_m_isIn x2 (1 : Int32) (40 : Int32) M _ rfl) ?_
    refine am_Y.br (c := (f_m_isIn x2 (1 : Int32) (40 : Int32) M) = (0 : Int32)) _ (t := 30) (u := 21) (lv' := [(0, .ref 129), (1, .int x1), (2, .int x2)]) (st' := []) (h' := hp M) rfl (fun hc => ?_) (fun hc => ?_)
    · replace h := (if_pos hc).symm.trans h
      refine am_Y.run (k := 1) (pc' := 31) (lv' := [(0, .ref 129), (1, .int x1), (2, .int x2)]) (st' := [.int (-1 : Int32)]) (h' := hp M) rfl ?_
      obtain ⟨rfl, rfl⟩ := Prod.mk.inj (Option.some.inj h)
      exact am_Y.ret rfl
    · replace h := (if_neg hc).symm.trans h
      refine am_Y.run (k := 4) (pc' := 27) (lv' := [(0, .ref 129), (1, .int x1), (2, .int x2)]) (st' := [.int (gi M 130 0)]) (h' := hp M) rfl ?_
      refine am_Y.br (c := (gi M 130 0) = (0 : Int32)) _ (t := 30) (u := 32) (lv' := [(0, .ref 129), (1, .int x1), (2, .int x2)]) (st' := []) (h' := hp M) rfl (fun hc => ?_) (fun hc => ?_)
      · replace h := (if_pos hc).symm.trans h
        refine am_Y.run (k := 1) (pc' := 31) (lv' := [(0, .ref 129), (1, .int x1), (2, .int x2)]) (st' := [.int (-1 : Int32)]) (h' := hp M) rfl ?_
        obtain ⟨rfl, rfl⟩ := Prod.mk.inj (Option.some.inj h)
        exact am_Y.ret rfl
      · replace h := (if_neg hc).symm.trans h
        refine am_Y.run (k := 1) (pc' := 33) (lv' := [(0, .ref 129), (1, .int x1), (2, .int x2)]) (st' := [.ref 129]) (h' := hp M) rfl ?_
        obtain ⟨q1, e_q1, h⟩ := Option.bind_eq_some_iff.mp h
        refine am_Y.call0 (M' := am_M117) (as := [.ref 129]) (rest := []) (d' := 1) rfl (by omega) rfl rfl (t_m_keep N M q1 e_q1) ?_
        refine am_Y.run (k := 9) (pc' := 48) (lv' := [(0, .ref 129), (1, .int x1), (2, .int x2)]) (st' := []) (h' := hp (si q1 130 4 ((x1 * (3 : Int32)) + (61 : Int32)))) rfl ?_
        obtain ⟨q2, e_q2, h⟩ := Option.bind_eq_some_iff.mp h
        rw [Option.some.inj e_q2]
        refine am_Y.run (k := 4) (pc' := 53) (lv' := [(4, .int (0 : Int32)), (3, .int (0 : Int32)), (0, .ref 129), (1, .int x1), (2, .int x2)]) (st' := []) (h' := hp q2) rfl ?_
        refine am_Y.weak (lv2 := [(0, .ref 129), (2, .int x2), (3, .int (0 : Int32)), (4, .int (0 : Int32))]) rfl rfl ⟨rfl, rfl, rfl, rfl, trivial⟩ ?_
        exact t_m_years_53 N N x2 (0 : Int32) (0 : Int32) q2 _ _ h
set_option maxRecDepth 100000 in
theorem t_w_undo {S : Nat × (Nat → Int32)} (M : Mem) (r : Int32) (M' : Mem) (h : f_w_undo M = some (r, M')) : am_Y S 3 0 0 am_M28 0 [(0, .ref 5)] [] (hp M) (some (.int r)) (hp M') := by
  rw [f_w_undo] at h
  refine am_Y.run (k := 6) (pc' := 14) (lv' := [(0, .ref 5)]) (st' := [.ref 11, .ref 14]) (h' := hp M) rfl ?_
  obtain ⟨q1, e_q1, h⟩ := Option.bind_eq_some_iff.mp h
  refine am_Y.call0 (M' := am_M139) (as := [.ref 14, .ref 11]) (rest := []) (d' := 2) rfl (by omega) rfl rfl (t_s_takeBack M q1.1 q1.2 e_q1) ?_
  refine am_Y.br (c := q1.1 = (0 : Int32)) _ (t := 20) (u := 22) (lv' := [(0, .ref 5)]) (st' := []) (h' := hp q1.2) rfl (fun hc => ?_) (fun hc => ?_)
  · replace h := (if_pos hc).symm.trans h
    refine am_Y.run (k := 1) (pc' := 21) (lv' := [(0, .ref 5)]) (st' := [.int (-1 : Int32)]) (h' := hp q1.2) rfl ?_
    obtain ⟨rfl, rfl⟩ := Prod.mk.inj (Option.some.inj h)
    exact am_Y.ret rfl
  · replace h := (if_neg hc).symm.trans h
    refine am_Y.run (k := 4) (pc' := 32) (lv' := [(0, .ref 5)]) (st' := [.int (gi q1.2 14 2)]) (h' := hp q1.2) rfl ?_
    obtain ⟨rfl, rfl⟩ := Prod.mk.inj (Option.some.inj h)
    exact am_Y.ret rfl
set_option maxRecDepth 100000 in
theorem t_m_undo_118 {S : Nat × (Nat → Int32)} (N : Nat) (K101 : Int32 → Int32 → Mem → Option (Int32 × Mem)) (hK101 : ∀ (x1 : Int32) (x2 : Int32) (M : Mem) (r : Int32) (M' : Mem), K101 x1 x2 M = some (r, M') → am_Y S 2 0 0 am_M29 101 [(0, .ref 129), (1, .int x1), (2, .int x2)] [] (hp M) (some (.int r)) (hp M')) : ∀ (n : Nat) (x1 : Int32) (x2 : Int32) (x3 : Int32) (M : Mem) (r : Int32) (M' : Mem), f_m_undo_118 N K101 n x1 x2 x3 M = some (r, M') → am_Y S 2 0 0 am_M29 118 [(0, .ref 129), (1, .int x1), (2, .int x2), (3, .int x3)] [] (hp M) (some (.int r)) (hp M') := by
  intro n
  induction n with
  | zero =>
    intro x1 x2 x3 M r M' h
    cases h
  | succ n ih =>
    intro x1 x2 x3 M r M' h
    rw [f_m_undo_118] at h
    refine am_Y.run (k := 2) (pc' := 120) (lv' := [(0, .ref 129), (1, .int x1), (2, .int x2), (3, .int x3)]) (st' := [.int (4 : Int32), .int x3]) (h' := hp M) rfl ?_
    refine am_Y.br (c := (4 : Int32) ≤ x3) _ (t := 162) (u := 123) (lv' := [(0, .ref 129), (1, .int x1), (2, .int x2), (3, .int x3)]) (st' := []) (h' := hp M) rfl (fun hc => ?_) (fun hc => ?_)
    · replace h := (if_pos hc).symm.trans h
      refine am_Y.run (k := 2) (pc' := 101) (lv' := [(2, .int (x2 + (1 : Int32))), (0, .ref 129), (1, .int x1), (3, .int x3)]) (st' := []) (h' := hp M) rfl ?_
      refine am_Y.weak (lv2 := [(0, .ref 129), (1, .int x1), (2, .int (x2 + (1 : Int32)))]) rfl rfl ⟨rfl, rfl, rfl, trivial⟩ ?_
      exact hK101 x1 (x2 + (1 : Int32)) M _ _ h
    · replace h := (if_neg hc).symm.trans h
      refine am_Y.run (k := 4) (pc' := 129) (lv' := [(0, .ref 129), (1, .int x1), (2, .int x2), (3, .int x3)]) (st' := [.int x1, .ref 130, .int x2]) (h' := hp M) rfl ?_
      obtain ⟨g, h⟩ := am_itg h
      refine am_Y.iald (a := 125) (n := 3826) rfl rfl g ?_
      refine am_Y.br (c := (gi M 130 (x1).toNatClampNeg) ≤ x2) _ (t := 162) (u := 133) (lv' := [(0, .ref 129), (1, .int x1), (2, .int x2), (3, .int x3)]) (st' := []) (h' := hp M) rfl (fun hc => ?_) (fun hc => ?_)
      · replace h := (if_pos hc).symm.trans h
        refine am_Y.run (k := 2) (pc' := 101) (lv' := [(2, .int (x2 + (1 : Int32))), (0, .ref 129), (1, .int x1), (3, .int x3)]) (st' := []) (h' := hp M) rfl ?_
        refine am_Y.weak (lv2 := [(0, .ref 129), (1, .int x1), (2, .int (x2 + (1 : Int32)))]) rfl rfl ⟨rfl, rfl, rfl, trivial⟩ ?_
        exact hK101 x1 (x2 + (1 : Int32)) M _ _ h
      · replace h := (if_neg hc).symm.trans h
        refine am_Y.run (k := 16) (pc' := 152) (lv' := [(0, .ref 129), (1, .int x1), (2, .int x2), (3, .int x3)]) (st' := [.int (((x1 + (7 : Int32)) + ((4 : Int32) * x2)) + x3), .ref 130, .int ((3 : Int32) + x3), .int x2, .ref 129]) (h' := hp M) rfl ?_
        obtain ⟨g, h⟩ := am_itg h
        refine am_Y.iald (a := 125) (n := 3826) rfl rfl g ?_
        obtain ⟨q6, e_q6, h⟩ := Option.bind_eq_some_iff.mp h
        refine am_Y.call0 (M' := am_M105) (as := [.ref 129, .int x2, .int ((3 : Int32) + x3), .int (gi M 130 ((((x1 + (7 : Int32)) + ((4 : Int32) * x2)) + x3)).toNatClampNeg)]) (rest := []) (d' := 0) rfl (by omega) rfl rfl (t_m_set x2 ((3 : Int32) + x3) (gi M 130 ((((x1 + (7 : Int32)) + ((4 : Int32) * x2)) + x3)).toNatClampNeg) M q6 e_q6) ?_
        refine am_Y.run (k := 2) (pc' := 118) (lv' := [(3, .int (x3 + (1 : Int32))), (0, .ref 129), (1, .int x1), (2, .int x2)]) (st' := []) (h' := hp q6) rfl ?_
        refine am_Y.weak (lv2 := [(0, .ref 129), (1, .int x1), (2, .int x2), (3, .int (x3 + (1 : Int32)))]) rfl rfl ⟨rfl, rfl, rfl, rfl, trivial⟩ ?_
        exact ih x1 x2 (x3 + (1 : Int32)) q6 _ _ h
set_option maxRecDepth 100000 in
theorem t_m_undo_170 {S : Nat × (Nat → Int32)} (N : Nat) : ∀ (n : Nat) (x1 : Int32) (x2 : Int32) (M : Mem) (r : Int32) (M' : Mem), f_m_undo_170 N n x1 x2 M = some (r, M') → am_Y S 2 0 0 am_M29 170 [(0, .ref 129), (1, .int x1), (2, .int x2)] [] (hp M) (some (.int r)) (hp M') := by
  intro n
  induction n with
  | zero =>
    intro x1 x2 M r M' h
    cases h
  | succ n ih =>
    intro x1 x2 M r M' h
    rw [f_m_undo_170] at h
    refine am_Y.run (k := 2) (pc' := 173) (lv' := [(0, .ref 129), (1, .int x1), (2, .int x2)]) (st' := [.int (40 : Int32), .int x2]) (h' := hp M) rfl ?_
    refine am_Y.br (c := (40 : Int32) ≤ x2) _ (t := 202) (u := 176) (lv' := [(0, .ref 129), (1, .int x1), (2, .int x2)]) (st' := []) (h' := hp M) rfl (fun hc => ?_) (fun hc => ?_)
    · replace h := (if_pos hc).symm.trans h
      refine am_Y.run (k := 4) (pc' := 209) (lv' := [(0, .ref 129), (1, .int x1), (2, .int x2)]) (st' := [.int (gi M 130 7)]) (h' := hp M) rfl ?_
      obtain ⟨rfl, rfl⟩ := Prod.mk.inj (Option.some.inj h)
      exact am_Y.ret rfl
    · replace h := (if_neg hc).symm.trans h
      refine am_Y.run (k := 12) (pc' := 194) (lv' := [(0, .ref 129), (1, .int x1), (2, .int x2)]) (st' := [.int ((x1 + (39 : Int32)) + x2), .ref 130, .int ((68 : Int32) + x2), .ref 130]) (h' := hp M) rfl ?_
      obtain ⟨g, h⟩ := am_itg h
      refine am_Y.iald (a := 125) (n := 3826) rfl rfl g ?_
      obtain ⟨g, h⟩ := am_itg h
      refine am_Y.iast (a := 125) (n := 3826) rfl rfl g ?_
      refine am_Y.run (k := 0) (pc' := _) (lv' := [(0, .ref 129), (1, .int x1), (2, .int x2)]) (st' := []) (h' := hp (si M 130 (((68 : Int32) + x2)).toNatClampNeg (gi M 130 (((x1 + (39 : Int32)) + x2)).toNatClampNeg))) rfl ?_
      obtain ⟨q7, e_q7, h⟩ := Option.bind_eq_some_iff.mp h
      rw [Option.some.inj e_q7]
      refine am_Y.run (k := 2) (pc' := 170) (lv' := [(2, .int (x2 + (1 : Int32))), (0, .ref 129), (1, .int x1)]) (st' := []) (h' := hp q7) rfl ?_
      refine am_Y.weak (lv2 := [(0, .ref 129), (1, .int x1), (2, .int (x2 + (1 : Int32)))]) rfl rfl ⟨rfl, rfl, rfl, trivial⟩ ?_
      exact ih x1 (x2 + (1 : Int32)) q7 _ _ h
set_option maxRecDepth 100000 in
theorem t_m_undo_101 {S : Nat × (Nat → Int32)} (N : Nat) : ∀ (n : Nat) (x1 : Int32) (x2 : Int32) (M : Mem) (r : Int32) (M' : Mem), f_m_undo_101 N n x1 x2 M = some (r, M') → am_Y S 2 0 0 am_M29 101 [(0, .ref 129), (1, .int x1), (2, .int x2)] [] (hp M) (some (.int r)) (hp M') := by
  intro n
  induction n with
  | zero =>
    intro x1 x2 M r M' h
    cases h
  | succ n ih =>
    intro x1 x2 M r M' h
    rw [f_m_undo_101] at h
    refine am_Y.run (k := 5) (pc' := 108) (lv' := [(0, .ref 129), (1, .int x1), (2, .int x2)]) (st' := [.int (gi M 130 0), .int x2]) (h' := hp M) rfl ?_
    refine am_Y.br (c := (gi M 130 0) ≤ x2) _ (t := 168) (u := 111) (lv' := [(0, .ref 129), (1, .int x1), (2, .int x2)]) (st' := []) (h' := hp M) rfl (fun hc => ?_) (fun hc => ?_)
    · replace h := (if_pos hc).symm.trans h
      refine am_Y.run (k := 2) (pc' := 170) (lv' := [(2, .int (0 : Int32)), (0, .ref 129), (1, .int x1)]) (st' := []) (h' := hp M) rfl ?_
      refine am_Y.weak (lv2 := [(0, .ref 129), (1, .int x1), (2, .int (0 : Int32))]) rfl rfl ⟨rfl, rfl, rfl, trivial⟩ ?_
      exact t_m_undo_170 N N x1 (0 : Int32) M _ _ h
    · replace h := (if_neg hc).symm.trans h
      refine am_Y.run (k := 2) (pc' := 113) (lv' := [(0, .ref 129), (1, .int x1), (2, .int x2)]) (st' := [.int x2, .ref 129]) (h' := hp M) rfl ?_
      obtain ⟨q5, e_q5, h⟩ := Option.bind_eq_some_iff.mp h
      refine am_Y.call0 (M' := am_M106) (as := [.ref 129, .int x2]) (rest := []) (d' := 1) rfl (by omega) rfl rfl (t_m_sit x2 M q5 e_q5) ?_
      refine am_Y.run (k := 2) (pc' := 118) (lv' := [(3, .int (0 : Int32)), (0, .ref 129), (1, .int x1), (2, .int x2)]) (st' := []) (h' := hp q5) rfl ?_
      refine am_Y.weak (lv2 := [(0, .ref 129), (1, .int x1), (2, .int x2), (3, .int (0 : Int32))]) rfl rfl ⟨rfl, rfl, rfl, rfl, trivial⟩ ?_
      exact t_m_undo_118 N _ ih N x1 x2 (0 : Int32) q5 _ _ h
set_option maxRecDepth 100000 in
theorem t_m_undo_39 {S : Nat × (Nat → Int32)} (N : Nat) : ∀ (n : Nat) (x1 : Int32) (x2 : Int32) (M : Mem) (r : Int32) (M' : Mem), f_m_undo_39 N n x1 x2 M = some (r, M') → am_Y S 2 0 0 am_M29 39 [(0, .ref 129), (1, .int x1), (2, .int x2)] [] (hp M) (some (.int r)) (hp M') := by
  intro n
  induction n with
  | zero =>
    intro x1 x2 M r M' h
    cases h
  | succ n ih =>
    intro x1 x2 M r M' h
    rw [f_m_undo_39] at h
    refine am_Y.run (k := 2) (pc' := 41) (lv' := [(0, .ref 129), (1, .int x1), (2, .int x2)]) (st' := [.int (4 : Int32), .int x2]) (h' := hp M) rfl ?_
    refine am_Y.br (c := (4 : Int32) ≤ x2) _ (t := 68) (u := 44) (lv' := [(0, .ref 129), (1, .int x1), (2, .int x2)]) (st' := []) (h' := hp M) rfl (fun hc => ?_) (fun hc => ?_)
    · replace h := (if_pos hc).symm.trans h
      refine am_Y.run (k := 8) (pc' := 81) (lv' := [(0, .ref 129), (1, .int x1), (2, .int x2)]) (st' := [.int (x1 + (5 : Int32)), .ref 130, .int (8 : Int32), .ref 130]) (h' := hp M) rfl ?_
      obtain ⟨g, h⟩ := am_itg h
      refine am_Y.iald (a := 125) (n := 3826) rfl rfl g ?_
      refine am_Y.run (k := 1) (pc' := 83) (lv' := [(0, .ref 129), (1, .int x1), (2, .int x2)]) (st' := []) (h' := hp (si M 130 8 (gi M 130 ((x1 + (5 : Int32))).toNatClampNeg))) rfl ?_
      obtain ⟨q2, e_q2, h⟩ := Option.bind_eq_some_iff.mp h
      rw [Option.some.inj e_q2]
      refine am_Y.run (k := 8) (pc' := 97) (lv' := [(0, .ref 129), (1, .int x1), (2, .int x2)]) (st' := [.int (x1 + (6 : Int32)), .ref 130, .int (9 : Int32), .ref 130]) (h' := hp q2) rfl ?_
      obtain ⟨g, h⟩ := am_itg h
      refine am_Y.iald (a := 125) (n := 3826) rfl rfl g ?_
      refine am_Y.run (k := 1) (pc' := 99) (lv' := [(0, .ref 129), (1, .int x1), (2, .int x2)]) (st' := []) (h' := hp (si q2 130 9 (gi q2 130 ((x1 + (6 : Int32))).toNatClampNeg))) rfl ?_
      obtain ⟨q3, e_q3, h⟩ := Option.bind_eq_some_iff.mp h
      rw [Option.some.inj e_q3]
      refine am_Y.run (k := 2) (pc' := 101) (lv' := [(2, .int (0 : Int32)), (0, .ref 129), (1, .int x1)]) (st' := []) (h' := hp q3) rfl ?_
      refine am_Y.weak (lv2 := [(0, .ref 129), (1, .int x1), (2, .int (0 : Int32))]) rfl rfl ⟨rfl, rfl, rfl, trivial⟩ ?_
      exact t_m_undo_101 N N x1 (0 : Int32) q3 _ _ h
    · replace h := (if_neg hc).symm.trans h
      refine am_Y.run (k := 12) (pc' := 60) (lv' := [(0, .ref 129), (1, .int x1), (2, .int x2)]) (st' := [.int ((x1 + (1 : Int32)) + x2), .ref 130, .int ((1 : Int32) + x2), .ref 130]) (h' := hp M) rfl ?_
      obtain ⟨g, h⟩ := am_itg h
      refine am_Y.iald (a := 125) (n := 3826) rfl rfl g ?_
      obtain ⟨g, h⟩ := am_itg h
      refine am_Y.iast (a := 125) (n := 3826) rfl rfl g ?_
      refine am_Y.run (k := 0) (pc' := _) (lv' := [(0, .ref 129), (1, .int x1), (2, .int x2)]) (st' := []) (h' := hp (si M 130 (((1 : Int32) + x2)).toNatClampNeg (gi M 130 (((x1 + (1 : Int32)) + x2)).toNatClampNeg))) rfl ?_
      obtain ⟨q4, e_q4, h⟩ := Option.bind_eq_some_iff.mp h
      rw [Option.some.inj e_q4]
      refine am_Y.run (k := 2) (pc' := 39) (lv' := [(2, .int (x2 + (1 : Int32))), (0, .ref 129), (1, .int x1)]) (st' := []) (h' := hp q4) rfl ?_
      refine am_Y.weak (lv2 := [(0, .ref 129), (1, .int x1), (2, .int (x2 + (1 : Int32)))]) rfl rfl ⟨rfl, rfl, rfl, trivial⟩ ?_
      exact ih x1 (x2 + (1 : Int32)) q4 _ _ h
set_option maxRecDepth 100000 in
theorem t_m_undo {S : Nat × (Nat → Int32)} (N : Nat) (M : Mem) (r : Int32) (M' : Mem) (h : f_m_undo N M = some (r, M')) : am_Y S 2 0 0 am_M29 0 [(0, .ref 129)] [] (hp M) (some (.int r)) (hp M') := by
  rw [f_m_undo] at h
  refine am_Y.run (k := 4) (pc' := 7) (lv' := [(0, .ref 129)]) (st' := [.int (gi M 130 7)]) (h' := hp M) rfl ?_
  refine am_Y.br (c := (gi M 130 7) = (0 : Int32)) _ (t := 10) (u := 12) (lv' := [(0, .ref 129)]) (st' := []) (h' := hp M) rfl (fun hc => ?_) (fun hc => ?_)
  · replace h := (if_pos hc).symm.trans h
    refine am_Y.run (k := 1) (pc' := 11) (lv' := [(0, .ref 129)]) (st' := [.int (-1 : Int32)]) (h' := hp M) rfl ?_
    obtain ⟨rfl, rfl⟩ := Prod.mk.inj (Option.some.inj h)
    exact am_Y.ret rfl
  · replace h := (if_neg hc).symm.trans h
    refine am_Y.run (k := 8) (pc' := 23) (lv' := [(0, .ref 129)]) (st' := []) (h' := hp (si M 130 7 ((gi M 130 7) - (1 : Int32)))) rfl ?_
    obtain ⟨q1, e_q1, h⟩ := Option.bind_eq_some_iff.mp h
    rw [Option.some.inj e_q1]
    refine am_Y.run (k := 11) (pc' := 39) (lv' := [(2, .int (0 : Int32)), (1, .int ((126 : Int32) + ((80 : Int32) * (gi q1 130 7)))), (0, .ref 129)]) (st' := []) (h' := hp q1) rfl ?_
    refine am_Y.weak (lv2 := [(0, .ref 129), (1, .int ((126 : Int32) + ((80 : Int32) * (gi q1 130 7)))), (2, .int (0 : Int32))]) rfl rfl ⟨rfl, rfl, rfl, trivial⟩ ?_
    exact t_m_undo_39 N N ((126 : Int32) + ((80 : Int32) * (gi q1 130 7))) (0 : Int32) q1 _ _ h
set_option maxRecDepth 100000 in
theorem t_e_countOf_5 {S : Nat × (Nat → Int32)} (N : Nat) : ∀ (n : Nat) (x1 : Int32) (x2 : Int32) (x3 : Int32) (x4 : Int32) (M : Mem) (r : Int32), f_e_countOf_5 N n x1 x2 x3 x4 M = some r → am_Y S 1 0 0 am_M142 5 [(0, .ref 11), (1, .int x1), (2, .int x2), (3, .int x3), (4, .int x4)] [] (hp M) (some (.int r)) (hp M) := by
  intro n
  induction n with
  | zero =>
    intro x1 x2 x3 x4 M r h
    cases h
  | succ n ih =>
    intro x1 x2 x3 x4 M r h
    rw [f_e_countOf_5] at h
    refine am_Y.run (k := 2) (pc' := 8) (lv' := [(0, .ref 11), (1, .int x1), (2, .int x2), (3, .int x3), (4, .int x4)]) (st' := [.ref 11, .int x4]) (h' := hp M) rfl ?_
    refine am_Y.call0 (M' := am_M151) (as := [.ref 11]) (rest := [.int x4]) (d' := 0) rfl (by omega) rfl rfl (t_e_spoken M _ rfl) ?_
    refine am_Y.br (c := (f_e_spoken M) ≤ x4) _ (t := 49) (u := 14) (lv' := [(0, .ref 11), (1, .int x1), (2, .int x2), (3, .int x3), (4, .int x4)]) (st' := []) (h' := hp M) rfl (fun hc => ?_) (fun hc => ?_)
    · replace h := (if_pos hc).symm.trans h
      refine am_Y.run (k := 1) (pc' := 50) (lv' := [(0, .ref 11), (1, .int x1), (2, .int x2), (3, .int x3), (4, .int x4)]) (st' := [.int x3]) (h' := hp M) rfl ?_
      obtain rfl := Option.some.inj h
      exact am_Y.ret rfl
    · replace h := (if_neg hc).symm.trans h
      refine am_Y.run (k := 2) (pc' := 17) (lv' := [(0, .ref 11), (1, .int x1), (2, .int x2), (3, .int x3), (4, .int x4)]) (st' := [.int x4, .ref 11]) (h' := hp M) rfl ?_
      obtain ⟨q1, e_q1, h⟩ := Option.bind_eq_some_iff.mp h
      refine am_Y.call0 (M' := am_M152) (as := [.ref 11, .int x4]) (rest := []) (d' := 0) rfl (by omega) rfl rfl (t_e_entry x4 M q1 e_q1) ?_
      refine am_Y.run (k := 2) (pc' := 24) (lv' := [(5, .int q1), (0, .ref 11), (1, .int x1), (2, .int x2), (3, .int x3), (4, .int x4)]) (st' := [.int q1]) (h' := hp M) rfl ?_
      refine am_Y.call0 (M' := am_M154) (as := [.int q1]) (rest := []) (d' := 0) rfl (by omega) rfl rfl (t_e_whoOf q1 M _ rfl) ?_
      refine am_Y.run (k := 1) (pc' := 28) (lv' := [(5, .int q1), (0, .ref 11), (1, .int x1), (2, .int x2), (3, .int x3), (4, .int x4)]) (st' := [.int x1, .int (f_e_whoOf q1 M)]) (h' := hp M) rfl ?_
      refine am_Y.br (c := (f_e_whoOf q1 M) = x1) _ (t := 31) (u := 43) (lv' := [(5, .int q1), (0, .ref 11), (1, .int x1), (2, .int x2), (3, .int x3), (4, .int x4)]) (st' := []) (h' := hp M) rfl (fun hc => ?_) (fun hc => ?_)
      · replace h := (if_pos hc).symm.trans h
        refine am_Y.run (k := 1) (pc' := 33) (lv' := [(5, .int q1), (0, .ref 11), (1, .int x1), (2, .int x2), (3, .int x3), (4, .int x4)]) (st' := [.int q1]) (h' := hp M) rfl ?_
        refine am_Y.call0 (M' := am_M155) (as := [.int q1]) (rest := []) (d' := 0) rfl (by omega) rfl rfl (t_e_kindOf q1 M _ rfl) ?_
        refine am_Y.run (k := 1) (pc' := 37) (lv' := [(5, .int q1), (0, .ref 11), (1, .int x1), (2, .int x2), (3, .int x3), (4, .int x4)]) (st' := [.int x2, .int (f_e_kindOf q1 M)]) (h' := hp M) rfl ?_
        refine am_Y.br (c := (f_e_kindOf q1 M) = x2) _ (t := 40) (u := 43) (lv' := [(5, .int q1), (0, .ref 11), (1, .int x1), (2, .int x2), (3, .int x3), (4, .int x4)]) (st' := []) (h' := hp M) rfl (fun hc => ?_) (fun hc => ?_)
        · replace h := (if_pos hc).symm.trans h
          refine am_Y.run (k := 3) (pc' := 5) (lv' := [(4, .int (x4 + (1 : Int32))), (3, .int (x3 + (1 : Int32))), (5, .int q1), (0, .ref 11), (1, .int x1), (2, .int x2)]) (st' := []) (h' := hp M) rfl ?_
          refine am_Y.weak (lv2 := [(0, .ref 11), (1, .int x1), (2, .int x2), (3, .int (x3 + (1 : Int32))), (4, .int (x4 + (1 : Int32)))]) rfl rfl ⟨rfl, rfl, rfl, rfl, rfl, trivial⟩ ?_
          exact ih x1 x2 (x3 + (1 : Int32)) (x4 + (1 : Int32)) M _ h
        · replace h := (if_neg hc).symm.trans h
          refine am_Y.run (k := 2) (pc' := 5) (lv' := [(4, .int (x4 + (1 : Int32))), (5, .int q1), (0, .ref 11), (1, .int x1), (2, .int x2), (3, .int x3)]) (st' := []) (h' := hp M) rfl ?_
          refine am_Y.weak (lv2 := [(0, .ref 11), (1, .int x1), (2, .int x2), (3, .int x3), (4, .int (x4 + (1 : Int32)))]) rfl rfl ⟨rfl, rfl, rfl, rfl, rfl, trivial⟩ ?_
          exact ih x1 x2 x3 (x4 + (1 : Int32)) M _ h
      · replace h := (if_neg hc).symm.trans h
        refine am_Y.run (k := 2) (pc' := 5) (lv' := [(4, .int (x4 + (1 : Int32))), (5, .int q1), (0, .ref 11), (1, .int x1), (2, .int x2), (3, .int x3)]) (st' := []) (h' := hp M) rfl ?_
        refine am_Y.weak (lv2 := [(0, .ref 11), (1, .int x1), (2, .int x2), (3, .int x3), (4, .int (x4 + (1 : Int32)))]) rfl rfl ⟨rfl, rfl, rfl, rfl, rfl, trivial⟩ ?_
        exact ih x1 x2 x3 (x4 + (1 : Int32)) M _ h
set_option maxRecDepth 100000 in
theorem t_e_countOf {S : Nat × (Nat → Int32)} (N : Nat) (x1 : Int32) (x2 : Int32) (M : Mem) (r : Int32) (h : f_e_countOf N x1 x2 M = some r) : am_Y S 1 0 0 am_M142 0 [(0, .ref 11), (1, .int x1), (2, .int x2)] [] (hp M) (some (.int r)) (hp M) := by
  rw [f_e_countOf] at h
  refine am_Y.run (k := 4) (pc' := 5) (lv' := [(4, .int (0 : Int32)), (3, .int (0 : Int32)), (0, .ref 11), (1, .int x1), (2, .int x2)]) (st' := []) (h' := hp M) rfl ?_
  refine am_Y.weak (lv2 := [(0, .ref 11), (1, .int x1), (2, .int x2), (3, .int (0 : Int32)), (4, .int (0 : Int32))]) rfl rfl ⟨rfl, rfl, rfl, rfl, rfl, trivial⟩ ?_
  exact t_e_countOf_5 N N x1 x2 (0 : Int32) (0 : Int32) M _ h
set_option maxRecDepth 100000 in
theorem t_w_of {S : Nat × (Nat → Int32)} (N : Nat) (x1 : Int32) (x2 : Int32) (M : Mem) (r : Int32) (M' : Mem) (h : f_w_of N x1 x2 M = some (r, M')) : am_Y S 5 0 0 am_M30 0 [(0, .ref 5), (1, .int x1), (2, .int x2)] [] (hp M) (some (.int r)) (hp M') := by
  rw [f_w_of] at h
  refine am_Y.run (k := 4) (pc' := 8) (lv' := [(0, .ref 5), (1, .int x1), (2, .int x2)]) (st' := [.int x1, .ref 7]) (h' := hp M) rfl ?_
  refine am_Y.call0 (M' := am_M140) (as := [.ref 7, .int x1]) (rest := []) (d' := 1) rfl (by omega) rfl rfl (t_g_knows x1 M _ rfl) ?_
  refine am_Y.br (c := (f_g_knows x1 M) = (0 : Int32)) _ (t := 14) (u := 17) (lv' := [(0, .ref 5), (1, .int x1), (2, .int x2)]) (st' := []) (h' := hp M) rfl (fun hc => ?_) (fun hc => ?_)
  · replace h := (if_pos hc).symm.trans h
    refine am_Y.run (k := 1) (pc' := 16) (lv' := [(0, .ref 5), (1, .int x1), (2, .int x2)]) (st' := [.int (-2 : Int32)]) (h' := hp M) rfl ?_
    obtain ⟨rfl, rfl⟩ := Prod.mk.inj (Option.some.inj h)
    exact am_Y.ret rfl
  · replace h := (if_neg hc).symm.trans h
    refine am_Y.run (k := 1) (pc' := 18) (lv' := [(0, .ref 5), (1, .int x1), (2, .int x2)]) (st' := [.int x2]) (h' := hp M) rfl ?_
    by_cases hc0 : x2 = (0 : Int32)
    · replace h := (if_pos hc0).symm.trans h
      refine am_Y.one (pc' := 64) (lv' := [(0, .ref 5), (1, .int x1), (2, .int x2)]) (st' := []) (h' := hp M) (am_swc hc0 rfl) ?_
      refine am_Y.run (k := 5) (pc' := 75) (lv' := [(0, .ref 5), (1, .int x1), (2, .int x2)]) (st' := [.int x1, .ref 8]) (h' := hp M) rfl ?_
      obtain ⟨g, h⟩ := am_itg h
      refine am_Y.iald (a := 3) (n := 8) rfl rfl g ?_
      obtain ⟨rfl, rfl⟩ := Prod.mk.inj (Option.some.inj h)
      exact am_Y.ret rfl
    replace h := (if_neg hc0).symm.trans h
    by_cases hc1 : x2 = (1 : Int32)
    · replace h := (if_pos hc1).symm.trans h
      refine am_Y.one (pc' := 77) (lv' := [(0, .ref 5), (1, .int x1), (2, .int x2)]) (st' := []) (h' := hp M) (am_swc hc1 rfl) ?_
      refine am_Y.run (k := 5) (pc' := 88) (lv' := [(0, .ref 5), (1, .int x1), (2, .int x2)]) (st' := [.int x1, .ref 9]) (h' := hp M) rfl ?_
      obtain ⟨g, h⟩ := am_itg h
      refine am_Y.iald (a := 4) (n := 8) rfl rfl g ?_
      obtain ⟨rfl, rfl⟩ := Prod.mk.inj (Option.some.inj h)
      exact am_Y.ret rfl
    replace h := (if_neg hc1).symm.trans h
    by_cases hc2 : x2 = (2 : Int32)
    · replace h := (if_pos hc2).symm.trans h
      refine am_Y.one (pc' := 90) (lv' := [(0, .ref 5), (1, .int x1), (2, .int x2)]) (st' := []) (h' := hp M) (am_swc hc2 rfl) ?_
      refine am_Y.run (k := 5) (pc' := 101) (lv' := [(0, .ref 5), (1, .int x1), (2, .int x2)]) (st' := [.int x1, .ref 10]) (h' := hp M) rfl ?_
      obtain ⟨g, h⟩ := am_itg h
      refine am_Y.iald (a := 5) (n := 8) rfl rfl g ?_
      obtain ⟨rfl, rfl⟩ := Prod.mk.inj (Option.some.inj h)
      exact am_Y.ret rfl
    replace h := (if_neg hc2).symm.trans h
    by_cases hc3 : x2 = (3 : Int32)
    · replace h := (if_pos hc3).symm.trans h
      refine am_Y.one (pc' := 103) (lv' := [(0, .ref 5), (1, .int x1), (2, .int x2)]) (st' := []) (h' := hp M) (am_swc hc3 rfl) ?_
      refine am_Y.run (k := 3) (pc' := 108) (lv' := [(0, .ref 5), (1, .int x1), (2, .int x2)]) (st' := [.int x1, .ref 6]) (h' := hp M) rfl ?_
      refine am_Y.call0 (M' := am_M126) (as := [.ref 6, .int x1]) (rest := []) (d' := 2) rfl (by omega) rfl rfl (t_t_isThere x1 M _ rfl) ?_
      refine am_Y.br (c := (f_t_isThere x1 M) = (0 : Int32)) _ (t := 118) (u := 114) (lv' := [(0, .ref 5), (1, .int x1), (2, .int x2)]) (st' := []) (h' := hp M) rfl (fun hc => ?_) (fun hc => ?_)
      · replace h := (if_pos hc).symm.trans h
        refine am_Y.run (k := 1) (pc' := 119) (lv' := [(0, .ref 5), (1, .int x1), (2, .int x2)]) (st' := [.int (0 : Int32)]) (h' := hp M) rfl ?_
        obtain ⟨rfl, rfl⟩ := Prod.mk.inj (Option.some.inj h)
        exact am_Y.ret rfl
      · replace h := (if_neg hc).symm.trans h
        refine am_Y.run (k := 2) (pc' := 119) (lv' := [(0, .ref 5), (1, .int x1), (2, .int x2)]) (st' := [.int (1 : Int32)]) (h' := hp M) rfl ?_
        obtain ⟨rfl, rfl⟩ := Prod.mk.inj (Option.some.inj h)
        exact am_Y.ret rfl
    replace h := (if_neg hc3).symm.trans h
    by_cases hc4 : x2 = (4 : Int32)
    · replace h := (if_pos hc4).symm.trans h
      refine am_Y.one (pc' := 120) (lv' := [(0, .ref 5), (1, .int x1), (2, .int x2)]) (st' := []) (h' := hp M) (am_swc hc4 rfl) ?_
      refine am_Y.run (k := 4) (pc' := 128) (lv' := [(0, .ref 5), (1, .int x1), (2, .int x2)]) (st' := [.int x1, .ref 11]) (h' := hp M) rfl ?_
      obtain ⟨q1, e_q1, h⟩ := Option.bind_eq_some_iff.mp h
      refine am_Y.call0 (M' := am_M141) (as := [.ref 11, .int x1]) (rest := []) (d' := 1) rfl (by omega) rfl rfl (t_e_wordsOf N x1 M q1 e_q1) ?_
      obtain ⟨rfl, rfl⟩ := Prod.mk.inj (Option.some.inj h)
      exact am_Y.ret rfl
    replace h := (if_neg hc4).symm.trans h
    by_cases hc5 : x2 = (5 : Int32)
    · replace h := (if_pos hc5).symm.trans h
      refine am_Y.one (pc' := 132) (lv' := [(0, .ref 5), (1, .int x1), (2, .int x2)]) (st' := []) (h' := hp M) (am_swc hc5 rfl) ?_
      refine am_Y.run (k := 5) (pc' := 141) (lv' := [(0, .ref 5), (1, .int x1), (2, .int x2)]) (st' := [.int (2 : Int32), .int x1, .ref 11]) (h' := hp M) rfl ?_
      obtain ⟨q2, e_q2, h⟩ := Option.bind_eq_some_iff.mp h
      refine am_Y.call0 (M' := am_M142) (as := [.ref 11, .int x1, .int (2 : Int32)]) (rest := []) (d' := 1) rfl (by omega) rfl rfl (t_e_countOf N x1 (2 : Int32) M q2 e_q2) ?_
      obtain ⟨rfl, rfl⟩ := Prod.mk.inj (Option.some.inj h)
      exact am_Y.ret rfl
    replace h := (if_neg hc5).symm.trans h
    by_cases hc6 : x2 = (6 : Int32)
    · replace h := (if_pos hc6).symm.trans h
      refine am_Y.one (pc' := 145) (lv' := [(0, .ref 5), (1, .int x1), (2, .int x2)]) (st' := []) (h' := hp M) (am_swc hc6 rfl) ?_
      refine am_Y.run (k := 4) (pc' := 153) (lv' := [(0, .ref 5), (1, .int x1), (2, .int x2)]) (st' := [.int x1, .ref 11]) (h' := hp M) rfl ?_
      obtain ⟨q3, e_q3, h⟩ := Option.bind_eq_some_iff.mp h
      refine am_Y.call0 (M' := am_M143) (as := [.ref 11, .int x1]) (rest := []) (d' := 1) rfl (by omega) rfl rfl (t_e_lastOf N x1 M q3 e_q3) ?_
      obtain ⟨rfl, rfl⟩ := Prod.mk.inj (Option.some.inj h)
      exact am_Y.ret rfl
    replace h := (if_neg hc6).symm.trans h
    by_cases hc7 : x2 = (7 : Int32)
    · replace h := (if_pos hc7).symm.trans h
      refine am_Y.one (pc' := 157) (lv' := [(0, .ref 5), (1, .int x1), (2, .int x2)]) (st' := []) (h' := hp M) (am_swc hc7 rfl) ?_
      refine am_Y.run (k := 8) (pc' := 173) (lv' := [(0, .ref 5), (1, .int x1), (2, .int x2)]) (st' := [.int (gi M 6 5), .ref 5, .ref 6, .ref 108]) (h' := hp M) rfl ?_
      cases hs : w_scr (gi M 6 5) with
      | none =>
        rw [hs] at h
        refine am_Y.call0 (M' := am_M110) (as := [.ref 5, .int (gi M 6 5)]) (rest := [.ref 6, .ref 108]) (d' := 1) rfl (by omega) rfl rfl (t_w_scriptAt_n (gi M 6 5) M hs) ?_
        refine am_Y.run (k := 2) (pc' := 178) (lv' := [(0, .ref 5), (1, .int x1), (2, .int x2)]) (st' := [.int (0 : Int32), .int x1, .null, .ref 6, .ref 108]) (h' := hp M) rfl ?_
        obtain ⟨q4, e_q4, h⟩ := Option.bind_eq_some_iff.mp h
        refine am_Y.call0 (M' := am_M144) (as := [.ref 108, .ref 6, .null, .int x1, .int (0 : Int32)]) (rest := []) (d' := 2) rfl (by omega) rfl rfl (t_l_whenFalls_108_6_null x1 (0 : Int32) M q4 e_q4) ?_
        obtain ⟨rfl, rfl⟩ := Prod.mk.inj (Option.some.inj h)
        exact am_Y.ret rfl
      | some a =>
        rw [hs] at h
        rcases w_scr_cases hs with rfl | rfl | rfl | rfl
        · refine am_Y.call0 (M' := am_M110) (as := [.ref 5, .int (gi M 6 5)]) (rest := [.ref 6, .ref 108]) (d' := 1) rfl (by omega) rfl rfl (t_w_scriptAt_s (gi M 6 5) M hs) ?_
          refine am_Y.run (k := 2) (pc' := 178) (lv' := [(0, .ref 5), (1, .int x1), (2, .int x2)]) (st' := [.int (0 : Int32), .int x1, .ref 113, .ref 6, .ref 108]) (h' := hp M) rfl ?_
          obtain ⟨q5, e_q5, h⟩ := Option.bind_eq_some_iff.mp h
          refine am_Y.call0 (M' := am_M144) (as := [.ref 108, .ref 6, .ref 113, .int x1, .int (0 : Int32)]) (rest := []) (d' := 4) rfl (by omega) rfl rfl (t_l_whenFalls_108_6_a_113 N x1 (0 : Int32) M q5.1 q5.2 e_q5) ?_
          obtain ⟨rfl, rfl⟩ := Prod.mk.inj (Option.some.inj h)
          exact am_Y.ret rfl
        · refine am_Y.call0 (M' := am_M110) (as := [.ref 5, .int (gi M 6 5)]) (rest := [.ref 6, .ref 108]) (d' := 1) rfl (by omega) rfl rfl (t_w_scriptAt_s (gi M 6 5) M hs) ?_
          refine am_Y.run (k := 2) (pc' := 178) (lv' := [(0, .ref 5), (1, .int x1), (2, .int x2)]) (st' := [.int (0 : Int32), .int x1, .ref 117, .ref 6, .ref 108]) (h' := hp M) rfl ?_
          obtain ⟨q5, e_q5, h⟩ := Option.bind_eq_some_iff.mp h
          refine am_Y.call0 (M' := am_M144) (as := [.ref 108, .ref 6, .ref 117, .int x1, .int (0 : Int32)]) (rest := []) (d' := 4) rfl (by omega) rfl rfl (t_l_whenFalls_108_6_a_117 N x1 (0 : Int32) M q5.1 q5.2 e_q5) ?_
          obtain ⟨rfl, rfl⟩ := Prod.mk.inj (Option.some.inj h)
          exact am_Y.ret rfl
        · refine am_Y.call0 (M' := am_M110) (as := [.ref 5, .int (gi M 6 5)]) (rest := [.ref 6, .ref 108]) (d' := 1) rfl (by omega) rfl rfl (t_w_scriptAt_s (gi M 6 5) M hs) ?_
          refine am_Y.run (k := 2) (pc' := 178) (lv' := [(0, .ref 5), (1, .int x1), (2, .int x2)]) (st' := [.int (0 : Int32), .int x1, .ref 121, .ref 6, .ref 108]) (h' := hp M) rfl ?_
          obtain ⟨q5, e_q5, h⟩ := Option.bind_eq_some_iff.mp h
          refine am_Y.call0 (M' := am_M144) (as := [.ref 108, .ref 6, .ref 121, .int x1, .int (0 : Int32)]) (rest := []) (d' := 4) rfl (by omega) rfl rfl (t_l_whenFalls_108_6_a_121 N x1 (0 : Int32) M q5.1 q5.2 e_q5) ?_
          obtain ⟨rfl, rfl⟩ := Prod.mk.inj (Option.some.inj h)
          exact am_Y.ret rfl
        · refine am_Y.call0 (M' := am_M110) (as := [.ref 5, .int (gi M 6 5)]) (rest := [.ref 6, .ref 108]) (d' := 1) rfl (by omega) rfl rfl (t_w_scriptAt_s (gi M 6 5) M hs) ?_
          refine am_Y.run (k := 2) (pc' := 178) (lv' := [(0, .ref 5), (1, .int x1), (2, .int x2)]) (st' := [.int (0 : Int32), .int x1, .ref 125, .ref 6, .ref 108]) (h' := hp M) rfl ?_
          obtain ⟨q5, e_q5, h⟩ := Option.bind_eq_some_iff.mp h
          refine am_Y.call0 (M' := am_M144) (as := [.ref 108, .ref 6, .ref 125, .int x1, .int (0 : Int32)]) (rest := []) (d' := 4) rfl (by omega) rfl rfl (t_l_whenFalls_108_6_a_125 N x1 (0 : Int32) M q5.1 q5.2 e_q5) ?_
          obtain ⟨rfl, rfl⟩ := Prod.mk.inj (Option.some.inj h)
          exact am_Y.ret rfl
    replace h := (if_neg hc7).symm.trans h
    refine am_Y.one (pc' := 182) (lv' := [(0, .ref 5), (1, .int x1), (2, .int x2)]) (st' := []) (h' := hp M) (am_swd (x := x2) rfl (by have := am_neT (0) hc0 (by decide); have := am_neT (1) hc1 (by decide); have := am_neT (2) hc2 (by decide); have := am_neT (3) hc3 (by decide); have := am_neT (4) hc4 (by decide); have := am_neT (5) hc5 (by decide); have := am_neT (6) hc6 (by decide); have := am_neT (7) hc7 (by decide); omega) rfl) ?_
    refine am_Y.run (k := 1) (pc' := 184) (lv' := [(0, .ref 5), (1, .int x1), (2, .int x2)]) (st' := [.int (-2 : Int32)]) (h' := hp M) rfl ?_
    obtain ⟨rfl, rfl⟩ := Prod.mk.inj (Option.some.inj h)
    exact am_Y.ret rfl
set_option maxRecDepth 100000 in
theorem t_m_of {S : Nat × (Nat → Int32)} (N : Nat) (x1 : Int32) (x2 : Int32) (M : Mem) (r : Int32) (M' : Mem) (h : f_m_of N x1 x2 M = some (r, M')) : am_Y S 5 0 0 am_M31 0 [(0, .ref 129), (1, .int x1), (2, .int x2)] [] (hp M) (some (.int r)) (hp M') := by
  rw [f_m_of] at h
  refine am_Y.run (k := 2) (pc' := 2) (lv' := [(0, .ref 129), (1, .int x1), (2, .int x2)]) (st' := [.int x1, .ref 129]) (h' := hp M) rfl ?_
  refine am_Y.call0 (M' := am_M115) (as := [.ref 129, .int x1]) (rest := []) (d' := 1) rfl (by omega) rfl rfl (t_m_isGuest x1 M _ rfl) ?_
  refine am_Y.br (c := (f_m_isGuest x1 M) = (0 : Int32)) _ (t := 18) (u := 8) (lv' := [(0, .ref 129), (1, .int x1), (2, .int x2)]) (st' := []) (h' := hp M) rfl (fun hc => ?_) (fun hc => ?_)
  · replace h := (if_pos hc).symm.trans h
    refine am_Y.run (k := 1) (pc' := 20) (lv' := [(0, .ref 129), (1, .int x1), (2, .int x2)]) (st' := [.int (-2 : Int32)]) (h' := hp M) rfl ?_
    obtain ⟨rfl, rfl⟩ := Prod.mk.inj (Option.some.inj h)
    exact am_Y.ret rfl
  · replace h := (if_neg hc).symm.trans h
    refine am_Y.run (k := 3) (pc' := 12) (lv' := [(0, .ref 129), (1, .int x1), (2, .int x2)]) (st' := [.int (7 : Int32), .int (0 : Int32), .int x2]) (h' := hp M) rfl ?_
    refine am_Y.call0 (M' := am_M104) (as := [.int x2, .int (0 : Int32), .int (7 : Int32)]) (rest := []) (d' := 0) rfl (by omega) rfl rfl (t_m_isIn x2 (0 : Int32) (7 : Int32) M _ rfl) ?_
    refine am_Y.br (c := (f_m_isIn x2 (0 : Int32) (7 : Int32) M) = (0 : Int32)) _ (t := 18) (u := 21) (lv' := [(0, .ref 129), (1, .int x1), (2, .int x2)]) (st' := []) (h' := hp M) rfl (fun hc => ?_) (fun hc => ?_)
    · replace h := (if_pos hc).symm.trans h
      refine am_Y.run (k := 1) (pc' := 20) (lv' := [(0, .ref 129), (1, .int x1), (2, .int x2)]) (st' := [.int (-2 : Int32)]) (h' := hp M) rfl ?_
      obtain ⟨rfl, rfl⟩ := Prod.mk.inj (Option.some.inj h)
      exact am_Y.ret rfl
    · replace h := (if_neg hc).symm.trans h
      refine am_Y.run (k := 2) (pc' := 24) (lv' := [(0, .ref 129), (1, .int x1), (2, .int x2)]) (st' := [.int (7 : Int32), .int x2]) (h' := hp M) rfl ?_
      refine am_Y.br (c := x2 = (7 : Int32)) _ (t := 27) (u := 36) (lv' := [(0, .ref 129), (1, .int x1), (2, .int x2)]) (st' := []) (h' := hp M) rfl (fun hc => ?_) (fun hc => ?_)
      · replace h := (if_pos hc).symm.trans h
        refine am_Y.run (k := 3) (pc' := 30) (lv' := [(0, .ref 129), (1, .int x1), (2, .int x2)]) (st' := [.int (0 : Int32), .int x1, .ref 129]) (h' := hp M) rfl ?_
        obtain ⟨q1, e_q1, h⟩ := Option.bind_eq_some_iff.mp h
        refine am_Y.call0 (M' := am_M145) (as := [.ref 129, .int x1, .int (0 : Int32)]) (rest := []) (d' := 4) rfl (by omega) rfl rfl (t_m_wouldFall N x1 (0 : Int32) M q1.1 q1.2 e_q1) ?_
        refine am_Y.run (k := 1) (pc' := 42) (lv' := [(0, .ref 129), (1, .int x1), (2, .int x2)]) (st' := [.int q1.1]) (h' := hp q1.2) rfl ?_
        obtain ⟨rfl, rfl⟩ := Prod.mk.inj (Option.some.inj h)
        exact am_Y.ret rfl
      · replace h := (if_neg hc).symm.trans h
        refine am_Y.run (k := 3) (pc' := 39) (lv' := [(0, .ref 129), (1, .int x1), (2, .int x2)]) (st' := [.int x2, .int x1, .ref 129]) (h' := hp M) rfl ?_
        obtain ⟨q2, e_q2, h⟩ := Option.bind_eq_some_iff.mp h
        refine am_Y.call0 (M' := am_M146) (as := [.ref 129, .int x1, .int x2]) (rest := []) (d' := 0) rfl (by omega) rfl rfl (t_m_get x1 x2 M q2 e_q2) ?_
        obtain ⟨rfl, rfl⟩ := Prod.mk.inj (Option.some.inj h)
        exact am_Y.ret rfl
set_option maxRecDepth 100000 in
theorem t_w_holds {S : Nat × (Nat → Int32)} (N : Nat) (x1 : Int32) (M : Mem) (r : Int32) (h : f_w_holds N x1 M = some r) : am_Y S 3 0 0 am_M32 0 [(0, .ref 5), (1, .int x1)] [] (hp M) (some (.int r)) (hp M) := by
  rw [f_w_holds] at h
  refine am_Y.run (k := 1) (pc' := 1) (lv' := [(0, .ref 5), (1, .int x1)]) (st' := [.int x1]) (h' := hp M) rfl ?_
  refine am_Y.br (c := x1 = (0 : Int32)) _ (t := 17) (u := 4) (lv' := [(0, .ref 5), (1, .int x1)]) (st' := []) (h' := hp M) rfl (fun hc => ?_) (fun hc => ?_)
  · replace h := (if_pos hc).symm.trans h
    refine am_Y.run (k := 3) (pc' := 24) (lv' := [(0, .ref 5), (1, .int x1)]) (st' := [.ref 11]) (h' := hp M) rfl ?_
    obtain ⟨q1, e_q1, h⟩ := Option.bind_eq_some_iff.mp h
    refine am_Y.call0 (M' := am_M148) (as := [.ref 11]) (rest := []) (d' := 2) rfl (by omega) rfl rfl (t_e_holdNow N M q1 e_q1) ?_
    obtain rfl := Option.some.inj h
    exact am_Y.ret rfl
  · replace h := (if_neg hc).symm.trans h
    refine am_Y.run (k := 3) (pc' := 11) (lv' := [(0, .ref 5), (1, .int x1)]) (st' := [.ref 11]) (h' := hp M) rfl ?_
    obtain ⟨q2, e_q2, h⟩ := Option.bind_eq_some_iff.mp h
    refine am_Y.call0 (M' := am_M147) (as := [.ref 11]) (rest := []) (d' := 2) rfl (by omega) rfl rfl (t_e_wouldHold N M q2 e_q2) ?_
    refine am_Y.run (k := 1) (pc' := 27) (lv' := [(0, .ref 5), (1, .int x1)]) (st' := [.int q2]) (h' := hp M) rfl ?_
    obtain rfl := Option.some.inj h
    exact am_Y.ret rfl
set_option maxRecDepth 100000 in
theorem t_m_holds {S : Nat × (Nat → Int32)} (N : Nat) (x1 : Int32) (M : Mem) (r : Int32) (M' : Mem) (h : f_m_holds N x1 M = some (r, M')) : am_Y S 3 0 0 am_M33 0 [(0, .ref 129), (1, .int x1)] [] (hp M) (some (.int r)) (hp M') := by
  rw [f_m_holds] at h
  refine am_Y.run (k := 1) (pc' := 1) (lv' := [(0, .ref 129), (1, .int x1)]) (st' := [.int x1]) (h' := hp M) rfl ?_
  refine am_Y.br (c := x1 = (0 : Int32)) _ (t := 11) (u := 4) (lv' := [(0, .ref 129), (1, .int x1)]) (st' := []) (h' := hp M) rfl (fun hc => ?_) (fun hc => ?_)
  · replace h := (if_pos hc).symm.trans h
    refine am_Y.run (k := 1) (pc' := 12) (lv' := [(0, .ref 129), (1, .int x1)]) (st' := [.ref 129]) (h' := hp M) rfl ?_
    obtain ⟨q1, e_q1, h⟩ := Option.bind_eq_some_iff.mp h
    refine am_Y.call0 (M' := am_M150) (as := [.ref 129]) (rest := []) (d' := 2) rfl (by omega) rfl rfl (t_m_holdNow N M q1.1 q1.2 e_q1) ?_
    obtain ⟨rfl, rfl⟩ := Prod.mk.inj (Option.some.inj h)
    exact am_Y.ret rfl
  · replace h := (if_neg hc).symm.trans h
    refine am_Y.run (k := 1) (pc' := 5) (lv' := [(0, .ref 129), (1, .int x1)]) (st' := [.ref 129]) (h' := hp M) rfl ?_
    obtain ⟨q2, e_q2, h⟩ := Option.bind_eq_some_iff.mp h
    refine am_Y.call0 (M' := am_M149) (as := [.ref 129]) (rest := []) (d' := 2) rfl (by omega) rfl rfl (t_m_wouldHold N M q2.1 q2.2 e_q2) ?_
    refine am_Y.run (k := 1) (pc' := 15) (lv' := [(0, .ref 129), (1, .int x1)]) (st' := [.int q2.1]) (h' := hp q2.2) rfl ?_
    obtain ⟨rfl, rfl⟩ := Prod.mk.inj (Option.some.inj h)
    exact am_Y.ret rfl
set_option maxRecDepth 100000 in
theorem t_w_log {S : Nat × (Nat → Int32)} (x1 : Int32) (x2 : Int32) (M : Mem) (r : Int32) (h : f_w_log x1 x2 M = some r) : am_Y S 1 0 0 am_M34 0 [(0, .ref 5), (1, .int x1), (2, .int x2)] [] (hp M) (some (.int r)) (hp M) := by
  rw [f_w_log] at h
  refine am_Y.run (k := 6) (pc' := 10) (lv' := [(3, .ref 11), (0, .ref 5), (1, .int x1), (2, .int x2)]) (st' := [.int (-1 : Int32), .int x1]) (h' := hp M) rfl ?_
  refine am_Y.br (c := x1 = (-1 : Int32)) _ (t := 13) (u := 18) (lv' := [(3, .ref 11), (0, .ref 5), (1, .int x1), (2, .int x2)]) (st' := []) (h' := hp M) rfl (fun hc => ?_) (fun hc => ?_)
  · replace h := (if_pos hc).symm.trans h
    refine am_Y.run (k := 1) (pc' := 14) (lv' := [(3, .ref 11), (0, .ref 5), (1, .int x1), (2, .int x2)]) (st' := [.ref 11]) (h' := hp M) rfl ?_
    refine am_Y.call0 (M' := am_M151) (as := [.ref 11]) (rest := []) (d' := 0) rfl (by omega) rfl rfl (t_e_spoken M _ rfl) ?_
    obtain rfl := Option.some.inj h
    exact am_Y.ret rfl
  · replace h := (if_neg hc).symm.trans h
    refine am_Y.run (k := 3) (pc' := 21) (lv' := [(3, .ref 11), (0, .ref 5), (1, .int x1), (2, .int x2)]) (st' := [.ref 11, .int (0 : Int32), .int x1]) (h' := hp M) rfl ?_
    refine am_Y.call0 (M' := am_M151) (as := [.ref 11]) (rest := [.int (0 : Int32), .int x1]) (d' := 0) rfl (by omega) rfl rfl (t_e_spoken M _ rfl) ?_
    refine am_Y.run (k := 2) (pc' := 26) (lv' := [(3, .ref 11), (0, .ref 5), (1, .int x1), (2, .int x2)]) (st' := [.int ((f_e_spoken M) - (1 : Int32)), .int (0 : Int32), .int x1]) (h' := hp M) rfl ?_
    refine am_Y.call0 (M' := am_M102) (as := [.int x1, .int (0 : Int32), .int ((f_e_spoken M) - (1 : Int32))]) (rest := []) (d' := 0) rfl (by omega) rfl rfl (t_w_within x1 (0 : Int32) ((f_e_spoken M) - (1 : Int32)) M _ rfl) ?_
    refine am_Y.br (c := (f_w_within x1 (0 : Int32) ((f_e_spoken M) - (1 : Int32)) M) = (0 : Int32)) _ (t := 32) (u := 35) (lv' := [(3, .ref 11), (0, .ref 5), (1, .int x1), (2, .int x2)]) (st' := []) (h' := hp M) rfl (fun hc => ?_) (fun hc => ?_)
    · replace h := (if_pos hc).symm.trans h
      refine am_Y.run (k := 1) (pc' := 34) (lv' := [(3, .ref 11), (0, .ref 5), (1, .int x1), (2, .int x2)]) (st' := [.int (-2 : Int32)]) (h' := hp M) rfl ?_
      obtain rfl := Option.some.inj h
      exact am_Y.ret rfl
    · replace h := (if_neg hc).symm.trans h
      refine am_Y.run (k := 2) (pc' := 37) (lv' := [(3, .ref 11), (0, .ref 5), (1, .int x1), (2, .int x2)]) (st' := [.int x1, .ref 11]) (h' := hp M) rfl ?_
      obtain ⟨q1, e_q1, h⟩ := Option.bind_eq_some_iff.mp h
      refine am_Y.call0 (M' := am_M152) (as := [.ref 11, .int x1]) (rest := []) (d' := 0) rfl (by omega) rfl rfl (t_e_entry x1 M q1 e_q1) ?_
      refine am_Y.run (k := 2) (pc' := 43) (lv' := [(4, .int q1), (3, .ref 11), (0, .ref 5), (1, .int x1), (2, .int x2)]) (st' := [.int x2]) (h' := hp M) rfl ?_
      by_cases hc0 : x2 = (0 : Int32)
      · replace h := (if_pos hc0).symm.trans h
        refine am_Y.one (pc' := 72) (lv' := [(4, .int q1), (3, .ref 11), (0, .ref 5), (1, .int x1), (2, .int x2)]) (st' := []) (h' := hp M) (am_swc hc0 rfl) ?_
        refine am_Y.run (k := 1) (pc' := 74) (lv' := [(4, .int q1), (3, .ref 11), (0, .ref 5), (1, .int x1), (2, .int x2)]) (st' := [.int q1]) (h' := hp M) rfl ?_
        refine am_Y.call0 (M' := am_M153) (as := [.int q1]) (rest := []) (d' := 0) rfl (by omega) rfl rfl (t_e_momentOf q1 M _ rfl) ?_
        obtain rfl := Option.some.inj h
        exact am_Y.ret rfl
      replace h := (if_neg hc0).symm.trans h
      by_cases hc1 : x2 = (1 : Int32)
      · replace h := (if_pos hc1).symm.trans h
        refine am_Y.one (pc' := 78) (lv' := [(4, .int q1), (3, .ref 11), (0, .ref 5), (1, .int x1), (2, .int x2)]) (st' := []) (h' := hp M) (am_swc hc1 rfl) ?_
        refine am_Y.run (k := 1) (pc' := 80) (lv' := [(4, .int q1), (3, .ref 11), (0, .ref 5), (1, .int x1), (2, .int x2)]) (st' := [.int q1]) (h' := hp M) rfl ?_
        refine am_Y.call0 (M' := am_M154) (as := [.int q1]) (rest := []) (d' := 0) rfl (by omega) rfl rfl (t_e_whoOf q1 M _ rfl) ?_
        obtain rfl := Option.some.inj h
        exact am_Y.ret rfl
      replace h := (if_neg hc1).symm.trans h
      by_cases hc2 : x2 = (2 : Int32)
      · replace h := (if_pos hc2).symm.trans h
        refine am_Y.one (pc' := 84) (lv' := [(4, .int q1), (3, .ref 11), (0, .ref 5), (1, .int x1), (2, .int x2)]) (st' := []) (h' := hp M) (am_swc hc2 rfl) ?_
        refine am_Y.run (k := 1) (pc' := 86) (lv' := [(4, .int q1), (3, .ref 11), (0, .ref 5), (1, .int x1), (2, .int x2)]) (st' := [.int q1]) (h' := hp M) rfl ?_
        refine am_Y.call0 (M' := am_M155) (as := [.int q1]) (rest := []) (d' := 0) rfl (by omega) rfl rfl (t_e_kindOf q1 M _ rfl) ?_
        obtain rfl := Option.some.inj h
        exact am_Y.ret rfl
      replace h := (if_neg hc2).symm.trans h
      by_cases hc3 : x2 = (3 : Int32)
      · replace h := (if_pos hc3).symm.trans h
        refine am_Y.one (pc' := 90) (lv' := [(4, .int q1), (3, .ref 11), (0, .ref 5), (1, .int x1), (2, .int x2)]) (st' := []) (h' := hp M) (am_swc hc3 rfl) ?_
        refine am_Y.run (k := 1) (pc' := 92) (lv' := [(4, .int q1), (3, .ref 11), (0, .ref 5), (1, .int x1), (2, .int x2)]) (st' := [.int q1]) (h' := hp M) rfl ?_
        refine am_Y.call0 (M' := am_M156) (as := [.int q1]) (rest := []) (d' := 0) rfl (by omega) rfl rfl (t_e_fallsOf q1 M _ rfl) ?_
        obtain rfl := Option.some.inj h
        exact am_Y.ret rfl
      replace h := (if_neg hc3).symm.trans h
      refine am_Y.one (pc' := 96) (lv' := [(4, .int q1), (3, .ref 11), (0, .ref 5), (1, .int x1), (2, .int x2)]) (st' := []) (h' := hp M) (am_swd (x := x2) rfl (by have := am_neT (0) hc0 (by decide); have := am_neT (1) hc1 (by decide); have := am_neT (2) hc2 (by decide); have := am_neT (3) hc3 (by decide); omega) rfl) ?_
      refine am_Y.run (k := 1) (pc' := 98) (lv' := [(4, .int q1), (3, .ref 11), (0, .ref 5), (1, .int x1), (2, .int x2)]) (st' := [.int (-2 : Int32)]) (h' := hp M) rfl ?_
      obtain rfl := Option.some.inj h
      exact am_Y.ret rfl
set_option maxRecDepth 100000 in
theorem t_m_momentOf {S : Nat × (Nat → Int32)} (x1 : Int32) (M : Mem) (r : Int32) (h : f_m_momentOf x1 M = some r) : am_Y S 0 0 0 am_M157 0 [(0, .ref 129), (1, .int x1)] [] (hp M) (some (.int r)) (hp M) := by
  rw [f_m_momentOf] at h
  refine am_Y.run (k := 5) (pc' := 8) (lv' := [(0, .ref 129), (1, .int x1)]) (st' := [.int ((68 : Int32) + x1), .ref 130]) (h' := hp M) rfl ?_
  obtain ⟨g, h⟩ := am_itg h
  refine am_Y.iald (a := 125) (n := 3826) rfl rfl g ?_
  refine am_Y.run (k := 2) (pc' := 13) (lv' := [(0, .ref 129), (1, .int x1)]) (st' := [.int ((gi M 130 (((68 : Int32) + x1)).toNatClampNeg) / (32768 : Int32))]) (h' := hp M) rfl ?_
  obtain rfl := Option.some.inj h
  exact am_Y.ret rfl
set_option maxRecDepth 100000 in
theorem t_m_kindOf {S : Nat × (Nat → Int32)} (x1 : Int32) (M : Mem) (r : Int32) (h : f_m_kindOf x1 M = some r) : am_Y S 0 0 0 am_M159 0 [(0, .ref 129), (1, .int x1)] [] (hp M) (some (.int r)) (hp M) := by
  rw [f_m_kindOf] at h
  refine am_Y.run (k := 5) (pc' := 8) (lv' := [(0, .ref 129), (1, .int x1)]) (st' := [.int ((68 : Int32) + x1), .ref 130]) (h' := hp M) rfl ?_
  obtain ⟨g, h⟩ := am_itg h
  refine am_Y.iald (a := 125) (n := 3826) rfl rfl g ?_
  refine am_Y.run (k := 4) (pc' := 16) (lv' := [(0, .ref 129), (1, .int x1)]) (st' := [.int (((gi M 130 (((68 : Int32) + x1)).toNatClampNeg) / (256 : Int32)) - ((gi M 130 (((68 : Int32) + x1)).toNatClampNeg) / (256 : Int32)) / (8 : Int32) * (8 : Int32))]) (h' := hp M) rfl ?_
  obtain rfl := Option.some.inj h
  exact am_Y.ret rfl
set_option maxRecDepth 100000 in
theorem t_m_log0 {S : Nat × (Nat → Int32)} (x1 : Int32) (x2 : Int32) (M : Mem) (r : Int32) (h : f_m_log0 x1 x2 M = some r) : am_Y S 1 0 0 am_M35 0 [(0, .ref 129), (1, .int x1), (2, .int x2)] [] (hp M) (some (.int r)) (hp M) := by
  rw [f_m_log0] at h
  refine am_Y.run (k := 2) (pc' := 2) (lv' := [(0, .ref 129), (1, .int x1), (2, .int x2)]) (st' := [.int (-1 : Int32), .int x1]) (h' := hp M) rfl ?_
  refine am_Y.br (c := x1 = (-1 : Int32)) _ (t := 5) (u := 13) (lv' := [(0, .ref 129), (1, .int x1), (2, .int x2)]) (st' := []) (h' := hp M) rfl (fun hc => ?_) (fun hc => ?_)
  · replace h := (if_pos hc).symm.trans h
    refine am_Y.run (k := 4) (pc' := 12) (lv' := [(0, .ref 129), (1, .int x1), (2, .int x2)]) (st' := [.int (gi M 130 8)]) (h' := hp M) rfl ?_
    obtain rfl := Option.some.inj h
    exact am_Y.ret rfl
  · replace h := (if_neg hc).symm.trans h
    refine am_Y.run (k := 8) (pc' := 24) (lv' := [(0, .ref 129), (1, .int x1), (2, .int x2)]) (st' := [.int ((gi M 130 8) - (1 : Int32)), .int (0 : Int32), .int x1]) (h' := hp M) rfl ?_
    refine am_Y.call0 (M' := am_M104) (as := [.int x1, .int (0 : Int32), .int ((gi M 130 8) - (1 : Int32))]) (rest := []) (d' := 0) rfl (by omega) rfl rfl (t_m_isIn x1 (0 : Int32) ((gi M 130 8) - (1 : Int32)) M _ rfl) ?_
    refine am_Y.br (c := (f_m_isIn x1 (0 : Int32) ((gi M 130 8) - (1 : Int32)) M) = (0 : Int32)) _ (t := 30) (u := 33) (lv' := [(0, .ref 129), (1, .int x1), (2, .int x2)]) (st' := []) (h' := hp M) rfl (fun hc => ?_) (fun hc => ?_)
    · replace h := (if_pos hc).symm.trans h
      refine am_Y.run (k := 1) (pc' := 32) (lv' := [(0, .ref 129), (1, .int x1), (2, .int x2)]) (st' := [.int (-2 : Int32)]) (h' := hp M) rfl ?_
      obtain rfl := Option.some.inj h
      exact am_Y.ret rfl
    · replace h := (if_neg hc).symm.trans h
      refine am_Y.run (k := 1) (pc' := 34) (lv' := [(0, .ref 129), (1, .int x1), (2, .int x2)]) (st' := [.int x2]) (h' := hp M) rfl ?_
      by_cases hc0 : x2 = (0 : Int32)
      · replace h := (if_pos hc0).symm.trans h
        refine am_Y.one (pc' := 64) (lv' := [(0, .ref 129), (1, .int x1), (2, .int x2)]) (st' := []) (h' := hp M) (am_swc hc0 rfl) ?_
        refine am_Y.run (k := 2) (pc' := 66) (lv' := [(0, .ref 129), (1, .int x1), (2, .int x2)]) (st' := [.int x1, .ref 129]) (h' := hp M) rfl ?_
        obtain ⟨q1, e_q1, h⟩ := Option.bind_eq_some_iff.mp h
        refine am_Y.call0 (M' := am_M157) (as := [.ref 129, .int x1]) (rest := []) (d' := 0) rfl (by omega) rfl rfl (t_m_momentOf x1 M q1 e_q1) ?_
        obtain rfl := Option.some.inj h
        exact am_Y.ret rfl
      replace h := (if_neg hc0).symm.trans h
      by_cases hc1 : x2 = (1 : Int32)
      · replace h := (if_pos hc1).symm.trans h
        refine am_Y.one (pc' := 70) (lv' := [(0, .ref 129), (1, .int x1), (2, .int x2)]) (st' := []) (h' := hp M) (am_swc hc1 rfl) ?_
        refine am_Y.run (k := 2) (pc' := 72) (lv' := [(0, .ref 129), (1, .int x1), (2, .int x2)]) (st' := [.int x1, .ref 129]) (h' := hp M) rfl ?_
        obtain ⟨q2, e_q2, h⟩ := Option.bind_eq_some_iff.mp h
        refine am_Y.call0 (M' := am_M158) (as := [.ref 129, .int x1]) (rest := []) (d' := 0) rfl (by omega) rfl rfl (t_m_whoOf x1 M q2 e_q2) ?_
        obtain rfl := Option.some.inj h
        exact am_Y.ret rfl
      replace h := (if_neg hc1).symm.trans h
      by_cases hc2 : x2 = (2 : Int32)
      · replace h := (if_pos hc2).symm.trans h
        refine am_Y.one (pc' := 76) (lv' := [(0, .ref 129), (1, .int x1), (2, .int x2)]) (st' := []) (h' := hp M) (am_swc hc2 rfl) ?_
        refine am_Y.run (k := 2) (pc' := 78) (lv' := [(0, .ref 129), (1, .int x1), (2, .int x2)]) (st' := [.int x1, .ref 129]) (h' := hp M) rfl ?_
        obtain ⟨q3, e_q3, h⟩ := Option.bind_eq_some_iff.mp h
        refine am_Y.call0 (M' := am_M159) (as := [.ref 129, .int x1]) (rest := []) (d' := 0) rfl (by omega) rfl rfl (t_m_kindOf x1 M q3 e_q3) ?_
        obtain rfl := Option.some.inj h
        exact am_Y.ret rfl
      replace h := (if_neg hc2).symm.trans h
      by_cases hc3 : x2 = (3 : Int32)
      · replace h := (if_pos hc3).symm.trans h
        refine am_Y.one (pc' := 82) (lv' := [(0, .ref 129), (1, .int x1), (2, .int x2)]) (st' := []) (h' := hp M) (am_swc hc3 rfl) ?_
        refine am_Y.run (k := 2) (pc' := 84) (lv' := [(0, .ref 129), (1, .int x1), (2, .int x2)]) (st' := [.int x1, .ref 129]) (h' := hp M) rfl ?_
        obtain ⟨q4, e_q4, h⟩ := Option.bind_eq_some_iff.mp h
        refine am_Y.call0 (M' := am_M160) (as := [.ref 129, .int x1]) (rest := []) (d' := 0) rfl (by omega) rfl rfl (t_m_fallsOf x1 M q4 e_q4) ?_
        obtain rfl := Option.some.inj h
        exact am_Y.ret rfl
      replace h := (if_neg hc3).symm.trans h
      refine am_Y.one (pc' := 88) (lv' := [(0, .ref 129), (1, .int x1), (2, .int x2)]) (st' := []) (h' := hp M) (am_swd (x := x2) rfl (by have := am_neT (0) hc0 (by decide); have := am_neT (1) hc1 (by decide); have := am_neT (2) hc2 (by decide); have := am_neT (3) hc3 (by decide); omega) rfl) ?_
      refine am_Y.run (k := 1) (pc' := 90) (lv' := [(0, .ref 129), (1, .int x1), (2, .int x2)]) (st' := [.int (-2 : Int32)]) (h' := hp M) rfl ?_
      obtain rfl := Option.some.inj h
      exact am_Y.ret rfl
