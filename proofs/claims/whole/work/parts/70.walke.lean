/-! AM does what the functions say. -/
set_option maxRecDepth 100000 in
theorem t_m_behindOne_168 {S : Nat × (Nat → Int32)} (N : Nat) (x3 : Int32) (M : Mem) (r : Int32) (M' : Mem) (h : f_m_behindOne_168 N x3 M = some (r, M')) : am_Y S 4 0 0 am_M332 168 [(0, .ref 129), (3, .int x3)] [] (hp M) (some (.int r)) (hp M') := by
  rw [f_m_behindOne_168] at h
  refine am_Y.run (k := 2) (pc' := 170) (lv' := [(0, .ref 129), (3, .int x3)]) (st' := [.int (1 : Int32), .ref 129]) (h' := hp M) rfl ?_
  obtain ⟨q12, e_q12, h⟩ := Option.bind_eq_some_iff.mp h
  refine am_Y.call0 (M' := am_M336) (as := [.ref 129, .int (1 : Int32)]) (rest := []) (d' := 1) rfl (by omega) rfl rfl (t_m_settle N (1 : Int32) M q12 e_q12) ?_
  refine am_Y.run (k := 7) (pc' := 184) (lv' := [(0, .ref 129), (3, .int x3)]) (st' := [.int x3, .int ((gi q12 129 19) - (1 : Int32)), .ref 134]) (h' := hp q12) rfl ?_
  refine am_Y.br (c := x3 = (0 : Int32)) _ (t := 192) (u := 187) (lv' := [(0, .ref 129), (3, .int x3)]) (st' := [.int ((gi q12 129 19) - (1 : Int32)), .ref 134]) (h' := hp q12) rfl (fun hc => ?_) (fun hc => ?_)
  · replace h := (if_pos hc).symm.trans h
    refine am_Y.run (k := 1) (pc' := 194) (lv' := [(0, .ref 129), (3, .int x3)]) (st' := [.int (43 : Int32), .int ((gi q12 129 19) - (1 : Int32)), .ref 134]) (h' := hp q12) rfl ?_
    obtain ⟨g, h⟩ := am_itg h
    refine am_Y.iast (a := 129) (n := 160) rfl rfl g ?_
    refine am_Y.run (k := 0) (pc' := _) (lv' := [(0, .ref 129), (3, .int x3)]) (st' := []) (h' := hp (si q12 134 (((gi q12 129 19) - (1 : Int32))).toNatClampNeg (43 : Int32))) rfl ?_
    obtain ⟨q13, e_q13, h⟩ := Option.bind_eq_some_iff.mp h
    rw [Option.some.inj e_q13]
    refine am_Y.run (k := 3) (pc' := 200) (lv' := [(0, .ref 129), (3, .int x3)]) (st' := []) (h' := hp (si q13 129 22 (0 : Int32))) rfl ?_
    obtain ⟨q14, e_q14, h⟩ := Option.bind_eq_some_iff.mp h
    rw [Option.some.inj e_q14]
    refine am_Y.run (k := 1) (pc' := 201) (lv' := [(0, .ref 129), (3, .int x3)]) (st' := [.int x3]) (h' := hp q14) rfl ?_
    refine am_Y.br (c := x3 = (0 : Int32)) _ (t := 209) (u := 204) (lv' := [(0, .ref 129), (3, .int x3)]) (st' := []) (h' := hp q14) rfl (fun hc => ?_) (fun hc => ?_)
    · replace h := (if_pos hc).symm.trans h
      refine am_Y.run (k := 1) (pc' := 210) (lv' := [(0, .ref 129), (3, .int x3)]) (st' := [.ref 129]) (h' := hp q14) rfl ?_
      obtain ⟨q15, e_q15, h⟩ := Option.bind_eq_some_iff.mp h
      refine am_Y.call0 (M' := am_M228) (as := [.ref 129]) (rest := []) (d' := 1) rfl (by omega) rfl rfl (t_m_nextToken N q14 q15 e_q15) ?_
      refine am_Y.run (k := 1) (pc' := 214) (lv' := [(0, .ref 129), (3, .int x3)]) (st' := [.int (0 : Int32)]) (h' := hp q15) rfl ?_
      obtain ⟨rfl, rfl⟩ := Prod.mk.inj (Option.some.inj h)
      exact am_Y.ret rfl
    · replace h := (if_neg hc).symm.trans h
      refine am_Y.run (k := 1) (pc' := 205) (lv' := [(0, .ref 129), (3, .int x3)]) (st' := [.ref 129]) (h' := hp q14) rfl ?_
      obtain ⟨q16, e_q16, h⟩ := Option.bind_eq_some_iff.mp h
      refine am_Y.call0 (M' := am_M345) (as := [.ref 129]) (rest := []) (d' := 2) rfl (by omega) rfl rfl (t_m_oneCase N q14 q16.1 q16.2 e_q16) ?_
      obtain ⟨rfl, rfl⟩ := Prod.mk.inj (Option.some.inj h)
      exact am_Y.ret rfl
  · replace h := (if_neg hc).symm.trans h
    refine am_Y.run (k := 2) (pc' := 194) (lv' := [(0, .ref 129), (3, .int x3)]) (st' := [.int (42 : Int32), .int ((gi q12 129 19) - (1 : Int32)), .ref 134]) (h' := hp q12) rfl ?_
    obtain ⟨g, h⟩ := am_itg h
    refine am_Y.iast (a := 129) (n := 160) rfl rfl g ?_
    refine am_Y.run (k := 0) (pc' := _) (lv' := [(0, .ref 129), (3, .int x3)]) (st' := []) (h' := hp (si q12 134 (((gi q12 129 19) - (1 : Int32))).toNatClampNeg (42 : Int32))) rfl ?_
    obtain ⟨q17, e_q17, h⟩ := Option.bind_eq_some_iff.mp h
    rw [Option.some.inj e_q17]
    refine am_Y.run (k := 3) (pc' := 200) (lv' := [(0, .ref 129), (3, .int x3)]) (st' := []) (h' := hp (si q17 129 22 (0 : Int32))) rfl ?_
    obtain ⟨q18, e_q18, h⟩ := Option.bind_eq_some_iff.mp h
    rw [Option.some.inj e_q18]
    refine am_Y.run (k := 1) (pc' := 201) (lv' := [(0, .ref 129), (3, .int x3)]) (st' := [.int x3]) (h' := hp q18) rfl ?_
    refine am_Y.br (c := x3 = (0 : Int32)) _ (t := 209) (u := 204) (lv' := [(0, .ref 129), (3, .int x3)]) (st' := []) (h' := hp q18) rfl (fun hc => ?_) (fun hc => ?_)
    · replace h := (if_pos hc).symm.trans h
      refine am_Y.run (k := 1) (pc' := 210) (lv' := [(0, .ref 129), (3, .int x3)]) (st' := [.ref 129]) (h' := hp q18) rfl ?_
      obtain ⟨q19, e_q19, h⟩ := Option.bind_eq_some_iff.mp h
      refine am_Y.call0 (M' := am_M228) (as := [.ref 129]) (rest := []) (d' := 1) rfl (by omega) rfl rfl (t_m_nextToken N q18 q19 e_q19) ?_
      refine am_Y.run (k := 1) (pc' := 214) (lv' := [(0, .ref 129), (3, .int x3)]) (st' := [.int (0 : Int32)]) (h' := hp q19) rfl ?_
      obtain ⟨rfl, rfl⟩ := Prod.mk.inj (Option.some.inj h)
      exact am_Y.ret rfl
    · replace h := (if_neg hc).symm.trans h
      refine am_Y.run (k := 1) (pc' := 205) (lv' := [(0, .ref 129), (3, .int x3)]) (st' := [.ref 129]) (h' := hp q18) rfl ?_
      obtain ⟨q20, e_q20, h⟩ := Option.bind_eq_some_iff.mp h
      refine am_Y.call0 (M' := am_M345) (as := [.ref 129]) (rest := []) (d' := 2) rfl (by omega) rfl rfl (t_m_oneCase N q18 q20.1 q20.2 e_q20) ?_
      obtain ⟨rfl, rfl⟩ := Prod.mk.inj (Option.some.inj h)
      exact am_Y.ret rfl
set_option maxRecDepth 100000 in
theorem t_m_behindOne_137 {S : Nat × (Nat → Int32)} (N : Nat) (x2 : Int32) (s0 : Int32) (M : Mem) (r : Int32) (M' : Mem) (h : f_m_behindOne_137 N x2 s0 M = some (r, M')) : am_Y S 4 0 0 am_M332 137 [(0, .ref 129), (2, .int x2)] [.int s0] (hp M) (some (.int r)) (hp M') := by
  rw [f_m_behindOne_137] at h
  refine am_Y.run (k := 2) (pc' := 139) (lv' := [(3, .int s0), (0, .ref 129), (2, .int x2)]) (st' := [.int s0]) (h' := hp M) rfl ?_
  refine am_Y.br (c := s0 = (0 : Int32)) _ (t := 142) (u := 168) (lv' := [(3, .int s0), (0, .ref 129), (2, .int x2)]) (st' := []) (h' := hp M) rfl (fun hc => ?_) (fun hc => ?_)
  · replace h := (if_pos hc).symm.trans h
    refine am_Y.run (k := 2) (pc' := 145) (lv' := [(3, .int s0), (0, .ref 129), (2, .int x2)]) (st' := [.int (42 : Int32), .int x2]) (h' := hp M) rfl ?_
    refine am_Y.br (c := x2 = (42 : Int32)) _ (t := 148) (u := 166) (lv' := [(3, .int s0), (0, .ref 129), (2, .int x2)]) (st' := []) (h' := hp M) rfl (fun hc => ?_) (fun hc => ?_)
    · replace h := (if_pos hc).symm.trans h
      refine am_Y.run (k := 5) (pc' := 157) (lv' := [(3, .int s0), (0, .ref 129), (2, .int x2)]) (st' := [.int (101 : Int32), .int (115 : Int32), .int (108 : Int32), .int (101 : Int32), .ref 129]) (h' := hp M) rfl ?_
      refine am_Y.call0 (M' := am_M310) (as := [.int (101 : Int32), .int (108 : Int32), .int (115 : Int32), .int (101 : Int32)]) (rest := [.ref 129]) (d' := 2) rfl (by omega) rfl rfl (t_m_w4 (101 : Int32) (108 : Int32) (115 : Int32) (101 : Int32) M (1701606245 : Int64) (by exact (by decide : f_m_w4 (101 : Int32) (108 : Int32) (115 : Int32) (101 : Int32) (fun _ _ => 0, fun _ _ => 0) = (1701606245 : Int64)))) ?_
      refine am_Y.call0 (M' := am_M308) (as := [.ref 129, .long (1701606245 : Int64)]) (rest := []) (d' := 0) rfl (by omega) rfl rfl (t_m_isWord (1701606245 : Int64) M _ rfl) ?_
      refine am_Y.br (c := (f_m_isWord (1701606245 : Int64) M) = (0 : Int32)) _ (t := 166) (u := 168) (lv' := [(3, .int s0), (0, .ref 129), (2, .int x2)]) (st' := []) (h' := hp M) rfl (fun hc => ?_) (fun hc => ?_)
      · replace h := (if_pos hc).symm.trans h
        refine am_Y.run (k := 1) (pc' := 167) (lv' := [(3, .int s0), (0, .ref 129), (2, .int x2)]) (st' := [.int (-1 : Int32)]) (h' := hp M) rfl ?_
        obtain ⟨rfl, rfl⟩ := Prod.mk.inj (Option.some.inj h)
        exact am_Y.ret rfl
      · replace h := (if_neg hc).symm.trans h
        refine am_Y.weak (lv2 := [(0, .ref 129), (3, .int s0)]) rfl rfl ⟨rfl, rfl, trivial⟩ ?_
        exact t_m_behindOne_168 N s0 M _ _ h
    · replace h := (if_neg hc).symm.trans h
      refine am_Y.run (k := 1) (pc' := 167) (lv' := [(3, .int s0), (0, .ref 129), (2, .int x2)]) (st' := [.int (-1 : Int32)]) (h' := hp M) rfl ?_
      obtain ⟨rfl, rfl⟩ := Prod.mk.inj (Option.some.inj h)
      exact am_Y.ret rfl
  · replace h := (if_neg hc).symm.trans h
    refine am_Y.weak (lv2 := [(0, .ref 129), (3, .int s0)]) rfl rfl ⟨rfl, rfl, trivial⟩ ?_
    exact t_m_behindOne_168 N s0 M _ _ h
set_option maxRecDepth 100000 in
theorem t_m_behindOne_102 {S : Nat × (Nat → Int32)} (N : Nat) (x2 : Int32) (M : Mem) (r : Int32) (M' : Mem) (h : f_m_behindOne_102 N x2 M = some (r, M')) : am_Y S 4 0 0 am_M332 102 [(0, .ref 129), (2, .int x2)] [] (hp M) (some (.int r)) (hp M') := by
  rw [f_m_behindOne_102] at h
  refine am_Y.run (k := 2) (pc' := 105) (lv' := [(0, .ref 129), (2, .int x2)]) (st' := [.int (41 : Int32), .int x2]) (h' := hp M) rfl ?_
  refine am_Y.br (c := x2 = (41 : Int32)) _ (t := 114) (u := 108) (lv' := [(0, .ref 129), (2, .int x2)]) (st' := []) (h' := hp M) rfl (fun hc => ?_) (fun hc => ?_)
  · replace h := (if_pos hc).symm.trans h
    refine am_Y.run (k := 5) (pc' := 123) (lv' := [(0, .ref 129), (2, .int x2)]) (st' := [.int (101 : Int32), .int (115 : Int32), .int (97 : Int32), .int (99 : Int32), .ref 129]) (h' := hp M) rfl ?_
    refine am_Y.call0 (M' := am_M310) (as := [.int (99 : Int32), .int (97 : Int32), .int (115 : Int32), .int (101 : Int32)]) (rest := [.ref 129]) (d' := 2) rfl (by omega) rfl rfl (t_m_w4 (99 : Int32) (97 : Int32) (115 : Int32) (101 : Int32) M (1667330917 : Int64) (by exact (by decide : f_m_w4 (99 : Int32) (97 : Int32) (115 : Int32) (101 : Int32) (fun _ _ => 0, fun _ _ => 0) = (1667330917 : Int64)))) ?_
    refine am_Y.call0 (M' := am_M308) (as := [.ref 129, .long (1667330917 : Int64)]) (rest := []) (d' := 0) rfl (by omega) rfl rfl (t_m_isWord (1667330917 : Int64) M _ rfl) ?_
    refine am_Y.br (c := (f_m_isWord (1667330917 : Int64) M) = (0 : Int32)) _ (t := 136) (u := 132) (lv' := [(0, .ref 129), (2, .int x2)]) (st' := []) (h' := hp M) rfl (fun hc => ?_) (fun hc => ?_)
    · replace h := (if_pos hc).symm.trans h
      refine am_Y.run (k := 1) (pc' := 137) (lv' := [(0, .ref 129), (2, .int x2)]) (st' := [.int (0 : Int32)]) (h' := hp M) rfl ?_
      refine am_Y.weak (lv2 := [(0, .ref 129), (2, .int x2)]) rfl rfl ⟨rfl, rfl, trivial⟩ ?_
      exact t_m_behindOne_137 N x2 (0 : Int32) M _ _ h
    · replace h := (if_neg hc).symm.trans h
      refine am_Y.run (k := 2) (pc' := 137) (lv' := [(0, .ref 129), (2, .int x2)]) (st' := [.int (1 : Int32)]) (h' := hp M) rfl ?_
      refine am_Y.weak (lv2 := [(0, .ref 129), (2, .int x2)]) rfl rfl ⟨rfl, rfl, trivial⟩ ?_
      exact t_m_behindOne_137 N x2 (1 : Int32) M _ _ h
  · replace h := (if_neg hc).symm.trans h
    refine am_Y.run (k := 2) (pc' := 111) (lv' := [(0, .ref 129), (2, .int x2)]) (st' := [.int (42 : Int32), .int x2]) (h' := hp M) rfl ?_
    refine am_Y.br (c := x2 = (42 : Int32)) _ (t := 114) (u := 136) (lv' := [(0, .ref 129), (2, .int x2)]) (st' := []) (h' := hp M) rfl (fun hc => ?_) (fun hc => ?_)
    · replace h := (if_pos hc).symm.trans h
      refine am_Y.run (k := 5) (pc' := 123) (lv' := [(0, .ref 129), (2, .int x2)]) (st' := [.int (101 : Int32), .int (115 : Int32), .int (97 : Int32), .int (99 : Int32), .ref 129]) (h' := hp M) rfl ?_
      refine am_Y.call0 (M' := am_M310) (as := [.int (99 : Int32), .int (97 : Int32), .int (115 : Int32), .int (101 : Int32)]) (rest := [.ref 129]) (d' := 2) rfl (by omega) rfl rfl (t_m_w4 (99 : Int32) (97 : Int32) (115 : Int32) (101 : Int32) M (1667330917 : Int64) (by exact (by decide : f_m_w4 (99 : Int32) (97 : Int32) (115 : Int32) (101 : Int32) (fun _ _ => 0, fun _ _ => 0) = (1667330917 : Int64)))) ?_
      refine am_Y.call0 (M' := am_M308) (as := [.ref 129, .long (1667330917 : Int64)]) (rest := []) (d' := 0) rfl (by omega) rfl rfl (t_m_isWord (1667330917 : Int64) M _ rfl) ?_
      refine am_Y.br (c := (f_m_isWord (1667330917 : Int64) M) = (0 : Int32)) _ (t := 136) (u := 132) (lv' := [(0, .ref 129), (2, .int x2)]) (st' := []) (h' := hp M) rfl (fun hc => ?_) (fun hc => ?_)
      · replace h := (if_pos hc).symm.trans h
        refine am_Y.run (k := 1) (pc' := 137) (lv' := [(0, .ref 129), (2, .int x2)]) (st' := [.int (0 : Int32)]) (h' := hp M) rfl ?_
        refine am_Y.weak (lv2 := [(0, .ref 129), (2, .int x2)]) rfl rfl ⟨rfl, rfl, trivial⟩ ?_
        exact t_m_behindOne_137 N x2 (0 : Int32) M _ _ h
      · replace h := (if_neg hc).symm.trans h
        refine am_Y.run (k := 2) (pc' := 137) (lv' := [(0, .ref 129), (2, .int x2)]) (st' := [.int (1 : Int32)]) (h' := hp M) rfl ?_
        refine am_Y.weak (lv2 := [(0, .ref 129), (2, .int x2)]) rfl rfl ⟨rfl, rfl, trivial⟩ ?_
        exact t_m_behindOne_137 N x2 (1 : Int32) M _ _ h
    · replace h := (if_neg hc).symm.trans h
      refine am_Y.run (k := 1) (pc' := 137) (lv' := [(0, .ref 129), (2, .int x2)]) (st' := [.int (0 : Int32)]) (h' := hp M) rfl ?_
      refine am_Y.weak (lv2 := [(0, .ref 129), (2, .int x2)]) rfl rfl ⟨rfl, rfl, trivial⟩ ?_
      exact t_m_behindOne_137 N x2 (0 : Int32) M _ _ h
set_option maxRecDepth 100000 in
theorem t_m_behindOne_68 {S : Nat × (Nat → Int32)} (N : Nat) (x2 : Int32) (M : Mem) (r : Int32) (M' : Mem) (h : f_m_behindOne_68 N x2 M = some (r, M')) : am_Y S 4 0 0 am_M332 68 [(0, .ref 129), (2, .int x2)] [] (hp M) (some (.int r)) (hp M') := by
  rw [f_m_behindOne_68] at h
  refine am_Y.run (k := 2) (pc' := 71) (lv' := [(0, .ref 129), (2, .int x2)]) (st' := [.int (43 : Int32), .int x2]) (h' := hp M) rfl ?_
  refine am_Y.br (c := x2 = (43 : Int32)) _ (t := 74) (u := 102) (lv' := [(0, .ref 129), (2, .int x2)]) (st' := []) (h' := hp M) rfl (fun hc => ?_) (fun hc => ?_)
  · replace h := (if_pos hc).symm.trans h
    refine am_Y.run (k := 4) (pc' := 81) (lv' := [(0, .ref 129), (2, .int x2)]) (st' := [.int (100 : Int32), .int (110 : Int32), .int (101 : Int32), .ref 129]) (h' := hp M) rfl ?_
    refine am_Y.call0 (M' := am_M309) (as := [.int (101 : Int32), .int (110 : Int32), .int (100 : Int32)]) (rest := [.ref 129]) (d' := 1) rfl (by omega) rfl rfl (t_m_w3 (101 : Int32) (110 : Int32) (100 : Int32) M (6647396 : Int64) (by exact (by decide : f_m_w3 (101 : Int32) (110 : Int32) (100 : Int32) (fun _ _ => 0, fun _ _ => 0) = (6647396 : Int64)))) ?_
    refine am_Y.call0 (M' := am_M308) (as := [.ref 129, .long (6647396 : Int64)]) (rest := []) (d' := 0) rfl (by omega) rfl rfl (t_m_isWord (6647396 : Int64) M _ rfl) ?_
    refine am_Y.br (c := (f_m_isWord (6647396 : Int64) M) = (0 : Int32)) _ (t := 102) (u := 90) (lv' := [(0, .ref 129), (2, .int x2)]) (st' := []) (h' := hp M) rfl (fun hc => ?_) (fun hc => ?_)
    · replace h := (if_pos hc).symm.trans h
      refine am_Y.weak (lv2 := [(0, .ref 129), (2, .int x2)]) rfl rfl ⟨rfl, rfl, trivial⟩ ?_
      exact t_m_behindOne_102 N x2 M _ _ h
    · replace h := (if_neg hc).symm.trans h
      refine am_Y.run (k := 2) (pc' := 92) (lv' := [(0, .ref 129), (2, .int x2)]) (st' := [.int (1 : Int32), .ref 129]) (h' := hp M) rfl ?_
      obtain ⟨q10, e_q10, h⟩ := Option.bind_eq_some_iff.mp h
      refine am_Y.call0 (M' := am_M336) (as := [.ref 129, .int (1 : Int32)]) (rest := []) (d' := 1) rfl (by omega) rfl rfl (t_m_settle N (1 : Int32) M q10 e_q10) ?_
      refine am_Y.run (k := 2) (pc' := 97) (lv' := [(0, .ref 129), (2, .int x2)]) (st' := [.int x2, .ref 129]) (h' := hp q10) rfl ?_
      obtain ⟨q11, e_q11, h⟩ := Option.bind_eq_some_iff.mp h
      refine am_Y.call0 (M' := am_M344) (as := [.ref 129, .int x2]) (rest := []) (d' := 2) rfl (by omega) rfl rfl (t_m_shut N x2 q10 q11 e_q11) ?_
      refine am_Y.run (k := 1) (pc' := 101) (lv' := [(0, .ref 129), (2, .int x2)]) (st' := [.int (0 : Int32)]) (h' := hp q11) rfl ?_
      obtain ⟨rfl, rfl⟩ := Prod.mk.inj (Option.some.inj h)
      exact am_Y.ret rfl
  · replace h := (if_neg hc).symm.trans h
    refine am_Y.weak (lv2 := [(0, .ref 129), (2, .int x2)]) rfl rfl ⟨rfl, rfl, trivial⟩ ?_
    exact t_m_behindOne_102 N x2 M _ _ h
set_option maxRecDepth 100000 in
theorem t_m_behindOne {S : Nat × (Nat → Int32)} (N : Nat) (M : Mem) (r : Int32) (M' : Mem) (h : f_m_behindOne N M = some (r, M')) : am_Y S 4 0 0 am_M332 0 [(0, .ref 129)] [] (hp M) (some (.int r)) (hp M') := by
  rw [f_m_behindOne] at h
  refine am_Y.run (k := 1) (pc' := 1) (lv' := [(0, .ref 129)]) (st' := [.ref 129]) (h' := hp M) rfl ?_
  obtain ⟨q1, e_q1, h⟩ := Option.bind_eq_some_iff.mp h
  refine am_Y.call0 (M' := am_M342) (as := [.ref 129]) (rest := []) (d' := 3) rfl (by omega) rfl rfl (t_m_betweenOf N M q1 e_q1) ?_
  refine am_Y.run (k := 2) (pc' := 6) (lv' := [(1, .int q1), (0, .ref 129)]) (st' := [.int q1]) (h' := hp M) rfl ?_
  refine am_Y.br (c := q1 < (0 : Int32)) _ (t := 48) (u := 9) (lv' := [(1, .int q1), (0, .ref 129)]) (st' := []) (h' := hp M) rfl (fun hc => ?_) (fun hc => ?_)
  · replace h := (if_pos hc).symm.trans h
    refine am_Y.run (k := 1) (pc' := 49) (lv' := [(1, .int q1), (0, .ref 129)]) (st' := [.ref 129]) (h' := hp M) rfl ?_
    obtain ⟨q2, e_q2, h⟩ := Option.bind_eq_some_iff.mp h
    refine am_Y.call0 (M' := am_M334) (as := [.ref 129]) (rest := []) (d' := 1) rfl (by omega) rfl rfl (t_m_openNow N M q2 e_q2) ?_
    refine am_Y.run (k := 3) (pc' := 56) (lv' := [(2, .int q2), (1, .int q1), (0, .ref 129)]) (st' := [.int (40 : Int32), .int q2]) (h' := hp M) rfl ?_
    refine am_Y.br (c := q2 = (40 : Int32)) _ (t := 59) (u := 68) (lv' := [(2, .int q2), (1, .int q1), (0, .ref 129)]) (st' := []) (h' := hp M) rfl (fun hc => ?_) (fun hc => ?_)
    · replace h := (if_pos hc).symm.trans h
      refine am_Y.run (k := 3) (pc' := 65) (lv' := [(2, .int q2), (1, .int q1), (0, .ref 129)]) (st' := [.int (41 : Int32), .int (gi M 129 9)]) (h' := hp M) rfl ?_
      refine am_Y.br (c := (gi M 129 9) = (41 : Int32)) _ (t := 90) (u := 68) (lv' := [(2, .int q2), (1, .int q1), (0, .ref 129)]) (st' := []) (h' := hp M) rfl (fun hc => ?_) (fun hc => ?_)
      · replace h := (if_pos hc).symm.trans h
        refine am_Y.run (k := 2) (pc' := 92) (lv' := [(2, .int q2), (1, .int q1), (0, .ref 129)]) (st' := [.int (1 : Int32), .ref 129]) (h' := hp M) rfl ?_
        obtain ⟨q3, e_q3, h⟩ := Option.bind_eq_some_iff.mp h
        refine am_Y.call0 (M' := am_M336) (as := [.ref 129, .int (1 : Int32)]) (rest := []) (d' := 1) rfl (by omega) rfl rfl (t_m_settle N (1 : Int32) M q3 e_q3) ?_
        refine am_Y.run (k := 2) (pc' := 97) (lv' := [(2, .int q2), (1, .int q1), (0, .ref 129)]) (st' := [.int q2, .ref 129]) (h' := hp q3) rfl ?_
        obtain ⟨q4, e_q4, h⟩ := Option.bind_eq_some_iff.mp h
        refine am_Y.call0 (M' := am_M344) (as := [.ref 129, .int q2]) (rest := []) (d' := 2) rfl (by omega) rfl rfl (t_m_shut N q2 q3 q4 e_q4) ?_
        refine am_Y.run (k := 1) (pc' := 101) (lv' := [(2, .int q2), (1, .int q1), (0, .ref 129)]) (st' := [.int (0 : Int32)]) (h' := hp q4) rfl ?_
        obtain ⟨rfl, rfl⟩ := Prod.mk.inj (Option.some.inj h)
        exact am_Y.ret rfl
      · replace h := (if_neg hc).symm.trans h
        refine am_Y.weak (lv2 := [(0, .ref 129), (2, .int q2)]) rfl rfl ⟨rfl, rfl, trivial⟩ ?_
        exact t_m_behindOne_68 N q2 M _ _ h
    · replace h := (if_neg hc).symm.trans h
      refine am_Y.weak (lv2 := [(0, .ref 129), (2, .int q2)]) rfl rfl ⟨rfl, rfl, trivial⟩ ?_
      exact t_m_behindOne_68 N q2 M _ _ h
  · replace h := (if_neg hc).symm.trans h
    refine am_Y.run (k := 2) (pc' := 11) (lv' := [(1, .int q1), (0, .ref 129)]) (st' := [.int q1, .ref 129]) (h' := hp M) rfl ?_
    refine am_Y.call0 (M' := am_M343) (as := [.int q1]) (rest := [.ref 129]) (d' := 0) rfl (by omega) rfl rfl (t_m_rank q1 M _ rfl) ?_
    obtain ⟨q5, e_q5, h⟩ := Option.bind_eq_some_iff.mp h
    refine am_Y.call0 (M' := am_M336) (as := [.ref 129, .int (f_m_rank q1 M)]) (rest := []) (d' := 1) rfl (by omega) rfl rfl (t_m_settle N (f_m_rank q1 M) M q5 e_q5) ?_
    refine am_Y.run (k := 5) (pc' := 26) (lv' := [(1, .int q1), (0, .ref 129)]) (st' := [.int q1, .int (gi q5 129 19), .ref 134]) (h' := hp q5) rfl ?_
    obtain ⟨g, h⟩ := am_itg h
    refine am_Y.iast (a := 129) (n := 160) rfl rfl g ?_
    refine am_Y.run (k := 0) (pc' := _) (lv' := [(1, .int q1), (0, .ref 129)]) (st' := []) (h' := hp (si q5 134 ((gi q5 129 19)).toNatClampNeg q1)) rfl ?_
    obtain ⟨q6, e_q6, h⟩ := Option.bind_eq_some_iff.mp h
    rw [Option.some.inj e_q6]
    refine am_Y.run (k := 6) (pc' := 37) (lv' := [(1, .int q1), (0, .ref 129)]) (st' := []) (h' := hp (si q6 129 19 ((gi q6 129 19) + (1 : Int32)))) rfl ?_
    obtain ⟨q7, e_q7, h⟩ := Option.bind_eq_some_iff.mp h
    rw [Option.some.inj e_q7]
    refine am_Y.run (k := 3) (pc' := 42) (lv' := [(1, .int q1), (0, .ref 129)]) (st' := []) (h' := hp (si q7 129 22 (0 : Int32))) rfl ?_
    obtain ⟨q8, e_q8, h⟩ := Option.bind_eq_some_iff.mp h
    rw [Option.some.inj e_q8]
    refine am_Y.run (k := 1) (pc' := 43) (lv' := [(1, .int q1), (0, .ref 129)]) (st' := [.ref 129]) (h' := hp q8) rfl ?_
    obtain ⟨q9, e_q9, h⟩ := Option.bind_eq_some_iff.mp h
    refine am_Y.call0 (M' := am_M228) (as := [.ref 129]) (rest := []) (d' := 1) rfl (by omega) rfl rfl (t_m_nextToken N q8 q9 e_q9) ?_
    refine am_Y.run (k := 1) (pc' := 47) (lv' := [(1, .int q1), (0, .ref 129)]) (st' := [.int (0 : Int32)]) (h' := hp q9) rfl ?_
    obtain ⟨rfl, rfl⟩ := Prod.mk.inj (Option.some.inj h)
    exact am_Y.ret rfl
set_option maxRecDepth 100000 in
theorem t_m_parsed_43 {S : Nat × (Nat → Int32)} (N : Nat) (K25 : Int32 → Mem → Option (Int32 × Mem)) (hK25 : ∀ (x1 : Int32) (M : Mem) (r : Int32) (M' : Mem), K25 x1 M = some (r, M') → am_Y S 7 0 0 am_M325 25 [(0, .ref 129), (1, .int x1)] [] (hp M) (some (.int r)) (hp M')) (x1 : Int32) (s0 : Int32) (M : Mem) (r : Int32) (M' : Mem) (h : f_m_parsed_43 N K25 x1 s0 M = some (r, M')) : am_Y S 7 0 0 am_M325 43 [(0, .ref 129), (1, .int x1)] [.int s0] (hp M) (some (.int r)) (hp M') := by
  rw [f_m_parsed_43] at h
  refine am_Y.run (k := 2) (pc' := 45) (lv' := [(2, .int s0), (0, .ref 129), (1, .int x1)]) (st' := [.int s0]) (h' := hp M) rfl ?_
  refine am_Y.br (c := s0 ≤ (0 : Int32)) _ (t := 50) (u := 48) (lv' := [(2, .int s0), (0, .ref 129), (1, .int x1)]) (st' := []) (h' := hp M) rfl (fun hc => ?_) (fun hc => ?_)
  · replace h := (if_pos hc).symm.trans h
    refine am_Y.run (k := 1) (pc' := 51) (lv' := [(2, .int s0), (0, .ref 129), (1, .int x1)]) (st' := [.int s0]) (h' := hp M) rfl ?_
    refine am_Y.br (c := s0 = (0 : Int32)) _ (t := 54) (u := 57) (lv' := [(2, .int s0), (0, .ref 129), (1, .int x1)]) (st' := []) (h' := hp M) rfl (fun hc => ?_) (fun hc => ?_)
    · replace h := (if_pos hc).symm.trans h
      refine am_Y.run (k := 1) (pc' := 25) (lv' := [(2, .int s0), (0, .ref 129), (1, .int x1)]) (st' := []) (h' := hp M) rfl ?_
      refine am_Y.weak (lv2 := [(0, .ref 129), (1, .int x1)]) rfl rfl ⟨rfl, rfl, trivial⟩ ?_
      exact hK25 x1 M _ _ h
    · replace h := (if_neg hc).symm.trans h
      refine am_Y.run (k := 1) (pc' := 58) (lv' := [(2, .int s0), (0, .ref 129), (1, .int x1)]) (st' := [.ref 129]) (h' := hp M) rfl ?_
      obtain ⟨q8, e_q8, h⟩ := Option.bind_eq_some_iff.mp h
      refine am_Y.call0 (M' := am_M334) (as := [.ref 129]) (rest := []) (d' := 1) rfl (by omega) rfl rfl (t_m_openNow N M q8 e_q8) ?_
      refine am_Y.br (c := (0 : Int32) ≤ q8) _ (t := 75) (u := 64) (lv' := [(2, .int s0), (0, .ref 129), (1, .int x1)]) (st' := []) (h' := hp M) rfl (fun hc => ?_) (fun hc => ?_)
      · replace h := (if_pos hc).symm.trans h
        refine am_Y.run (k := 1) (pc' := 76) (lv' := [(2, .int s0), (0, .ref 129), (1, .int x1)]) (st' := [.int (1 : Int32)]) (h' := hp M) rfl ?_
        obtain ⟨rfl, rfl⟩ := Prod.mk.inj (Option.some.inj h)
        exact am_Y.ret rfl
      · replace h := (if_neg hc).symm.trans h
        refine am_Y.run (k := 1) (pc' := 65) (lv' := [(2, .int s0), (0, .ref 129), (1, .int x1)]) (st' := [.int x1]) (h' := hp M) rfl ?_
        refine am_Y.br (c := x1 = (0 : Int32)) _ (t := 77) (u := 68) (lv' := [(2, .int s0), (0, .ref 129), (1, .int x1)]) (st' := []) (h' := hp M) rfl (fun hc => ?_) (fun hc => ?_)
        · replace h := (if_pos hc).symm.trans h
          refine am_Y.run (k := 2) (pc' := 79) (lv' := [(2, .int s0), (0, .ref 129), (1, .int x1)]) (st' := [.int (1 : Int32), .ref 129]) (h' := hp M) rfl ?_
          obtain ⟨q9, e_q9, h⟩ := Option.bind_eq_some_iff.mp h
          refine am_Y.call0 (M' := am_M336) (as := [.ref 129, .int (1 : Int32)]) (rest := []) (d' := 1) rfl (by omega) rfl rfl (t_m_settle N (1 : Int32) M q9 e_q9) ?_
          refine am_Y.run (k := 1) (pc' := 83) (lv' := [(2, .int s0), (0, .ref 129), (1, .int x1)]) (st' := [.int (0 : Int32)]) (h' := hp q9) rfl ?_
          obtain ⟨rfl, rfl⟩ := Prod.mk.inj (Option.some.inj h)
          exact am_Y.ret rfl
        · replace h := (if_neg hc).symm.trans h
          refine am_Y.run (k := 1) (pc' := 69) (lv' := [(2, .int s0), (0, .ref 129), (1, .int x1)]) (st' := [.ref 129]) (h' := hp M) rfl ?_
          obtain ⟨q10, e_q10, h⟩ := Option.bind_eq_some_iff.mp h
          refine am_Y.call0 (M' := am_M335) (as := [.ref 129]) (rest := []) (d' := 1) rfl (by omega) rfl rfl (t_m_isCompared N M q10 e_q10) ?_
          refine am_Y.br (c := q10 = (0 : Int32)) _ (t := 75) (u := 77) (lv' := [(2, .int s0), (0, .ref 129), (1, .int x1)]) (st' := []) (h' := hp M) rfl (fun hc => ?_) (fun hc => ?_)
          · replace h := (if_pos hc).symm.trans h
            refine am_Y.run (k := 1) (pc' := 76) (lv' := [(2, .int s0), (0, .ref 129), (1, .int x1)]) (st' := [.int (1 : Int32)]) (h' := hp M) rfl ?_
            obtain ⟨rfl, rfl⟩ := Prod.mk.inj (Option.some.inj h)
            exact am_Y.ret rfl
          · replace h := (if_neg hc).symm.trans h
            refine am_Y.run (k := 2) (pc' := 79) (lv' := [(2, .int s0), (0, .ref 129), (1, .int x1)]) (st' := [.int (1 : Int32), .ref 129]) (h' := hp M) rfl ?_
            obtain ⟨q11, e_q11, h⟩ := Option.bind_eq_some_iff.mp h
            refine am_Y.call0 (M' := am_M336) (as := [.ref 129, .int (1 : Int32)]) (rest := []) (d' := 1) rfl (by omega) rfl rfl (t_m_settle N (1 : Int32) M q11 e_q11) ?_
            refine am_Y.run (k := 1) (pc' := 83) (lv' := [(2, .int s0), (0, .ref 129), (1, .int x1)]) (st' := [.int (0 : Int32)]) (h' := hp q11) rfl ?_
            obtain ⟨rfl, rfl⟩ := Prod.mk.inj (Option.some.inj h)
            exact am_Y.ret rfl
  · replace h := (if_neg hc).symm.trans h
    refine am_Y.run (k := 1) (pc' := 49) (lv' := [(2, .int s0), (0, .ref 129), (1, .int x1)]) (st' := [.int s0]) (h' := hp M) rfl ?_
    obtain ⟨rfl, rfl⟩ := Prod.mk.inj (Option.some.inj h)
    exact am_Y.ret rfl
set_option maxRecDepth 100000 in
theorem t_m_parsed_25 {S : Nat × (Nat → Int32)} (N : Nat) : ∀ (n : Nat) (x1 : Int32) (M : Mem) (r : Int32) (M' : Mem), f_m_parsed_25 N n x1 M = some (r, M') → am_Y S 7 0 0 am_M325 25 [(0, .ref 129), (1, .int x1)] [] (hp M) (some (.int r)) (hp M') := by
  intro n
  induction n with
  | zero =>
    intro x1 M r M' h
    cases h
  | succ n ih =>
    intro x1 M r M' h
    rw [f_m_parsed_25] at h
    refine am_Y.run (k := 2) (pc' := 29) (lv' := [(0, .ref 129), (1, .int x1)]) (st' := [.int (gi M 129 22)]) (h' := hp M) rfl ?_
    refine am_Y.br (c := (gi M 129 22) = (0 : Int32)) _ (t := 39) (u := 32) (lv' := [(0, .ref 129), (1, .int x1)]) (st' := []) (h' := hp M) rfl (fun hc => ?_) (fun hc => ?_)
    · replace h := (if_pos hc).symm.trans h
      refine am_Y.run (k := 1) (pc' := 40) (lv' := [(0, .ref 129), (1, .int x1)]) (st' := [.ref 129]) (h' := hp M) rfl ?_
      obtain ⟨q6, e_q6, h⟩ := Option.bind_eq_some_iff.mp h
      refine am_Y.call0 (M' := am_M333) (as := [.ref 129]) (rest := []) (d' := 6) rfl (by omega) rfl rfl (t_m_beginOne N M q6.1 q6.2 e_q6) ?_
      refine am_Y.weak (lv2 := [(0, .ref 129), (1, .int x1)]) rfl rfl ⟨rfl, rfl, trivial⟩ ?_
      exact t_m_parsed_43 N _ ih x1 q6.1 q6.2 _ _ h
    · replace h := (if_neg hc).symm.trans h
      refine am_Y.run (k := 1) (pc' := 33) (lv' := [(0, .ref 129), (1, .int x1)]) (st' := [.ref 129]) (h' := hp M) rfl ?_
      obtain ⟨q7, e_q7, h⟩ := Option.bind_eq_some_iff.mp h
      refine am_Y.call0 (M' := am_M332) (as := [.ref 129]) (rest := []) (d' := 4) rfl (by omega) rfl rfl (t_m_behindOne N M q7.1 q7.2 e_q7) ?_
      refine am_Y.run (k := 1) (pc' := 43) (lv' := [(0, .ref 129), (1, .int x1)]) (st' := [.int q7.1]) (h' := hp q7.2) rfl ?_
      refine am_Y.weak (lv2 := [(0, .ref 129), (1, .int x1)]) rfl rfl ⟨rfl, rfl, trivial⟩ ?_
      exact t_m_parsed_43 N _ ih x1 q7.1 q7.2 _ _ h
set_option maxRecDepth 100000 in
theorem t_m_parsed {S : Nat × (Nat → Int32)} (N : Nat) (x1 : Int32) (M : Mem) (r : Int32) (M' : Mem) (h : f_m_parsed N x1 M = some (r, M')) : am_Y S 7 0 0 am_M325 0 [(0, .ref 129), (1, .int x1)] [] (hp M) (some (.int r)) (hp M') := by
  rw [f_m_parsed] at h
  refine am_Y.run (k := 3) (pc' := 5) (lv' := [(0, .ref 129), (1, .int x1)]) (st' := []) (h' := hp (si M 129 19 (0 : Int32))) rfl ?_
  obtain ⟨q1, e_q1, h⟩ := Option.bind_eq_some_iff.mp h
  rw [Option.some.inj e_q1]
  refine am_Y.run (k := 3) (pc' := 10) (lv' := [(0, .ref 129), (1, .int x1)]) (st' := []) (h' := hp (si q1 129 20 (0 : Int32))) rfl ?_
  obtain ⟨q2, e_q2, h⟩ := Option.bind_eq_some_iff.mp h
  rw [Option.some.inj e_q2]
  refine am_Y.run (k := 3) (pc' := 15) (lv' := [(0, .ref 129), (1, .int x1)]) (st' := []) (h' := hp (si q2 129 21 (0 : Int32))) rfl ?_
  obtain ⟨q3, e_q3, h⟩ := Option.bind_eq_some_iff.mp h
  rw [Option.some.inj e_q3]
  refine am_Y.run (k := 3) (pc' := 20) (lv' := [(0, .ref 129), (1, .int x1)]) (st' := []) (h' := hp (si q3 129 22 (0 : Int32))) rfl ?_
  obtain ⟨q4, e_q4, h⟩ := Option.bind_eq_some_iff.mp h
  rw [Option.some.inj e_q4]
  refine am_Y.run (k := 2) (pc' := 22) (lv' := [(0, .ref 129), (1, .int x1)]) (st' := [.int x1, .ref 129]) (h' := hp q4) rfl ?_
  obtain ⟨g, h⟩ := am_itg h
  refine am_Y.one (pc' := 25) (lv' := [(0, .ref 129), (1, .int x1)]) (st' := []) (h' := hp (si q4 129 23 x1)) (by rcases g with e | e <;> (rw [e]; rfl)) ?_
  obtain ⟨q5, e_q5, h⟩ := Option.bind_eq_some_iff.mp h
  rw [Option.some.inj e_q5]
  refine am_Y.weak (lv2 := [(0, .ref 129), (1, .int x1)]) rfl rfl ⟨rfl, rfl, trivial⟩ ?_
  exact t_m_parsed_25 N N x1 q5 _ _ h
set_option maxRecDepth 100000 in
theorem t_m_lawClause {S : Nat × (Nat → Int32)} (N : Nat) (x1 : Int32) (x2 : Int32) (M : Mem) (r : Int32) (M' : Mem) (h : f_m_lawClause N x1 x2 M = some (r, M')) : am_Y S 8 0 0 am_M313 0 [(0, .ref 129), (1, .int x1), (2, .int x2)] [] (hp M) (some (.int r)) (hp M') := by
  rw [f_m_lawClause] at h
  refine am_Y.run (k := 7) (pc' := 11) (lv' := [(0, .ref 129), (1, .int x1), (2, .int x2)]) (st' := [.int (gi M 129 13), .int (x1 + (1 : Int32)), .ref 132]) (h' := hp M) rfl ?_
  obtain ⟨g, h⟩ := am_itg h
  refine am_Y.iast (a := 127) (n := 2820) rfl rfl g ?_
  refine am_Y.run (k := 0) (pc' := _) (lv' := [(0, .ref 129), (1, .int x1), (2, .int x2)]) (st' := []) (h' := hp (si M 132 ((x1 + (1 : Int32))).toNatClampNeg (gi M 129 13))) rfl ?_
  obtain ⟨q1, e_q1, h⟩ := Option.bind_eq_some_iff.mp h
  rw [Option.some.inj e_q1]
  refine am_Y.run (k := 2) (pc' := 14) (lv' := [(0, .ref 129), (1, .int x1), (2, .int x2)]) (st' := [.int x2, .ref 129]) (h' := hp q1) rfl ?_
  obtain ⟨q2, e_q2, h⟩ := Option.bind_eq_some_iff.mp h
  refine am_Y.call0 (M' := am_M325) (as := [.ref 129, .int x2]) (rest := []) (d' := 7) rfl (by omega) rfl rfl (t_m_parsed N x2 q1 q2.1 q2.2 e_q2) ?_
  refine am_Y.run (k := 8) (pc' := 29) (lv' := [(3, .int q2.1), (0, .ref 129), (1, .int x1), (2, .int x2)]) (st' := [.int (gi q2.2 129 13), .int (x1 + (2 : Int32)), .ref 132]) (h' := hp q2.2) rfl ?_
  obtain ⟨g, h⟩ := am_itg h
  refine am_Y.iast (a := 127) (n := 2820) rfl rfl g ?_
  refine am_Y.run (k := 0) (pc' := _) (lv' := [(3, .int q2.1), (0, .ref 129), (1, .int x1), (2, .int x2)]) (st' := []) (h' := hp (si q2.2 132 ((x1 + (2 : Int32))).toNatClampNeg (gi q2.2 129 13))) rfl ?_
  obtain ⟨q3, e_q3, h⟩ := Option.bind_eq_some_iff.mp h
  rw [Option.some.inj e_q3]
  refine am_Y.run (k := 1) (pc' := 31) (lv' := [(3, .int q2.1), (0, .ref 129), (1, .int x1), (2, .int x2)]) (st' := [.int q2.1]) (h' := hp q3) rfl ?_
  obtain ⟨rfl, rfl⟩ := Prod.mk.inj (Option.some.inj h)
  exact am_Y.ret rfl
set_option maxRecDepth 100000 in
theorem t_m_figure {S : Nat × (Nat → Int32)} (N : Nat) (x1 : Int32) (x2 : Int32) (x3 : Int32) (M : Mem) (r : Int32) (M' : Mem) (h : f_m_figure N x1 x2 x3 M = some (r, M')) : am_Y S 2 0 0 am_M315 0 [(0, .ref 129), (1, .int x1), (2, .int x2), (3, .int x3)] [] (hp M) (some (.int r)) (hp M') := by
  rw [f_m_figure] at h
  refine am_Y.run (k := 3) (pc' := 5) (lv' := [(0, .ref 129), (1, .int x1), (2, .int x2), (3, .int x3)]) (st' := [.int (1 : Int32), .int (gi M 129 9)]) (h' := hp M) rfl ?_
  refine am_Y.br (c := (gi M 129 9) = (1 : Int32)) _ (t := 10) (u := 8) (lv' := [(0, .ref 129), (1, .int x1), (2, .int x2), (3, .int x3)]) (st' := []) (h' := hp M) rfl (fun hc => ?_) (fun hc => ?_)
  · replace h := (if_pos hc).symm.trans h
    refine am_Y.run (k := 4) (pc' := 16) (lv' := [(0, .ref 129), (1, .int x1), (2, .int x2), (3, .int x3)]) (st' := [.int x3, .int x2, .int (gi M 129 10)]) (h' := hp M) rfl ?_
    refine am_Y.call0 (M' := am_M104) (as := [.int (gi M 129 10), .int x2, .int x3]) (rest := []) (d' := 0) rfl (by omega) rfl rfl (t_m_isIn (gi M 129 10) x2 x3 M _ rfl) ?_
    refine am_Y.br (c := (f_m_isIn (gi M 129 10) x2 x3 M) = (0 : Int32)) _ (t := 22) (u := 24) (lv' := [(0, .ref 129), (1, .int x1), (2, .int x2), (3, .int x3)]) (st' := []) (h' := hp M) rfl (fun hc => ?_) (fun hc => ?_)
    · replace h := (if_pos hc).symm.trans h
      refine am_Y.run (k := 1) (pc' := 23) (lv' := [(0, .ref 129), (1, .int x1), (2, .int x2), (3, .int x3)]) (st' := [.int (2 : Int32)]) (h' := hp M) rfl ?_
      obtain ⟨rfl, rfl⟩ := Prod.mk.inj (Option.some.inj h)
      exact am_Y.ret rfl
    · replace h := (if_neg hc).symm.trans h
      refine am_Y.run (k := 5) (pc' := 33) (lv' := [(0, .ref 129), (1, .int x1), (2, .int x2), (3, .int x3)]) (st' := [.int (gi M 129 10), .int x1, .ref 132]) (h' := hp M) rfl ?_
      obtain ⟨g, h⟩ := am_itg h
      refine am_Y.iast (a := 127) (n := 2820) rfl rfl g ?_
      refine am_Y.run (k := 0) (pc' := _) (lv' := [(0, .ref 129), (1, .int x1), (2, .int x2), (3, .int x3)]) (st' := []) (h' := hp (si M 132 (x1).toNatClampNeg (gi M 129 10))) rfl ?_
      obtain ⟨q1, e_q1, h⟩ := Option.bind_eq_some_iff.mp h
      rw [Option.some.inj e_q1]
      refine am_Y.run (k := 1) (pc' := 35) (lv' := [(0, .ref 129), (1, .int x1), (2, .int x2), (3, .int x3)]) (st' := [.ref 129]) (h' := hp q1) rfl ?_
      obtain ⟨q2, e_q2, h⟩ := Option.bind_eq_some_iff.mp h
      refine am_Y.call0 (M' := am_M228) (as := [.ref 129]) (rest := []) (d' := 1) rfl (by omega) rfl rfl (t_m_nextToken N q1 q2 e_q2) ?_
      refine am_Y.run (k := 1) (pc' := 39) (lv' := [(0, .ref 129), (1, .int x1), (2, .int x2), (3, .int x3)]) (st' := [.int (0 : Int32)]) (h' := hp q2) rfl ?_
      obtain ⟨rfl, rfl⟩ := Prod.mk.inj (Option.some.inj h)
      exact am_Y.ret rfl
  · replace h := (if_neg hc).symm.trans h
    refine am_Y.run (k := 1) (pc' := 9) (lv' := [(0, .ref 129), (1, .int x1), (2, .int x2), (3, .int x3)]) (st' := [.int (1 : Int32)]) (h' := hp M) rfl ?_
    obtain ⟨rfl, rfl⟩ := Prod.mk.inj (Option.some.inj h)
    exact am_Y.ret rfl
set_option maxRecDepth 100000 in
theorem t_m_guestClause {S : Nat × (Nat → Int32)} (N : Nat) (x1 : Int32) (M : Mem) (r : Int32) (M' : Mem) (h : f_m_guestClause N x1 M = some (r, M')) : am_Y S 4 0 0 am_M314 0 [(0, .ref 129), (1, .int x1)] [] (hp M) (some (.int r)) (hp M') := by
  rw [f_m_guestClause] at h
  refine am_Y.run (k := 6) (pc' := 7) (lv' := [(0, .ref 129), (1, .int x1)]) (st' := [.int (9 : Int32), .int (0 : Int32), .int (x1 + (1 : Int32)), .ref 129]) (h' := hp M) rfl ?_
  obtain ⟨q1, e_q1, h⟩ := Option.bind_eq_some_iff.mp h
  refine am_Y.call0 (M' := am_M315) (as := [.ref 129, .int (x1 + (1 : Int32)), .int (0 : Int32), .int (9 : Int32)]) (rest := []) (d' := 2) rfl (by omega) rfl rfl (t_m_figure N (x1 + (1 : Int32)) (0 : Int32) (9 : Int32) M q1.1 q1.2 e_q1) ?_
  refine am_Y.run (k := 2) (pc' := 12) (lv' := [(2, .int q1.1), (0, .ref 129), (1, .int x1)]) (st' := [.int q1.1]) (h' := hp q1.2) rfl ?_
  refine am_Y.br (c := q1.1 = (0 : Int32)) _ (t := 17) (u := 15) (lv' := [(2, .int q1.1), (0, .ref 129), (1, .int x1)]) (st' := []) (h' := hp q1.2) rfl (fun hc => ?_) (fun hc => ?_)
  · replace h := (if_pos hc).symm.trans h
    refine am_Y.run (k := 6) (pc' := 28) (lv' := [(2, .int q1.1), (0, .ref 129), (1, .int x1)]) (st' := [.int (115 : Int32), .int (114 : Int32), .int (97 : Int32), .int (101 : Int32), .int (104 : Int32), .ref 129]) (h' := hp q1.2) rfl ?_
    refine am_Y.call0 (M' := am_M311) (as := [.int (104 : Int32), .int (101 : Int32), .int (97 : Int32), .int (114 : Int32), .int (115 : Int32)]) (rest := [.ref 129]) (d' := 3) rfl (by omega) rfl rfl (t_m_w5 (104 : Int32) (101 : Int32) (97 : Int32) (114 : Int32) (115 : Int32) q1.2 (448377483891 : Int64) (by exact (by decide : f_m_w5 (104 : Int32) (101 : Int32) (97 : Int32) (114 : Int32) (115 : Int32) (fun _ _ => 0, fun _ _ => 0) = (448377483891 : Int64)))) ?_
    refine am_Y.call0 (M' := am_M308) (as := [.ref 129, .long (448377483891 : Int64)]) (rest := []) (d' := 0) rfl (by omega) rfl rfl (t_m_isWord (448377483891 : Int64) q1.2 _ rfl) ?_
    refine am_Y.br (c := (f_m_isWord (448377483891 : Int64) q1.2) = (0 : Int32)) _ (t := 37) (u := 39) (lv' := [(2, .int q1.1), (0, .ref 129), (1, .int x1)]) (st' := []) (h' := hp q1.2) rfl (fun hc => ?_) (fun hc => ?_)
    · replace h := (if_pos hc).symm.trans h
      refine am_Y.run (k := 1) (pc' := 38) (lv' := [(2, .int q1.1), (0, .ref 129), (1, .int x1)]) (st' := [.int (1 : Int32)]) (h' := hp q1.2) rfl ?_
      obtain ⟨rfl, rfl⟩ := Prod.mk.inj (Option.some.inj h)
      exact am_Y.ret rfl
    · replace h := (if_neg hc).symm.trans h
      refine am_Y.run (k := 1) (pc' := 40) (lv' := [(2, .int q1.1), (0, .ref 129), (1, .int x1)]) (st' := [.ref 129]) (h' := hp q1.2) rfl ?_
      obtain ⟨q2, e_q2, h⟩ := Option.bind_eq_some_iff.mp h
      refine am_Y.call0 (M' := am_M228) (as := [.ref 129]) (rest := []) (d' := 1) rfl (by omega) rfl rfl (t_m_nextToken N q1.2 q2 e_q2) ?_
      refine am_Y.run (k := 6) (pc' := 50) (lv' := [(2, .int q1.1), (0, .ref 129), (1, .int x1)]) (st' := [.int (9 : Int32), .int (0 : Int32), .int (x1 + (2 : Int32)), .ref 129]) (h' := hp q2) rfl ?_
      obtain ⟨q3, e_q3, h⟩ := Option.bind_eq_some_iff.mp h
      refine am_Y.call0 (M' := am_M315) (as := [.ref 129, .int (x1 + (2 : Int32)), .int (0 : Int32), .int (9 : Int32)]) (rest := []) (d' := 2) rfl (by omega) rfl rfl (t_m_figure N (x1 + (2 : Int32)) (0 : Int32) (9 : Int32) q2 q3.1 q3.2 e_q3) ?_
      obtain ⟨rfl, rfl⟩ := Prod.mk.inj (Option.some.inj h)
      exact am_Y.ret rfl
  · replace h := (if_neg hc).symm.trans h
    refine am_Y.run (k := 1) (pc' := 16) (lv' := [(2, .int q1.1), (0, .ref 129), (1, .int x1)]) (st' := [.int q1.1]) (h' := hp q1.2) rfl ?_
    obtain ⟨rfl, rfl⟩ := Prod.mk.inj (Option.some.inj h)
    exact am_Y.ret rfl
set_option maxRecDepth 100000 in
theorem t_m_body {S : Nat × (Nat → Int32)} (N : Nat) (x1 : Int32) (x2 : Int32) (M : Mem) (r : Int32) (M' : Mem) (h : f_m_body N x1 x2 M = some (r, M')) : am_Y S 9 0 0 am_M287 0 [(0, .ref 129), (1, .int x1), (2, .int x2)] [] (hp M) (some (.int r)) (hp M') := by
  rw [f_m_body] at h
  refine am_Y.run (k := 1) (pc' := 1) (lv' := [(0, .ref 129), (1, .int x1), (2, .int x2)]) (st' := [.int x1]) (h' := hp M) rfl ?_
  by_cases hc0 : x1 = (0 : Int32)
  · replace h := (if_pos hc0).symm.trans h
    refine am_Y.one (pc' := 64) (lv' := [(0, .ref 129), (1, .int x1), (2, .int x2)]) (st' := []) (h' := hp M) (am_swc hc0 rfl) ?_
    refine am_Y.run (k := 3) (pc' := 67) (lv' := [(0, .ref 129), (1, .int x1), (2, .int x2)]) (st' := [.int (1 : Int32), .int x2, .ref 129]) (h' := hp M) rfl ?_
    obtain ⟨q1, e_q1, h⟩ := Option.bind_eq_some_iff.mp h
    refine am_Y.call0 (M' := am_M313) (as := [.ref 129, .int x2, .int (1 : Int32)]) (rest := []) (d' := 8) rfl (by omega) rfl rfl (t_m_lawClause N x2 (1 : Int32) M q1.1 q1.2 e_q1) ?_
    obtain ⟨rfl, rfl⟩ := Prod.mk.inj (Option.some.inj h)
    exact am_Y.ret rfl
  replace h := (if_neg hc0).symm.trans h
  by_cases hc1 : x1 = (1 : Int32)
  · replace h := (if_pos hc1).symm.trans h
    refine am_Y.one (pc' := 71) (lv' := [(0, .ref 129), (1, .int x1), (2, .int x2)]) (st' := []) (h' := hp M) (am_swc hc1 rfl) ?_
    refine am_Y.run (k := 3) (pc' := 74) (lv' := [(0, .ref 129), (1, .int x1), (2, .int x2)]) (st' := [.int (0 : Int32), .int x2, .ref 129]) (h' := hp M) rfl ?_
    obtain ⟨q2, e_q2, h⟩ := Option.bind_eq_some_iff.mp h
    refine am_Y.call0 (M' := am_M313) (as := [.ref 129, .int x2, .int (0 : Int32)]) (rest := []) (d' := 8) rfl (by omega) rfl rfl (t_m_lawClause N x2 (0 : Int32) M q2.1 q2.2 e_q2) ?_
    obtain ⟨rfl, rfl⟩ := Prod.mk.inj (Option.some.inj h)
    exact am_Y.ret rfl
  replace h := (if_neg hc1).symm.trans h
  by_cases hc2 : x1 = (2 : Int32)
  · replace h := (if_pos hc2).symm.trans h
    refine am_Y.one (pc' := 78) (lv' := [(0, .ref 129), (1, .int x1), (2, .int x2)]) (st' := []) (h' := hp M) (am_swc hc2 rfl) ?_
    refine am_Y.run (k := 3) (pc' := 81) (lv' := [(0, .ref 129), (1, .int x1), (2, .int x2)]) (st' := [.int (0 : Int32), .int x2, .ref 129]) (h' := hp M) rfl ?_
    obtain ⟨q3, e_q3, h⟩ := Option.bind_eq_some_iff.mp h
    refine am_Y.call0 (M' := am_M313) (as := [.ref 129, .int x2, .int (0 : Int32)]) (rest := []) (d' := 8) rfl (by omega) rfl rfl (t_m_lawClause N x2 (0 : Int32) M q3.1 q3.2 e_q3) ?_
    obtain ⟨rfl, rfl⟩ := Prod.mk.inj (Option.some.inj h)
    exact am_Y.ret rfl
  replace h := (if_neg hc2).symm.trans h
  by_cases hc3 : x1 = (3 : Int32)
  · replace h := (if_pos hc3).symm.trans h
    refine am_Y.one (pc' := 85) (lv' := [(0, .ref 129), (1, .int x1), (2, .int x2)]) (st' := []) (h' := hp M) (am_swc hc3 rfl) ?_
    refine am_Y.run (k := 2) (pc' := 87) (lv' := [(0, .ref 129), (1, .int x1), (2, .int x2)]) (st' := [.int x2, .ref 129]) (h' := hp M) rfl ?_
    obtain ⟨q4, e_q4, h⟩ := Option.bind_eq_some_iff.mp h
    refine am_Y.call0 (M' := am_M314) (as := [.ref 129, .int x2]) (rest := []) (d' := 4) rfl (by omega) rfl rfl (t_m_guestClause N x2 M q4.1 q4.2 e_q4) ?_
    obtain ⟨rfl, rfl⟩ := Prod.mk.inj (Option.some.inj h)
    exact am_Y.ret rfl
  replace h := (if_neg hc3).symm.trans h
  by_cases hc8 : x1 = (8 : Int32)
  · replace h := (if_pos hc8).symm.trans h
    refine am_Y.one (pc' := 91) (lv' := [(0, .ref 129), (1, .int x1), (2, .int x2)]) (st' := []) (h' := hp M) (am_swc hc8 rfl) ?_
    refine am_Y.run (k := 1) (pc' := 92) (lv' := [(0, .ref 129), (1, .int x1), (2, .int x2)]) (st' := [.int (0 : Int32)]) (h' := hp M) rfl ?_
    obtain ⟨rfl, rfl⟩ := Prod.mk.inj (Option.some.inj h)
    exact am_Y.ret rfl
  replace h := (if_neg hc8).symm.trans h
  by_cases hc9 : x1 = (9 : Int32)
  · replace h := (if_pos hc9).symm.trans h
    refine am_Y.one (pc' := 95) (lv' := [(0, .ref 129), (1, .int x1), (2, .int x2)]) (st' := []) (h' := hp M) (am_swc hc9 rfl) ?_
    refine am_Y.run (k := 6) (pc' := 102) (lv' := [(0, .ref 129), (1, .int x1), (2, .int x2)]) (st' := [.int (60 : Int32), .int (1 : Int32), .int (x2 + (1 : Int32)), .ref 129]) (h' := hp M) rfl ?_
    obtain ⟨q5, e_q5, h⟩ := Option.bind_eq_some_iff.mp h
    refine am_Y.call0 (M' := am_M315) (as := [.ref 129, .int (x2 + (1 : Int32)), .int (1 : Int32), .int (60 : Int32)]) (rest := []) (d' := 2) rfl (by omega) rfl rfl (t_m_figure N (x2 + (1 : Int32)) (1 : Int32) (60 : Int32) M q5.1 q5.2 e_q5) ?_
    obtain ⟨rfl, rfl⟩ := Prod.mk.inj (Option.some.inj h)
    exact am_Y.ret rfl
  replace h := (if_neg hc9).symm.trans h
  by_cases hc11 : x1 = (11 : Int32)
  · replace h := (if_pos hc11).symm.trans h
    refine am_Y.one (pc' := 93) (lv' := [(0, .ref 129), (1, .int x1), (2, .int x2)]) (st' := []) (h' := hp M) (am_swc hc11 rfl) ?_
    refine am_Y.run (k := 1) (pc' := 94) (lv' := [(0, .ref 129), (1, .int x1), (2, .int x2)]) (st' := [.int (0 : Int32)]) (h' := hp M) rfl ?_
    obtain ⟨rfl, rfl⟩ := Prod.mk.inj (Option.some.inj h)
    exact am_Y.ret rfl
  replace h := (if_neg hc11).symm.trans h
  by_cases hc4 : x1 = (4 : Int32)
  · refine am_Y.one (pc' := 106) (lv' := [(0, .ref 129), (1, .int x1), (2, .int x2)]) (st' := []) (h' := hp M) (am_swc hc4 rfl) ?_
    refine am_Y.run (k := 6) (pc' := 113) (lv' := [(0, .ref 129), (1, .int x1), (2, .int x2)]) (st' := [.int (7 : Int32), .int (0 : Int32), .int (x2 + (1 : Int32)), .ref 129]) (h' := hp M) rfl ?_
    obtain ⟨q6, e_q6, h⟩ := Option.bind_eq_some_iff.mp h
    refine am_Y.call0 (M' := am_M315) (as := [.ref 129, .int (x2 + (1 : Int32)), .int (0 : Int32), .int (7 : Int32)]) (rest := []) (d' := 2) rfl (by omega) rfl rfl (t_m_figure N (x2 + (1 : Int32)) (0 : Int32) (7 : Int32) M q6.1 q6.2 e_q6) ?_
    obtain ⟨rfl, rfl⟩ := Prod.mk.inj (Option.some.inj h)
    exact am_Y.ret rfl
  by_cases hc5 : x1 = (5 : Int32)
  · refine am_Y.one (pc' := 106) (lv' := [(0, .ref 129), (1, .int x1), (2, .int x2)]) (st' := []) (h' := hp M) (am_swc hc5 rfl) ?_
    refine am_Y.run (k := 6) (pc' := 113) (lv' := [(0, .ref 129), (1, .int x1), (2, .int x2)]) (st' := [.int (7 : Int32), .int (0 : Int32), .int (x2 + (1 : Int32)), .ref 129]) (h' := hp M) rfl ?_
    obtain ⟨q6, e_q6, h⟩ := Option.bind_eq_some_iff.mp h
    refine am_Y.call0 (M' := am_M315) (as := [.ref 129, .int (x2 + (1 : Int32)), .int (0 : Int32), .int (7 : Int32)]) (rest := []) (d' := 2) rfl (by omega) rfl rfl (t_m_figure N (x2 + (1 : Int32)) (0 : Int32) (7 : Int32) M q6.1 q6.2 e_q6) ?_
    obtain ⟨rfl, rfl⟩ := Prod.mk.inj (Option.some.inj h)
    exact am_Y.ret rfl
  by_cases hc6 : x1 = (6 : Int32)
  · refine am_Y.one (pc' := 106) (lv' := [(0, .ref 129), (1, .int x1), (2, .int x2)]) (st' := []) (h' := hp M) (am_swc hc6 rfl) ?_
    refine am_Y.run (k := 6) (pc' := 113) (lv' := [(0, .ref 129), (1, .int x1), (2, .int x2)]) (st' := [.int (7 : Int32), .int (0 : Int32), .int (x2 + (1 : Int32)), .ref 129]) (h' := hp M) rfl ?_
    obtain ⟨q6, e_q6, h⟩ := Option.bind_eq_some_iff.mp h
    refine am_Y.call0 (M' := am_M315) (as := [.ref 129, .int (x2 + (1 : Int32)), .int (0 : Int32), .int (7 : Int32)]) (rest := []) (d' := 2) rfl (by omega) rfl rfl (t_m_figure N (x2 + (1 : Int32)) (0 : Int32) (7 : Int32) M q6.1 q6.2 e_q6) ?_
    obtain ⟨rfl, rfl⟩ := Prod.mk.inj (Option.some.inj h)
    exact am_Y.ret rfl
  by_cases hc7 : x1 = (7 : Int32)
  · refine am_Y.one (pc' := 106) (lv' := [(0, .ref 129), (1, .int x1), (2, .int x2)]) (st' := []) (h' := hp M) (am_swc hc7 rfl) ?_
    refine am_Y.run (k := 6) (pc' := 113) (lv' := [(0, .ref 129), (1, .int x1), (2, .int x2)]) (st' := [.int (7 : Int32), .int (0 : Int32), .int (x2 + (1 : Int32)), .ref 129]) (h' := hp M) rfl ?_
    obtain ⟨q6, e_q6, h⟩ := Option.bind_eq_some_iff.mp h
    refine am_Y.call0 (M' := am_M315) (as := [.ref 129, .int (x2 + (1 : Int32)), .int (0 : Int32), .int (7 : Int32)]) (rest := []) (d' := 2) rfl (by omega) rfl rfl (t_m_figure N (x2 + (1 : Int32)) (0 : Int32) (7 : Int32) M q6.1 q6.2 e_q6) ?_
    obtain ⟨rfl, rfl⟩ := Prod.mk.inj (Option.some.inj h)
    exact am_Y.ret rfl
  by_cases hc10 : x1 = (10 : Int32)
  · refine am_Y.one (pc' := 106) (lv' := [(0, .ref 129), (1, .int x1), (2, .int x2)]) (st' := []) (h' := hp M) (am_swc hc10 rfl) ?_
    refine am_Y.run (k := 6) (pc' := 113) (lv' := [(0, .ref 129), (1, .int x1), (2, .int x2)]) (st' := [.int (7 : Int32), .int (0 : Int32), .int (x2 + (1 : Int32)), .ref 129]) (h' := hp M) rfl ?_
    obtain ⟨q6, e_q6, h⟩ := Option.bind_eq_some_iff.mp h
    refine am_Y.call0 (M' := am_M315) (as := [.ref 129, .int (x2 + (1 : Int32)), .int (0 : Int32), .int (7 : Int32)]) (rest := []) (d' := 2) rfl (by omega) rfl rfl (t_m_figure N (x2 + (1 : Int32)) (0 : Int32) (7 : Int32) M q6.1 q6.2 e_q6) ?_
    obtain ⟨rfl, rfl⟩ := Prod.mk.inj (Option.some.inj h)
    exact am_Y.ret rfl
  refine am_Y.one (pc' := 106) (lv' := [(0, .ref 129), (1, .int x1), (2, .int x2)]) (st' := []) (h' := hp M) (am_swd (x := x1) rfl (by have := am_neT (0) hc0 (by decide); have := am_neT (1) hc1 (by decide); have := am_neT (2) hc2 (by decide); have := am_neT (3) hc3 (by decide); have := am_neT (8) hc8 (by decide); have := am_neT (9) hc9 (by decide); have := am_neT (11) hc11 (by decide); have := am_neT (4) hc4 (by decide); have := am_neT (5) hc5 (by decide); have := am_neT (6) hc6 (by decide); have := am_neT (7) hc7 (by decide); have := am_neT (10) hc10 (by decide); omega) rfl) ?_
  refine am_Y.run (k := 6) (pc' := 113) (lv' := [(0, .ref 129), (1, .int x1), (2, .int x2)]) (st' := [.int (7 : Int32), .int (0 : Int32), .int (x2 + (1 : Int32)), .ref 129]) (h' := hp M) rfl ?_
  obtain ⟨q6, e_q6, h⟩ := Option.bind_eq_some_iff.mp h
  refine am_Y.call0 (M' := am_M315) (as := [.ref 129, .int (x2 + (1 : Int32)), .int (0 : Int32), .int (7 : Int32)]) (rest := []) (d' := 2) rfl (by omega) rfl rfl (t_m_figure N (x2 + (1 : Int32)) (0 : Int32) (7 : Int32) M q6.1 q6.2 e_q6) ?_
  obtain ⟨rfl, rfl⟩ := Prod.mk.inj (Option.some.inj h)
  exact am_Y.ret rfl
set_option maxRecDepth 100000 in
theorem t_m_clause_65 {S : Nat × (Nat → Int32)} (N : Nat) (x1 : Int32) (x2 : Int32) (M : Mem) (r : Int32) (M' : Mem) (h : f_m_clause_65 N x1 x2 M = some (r, M')) : am_Y S 10 0 0 am_M229 65 [(0, .ref 129), (1, .int x1), (2, .int x2)] [] (hp M) (some (.int r)) (hp M') := by
  rw [f_m_clause_65] at h
  refine am_Y.run (k := 3) (pc' := 70) (lv' := [(0, .ref 129), (1, .int x1), (2, .int x2)]) (st' := []) (h' := hp (si M 129 14 x1)) rfl ?_
  obtain ⟨q2, e_q2, h⟩ := Option.bind_eq_some_iff.mp h
  rw [Option.some.inj e_q2]
  refine am_Y.run (k := 1) (pc' := 71) (lv' := [(0, .ref 129), (1, .int x1), (2, .int x2)]) (st' := [.ref 129]) (h' := hp q2) rfl ?_
  obtain ⟨q3, e_q3, h⟩ := Option.bind_eq_some_iff.mp h
  refine am_Y.call0 (M' := am_M228) (as := [.ref 129]) (rest := []) (d' := 1) rfl (by omega) rfl rfl (t_m_nextToken N q2 q3 e_q3) ?_
  refine am_Y.run (k := 13) (pc' := 91) (lv' := [(3, .int (((gi q3 129 12) + (1 : Int32)) + ((4 : Int32) * x2))), (0, .ref 129), (1, .int x1), (2, .int x2)]) (st' := [.int x1, .int (((gi q3 129 12) + (1 : Int32)) + ((4 : Int32) * x2)), .ref 132]) (h' := hp q3) rfl ?_
  obtain ⟨g, h⟩ := am_itg h
  refine am_Y.iast (a := 127) (n := 2820) rfl rfl g ?_
  refine am_Y.run (k := 0) (pc' := _) (lv' := [(3, .int (((gi q3 129 12) + (1 : Int32)) + ((4 : Int32) * x2))), (0, .ref 129), (1, .int x1), (2, .int x2)]) (st' := []) (h' := hp (si q3 132 ((((gi q3 129 12) + (1 : Int32)) + ((4 : Int32) * x2))).toNatClampNeg x1)) rfl ?_
  obtain ⟨q4, e_q4, h⟩ := Option.bind_eq_some_iff.mp h
  rw [Option.some.inj e_q4]
  refine am_Y.run (k := 3) (pc' := 95) (lv' := [(3, .int (((gi q3 129 12) + (1 : Int32)) + ((4 : Int32) * x2))), (0, .ref 129), (1, .int x1), (2, .int x2)]) (st' := [.int (((gi q3 129 12) + (1 : Int32)) + ((4 : Int32) * x2)), .int x1, .ref 129]) (h' := hp q4) rfl ?_
  obtain ⟨q5, e_q5, h⟩ := Option.bind_eq_some_iff.mp h
  refine am_Y.call0 (M' := am_M287) (as := [.ref 129, .int x1, .int (((gi q3 129 12) + (1 : Int32)) + ((4 : Int32) * x2))]) (rest := []) (d' := 9) rfl (by omega) rfl rfl (t_m_body N x1 (((gi q3 129 12) + (1 : Int32)) + ((4 : Int32) * x2)) q4 q5.1 q5.2 e_q5) ?_
  refine am_Y.run (k := 2) (pc' := 102) (lv' := [(4, .int q5.1), (3, .int (((gi q3 129 12) + (1 : Int32)) + ((4 : Int32) * x2))), (0, .ref 129), (1, .int x1), (2, .int x2)]) (st' := [.int q5.1]) (h' := hp q5.2) rfl ?_
  refine am_Y.br (c := q5.1 = (0 : Int32)) _ (t := 108) (u := 105) (lv' := [(4, .int q5.1), (3, .int (((gi q3 129 12) + (1 : Int32)) + ((4 : Int32) * x2))), (0, .ref 129), (1, .int x1), (2, .int x2)]) (st' := []) (h' := hp q5.2) rfl (fun hc => ?_) (fun hc => ?_)
  · replace h := (if_pos hc).symm.trans h
    refine am_Y.run (k := 5) (pc' := 117) (lv' := [(4, .int q5.1), (3, .int (((gi q3 129 12) + (1 : Int32)) + ((4 : Int32) * x2))), (0, .ref 129), (1, .int x1), (2, .int x2)]) (st' := [.int (gi q5.2 129 12), .ref 132, .int (gi q5.2 129 12), .ref 132]) (h' := hp q5.2) rfl ?_
    obtain ⟨g, h⟩ := am_itg h
    refine am_Y.iald (a := 127) (n := 2820) rfl rfl g ?_
    refine am_Y.run (k := 2) (pc' := 120) (lv' := [(4, .int q5.1), (3, .int (((gi q3 129 12) + (1 : Int32)) + ((4 : Int32) * x2))), (0, .ref 129), (1, .int x1), (2, .int x2)]) (st' := [.int ((gi q5.2 132 ((gi q5.2 129 12)).toNatClampNeg) + (1 : Int32)), .int (gi q5.2 129 12), .ref 132]) (h' := hp q5.2) rfl ?_
    obtain ⟨g, h⟩ := am_itg h
    refine am_Y.iast (a := 127) (n := 2820) rfl rfl g ?_
    refine am_Y.run (k := 0) (pc' := _) (lv' := [(4, .int q5.1), (3, .int (((gi q3 129 12) + (1 : Int32)) + ((4 : Int32) * x2))), (0, .ref 129), (1, .int x1), (2, .int x2)]) (st' := []) (h' := hp (si q5.2 132 ((gi q5.2 129 12)).toNatClampNeg ((gi q5.2 132 ((gi q5.2 129 12)).toNatClampNeg) + (1 : Int32)))) rfl ?_
    obtain ⟨q6, e_q6, h⟩ := Option.bind_eq_some_iff.mp h
    rw [Option.some.inj e_q6]
    refine am_Y.run (k := 3) (pc' := 127) (lv' := [(4, .int q5.1), (3, .int (((gi q3 129 12) + (1 : Int32)) + ((4 : Int32) * x2))), (0, .ref 129), (1, .int x1), (2, .int x2)]) (st' := [.int (59 : Int32), .int (gi q6 129 9)]) (h' := hp q6) rfl ?_
    refine am_Y.br (c := (gi q6 129 9) = (59 : Int32)) _ (t := 132) (u := 130) (lv' := [(4, .int q5.1), (3, .int (((gi q3 129 12) + (1 : Int32)) + ((4 : Int32) * x2))), (0, .ref 129), (1, .int x1), (2, .int x2)]) (st' := []) (h' := hp q6) rfl (fun hc => ?_) (fun hc => ?_)
    · replace h := (if_pos hc).symm.trans h
      refine am_Y.run (k := 1) (pc' := 133) (lv' := [(4, .int q5.1), (3, .int (((gi q3 129 12) + (1 : Int32)) + ((4 : Int32) * x2))), (0, .ref 129), (1, .int x1), (2, .int x2)]) (st' := [.ref 129]) (h' := hp q6) rfl ?_
      obtain ⟨q7, e_q7, h⟩ := Option.bind_eq_some_iff.mp h
      refine am_Y.call0 (M' := am_M228) (as := [.ref 129]) (rest := []) (d' := 1) rfl (by omega) rfl rfl (t_m_nextToken N q6 q7 e_q7) ?_
      refine am_Y.run (k := 1) (pc' := 137) (lv' := [(4, .int q5.1), (3, .int (((gi q3 129 12) + (1 : Int32)) + ((4 : Int32) * x2))), (0, .ref 129), (1, .int x1), (2, .int x2)]) (st' := [.int (0 : Int32)]) (h' := hp q7) rfl ?_
      obtain ⟨rfl, rfl⟩ := Prod.mk.inj (Option.some.inj h)
      exact am_Y.ret rfl
    · replace h := (if_neg hc).symm.trans h
      refine am_Y.run (k := 1) (pc' := 131) (lv' := [(4, .int q5.1), (3, .int (((gi q3 129 12) + (1 : Int32)) + ((4 : Int32) * x2))), (0, .ref 129), (1, .int x1), (2, .int x2)]) (st' := [.int (1 : Int32)]) (h' := hp q6) rfl ?_
      obtain ⟨rfl, rfl⟩ := Prod.mk.inj (Option.some.inj h)
      exact am_Y.ret rfl
  · replace h := (if_neg hc).symm.trans h
    refine am_Y.run (k := 1) (pc' := 107) (lv' := [(4, .int q5.1), (3, .int (((gi q3 129 12) + (1 : Int32)) + ((4 : Int32) * x2))), (0, .ref 129), (1, .int x1), (2, .int x2)]) (st' := [.int q5.1]) (h' := hp q5.2) rfl ?_
    obtain ⟨rfl, rfl⟩ := Prod.mk.inj (Option.some.inj h)
    exact am_Y.ret rfl
set_option maxRecDepth 100000 in
theorem t_m_clause_29 {S : Nat × (Nat → Int32)} (N : Nat) (x1 : Int32) (M : Mem) (r : Int32) (M' : Mem) (h : f_m_clause_29 N x1 M = some (r, M')) : am_Y S 10 0 0 am_M229 29 [(0, .ref 129), (1, .int x1)] [] (hp M) (some (.int r)) (hp M') := by
  rw [f_m_clause_29] at h
  refine am_Y.run (k := 4) (pc' := 37) (lv' := [(0, .ref 129), (1, .int x1)]) (st' := [.int (gi M 129 12), .ref 132]) (h' := hp M) rfl ?_
  obtain ⟨g, h⟩ := am_itg h
  refine am_Y.iald (a := 127) (n := 2820) rfl rfl g ?_
  refine am_Y.run (k := 3) (pc' := 42) (lv' := [(2, .int (gi M 132 ((gi M 129 12)).toNatClampNeg)), (0, .ref 129), (1, .int x1)]) (st' := [.int (24 : Int32), .int (gi M 132 ((gi M 129 12)).toNatClampNeg)]) (h' := hp M) rfl ?_
  refine am_Y.br (c := (gi M 132 ((gi M 129 12)).toNatClampNeg) = (24 : Int32)) _ (t := 45) (u := 48) (lv' := [(2, .int (gi M 132 ((gi M 129 12)).toNatClampNeg)), (0, .ref 129), (1, .int x1)]) (st' := []) (h' := hp M) rfl (fun hc => ?_) (fun hc => ?_)
  · replace h := (if_pos hc).symm.trans h
    refine am_Y.run (k := 1) (pc' := 47) (lv' := [(2, .int (gi M 132 ((gi M 129 12)).toNatClampNeg)), (0, .ref 129), (1, .int x1)]) (st' := [.int (6 : Int32)]) (h' := hp M) rfl ?_
    obtain ⟨rfl, rfl⟩ := Prod.mk.inj (Option.some.inj h)
    exact am_Y.ret rfl
  · replace h := (if_neg hc).symm.trans h
    refine am_Y.run (k := 2) (pc' := 50) (lv' := [(2, .int (gi M 132 ((gi M 129 12)).toNatClampNeg)), (0, .ref 129), (1, .int x1)]) (st' := [.int (2 : Int32), .int x1]) (h' := hp M) rfl ?_
    refine am_Y.br (c := (2 : Int32) < x1) _ (t := 65) (u := 53) (lv' := [(2, .int (gi M 132 ((gi M 129 12)).toNatClampNeg)), (0, .ref 129), (1, .int x1)]) (st' := []) (h' := hp M) rfl (fun hc => ?_) (fun hc => ?_)
    · replace h := (if_pos hc).symm.trans h
      refine am_Y.weak (lv2 := [(0, .ref 129), (1, .int x1), (2, .int (gi M 132 ((gi M 129 12)).toNatClampNeg))]) rfl rfl ⟨rfl, rfl, rfl, trivial⟩ ?_
      exact t_m_clause_65 N x1 (gi M 132 ((gi M 129 12)).toNatClampNeg) M _ _ h
    · replace h := (if_neg hc).symm.trans h
      refine am_Y.run (k := 8) (pc' := 65) (lv' := [(2, .int (gi M 132 ((gi M 129 12)).toNatClampNeg)), (0, .ref 129), (1, .int x1)]) (st' := []) (h' := hp (si M 129 24 ((gi M 129 24) ||| ((1 : Int32) <<< (x1 &&& 31))))) rfl ?_
      obtain ⟨q1, e_q1, h⟩ := Option.bind_eq_some_iff.mp h
      rw [Option.some.inj e_q1]
      refine am_Y.weak (lv2 := [(0, .ref 129), (1, .int x1), (2, .int (gi M 132 ((gi M 129 12)).toNatClampNeg))]) rfl rfl ⟨rfl, rfl, rfl, trivial⟩ ?_
      exact t_m_clause_65 N x1 (gi M 132 ((gi M 129 12)).toNatClampNeg) q1 _ _ h
set_option maxRecDepth 100000 in
theorem t_m_clause {S : Nat × (Nat → Int32)} (N : Nat) (M : Mem) (r : Int32) (M' : Mem) (h : f_m_clause N M = some (r, M')) : am_Y S 10 0 0 am_M229 0 [(0, .ref 129)] [] (hp M) (some (.int r)) (hp M') := by
  rw [f_m_clause] at h
  refine am_Y.run (k := 1) (pc' := 1) (lv' := [(0, .ref 129)]) (st' := [.ref 129]) (h' := hp M) rfl ?_
  refine am_Y.call0 (M' := am_M286) (as := [.ref 129]) (rest := []) (d' := 5) rfl (by omega) rfl rfl (t_m_sortOf M _ rfl) ?_
  refine am_Y.run (k := 2) (pc' := 6) (lv' := [(1, .int (f_m_sortOf M)), (0, .ref 129)]) (st' := [.int (f_m_sortOf M)]) (h' := hp M) rfl ?_
  refine am_Y.br (c := (0 : Int32) ≤ (f_m_sortOf M)) _ (t := 11) (u := 9) (lv' := [(1, .int (f_m_sortOf M)), (0, .ref 129)]) (st' := []) (h' := hp M) rfl (fun hc => ?_) (fun hc => ?_)
  · replace h := (if_pos hc).symm.trans h
    refine am_Y.run (k := 2) (pc' := 13) (lv' := [(1, .int (f_m_sortOf M)), (0, .ref 129)]) (st' := [.int (2 : Int32), .int (f_m_sortOf M)]) (h' := hp M) rfl ?_
    refine am_Y.br (c := (2 : Int32) < (f_m_sortOf M)) _ (t := 29) (u := 16) (lv' := [(1, .int (f_m_sortOf M)), (0, .ref 129)]) (st' := []) (h' := hp M) rfl (fun hc => ?_) (fun hc => ?_)
    · replace h := (if_pos hc).symm.trans h
      refine am_Y.weak (lv2 := [(0, .ref 129), (1, .int (f_m_sortOf M))]) rfl rfl ⟨rfl, rfl, trivial⟩ ?_
      exact t_m_clause_29 N (f_m_sortOf M) M _ _ h
    · replace h := (if_neg hc).symm.trans h
      refine am_Y.run (k := 3) (pc' := 21) (lv' := [(1, .int (f_m_sortOf M)), (0, .ref 129)]) (st' := [.int (f_m_sortOf M), .int (gi M 129 24)]) (h' := hp M) rfl ?_
      refine am_Y.call0 (M' := am_M175) (as := [.int (gi M 129 24), .int (f_m_sortOf M)]) (rest := []) (d' := 0) rfl (by omega) rfl rfl (t_m_has (gi M 129 24) (f_m_sortOf M) M _ rfl) ?_
      refine am_Y.br (c := (f_m_has (gi M 129 24) (f_m_sortOf M) M) = (0 : Int32)) _ (t := 29) (u := 27) (lv' := [(1, .int (f_m_sortOf M)), (0, .ref 129)]) (st' := []) (h' := hp M) rfl (fun hc => ?_) (fun hc => ?_)
      · replace h := (if_pos hc).symm.trans h
        refine am_Y.weak (lv2 := [(0, .ref 129), (1, .int (f_m_sortOf M))]) rfl rfl ⟨rfl, rfl, trivial⟩ ?_
        exact t_m_clause_29 N (f_m_sortOf M) M _ _ h
      · replace h := (if_neg hc).symm.trans h
        refine am_Y.run (k := 1) (pc' := 28) (lv' := [(1, .int (f_m_sortOf M)), (0, .ref 129)]) (st' := [.int (4 : Int32)]) (h' := hp M) rfl ?_
        obtain ⟨rfl, rfl⟩ := Prod.mk.inj (Option.some.inj h)
        exact am_Y.ret rfl
  · replace h := (if_neg hc).symm.trans h
    refine am_Y.run (k := 1) (pc' := 10) (lv' := [(1, .int (f_m_sortOf M)), (0, .ref 129)]) (st' := [.int (1 : Int32)]) (h' := hp M) rfl ?_
    obtain ⟨rfl, rfl⟩ := Prod.mk.inj (Option.some.inj h)
    exact am_Y.ret rfl
set_option maxRecDepth 100000 in
theorem t_m_readText_43 {S : Nat × (Nat → Int32)} (N : Nat) : ∀ (n : Nat) (M : Mem) (r : Int32) (M' : Mem), f_m_readText_43 N n M = some (r, M') → am_Y S 11 0 0 am_M113 43 [(0, .ref 129)] [] (hp M) (some (.int r)) (hp M') := by
  intro n
  induction n with
  | zero =>
    intro M r M' h
    cases h
  | succ n ih =>
    intro M r M' h
    rw [f_m_readText_43] at h
    refine am_Y.run (k := 2) (pc' := 47) (lv' := [(0, .ref 129)]) (st' := [.int (gi M 129 9)]) (h' := hp M) rfl ?_
    refine am_Y.br (c := (gi M 129 9) = (0 : Int32)) _ (t := 64) (u := 50) (lv' := [(0, .ref 129)]) (st' := []) (h' := hp M) rfl (fun hc => ?_) (fun hc => ?_)
    · replace h := (if_pos hc).symm.trans h
      refine am_Y.run (k := 1) (pc' := 65) (lv' := [(0, .ref 129)]) (st' := [.int (0 : Int32)]) (h' := hp M) rfl ?_
      obtain ⟨rfl, rfl⟩ := Prod.mk.inj (Option.some.inj h)
      exact am_Y.ret rfl
    · replace h := (if_neg hc).symm.trans h
      refine am_Y.run (k := 1) (pc' := 51) (lv' := [(0, .ref 129)]) (st' := [.ref 129]) (h' := hp M) rfl ?_
      obtain ⟨q7, e_q7, h⟩ := Option.bind_eq_some_iff.mp h
      refine am_Y.call0 (M' := am_M229) (as := [.ref 129]) (rest := []) (d' := 10) rfl (by omega) rfl rfl (t_m_clause N M q7.1 q7.2 e_q7) ?_
      refine am_Y.run (k := 2) (pc' := 56) (lv' := [(1, .int q7.1), (0, .ref 129)]) (st' := [.int q7.1]) (h' := hp q7.2) rfl ?_
      refine am_Y.br (c := q7.1 = (0 : Int32)) _ (t := 61) (u := 59) (lv' := [(1, .int q7.1), (0, .ref 129)]) (st' := []) (h' := hp q7.2) rfl (fun hc => ?_) (fun hc => ?_)
      · replace h := (if_pos hc).symm.trans h
        refine am_Y.run (k := 1) (pc' := 43) (lv' := [(1, .int q7.1), (0, .ref 129)]) (st' := []) (h' := hp q7.2) rfl ?_
        refine am_Y.weak (lv2 := [(0, .ref 129)]) rfl rfl ⟨rfl, trivial⟩ ?_
        exact ih q7.2 _ _ h
      · replace h := (if_neg hc).symm.trans h
        refine am_Y.run (k := 1) (pc' := 60) (lv' := [(1, .int q7.1), (0, .ref 129)]) (st' := [.int q7.1]) (h' := hp q7.2) rfl ?_
        obtain ⟨rfl, rfl⟩ := Prod.mk.inj (Option.some.inj h)
        exact am_Y.ret rfl
set_option maxRecDepth 100000 in
theorem t_m_readText {S : Nat × (Nat → Int32)} (N : Nat) (M : Mem) (r : Int32) (M' : Mem) (h : f_m_readText N M = some (r, M')) : am_Y S 11 0 0 am_M113 0 [(0, .ref 129)] [] (hp M) (some (.int r)) (hp M') := by
  rw [f_m_readText] at h
  refine am_Y.run (k := 8) (pc' := 14) (lv' := [(0, .ref 129)]) (st' := []) (h' := hp (si M 129 12 ((705 : Int32) * (gi M 130 5)))) rfl ?_
  obtain ⟨q1, e_q1, h⟩ := Option.bind_eq_some_iff.mp h
  rw [Option.some.inj e_q1]
  refine am_Y.run (k := 5) (pc' := 23) (lv' := [(0, .ref 129)]) (st' := [.int (0 : Int32), .int (gi q1 129 12), .ref 132]) (h' := hp q1) rfl ?_
  obtain ⟨g, h⟩ := am_itg h
  refine am_Y.iast (a := 127) (n := 2820) rfl rfl g ?_
  refine am_Y.run (k := 0) (pc' := _) (lv' := [(0, .ref 129)]) (st' := []) (h' := hp (si q1 132 ((gi q1 129 12)).toNatClampNeg (0 : Int32))) rfl ?_
  obtain ⟨q2, e_q2, h⟩ := Option.bind_eq_some_iff.mp h
  rw [Option.some.inj e_q2]
  refine am_Y.run (k := 3) (pc' := 29) (lv' := [(0, .ref 129)]) (st' := []) (h' := hp (si q2 129 13 (0 : Int32))) rfl ?_
  obtain ⟨q3, e_q3, h⟩ := Option.bind_eq_some_iff.mp h
  rw [Option.some.inj e_q3]
  refine am_Y.run (k := 3) (pc' := 34) (lv' := [(0, .ref 129)]) (st' := []) (h' := hp (si q3 129 24 (0 : Int32))) rfl ?_
  obtain ⟨q4, e_q4, h⟩ := Option.bind_eq_some_iff.mp h
  rw [Option.some.inj e_q4]
  refine am_Y.run (k := 3) (pc' := 39) (lv' := [(0, .ref 129)]) (st' := []) (h' := hp (si q4 129 7 (0 : Int32))) rfl ?_
  obtain ⟨q5, e_q5, h⟩ := Option.bind_eq_some_iff.mp h
  rw [Option.some.inj e_q5]
  refine am_Y.run (k := 1) (pc' := 40) (lv' := [(0, .ref 129)]) (st' := [.ref 129]) (h' := hp q5) rfl ?_
  obtain ⟨q6, e_q6, h⟩ := Option.bind_eq_some_iff.mp h
  refine am_Y.call0 (M' := am_M228) (as := [.ref 129]) (rest := []) (d' := 1) rfl (by omega) rfl rfl (t_m_nextToken N q5 q6 e_q6) ?_
  refine am_Y.weak (lv2 := [(0, .ref 129)]) rfl rfl ⟨rfl, trivial⟩ ?_
  exact t_m_readText_43 N N q6 _ _ h
set_option maxRecDepth 100000 in
theorem t_m_text_36 {S : Nat × (Nat → Int32)} (N : Nat) (s1 : Int32) (M : Mem) (r : Int32) (M' : Mem) (h : f_m_text_36 N s1 M = some (r, M')) : am_Y S 12 0 0 am_M9 36 [(0, .ref 129)] [.int s1, .ref 129] (hp M) (some (.int r)) (hp M') := by
  rw [f_m_text_36] at h
  refine am_Y.run (k := 1) (pc' := 39) (lv' := [(0, .ref 129)]) (st' := []) (h' := hp (si M 129 6 s1)) rfl ?_
  obtain ⟨q3, e_q3, h⟩ := Option.bind_eq_some_iff.mp h
  rw [Option.some.inj e_q3]
  refine am_Y.run (k := 3) (pc' := 44) (lv' := [(0, .ref 129)]) (st' := []) (h' := hp (si q3 129 4 (0 : Int32))) rfl ?_
  obtain ⟨q4, e_q4, h⟩ := Option.bind_eq_some_iff.mp h
  rw [Option.some.inj e_q4]
  refine am_Y.run (k := 2) (pc' := 48) (lv' := [(0, .ref 129)]) (st' := [.int (gi q4 129 5)]) (h' := hp q4) rfl ?_
  refine am_Y.br (c := (gi q4 129 5) = (0 : Int32)) _ (t := 53) (u := 51) (lv' := [(0, .ref 129)]) (st' := []) (h' := hp q4) rfl (fun hc => ?_) (fun hc => ?_)
  · replace h := (if_pos hc).symm.trans h
    refine am_Y.run (k := 8) (pc' := 63) (lv' := [(0, .ref 129)]) (st' := []) (h' := hp (si q4 130 5 ((gi q4 130 5) + (1 : Int32)))) rfl ?_
    obtain ⟨q5, e_q5, h⟩ := Option.bind_eq_some_iff.mp h
    rw [Option.some.inj e_q5]
    refine am_Y.run (k := 6) (pc' := 71) (lv' := [(0, .ref 129)]) (st' := [.int ((gi q5 130 5) - (1 : Int32))]) (h' := hp q5) rfl ?_
    obtain ⟨rfl, rfl⟩ := Prod.mk.inj (Option.some.inj h)
    exact am_Y.ret rfl
  · replace h := (if_neg hc).symm.trans h
    refine am_Y.run (k := 1) (pc' := 52) (lv' := [(0, .ref 129)]) (st' := [.int (-1 : Int32)]) (h' := hp q4) rfl ?_
    obtain ⟨rfl, rfl⟩ := Prod.mk.inj (Option.some.inj h)
    exact am_Y.ret rfl
set_option maxRecDepth 100000 in
theorem t_m_text {S : Nat × (Nat → Int32)} (N : Nat) (M : Mem) (r : Int32) (M' : Mem) (h : f_m_text N M = some (r, M')) : am_Y S 12 0 0 am_M9 0 [(0, .ref 129)] [] (hp M) (some (.int r)) (hp M') := by
  rw [f_m_text] at h
  refine am_Y.run (k := 5) (pc' := 7) (lv' := [(0, .ref 129)]) (st' := [.int (4 : Int32), .int (gi M 130 5)]) (h' := hp M) rfl ?_
  refine am_Y.br (c := (gi M 130 5) = (4 : Int32)) _ (t := 10) (u := 12) (lv' := [(0, .ref 129)]) (st' := []) (h' := hp M) rfl (fun hc => ?_) (fun hc => ?_)
  · replace h := (if_pos hc).symm.trans h
    refine am_Y.run (k := 1) (pc' := 11) (lv' := [(0, .ref 129)]) (st' := [.int (-1 : Int32)]) (h' := hp M) rfl ?_
    obtain ⟨rfl, rfl⟩ := Prod.mk.inj (Option.some.inj h)
    exact am_Y.ret rfl
  · replace h := (if_neg hc).symm.trans h
    refine am_Y.run (k := 2) (pc' := 14) (lv' := [(0, .ref 129)]) (st' := [.ref 129, .ref 129]) (h' := hp M) rfl ?_
    obtain ⟨q1, e_q1, h⟩ := Option.bind_eq_some_iff.mp h
    refine am_Y.call0 (M' := am_M113) (as := [.ref 129]) (rest := [.ref 129]) (d' := 11) rfl (by omega) rfl rfl (t_m_readText N M q1.1 q1.2 e_q1) ?_
    refine am_Y.run (k := 1) (pc' := 20) (lv' := [(0, .ref 129)]) (st' := []) (h' := hp (si q1.2 129 5 q1.1)) rfl ?_
    obtain ⟨q2, e_q2, h⟩ := Option.bind_eq_some_iff.mp h
    rw [Option.some.inj e_q2]
    refine am_Y.run (k := 3) (pc' := 25) (lv' := [(0, .ref 129)]) (st' := [.int (gi q2 129 5), .ref 129]) (h' := hp q2) rfl ?_
    refine am_Y.br (c := (gi q2 129 5) = (0 : Int32)) _ (t := 28) (u := 32) (lv' := [(0, .ref 129)]) (st' := [.ref 129]) (h' := hp q2) rfl (fun hc => ?_) (fun hc => ?_)
    · replace h := (if_pos hc).symm.trans h
      refine am_Y.run (k := 2) (pc' := 36) (lv' := [(0, .ref 129)]) (st' := [.int (-1 : Int32), .ref 129]) (h' := hp q2) rfl ?_
      refine am_Y.weak (lv2 := [(0, .ref 129)]) rfl rfl ⟨rfl, trivial⟩ ?_
      exact t_m_text_36 N (-1 : Int32) q2 _ _ h
    · replace h := (if_neg hc).symm.trans h
      refine am_Y.run (k := 2) (pc' := 36) (lv' := [(0, .ref 129)]) (st' := [.int (gi q2 129 8), .ref 129]) (h' := hp q2) rfl ?_
      refine am_Y.weak (lv2 := [(0, .ref 129)]) rfl rfl ⟨rfl, trivial⟩ ?_
      exact t_m_text_36 N (gi q2 129 8) q2 _ _ h
set_option maxRecDepth 100000 in
theorem t_w_fault {S : Nat × (Nat → Int32)} (x1 : Int32) (M : Mem) (r : Int32) (h : f_w_fault x1 M = r) : am_Y S 1 0 0 am_M10 0 [(0, .ref 5), (1, .int x1)] [] (hp M) (some (.int r)) (hp M) := by
  rw [f_w_fault] at h
  refine am_Y.run (k := 3) (pc' := 7) (lv' := [(0, .ref 5), (1, .int x1)]) (st' := [.int (gi M 103 0)]) (h' := hp M) rfl ?_
  refine am_Y.br (c := (gi M 103 0) = (0 : Int32)) _ (t := 19) (u := 10) (lv' := [(0, .ref 5), (1, .int x1)]) (st' := []) (h' := hp M) rfl (fun hc => ?_) (fun hc => ?_)
  · replace h := (if_pos hc).symm.trans h
    refine am_Y.run (k := 1) (pc' := 20) (lv' := [(0, .ref 5), (1, .int x1)]) (st' := [.int (-1 : Int32)]) (h' := hp M) rfl ?_
    subst h
    exact am_Y.ret rfl
  · replace h := (if_neg hc).symm.trans h
    refine am_Y.run (k := 3) (pc' := 13) (lv' := [(0, .ref 5), (1, .int x1)]) (st' := [.int (1 : Int32), .int (0 : Int32), .int x1]) (h' := hp M) rfl ?_
    refine am_Y.call0 (M' := am_M102) (as := [.int x1, .int (0 : Int32), .int (1 : Int32)]) (rest := []) (d' := 0) rfl (by omega) rfl rfl (t_w_within x1 (0 : Int32) (1 : Int32) M _ rfl) ?_
    refine am_Y.br (c := (f_w_within x1 (0 : Int32) (1 : Int32) M) = (0 : Int32)) _ (t := 19) (u := 21) (lv' := [(0, .ref 5), (1, .int x1)]) (st' := []) (h' := hp M) rfl (fun hc => ?_) (fun hc => ?_)
    · replace h := (if_pos hc).symm.trans h
      refine am_Y.run (k := 1) (pc' := 20) (lv' := [(0, .ref 5), (1, .int x1)]) (st' := [.int (-1 : Int32)]) (h' := hp M) rfl ?_
      subst h
      exact am_Y.ret rfl
    · replace h := (if_neg hc).symm.trans h
      refine am_Y.run (k := 1) (pc' := 22) (lv' := [(0, .ref 5), (1, .int x1)]) (st' := [.int x1]) (h' := hp M) rfl ?_
      refine am_Y.br (c := x1 = (0 : Int32)) _ (t := 25) (u := 35) (lv' := [(0, .ref 5), (1, .int x1)]) (st' := []) (h' := hp M) rfl (fun hc => ?_) (fun hc => ?_)
      · replace h := (if_pos hc).symm.trans h
        refine am_Y.run (k := 4) (pc' := 42) (lv' := [(0, .ref 5), (1, .int x1)]) (st' := [.int (gi M 103 1)]) (h' := hp M) rfl ?_
        subst h
        exact am_Y.ret rfl
      · replace h := (if_neg hc).symm.trans h
        refine am_Y.run (k := 3) (pc' := 42) (lv' := [(0, .ref 5), (1, .int x1)]) (st' := [.int (gi M 103 2)]) (h' := hp M) rfl ?_
        subst h
        exact am_Y.ret rfl
set_option maxRecDepth 100000 in
theorem t_m_fault {S : Nat × (Nat → Int32)} (x1 : Int32) (M : Mem) (r : Int32) (h : f_m_fault x1 M = r) : am_Y S 0 0 0 am_M11 0 [(0, .ref 129), (1, .int x1)] [] (hp M) (some (.int r)) (hp M) := by
  rw [f_m_fault] at h
  refine am_Y.run (k := 1) (pc' := 1) (lv' := [(0, .ref 129), (1, .int x1)]) (st' := [.int x1]) (h' := hp M) rfl ?_
  refine am_Y.br (c := x1 = (0 : Int32)) _ (t := 4) (u := 11) (lv' := [(0, .ref 129), (1, .int x1)]) (st' := []) (h' := hp M) rfl (fun hc => ?_) (fun hc => ?_)
  · replace h := (if_pos hc).symm.trans h
    refine am_Y.run (k := 3) (pc' := 24) (lv' := [(0, .ref 129), (1, .int x1)]) (st' := [.int (gi M 129 5)]) (h' := hp M) rfl ?_
    subst h
    exact am_Y.ret rfl
  · replace h := (if_neg hc).symm.trans h
    refine am_Y.run (k := 2) (pc' := 13) (lv' := [(0, .ref 129), (1, .int x1)]) (st' := [.int (1 : Int32), .int x1]) (h' := hp M) rfl ?_
    refine am_Y.br (c := x1 = (1 : Int32)) _ (t := 16) (u := 23) (lv' := [(0, .ref 129), (1, .int x1)]) (st' := []) (h' := hp M) rfl (fun hc => ?_) (fun hc => ?_)
    · replace h := (if_pos hc).symm.trans h
      refine am_Y.run (k := 3) (pc' := 24) (lv' := [(0, .ref 129), (1, .int x1)]) (st' := [.int (gi M 129 6)]) (h' := hp M) rfl ?_
      subst h
      exact am_Y.ret rfl
    · replace h := (if_neg hc).symm.trans h
      refine am_Y.run (k := 1) (pc' := 24) (lv' := [(0, .ref 129), (1, .int x1)]) (st' := [.int (-1 : Int32)]) (h' := hp M) rfl ?_
      subst h
      exact am_Y.ret rfl
set_option maxRecDepth 100000 in
theorem t_w_by {S : Nat × (Nat → Int32)} (x1 : Int32) (M : Mem) (r : Int32) (M' : Mem) (h : f_w_by x1 M = some (r, M')) : am_Y S 1 0 0 am_M12 0 [(0, .ref 5), (1, .int x1)] [] (hp M) (some (.int r)) (hp M') := by
  rw [f_w_by] at h
  refine am_Y.run (k := 7) (pc' := 11) (lv' := [(0, .ref 5), (1, .int x1)]) (st' := [.int ((gi M 6 4) - (1 : Int32)), .int (-1 : Int32), .int x1]) (h' := hp M) rfl ?_
  refine am_Y.call0 (M' := am_M102) (as := [.int x1, .int (-1 : Int32), .int ((gi M 6 4) - (1 : Int32))]) (rest := []) (d' := 0) rfl (by omega) rfl rfl (t_w_within x1 (-1 : Int32) ((gi M 6 4) - (1 : Int32)) M _ rfl) ?_
  refine am_Y.br (c := (f_w_within x1 (-1 : Int32) ((gi M 6 4) - (1 : Int32)) M) = (0 : Int32)) _ (t := 17) (u := 19) (lv' := [(0, .ref 5), (1, .int x1)]) (st' := []) (h' := hp M) rfl (fun hc => ?_) (fun hc => ?_)
  · replace h := (if_pos hc).symm.trans h
    refine am_Y.run (k := 1) (pc' := 18) (lv' := [(0, .ref 5), (1, .int x1)]) (st' := [.int (0 : Int32)]) (h' := hp M) rfl ?_
    obtain ⟨rfl, rfl⟩ := Prod.mk.inj (Option.some.inj h)
    exact am_Y.ret rfl
  · replace h := (if_neg hc).symm.trans h
    refine am_Y.run (k := 4) (pc' := 27) (lv' := [(0, .ref 5), (1, .int x1)]) (st' := []) (h' := hp (si M 6 5 x1)) rfl ?_
    obtain ⟨q1, e_q1, h⟩ := Option.bind_eq_some_iff.mp h
    rw [Option.some.inj e_q1]
    refine am_Y.run (k := 1) (pc' := 28) (lv' := [(0, .ref 5), (1, .int x1)]) (st' := [.int (1 : Int32)]) (h' := hp q1) rfl ?_
    obtain ⟨rfl, rfl⟩ := Prod.mk.inj (Option.some.inj h)
    exact am_Y.ret rfl
set_option maxRecDepth 100000 in
theorem t_m_by {S : Nat × (Nat → Int32)} (x1 : Int32) (M : Mem) (r : Int32) (M' : Mem) (h : f_m_by x1 M = some (r, M')) : am_Y S 1 0 0 am_M13 0 [(0, .ref 129), (1, .int x1)] [] (hp M) (some (.int r)) (hp M') := by
  rw [f_m_by] at h
  refine am_Y.run (k := 8) (pc' := 10) (lv' := [(0, .ref 129), (1, .int x1)]) (st' := [.int ((gi M 130 5) - (1 : Int32)), .int (-1 : Int32), .int x1]) (h' := hp M) rfl ?_
  refine am_Y.call0 (M' := am_M104) (as := [.int x1, .int (-1 : Int32), .int ((gi M 130 5) - (1 : Int32))]) (rest := []) (d' := 0) rfl (by omega) rfl rfl (t_m_isIn x1 (-1 : Int32) ((gi M 130 5) - (1 : Int32)) M _ rfl) ?_
  refine am_Y.br (c := (f_m_isIn x1 (-1 : Int32) ((gi M 130 5) - (1 : Int32)) M) = (0 : Int32)) _ (t := 16) (u := 18) (lv' := [(0, .ref 129), (1, .int x1)]) (st' := []) (h' := hp M) rfl (fun hc => ?_) (fun hc => ?_)
  · replace h := (if_pos hc).symm.trans h
    refine am_Y.run (k := 1) (pc' := 17) (lv' := [(0, .ref 129), (1, .int x1)]) (st' := [.int (0 : Int32)]) (h' := hp M) rfl ?_
    obtain ⟨rfl, rfl⟩ := Prod.mk.inj (Option.some.inj h)
    exact am_Y.ret rfl
  · replace h := (if_neg hc).symm.trans h
    refine am_Y.run (k := 5) (pc' := 26) (lv' := [(0, .ref 129), (1, .int x1)]) (st' := []) (h' := hp (si M 130 6 x1)) rfl ?_
    obtain ⟨q1, e_q1, h⟩ := Option.bind_eq_some_iff.mp h
    rw [Option.some.inj e_q1]
    refine am_Y.run (k := 1) (pc' := 27) (lv' := [(0, .ref 129), (1, .int x1)]) (st' := [.int (1 : Int32)]) (h' := hp q1) rfl ?_
    obtain ⟨rfl, rfl⟩ := Prod.mk.inj (Option.some.inj h)
    exact am_Y.ret rfl
set_option maxRecDepth 100000 in
theorem t_g_knows {S : Nat × (Nat → Int32)} (x1 : Int32) (M : Mem) (r : Int32) (h : f_g_knows x1 M = r) : am_Y S 1 0 0 am_M140 0 [(0, .ref 7), (1, .int x1)] [] (hp M) (some (.int r)) (hp M) := by
  rw [f_g_knows] at h
  refine am_Y.run (k := 5) (pc' := 8) (lv' := [(0, .ref 7), (1, .int x1)]) (st' := [.int (8 : Int32), .int (gi M 7 3), .int (0 : Int32), .int x1]) (h' := hp M) rfl ?_
  refine am_Y.call0 (M' := am_M242) (as := [.int (gi M 7 3), .int (8 : Int32)]) (rest := [.int (0 : Int32), .int x1]) (d' := 0) rfl (by omega) rfl rfl (t_k_min0 (gi M 7 3) (8 : Int32) M _ rfl) ?_
  refine am_Y.run (k := 2) (pc' := 13) (lv' := [(0, .ref 7), (1, .int x1)]) (st' := [.int ((f_k_min0 (gi M 7 3) (8 : Int32) M) - (1 : Int32)), .int (0 : Int32), .int x1]) (h' := hp M) rfl ?_
  refine am_Y.call0 (M' := am_M102) (as := [.int x1, .int (0 : Int32), .int ((f_k_min0 (gi M 7 3) (8 : Int32) M) - (1 : Int32))]) (rest := []) (d' := 0) rfl (by omega) rfl rfl (t_w_within x1 (0 : Int32) ((f_k_min0 (gi M 7 3) (8 : Int32) M) - (1 : Int32)) M _ rfl) ?_
  subst h
  exact am_Y.ret (by rcases (z_w_within x1 (0 : Int32) ((f_k_min0 (gi M 7 3) (8 : Int32) M) - (1 : Int32)) _) with e | e <;> (rw [e]; rfl))
set_option maxRecDepth 100000 in
theorem z_g_knows (x1 : Int32) (M : Mem) : f_g_knows x1 M = 0 ∨ f_g_knows x1 M = 1 := by
  simp only [f_g_knows]
  first | (repeat' split) <;> first | exact Or.inl rfl | exact Or.inr rfl | (simp; done) | exact z_k_min0 _ _ _ _ | exact z_w_within _ _ _ _ | exact z_k_min0 _ _ _ | exact z_w_within _ _ _ | exact z_k_min0 _ _ | exact z_w_within _ _
set_option maxRecDepth 100000 in
theorem t_g_everybody {S : Nat × (Nat → Int32)} (M : Mem) (r : Int32) (h : f_g_everybody M = r) : am_Y S 0 0 0 am_M254 0 [(0, .ref 7)] [] (hp M) (some (.int r)) (hp M) := by
  rw [f_g_everybody] at h
  refine am_Y.run (k := 6) (pc' := 8) (lv' := [(0, .ref 7)]) (st' := [.int (((1 : Int32) <<< ((gi M 7 3) &&& 31)) - (1 : Int32))]) (h' := hp M) rfl ?_
  subst h
  exact am_Y.ret rfl
set_option maxRecDepth 100000 in
theorem t_e_gone {S : Nat × (Nat → Int32)} (M : Mem) (r : Int32) (h : f_e_gone M = r) : am_Y S 0 0 0 am_M258 0 [(0, .ref 11)] [] (hp M) (some (.int r)) (hp M) := by
  rw [f_e_gone] at h
  refine am_Y.run (k := 4) (pc' := 6) (lv' := [(0, .ref 11)]) (st' := [.int (gi M 12 3)]) (h' := hp M) rfl ?_
  subst h
  exact am_Y.ret rfl
set_option maxRecDepth 100000 in
theorem t_t_there {S : Nat × (Nat → Int32)} (M : Mem) (r : Int32) (h : f_t_there M = r) : am_Y S 1 0 0 am_M197 0 [(0, .ref 6)] [] (hp M) (some (.int r)) (hp M) := by
  rw [f_t_there] at h
  refine am_Y.run (k := 2) (pc' := 4) (lv' := [(0, .ref 6)]) (st' := [.ref 7]) (h' := hp M) rfl ?_
  refine am_Y.call0 (M' := am_M254) (as := [.ref 7]) (rest := []) (d' := 0) rfl (by omega) rfl rfl (t_g_everybody M _ rfl) ?_
  refine am_Y.run (k := 2) (pc' := 11) (lv' := [(0, .ref 6)]) (st' := [.ref 11, .int (f_g_everybody M)]) (h' := hp M) rfl ?_
  refine am_Y.call0 (M' := am_M258) (as := [.ref 11]) (rest := [.int (f_g_everybody M)]) (d' := 0) rfl (by omega) rfl rfl (t_e_gone M _ rfl) ?_
  refine am_Y.run (k := 3) (pc' := 17) (lv' := [(0, .ref 6)]) (st' := [.int ((f_g_everybody M) &&& ((f_e_gone M) ^^^ (-1 : Int32)))]) (h' := hp M) rfl ?_
  subst h
  exact am_Y.ret rfl
set_option maxRecDepth 100000 in
theorem t_t_isThere {S : Nat × (Nat → Int32)} (x1 : Int32) (M : Mem) (r : Int32) (h : f_t_isThere x1 M = r) : am_Y S 2 0 0 am_M126 0 [(0, .ref 6), (1, .int x1)] [] (hp M) (some (.int r)) (hp M) := by
  rw [f_t_isThere] at h
  refine am_Y.run (k := 3) (pc' := 5) (lv' := [(0, .ref 6), (1, .int x1)]) (st' := [.int x1, .ref 7]) (h' := hp M) rfl ?_
  refine am_Y.call0 (M' := am_M140) (as := [.ref 7, .int x1]) (rest := []) (d' := 1) rfl (by omega) rfl rfl (t_g_knows x1 M _ rfl) ?_
  refine am_Y.br (c := (f_g_knows x1 M) = (0 : Int32)) _ (t := 27) (u := 11) (lv' := [(0, .ref 6), (1, .int x1)]) (st' := []) (h' := hp M) rfl (fun hc => ?_) (fun hc => ?_)
  · replace h := (if_pos hc).symm.trans h
    refine am_Y.run (k := 1) (pc' := 28) (lv' := [(0, .ref 6), (1, .int x1)]) (st' := [.int (0 : Int32)]) (h' := hp M) rfl ?_
    subst h
    exact am_Y.ret rfl
  · replace h := (if_neg hc).symm.trans h
    refine am_Y.run (k := 1) (pc' := 12) (lv' := [(0, .ref 6), (1, .int x1)]) (st' := [.ref 6]) (h' := hp M) rfl ?_
    refine am_Y.call0 (M' := am_M197) (as := [.ref 6]) (rest := []) (d' := 1) rfl (by omega) rfl rfl (t_t_there M _ rfl) ?_
    refine am_Y.run (k := 5) (pc' := 20) (lv' := [(0, .ref 6), (1, .int x1)]) (st' := [.int (1 : Int32), .int (((f_t_there M) >>> (x1 &&& 31)) &&& (1 : Int32))]) (h' := hp M) rfl ?_
    refine am_Y.br (c := (((f_t_there M) >>> (x1 &&& 31)) &&& (1 : Int32)) = (1 : Int32)) _ (t := 23) (u := 27) (lv' := [(0, .ref 6), (1, .int x1)]) (st' := []) (h' := hp M) rfl (fun hc => ?_) (fun hc => ?_)
    · replace h := (if_pos hc).symm.trans h
      refine am_Y.run (k := 2) (pc' := 28) (lv' := [(0, .ref 6), (1, .int x1)]) (st' := [.int (1 : Int32)]) (h' := hp M) rfl ?_
      subst h
      exact am_Y.ret rfl
    · replace h := (if_neg hc).symm.trans h
      refine am_Y.run (k := 1) (pc' := 28) (lv' := [(0, .ref 6), (1, .int x1)]) (st' := [.int (0 : Int32)]) (h' := hp M) rfl ?_
      subst h
      exact am_Y.ret rfl
set_option maxRecDepth 100000 in
theorem z_t_isThere (x1 : Int32) (M : Mem) : f_t_isThere x1 M = 0 ∨ f_t_isThere x1 M = 1 := by
  simp only [f_t_isThere]
  first | (repeat' split) <;> first | exact Or.inl rfl | exact Or.inr rfl | (simp; done) | exact z_g_knows _ _ _ _ | exact z_t_there _ _ _ _ | exact z_g_knows _ _ _ | exact z_t_there _ _ _ | exact z_g_knows _ _ | exact z_t_there _ _
set_option maxRecDepth 100000 in
theorem t_e_spoken {S : Nat × (Nat → Int32)} (M : Mem) (r : Int32) (h : f_e_spoken M = r) : am_Y S 0 0 0 am_M151 0 [(0, .ref 11)] [] (hp M) (some (.int r)) (hp M) := by
  rw [f_e_spoken] at h
  refine am_Y.run (k := 4) (pc' := 6) (lv' := [(0, .ref 11)]) (st' := [.int (gi M 12 4)]) (h' := hp M) rfl ?_
  subst h
  exact am_Y.ret rfl
set_option maxRecDepth 100000 in
theorem t_e_isFull {S : Nat × (Nat → Int32)} (M : Mem) (r : Int32) (h : f_e_isFull M = r) : am_Y S 1 0 0 am_M119 0 [(0, .ref 11)] [] (hp M) (some (.int r)) (hp M) := by
  rw [f_e_isFull] at h
  refine am_Y.run (k := 1) (pc' := 1) (lv' := [(0, .ref 11)]) (st' := [.ref 11]) (h' := hp M) rfl ?_
  refine am_Y.call0 (M' := am_M151) (as := [.ref 11]) (rest := []) (d' := 0) rfl (by omega) rfl rfl (t_e_spoken M _ rfl) ?_
  refine am_Y.run (k := 1) (pc' := 6) (lv' := [(0, .ref 11)]) (st' := [.int (40 : Int32), .int (f_e_spoken M)]) (h' := hp M) rfl ?_
  refine am_Y.br (c := (f_e_spoken M) < (40 : Int32)) _ (t := 13) (u := 9) (lv' := [(0, .ref 11)]) (st' := []) (h' := hp M) rfl (fun hc => ?_) (fun hc => ?_)
  · replace h := (if_pos hc).symm.trans h
    refine am_Y.run (k := 1) (pc' := 14) (lv' := [(0, .ref 11)]) (st' := [.int (0 : Int32)]) (h' := hp M) rfl ?_
    subst h
    exact am_Y.ret rfl
  · replace h := (if_neg hc).symm.trans h
    refine am_Y.run (k := 2) (pc' := 14) (lv' := [(0, .ref 11)]) (st' := [.int (1 : Int32)]) (h' := hp M) rfl ?_
    subst h
    exact am_Y.ret rfl
set_option maxRecDepth 100000 in
theorem z_e_isFull (M : Mem) : f_e_isFull M = 0 ∨ f_e_isFull M = 1 := by
  simp only [f_e_isFull]
  first | (repeat' split) <;> first | exact Or.inl rfl | exact Or.inr rfl | (simp; done) | exact z_e_spoken _ _ _ _ | exact z_e_spoken _ _ _ | exact z_e_spoken _ _
set_option maxRecDepth 100000 in
theorem t_t_keepStep {S : Nat × (Nat → Int32)} (M : Mem) (M' : Mem) (h : f_t_keepStep M = some M') : am_Y S 2 0 0 am_M120 0 [(0, .ref 6)] [] (hp M) none (hp M') := by
  rw [f_t_keepStep] at h
  refine am_Y.run (k := 5) (pc' := 11) (lv' := [(0, .ref 6)]) (st' := [.ref 12, .ref 14]) (h' := hp M) rfl ?_
  obtain ⟨q1, e_q1, h⟩ := Option.bind_eq_some_iff.mp h
  refine am_Y.call0 (M' := am_M230) (as := [.ref 14, .ref 12]) (rest := []) (d' := 1) rfl (by omega) rfl rfl (t_s_keep M q1 e_q1) ?_
  obtain rfl := Option.some.inj h
  exact am_Y.ret rfl
set_option maxRecDepth 100000 in
theorem t_e_moment {S : Nat × (Nat → Int32)} (M : Mem) (r : Int32) (h : f_e_moment M = r) : am_Y S 0 0 0 am_M121 0 [(0, .ref 11)] [] (hp M) (some (.int r)) (hp M) := by
  rw [f_e_moment] at h
  refine am_Y.run (k := 4) (pc' := 6) (lv' := [(0, .ref 11)]) (st' := [.int (gi M 12 1)]) (h' := hp M) rfl ?_
  subst h
  exact am_Y.ret rfl
set_option maxRecDepth 100000 in
theorem t_l_whenFalls_108_6_null_31 {S : Nat × (Nat → Int32)} (x3 : Int32) (x4 : Int32) (s0 : Int32) (M : Mem) (r : Int32) (h : f_l_whenFalls_108_6_null_31 x3 x4 s0 M = some r) : am_Y S 2 0 0 am_M144 31 [(0, .ref 108), (1, .ref 6), (2, .null), (3, .int x3), (4, .int x4)] [.int s0] (hp M) (some (.int r)) (hp M) := by
  rw [f_l_whenFalls_108_6_null_31] at h
  refine am_Y.run (k := 3) (pc' := 37) (lv' := [(5, .int s0), (0, .ref 108), (1, .ref 6), (2, .null), (3, .int x3), (4, .int x4)]) (st' := [.ref 11]) (h' := hp M) rfl ?_
  refine am_Y.call0 (M' := am_M121) (as := [.ref 11]) (rest := []) (d' := 0) rfl (by omega) rfl rfl (t_e_moment M _ rfl) ?_
  refine am_Y.run (k := 6) (pc' := 51) (lv' := [(6, .int (f_e_moment M)), (5, .int s0), (0, .ref 108), (1, .ref 6), (2, .null), (3, .int x3), (4, .int x4)]) (st' := [.int ((f_e_moment M) + s0)]) (h' := hp M) rfl ?_
  obtain rfl := Option.some.inj h
  exact am_Y.ret rfl
set_option maxRecDepth 100000 in
theorem t_l_whenFalls_108_6_null {S : Nat × (Nat → Int32)} (x3 : Int32) (x4 : Int32) (M : Mem) (r : Int32) (h : f_l_whenFalls_108_6_null x3 x4 M = some r) : am_Y S 2 0 0 am_M144 0 [(0, .ref 108), (1, .ref 6), (2, .null), (3, .int x3), (4, .int x4)] [] (hp M) (some (.int r)) (hp M) := by
  rw [f_l_whenFalls_108_6_null] at h
  refine am_Y.run (k := 3) (pc' := 5) (lv' := [(0, .ref 108), (1, .ref 6), (2, .null), (3, .int x3), (4, .int x4)]) (st' := [.int x3, .ref 7]) (h' := hp M) rfl ?_
  refine am_Y.call0 (M' := am_M140) (as := [.ref 7, .int x3]) (rest := []) (d' := 1) rfl (by omega) rfl rfl (t_g_knows x3 M _ rfl) ?_
  refine am_Y.br (c := (f_g_knows x3 M) = (0 : Int32)) _ (t := 11) (u := 13) (lv' := [(0, .ref 108), (1, .ref 6), (2, .null), (3, .int x3), (4, .int x4)]) (st' := []) (h' := hp M) rfl (fun hc => ?_) (fun hc => ?_)
  · replace h := (if_pos hc).symm.trans h
    refine am_Y.run (k := 1) (pc' := 12) (lv' := [(0, .ref 108), (1, .ref 6), (2, .null), (3, .int x3), (4, .int x4)]) (st' := [.int (-1 : Int32)]) (h' := hp M) rfl ?_
    obtain rfl := Option.some.inj h
    exact am_Y.ret rfl
  · replace h := (if_neg hc).symm.trans h
    refine am_Y.run (k := 4) (pc' := 21) (lv' := [(0, .ref 108), (1, .ref 6), (2, .null), (3, .int x3), (4, .int x4)]) (st' := [.int x3, .ref 9]) (h' := hp M) rfl ?_
    obtain ⟨g, h⟩ := am_itg h
    refine am_Y.iald (a := 4) (n := 8) rfl rfl g ?_
    refine am_Y.run (k := 1) (pc' := 23) (lv' := [(0, .ref 108), (1, .ref 6), (2, .null), (3, .int x3), (4, .int x4)]) (st' := [.int (3 : Int32), .int (gi M 9 (x3).toNatClampNeg)]) (h' := hp M) rfl ?_
    refine am_Y.br (c := (3 : Int32) ≤ (gi M 9 (x3).toNatClampNeg)) _ (t := 30) (u := 26) (lv' := [(0, .ref 108), (1, .ref 6), (2, .null), (3, .int x3), (4, .int x4)]) (st' := []) (h' := hp M) rfl (fun hc => ?_) (fun hc => ?_)
    · replace h := (if_pos hc).symm.trans h
      refine am_Y.run (k := 1) (pc' := 31) (lv' := [(0, .ref 108), (1, .ref 6), (2, .null), (3, .int x3), (4, .int x4)]) (st' := [.int (0 : Int32)]) (h' := hp M) rfl ?_
      refine am_Y.weak (lv2 := [(0, .ref 108), (1, .ref 6), (2, .null), (3, .int x3), (4, .int x4)]) rfl rfl ⟨rfl, rfl, rfl, rfl, rfl, trivial⟩ ?_
      exact t_l_whenFalls_108_6_null_31 x3 x4 (0 : Int32) M _ h
    · replace h := (if_neg hc).symm.trans h
      refine am_Y.run (k := 2) (pc' := 31) (lv' := [(0, .ref 108), (1, .ref 6), (2, .null), (3, .int x3), (4, .int x4)]) (st' := [.int (3 : Int32)]) (h' := hp M) rfl ?_
      refine am_Y.weak (lv2 := [(0, .ref 108), (1, .ref 6), (2, .null), (3, .int x3), (4, .int x4)]) rfl rfl ⟨rfl, rfl, rfl, rfl, rfl, trivial⟩ ?_
      exact t_l_whenFalls_108_6_null_31 x3 x4 (3 : Int32) M _ h
set_option maxRecDepth 100000 in
theorem t_e_enter {S : Nat × (Nat → Int32)} (x1 : Int32) (x2 : Int32) (x3 : Int32) (M : Mem) (M' : Mem) (h : f_e_enter x1 x2 x3 M = some M') : am_Y S 1 0 0 am_M122 0 [(0, .ref 11), (1, .int x1), (2, .int x2), (3, .int x3)] [] (hp M) none (hp M') := by
  rw [f_e_enter] at h
  refine am_Y.run (k := 1) (pc' := 1) (lv' := [(0, .ref 11), (1, .int x1), (2, .int x2), (3, .int x3)]) (st' := [.ref 11]) (h' := hp M) rfl ?_
  refine am_Y.call0 (M' := am_M151) (as := [.ref 11]) (rest := []) (d' := 0) rfl (by omega) rfl rfl (t_e_spoken M _ rfl) ?_
  refine am_Y.run (k := 4) (pc' := 11) (lv' := [(4, .int (f_e_spoken M)), (0, .ref 11), (1, .int x1), (2, .int x2), (3, .int x3)]) (st' := [.int (39 : Int32), .int (0 : Int32), .int (f_e_spoken M)]) (h' := hp M) rfl ?_
  refine am_Y.call0 (M' := am_M102) (as := [.int (f_e_spoken M), .int (0 : Int32), .int (39 : Int32)]) (rest := []) (d' := 0) rfl (by omega) rfl rfl (t_w_within (f_e_spoken M) (0 : Int32) (39 : Int32) M _ rfl) ?_
  refine am_Y.br (c := (f_w_within (f_e_spoken M) (0 : Int32) (39 : Int32) M) = (0 : Int32)) _ (t := 17) (u := 18) (lv' := [(4, .int (f_e_spoken M)), (0, .ref 11), (1, .int x1), (2, .int x2), (3, .int x3)]) (st' := []) (h' := hp M) rfl (fun hc => ?_) (fun hc => ?_)
  · replace h := (if_pos hc).symm.trans h
    obtain rfl := Option.some.inj h
    exact am_Y.ret rfl
  · replace h := (if_neg hc).symm.trans h
    refine am_Y.run (k := 6) (pc' := 28) (lv' := [(4, .int (f_e_spoken M)), (0, .ref 11), (1, .int x1), (2, .int x2), (3, .int x3)]) (st' := [.ref 11, .int ((6 : Int32) + (f_e_spoken M)), .ref 12]) (h' := hp M) rfl ?_
    refine am_Y.call0 (M' := am_M121) (as := [.ref 11]) (rest := [.int ((6 : Int32) + (f_e_spoken M)), .ref 12]) (d' := 0) rfl (by omega) rfl rfl (t_e_moment M _ rfl) ?_
    refine am_Y.run (k := 14) (pc' := 48) (lv' := [(4, .int (f_e_spoken M)), (0, .ref 11), (1, .int x1), (2, .int x2), (3, .int x3)]) (st' := [.int ((((f_e_moment M) ||| (x1 <<< (7 : Int32))) ||| (x2 <<< (11 : Int32))) ||| ((x3 + (1 : Int32)) <<< (14 : Int32))), .int ((6 : Int32) + (f_e_spoken M)), .ref 12]) (h' := hp M) rfl ?_
    obtain ⟨g, h⟩ := am_itg h
    refine am_Y.iast (a := 7) (n := 66) rfl rfl g ?_
    refine am_Y.run (k := 0) (pc' := _) (lv' := [(4, .int (f_e_spoken M)), (0, .ref 11), (1, .int x1), (2, .int x2), (3, .int x3)]) (st' := []) (h' := hp (si M 12 (((6 : Int32) + (f_e_spoken M))).toNatClampNeg ((((f_e_moment M) ||| (x1 <<< (7 : Int32))) ||| (x2 <<< (11 : Int32))) ||| ((x3 + (1 : Int32)) <<< (14 : Int32))))) rfl ?_
    obtain ⟨q1, e_q1, h⟩ := Option.bind_eq_some_iff.mp h
    rw [Option.some.inj e_q1]
    refine am_Y.run (k := 7) (pc' := 59) (lv' := [(4, .int (f_e_spoken M)), (0, .ref 11), (1, .int x1), (2, .int x2), (3, .int x3)]) (st' := []) (h' := hp (si q1 12 4 ((f_e_spoken M) + (1 : Int32)))) rfl ?_
    obtain ⟨q2, e_q2, h⟩ := Option.bind_eq_some_iff.mp h
    rw [Option.some.inj e_q2]
    obtain rfl := Option.some.inj h
    exact am_Y.ret rfl
set_option maxRecDepth 100000 in
theorem t_e_letGo {S : Nat × (Nat → Int32)} (x1 : Int32) (M : Mem) (M' : Mem) (h : f_e_letGo x1 M = some M') : am_Y S 0 0 0 am_M127 0 [(0, .ref 11), (1, .int x1)] [] (hp M) none (hp M') := by
  rw [f_e_letGo] at h
  refine am_Y.run (k := 8) (pc' := 10) (lv' := [(0, .ref 11), (1, .int x1)]) (st' := []) (h' := hp (si M 12 3 ((gi M 12 3) ||| x1))) rfl ?_
  obtain ⟨q1, e_q1, h⟩ := Option.bind_eq_some_iff.mp h
  rw [Option.some.inj e_q1]
  obtain rfl := Option.some.inj h
  exact am_Y.ret rfl
set_option maxRecDepth 100000 in
theorem t_e_night {S : Nat × (Nat → Int32)} (M : Mem) (r : Int32) (h : f_e_night M = r) : am_Y S 0 0 0 am_M129 0 [(0, .ref 11)] [] (hp M) (some (.int r)) (hp M) := by
  rw [f_e_night] at h
  refine am_Y.run (k := 4) (pc' := 6) (lv' := [(0, .ref 11)]) (st' := [.int (gi M 12 0)]) (h' := hp M) rfl ?_
  subst h
  exact am_Y.ret rfl
set_option maxRecDepth 100000 in
theorem t_e_entry {S : Nat × (Nat → Int32)} (x1 : Int32) (M : Mem) (r : Int32) (h : f_e_entry x1 M = some r) : am_Y S 0 0 0 am_M152 0 [(0, .ref 11), (1, .int x1)] [] (hp M) (some (.int r)) (hp M) := by
  rw [f_e_entry] at h
  refine am_Y.run (k := 1) (pc' := 1) (lv' := [(0, .ref 11), (1, .int x1)]) (st' := [.int x1]) (h' := hp M) rfl ?_
  refine am_Y.br (c := x1 < (0 : Int32)) _ (t := 22) (u := 4) (lv' := [(0, .ref 11), (1, .int x1)]) (st' := []) (h' := hp M) rfl (fun hc => ?_) (fun hc => ?_)
  · replace h := (if_pos hc).symm.trans h
    refine am_Y.run (k := 1) (pc' := 23) (lv' := [(0, .ref 11), (1, .int x1)]) (st' := [.int (0 : Int32)]) (h' := hp M) rfl ?_
    obtain rfl := Option.some.inj h
    exact am_Y.ret rfl
  · replace h := (if_neg hc).symm.trans h
    refine am_Y.run (k := 2) (pc' := 7) (lv' := [(0, .ref 11), (1, .int x1)]) (st' := [.int (40 : Int32), .int x1]) (h' := hp M) rfl ?_
    refine am_Y.br (c := (40 : Int32) ≤ x1) _ (t := 22) (u := 10) (lv' := [(0, .ref 11), (1, .int x1)]) (st' := []) (h' := hp M) rfl (fun hc => ?_) (fun hc => ?_)
    · replace h := (if_pos hc).symm.trans h
      refine am_Y.run (k := 1) (pc' := 23) (lv' := [(0, .ref 11), (1, .int x1)]) (st' := [.int (0 : Int32)]) (h' := hp M) rfl ?_
      obtain rfl := Option.some.inj h
      exact am_Y.ret rfl
    · replace h := (if_neg hc).symm.trans h
      refine am_Y.run (k := 5) (pc' := 18) (lv' := [(0, .ref 11), (1, .int x1)]) (st' := [.int ((6 : Int32) + x1), .ref 12]) (h' := hp M) rfl ?_
      obtain ⟨g, h⟩ := am_itg h
      refine am_Y.iald (a := 7) (n := 66) rfl rfl g ?_
      refine am_Y.run (k := 1) (pc' := 23) (lv' := [(0, .ref 11), (1, .int x1)]) (st' := [.int (gi M 12 (((6 : Int32) + x1)).toNatClampNeg)]) (h' := hp M) rfl ?_
      obtain rfl := Option.some.inj h
      exact am_Y.ret rfl
