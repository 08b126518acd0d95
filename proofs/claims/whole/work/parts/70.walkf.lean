/-! AM does what the functions say. -/
set_option maxRecDepth 100000 in
theorem t_e_kindOf {S : Nat × (Nat → Int32)} (x0 : Int32) (M : Mem) (r : Int32) (h : f_e_kindOf x0 M = r) : am_Y S 0 0 0 am_M155 0 [(0, .int x0)] [] (hp M) (some (.int r)) (hp M) := by
  rw [f_e_kindOf] at h
  refine am_Y.run (k := 5) (pc' := 7) (lv' := [(0, .int x0)]) (st' := [.int ((x0 >>> (11 : Int32)) &&& (7 : Int32))]) (h' := hp M) rfl ?_
  subst h
  exact am_Y.ret rfl
set_option maxRecDepth 100000 in
theorem t_e_wine_4 {S : Nat × (Nat → Int32)} (N : Nat) : ∀ (n : Nat) (x1 : Int32) (x2 : Int32) (M : Mem) (r : Int32), f_e_wine_4 N n x1 x2 M = some r → am_Y S 1 0 0 am_M220 4 [(0, .ref 11), (1, .int x1), (2, .int x2)] [] (hp M) (some (.int r)) (hp M) := by
  intro n
  induction n with
  | zero =>
    intro x1 x2 M r h
    cases h
  | succ n ih =>
    intro x1 x2 M r h
    rw [f_e_wine_4] at h
    refine am_Y.run (k := 2) (pc' := 6) (lv' := [(0, .ref 11), (1, .int x1), (2, .int x2)]) (st' := [.ref 11, .int x2]) (h' := hp M) rfl ?_
    refine am_Y.call0 (M' := am_M151) (as := [.ref 11]) (rest := [.int x2]) (d' := 0) rfl (by omega) rfl rfl (t_e_spoken M _ rfl) ?_
    refine am_Y.br (c := (f_e_spoken M) ≤ x2) _ (t := 33) (u := 12) (lv' := [(0, .ref 11), (1, .int x1), (2, .int x2)]) (st' := []) (h' := hp M) rfl (fun hc => ?_) (fun hc => ?_)
    · replace h := (if_pos hc).symm.trans h
      refine am_Y.run (k := 1) (pc' := 34) (lv' := [(0, .ref 11), (1, .int x1), (2, .int x2)]) (st' := [.int x1]) (h' := hp M) rfl ?_
      obtain rfl := Option.some.inj h
      exact am_Y.ret rfl
    · replace h := (if_neg hc).symm.trans h
      refine am_Y.run (k := 2) (pc' := 14) (lv' := [(0, .ref 11), (1, .int x1), (2, .int x2)]) (st' := [.int x2, .ref 11]) (h' := hp M) rfl ?_
      obtain ⟨q1, e_q1, h⟩ := Option.bind_eq_some_iff.mp h
      refine am_Y.call0 (M' := am_M152) (as := [.ref 11, .int x2]) (rest := []) (d' := 0) rfl (by omega) rfl rfl (t_e_entry x2 M q1 e_q1) ?_
      refine am_Y.call0 (M' := am_M155) (as := [.int q1]) (rest := []) (d' := 0) rfl (by omega) rfl rfl (t_e_kindOf q1 M _ rfl) ?_
      refine am_Y.run (k := 1) (pc' := 21) (lv' := [(0, .ref 11), (1, .int x1), (2, .int x2)]) (st' := [.int (2 : Int32), .int (f_e_kindOf q1 M)]) (h' := hp M) rfl ?_
      refine am_Y.br (c := (f_e_kindOf q1 M) = (2 : Int32)) _ (t := 24) (u := 27) (lv' := [(0, .ref 11), (1, .int x1), (2, .int x2)]) (st' := []) (h' := hp M) rfl (fun hc => ?_) (fun hc => ?_)
      · replace h := (if_pos hc).symm.trans h
        refine am_Y.run (k := 3) (pc' := 4) (lv' := [(2, .int (x2 + (1 : Int32))), (1, .int (x1 + (1 : Int32))), (0, .ref 11)]) (st' := []) (h' := hp M) rfl ?_
        refine am_Y.weak (lv2 := [(0, .ref 11), (1, .int (x1 + (1 : Int32))), (2, .int (x2 + (1 : Int32)))]) rfl rfl ⟨rfl, rfl, rfl, trivial⟩ ?_
        exact ih (x1 + (1 : Int32)) (x2 + (1 : Int32)) M _ h
      · replace h := (if_neg hc).symm.trans h
        refine am_Y.run (k := 2) (pc' := 4) (lv' := [(2, .int (x2 + (1 : Int32))), (0, .ref 11), (1, .int x1)]) (st' := []) (h' := hp M) rfl ?_
        refine am_Y.weak (lv2 := [(0, .ref 11), (1, .int x1), (2, .int (x2 + (1 : Int32)))]) rfl rfl ⟨rfl, rfl, rfl, trivial⟩ ?_
        exact ih x1 (x2 + (1 : Int32)) M _ h
set_option maxRecDepth 100000 in
theorem t_e_wine {S : Nat × (Nat → Int32)} (N : Nat) (M : Mem) (r : Int32) (h : f_e_wine N M = some r) : am_Y S 1 0 0 am_M220 0 [(0, .ref 11)] [] (hp M) (some (.int r)) (hp M) := by
  rw [f_e_wine] at h
  refine am_Y.run (k := 4) (pc' := 4) (lv' := [(2, .int (0 : Int32)), (1, .int (0 : Int32)), (0, .ref 11)]) (st' := []) (h' := hp M) rfl ?_
  refine am_Y.weak (lv2 := [(0, .ref 11), (1, .int (0 : Int32)), (2, .int (0 : Int32))]) rfl rfl ⟨rfl, rfl, rfl, trivial⟩ ?_
  exact t_e_wine_4 N N (0 : Int32) (0 : Int32) M _ h
set_option maxRecDepth 100000 in
theorem t_l_nameEvening {S : Nat × (Nat → Int32)} (N : Nat) (M : Mem) (M' : Mem) (h : f_l_nameEvening N M = some M') : am_Y S 2 0 0 am_M289 0 [(0, .ref 108), (1, .ref 11)] [] (hp M) none (hp M') := by
  rw [f_l_nameEvening] at h
  refine am_Y.run (k := 4) (pc' := 6) (lv' := [(0, .ref 108), (1, .ref 11)]) (st' := [.ref 11, .int (0 : Int32), .ref 109]) (h' := hp M) rfl ?_
  refine am_Y.call0 (M' := am_M129) (as := [.ref 11]) (rest := [.int (0 : Int32), .ref 109]) (d' := 0) rfl (by omega) rfl rfl (t_e_night M _ rfl) ?_
  refine am_Y.run (k := 1) (pc' := 10) (lv' := [(0, .ref 108), (1, .ref 11)]) (st' := []) (h' := hp (si M 109 0 (f_e_night M))) rfl ?_
  obtain ⟨q1, e_q1, h⟩ := Option.bind_eq_some_iff.mp h
  rw [Option.some.inj e_q1]
  refine am_Y.run (k := 4) (pc' := 16) (lv' := [(0, .ref 108), (1, .ref 11)]) (st' := [.ref 11, .int (1 : Int32), .ref 109]) (h' := hp q1) rfl ?_
  refine am_Y.call0 (M' := am_M121) (as := [.ref 11]) (rest := [.int (1 : Int32), .ref 109]) (d' := 0) rfl (by omega) rfl rfl (t_e_moment q1 _ rfl) ?_
  refine am_Y.run (k := 1) (pc' := 20) (lv' := [(0, .ref 108), (1, .ref 11)]) (st' := []) (h' := hp (si q1 109 1 (f_e_moment q1))) rfl ?_
  obtain ⟨q2, e_q2, h⟩ := Option.bind_eq_some_iff.mp h
  rw [Option.some.inj e_q2]
  refine am_Y.run (k := 4) (pc' := 26) (lv' := [(0, .ref 108), (1, .ref 11)]) (st' := [.ref 11, .int (2 : Int32), .ref 109]) (h' := hp q2) rfl ?_
  obtain ⟨q3, e_q3, h⟩ := Option.bind_eq_some_iff.mp h
  refine am_Y.call0 (M' := am_M220) (as := [.ref 11]) (rest := [.int (2 : Int32), .ref 109]) (d' := 1) rfl (by omega) rfl rfl (t_e_wine N q2 q3 e_q3) ?_
  refine am_Y.run (k := 1) (pc' := 30) (lv' := [(0, .ref 108), (1, .ref 11)]) (st' := []) (h' := hp (si q2 109 2 q3)) rfl ?_
  obtain ⟨q4, e_q4, h⟩ := Option.bind_eq_some_iff.mp h
  rw [Option.some.inj e_q4]
  obtain rfl := Option.some.inj h
  exact am_Y.ret rfl
set_option maxRecDepth 100000 in
theorem t_e_whoOf {S : Nat × (Nat → Int32)} (x0 : Int32) (M : Mem) (r : Int32) (h : f_e_whoOf x0 M = r) : am_Y S 0 0 0 am_M154 0 [(0, .int x0)] [] (hp M) (some (.int r)) (hp M) := by
  rw [f_e_whoOf] at h
  refine am_Y.run (k := 5) (pc' := 7) (lv' := [(0, .int x0)]) (st' := [.int ((x0 >>> (7 : Int32)) &&& (15 : Int32))]) (h' := hp M) rfl ?_
  subst h
  exact am_Y.ret rfl
set_option maxRecDepth 100000 in
theorem t_e_momentOf {S : Nat × (Nat → Int32)} (x0 : Int32) (M : Mem) (r : Int32) (h : f_e_momentOf x0 M = r) : am_Y S 0 0 0 am_M153 0 [(0, .int x0)] [] (hp M) (some (.int r)) (hp M) := by
  rw [f_e_momentOf] at h
  refine am_Y.run (k := 3) (pc' := 4) (lv' := [(0, .int x0)]) (st' := [.int (x0 &&& (127 : Int32))]) (h' := hp M) rfl ?_
  subst h
  exact am_Y.ret rfl
set_option maxRecDepth 100000 in
theorem t_e_lastOf_4 {S : Nat × (Nat → Int32)} (N : Nat) : ∀ (n : Nat) (x1 : Int32) (x2 : Int32) (x3 : Int32) (M : Mem) (r : Int32), f_e_lastOf_4 N n x1 x2 x3 M = some r → am_Y S 1 0 0 am_M143 4 [(0, .ref 11), (1, .int x1), (2, .int x2), (3, .int x3)] [] (hp M) (some (.int r)) (hp M) := by
  intro n
  induction n with
  | zero =>
    intro x1 x2 x3 M r h
    cases h
  | succ n ih =>
    intro x1 x2 x3 M r h
    rw [f_e_lastOf_4] at h
    refine am_Y.run (k := 2) (pc' := 6) (lv' := [(0, .ref 11), (1, .int x1), (2, .int x2), (3, .int x3)]) (st' := [.ref 11, .int x3]) (h' := hp M) rfl ?_
    refine am_Y.call0 (M' := am_M151) (as := [.ref 11]) (rest := [.int x3]) (d' := 0) rfl (by omega) rfl rfl (t_e_spoken M _ rfl) ?_
    refine am_Y.br (c := (f_e_spoken M) ≤ x3) _ (t := 39) (u := 12) (lv' := [(0, .ref 11), (1, .int x1), (2, .int x2), (3, .int x3)]) (st' := []) (h' := hp M) rfl (fun hc => ?_) (fun hc => ?_)
    · replace h := (if_pos hc).symm.trans h
      refine am_Y.run (k := 1) (pc' := 40) (lv' := [(0, .ref 11), (1, .int x1), (2, .int x2), (3, .int x3)]) (st' := [.int x2]) (h' := hp M) rfl ?_
      obtain rfl := Option.some.inj h
      exact am_Y.ret rfl
    · replace h := (if_neg hc).symm.trans h
      refine am_Y.run (k := 2) (pc' := 14) (lv' := [(0, .ref 11), (1, .int x1), (2, .int x2), (3, .int x3)]) (st' := [.int x3, .ref 11]) (h' := hp M) rfl ?_
      obtain ⟨q1, e_q1, h⟩ := Option.bind_eq_some_iff.mp h
      refine am_Y.call0 (M' := am_M152) (as := [.ref 11, .int x3]) (rest := []) (d' := 0) rfl (by omega) rfl rfl (t_e_entry x3 M q1 e_q1) ?_
      refine am_Y.call0 (M' := am_M154) (as := [.int q1]) (rest := []) (d' := 0) rfl (by omega) rfl rfl (t_e_whoOf q1 M _ rfl) ?_
      refine am_Y.run (k := 1) (pc' := 21) (lv' := [(0, .ref 11), (1, .int x1), (2, .int x2), (3, .int x3)]) (st' := [.int x1, .int (f_e_whoOf q1 M)]) (h' := hp M) rfl ?_
      refine am_Y.br (c := (f_e_whoOf q1 M) = x1) _ (t := 24) (u := 33) (lv' := [(0, .ref 11), (1, .int x1), (2, .int x2), (3, .int x3)]) (st' := []) (h' := hp M) rfl (fun hc => ?_) (fun hc => ?_)
      · replace h := (if_pos hc).symm.trans h
        refine am_Y.run (k := 2) (pc' := 26) (lv' := [(0, .ref 11), (1, .int x1), (2, .int x2), (3, .int x3)]) (st' := [.int x3, .ref 11]) (h' := hp M) rfl ?_
        obtain ⟨q2, e_q2, h⟩ := Option.bind_eq_some_iff.mp h
        refine am_Y.call0 (M' := am_M152) (as := [.ref 11, .int x3]) (rest := []) (d' := 0) rfl (by omega) rfl rfl (t_e_entry x3 M q2 e_q2) ?_
        refine am_Y.call0 (M' := am_M153) (as := [.int q2]) (rest := []) (d' := 0) rfl (by omega) rfl rfl (t_e_momentOf q2 M _ rfl) ?_
        refine am_Y.run (k := 3) (pc' := 4) (lv' := [(3, .int (x3 + (1 : Int32))), (2, .int (f_e_momentOf q2 M)), (0, .ref 11), (1, .int x1)]) (st' := []) (h' := hp M) rfl ?_
        refine am_Y.weak (lv2 := [(0, .ref 11), (1, .int x1), (2, .int (f_e_momentOf q2 M)), (3, .int (x3 + (1 : Int32)))]) rfl rfl ⟨rfl, rfl, rfl, rfl, trivial⟩ ?_
        exact ih x1 (f_e_momentOf q2 M) (x3 + (1 : Int32)) M _ h
      · replace h := (if_neg hc).symm.trans h
        refine am_Y.run (k := 2) (pc' := 4) (lv' := [(3, .int (x3 + (1 : Int32))), (0, .ref 11), (1, .int x1), (2, .int x2)]) (st' := []) (h' := hp M) rfl ?_
        refine am_Y.weak (lv2 := [(0, .ref 11), (1, .int x1), (2, .int x2), (3, .int (x3 + (1 : Int32)))]) rfl rfl ⟨rfl, rfl, rfl, rfl, trivial⟩ ?_
        exact ih x1 x2 (x3 + (1 : Int32)) M _ h
set_option maxRecDepth 100000 in
theorem t_e_lastOf {S : Nat × (Nat → Int32)} (N : Nat) (x1 : Int32) (M : Mem) (r : Int32) (h : f_e_lastOf N x1 M = some r) : am_Y S 1 0 0 am_M143 0 [(0, .ref 11), (1, .int x1)] [] (hp M) (some (.int r)) (hp M) := by
  rw [f_e_lastOf] at h
  refine am_Y.run (k := 4) (pc' := 4) (lv' := [(3, .int (0 : Int32)), (2, .int (-1 : Int32)), (0, .ref 11), (1, .int x1)]) (st' := []) (h' := hp M) rfl ?_
  refine am_Y.weak (lv2 := [(0, .ref 11), (1, .int x1), (2, .int (-1 : Int32)), (3, .int (0 : Int32))]) rfl rfl ⟨rfl, rfl, rfl, rfl, trivial⟩ ?_
  exact t_e_lastOf_4 N N x1 (-1 : Int32) (0 : Int32) M _ h
set_option maxRecDepth 100000 in
theorem t_e_wordsOf_4 {S : Nat × (Nat → Int32)} (N : Nat) : ∀ (n : Nat) (x1 : Int32) (x2 : Int32) (x3 : Int32) (M : Mem) (r : Int32), f_e_wordsOf_4 N n x1 x2 x3 M = some r → am_Y S 1 0 0 am_M141 4 [(0, .ref 11), (1, .int x1), (2, .int x2), (3, .int x3)] [] (hp M) (some (.int r)) (hp M) := by
  intro n
  induction n with
  | zero =>
    intro x1 x2 x3 M r h
    cases h
  | succ n ih =>
    intro x1 x2 x3 M r h
    rw [f_e_wordsOf_4] at h
    refine am_Y.run (k := 2) (pc' := 6) (lv' := [(0, .ref 11), (1, .int x1), (2, .int x2), (3, .int x3)]) (st' := [.ref 11, .int x3]) (h' := hp M) rfl ?_
    refine am_Y.call0 (M' := am_M151) (as := [.ref 11]) (rest := [.int x3]) (d' := 0) rfl (by omega) rfl rfl (t_e_spoken M _ rfl) ?_
    refine am_Y.br (c := (f_e_spoken M) ≤ x3) _ (t := 33) (u := 12) (lv' := [(0, .ref 11), (1, .int x1), (2, .int x2), (3, .int x3)]) (st' := []) (h' := hp M) rfl (fun hc => ?_) (fun hc => ?_)
    · replace h := (if_pos hc).symm.trans h
      refine am_Y.run (k := 1) (pc' := 34) (lv' := [(0, .ref 11), (1, .int x1), (2, .int x2), (3, .int x3)]) (st' := [.int x2]) (h' := hp M) rfl ?_
      obtain rfl := Option.some.inj h
      exact am_Y.ret rfl
    · replace h := (if_neg hc).symm.trans h
      refine am_Y.run (k := 2) (pc' := 14) (lv' := [(0, .ref 11), (1, .int x1), (2, .int x2), (3, .int x3)]) (st' := [.int x3, .ref 11]) (h' := hp M) rfl ?_
      obtain ⟨q1, e_q1, h⟩ := Option.bind_eq_some_iff.mp h
      refine am_Y.call0 (M' := am_M152) (as := [.ref 11, .int x3]) (rest := []) (d' := 0) rfl (by omega) rfl rfl (t_e_entry x3 M q1 e_q1) ?_
      refine am_Y.call0 (M' := am_M154) (as := [.int q1]) (rest := []) (d' := 0) rfl (by omega) rfl rfl (t_e_whoOf q1 M _ rfl) ?_
      refine am_Y.run (k := 1) (pc' := 21) (lv' := [(0, .ref 11), (1, .int x1), (2, .int x2), (3, .int x3)]) (st' := [.int x1, .int (f_e_whoOf q1 M)]) (h' := hp M) rfl ?_
      refine am_Y.br (c := (f_e_whoOf q1 M) = x1) _ (t := 24) (u := 27) (lv' := [(0, .ref 11), (1, .int x1), (2, .int x2), (3, .int x3)]) (st' := []) (h' := hp M) rfl (fun hc => ?_) (fun hc => ?_)
      · replace h := (if_pos hc).symm.trans h
        refine am_Y.run (k := 3) (pc' := 4) (lv' := [(3, .int (x3 + (1 : Int32))), (2, .int (x2 + (1 : Int32))), (0, .ref 11), (1, .int x1)]) (st' := []) (h' := hp M) rfl ?_
        refine am_Y.weak (lv2 := [(0, .ref 11), (1, .int x1), (2, .int (x2 + (1 : Int32))), (3, .int (x3 + (1 : Int32)))]) rfl rfl ⟨rfl, rfl, rfl, rfl, trivial⟩ ?_
        exact ih x1 (x2 + (1 : Int32)) (x3 + (1 : Int32)) M _ h
      · replace h := (if_neg hc).symm.trans h
        refine am_Y.run (k := 2) (pc' := 4) (lv' := [(3, .int (x3 + (1 : Int32))), (0, .ref 11), (1, .int x1), (2, .int x2)]) (st' := []) (h' := hp M) rfl ?_
        refine am_Y.weak (lv2 := [(0, .ref 11), (1, .int x1), (2, .int x2), (3, .int (x3 + (1 : Int32)))]) rfl rfl ⟨rfl, rfl, rfl, rfl, trivial⟩ ?_
        exact ih x1 x2 (x3 + (1 : Int32)) M _ h
set_option maxRecDepth 100000 in
theorem t_e_wordsOf {S : Nat × (Nat → Int32)} (N : Nat) (x1 : Int32) (M : Mem) (r : Int32) (h : f_e_wordsOf N x1 M = some r) : am_Y S 1 0 0 am_M141 0 [(0, .ref 11), (1, .int x1)] [] (hp M) (some (.int r)) (hp M) := by
  rw [f_e_wordsOf] at h
  refine am_Y.run (k := 4) (pc' := 4) (lv' := [(3, .int (0 : Int32)), (2, .int (0 : Int32)), (0, .ref 11), (1, .int x1)]) (st' := []) (h' := hp M) rfl ?_
  refine am_Y.weak (lv2 := [(0, .ref 11), (1, .int x1), (2, .int (0 : Int32)), (3, .int (0 : Int32))]) rfl rfl ⟨rfl, rfl, rfl, rfl, trivial⟩ ?_
  exact t_e_wordsOf_4 N N x1 (0 : Int32) (0 : Int32) M _ h
set_option maxRecDepth 100000 in
theorem t_k_bitCount {S : Nat × (Nat → Int32)} (x0 : Int32) (M : Mem) (r : Int32) (h : f_k_bitCount x0 M = r) : am_Y S 0 0 0 am_M259 0 [(0, .int x0)] [] (hp M) (some (.int r)) (hp M) := by
  rw [f_k_bitCount] at h
  refine am_Y.run (k := 41) (pc' := 52) (lv' := [(0, .int (((((((x0 - ((Int32.toUInt32 x0 >>> (Int32.toUInt32 (1 : Int32) &&& Int32.toUInt32 31)).toInt32 &&& (1431655765 : Int32))) &&& (858993459 : Int32)) + ((Int32.toUInt32 (x0 - ((Int32.toUInt32 x0 >>> (Int32.toUInt32 (1 : Int32) &&& Int32.toUInt32 31)).toInt32 &&& (1431655765 : Int32))) >>> (Int32.toUInt32 (2 : Int32) &&& Int32.toUInt32 31)).toInt32 &&& (858993459 : Int32))) + (Int32.toUInt32 (((x0 - ((Int32.toUInt32 x0 >>> (Int32.toUInt32 (1 : Int32) &&& Int32.toUInt32 31)).toInt32 &&& (1431655765 : Int32))) &&& (858993459 : Int32)) + ((Int32.toUInt32 (x0 - ((Int32.toUInt32 x0 >>> (Int32.toUInt32 (1 : Int32) &&& Int32.toUInt32 31)).toInt32 &&& (1431655765 : Int32))) >>> (Int32.toUInt32 (2 : Int32) &&& Int32.toUInt32 31)).toInt32 &&& (858993459 : Int32))) >>> (Int32.toUInt32 (4 : Int32) &&& Int32.toUInt32 31)).toInt32) &&& (252645135 : Int32)) + (Int32.toUInt32 (((((x0 - ((Int32.toUInt32 x0 >>> (Int32.toUInt32 (1 : Int32) &&& Int32.toUInt32 31)).toInt32 &&& (1431655765 : Int32))) &&& (858993459 : Int32)) + ((Int32.toUInt32 (x0 - ((Int32.toUInt32 x0 >>> (Int32.toUInt32 (1 : Int32) &&& Int32.toUInt32 31)).toInt32 &&& (1431655765 : Int32))) >>> (Int32.toUInt32 (2 : Int32) &&& Int32.toUInt32 31)).toInt32 &&& (858993459 : Int32))) + (Int32.toUInt32 (((x0 - ((Int32.toUInt32 x0 >>> (Int32.toUInt32 (1 : Int32) &&& Int32.toUInt32 31)).toInt32 &&& (1431655765 : Int32))) &&& (858993459 : Int32)) + ((Int32.toUInt32 (x0 - ((Int32.toUInt32 x0 >>> (Int32.toUInt32 (1 : Int32) &&& Int32.toUInt32 31)).toInt32 &&& (1431655765 : Int32))) >>> (Int32.toUInt32 (2 : Int32) &&& Int32.toUInt32 31)).toInt32 &&& (858993459 : Int32))) >>> (Int32.toUInt32 (4 : Int32) &&& Int32.toUInt32 31)).toInt32) &&& (252645135 : Int32)) >>> (Int32.toUInt32 (8 : Int32) &&& Int32.toUInt32 31)).toInt32) + (Int32.toUInt32 ((((((x0 - ((Int32.toUInt32 x0 >>> (Int32.toUInt32 (1 : Int32) &&& Int32.toUInt32 31)).toInt32 &&& (1431655765 : Int32))) &&& (858993459 : Int32)) + ((Int32.toUInt32 (x0 - ((Int32.toUInt32 x0 >>> (Int32.toUInt32 (1 : Int32) &&& Int32.toUInt32 31)).toInt32 &&& (1431655765 : Int32))) >>> (Int32.toUInt32 (2 : Int32) &&& Int32.toUInt32 31)).toInt32 &&& (858993459 : Int32))) + (Int32.toUInt32 (((x0 - ((Int32.toUInt32 x0 >>> (Int32.toUInt32 (1 : Int32) &&& Int32.toUInt32 31)).toInt32 &&& (1431655765 : Int32))) &&& (858993459 : Int32)) + ((Int32.toUInt32 (x0 - ((Int32.toUInt32 x0 >>> (Int32.toUInt32 (1 : Int32) &&& Int32.toUInt32 31)).toInt32 &&& (1431655765 : Int32))) >>> (Int32.toUInt32 (2 : Int32) &&& Int32.toUInt32 31)).toInt32 &&& (858993459 : Int32))) >>> (Int32.toUInt32 (4 : Int32) &&& Int32.toUInt32 31)).toInt32) &&& (252645135 : Int32)) + (Int32.toUInt32 (((((x0 - ((Int32.toUInt32 x0 >>> (Int32.toUInt32 (1 : Int32) &&& Int32.toUInt32 31)).toInt32 &&& (1431655765 : Int32))) &&& (858993459 : Int32)) + ((Int32.toUInt32 (x0 - ((Int32.toUInt32 x0 >>> (Int32.toUInt32 (1 : Int32) &&& Int32.toUInt32 31)).toInt32 &&& (1431655765 : Int32))) >>> (Int32.toUInt32 (2 : Int32) &&& Int32.toUInt32 31)).toInt32 &&& (858993459 : Int32))) + (Int32.toUInt32 (((x0 - ((Int32.toUInt32 x0 >>> (Int32.toUInt32 (1 : Int32) &&& Int32.toUInt32 31)).toInt32 &&& (1431655765 : Int32))) &&& (858993459 : Int32)) + ((Int32.toUInt32 (x0 - ((Int32.toUInt32 x0 >>> (Int32.toUInt32 (1 : Int32) &&& Int32.toUInt32 31)).toInt32 &&& (1431655765 : Int32))) >>> (Int32.toUInt32 (2 : Int32) &&& Int32.toUInt32 31)).toInt32 &&& (858993459 : Int32))) >>> (Int32.toUInt32 (4 : Int32) &&& Int32.toUInt32 31)).toInt32) &&& (252645135 : Int32)) >>> (Int32.toUInt32 (8 : Int32) &&& Int32.toUInt32 31)).toInt32) >>> (Int32.toUInt32 (16 : Int32) &&& Int32.toUInt32 31)).toInt32))]) (st' := [.int ((((((((x0 - ((Int32.toUInt32 x0 >>> (Int32.toUInt32 (1 : Int32) &&& Int32.toUInt32 31)).toInt32 &&& (1431655765 : Int32))) &&& (858993459 : Int32)) + ((Int32.toUInt32 (x0 - ((Int32.toUInt32 x0 >>> (Int32.toUInt32 (1 : Int32) &&& Int32.toUInt32 31)).toInt32 &&& (1431655765 : Int32))) >>> (Int32.toUInt32 (2 : Int32) &&& Int32.toUInt32 31)).toInt32 &&& (858993459 : Int32))) + (Int32.toUInt32 (((x0 - ((Int32.toUInt32 x0 >>> (Int32.toUInt32 (1 : Int32) &&& Int32.toUInt32 31)).toInt32 &&& (1431655765 : Int32))) &&& (858993459 : Int32)) + ((Int32.toUInt32 (x0 - ((Int32.toUInt32 x0 >>> (Int32.toUInt32 (1 : Int32) &&& Int32.toUInt32 31)).toInt32 &&& (1431655765 : Int32))) >>> (Int32.toUInt32 (2 : Int32) &&& Int32.toUInt32 31)).toInt32 &&& (858993459 : Int32))) >>> (Int32.toUInt32 (4 : Int32) &&& Int32.toUInt32 31)).toInt32) &&& (252645135 : Int32)) + (Int32.toUInt32 (((((x0 - ((Int32.toUInt32 x0 >>> (Int32.toUInt32 (1 : Int32) &&& Int32.toUInt32 31)).toInt32 &&& (1431655765 : Int32))) &&& (858993459 : Int32)) + ((Int32.toUInt32 (x0 - ((Int32.toUInt32 x0 >>> (Int32.toUInt32 (1 : Int32) &&& Int32.toUInt32 31)).toInt32 &&& (1431655765 : Int32))) >>> (Int32.toUInt32 (2 : Int32) &&& Int32.toUInt32 31)).toInt32 &&& (858993459 : Int32))) + (Int32.toUInt32 (((x0 - ((Int32.toUInt32 x0 >>> (Int32.toUInt32 (1 : Int32) &&& Int32.toUInt32 31)).toInt32 &&& (1431655765 : Int32))) &&& (858993459 : Int32)) + ((Int32.toUInt32 (x0 - ((Int32.toUInt32 x0 >>> (Int32.toUInt32 (1 : Int32) &&& Int32.toUInt32 31)).toInt32 &&& (1431655765 : Int32))) >>> (Int32.toUInt32 (2 : Int32) &&& Int32.toUInt32 31)).toInt32 &&& (858993459 : Int32))) >>> (Int32.toUInt32 (4 : Int32) &&& Int32.toUInt32 31)).toInt32) &&& (252645135 : Int32)) >>> (Int32.toUInt32 (8 : Int32) &&& Int32.toUInt32 31)).toInt32) + (Int32.toUInt32 ((((((x0 - ((Int32.toUInt32 x0 >>> (Int32.toUInt32 (1 : Int32) &&& Int32.toUInt32 31)).toInt32 &&& (1431655765 : Int32))) &&& (858993459 : Int32)) + ((Int32.toUInt32 (x0 - ((Int32.toUInt32 x0 >>> (Int32.toUInt32 (1 : Int32) &&& Int32.toUInt32 31)).toInt32 &&& (1431655765 : Int32))) >>> (Int32.toUInt32 (2 : Int32) &&& Int32.toUInt32 31)).toInt32 &&& (858993459 : Int32))) + (Int32.toUInt32 (((x0 - ((Int32.toUInt32 x0 >>> (Int32.toUInt32 (1 : Int32) &&& Int32.toUInt32 31)).toInt32 &&& (1431655765 : Int32))) &&& (858993459 : Int32)) + ((Int32.toUInt32 (x0 - ((Int32.toUInt32 x0 >>> (Int32.toUInt32 (1 : Int32) &&& Int32.toUInt32 31)).toInt32 &&& (1431655765 : Int32))) >>> (Int32.toUInt32 (2 : Int32) &&& Int32.toUInt32 31)).toInt32 &&& (858993459 : Int32))) >>> (Int32.toUInt32 (4 : Int32) &&& Int32.toUInt32 31)).toInt32) &&& (252645135 : Int32)) + (Int32.toUInt32 (((((x0 - ((Int32.toUInt32 x0 >>> (Int32.toUInt32 (1 : Int32) &&& Int32.toUInt32 31)).toInt32 &&& (1431655765 : Int32))) &&& (858993459 : Int32)) + ((Int32.toUInt32 (x0 - ((Int32.toUInt32 x0 >>> (Int32.toUInt32 (1 : Int32) &&& Int32.toUInt32 31)).toInt32 &&& (1431655765 : Int32))) >>> (Int32.toUInt32 (2 : Int32) &&& Int32.toUInt32 31)).toInt32 &&& (858993459 : Int32))) + (Int32.toUInt32 (((x0 - ((Int32.toUInt32 x0 >>> (Int32.toUInt32 (1 : Int32) &&& Int32.toUInt32 31)).toInt32 &&& (1431655765 : Int32))) &&& (858993459 : Int32)) + ((Int32.toUInt32 (x0 - ((Int32.toUInt32 x0 >>> (Int32.toUInt32 (1 : Int32) &&& Int32.toUInt32 31)).toInt32 &&& (1431655765 : Int32))) >>> (Int32.toUInt32 (2 : Int32) &&& Int32.toUInt32 31)).toInt32 &&& (858993459 : Int32))) >>> (Int32.toUInt32 (4 : Int32) &&& Int32.toUInt32 31)).toInt32) &&& (252645135 : Int32)) >>> (Int32.toUInt32 (8 : Int32) &&& Int32.toUInt32 31)).toInt32) >>> (Int32.toUInt32 (16 : Int32) &&& Int32.toUInt32 31)).toInt32) &&& (63 : Int32))]) (h' := hp M) rfl ?_
  subst h
  exact am_Y.ret rfl
set_option maxRecDepth 100000 in
theorem t_e_fallsOf {S : Nat × (Nat → Int32)} (x0 : Int32) (M : Mem) (r : Int32) (h : f_e_fallsOf x0 M = r) : am_Y S 0 0 0 am_M156 0 [(0, .int x0)] [] (hp M) (some (.int r)) (hp M) := by
  rw [f_e_fallsOf] at h
  refine am_Y.run (k := 5) (pc' := 6) (lv' := [(0, .int x0)]) (st' := [.int ((x0 >>> (14 : Int32)) - (1 : Int32))]) (h' := hp M) rfl ?_
  subst h
  exact am_Y.ret rfl
set_option maxRecDepth 100000 in
theorem t_w_bitOf {S : Nat × (Nat → Int32)} (x0 : Int32) (M : Mem) (r : Int32) (h : f_w_bitOf x0 M = r) : am_Y S 0 0 0 am_M256 0 [(0, .int x0)] [] (hp M) (some (.int r)) (hp M) := by
  rw [f_w_bitOf] at h
  refine am_Y.run (k := 1) (pc' := 1) (lv' := [(0, .int x0)]) (st' := [.int x0]) (h' := hp M) rfl ?_
  refine am_Y.br (c := x0 < (0 : Int32)) _ (t := 16) (u := 4) (lv' := [(0, .int x0)]) (st' := []) (h' := hp M) rfl (fun hc => ?_) (fun hc => ?_)
  · replace h := (if_pos hc).symm.trans h
    refine am_Y.run (k := 1) (pc' := 17) (lv' := [(0, .int x0)]) (st' := [.int (0 : Int32)]) (h' := hp M) rfl ?_
    subst h
    exact am_Y.ret rfl
  · replace h := (if_neg hc).symm.trans h
    refine am_Y.run (k := 2) (pc' := 7) (lv' := [(0, .int x0)]) (st' := [.int (8 : Int32), .int x0]) (h' := hp M) rfl ?_
    refine am_Y.br (c := (8 : Int32) ≤ x0) _ (t := 16) (u := 10) (lv' := [(0, .int x0)]) (st' := []) (h' := hp M) rfl (fun hc => ?_) (fun hc => ?_)
    · replace h := (if_pos hc).symm.trans h
      refine am_Y.run (k := 1) (pc' := 17) (lv' := [(0, .int x0)]) (st' := [.int (0 : Int32)]) (h' := hp M) rfl ?_
      subst h
      exact am_Y.ret rfl
    · replace h := (if_neg hc).symm.trans h
      refine am_Y.run (k := 4) (pc' := 17) (lv' := [(0, .int x0)]) (st' := [.int ((1 : Int32) <<< (x0 &&& 31))]) (h' := hp M) rfl ?_
      subst h
      exact am_Y.ret rfl
set_option maxRecDepth 100000 in
theorem t_w_joined {S : Nat × (Nat → Int32)} (x0 : Int32) (x1 : Int32) (x2 : Int32) (M : Mem) (r : Int32) (h : f_w_joined x0 x1 x2 M = r) : am_Y S 0 0 0 am_M189 0 [(0, .int x0), (1, .int x1), (2, .int x2)] [] (hp M) (some (.int r)) (hp M) := by
  rw [f_w_joined] at h
  refine am_Y.run (k := 8) (pc' := 9) (lv' := [(3, .int (x0 >>> (8 : Int32))), (0, .int x0), (1, .int x1), (2, .int x2)]) (st' := [.int (x0 >>> (8 : Int32)), .int (x1 + (1 : Int32))]) (h' := hp M) rfl ?_
  refine am_Y.br (c := (x1 + (1 : Int32)) ≤ (x0 >>> (8 : Int32))) _ (t := 21) (u := 12) (lv' := [(3, .int (x0 >>> (8 : Int32))), (0, .int x0), (1, .int x1), (2, .int x2)]) (st' := []) (h' := hp M) rfl (fun hc => ?_) (fun hc => ?_)
  · replace h := (if_pos hc).symm.trans h
    refine am_Y.run (k := 4) (pc' := 25) (lv' := [(3, .int (x0 >>> (8 : Int32))), (0, .int x0), (1, .int x1), (2, .int x2)]) (st' := [.int (x0 >>> (8 : Int32)), .int (x1 + (1 : Int32))]) (h' := hp M) rfl ?_
    refine am_Y.br (c := (x1 + (1 : Int32)) = (x0 >>> (8 : Int32))) _ (t := 28) (u := 34) (lv' := [(3, .int (x0 >>> (8 : Int32))), (0, .int x0), (1, .int x1), (2, .int x2)]) (st' := []) (h' := hp M) rfl (fun hc => ?_) (fun hc => ?_)
    · replace h := (if_pos hc).symm.trans h
      refine am_Y.run (k := 4) (pc' := 35) (lv' := [(3, .int (x0 >>> (8 : Int32))), (0, .int x0), (1, .int x1), (2, .int x2)]) (st' := [.int (x0 ||| x2)]) (h' := hp M) rfl ?_
      subst h
      exact am_Y.ret rfl
    · replace h := (if_neg hc).symm.trans h
      refine am_Y.run (k := 1) (pc' := 35) (lv' := [(3, .int (x0 >>> (8 : Int32))), (0, .int x0), (1, .int x1), (2, .int x2)]) (st' := [.int x0]) (h' := hp M) rfl ?_
      subst h
      exact am_Y.ret rfl
  · replace h := (if_neg hc).symm.trans h
    refine am_Y.run (k := 7) (pc' := 20) (lv' := [(3, .int (x0 >>> (8 : Int32))), (0, .int x0), (1, .int x1), (2, .int x2)]) (st' := [.int (((x1 + (1 : Int32)) <<< (8 : Int32)) ||| x2)]) (h' := hp M) rfl ?_
    subst h
    exact am_Y.ret rfl
set_option maxRecDepth 100000 in
theorem t_e_standing_4 {S : Nat × (Nat → Int32)} (N : Nat) : ∀ (n : Nat) (x1 : Int32) (x2 : Int32) (x3 : Int32) (M : Mem) (r : Int32), f_e_standing_4 N n x1 x2 x3 M = some r → am_Y S 1 0 0 am_M188 4 [(0, .ref 11), (1, .int x1), (2, .int x2), (3, .int x3)] [] (hp M) (some (.int r)) (hp M) := by
  intro n
  induction n with
  | zero =>
    intro x1 x2 x3 M r h
    cases h
  | succ n ih =>
    intro x1 x2 x3 M r h
    rw [f_e_standing_4] at h
    refine am_Y.run (k := 2) (pc' := 6) (lv' := [(0, .ref 11), (1, .int x1), (2, .int x2), (3, .int x3)]) (st' := [.ref 11, .int x3]) (h' := hp M) rfl ?_
    refine am_Y.call0 (M' := am_M151) (as := [.ref 11]) (rest := [.int x3]) (d' := 0) rfl (by omega) rfl rfl (t_e_spoken M _ rfl) ?_
    refine am_Y.br (c := (f_e_spoken M) ≤ x3) _ (t := 59) (u := 12) (lv' := [(0, .ref 11), (1, .int x1), (2, .int x2), (3, .int x3)]) (st' := []) (h' := hp M) rfl (fun hc => ?_) (fun hc => ?_)
    · replace h := (if_pos hc).symm.trans h
      refine am_Y.run (k := 1) (pc' := 60) (lv' := [(0, .ref 11), (1, .int x1), (2, .int x2), (3, .int x3)]) (st' := [.int x2]) (h' := hp M) rfl ?_
      obtain rfl := Option.some.inj h
      exact am_Y.ret rfl
    · replace h := (if_neg hc).symm.trans h
      refine am_Y.run (k := 2) (pc' := 14) (lv' := [(0, .ref 11), (1, .int x1), (2, .int x2), (3, .int x3)]) (st' := [.int x3, .ref 11]) (h' := hp M) rfl ?_
      obtain ⟨q1, e_q1, h⟩ := Option.bind_eq_some_iff.mp h
      refine am_Y.call0 (M' := am_M152) (as := [.ref 11, .int x3]) (rest := []) (d' := 0) rfl (by omega) rfl rfl (t_e_entry x3 M q1 e_q1) ?_
      refine am_Y.run (k := 2) (pc' := 21) (lv' := [(4, .int q1), (0, .ref 11), (1, .int x1), (2, .int x2), (3, .int x3)]) (st' := [.int q1]) (h' := hp M) rfl ?_
      refine am_Y.call0 (M' := am_M156) (as := [.int q1]) (rest := []) (d' := 0) rfl (by omega) rfl rfl (t_e_fallsOf q1 M _ rfl) ?_
      refine am_Y.run (k := 3) (pc' := 29) (lv' := [(5, .int (f_e_fallsOf q1 M)), (4, .int q1), (0, .ref 11), (1, .int x1), (2, .int x2), (3, .int x3)]) (st' := [.int (-1 : Int32), .int (f_e_fallsOf q1 M)]) (h' := hp M) rfl ?_
      refine am_Y.br (c := (f_e_fallsOf q1 M) = (-1 : Int32)) _ (t := 53) (u := 32) (lv' := [(5, .int (f_e_fallsOf q1 M)), (4, .int q1), (0, .ref 11), (1, .int x1), (2, .int x2), (3, .int x3)]) (st' := []) (h' := hp M) rfl (fun hc => ?_) (fun hc => ?_)
      · replace h := (if_pos hc).symm.trans h
        refine am_Y.run (k := 2) (pc' := 4) (lv' := [(3, .int (x3 + (1 : Int32))), (5, .int (f_e_fallsOf q1 M)), (4, .int q1), (0, .ref 11), (1, .int x1), (2, .int x2)]) (st' := []) (h' := hp M) rfl ?_
        refine am_Y.weak (lv2 := [(0, .ref 11), (1, .int x1), (2, .int x2), (3, .int (x3 + (1 : Int32)))]) rfl rfl ⟨rfl, rfl, rfl, rfl, trivial⟩ ?_
        exact ih x1 x2 (x3 + (1 : Int32)) M _ h
      · replace h := (if_neg hc).symm.trans h
        refine am_Y.run (k := 2) (pc' := 35) (lv' := [(5, .int (f_e_fallsOf q1 M)), (4, .int q1), (0, .ref 11), (1, .int x1), (2, .int x2), (3, .int x3)]) (st' := [.int x1, .int (f_e_fallsOf q1 M)]) (h' := hp M) rfl ?_
        refine am_Y.br (c := x1 ≤ (f_e_fallsOf q1 M)) _ (t := 53) (u := 38) (lv' := [(5, .int (f_e_fallsOf q1 M)), (4, .int q1), (0, .ref 11), (1, .int x1), (2, .int x2), (3, .int x3)]) (st' := []) (h' := hp M) rfl (fun hc => ?_) (fun hc => ?_)
        · replace h := (if_pos hc).symm.trans h
          refine am_Y.run (k := 2) (pc' := 4) (lv' := [(3, .int (x3 + (1 : Int32))), (5, .int (f_e_fallsOf q1 M)), (4, .int q1), (0, .ref 11), (1, .int x1), (2, .int x2)]) (st' := []) (h' := hp M) rfl ?_
          refine am_Y.weak (lv2 := [(0, .ref 11), (1, .int x1), (2, .int x2), (3, .int (x3 + (1 : Int32)))]) rfl rfl ⟨rfl, rfl, rfl, rfl, trivial⟩ ?_
          exact ih x1 x2 (x3 + (1 : Int32)) M _ h
        · replace h := (if_neg hc).symm.trans h
          refine am_Y.run (k := 3) (pc' := 43) (lv' := [(5, .int (f_e_fallsOf q1 M)), (4, .int q1), (0, .ref 11), (1, .int x1), (2, .int x2), (3, .int x3)]) (st' := [.int q1, .int (f_e_fallsOf q1 M), .int x2]) (h' := hp M) rfl ?_
          refine am_Y.call0 (M' := am_M154) (as := [.int q1]) (rest := [.int (f_e_fallsOf q1 M), .int x2]) (d' := 0) rfl (by omega) rfl rfl (t_e_whoOf q1 M _ rfl) ?_
          refine am_Y.call0 (M' := am_M256) (as := [.int (f_e_whoOf q1 M)]) (rest := [.int (f_e_fallsOf q1 M), .int x2]) (d' := 0) rfl (by omega) rfl rfl (t_w_bitOf (f_e_whoOf q1 M) M _ rfl) ?_
          refine am_Y.call0 (M' := am_M189) (as := [.int x2, .int (f_e_fallsOf q1 M), .int (f_w_bitOf (f_e_whoOf q1 M) M)]) (rest := []) (d' := 0) rfl (by omega) rfl rfl (t_w_joined x2 (f_e_fallsOf q1 M) (f_w_bitOf (f_e_whoOf q1 M) M) M _ rfl) ?_
          refine am_Y.run (k := 3) (pc' := 4) (lv' := [(3, .int (x3 + (1 : Int32))), (2, .int (f_w_joined x2 (f_e_fallsOf q1 M) (f_w_bitOf (f_e_whoOf q1 M) M) M)), (5, .int (f_e_fallsOf q1 M)), (4, .int q1), (0, .ref 11), (1, .int x1)]) (st' := []) (h' := hp M) rfl ?_
          refine am_Y.weak (lv2 := [(0, .ref 11), (1, .int x1), (2, .int (f_w_joined x2 (f_e_fallsOf q1 M) (f_w_bitOf (f_e_whoOf q1 M) M) M)), (3, .int (x3 + (1 : Int32)))]) rfl rfl ⟨rfl, rfl, rfl, rfl, trivial⟩ ?_
          exact ih x1 (f_w_joined x2 (f_e_fallsOf q1 M) (f_w_bitOf (f_e_whoOf q1 M) M) M) (x3 + (1 : Int32)) M _ h
set_option maxRecDepth 100000 in
theorem t_e_standing {S : Nat × (Nat → Int32)} (N : Nat) (x1 : Int32) (M : Mem) (r : Int32) (h : f_e_standing N x1 M = some r) : am_Y S 1 0 0 am_M188 0 [(0, .ref 11), (1, .int x1)] [] (hp M) (some (.int r)) (hp M) := by
  rw [f_e_standing] at h
  refine am_Y.run (k := 4) (pc' := 4) (lv' := [(3, .int (0 : Int32)), (2, .int (0 : Int32)), (0, .ref 11), (1, .int x1)]) (st' := []) (h' := hp M) rfl ?_
  refine am_Y.weak (lv2 := [(0, .ref 11), (1, .int x1), (2, .int (0 : Int32)), (3, .int (0 : Int32))]) rfl rfl ⟨rfl, rfl, rfl, rfl, trivial⟩ ?_
  exact t_e_standing_4 N N x1 (0 : Int32) (0 : Int32) M _ h
set_option maxRecDepth 100000 in
theorem t_w_holders {S : Nat × (Nat → Int32)} (x0 : Int32) (M : Mem) (r : Int32) (h : f_w_holders x0 M = r) : am_Y S 0 0 0 am_M190 0 [(0, .int x0)] [] (hp M) (some (.int r)) (hp M) := by
  rw [f_w_holders] at h
  refine am_Y.run (k := 3) (pc' := 5) (lv' := [(0, .int x0)]) (st' := [.int (x0 &&& (255 : Int32))]) (h' := hp M) rfl ?_
  subst h
  exact am_Y.ret rfl
set_option maxRecDepth 100000 in
theorem t_e_holdNow {S : Nat × (Nat → Int32)} (N : Nat) (M : Mem) (r : Int32) (h : f_e_holdNow N M = some r) : am_Y S 2 0 0 am_M148 0 [(0, .ref 11)] [] (hp M) (some (.int r)) (hp M) := by
  rw [f_e_holdNow] at h
  refine am_Y.run (k := 2) (pc' := 2) (lv' := [(0, .ref 11)]) (st' := [.ref 11, .ref 11]) (h' := hp M) rfl ?_
  refine am_Y.call0 (M' := am_M121) (as := [.ref 11]) (rest := [.ref 11]) (d' := 0) rfl (by omega) rfl rfl (t_e_moment M _ rfl) ?_
  obtain ⟨q1, e_q1, h⟩ := Option.bind_eq_some_iff.mp h
  refine am_Y.call0 (M' := am_M188) (as := [.ref 11, .int (f_e_moment M)]) (rest := []) (d' := 1) rfl (by omega) rfl rfl (t_e_standing N (f_e_moment M) M q1 e_q1) ?_
  refine am_Y.call0 (M' := am_M190) (as := [.int q1]) (rest := []) (d' := 0) rfl (by omega) rfl rfl (t_w_holders q1 M _ rfl) ?_
  obtain rfl := Option.some.inj h
  exact am_Y.ret rfl
set_option maxRecDepth 100000 in
theorem t_l_nameSpeaker_107 {S : Nat × (Nat → Int32)} (N : Nat) (x2 : Int32) (s1 : Int32) (s2 : Int32) (M : Mem) (M' : Mem) (h : f_l_nameSpeaker_107 N x2 s1 s2 M = some M') : am_Y S 3 0 0 am_M243 107 [(0, .ref 108), (1, .ref 6), (2, .int x2), (4, .ref 11)] [.int s2, .int s1, .ref 109] (hp M) none (hp M') := by
  rw [f_l_nameSpeaker_107] at h
  obtain ⟨g, h⟩ := am_itg h
  refine am_Y.iast (a := 104) (n := 12) rfl rfl g ?_
  refine am_Y.run (k := 0) (pc' := _) (lv' := [(0, .ref 108), (1, .ref 6), (2, .int x2), (4, .ref 11)]) (st' := []) (h' := hp (si M 109 (s1).toNatClampNeg s2)) rfl ?_
  obtain ⟨q8, e_q8, h⟩ := Option.bind_eq_some_iff.mp h
  rw [Option.some.inj e_q8]
  refine am_Y.run (k := 4) (pc' := 115) (lv' := [(0, .ref 108), (1, .ref 6), (2, .int x2), (4, .ref 11)]) (st' := [.ref 6, .int (8 : Int32), .ref 109]) (h' := hp q8) rfl ?_
  refine am_Y.call0 (M' := am_M197) (as := [.ref 6]) (rest := [.int (8 : Int32), .ref 109]) (d' := 1) rfl (by omega) rfl rfl (t_t_there q8 _ rfl) ?_
  refine am_Y.call0 (M' := am_M259) (as := [.int (f_t_there q8)]) (rest := [.int (8 : Int32), .ref 109]) (d' := 0) rfl (by omega) rfl rfl (t_k_bitCount (f_t_there q8) q8 _ rfl) ?_
  refine am_Y.run (k := 1) (pc' := 122) (lv' := [(0, .ref 108), (1, .ref 6), (2, .int x2), (4, .ref 11)]) (st' := []) (h' := hp (si q8 109 8 (f_k_bitCount (f_t_there q8) q8))) rfl ?_
  obtain ⟨q9, e_q9, h⟩ := Option.bind_eq_some_iff.mp h
  rw [Option.some.inj e_q9]
  refine am_Y.run (k := 4) (pc' := 130) (lv' := [(0, .ref 108), (1, .ref 6), (2, .int x2), (4, .ref 11)]) (st' := [.ref 11, .int (9 : Int32), .ref 109]) (h' := hp q9) rfl ?_
  obtain ⟨q10, e_q10, h⟩ := Option.bind_eq_some_iff.mp h
  refine am_Y.call0 (M' := am_M148) (as := [.ref 11]) (rest := [.int (9 : Int32), .ref 109]) (d' := 2) rfl (by omega) rfl rfl (t_e_holdNow N q9 q10 e_q10) ?_
  refine am_Y.run (k := 5) (pc' := 138) (lv' := [(0, .ref 108), (1, .ref 6), (2, .int x2), (4, .ref 11)]) (st' := []) (h' := hp (si q9 109 9 ((q10 >>> (x2 &&& 31)) &&& (1 : Int32)))) rfl ?_
  obtain ⟨q11, e_q11, h⟩ := Option.bind_eq_some_iff.mp h
  rw [Option.some.inj e_q11]
  obtain rfl := Option.some.inj h
  exact am_Y.ret rfl
set_option maxRecDepth 100000 in
theorem t_l_nameSpeaker {S : Nat × (Nat → Int32)} (N : Nat) (x2 : Int32) (x3 : Int32) (M : Mem) (M' : Mem) (h : f_l_nameSpeaker N x2 x3 M = some M') : am_Y S 3 0 0 am_M243 0 [(0, .ref 108), (1, .ref 6), (2, .int x2), (3, .int x3)] [] (hp M) none (hp M') := by
  rw [f_l_nameSpeaker] at h
  refine am_Y.run (k := 6) (pc' := 11) (lv' := [(4, .ref 11), (0, .ref 108), (1, .ref 6), (2, .int x2), (3, .int x3)]) (st' := [.int x2, .ref 7]) (h' := hp M) rfl ?_
  refine am_Y.call0 (M' := am_M140) (as := [.ref 7, .int x2]) (rest := []) (d' := 1) rfl (by omega) rfl rfl (t_g_knows x2 M _ rfl) ?_
  refine am_Y.br (c := (f_g_knows x2 M) = (0 : Int32)) _ (t := 17) (u := 18) (lv' := [(4, .ref 11), (0, .ref 108), (1, .ref 6), (2, .int x2), (3, .int x3)]) (st' := []) (h' := hp M) rfl (fun hc => ?_) (fun hc => ?_)
  · replace h := (if_pos hc).symm.trans h
    obtain rfl := Option.some.inj h
    exact am_Y.ret rfl
  · replace h := (if_neg hc).symm.trans h
    refine am_Y.run (k := 2) (pc' := 21) (lv' := [(4, .ref 11), (0, .ref 108), (1, .ref 6), (2, .int x2), (3, .int x3)]) (st' := [.ref 11, .ref 108]) (h' := hp M) rfl ?_
    obtain ⟨q1, e_q1, h⟩ := Option.bind_eq_some_iff.mp h
    refine am_Y.call0 (M' := am_M289) (as := [.ref 108, .ref 11]) (rest := []) (d' := 2) rfl (by omega) rfl rfl (t_l_nameEvening N M q1 e_q1) ?_
    refine am_Y.run (k := 2) (pc' := 27) (lv' := [(4, .ref 11), (0, .ref 108), (1, .ref 6), (2, .int x2), (3, .int x3)]) (st' := [.int x2, .ref 11]) (h' := hp q1) rfl ?_
    obtain ⟨q2, e_q2, h⟩ := Option.bind_eq_some_iff.mp h
    refine am_Y.call0 (M' := am_M143) (as := [.ref 11, .int x2]) (rest := []) (d' := 1) rfl (by omega) rfl rfl (t_e_lastOf N x2 q1 q2 e_q2) ?_
    refine am_Y.run (k := 8) (pc' := 45) (lv' := [(5, .int q2), (4, .ref 11), (0, .ref 108), (1, .ref 6), (2, .int x2), (3, .int x3)]) (st' := [.int x2, .ref 8, .int (3 : Int32), .ref 109]) (h' := hp q1) rfl ?_
    obtain ⟨g, h⟩ := am_itg h
    refine am_Y.iald (a := 3) (n := 8) rfl rfl g ?_
    refine am_Y.run (k := 1) (pc' := 47) (lv' := [(5, .int q2), (4, .ref 11), (0, .ref 108), (1, .ref 6), (2, .int x2), (3, .int x3)]) (st' := []) (h' := hp (si q1 109 3 (gi q1 8 (x2).toNatClampNeg))) rfl ?_
    obtain ⟨q3, e_q3, h⟩ := Option.bind_eq_some_iff.mp h
    rw [Option.some.inj e_q3]
    refine am_Y.run (k := 7) (pc' := 60) (lv' := [(5, .int q2), (4, .ref 11), (0, .ref 108), (1, .ref 6), (2, .int x2), (3, .int x3)]) (st' := [.int x2, .ref 9, .int (4 : Int32), .ref 109]) (h' := hp q3) rfl ?_
    obtain ⟨g, h⟩ := am_itg h
    refine am_Y.iald (a := 4) (n := 8) rfl rfl g ?_
    refine am_Y.run (k := 1) (pc' := 62) (lv' := [(5, .int q2), (4, .ref 11), (0, .ref 108), (1, .ref 6), (2, .int x2), (3, .int x3)]) (st' := []) (h' := hp (si q3 109 4 (gi q3 9 (x2).toNatClampNeg))) rfl ?_
    obtain ⟨q4, e_q4, h⟩ := Option.bind_eq_some_iff.mp h
    rw [Option.some.inj e_q4]
    refine am_Y.run (k := 5) (pc' := 69) (lv' := [(5, .int q2), (4, .ref 11), (0, .ref 108), (1, .ref 6), (2, .int x2), (3, .int x3)]) (st' := []) (h' := hp (si q4 109 5 x3)) rfl ?_
    obtain ⟨q5, e_q5, h⟩ := Option.bind_eq_some_iff.mp h
    rw [Option.some.inj e_q5]
    refine am_Y.run (k := 5) (pc' := 78) (lv' := [(5, .int q2), (4, .ref 11), (0, .ref 108), (1, .ref 6), (2, .int x2), (3, .int x3)]) (st' := [.int x2, .ref 11, .int (6 : Int32), .ref 109]) (h' := hp q5) rfl ?_
    obtain ⟨q6, e_q6, h⟩ := Option.bind_eq_some_iff.mp h
    refine am_Y.call0 (M' := am_M141) (as := [.ref 11, .int x2]) (rest := [.int (6 : Int32), .ref 109]) (d' := 1) rfl (by omega) rfl rfl (t_e_wordsOf N x2 q5 q6 e_q6) ?_
    refine am_Y.run (k := 1) (pc' := 82) (lv' := [(5, .int q2), (4, .ref 11), (0, .ref 108), (1, .ref 6), (2, .int x2), (3, .int x3)]) (st' := []) (h' := hp (si q5 109 6 q6)) rfl ?_
    obtain ⟨q7, e_q7, h⟩ := Option.bind_eq_some_iff.mp h
    rw [Option.some.inj e_q7]
    refine am_Y.run (k := 5) (pc' := 91) (lv' := [(5, .int q2), (4, .ref 11), (0, .ref 108), (1, .ref 6), (2, .int x2), (3, .int x3)]) (st' := [.int (-1 : Int32), .int q2, .int (7 : Int32), .ref 109]) (h' := hp q7) rfl ?_
    refine am_Y.br (c := q2 = (-1 : Int32)) _ (t := 94) (u := 99) (lv' := [(5, .int q2), (4, .ref 11), (0, .ref 108), (1, .ref 6), (2, .int x2), (3, .int x3)]) (st' := [.int (7 : Int32), .ref 109]) (h' := hp q7) rfl (fun hc => ?_) (fun hc => ?_)
    · replace h := (if_pos hc).symm.trans h
      refine am_Y.run (k := 2) (pc' := 107) (lv' := [(5, .int q2), (4, .ref 11), (0, .ref 108), (1, .ref 6), (2, .int x2), (3, .int x3)]) (st' := [.int (99 : Int32), .int (7 : Int32), .ref 109]) (h' := hp q7) rfl ?_
      refine am_Y.weak (lv2 := [(0, .ref 108), (1, .ref 6), (2, .int x2), (4, .ref 11)]) rfl rfl ⟨rfl, rfl, rfl, rfl, trivial⟩ ?_
      exact t_l_nameSpeaker_107 N x2 (7 : Int32) (99 : Int32) q7 _ h
    · replace h := (if_neg hc).symm.trans h
      refine am_Y.run (k := 1) (pc' := 101) (lv' := [(5, .int q2), (4, .ref 11), (0, .ref 108), (1, .ref 6), (2, .int x2), (3, .int x3)]) (st' := [.ref 11, .int (7 : Int32), .ref 109]) (h' := hp q7) rfl ?_
      refine am_Y.call0 (M' := am_M121) (as := [.ref 11]) (rest := [.int (7 : Int32), .ref 109]) (d' := 0) rfl (by omega) rfl rfl (t_e_moment q7 _ rfl) ?_
      refine am_Y.run (k := 2) (pc' := 107) (lv' := [(5, .int q2), (4, .ref 11), (0, .ref 108), (1, .ref 6), (2, .int x2), (3, .int x3)]) (st' := [.int ((f_e_moment q7) - q2), .int (7 : Int32), .ref 109]) (h' := hp q7) rfl ?_
      refine am_Y.weak (lv2 := [(0, .ref 108), (1, .ref 6), (2, .int x2), (4, .ref 11)]) rfl rfl ⟨rfl, rfl, rfl, rfl, trivial⟩ ?_
      exact t_l_nameSpeaker_107 N x2 (7 : Int32) ((f_e_moment q7) - q2) q7 _ h
set_option maxRecDepth 100000 in
theorem t_p_startOf_a_113 {S : Nat × (Nat → Int32)} (x1 : Int32) (M : Mem) (r : Int32) (h : f_p_startOf_a 113 x1 M = some r) : am_Y S 1 0 0 am_M244 0 [(0, .ref 113), (1, .int x1)] [] (hp M) (some (.int r)) (hp M) := by
  rw [f_p_startOf_a] at h
  refine am_Y.run (k := 3) (pc' := 5) (lv' := [(0, .ref 113), (1, .int x1)]) (st' := [.int (14 : Int32), .int (12 : Int32), .int x1]) (h' := hp M) rfl ?_
  refine am_Y.call0 (M' := am_M102) (as := [.int x1, .int (12 : Int32), .int (14 : Int32)]) (rest := []) (d' := 0) rfl (by omega) rfl rfl (t_w_within x1 (12 : Int32) (14 : Int32) M _ rfl) ?_
  refine am_Y.br (c := (f_w_within x1 (12 : Int32) (14 : Int32) M) = (0 : Int32)) _ (t := 23) (u := 11) (lv' := [(0, .ref 113), (1, .int x1)]) (st' := []) (h' := hp M) rfl (fun hc => ?_) (fun hc => ?_)
  · replace h := (if_pos hc).symm.trans h
    refine am_Y.run (k := 1) (pc' := 24) (lv' := [(0, .ref 113), (1, .int x1)]) (st' := [.int (-1 : Int32)]) (h' := hp M) rfl ?_
    obtain rfl := Option.some.inj h
    exact am_Y.ret rfl
  · replace h := (if_neg hc).symm.trans h
    refine am_Y.run (k := 5) (pc' := 19) (lv' := [(0, .ref 113), (1, .int x1)]) (st' := [.int (x1 - (12 : Int32)), .ref (113 + 3)]) (h' := hp M) rfl ?_
    obtain ⟨g, h⟩ := am_itg h
    refine am_Y.iald (a := 111) (n := 3) rfl rfl g ?_
    refine am_Y.run (k := 1) (pc' := 24) (lv' := [(0, .ref 113), (1, .int x1)]) (st' := [.int (gi M (113 + 3) ((x1 - (12 : Int32))).toNatClampNeg)]) (h' := hp M) rfl ?_
    obtain rfl := Option.some.inj h
    exact am_Y.ret rfl
set_option maxRecDepth 100000 in
theorem t_p_startOf_a_117 {S : Nat × (Nat → Int32)} (x1 : Int32) (M : Mem) (r : Int32) (h : f_p_startOf_a 117 x1 M = some r) : am_Y S 1 0 0 am_M244 0 [(0, .ref 117), (1, .int x1)] [] (hp M) (some (.int r)) (hp M) := by
  rw [f_p_startOf_a] at h
  refine am_Y.run (k := 3) (pc' := 5) (lv' := [(0, .ref 117), (1, .int x1)]) (st' := [.int (14 : Int32), .int (12 : Int32), .int x1]) (h' := hp M) rfl ?_
  refine am_Y.call0 (M' := am_M102) (as := [.int x1, .int (12 : Int32), .int (14 : Int32)]) (rest := []) (d' := 0) rfl (by omega) rfl rfl (t_w_within x1 (12 : Int32) (14 : Int32) M _ rfl) ?_
  refine am_Y.br (c := (f_w_within x1 (12 : Int32) (14 : Int32) M) = (0 : Int32)) _ (t := 23) (u := 11) (lv' := [(0, .ref 117), (1, .int x1)]) (st' := []) (h' := hp M) rfl (fun hc => ?_) (fun hc => ?_)
  · replace h := (if_pos hc).symm.trans h
    refine am_Y.run (k := 1) (pc' := 24) (lv' := [(0, .ref 117), (1, .int x1)]) (st' := [.int (-1 : Int32)]) (h' := hp M) rfl ?_
    obtain rfl := Option.some.inj h
    exact am_Y.ret rfl
  · replace h := (if_neg hc).symm.trans h
    refine am_Y.run (k := 5) (pc' := 19) (lv' := [(0, .ref 117), (1, .int x1)]) (st' := [.int (x1 - (12 : Int32)), .ref (117 + 3)]) (h' := hp M) rfl ?_
    obtain ⟨g, h⟩ := am_itg h
    refine am_Y.iald (a := 115) (n := 3) rfl rfl g ?_
    refine am_Y.run (k := 1) (pc' := 24) (lv' := [(0, .ref 117), (1, .int x1)]) (st' := [.int (gi M (117 + 3) ((x1 - (12 : Int32))).toNatClampNeg)]) (h' := hp M) rfl ?_
    obtain rfl := Option.some.inj h
    exact am_Y.ret rfl
set_option maxRecDepth 100000 in
theorem t_p_startOf_a_121 {S : Nat × (Nat → Int32)} (x1 : Int32) (M : Mem) (r : Int32) (h : f_p_startOf_a 121 x1 M = some r) : am_Y S 1 0 0 am_M244 0 [(0, .ref 121), (1, .int x1)] [] (hp M) (some (.int r)) (hp M) := by
  rw [f_p_startOf_a] at h
  refine am_Y.run (k := 3) (pc' := 5) (lv' := [(0, .ref 121), (1, .int x1)]) (st' := [.int (14 : Int32), .int (12 : Int32), .int x1]) (h' := hp M) rfl ?_
  refine am_Y.call0 (M' := am_M102) (as := [.int x1, .int (12 : Int32), .int (14 : Int32)]) (rest := []) (d' := 0) rfl (by omega) rfl rfl (t_w_within x1 (12 : Int32) (14 : Int32) M _ rfl) ?_
  refine am_Y.br (c := (f_w_within x1 (12 : Int32) (14 : Int32) M) = (0 : Int32)) _ (t := 23) (u := 11) (lv' := [(0, .ref 121), (1, .int x1)]) (st' := []) (h' := hp M) rfl (fun hc => ?_) (fun hc => ?_)
  · replace h := (if_pos hc).symm.trans h
    refine am_Y.run (k := 1) (pc' := 24) (lv' := [(0, .ref 121), (1, .int x1)]) (st' := [.int (-1 : Int32)]) (h' := hp M) rfl ?_
    obtain rfl := Option.some.inj h
    exact am_Y.ret rfl
  · replace h := (if_neg hc).symm.trans h
    refine am_Y.run (k := 5) (pc' := 19) (lv' := [(0, .ref 121), (1, .int x1)]) (st' := [.int (x1 - (12 : Int32)), .ref (121 + 3)]) (h' := hp M) rfl ?_
    obtain ⟨g, h⟩ := am_itg h
    refine am_Y.iald (a := 119) (n := 3) rfl rfl g ?_
    refine am_Y.run (k := 1) (pc' := 24) (lv' := [(0, .ref 121), (1, .int x1)]) (st' := [.int (gi M (121 + 3) ((x1 - (12 : Int32))).toNatClampNeg)]) (h' := hp M) rfl ?_
    obtain rfl := Option.some.inj h
    exact am_Y.ret rfl
set_option maxRecDepth 100000 in
theorem t_p_startOf_a_125 {S : Nat × (Nat → Int32)} (x1 : Int32) (M : Mem) (r : Int32) (h : f_p_startOf_a 125 x1 M = some r) : am_Y S 1 0 0 am_M244 0 [(0, .ref 125), (1, .int x1)] [] (hp M) (some (.int r)) (hp M) := by
  rw [f_p_startOf_a] at h
  refine am_Y.run (k := 3) (pc' := 5) (lv' := [(0, .ref 125), (1, .int x1)]) (st' := [.int (14 : Int32), .int (12 : Int32), .int x1]) (h' := hp M) rfl ?_
  refine am_Y.call0 (M' := am_M102) (as := [.int x1, .int (12 : Int32), .int (14 : Int32)]) (rest := []) (d' := 0) rfl (by omega) rfl rfl (t_w_within x1 (12 : Int32) (14 : Int32) M _ rfl) ?_
  refine am_Y.br (c := (f_w_within x1 (12 : Int32) (14 : Int32) M) = (0 : Int32)) _ (t := 23) (u := 11) (lv' := [(0, .ref 125), (1, .int x1)]) (st' := []) (h' := hp M) rfl (fun hc => ?_) (fun hc => ?_)
  · replace h := (if_pos hc).symm.trans h
    refine am_Y.run (k := 1) (pc' := 24) (lv' := [(0, .ref 125), (1, .int x1)]) (st' := [.int (-1 : Int32)]) (h' := hp M) rfl ?_
    obtain rfl := Option.some.inj h
    exact am_Y.ret rfl
  · replace h := (if_neg hc).symm.trans h
    refine am_Y.run (k := 5) (pc' := 19) (lv' := [(0, .ref 125), (1, .int x1)]) (st' := [.int (x1 - (12 : Int32)), .ref (125 + 3)]) (h' := hp M) rfl ?_
    obtain ⟨g, h⟩ := am_itg h
    refine am_Y.iald (a := 123) (n := 3) rfl rfl g ?_
    refine am_Y.run (k := 1) (pc' := 24) (lv' := [(0, .ref 125), (1, .int x1)]) (st' := [.int (gi M (125 + 3) ((x1 - (12 : Int32))).toNatClampNeg)]) (h' := hp M) rfl ?_
    obtain rfl := Option.some.inj h
    exact am_Y.ret rfl
set_option maxRecDepth 100000 in
theorem t_l_pop {S : Nat × (Nat → Int32)} (M : Mem) (r : Int32) (M' : Mem) (h : f_l_pop M = some (r, M')) : am_Y S 0 0 0 am_M294 0 [(0, .ref 108)] [] (hp M) (some (.int r)) (hp M') := by
  rw [f_l_pop] at h
  refine am_Y.run (k := 3) (pc' := 5) (lv' := [(0, .ref 108)]) (st' := [.int (1 : Int32), .int (gi M 108 2)]) (h' := hp M) rfl ?_
  refine am_Y.br (c := (gi M 108 2) < (1 : Int32)) _ (t := 17) (u := 8) (lv' := [(0, .ref 108)]) (st' := []) (h' := hp M) rfl (fun hc => ?_) (fun hc => ?_)
  · replace h := (if_pos hc).symm.trans h
    refine am_Y.run (k := 1) (pc' := 18) (lv' := [(0, .ref 108)]) (st' := [.int (0 : Int32)]) (h' := hp M) rfl ?_
    obtain ⟨rfl, rfl⟩ := Prod.mk.inj (Option.some.inj h)
    exact am_Y.ret rfl
  · replace h := (if_neg hc).symm.trans h
    refine am_Y.run (k := 3) (pc' := 14) (lv' := [(0, .ref 108)]) (st' := [.int (64 : Int32), .int (gi M 108 2)]) (h' := hp M) rfl ?_
    refine am_Y.br (c := (gi M 108 2) ≤ (64 : Int32)) _ (t := 19) (u := 17) (lv' := [(0, .ref 108)]) (st' := []) (h' := hp M) rfl (fun hc => ?_) (fun hc => ?_)
    · replace h := (if_pos hc).symm.trans h
      refine am_Y.run (k := 6) (pc' := 29) (lv' := [(0, .ref 108)]) (st' := []) (h' := hp (si M 108 2 ((gi M 108 2) - (1 : Int32)))) rfl ?_
      obtain ⟨q1, e_q1, h⟩ := Option.bind_eq_some_iff.mp h
      rw [Option.some.inj e_q1]
      refine am_Y.run (k := 4) (pc' := 37) (lv' := [(0, .ref 108)]) (st' := [.int (gi q1 108 2), .ref 110]) (h' := hp q1) rfl ?_
      obtain ⟨g, h⟩ := am_itg h
      refine am_Y.iald (a := 105) (n := 64) rfl rfl g ?_
      obtain ⟨rfl, rfl⟩ := Prod.mk.inj (Option.some.inj h)
      exact am_Y.ret rfl
    · replace h := (if_neg hc).symm.trans h
      refine am_Y.run (k := 1) (pc' := 18) (lv' := [(0, .ref 108)]) (st' := [.int (0 : Int32)]) (h' := hp M) rfl ?_
      obtain ⟨rfl, rfl⟩ := Prod.mk.inj (Option.some.inj h)
      exact am_Y.ret rfl
set_option maxRecDepth 100000 in
theorem t_p_opAt_113 {S : Nat × (Nat → Int32)} (x1 : Int32) (M : Mem) (r : Int32) (h : f_p_opAt 113 x1 M = some r) : am_Y S 0 0 0 am_M290 0 [(0, .ref 113), (1, .int x1)] [] (hp M) (some (.int r)) (hp M) := by
  rw [f_p_opAt] at h
  refine am_Y.run (k := 1) (pc' := 1) (lv' := [(0, .ref 113), (1, .int x1)]) (st' := [.int x1]) (h' := hp M) rfl ?_
  refine am_Y.br (c := x1 < (0 : Int32)) _ (t := 31) (u := 4) (lv' := [(0, .ref 113), (1, .int x1)]) (st' := []) (h' := hp M) rfl (fun hc => ?_) (fun hc => ?_)
  · replace h := (if_pos hc).symm.trans h
    refine am_Y.run (k := 1) (pc' := 33) (lv' := [(0, .ref 113), (1, .int x1)]) (st' := [.int (53 : Int32)]) (h' := hp M) rfl ?_
    obtain rfl := Option.some.inj h
    exact am_Y.ret rfl
  · replace h := (if_neg hc).symm.trans h
    refine am_Y.run (k := 3) (pc' := 9) (lv' := [(0, .ref 113), (1, .int x1)]) (st' := [.int (gi M 113 3), .int x1]) (h' := hp M) rfl ?_
    refine am_Y.br (c := (gi M 113 3) ≤ x1) _ (t := 31) (u := 12) (lv' := [(0, .ref 113), (1, .int x1)]) (st' := []) (h' := hp M) rfl (fun hc => ?_) (fun hc => ?_)
    · replace h := (if_pos hc).symm.trans h
      refine am_Y.run (k := 1) (pc' := 33) (lv' := [(0, .ref 113), (1, .int x1)]) (st' := [.int (53 : Int32)]) (h' := hp M) rfl ?_
      obtain rfl := Option.some.inj h
      exact am_Y.ret rfl
    · replace h := (if_neg hc).symm.trans h
      refine am_Y.run (k := 2) (pc' := 16) (lv' := [(0, .ref 113), (1, .int x1)]) (st' := [.int (300 : Int32), .int x1]) (h' := hp M) rfl ?_
      refine am_Y.br (c := (300 : Int32) ≤ x1) _ (t := 31) (u := 19) (lv' := [(0, .ref 113), (1, .int x1)]) (st' := []) (h' := hp M) rfl (fun hc => ?_) (fun hc => ?_)
      · replace h := (if_pos hc).symm.trans h
        refine am_Y.run (k := 1) (pc' := 33) (lv' := [(0, .ref 113), (1, .int x1)]) (st' := [.int (53 : Int32)]) (h' := hp M) rfl ?_
        obtain rfl := Option.some.inj h
        exact am_Y.ret rfl
      · replace h := (if_neg hc).symm.trans h
        refine am_Y.run (k := 3) (pc' := 24) (lv' := [(0, .ref 113), (1, .int x1)]) (st' := [.int x1, .ref (113 + 1)]) (h' := hp M) rfl ?_
        obtain ⟨g, h⟩ := am_itg h
        refine am_Y.iald (a := 109) (n := 300) rfl rfl g ?_
        refine am_Y.run (k := 3) (pc' := 33) (lv' := [(0, .ref 113), (1, .int x1)]) (st' := [.int ((gi M (113 + 1) (x1).toNatClampNeg) &&& (63 : Int32))]) (h' := hp M) rfl ?_
        obtain rfl := Option.some.inj h
        exact am_Y.ret rfl
set_option maxRecDepth 100000 in
theorem t_p_opAt_117 {S : Nat × (Nat → Int32)} (x1 : Int32) (M : Mem) (r : Int32) (h : f_p_opAt 117 x1 M = some r) : am_Y S 0 0 0 am_M290 0 [(0, .ref 117), (1, .int x1)] [] (hp M) (some (.int r)) (hp M) := by
  rw [f_p_opAt] at h
  refine am_Y.run (k := 1) (pc' := 1) (lv' := [(0, .ref 117), (1, .int x1)]) (st' := [.int x1]) (h' := hp M) rfl ?_
  refine am_Y.br (c := x1 < (0 : Int32)) _ (t := 31) (u := 4) (lv' := [(0, .ref 117), (1, .int x1)]) (st' := []) (h' := hp M) rfl (fun hc => ?_) (fun hc => ?_)
  · replace h := (if_pos hc).symm.trans h
    refine am_Y.run (k := 1) (pc' := 33) (lv' := [(0, .ref 117), (1, .int x1)]) (st' := [.int (53 : Int32)]) (h' := hp M) rfl ?_
    obtain rfl := Option.some.inj h
    exact am_Y.ret rfl
  · replace h := (if_neg hc).symm.trans h
    refine am_Y.run (k := 3) (pc' := 9) (lv' := [(0, .ref 117), (1, .int x1)]) (st' := [.int (gi M 117 3), .int x1]) (h' := hp M) rfl ?_
    refine am_Y.br (c := (gi M 117 3) ≤ x1) _ (t := 31) (u := 12) (lv' := [(0, .ref 117), (1, .int x1)]) (st' := []) (h' := hp M) rfl (fun hc => ?_) (fun hc => ?_)
    · replace h := (if_pos hc).symm.trans h
      refine am_Y.run (k := 1) (pc' := 33) (lv' := [(0, .ref 117), (1, .int x1)]) (st' := [.int (53 : Int32)]) (h' := hp M) rfl ?_
      obtain rfl := Option.some.inj h
      exact am_Y.ret rfl
    · replace h := (if_neg hc).symm.trans h
      refine am_Y.run (k := 2) (pc' := 16) (lv' := [(0, .ref 117), (1, .int x1)]) (st' := [.int (300 : Int32), .int x1]) (h' := hp M) rfl ?_
      refine am_Y.br (c := (300 : Int32) ≤ x1) _ (t := 31) (u := 19) (lv' := [(0, .ref 117), (1, .int x1)]) (st' := []) (h' := hp M) rfl (fun hc => ?_) (fun hc => ?_)
      · replace h := (if_pos hc).symm.trans h
        refine am_Y.run (k := 1) (pc' := 33) (lv' := [(0, .ref 117), (1, .int x1)]) (st' := [.int (53 : Int32)]) (h' := hp M) rfl ?_
        obtain rfl := Option.some.inj h
        exact am_Y.ret rfl
      · replace h := (if_neg hc).symm.trans h
        refine am_Y.run (k := 3) (pc' := 24) (lv' := [(0, .ref 117), (1, .int x1)]) (st' := [.int x1, .ref (117 + 1)]) (h' := hp M) rfl ?_
        obtain ⟨g, h⟩ := am_itg h
        refine am_Y.iald (a := 113) (n := 300) rfl rfl g ?_
        refine am_Y.run (k := 3) (pc' := 33) (lv' := [(0, .ref 117), (1, .int x1)]) (st' := [.int ((gi M (117 + 1) (x1).toNatClampNeg) &&& (63 : Int32))]) (h' := hp M) rfl ?_
        obtain rfl := Option.some.inj h
        exact am_Y.ret rfl
set_option maxRecDepth 100000 in
theorem t_p_opAt_121 {S : Nat × (Nat → Int32)} (x1 : Int32) (M : Mem) (r : Int32) (h : f_p_opAt 121 x1 M = some r) : am_Y S 0 0 0 am_M290 0 [(0, .ref 121), (1, .int x1)] [] (hp M) (some (.int r)) (hp M) := by
  rw [f_p_opAt] at h
  refine am_Y.run (k := 1) (pc' := 1) (lv' := [(0, .ref 121), (1, .int x1)]) (st' := [.int x1]) (h' := hp M) rfl ?_
  refine am_Y.br (c := x1 < (0 : Int32)) _ (t := 31) (u := 4) (lv' := [(0, .ref 121), (1, .int x1)]) (st' := []) (h' := hp M) rfl (fun hc => ?_) (fun hc => ?_)
  · replace h := (if_pos hc).symm.trans h
    refine am_Y.run (k := 1) (pc' := 33) (lv' := [(0, .ref 121), (1, .int x1)]) (st' := [.int (53 : Int32)]) (h' := hp M) rfl ?_
    obtain rfl := Option.some.inj h
    exact am_Y.ret rfl
  · replace h := (if_neg hc).symm.trans h
    refine am_Y.run (k := 3) (pc' := 9) (lv' := [(0, .ref 121), (1, .int x1)]) (st' := [.int (gi M 121 3), .int x1]) (h' := hp M) rfl ?_
    refine am_Y.br (c := (gi M 121 3) ≤ x1) _ (t := 31) (u := 12) (lv' := [(0, .ref 121), (1, .int x1)]) (st' := []) (h' := hp M) rfl (fun hc => ?_) (fun hc => ?_)
    · replace h := (if_pos hc).symm.trans h
      refine am_Y.run (k := 1) (pc' := 33) (lv' := [(0, .ref 121), (1, .int x1)]) (st' := [.int (53 : Int32)]) (h' := hp M) rfl ?_
      obtain rfl := Option.some.inj h
      exact am_Y.ret rfl
    · replace h := (if_neg hc).symm.trans h
      refine am_Y.run (k := 2) (pc' := 16) (lv' := [(0, .ref 121), (1, .int x1)]) (st' := [.int (300 : Int32), .int x1]) (h' := hp M) rfl ?_
      refine am_Y.br (c := (300 : Int32) ≤ x1) _ (t := 31) (u := 19) (lv' := [(0, .ref 121), (1, .int x1)]) (st' := []) (h' := hp M) rfl (fun hc => ?_) (fun hc => ?_)
      · replace h := (if_pos hc).symm.trans h
        refine am_Y.run (k := 1) (pc' := 33) (lv' := [(0, .ref 121), (1, .int x1)]) (st' := [.int (53 : Int32)]) (h' := hp M) rfl ?_
        obtain rfl := Option.some.inj h
        exact am_Y.ret rfl
      · replace h := (if_neg hc).symm.trans h
        refine am_Y.run (k := 3) (pc' := 24) (lv' := [(0, .ref 121), (1, .int x1)]) (st' := [.int x1, .ref (121 + 1)]) (h' := hp M) rfl ?_
        obtain ⟨g, h⟩ := am_itg h
        refine am_Y.iald (a := 117) (n := 300) rfl rfl g ?_
        refine am_Y.run (k := 3) (pc' := 33) (lv' := [(0, .ref 121), (1, .int x1)]) (st' := [.int ((gi M (121 + 1) (x1).toNatClampNeg) &&& (63 : Int32))]) (h' := hp M) rfl ?_
        obtain rfl := Option.some.inj h
        exact am_Y.ret rfl
set_option maxRecDepth 100000 in
theorem t_p_opAt_125 {S : Nat × (Nat → Int32)} (x1 : Int32) (M : Mem) (r : Int32) (h : f_p_opAt 125 x1 M = some r) : am_Y S 0 0 0 am_M290 0 [(0, .ref 125), (1, .int x1)] [] (hp M) (some (.int r)) (hp M) := by
  rw [f_p_opAt] at h
  refine am_Y.run (k := 1) (pc' := 1) (lv' := [(0, .ref 125), (1, .int x1)]) (st' := [.int x1]) (h' := hp M) rfl ?_
  refine am_Y.br (c := x1 < (0 : Int32)) _ (t := 31) (u := 4) (lv' := [(0, .ref 125), (1, .int x1)]) (st' := []) (h' := hp M) rfl (fun hc => ?_) (fun hc => ?_)
  · replace h := (if_pos hc).symm.trans h
    refine am_Y.run (k := 1) (pc' := 33) (lv' := [(0, .ref 125), (1, .int x1)]) (st' := [.int (53 : Int32)]) (h' := hp M) rfl ?_
    obtain rfl := Option.some.inj h
    exact am_Y.ret rfl
  · replace h := (if_neg hc).symm.trans h
    refine am_Y.run (k := 3) (pc' := 9) (lv' := [(0, .ref 125), (1, .int x1)]) (st' := [.int (gi M 125 3), .int x1]) (h' := hp M) rfl ?_
    refine am_Y.br (c := (gi M 125 3) ≤ x1) _ (t := 31) (u := 12) (lv' := [(0, .ref 125), (1, .int x1)]) (st' := []) (h' := hp M) rfl (fun hc => ?_) (fun hc => ?_)
    · replace h := (if_pos hc).symm.trans h
      refine am_Y.run (k := 1) (pc' := 33) (lv' := [(0, .ref 125), (1, .int x1)]) (st' := [.int (53 : Int32)]) (h' := hp M) rfl ?_
      obtain rfl := Option.some.inj h
      exact am_Y.ret rfl
    · replace h := (if_neg hc).symm.trans h
      refine am_Y.run (k := 2) (pc' := 16) (lv' := [(0, .ref 125), (1, .int x1)]) (st' := [.int (300 : Int32), .int x1]) (h' := hp M) rfl ?_
      refine am_Y.br (c := (300 : Int32) ≤ x1) _ (t := 31) (u := 19) (lv' := [(0, .ref 125), (1, .int x1)]) (st' := []) (h' := hp M) rfl (fun hc => ?_) (fun hc => ?_)
      · replace h := (if_pos hc).symm.trans h
        refine am_Y.run (k := 1) (pc' := 33) (lv' := [(0, .ref 125), (1, .int x1)]) (st' := [.int (53 : Int32)]) (h' := hp M) rfl ?_
        obtain rfl := Option.some.inj h
        exact am_Y.ret rfl
      · replace h := (if_neg hc).symm.trans h
        refine am_Y.run (k := 3) (pc' := 24) (lv' := [(0, .ref 125), (1, .int x1)]) (st' := [.int x1, .ref (125 + 1)]) (h' := hp M) rfl ?_
        obtain ⟨g, h⟩ := am_itg h
        refine am_Y.iald (a := 121) (n := 300) rfl rfl g ?_
        refine am_Y.run (k := 3) (pc' := 33) (lv' := [(0, .ref 125), (1, .int x1)]) (st' := [.int ((gi M (125 + 1) (x1).toNatClampNeg) &&& (63 : Int32))]) (h' := hp M) rfl ?_
        obtain rfl := Option.some.inj h
        exact am_Y.ret rfl
set_option maxRecDepth 100000 in
theorem t_p_argumentAt_a_113 {S : Nat × (Nat → Int32)} (x1 : Int32) (M : Mem) (r : Int32) (h : f_p_argumentAt_a 113 x1 M = some r) : am_Y S 0 0 0 am_M291 0 [(0, .ref 113), (1, .int x1)] [] (hp M) (some (.int r)) (hp M) := by
  rw [f_p_argumentAt_a] at h
  refine am_Y.run (k := 1) (pc' := 1) (lv' := [(0, .ref 113), (1, .int x1)]) (st' := [.int x1]) (h' := hp M) rfl ?_
  refine am_Y.br (c := x1 < (0 : Int32)) _ (t := 31) (u := 4) (lv' := [(0, .ref 113), (1, .int x1)]) (st' := []) (h' := hp M) rfl (fun hc => ?_) (fun hc => ?_)
  · replace h := (if_pos hc).symm.trans h
    refine am_Y.run (k := 1) (pc' := 32) (lv' := [(0, .ref 113), (1, .int x1)]) (st' := [.int (0 : Int32)]) (h' := hp M) rfl ?_
    obtain rfl := Option.some.inj h
    exact am_Y.ret rfl
  · replace h := (if_neg hc).symm.trans h
    refine am_Y.run (k := 3) (pc' := 9) (lv' := [(0, .ref 113), (1, .int x1)]) (st' := [.int (gi M 113 3), .int x1]) (h' := hp M) rfl ?_
    refine am_Y.br (c := (gi M 113 3) ≤ x1) _ (t := 31) (u := 12) (lv' := [(0, .ref 113), (1, .int x1)]) (st' := []) (h' := hp M) rfl (fun hc => ?_) (fun hc => ?_)
    · replace h := (if_pos hc).symm.trans h
      refine am_Y.run (k := 1) (pc' := 32) (lv' := [(0, .ref 113), (1, .int x1)]) (st' := [.int (0 : Int32)]) (h' := hp M) rfl ?_
      obtain rfl := Option.some.inj h
      exact am_Y.ret rfl
    · replace h := (if_neg hc).symm.trans h
      refine am_Y.run (k := 2) (pc' := 16) (lv' := [(0, .ref 113), (1, .int x1)]) (st' := [.int (300 : Int32), .int x1]) (h' := hp M) rfl ?_
      refine am_Y.br (c := (300 : Int32) ≤ x1) _ (t := 31) (u := 19) (lv' := [(0, .ref 113), (1, .int x1)]) (st' := []) (h' := hp M) rfl (fun hc => ?_) (fun hc => ?_)
      · replace h := (if_pos hc).symm.trans h
        refine am_Y.run (k := 1) (pc' := 32) (lv' := [(0, .ref 113), (1, .int x1)]) (st' := [.int (0 : Int32)]) (h' := hp M) rfl ?_
        obtain rfl := Option.some.inj h
        exact am_Y.ret rfl
      · replace h := (if_neg hc).symm.trans h
        refine am_Y.run (k := 3) (pc' := 24) (lv' := [(0, .ref 113), (1, .int x1)]) (st' := [.int x1, .ref (113 + 1)]) (h' := hp M) rfl ?_
        obtain ⟨g, h⟩ := am_itg h
        refine am_Y.iald (a := 109) (n := 300) rfl rfl g ?_
        refine am_Y.run (k := 3) (pc' := 32) (lv' := [(0, .ref 113), (1, .int x1)]) (st' := [.int ((gi M (113 + 1) (x1).toNatClampNeg) >>> (6 : Int32))]) (h' := hp M) rfl ?_
        obtain rfl := Option.some.inj h
        exact am_Y.ret rfl
set_option maxRecDepth 100000 in
theorem t_p_argumentAt_a_117 {S : Nat × (Nat → Int32)} (x1 : Int32) (M : Mem) (r : Int32) (h : f_p_argumentAt_a 117 x1 M = some r) : am_Y S 0 0 0 am_M291 0 [(0, .ref 117), (1, .int x1)] [] (hp M) (some (.int r)) (hp M) := by
  rw [f_p_argumentAt_a] at h
  refine am_Y.run (k := 1) (pc' := 1) (lv' := [(0, .ref 117), (1, .int x1)]) (st' := [.int x1]) (h' := hp M) rfl ?_
  refine am_Y.br (c := x1 < (0 : Int32)) _ (t := 31) (u := 4) (lv' := [(0, .ref 117), (1, .int x1)]) (st' := []) (h' := hp M) rfl (fun hc => ?_) (fun hc => ?_)
  · replace h := (if_pos hc).symm.trans h
    refine am_Y.run (k := 1) (pc' := 32) (lv' := [(0, .ref 117), (1, .int x1)]) (st' := [.int (0 : Int32)]) (h' := hp M) rfl ?_
    obtain rfl := Option.some.inj h
    exact am_Y.ret rfl
  · replace h := (if_neg hc).symm.trans h
    refine am_Y.run (k := 3) (pc' := 9) (lv' := [(0, .ref 117), (1, .int x1)]) (st' := [.int (gi M 117 3), .int x1]) (h' := hp M) rfl ?_
    refine am_Y.br (c := (gi M 117 3) ≤ x1) _ (t := 31) (u := 12) (lv' := [(0, .ref 117), (1, .int x1)]) (st' := []) (h' := hp M) rfl (fun hc => ?_) (fun hc => ?_)
    · replace h := (if_pos hc).symm.trans h
      refine am_Y.run (k := 1) (pc' := 32) (lv' := [(0, .ref 117), (1, .int x1)]) (st' := [.int (0 : Int32)]) (h' := hp M) rfl ?_
      obtain rfl := Option.some.inj h
      exact am_Y.ret rfl
    · replace h := (if_neg hc).symm.trans h
      refine am_Y.run (k := 2) (pc' := 16) (lv' := [(0, .ref 117), (1, .int x1)]) (st' := [.int (300 : Int32), .int x1]) (h' := hp M) rfl ?_
      refine am_Y.br (c := (300 : Int32) ≤ x1) _ (t := 31) (u := 19) (lv' := [(0, .ref 117), (1, .int x1)]) (st' := []) (h' := hp M) rfl (fun hc => ?_) (fun hc => ?_)
      · replace h := (if_pos hc).symm.trans h
        refine am_Y.run (k := 1) (pc' := 32) (lv' := [(0, .ref 117), (1, .int x1)]) (st' := [.int (0 : Int32)]) (h' := hp M) rfl ?_
        obtain rfl := Option.some.inj h
        exact am_Y.ret rfl
      · replace h := (if_neg hc).symm.trans h
        refine am_Y.run (k := 3) (pc' := 24) (lv' := [(0, .ref 117), (1, .int x1)]) (st' := [.int x1, .ref (117 + 1)]) (h' := hp M) rfl ?_
        obtain ⟨g, h⟩ := am_itg h
        refine am_Y.iald (a := 113) (n := 300) rfl rfl g ?_
        refine am_Y.run (k := 3) (pc' := 32) (lv' := [(0, .ref 117), (1, .int x1)]) (st' := [.int ((gi M (117 + 1) (x1).toNatClampNeg) >>> (6 : Int32))]) (h' := hp M) rfl ?_
        obtain rfl := Option.some.inj h
        exact am_Y.ret rfl
set_option maxRecDepth 100000 in
theorem t_p_argumentAt_a_121 {S : Nat × (Nat → Int32)} (x1 : Int32) (M : Mem) (r : Int32) (h : f_p_argumentAt_a 121 x1 M = some r) : am_Y S 0 0 0 am_M291 0 [(0, .ref 121), (1, .int x1)] [] (hp M) (some (.int r)) (hp M) := by
  rw [f_p_argumentAt_a] at h
  refine am_Y.run (k := 1) (pc' := 1) (lv' := [(0, .ref 121), (1, .int x1)]) (st' := [.int x1]) (h' := hp M) rfl ?_
  refine am_Y.br (c := x1 < (0 : Int32)) _ (t := 31) (u := 4) (lv' := [(0, .ref 121), (1, .int x1)]) (st' := []) (h' := hp M) rfl (fun hc => ?_) (fun hc => ?_)
  · replace h := (if_pos hc).symm.trans h
    refine am_Y.run (k := 1) (pc' := 32) (lv' := [(0, .ref 121), (1, .int x1)]) (st' := [.int (0 : Int32)]) (h' := hp M) rfl ?_
    obtain rfl := Option.some.inj h
    exact am_Y.ret rfl
  · replace h := (if_neg hc).symm.trans h
    refine am_Y.run (k := 3) (pc' := 9) (lv' := [(0, .ref 121), (1, .int x1)]) (st' := [.int (gi M 121 3), .int x1]) (h' := hp M) rfl ?_
    refine am_Y.br (c := (gi M 121 3) ≤ x1) _ (t := 31) (u := 12) (lv' := [(0, .ref 121), (1, .int x1)]) (st' := []) (h' := hp M) rfl (fun hc => ?_) (fun hc => ?_)
    · replace h := (if_pos hc).symm.trans h
      refine am_Y.run (k := 1) (pc' := 32) (lv' := [(0, .ref 121), (1, .int x1)]) (st' := [.int (0 : Int32)]) (h' := hp M) rfl ?_
      obtain rfl := Option.some.inj h
      exact am_Y.ret rfl
    · replace h := (if_neg hc).symm.trans h
      refine am_Y.run (k := 2) (pc' := 16) (lv' := [(0, .ref 121), (1, .int x1)]) (st' := [.int (300 : Int32), .int x1]) (h' := hp M) rfl ?_
      refine am_Y.br (c := (300 : Int32) ≤ x1) _ (t := 31) (u := 19) (lv' := [(0, .ref 121), (1, .int x1)]) (st' := []) (h' := hp M) rfl (fun hc => ?_) (fun hc => ?_)
      · replace h := (if_pos hc).symm.trans h
        refine am_Y.run (k := 1) (pc' := 32) (lv' := [(0, .ref 121), (1, .int x1)]) (st' := [.int (0 : Int32)]) (h' := hp M) rfl ?_
        obtain rfl := Option.some.inj h
        exact am_Y.ret rfl
      · replace h := (if_neg hc).symm.trans h
        refine am_Y.run (k := 3) (pc' := 24) (lv' := [(0, .ref 121), (1, .int x1)]) (st' := [.int x1, .ref (121 + 1)]) (h' := hp M) rfl ?_
        obtain ⟨g, h⟩ := am_itg h
        refine am_Y.iald (a := 117) (n := 300) rfl rfl g ?_
        refine am_Y.run (k := 3) (pc' := 32) (lv' := [(0, .ref 121), (1, .int x1)]) (st' := [.int ((gi M (121 + 1) (x1).toNatClampNeg) >>> (6 : Int32))]) (h' := hp M) rfl ?_
        obtain rfl := Option.some.inj h
        exact am_Y.ret rfl
set_option maxRecDepth 100000 in
theorem t_p_argumentAt_a_125 {S : Nat × (Nat → Int32)} (x1 : Int32) (M : Mem) (r : Int32) (h : f_p_argumentAt_a 125 x1 M = some r) : am_Y S 0 0 0 am_M291 0 [(0, .ref 125), (1, .int x1)] [] (hp M) (some (.int r)) (hp M) := by
  rw [f_p_argumentAt_a] at h
  refine am_Y.run (k := 1) (pc' := 1) (lv' := [(0, .ref 125), (1, .int x1)]) (st' := [.int x1]) (h' := hp M) rfl ?_
  refine am_Y.br (c := x1 < (0 : Int32)) _ (t := 31) (u := 4) (lv' := [(0, .ref 125), (1, .int x1)]) (st' := []) (h' := hp M) rfl (fun hc => ?_) (fun hc => ?_)
  · replace h := (if_pos hc).symm.trans h
    refine am_Y.run (k := 1) (pc' := 32) (lv' := [(0, .ref 125), (1, .int x1)]) (st' := [.int (0 : Int32)]) (h' := hp M) rfl ?_
    obtain rfl := Option.some.inj h
    exact am_Y.ret rfl
  · replace h := (if_neg hc).symm.trans h
    refine am_Y.run (k := 3) (pc' := 9) (lv' := [(0, .ref 125), (1, .int x1)]) (st' := [.int (gi M 125 3), .int x1]) (h' := hp M) rfl ?_
    refine am_Y.br (c := (gi M 125 3) ≤ x1) _ (t := 31) (u := 12) (lv' := [(0, .ref 125), (1, .int x1)]) (st' := []) (h' := hp M) rfl (fun hc => ?_) (fun hc => ?_)
    · replace h := (if_pos hc).symm.trans h
      refine am_Y.run (k := 1) (pc' := 32) (lv' := [(0, .ref 125), (1, .int x1)]) (st' := [.int (0 : Int32)]) (h' := hp M) rfl ?_
      obtain rfl := Option.some.inj h
      exact am_Y.ret rfl
    · replace h := (if_neg hc).symm.trans h
      refine am_Y.run (k := 2) (pc' := 16) (lv' := [(0, .ref 125), (1, .int x1)]) (st' := [.int (300 : Int32), .int x1]) (h' := hp M) rfl ?_
      refine am_Y.br (c := (300 : Int32) ≤ x1) _ (t := 31) (u := 19) (lv' := [(0, .ref 125), (1, .int x1)]) (st' := []) (h' := hp M) rfl (fun hc => ?_) (fun hc => ?_)
      · replace h := (if_pos hc).symm.trans h
        refine am_Y.run (k := 1) (pc' := 32) (lv' := [(0, .ref 125), (1, .int x1)]) (st' := [.int (0 : Int32)]) (h' := hp M) rfl ?_
        obtain rfl := Option.some.inj h
        exact am_Y.ret rfl
      · replace h := (if_neg hc).symm.trans h
        refine am_Y.run (k := 3) (pc' := 24) (lv' := [(0, .ref 125), (1, .int x1)]) (st' := [.int x1, .ref (125 + 1)]) (h' := hp M) rfl ?_
        obtain ⟨g, h⟩ := am_itg h
        refine am_Y.iald (a := 121) (n := 300) rfl rfl g ?_
        refine am_Y.run (k := 3) (pc' := 32) (lv' := [(0, .ref 125), (1, .int x1)]) (st' := [.int ((gi M (125 + 1) (x1).toNatClampNeg) >>> (6 : Int32))]) (h' := hp M) rfl ?_
        obtain rfl := Option.some.inj h
        exact am_Y.ret rfl
set_option maxRecDepth 100000 in
theorem t_l_push {S : Nat × (Nat → Int32)} (x1 : Int32) (M : Mem) (M' : Mem) (h : f_l_push x1 M = some M') : am_Y S 0 0 0 am_M316 0 [(0, .ref 108), (1, .int x1)] [] (hp M) none (hp M') := by
  rw [f_l_push] at h
  refine am_Y.run (k := 2) (pc' := 4) (lv' := [(0, .ref 108), (1, .int x1)]) (st' := [.int (gi M 108 2)]) (h' := hp M) rfl ?_
  refine am_Y.br (c := (gi M 108 2) < (0 : Int32)) _ (t := 36) (u := 7) (lv' := [(0, .ref 108), (1, .int x1)]) (st' := []) (h' := hp M) rfl (fun hc => ?_) (fun hc => ?_)
  · replace h := (if_pos hc).symm.trans h
    obtain rfl := Option.some.inj h
    exact am_Y.ret rfl
  · replace h := (if_neg hc).symm.trans h
    refine am_Y.run (k := 3) (pc' := 13) (lv' := [(0, .ref 108), (1, .int x1)]) (st' := [.int (64 : Int32), .int (gi M 108 2)]) (h' := hp M) rfl ?_
    refine am_Y.br (c := (64 : Int32) ≤ (gi M 108 2)) _ (t := 36) (u := 16) (lv' := [(0, .ref 108), (1, .int x1)]) (st' := []) (h' := hp M) rfl (fun hc => ?_) (fun hc => ?_)
    · replace h := (if_pos hc).symm.trans h
      obtain rfl := Option.some.inj h
      exact am_Y.ret rfl
    · replace h := (if_neg hc).symm.trans h
      refine am_Y.run (k := 5) (pc' := 25) (lv' := [(0, .ref 108), (1, .int x1)]) (st' := [.int x1, .int (gi M 108 2), .ref 110]) (h' := hp M) rfl ?_
      obtain ⟨g, h⟩ := am_itg h
      refine am_Y.iast (a := 105) (n := 64) rfl rfl g ?_
      refine am_Y.run (k := 0) (pc' := _) (lv' := [(0, .ref 108), (1, .int x1)]) (st' := []) (h' := hp (si M 110 ((gi M 108 2)).toNatClampNeg x1)) rfl ?_
      obtain ⟨q1, e_q1, h⟩ := Option.bind_eq_some_iff.mp h
      rw [Option.some.inj e_q1]
      refine am_Y.run (k := 6) (pc' := 36) (lv' := [(0, .ref 108), (1, .int x1)]) (st' := []) (h' := hp (si q1 108 2 ((gi q1 108 2) + (1 : Int32)))) rfl ?_
      obtain ⟨q2, e_q2, h⟩ := Option.bind_eq_some_iff.mp h
      rw [Option.some.inj e_q2]
      obtain rfl := Option.some.inj h
      exact am_Y.ret rfl
set_option maxRecDepth 100000 in
theorem t_l_behindCase_113 {S : Nat × (Nat → Int32)} (x2 : Int32) (M : Mem) (r : Int32) (M' : Mem) (h : f_l_behindCase 113 x2 M = some (r, M')) : am_Y S 1 0 0 am_M292 0 [(0, .ref 108), (1, .ref 113), (2, .int x2)] [] (hp M) (some (.int r)) (hp M') := by
  rw [f_l_behindCase] at h
  refine am_Y.run (k := 1) (pc' := 1) (lv' := [(0, .ref 108), (1, .ref 113), (2, .int x2)]) (st' := [.ref 108]) (h' := hp M) rfl ?_
  obtain ⟨q1, e_q1, h⟩ := Option.bind_eq_some_iff.mp h
  refine am_Y.call0 (M' := am_M294) (as := [.ref 108]) (rest := []) (d' := 0) rfl (by omega) rfl rfl (t_l_pop M q1.1 q1.2 e_q1) ?_
  refine am_Y.run (k := 4) (pc' := 8) (lv' := [(3, .int q1.1), (0, .ref 108), (1, .ref 113), (2, .int x2)]) (st' := [.int x2, .ref 113, .int q1.1]) (h' := hp q1.2) rfl ?_
  obtain ⟨q2, e_q2, h⟩ := Option.bind_eq_some_iff.mp h
  refine am_Y.call0 (M' := am_M291) (as := [.ref 113, .int x2]) (rest := [.int q1.1]) (d' := 0) rfl (by omega) rfl rfl (t_p_argumentAt_a_113 x2 q1.2 q2 e_q2) ?_
  refine am_Y.run (k := 4) (pc' := 15) (lv' := [(3, .int q1.1), (0, .ref 108), (1, .ref 113), (2, .int x2)]) (st' := [.int (x2 + (1 : Int32)), .ref 113, .int q2, .int q1.1]) (h' := hp q1.2) rfl ?_
  obtain ⟨q3, e_q3, h⟩ := Option.bind_eq_some_iff.mp h
  refine am_Y.call0 (M' := am_M291) (as := [.ref 113, .int (x2 + (1 : Int32))]) (rest := [.int q2, .int q1.1]) (d' := 0) rfl (by omega) rfl rfl (t_p_argumentAt_a_113 (x2 + (1 : Int32)) q1.2 q3 e_q3) ?_
  refine am_Y.call0 (M' := am_M102) (as := [.int q1.1, .int q2, .int q3]) (rest := []) (d' := 0) rfl (by omega) rfl rfl (t_w_within q1.1 q2 q3 q1.2 _ rfl) ?_
  refine am_Y.br (c := (f_w_within q1.1 q2 q3 q1.2) = (0 : Int32)) _ (t := 28) (u := 24) (lv' := [(3, .int q1.1), (0, .ref 108), (1, .ref 113), (2, .int x2)]) (st' := []) (h' := hp q1.2) rfl (fun hc => ?_) (fun hc => ?_)
  · replace h := (if_pos hc).symm.trans h
    refine am_Y.run (k := 2) (pc' := 30) (lv' := [(3, .int q1.1), (0, .ref 108), (1, .ref 113), (2, .int x2)]) (st' := [.int q1.1, .ref 108]) (h' := hp q1.2) rfl ?_
    obtain ⟨q4, e_q4, h⟩ := Option.bind_eq_some_iff.mp h
    refine am_Y.call0 (M' := am_M316) (as := [.ref 108, .int q1.1]) (rest := []) (d' := 0) rfl (by omega) rfl rfl (t_l_push q1.1 q1.2 q4 e_q4) ?_
    refine am_Y.run (k := 4) (pc' := 37) (lv' := [(3, .int q1.1), (0, .ref 108), (1, .ref 113), (2, .int x2)]) (st' := [.int (x2 + (2 : Int32)), .ref 113]) (h' := hp q4) rfl ?_
    obtain ⟨q5, e_q5, h⟩ := Option.bind_eq_some_iff.mp h
    refine am_Y.call0 (M' := am_M291) (as := [.ref 113, .int (x2 + (2 : Int32))]) (rest := []) (d' := 0) rfl (by omega) rfl rfl (t_p_argumentAt_a_113 (x2 + (2 : Int32)) q4 q5 e_q5) ?_
    obtain ⟨rfl, rfl⟩ := Prod.mk.inj (Option.some.inj h)
    exact am_Y.ret rfl
  · replace h := (if_neg hc).symm.trans h
    refine am_Y.run (k := 3) (pc' := 27) (lv' := [(3, .int q1.1), (0, .ref 108), (1, .ref 113), (2, .int x2)]) (st' := [.int (x2 + (3 : Int32))]) (h' := hp q1.2) rfl ?_
    obtain ⟨rfl, rfl⟩ := Prod.mk.inj (Option.some.inj h)
    exact am_Y.ret rfl
set_option maxRecDepth 100000 in
theorem t_l_behindCase_117 {S : Nat × (Nat → Int32)} (x2 : Int32) (M : Mem) (r : Int32) (M' : Mem) (h : f_l_behindCase 117 x2 M = some (r, M')) : am_Y S 1 0 0 am_M292 0 [(0, .ref 108), (1, .ref 117), (2, .int x2)] [] (hp M) (some (.int r)) (hp M') := by
  rw [f_l_behindCase] at h
  refine am_Y.run (k := 1) (pc' := 1) (lv' := [(0, .ref 108), (1, .ref 117), (2, .int x2)]) (st' := [.ref 108]) (h' := hp M) rfl ?_
  obtain ⟨q1, e_q1, h⟩ := Option.bind_eq_some_iff.mp h
  refine am_Y.call0 (M' := am_M294) (as := [.ref 108]) (rest := []) (d' := 0) rfl (by omega) rfl rfl (t_l_pop M q1.1 q1.2 e_q1) ?_
  refine am_Y.run (k := 4) (pc' := 8) (lv' := [(3, .int q1.1), (0, .ref 108), (1, .ref 117), (2, .int x2)]) (st' := [.int x2, .ref 117, .int q1.1]) (h' := hp q1.2) rfl ?_
  obtain ⟨q2, e_q2, h⟩ := Option.bind_eq_some_iff.mp h
  refine am_Y.call0 (M' := am_M291) (as := [.ref 117, .int x2]) (rest := [.int q1.1]) (d' := 0) rfl (by omega) rfl rfl (t_p_argumentAt_a_117 x2 q1.2 q2 e_q2) ?_
  refine am_Y.run (k := 4) (pc' := 15) (lv' := [(3, .int q1.1), (0, .ref 108), (1, .ref 117), (2, .int x2)]) (st' := [.int (x2 + (1 : Int32)), .ref 117, .int q2, .int q1.1]) (h' := hp q1.2) rfl ?_
  obtain ⟨q3, e_q3, h⟩ := Option.bind_eq_some_iff.mp h
  refine am_Y.call0 (M' := am_M291) (as := [.ref 117, .int (x2 + (1 : Int32))]) (rest := [.int q2, .int q1.1]) (d' := 0) rfl (by omega) rfl rfl (t_p_argumentAt_a_117 (x2 + (1 : Int32)) q1.2 q3 e_q3) ?_
  refine am_Y.call0 (M' := am_M102) (as := [.int q1.1, .int q2, .int q3]) (rest := []) (d' := 0) rfl (by omega) rfl rfl (t_w_within q1.1 q2 q3 q1.2 _ rfl) ?_
  refine am_Y.br (c := (f_w_within q1.1 q2 q3 q1.2) = (0 : Int32)) _ (t := 28) (u := 24) (lv' := [(3, .int q1.1), (0, .ref 108), (1, .ref 117), (2, .int x2)]) (st' := []) (h' := hp q1.2) rfl (fun hc => ?_) (fun hc => ?_)
  · replace h := (if_pos hc).symm.trans h
    refine am_Y.run (k := 2) (pc' := 30) (lv' := [(3, .int q1.1), (0, .ref 108), (1, .ref 117), (2, .int x2)]) (st' := [.int q1.1, .ref 108]) (h' := hp q1.2) rfl ?_
    obtain ⟨q4, e_q4, h⟩ := Option.bind_eq_some_iff.mp h
    refine am_Y.call0 (M' := am_M316) (as := [.ref 108, .int q1.1]) (rest := []) (d' := 0) rfl (by omega) rfl rfl (t_l_push q1.1 q1.2 q4 e_q4) ?_
    refine am_Y.run (k := 4) (pc' := 37) (lv' := [(3, .int q1.1), (0, .ref 108), (1, .ref 117), (2, .int x2)]) (st' := [.int (x2 + (2 : Int32)), .ref 117]) (h' := hp q4) rfl ?_
    obtain ⟨q5, e_q5, h⟩ := Option.bind_eq_some_iff.mp h
    refine am_Y.call0 (M' := am_M291) (as := [.ref 117, .int (x2 + (2 : Int32))]) (rest := []) (d' := 0) rfl (by omega) rfl rfl (t_p_argumentAt_a_117 (x2 + (2 : Int32)) q4 q5 e_q5) ?_
    obtain ⟨rfl, rfl⟩ := Prod.mk.inj (Option.some.inj h)
    exact am_Y.ret rfl
  · replace h := (if_neg hc).symm.trans h
    refine am_Y.run (k := 3) (pc' := 27) (lv' := [(3, .int q1.1), (0, .ref 108), (1, .ref 117), (2, .int x2)]) (st' := [.int (x2 + (3 : Int32))]) (h' := hp q1.2) rfl ?_
    obtain ⟨rfl, rfl⟩ := Prod.mk.inj (Option.some.inj h)
    exact am_Y.ret rfl
set_option maxRecDepth 100000 in
theorem t_l_behindCase_121 {S : Nat × (Nat → Int32)} (x2 : Int32) (M : Mem) (r : Int32) (M' : Mem) (h : f_l_behindCase 121 x2 M = some (r, M')) : am_Y S 1 0 0 am_M292 0 [(0, .ref 108), (1, .ref 121), (2, .int x2)] [] (hp M) (some (.int r)) (hp M') := by
  rw [f_l_behindCase] at h
  refine am_Y.run (k := 1) (pc' := 1) (lv' := [(0, .ref 108), (1, .ref 121), (2, .int x2)]) (st' := [.ref 108]) (h' := hp M) rfl ?_
  obtain ⟨q1, e_q1, h⟩ := Option.bind_eq_some_iff.mp h
  refine am_Y.call0 (M' := am_M294) (as := [.ref 108]) (rest := []) (d' := 0) rfl (by omega) rfl rfl (t_l_pop M q1.1 q1.2 e_q1) ?_
  refine am_Y.run (k := 4) (pc' := 8) (lv' := [(3, .int q1.1), (0, .ref 108), (1, .ref 121), (2, .int x2)]) (st' := [.int x2, .ref 121, .int q1.1]) (h' := hp q1.2) rfl ?_
  obtain ⟨q2, e_q2, h⟩ := Option.bind_eq_some_iff.mp h
  refine am_Y.call0 (M' := am_M291) (as := [.ref 121, .int x2]) (rest := [.int q1.1]) (d' := 0) rfl (by omega) rfl rfl (t_p_argumentAt_a_121 x2 q1.2 q2 e_q2) ?_
  refine am_Y.run (k := 4) (pc' := 15) (lv' := [(3, .int q1.1), (0, .ref 108), (1, .ref 121), (2, .int x2)]) (st' := [.int (x2 + (1 : Int32)), .ref 121, .int q2, .int q1.1]) (h' := hp q1.2) rfl ?_
  obtain ⟨q3, e_q3, h⟩ := Option.bind_eq_some_iff.mp h
  refine am_Y.call0 (M' := am_M291) (as := [.ref 121, .int (x2 + (1 : Int32))]) (rest := [.int q2, .int q1.1]) (d' := 0) rfl (by omega) rfl rfl (t_p_argumentAt_a_121 (x2 + (1 : Int32)) q1.2 q3 e_q3) ?_
  refine am_Y.call0 (M' := am_M102) (as := [.int q1.1, .int q2, .int q3]) (rest := []) (d' := 0) rfl (by omega) rfl rfl (t_w_within q1.1 q2 q3 q1.2 _ rfl) ?_
  refine am_Y.br (c := (f_w_within q1.1 q2 q3 q1.2) = (0 : Int32)) _ (t := 28) (u := 24) (lv' := [(3, .int q1.1), (0, .ref 108), (1, .ref 121), (2, .int x2)]) (st' := []) (h' := hp q1.2) rfl (fun hc => ?_) (fun hc => ?_)
  · replace h := (if_pos hc).symm.trans h
    refine am_Y.run (k := 2) (pc' := 30) (lv' := [(3, .int q1.1), (0, .ref 108), (1, .ref 121), (2, .int x2)]) (st' := [.int q1.1, .ref 108]) (h' := hp q1.2) rfl ?_
    obtain ⟨q4, e_q4, h⟩ := Option.bind_eq_some_iff.mp h
    refine am_Y.call0 (M' := am_M316) (as := [.ref 108, .int q1.1]) (rest := []) (d' := 0) rfl (by omega) rfl rfl (t_l_push q1.1 q1.2 q4 e_q4) ?_
    refine am_Y.run (k := 4) (pc' := 37) (lv' := [(3, .int q1.1), (0, .ref 108), (1, .ref 121), (2, .int x2)]) (st' := [.int (x2 + (2 : Int32)), .ref 121]) (h' := hp q4) rfl ?_
    obtain ⟨q5, e_q5, h⟩ := Option.bind_eq_some_iff.mp h
    refine am_Y.call0 (M' := am_M291) (as := [.ref 121, .int (x2 + (2 : Int32))]) (rest := []) (d' := 0) rfl (by omega) rfl rfl (t_p_argumentAt_a_121 (x2 + (2 : Int32)) q4 q5 e_q5) ?_
    obtain ⟨rfl, rfl⟩ := Prod.mk.inj (Option.some.inj h)
    exact am_Y.ret rfl
  · replace h := (if_neg hc).symm.trans h
    refine am_Y.run (k := 3) (pc' := 27) (lv' := [(3, .int q1.1), (0, .ref 108), (1, .ref 121), (2, .int x2)]) (st' := [.int (x2 + (3 : Int32))]) (h' := hp q1.2) rfl ?_
    obtain ⟨rfl, rfl⟩ := Prod.mk.inj (Option.some.inj h)
    exact am_Y.ret rfl
set_option maxRecDepth 100000 in
theorem t_l_behindCase_125 {S : Nat × (Nat → Int32)} (x2 : Int32) (M : Mem) (r : Int32) (M' : Mem) (h : f_l_behindCase 125 x2 M = some (r, M')) : am_Y S 1 0 0 am_M292 0 [(0, .ref 108), (1, .ref 125), (2, .int x2)] [] (hp M) (some (.int r)) (hp M') := by
  rw [f_l_behindCase] at h
  refine am_Y.run (k := 1) (pc' := 1) (lv' := [(0, .ref 108), (1, .ref 125), (2, .int x2)]) (st' := [.ref 108]) (h' := hp M) rfl ?_
  obtain ⟨q1, e_q1, h⟩ := Option.bind_eq_some_iff.mp h
  refine am_Y.call0 (M' := am_M294) (as := [.ref 108]) (rest := []) (d' := 0) rfl (by omega) rfl rfl (t_l_pop M q1.1 q1.2 e_q1) ?_
  refine am_Y.run (k := 4) (pc' := 8) (lv' := [(3, .int q1.1), (0, .ref 108), (1, .ref 125), (2, .int x2)]) (st' := [.int x2, .ref 125, .int q1.1]) (h' := hp q1.2) rfl ?_
  obtain ⟨q2, e_q2, h⟩ := Option.bind_eq_some_iff.mp h
  refine am_Y.call0 (M' := am_M291) (as := [.ref 125, .int x2]) (rest := [.int q1.1]) (d' := 0) rfl (by omega) rfl rfl (t_p_argumentAt_a_125 x2 q1.2 q2 e_q2) ?_
  refine am_Y.run (k := 4) (pc' := 15) (lv' := [(3, .int q1.1), (0, .ref 108), (1, .ref 125), (2, .int x2)]) (st' := [.int (x2 + (1 : Int32)), .ref 125, .int q2, .int q1.1]) (h' := hp q1.2) rfl ?_
  obtain ⟨q3, e_q3, h⟩ := Option.bind_eq_some_iff.mp h
  refine am_Y.call0 (M' := am_M291) (as := [.ref 125, .int (x2 + (1 : Int32))]) (rest := [.int q2, .int q1.1]) (d' := 0) rfl (by omega) rfl rfl (t_p_argumentAt_a_125 (x2 + (1 : Int32)) q1.2 q3 e_q3) ?_
  refine am_Y.call0 (M' := am_M102) (as := [.int q1.1, .int q2, .int q3]) (rest := []) (d' := 0) rfl (by omega) rfl rfl (t_w_within q1.1 q2 q3 q1.2 _ rfl) ?_
  refine am_Y.br (c := (f_w_within q1.1 q2 q3 q1.2) = (0 : Int32)) _ (t := 28) (u := 24) (lv' := [(3, .int q1.1), (0, .ref 108), (1, .ref 125), (2, .int x2)]) (st' := []) (h' := hp q1.2) rfl (fun hc => ?_) (fun hc => ?_)
  · replace h := (if_pos hc).symm.trans h
    refine am_Y.run (k := 2) (pc' := 30) (lv' := [(3, .int q1.1), (0, .ref 108), (1, .ref 125), (2, .int x2)]) (st' := [.int q1.1, .ref 108]) (h' := hp q1.2) rfl ?_
    obtain ⟨q4, e_q4, h⟩ := Option.bind_eq_some_iff.mp h
    refine am_Y.call0 (M' := am_M316) (as := [.ref 108, .int q1.1]) (rest := []) (d' := 0) rfl (by omega) rfl rfl (t_l_push q1.1 q1.2 q4 e_q4) ?_
    refine am_Y.run (k := 4) (pc' := 37) (lv' := [(3, .int q1.1), (0, .ref 108), (1, .ref 125), (2, .int x2)]) (st' := [.int (x2 + (2 : Int32)), .ref 125]) (h' := hp q4) rfl ?_
    obtain ⟨q5, e_q5, h⟩ := Option.bind_eq_some_iff.mp h
    refine am_Y.call0 (M' := am_M291) (as := [.ref 125, .int (x2 + (2 : Int32))]) (rest := []) (d' := 0) rfl (by omega) rfl rfl (t_p_argumentAt_a_125 (x2 + (2 : Int32)) q4 q5 e_q5) ?_
    obtain ⟨rfl, rfl⟩ := Prod.mk.inj (Option.some.inj h)
    exact am_Y.ret rfl
  · replace h := (if_neg hc).symm.trans h
    refine am_Y.run (k := 3) (pc' := 27) (lv' := [(3, .int q1.1), (0, .ref 108), (1, .ref 125), (2, .int x2)]) (st' := [.int (x2 + (3 : Int32))]) (h' := hp q1.2) rfl ?_
    obtain ⟨rfl, rfl⟩ := Prod.mk.inj (Option.some.inj h)
    exact am_Y.ret rfl
set_option maxRecDepth 100000 in
theorem t_l_compared {S : Nat × (Nat → Int32)} (x0 : Int32) (x1 : Int32) (x2 : Int32) (M : Mem) (r : Int32) (h : f_l_compared x0 x1 x2 M = r) : am_Y S 0 0 0 am_M317 0 [(0, .int x0), (1, .int x1), (2, .int x2)] [] (hp M) (some (.int r)) (hp M) := by
  rw [f_l_compared] at h
  refine am_Y.run (k := 1) (pc' := 1) (lv' := [(0, .int x0), (1, .int x1), (2, .int x2)]) (st' := [.int x0]) (h' := hp M) rfl ?_
  by_cases hc24 : x0 = (24 : Int32)
  · replace h := (if_pos hc24).symm.trans h
    refine am_Y.one (pc' := 178) (lv' := [(0, .int x0), (1, .int x1), (2, .int x2)]) (st' := []) (h' := hp M) (am_swc hc24 rfl) ?_
    refine am_Y.run (k := 3) (pc' := 181) (lv' := [(0, .int x0), (1, .int x1), (2, .int x2)]) (st' := [.int (x1 ||| x2)]) (h' := hp M) rfl ?_
    subst h
    exact am_Y.ret rfl
  replace h := (if_neg hc24).symm.trans h
  by_cases hc34 : x0 = (34 : Int32)
  · replace h := (if_pos hc34).symm.trans h
    refine am_Y.one (pc' := 112) (lv' := [(0, .int x0), (1, .int x1), (2, .int x2)]) (st' := []) (h' := hp M) (am_swc hc34 rfl) ?_
    refine am_Y.run (k := 2) (pc' := 114) (lv' := [(0, .int x0), (1, .int x1), (2, .int x2)]) (st' := [.int x2, .int x1]) (h' := hp M) rfl ?_
    refine am_Y.br (c := x2 ≤ x1) _ (t := 121) (u := 117) (lv' := [(0, .int x0), (1, .int x1), (2, .int x2)]) (st' := []) (h' := hp M) rfl (fun hc => ?_) (fun hc => ?_)
    · replace h := (if_pos hc).symm.trans h
      refine am_Y.run (k := 1) (pc' := 122) (lv' := [(0, .int x0), (1, .int x1), (2, .int x2)]) (st' := [.int (0 : Int32)]) (h' := hp M) rfl ?_
      subst h
      exact am_Y.ret rfl
    · replace h := (if_neg hc).symm.trans h
      refine am_Y.run (k := 2) (pc' := 122) (lv' := [(0, .int x0), (1, .int x1), (2, .int x2)]) (st' := [.int (1 : Int32)]) (h' := hp M) rfl ?_
      subst h
      exact am_Y.ret rfl
  replace h := (if_neg hc34).symm.trans h
  by_cases hc35 : x0 = (35 : Int32)
  · replace h := (if_pos hc35).symm.trans h
    refine am_Y.one (pc' := 123) (lv' := [(0, .int x0), (1, .int x1), (2, .int x2)]) (st' := []) (h' := hp M) (am_swc hc35 rfl) ?_
    refine am_Y.run (k := 2) (pc' := 125) (lv' := [(0, .int x0), (1, .int x1), (2, .int x2)]) (st' := [.int x2, .int x1]) (h' := hp M) rfl ?_
    refine am_Y.br (c := x1 ≤ x2) _ (t := 132) (u := 128) (lv' := [(0, .int x0), (1, .int x1), (2, .int x2)]) (st' := []) (h' := hp M) rfl (fun hc => ?_) (fun hc => ?_)
    · replace h := (if_pos hc).symm.trans h
      refine am_Y.run (k := 1) (pc' := 133) (lv' := [(0, .int x0), (1, .int x1), (2, .int x2)]) (st' := [.int (0 : Int32)]) (h' := hp M) rfl ?_
      subst h
      exact am_Y.ret rfl
    · replace h := (if_neg hc).symm.trans h
      refine am_Y.run (k := 2) (pc' := 133) (lv' := [(0, .int x0), (1, .int x1), (2, .int x2)]) (st' := [.int (1 : Int32)]) (h' := hp M) rfl ?_
      subst h
      exact am_Y.ret rfl
  replace h := (if_neg hc35).symm.trans h
  by_cases hc36 : x0 = (36 : Int32)
  · replace h := (if_pos hc36).symm.trans h
    refine am_Y.one (pc' := 134) (lv' := [(0, .int x0), (1, .int x1), (2, .int x2)]) (st' := []) (h' := hp M) (am_swc hc36 rfl) ?_
    refine am_Y.run (k := 2) (pc' := 136) (lv' := [(0, .int x0), (1, .int x1), (2, .int x2)]) (st' := [.int x2, .int x1]) (h' := hp M) rfl ?_
    refine am_Y.br (c := x1 = x2) _ (t := 139) (u := 143) (lv' := [(0, .int x0), (1, .int x1), (2, .int x2)]) (st' := []) (h' := hp M) rfl (fun hc => ?_) (fun hc => ?_)
    · replace h := (if_pos hc).symm.trans h
      refine am_Y.run (k := 2) (pc' := 144) (lv' := [(0, .int x0), (1, .int x1), (2, .int x2)]) (st' := [.int (1 : Int32)]) (h' := hp M) rfl ?_
      subst h
      exact am_Y.ret rfl
    · replace h := (if_neg hc).symm.trans h
      refine am_Y.run (k := 1) (pc' := 144) (lv' := [(0, .int x0), (1, .int x1), (2, .int x2)]) (st' := [.int (0 : Int32)]) (h' := hp M) rfl ?_
      subst h
      exact am_Y.ret rfl
  replace h := (if_neg hc36).symm.trans h
  by_cases hc37 : x0 = (37 : Int32)
  · replace h := (if_pos hc37).symm.trans h
    refine am_Y.one (pc' := 145) (lv' := [(0, .int x0), (1, .int x1), (2, .int x2)]) (st' := []) (h' := hp M) (am_swc hc37 rfl) ?_
    refine am_Y.run (k := 2) (pc' := 147) (lv' := [(0, .int x0), (1, .int x1), (2, .int x2)]) (st' := [.int x2, .int x1]) (h' := hp M) rfl ?_
    refine am_Y.br (c := x1 = x2) _ (t := 154) (u := 150) (lv' := [(0, .int x0), (1, .int x1), (2, .int x2)]) (st' := []) (h' := hp M) rfl (fun hc => ?_) (fun hc => ?_)
    · replace h := (if_pos hc).symm.trans h
      refine am_Y.run (k := 1) (pc' := 155) (lv' := [(0, .int x0), (1, .int x1), (2, .int x2)]) (st' := [.int (0 : Int32)]) (h' := hp M) rfl ?_
      subst h
      exact am_Y.ret rfl
    · replace h := (if_neg hc).symm.trans h
      refine am_Y.run (k := 2) (pc' := 155) (lv' := [(0, .int x0), (1, .int x1), (2, .int x2)]) (st' := [.int (1 : Int32)]) (h' := hp M) rfl ?_
      subst h
      exact am_Y.ret rfl
  replace h := (if_neg hc37).symm.trans h
  by_cases hc46 : x0 = (46 : Int32)
  · replace h := (if_pos hc46).symm.trans h
    refine am_Y.one (pc' := 156) (lv' := [(0, .int x0), (1, .int x1), (2, .int x2)]) (st' := []) (h' := hp M) (am_swc hc46 rfl) ?_
    refine am_Y.run (k := 2) (pc' := 158) (lv' := [(0, .int x0), (1, .int x1), (2, .int x2)]) (st' := [.int x2, .int x1]) (h' := hp M) rfl ?_
    refine am_Y.br (c := x2 < x1) _ (t := 165) (u := 161) (lv' := [(0, .int x0), (1, .int x1), (2, .int x2)]) (st' := []) (h' := hp M) rfl (fun hc => ?_) (fun hc => ?_)
    · replace h := (if_pos hc).symm.trans h
      refine am_Y.run (k := 1) (pc' := 166) (lv' := [(0, .int x0), (1, .int x1), (2, .int x2)]) (st' := [.int (0 : Int32)]) (h' := hp M) rfl ?_
      subst h
      exact am_Y.ret rfl
    · replace h := (if_neg hc).symm.trans h
      refine am_Y.run (k := 2) (pc' := 166) (lv' := [(0, .int x0), (1, .int x1), (2, .int x2)]) (st' := [.int (1 : Int32)]) (h' := hp M) rfl ?_
      subst h
      exact am_Y.ret rfl
  replace h := (if_neg hc46).symm.trans h
  by_cases hc47 : x0 = (47 : Int32)
  · replace h := (if_pos hc47).symm.trans h
    refine am_Y.one (pc' := 167) (lv' := [(0, .int x0), (1, .int x1), (2, .int x2)]) (st' := []) (h' := hp M) (am_swc hc47 rfl) ?_
    refine am_Y.run (k := 2) (pc' := 169) (lv' := [(0, .int x0), (1, .int x1), (2, .int x2)]) (st' := [.int x2, .int x1]) (h' := hp M) rfl ?_
    refine am_Y.br (c := x1 < x2) _ (t := 176) (u := 172) (lv' := [(0, .int x0), (1, .int x1), (2, .int x2)]) (st' := []) (h' := hp M) rfl (fun hc => ?_) (fun hc => ?_)
    · replace h := (if_pos hc).symm.trans h
      refine am_Y.run (k := 1) (pc' := 177) (lv' := [(0, .int x0), (1, .int x1), (2, .int x2)]) (st' := [.int (0 : Int32)]) (h' := hp M) rfl ?_
      subst h
      exact am_Y.ret rfl
    · replace h := (if_neg hc).symm.trans h
      refine am_Y.run (k := 2) (pc' := 177) (lv' := [(0, .int x0), (1, .int x1), (2, .int x2)]) (st' := [.int (1 : Int32)]) (h' := hp M) rfl ?_
      subst h
      exact am_Y.ret rfl
  replace h := (if_neg hc47).symm.trans h
  by_cases hc25 : x0 = (25 : Int32)
  · refine am_Y.one (pc' := 182) (lv' := [(0, .int x0), (1, .int x1), (2, .int x2)]) (st' := []) (h' := hp M) (am_swc hc25 rfl) ?_
    refine am_Y.run (k := 3) (pc' := 185) (lv' := [(0, .int x0), (1, .int x1), (2, .int x2)]) (st' := [.int (x1 &&& x2)]) (h' := hp M) rfl ?_
    subst h
    exact am_Y.ret rfl
  by_cases hc26 : x0 = (26 : Int32)
  · refine am_Y.one (pc' := 182) (lv' := [(0, .int x0), (1, .int x1), (2, .int x2)]) (st' := []) (h' := hp M) (am_swc hc26 rfl) ?_
    refine am_Y.run (k := 3) (pc' := 185) (lv' := [(0, .int x0), (1, .int x1), (2, .int x2)]) (st' := [.int (x1 &&& x2)]) (h' := hp M) rfl ?_
    subst h
    exact am_Y.ret rfl
  by_cases hc27 : x0 = (27 : Int32)
  · refine am_Y.one (pc' := 182) (lv' := [(0, .int x0), (1, .int x1), (2, .int x2)]) (st' := []) (h' := hp M) (am_swc hc27 rfl) ?_
    refine am_Y.run (k := 3) (pc' := 185) (lv' := [(0, .int x0), (1, .int x1), (2, .int x2)]) (st' := [.int (x1 &&& x2)]) (h' := hp M) rfl ?_
    subst h
    exact am_Y.ret rfl
  by_cases hc28 : x0 = (28 : Int32)
  · refine am_Y.one (pc' := 182) (lv' := [(0, .int x0), (1, .int x1), (2, .int x2)]) (st' := []) (h' := hp M) (am_swc hc28 rfl) ?_
    refine am_Y.run (k := 3) (pc' := 185) (lv' := [(0, .int x0), (1, .int x1), (2, .int x2)]) (st' := [.int (x1 &&& x2)]) (h' := hp M) rfl ?_
    subst h
    exact am_Y.ret rfl
  by_cases hc29 : x0 = (29 : Int32)
  · refine am_Y.one (pc' := 182) (lv' := [(0, .int x0), (1, .int x1), (2, .int x2)]) (st' := []) (h' := hp M) (am_swc hc29 rfl) ?_
    refine am_Y.run (k := 3) (pc' := 185) (lv' := [(0, .int x0), (1, .int x1), (2, .int x2)]) (st' := [.int (x1 &&& x2)]) (h' := hp M) rfl ?_
    subst h
    exact am_Y.ret rfl
  by_cases hc30 : x0 = (30 : Int32)
  · refine am_Y.one (pc' := 182) (lv' := [(0, .int x0), (1, .int x1), (2, .int x2)]) (st' := []) (h' := hp M) (am_swc hc30 rfl) ?_
    refine am_Y.run (k := 3) (pc' := 185) (lv' := [(0, .int x0), (1, .int x1), (2, .int x2)]) (st' := [.int (x1 &&& x2)]) (h' := hp M) rfl ?_
    subst h
    exact am_Y.ret rfl
  by_cases hc31 : x0 = (31 : Int32)
  · refine am_Y.one (pc' := 182) (lv' := [(0, .int x0), (1, .int x1), (2, .int x2)]) (st' := []) (h' := hp M) (am_swc hc31 rfl) ?_
    refine am_Y.run (k := 3) (pc' := 185) (lv' := [(0, .int x0), (1, .int x1), (2, .int x2)]) (st' := [.int (x1 &&& x2)]) (h' := hp M) rfl ?_
    subst h
    exact am_Y.ret rfl
  by_cases hc32 : x0 = (32 : Int32)
  · refine am_Y.one (pc' := 182) (lv' := [(0, .int x0), (1, .int x1), (2, .int x2)]) (st' := []) (h' := hp M) (am_swc hc32 rfl) ?_
    refine am_Y.run (k := 3) (pc' := 185) (lv' := [(0, .int x0), (1, .int x1), (2, .int x2)]) (st' := [.int (x1 &&& x2)]) (h' := hp M) rfl ?_
    subst h
    exact am_Y.ret rfl
  by_cases hc33 : x0 = (33 : Int32)
  · refine am_Y.one (pc' := 182) (lv' := [(0, .int x0), (1, .int x1), (2, .int x2)]) (st' := []) (h' := hp M) (am_swc hc33 rfl) ?_
    refine am_Y.run (k := 3) (pc' := 185) (lv' := [(0, .int x0), (1, .int x1), (2, .int x2)]) (st' := [.int (x1 &&& x2)]) (h' := hp M) rfl ?_
    subst h
    exact am_Y.ret rfl
  by_cases hc38 : x0 = (38 : Int32)
  · refine am_Y.one (pc' := 182) (lv' := [(0, .int x0), (1, .int x1), (2, .int x2)]) (st' := []) (h' := hp M) (am_swc hc38 rfl) ?_
    refine am_Y.run (k := 3) (pc' := 185) (lv' := [(0, .int x0), (1, .int x1), (2, .int x2)]) (st' := [.int (x1 &&& x2)]) (h' := hp M) rfl ?_
    subst h
    exact am_Y.ret rfl
  by_cases hc39 : x0 = (39 : Int32)
  · refine am_Y.one (pc' := 182) (lv' := [(0, .int x0), (1, .int x1), (2, .int x2)]) (st' := []) (h' := hp M) (am_swc hc39 rfl) ?_
    refine am_Y.run (k := 3) (pc' := 185) (lv' := [(0, .int x0), (1, .int x1), (2, .int x2)]) (st' := [.int (x1 &&& x2)]) (h' := hp M) rfl ?_
    subst h
    exact am_Y.ret rfl
  by_cases hc40 : x0 = (40 : Int32)
  · refine am_Y.one (pc' := 182) (lv' := [(0, .int x0), (1, .int x1), (2, .int x2)]) (st' := []) (h' := hp M) (am_swc hc40 rfl) ?_
    refine am_Y.run (k := 3) (pc' := 185) (lv' := [(0, .int x0), (1, .int x1), (2, .int x2)]) (st' := [.int (x1 &&& x2)]) (h' := hp M) rfl ?_
    subst h
    exact am_Y.ret rfl
  by_cases hc41 : x0 = (41 : Int32)
  · refine am_Y.one (pc' := 182) (lv' := [(0, .int x0), (1, .int x1), (2, .int x2)]) (st' := []) (h' := hp M) (am_swc hc41 rfl) ?_
    refine am_Y.run (k := 3) (pc' := 185) (lv' := [(0, .int x0), (1, .int x1), (2, .int x2)]) (st' := [.int (x1 &&& x2)]) (h' := hp M) rfl ?_
    subst h
    exact am_Y.ret rfl
  by_cases hc42 : x0 = (42 : Int32)
  · refine am_Y.one (pc' := 182) (lv' := [(0, .int x0), (1, .int x1), (2, .int x2)]) (st' := []) (h' := hp M) (am_swc hc42 rfl) ?_
    refine am_Y.run (k := 3) (pc' := 185) (lv' := [(0, .int x0), (1, .int x1), (2, .int x2)]) (st' := [.int (x1 &&& x2)]) (h' := hp M) rfl ?_
    subst h
    exact am_Y.ret rfl
  by_cases hc43 : x0 = (43 : Int32)
  · refine am_Y.one (pc' := 182) (lv' := [(0, .int x0), (1, .int x1), (2, .int x2)]) (st' := []) (h' := hp M) (am_swc hc43 rfl) ?_
    refine am_Y.run (k := 3) (pc' := 185) (lv' := [(0, .int x0), (1, .int x1), (2, .int x2)]) (st' := [.int (x1 &&& x2)]) (h' := hp M) rfl ?_
    subst h
    exact am_Y.ret rfl
  by_cases hc44 : x0 = (44 : Int32)
  · refine am_Y.one (pc' := 182) (lv' := [(0, .int x0), (1, .int x1), (2, .int x2)]) (st' := []) (h' := hp M) (am_swc hc44 rfl) ?_
    refine am_Y.run (k := 3) (pc' := 185) (lv' := [(0, .int x0), (1, .int x1), (2, .int x2)]) (st' := [.int (x1 &&& x2)]) (h' := hp M) rfl ?_
    subst h
    exact am_Y.ret rfl
  by_cases hc45 : x0 = (45 : Int32)
  · refine am_Y.one (pc' := 182) (lv' := [(0, .int x0), (1, .int x1), (2, .int x2)]) (st' := []) (h' := hp M) (am_swc hc45 rfl) ?_
    refine am_Y.run (k := 3) (pc' := 185) (lv' := [(0, .int x0), (1, .int x1), (2, .int x2)]) (st' := [.int (x1 &&& x2)]) (h' := hp M) rfl ?_
    subst h
    exact am_Y.ret rfl
  refine am_Y.one (pc' := 182) (lv' := [(0, .int x0), (1, .int x1), (2, .int x2)]) (st' := []) (h' := hp M) (am_swd (x := x0) rfl (by have := am_neT (24) hc24 (by decide); have := am_neT (34) hc34 (by decide); have := am_neT (35) hc35 (by decide); have := am_neT (36) hc36 (by decide); have := am_neT (37) hc37 (by decide); have := am_neT (46) hc46 (by decide); have := am_neT (47) hc47 (by decide); have := am_neT (25) hc25 (by decide); have := am_neT (26) hc26 (by decide); have := am_neT (27) hc27 (by decide); have := am_neT (28) hc28 (by decide); have := am_neT (29) hc29 (by decide); have := am_neT (30) hc30 (by decide); have := am_neT (31) hc31 (by decide); have := am_neT (32) hc32 (by decide); have := am_neT (33) hc33 (by decide); have := am_neT (38) hc38 (by decide); have := am_neT (39) hc39 (by decide); have := am_neT (40) hc40 (by decide); have := am_neT (41) hc41 (by decide); have := am_neT (42) hc42 (by decide); have := am_neT (43) hc43 (by decide); have := am_neT (44) hc44 (by decide); have := am_neT (45) hc45 (by decide); omega) rfl) ?_
  refine am_Y.run (k := 3) (pc' := 185) (lv' := [(0, .int x0), (1, .int x1), (2, .int x2)]) (st' := [.int (x1 &&& x2)]) (h' := hp M) rfl ?_
  subst h
  exact am_Y.ret rfl
